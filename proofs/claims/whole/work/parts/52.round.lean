-- where one is: both sides
theorem lt8 {n : Nat} (h : n < 2 ^ 8) : n < 2 ^ 31 := by omega
theorem bit_f : ∀ lv, lv < 64 → ∀ k, k < 6 → ((nI lv >>> (nI k &&& 31)) &&& 1) = nI (lv / 2 ^ k % 2) := by decide +kernel
theorem nI_eq1 {a : Nat} (h : a < 2) : nI a = 1 ↔ a = 1 := by
  have e : (1 : Int32) = nI 1 := by decide
  rw [e]; exact nI_eq (by omega) (by omega)
theorem lv64 {r : NS} (h : WF r) : r.1 5 < 64 := by
  obtain ⟨h3, h6, -, -, -, h, -⟩ := h
  have := Nat.pow_le_pow_right (n := 2) (by omega) h6
  omega
theorem lives_nI {r : NS} (h : WF r) {k : Nat} (hk : k < r.1 0) : F_X2_lives (NI r) (nI k) = if r.1 5 / 2 ^ k % 2 = 1 then 1 else 0 := by
  have h6 := h.2.1
  unfold F_X2_lives
  rw [NI_1, NI_1, if_neg (nI_pos (by omega)), if_neg (nI_ge hk (by omega)), bit_f _ (lv64 h) k (by omega)]
  simp only [nI_eq1 (Nat.mod_lt _ (by omega : 0 < 2))]
theorem lives_0 {r : NS} (h : WF r) {k : Nat} (hk : k < r.1 0) : F_X2_lives (NI r) (nI k) = 0 ↔ ¬ r.1 5 / 2 ^ k % 2 = 1 := by
  rw [lives_nI h hk]
  by_cases h1 : r.1 5 / 2 ^ k % 2 = 1
  · rw [if_pos h1]; exact ⟨fun h => absurd h (by decide), fun h => absurd h1 h⟩
  · rw [if_neg h1]; exact ⟨fun _ => h1, fun _ => rfl⟩
theorem left_nI {a b : Nat} (ha : a < 2 ^ 31) (h0 : 0 < b) (hb : b < 2 ^ 31) : F_X6_leftOver (nI a) (nI b) = nI (a % b) := by
  have hm := Nat.mod_lt a h0
  unfold F_X6_leftOver
  have h1 : (0 : Int32) < nI b := by rw [← nI_0]; exact nI_lt h0 hb
  rw [if_pos h1, pk_rem ha h0 hb, if_pos (nI_pos' (by omega))]
theorem cut_nI {a b : Nat} (ha : a < 2 ^ 31) (h0 : 0 < b) (hb : b < 2 ^ 31) : F_X6_cut (nI a) (nI b) = nI (a / b) := by
  unfold F_X6_cut
  rw [if_neg (nI_nle h0 hb), pk_div ha h0 hb]
theorem i1 : (1 : Int32) = nI 1 := by decide
theorem i2 : (2 : Int32) = nI 2 := by decide
def stp (b e : Nat) : Nat := if b = 1 then e - 1 else if b = 2 then 0 else e
/-- the land of a child behind e equinoxes -/
def landN (r : NS) (k e : Nat) : Nat := (k + 1 + (r.2 7 k + stp (r.2 9 k) e) % (r.1 0 - 1)) % r.1 0
def landE (r : NS) (k e : Nat) : Int32 := if r.1 5 / 2 ^ k % 2 = 1 then nI (landN r k e) else (-6)
theorem landN_lt {r : NS} (h : WF r) (k e : Nat) : landN r k e < r.1 0 := Nat.mod_lt _ (by have := h.1; omega)
theorem jmax_pred (e : Nat) (he : e < 2 ^ 30) : jmax 0 (nI e - 1) = nI (e - 1) := by
  unfold jmax
  cases e with
  | zero => decide
  | succ e =>
    rw [nI_pred]
    by_cases h : (0 : Int32) < nI e
    · rw [if_pos h]; rfl
    · rw [if_neg h]
      have h1 : e = 0 := by
        rcases Nat.eq_zero_or_pos e with h2 | h2
        · exact h2
        · exact absurd (by rw [← nI_0]; exact nI_lt h2 (by omega)) h
      subst h1; exact nI_0.symm
theorem getR (r : NS) (j : Nat) {k n : Nat} (hk : k < n) (hn : n < 2 ^ 31) : F_X3_get n ((NI r).2 j) (nI k) = nI (r.2 j k) := get_nI _ hk hn
theorem landAfter_nI {r : NS} (h : WF r) {k e : Nat} (hk : k < r.1 0) (he : e < 2 ^ 30) : F_X2_landAfter (NI r) (nI k) (nI e) = landE r k e := by
  obtain ⟨h3, h6, -, -, -, -, -, hA, -⟩ := id h
  obtain ⟨hp, -, hb, -, -⟩ := hA k hk
  unfold F_X2_landAfter landE
  simp only [lives_0 h hk]
  by_cases hl : r.1 5 / 2 ^ k % 2 = 1
  · rw [if_neg (by simpa using hl), if_pos hl]
    rw [getR r 9 (by omega) (by omega), getR r 7 (by omega) (by omega), NI_1, i1, i2]
    have e1 : nI (r.1 0) - nI 1 = nI (r.1 0 - 1) := pk_sub (by omega)
    rw [e1]
    have key : ∀ g : Nat, g < 2 ^ 30 → F_X6_leftOver (nI k + nI 1 + F_X6_leftOver (nI (r.2 7 k) + nI g) (nI (r.1 0 - 1))) (nI (r.1 0)) = nI ((k + 1 + (r.2 7 k + g) % (r.1 0 - 1)) % r.1 0) := by
      intro g hg
      have hm := Nat.mod_lt (r.2 7 k + g) (show 0 < r.1 0 - 1 by omega)
      rw [nI_add, nI_add, left_nI (by omega) (by omega) (by omega), nI_add, left_nI (by omega) (by omega) (by omega)]
    unfold landN stp
    by_cases hb1 : r.2 9 k = 1
    · rw [if_pos (by rw [hb1]), if_pos hb1, ← i1, jmax_pred e he, i1, key _ (by omega)]
    · rw [if_neg (by rw [nI_eq (by omega) (by omega)]; exact hb1), if_neg hb1]
      by_cases hb2 : r.2 9 k = 2
      · rw [if_pos (by rw [hb2]), if_pos hb2, ← nI_0, key 0 (by omega)]
      · rw [if_neg (by rw [nI_eq (by omega) (by omega)]; exact hb2), if_neg hb2, key e he]
  · rw [if_pos hl, if_neg hl]
theorem off_f : ∀ n, n < 7 → 3 ≤ n → ∀ k, k < n → ∀ p, p < n - 1 → ((k + 1 + p) % n + n - k) % n = 1 + p := by decide
theorem landI_ge {r : NS} (h : WF r) (k : Nat) : (0 : Int32) ≤ landI r k ↔ r.1 5 / 2 ^ k % 2 = 1 := by
  have h3 := h.1
  have h6 := h.2.1
  unfold landI
  by_cases hl : r.1 5 / 2 ^ k % 2 = 1
  · rw [if_pos hl]
    exact ⟨fun _ => hl, fun _ => nI_pos' (by have := Nat.mod_lt (k + 1 + r.2 7 k) (show 0 < r.1 0 by omega); omega)⟩
  · rw [if_neg hl]
    exact ⟨fun h => absurd h (by decide), fun h => absurd h hl⟩
theorem vp6 {k : Nat} (h : k < 6) : vp_in (nI k) 6 := vp_in_nI h (by omega)
theorem whereB {r : NS} {M : St} (h : WF r) (hm : MR M r) {k e : Nat} (hk : k < r.1 0) (he : e < 2 ^ 30) {K : Int32 → Prop} (hK : K (landE r k e)) : wp_X7_whereBehind M (nI k) (nI e) K := by
  obtain ⟨h3, h6, -, -, -, -, -, hA, -⟩ := id h
  obtain ⟨hp, -, hb, -, -⟩ := hA k hk
  obtain ⟨m0, -, -, -, -, -, m5, -⟩ := hm
  obtain ⟨a5, -, a7, -, -⟩ := m5 k hk
  have v6 := vp6 (show k < 6 by omega)
  have hn0 : ¬ nI (r.1 0) = 0 := nI_ne0 (by omega) (by omega)
  have hn1 : ¬ nI (r.1 0 - 1) = 0 := nI_ne0 (by omega) (by omega)
  have e1 : nI (r.1 0) - 1 = nI (r.1 0 - 1) := by rw [i1]; exact pk_sub (by omega)
  unfold wp_X7_whereBehind
  rw [nI_clamp (show k < 2 ^ 31 by omega), m0, a5, a7, e1]
  simp only [landI_ge h k]
  refine ⟨v6, ?_⟩
  unfold landE at hK
  by_cases hl : r.1 5 / 2 ^ k % 2 = 1
  · rw [if_pos hl] at hK
    rw [if_pos hl]
    have eA : landI r k - nI k + nI (r.1 0) - (landI r k - nI k + nI (r.1 0)) / nI (r.1 0) * nI (r.1 0) = nI (1 + r.2 7 k) := by
      unfold landI
      rw [if_pos hl]
      have hm2 := Nat.mod_lt (k + 1 + r.2 7 k) (show 0 < r.1 0 by omega)
      have e2 : nI ((k + 1 + r.2 7 k) % r.1 0) - nI k + nI (r.1 0) = nI ((k + 1 + r.2 7 k) % r.1 0 + r.1 0 - k) := by
        rw [← pk_sub (by omega), ← nI_add]
        generalize nI ((k + 1 + r.2 7 k) % r.1 0) = A
        generalize nI k = B
        generalize nI (r.1 0) = C
        apply Int32.toBitVec_inj.mp
        simp only [Int32.toBitVec_add, Int32.toBitVec_sub]
        bv_omega
      rw [e2, pk_rem (by omega) (by omega) (by omega), off_f _ (by omega) h3 k hk _ hp]
    have eB : nI (1 + r.2 7 k) - 1 = nI (r.2 7 k) := by rw [Nat.add_comm]; exact nI_pred _
    rw [eA, eB]
    have key : ∀ g : Nat, g < 2 ^ 30 → nI k + 1 + (nI (r.2 7 k) + nI g - (nI (r.2 7 k) + nI g) / nI (r.1 0 - 1) * nI (r.1 0 - 1)) - (nI k + 1 + (nI (r.2 7 k) + nI g - (nI (r.2 7 k) + nI g) / nI (r.1 0 - 1) * nI (r.1 0 - 1))) / nI (r.1 0) * nI (r.1 0) = nI ((k + 1 + (r.2 7 k + g) % (r.1 0 - 1)) % r.1 0) := by
      intro g hg
      have hm2 := Nat.mod_lt (r.2 7 k + g) (show 0 < r.1 0 - 1 by omega)
      rw [nI_add, pk_rem (by omega) (by omega) (by omega), nI_1, nI_add, pk_rem (by omega) (by omega) (by omega)]
    unfold landN stp at hK
    refine ⟨v6, ?_⟩
    by_cases hb2 : r.2 9 k = 2
    · rw [if_pos (by rw [hb2, i2])]
      rw [if_neg (by omega), if_pos hb2] at hK
      refine ⟨v6, hn0, hn1, hn0, ?_⟩
      rw [← nI_0, key 0 (by omega)]
      exact hK
    · rw [if_neg (by rw [i2, nI_eq (by omega) (by omega)]; exact hb2)]
      refine ⟨v6, ?_⟩
      by_cases hb1 : r.2 9 k = 1
      · rw [if_pos (by rw [hb1, i1])]
        rw [if_pos hb1] at hK
        by_cases he0 : e = 0
        · subst he0
          rw [if_pos (by decide)]
          refine ⟨v6, hn0, hn1, hn0, ?_⟩
          rw [key 0 (by omega)]
          exact hK
        · rw [if_neg (nI_nle (by omega) (by omega))]
          refine ⟨v6, hn0, hn1, hn0, ?_⟩
          have e5 : nI e - 1 = nI (e - 1) := by rw [i1]; exact pk_sub (by omega)
          rw [e5, key (e - 1) (by omega)]
          exact hK
      · rw [if_neg (by rw [i1, nI_eq (by omega) (by omega)]; exact hb1)]
        rw [if_neg hb1, if_neg hb2] at hK
        refine ⟨v6, hn0, hn1, hn0, ?_⟩
        rw [key e he]
        exact hK
  · rw [if_neg hl] at hK
    rw [if_neg hl]
    exact hK
