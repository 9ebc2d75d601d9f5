-- furs, copy
def fuN (r : NS) (e : Nat) : Nat → Nat
  | 0 => 0
  | k + 1 => fuN r e k + (if r.1 5 / 2 ^ k % 2 = 1 then r.2 12 (landN r k e) else 0)
theorem fu_le {r : NS} (hw : WF r) (e : Nat) : ∀ k, fuN r e k ≤ k * 9 := by
  intro k
  induction k with
  | zero => exact Nat.le_refl _
  | succ k ih =>
    show fuN r e k + _ ≤ _
    have := (hw.2.2.2.2.2.2.2.1 _ (landN_lt hw k e)).2.2.2.2
    split <;> omega
theorem furX_lp {r : NS} (hw : WF r) {e : Nat} (he : e < 2 ^ 30) {kx : Int32 → Prop} (h : kx (nI (fuN r e (r.1 0)))) : ∀ (n i : Nat), i + n = r.1 0 → wl_X2_fursAfter_4 (NI r) (nI e) kx (n + 1) (nI (fuN r e i)) (nI i) := by
  have h6 := hw.2.1
  intro n
  induction n with
  | zero =>
    intro i hi
    unfold wl_X2_fursAfter_4
    rw [NI_1, if_pos (nI_le (by omega) (by omega)), show i = r.1 0 by omega]
    exact h
  | succ n ih =>
    intro i hi
    have hn := ih (i + 1) (by omega)
    unfold wl_X2_fursAfter_4
    rw [NI_1, if_neg (nle (by omega) (by omega)), nI_1]
    have e1 : fuN r e (i + 1) = fuN r e i + (if r.1 5 / 2 ^ i % 2 = 1 then r.2 12 (landN r i e) else 0) := rfl
    by_cases hl : r.1 5 / 2 ^ i % 2 = 1
    · rw [if_neg (fun h => (lives_0 hw (by omega)).mp h hl), landAfter_nI hw (by omega) he]
      have : landE r i e = nI (landN r i e) := by unfold landE; rw [if_pos hl]
      have hlt := landN_lt hw i e
      rw [this, getR r 12 (by omega) (by omega), nI_add]
      rw [e1, if_pos hl] at hn
      exact hn
    · rw [if_pos ((lives_0 hw (by omega)).mpr hl)]
      rw [e1, if_neg hl, Nat.add_zero] at hn
      exact hn
theorem furX_ok {r : NS} (hw : WF r) {e : Nat} (he : e < 2 ^ 30) {K : Int32 → Prop} (h : K (nI (fuN r e (r.1 0)))) : wp_X2_fursAfter (NI r) (nI e) K := by
  refine ⟨r.1 0 + 1, ?_⟩
  exact furX_lp hw he (kx := fun v => K v) h (r.1 0) 0 (by omega)
theorem furM_lp {r : NS} {M : St} (hw : WF r) (hm : MR M r) {e : Nat} (he : e < 2 ^ 30) {kx : Int32 → Prop} (h : kx (nI (fuN r e (r.1 0)))) : ∀ (n i : Nat), i + n = r.1 0 → wl_X7_furs_42 M (nI e) kx (n + 1) (nI (fuN r e i)) (nI i) := by
  have h6 := hw.2.1
  have m0 := hm.1
  intro n
  induction n with
  | zero =>
    intro i hi
    unfold wl_X7_furs_42
    rw [m0, if_pos (nI_le (by omega) (by omega)), show i = r.1 0 by omega]
    exact h
  | succ n ih =>
    intro i hi
    have hn := ih (i + 1) (by omega)
    unfold wl_X7_furs_42
    rw [m0, if_neg (nle (by omega) (by omega)), nI_1, nI_clamp (show i < 2 ^ 31 by omega), (hm.2.2.2.2.2.2.1 i (by omega)).1]
    have e1 : fuN r e (i + 1) = fuN r e i + (if r.1 5 / 2 ^ i % 2 = 1 then r.2 12 (landN r i e) else 0) := rfl
    refine ⟨vp6 (by omega), ?_⟩
    by_cases hl : r.1 5 / 2 ^ i % 2 = 1
    · rw [if_pos ((landI_ge hw i).mpr hl)]
      have hlt := landN_lt hw i e
      have : landE r i e = nI (landN r i e) := by unfold landE; rw [if_pos hl]
      refine whereB hw hm (by omega) he ?_
      rw [this, nI_clamp (by omega), (hm.2.2.2.2.2.2.1 _ hlt).2.2.2.1, nI_add]
      rw [e1, if_pos hl] at hn
      exact ⟨vp6 (by omega), hn⟩
    · rw [if_neg (fun h => hl ((landI_ge hw i).mp h))]
      rw [e1, if_neg hl] at hn
      rw [← nI_0, nI_add]
      exact hn
/-- the most, and where first -/
def mxN (r : NS) : Nat → Nat × Nat
  | 0 => (0, 0)
  | i + 1 => if fuN r i (r.1 0) ≤ (mxN r i).1 then mxN r i else (fuN r i (r.1 0), i)
theorem mx_le {r : NS} (hw : WF r) : ∀ i, (mxN r i).1 ≤ 54 ∧ (mxN r i).2 ≤ i := by
  intro i
  induction i with
  | zero => exact ⟨Nat.zero_le _, Nat.le_refl _⟩
  | succ i ih =>
    show (if fuN r i (r.1 0) ≤ (mxN r i).1 then mxN r i else (fuN r i (r.1 0), i)).1 ≤ 54 ∧ (if fuN r i (r.1 0) ≤ (mxN r i).1 then mxN r i else (fuN r i (r.1 0), i)).2 ≤ i + 1
    have := fu_le hw i (r.1 0)
    have h6 := hw.2.1
    split
    · omega
    · show fuN r i (r.1 0) ≤ 54 ∧ i ≤ i + 1
      omega
theorem mxX_lp {r : NS} (hw : WF r) {m : Nat} (hm24 : m ≤ 24) {kx : Int32 → Int32 → Prop} (h : kx (nI (mxN r m).1) (nI (mxN r m).2)) : ∀ (n i : Nat), i + n = m → wl_X6_furs_30 (NI r) (nI m) kx (n + 1) (nI (mxN r i).1) (nI (mxN r i).2) (nI i) := by
  have h6 := hw.2.1
  intro n
  induction n with
  | zero =>
    intro i hi
    unfold wl_X6_furs_30
    rw [if_pos (nI_le (by omega) (by omega)), show i = m by omega]
    exact h
  | succ n ih =>
    intro i hi
    have hn := ih (i + 1) (by omega)
    have hb := mx_le hw i
    have hf := fu_le hw i (r.1 0)
    unfold wl_X6_furs_30
    rw [if_neg (nle (by omega) (by omega)), nI_1]
    refine furX_ok hw (by omega) ?_
    have e1 : mxN r (i + 1) = if fuN r i (r.1 0) ≤ (mxN r i).1 then mxN r i else (fuN r i (r.1 0), i) := rfl
    by_cases hc : fuN r i (r.1 0) ≤ (mxN r i).1
    · rw [if_pos (nI_le hc (by omega))]
      rw [e1, if_pos hc] at hn
      exact hn
    · rw [if_neg (nle (by omega) (by omega))]
      rw [e1, if_neg hc] at hn
      exact hn
theorem mxM_lp {r : NS} {M : St} (hw : WF r) (hm : MR M r) {m : Nat} (hm24 : m ≤ 24) {kx : Int32 → Int32 → Prop} (h : kx (nI (mxN r m).1) (nI (mxN r m).2)) : ∀ (n i : Nat), i + n = m → 1 ≤ i → wl_X7_furs_30 M (nI m) kx (n + 1) (nI (mxN r i).1) (nI (mxN r i).2) (nI i) := by
  have h6 := hw.2.1
  intro n
  induction n with
  | zero =>
    intro i hi _
    unfold wl_X7_furs_30
    rw [if_pos (nI_le (by omega) (by omega)), show i = m by omega]
    exact h
  | succ n ih =>
    intro i hi h1
    have hn := ih (i + 1) (by omega) (by omega)
    have hb := mx_le hw i
    have hf := fu_le hw i (r.1 0)
    unfold wl_X7_furs_30
    rw [if_neg (nle (by omega) (by omega)), nI_1]
    refine ⟨r.1 0 + 1, ?_⟩
    have key := furM_lp hw hm (e := i) (by omega) (kx := fun v7 => if v7 ≤ nI (mxN r i).1 then wl_X7_furs_30 M (nI m) kx (n + 1) (nI (mxN r i).1) (nI (mxN r i).2) (nI (i + 1)) else wl_X7_furs_30 M (nI m) kx (n + 1) v7 (nI i) (nI (i + 1))) ?_ (r.1 0) 0 (by omega)
    · exact key
    · have e1 : mxN r (i + 1) = if fuN r i (r.1 0) ≤ (mxN r i).1 then mxN r i else (fuN r i (r.1 0), i) := rfl
      by_cases hc : fuN r i (r.1 0) ≤ (mxN r i).1
      · rw [if_pos (nI_le hc (by omega))]
        rw [e1, if_pos hc] at hn
        exact hn
      · rw [if_neg (nle (by omega) (by omega))]
        rw [e1, if_neg hc] at hn
        exact hn
theorem sim_furs : Sim_furs Inv := by
  intro X0 X1 X2 X3 X4 X5 X6 X7 X8 M a0 a1 hI
  obtain ⟨⟨r, rfl, hw, hm⟩, hi1, hi2, hp⟩ := id hI
  have h6 := hw.2.1
  unfold wp_X6_furs wp_X7_furs
  by_cases h1 : F_X7_in a0 1 24 = 0
  · rw [if_pos (show F_X6_within a0 1 24 = 0 from h1)]
    simp only [if_pos h1]
    exact ⟨by trivial, hI⟩
  · rw [if_neg (show ¬ F_X6_within a0 1 24 = 0 from h1)]
    simp only [if_neg h1]
    by_cases h2 : F_X7_in a1 0 1 = 0
    · rw [if_pos (show F_X6_within a1 0 1 = 0 from h2)]
      simp only [if_pos h2]
      exact ⟨by trivial, hI⟩
    · rw [if_neg (show ¬ F_X6_within a1 0 1 = 0 from h2)]
      simp only [if_neg h2]
      obtain ⟨m, hm1, hm24, rfl⟩ := inN (a := 1) (b := 24) h1 (by decide) (by decide) (by omega) (by omega)
      refine ⟨m + 1, ?_⟩
      have key := mxX_lp hw hm24 (kx := fun v6 v7 => if a1 = 0 then (∃ M14, wl_X7_furs_30 M (nI m) (fun v11 v12 => if a1 = 0 then v6 = v11 ∧ Inv (NI r) X1 X2 X3 X4 X5 X6 X7 X8 M else v6 = v12 ∧ Inv (NI r) X1 X2 X3 X4 X5 X6 X7 X8 M) M14 (-1) 0 0) else (∃ M14, wl_X7_furs_30 M (nI m) (fun v11 v12 => if a1 = 0 then v7 = v11 ∧ Inv (NI r) X1 X2 X3 X4 X5 X6 X7 X8 M else v7 = v12 ∧ Inv (NI r) X1 X2 X3 X4 X5 X6 X7 X8 M) M14 (-1) 0 0)) ?_ m 0 (by omega)
      · exact key
      · have go : ∀ kx : Int32 → Int32 → Prop, kx (nI (mxN r m).1) (nI (mxN r m).2) → ∃ M14, wl_X7_furs_30 M (nI m) kx M14 (-1) 0 0 := by
          intro kx hk
          refine ⟨m - 1 + 1 + 1, ?_⟩
          unfold wl_X7_furs_30
          rw [← nI_0, if_neg (nle (by omega) (by omega)), nI_1]
          refine ⟨r.1 0 + 1, ?_⟩
          have hf := fu_le hw 0 (r.1 0)
          have hn := mxM_lp hw hm hm24 hk (m - 1) 1 (by omega) (Nat.le_refl _)
          have e1 : mxN r 1 = (fuN r 0 (r.1 0), 0) := by
            show (if fuN r 0 (r.1 0) ≤ 0 then (0, 0) else (fuN r 0 (r.1 0), 0)) = _
            split
            · rw [show fuN r 0 (r.1 0) = 0 by omega]
            · rfl
          rw [e1] at hn
          have key := furM_lp hw hm (e := 0) (by omega) (kx := fun v7 => if v7 ≤ (-1) then wl_X7_furs_30 M (nI m) kx (m - 1 + 1) (-1) (nI 0) (nI (0 + 1)) else wl_X7_furs_30 M (nI m) kx (m - 1 + 1) v7 (nI 0) (nI (0 + 1))) ?_ (r.1 0) 0 (by omega)
          · exact key
          · rw [if_neg (fun h => absurd (Int32.le_trans (nI_pos' (by omega) : (0 : Int32) ≤ nI (fuN r 0 (r.1 0))) h) (by decide))]
            exact hn
        by_cases hz : a1 = 0
        · rw [if_pos hz]
          refine go _ ?_
          rw [if_pos hz]
          exact ⟨rfl, hI⟩
        · rw [if_neg hz]
          refine go _ ?_
          rw [if_neg hz]
          exact ⟨rfl, hI⟩
/-! copy -/
theorem cp_left : ∀ n, n < 7 → 3 ≤ n → ∀ k, k < n → ∀ e, e < 31 → F_X6_leftOver (nI k - nI e) (nI n) = nI ((k + n * 9999 - e) % n) := by decide +kernel
def coB (r : NS) (k e : Nat) : Bool := isAt r ((k + r.1 0 * 9999 - e) % r.1 0) k e
theorem landN_perm {r : NS} (hw : WF r) (k : Nat) {e : Nat} (he : 1 ≤ e) : ∀ m, landN r k (e + m * (r.1 0 - 1)) = landN r k e := by
  intro m
  induction m with
  | zero => rw [Nat.zero_mul, Nat.add_zero]
  | succ m ih => rw [Nat.add_mul, Nat.one_mul, ← Nat.add_assoc, landN_per hw k (by omega), ih]
theorem co_per {r : NS} (hw : WF r) (k : Nat) {e : Nat} (he : 1 ≤ e) (hb : e ≤ 20000) : coB r k (e + r.1 0 * (r.1 0 - 1)) = coB r k e := by
  have h3 := hw.1
  have h6 := hw.2.1
  have hp : r.1 0 * (r.1 0 - 1) ≤ 6 * 5 := Nat.mul_le_mul h6 (by omega)
  have e1 : (k + r.1 0 * 9999 - (e + r.1 0 * (r.1 0 - 1))) % r.1 0 = (k + r.1 0 * 9999 - e) % r.1 0 := by
    have e2 : k + r.1 0 * 9999 - e = (k + r.1 0 * 9999 - (e + r.1 0 * (r.1 0 - 1))) + r.1 0 * (r.1 0 - 1) := by omega
    rw [e2, Nat.add_mul_mod_self_left]
  unfold coB isAt
  rw [e1, landN_perm hw k he]
def gcB (r : NS) (k e : Nat) : Bool := decide (fdN r e ≤ 9999) && coB r k e
theorem fd_big {r : NS} (hw : WF r) {e : Nat} (h : fdN r e ≤ 9999) : e ≤ 10097 := by
  obtain ⟨w0, w1, w2, w3, w4, -⟩ := hw
  have : e * 1 ≤ e * r.1 1 := Nat.mul_le_mul_left _ w2
  unfold fdN at h
  omega
theorem gc_per {r : NS} (hw : WF r) (k : Nat) {e : Nat} (he : 1 ≤ e) (h : gcB r k (e + r.1 0 * (r.1 0 - 1)) = true) : gcB r k e = true := by
  unfold gcB at h ⊢
  simp only [Bool.and_eq_true, decide_eq_true_eq] at h ⊢
  have h1 := fd_big hw h.1
  refine ⟨Nat.le_trans (fd_mono (by omega)) h.1, ?_⟩
  rw [← co_per hw k he (by omega)]
  exact h.2
theorem gc_find {r : NS} (hw : WF r) (k D : Nat) (hD : r.1 0 * (r.1 0 - 1) ≤ D) : findP (gcB r k) D 1 = findP (gcB r k) (r.1 0 * (r.1 0 - 1)) 1 := by
  have h3 := hw.1
  have hp0 : 0 < r.1 0 * (r.1 0 - 1) := Nat.mul_pos (by omega) (by omega)
  cases h : findP (gcB r k) (r.1 0 * (r.1 0 - 1)) 1 with
  | some e =>
    obtain ⟨a, b, c, f⟩ := findP_some h
    exact findP_eq a (by omega) c f
  | none =>
    have hn := findP_none h
    refine findP_eq0 (fun j h1 _ => ?_)
    revert h1
    induction j using Nat.strongRecOn with
    | _ j ih =>
      intro h1 hj
      by_cases hlt : j < 1 + r.1 0 * (r.1 0 - 1)
      · exact hn j h1 hlt hj
      · refine ih (j - r.1 0 * (r.1 0 - 1)) (by omega) (by omega) (by omega) (gc_per hw k (by omega) ?_)
        rw [show j - r.1 0 * (r.1 0 - 1) + r.1 0 * (r.1 0 - 1) = j by omega]
        exact hj
theorem copX_lp {r : NS} (hw : WF r) {k : Nat} (hk : k < r.1 0) {kx : Prop} {K : Int32 → Prop} : ∀ (n i : Nat), i + n = 1 + r.1 0 * (r.1 0 - 1) → 1 ≤ i → (∀ e, findP (gcB r k) n i = some e → K (nI (fdN r e))) → (findP (gcB r k) n i = none → kx) → wl_X6_copy_33 (NI r) (nI k) (nI (r.1 0 * (r.1 0 - 1))) kx K (n + 1) (nI i) := by
  have h3 := hw.1
  have h6 := hw.2.1
  have hp : r.1 0 * (r.1 0 - 1) ≤ 6 * 5 := Nat.mul_le_mul h6 (by omega)
  have e9 : (9999 : Int32) = nI 9999 := by decide
  intro n
  induction n with
  | zero =>
    intro i hi _ _ h2
    unfold wl_X6_copy_33
    rw [if_pos (nI_lt (by omega) (by omega))]
    exact h2 rfl
  | succ n ih =>
    intro i hi hi1 h1 h2
    have hfd : fdN r i < 2 ^ 20 := by
      have h7 : i * r.1 1 ≤ 31 * 99 := Nat.mul_le_mul (by omega) hw.2.2.2.1
      unfold fdN; omega
    have hm := Nat.mod_lt (k + r.1 0 * 9999 - i) (show 0 < r.1 0 by omega)
    unfold wl_X6_copy_33
    rw [if_neg (nI_nlt (by omega) (by omega)), fd_nI hw (by omega), e9, NI_1, cp_left _ (by omega) h3 k hk i (by omega), landAfter_nI hw hk (by omega), nI_1]
    unfold findP at h1 h2
    by_cases hb : 9999 < fdN r i
    · have hg : ¬ gcB r k i = true := by unfold gcB; simp; intro h; omega
      rw [if_neg hg] at h1 h2
      rw [if_pos (nI_lt hb (by omega))]
      exact ih (i + 1) (by omega) (by omega) h1 h2
    · rw [if_neg (nI_nlt (by omega) (by omega))]
      have hq : fdN r i ≤ 9999 := by omega
      by_cases ht : coB r k i = true
      · have hg : gcB r k i = true := by
          unfold gcB; simp only [Bool.and_eq_true, decide_eq_true_eq]; exact ⟨hq, ht⟩
        rw [if_pos ((landE_at hw hm).mpr ht)]
        exact h1 i (by rw [if_pos hg])
      · have hg : ¬ gcB r k i = true := by
          unfold gcB; simp only [Bool.and_eq_true, decide_eq_true_eq]; exact fun h => ht h.2
        rw [if_neg hg] at h1 h2
        rw [if_neg (fun h => ht ((landE_at hw hm).mp h))]
        exact ih (i + 1) (by omega) (by omega) h1 h2
theorem copM_lp {r : NS} {M : St} (hw : WF r) (hm : MR M r) {k : Nat} (hk : k < r.1 0) {kx : Prop} {K : Int32 → Prop} : ∀ (n i : Nat), i + n = 11000 → 1 ≤ i → (∀ e, findP (gcB r k) n i = some e → K (nI (fdN r e))) → (findP (gcB r k) n i = none → kx) → wl_X7_copy_12 M (nI k) kx K (n + 1) (nI i) := by
  have h3 := hw.1
  have h6 := hw.2.1
  have m0 := hm.1
  have e9 : (9999 : Int32) = nI 9999 := by decide
  intro n
  induction n with
  | zero =>
    intro i hi _ _ h2
    have hb : 9999 < fdN r i := Nat.lt_of_not_le (fun h => absurd (fd_big hw h) (by omega))
    have hfd : fdN r i < 2 ^ 30 := by
      have h7 : i * r.1 1 ≤ 11000 * 99 := Nat.mul_le_mul (by omega) hw.2.2.2.1
      unfold fdN; omega
    unfold wl_X7_copy_12
    rw [fdM_nI hw hm (by omega), e9, if_pos (nI_lt hb (by omega))]
    exact h2 rfl
  | succ n ih =>
    intro i hi hi1 h1 h2
    have hfd : fdN r i < 2 ^ 30 := by
      have h7 : i * r.1 1 ≤ 11000 * 99 := Nat.mul_le_mul (by omega) hw.2.2.2.1
      unfold fdN; omega
    unfold wl_X7_copy_12
    rw [fdM_nI hw hm (by omega), e9, nI_1]
    by_cases hb : 9999 < fdN r i
    · rw [if_pos (nI_lt hb (by omega))]
      refine h2 (findP_eq0 (fun j hj _ => ?_))
      have := fd_mono (r := r) hj
      unfold gcB; simp; intro h; omega
    · have hq : fdN r i ≤ 9999 := by omega
      have hib := fd_big hw hq
      rw [if_neg (nI_nlt (by omega) (by omega)), nI_clamp (by omega), (hm.2.2.2.2.2.2.1 k hk).1]
      refine ⟨vp6 (by omega), ?_⟩
      unfold findP at h1 h2
      have hmd := Nat.mod_lt (k + r.1 0 * 9999 - i) (show 0 < r.1 0 by omega)
      by_cases hl : r.1 5 / 2 ^ k % 2 = 1
      · rw [if_neg (fun h => (landI_lt hw k).mp h hl)]
        refine whereB hw hm hk (by omega) ⟨by rw [m0]; exact nI_ne0 (by omega) (by omega), ?_⟩
        have ex : nI k + M.1 0 * nI 9999 - nI i - (nI k + M.1 0 * nI 9999 - nI i) / M.1 0 * M.1 0 = nI ((k + r.1 0 * 9999 - i) % r.1 0) := by
          rw [m0, pk_mul, nI_add, pk_sub (by omega), pk_rem (by omega) (by omega) (by omega)]
        rw [ex]
        by_cases ht : coB r k i = true
        · have hg : gcB r k i = true := by
            unfold gcB; simp only [Bool.and_eq_true, decide_eq_true_eq]; exact ⟨hq, ht⟩
          rw [if_pos ((landE_at hw hmd).mpr ht)]
          exact h1 i (by rw [if_pos hg])
        · have hg : ¬ gcB r k i = true := by
            unfold gcB; simp only [Bool.and_eq_true, decide_eq_true_eq]; exact fun h => ht h.2
          rw [if_neg hg] at h1 h2
          rw [if_neg (fun h => ht ((landE_at hw hmd).mp h))]
          exact ih (i + 1) (by omega) (by omega) h1 h2
      · have hg : ¬ gcB r k i = true := by
          unfold gcB coB isAt; simp only [Bool.and_eq_true, decide_eq_true_eq]; exact fun h => hl h.2.1
        rw [if_neg hg] at h1 h2
        rw [if_pos ((landI_lt hw k).mpr hl)]
        exact ih (i + 1) (by omega) (by omega) h1 h2
theorem sim_copy : Sim_copy Inv := by
  intro X0 X1 X2 X3 X4 X5 X6 X7 X8 M a0 hI
  obtain ⟨⟨r, rfl, hw, hm⟩, hi1, hi2, hp⟩ := id hI
  obtain ⟨hh, hc⟩ := has_one hw hm a0
  have h3 := hw.1
  have h6 := hw.2.1
  have hpp : r.1 0 * (r.1 0 - 1) ≤ 6 * 5 := Nat.mul_le_mul h6 (by omega)
  unfold wp_X6_copy wp_X7_copy
  rcases hc with h | ⟨k, hk, rfl, h⟩
  · simp only [hh, if_pos h]
    exact ⟨trivial, hI⟩
  · have hne : ¬ F_X7_isOne M (nI k) = 0 := by rw [h]; decide
    simp only [hh, if_neg hne, NI_1]
    have e1 : nI (r.1 0) * (nI (r.1 0) - 1) = nI (r.1 0 * (r.1 0 - 1)) := by rw [i1, pk_sub (by omega), pk_mul]
    have hgf := gc_find hw k 10999 (by omega)
    rw [e1]
    refine ⟨r.1 0 * (r.1 0 - 1) + 1, ?_⟩
    have i1' : (1 : Int32) = nI 1 := i1
    have key := copX_lp hw hk (kx := ∃ M6, wl_X7_copy_12 M (nI k) (-6 = (-6 : Int32) ∧ Inv (NI r) X1 X2 X3 X4 X5 X6 X7 X8 M) (fun q => -6 = q ∧ Inv (NI r) X1 X2 X3 X4 X5 X6 X7 X8 M) M6 1) (K := fun r_1 => ∃ M6, wl_X7_copy_12 M (nI k) (r_1 = -6 ∧ Inv (NI r) X1 X2 X3 X4 X5 X6 X7 X8 M) (fun q => r_1 = q ∧ Inv (NI r) X1 X2 X3 X4 X5 X6 X7 X8 M) M6 1) (r.1 0 * (r.1 0 - 1)) 1 (by omega) (Nat.le_refl _) (fun e he => ?_) (fun he => ?_)
    · rw [← i1'] at key
      simpa using key
    · refine ⟨11000, ?_⟩
      have k2 := copM_lp hw hm hk (kx := nI (fdN r e) = -6 ∧ Inv (NI r) X1 X2 X3 X4 X5 X6 X7 X8 M) (K := fun q => nI (fdN r e) = q ∧ Inv (NI r) X1 X2 X3 X4 X5 X6 X7 X8 M) 10999 1 (by omega) (Nat.le_refl _) (fun e2 he2 => ?_) (fun he2 => ?_)
      · rw [← i1'] at k2; exact k2
      · rw [hgf, he] at he2; cases he2; exact ⟨rfl, hI⟩
      · rw [hgf, he] at he2; cases he2
    · refine ⟨11000, ?_⟩
      have k2 := copM_lp hw hm hk (kx := -6 = (-6 : Int32) ∧ Inv (NI r) X1 X2 X3 X4 X5 X6 X7 X8 M) (K := fun q => -6 = q ∧ Inv (NI r) X1 X2 X3 X4 X5 X6 X7 X8 M) 10999 1 (by omega) (Nat.le_refl _) (fun e2 he2 => ?_) (fun he2 => ?_)
      · rw [← i1'] at k2; exact k2
      · rw [hgf, he] at he2; cases he2
      · exact ⟨rfl, hI⟩
