-- the reference's years
theorem isChild_n {S : St} {n x : Nat} (h0 : S.1 0 = nI n) (hn : n < 7) (hx : x < 127) : F_X7_isChild S (nI x) = if chB n x = true then 1 else 0 := by
  unfold F_X7_isChild F_X7_isOne
  rw [h0]
  exact t_in _ hn x hx
theorem le0 {k : Nat} (h : k < 2 ^ 31) : (0 : Int32) ≤ nI k := Int32.not_lt.mp (nI_pos h)
theorem land_al {r : NS} (hw : WF r) {k : Nat} : (alB r k = true → ¬ landI r k < 0 ∧ 0 ≤ landI r k) ∧ (¬ alB r k = true → landI r k < 0 ∧ ¬ 0 ≤ landI r k) := by
  have h3 := hw.1
  have h6 := hw.2.1
  unfold alB landI
  rw [decide_eq_true_eq]
  refine ⟨fun h => ?_, fun h => ?_⟩
  · have hlt := Nat.mod_lt (k + 1 + r.2 7 k) (show 0 < r.1 0 by omega)
    rw [if_pos h]
    exact ⟨nI_pos (by omega), le0 (by omega)⟩
  · rw [if_neg h]
    exact ⟨by decide, by decide⟩
theorem whyM {M0 M : St} {r : NS} {a c : Nat} (hT : TR M0 M r a c) (hw : WF r) {k s : Nat} (hk : k < r.1 0) (hs : s < 127) (h3 : s = 100 ∨ s = 109 ∨ s = 115) {K : Int32 → Prop} (hK : K (nI (fate r k s).1)) : wp_X7_whyNot M (nI k) (nI s) K := by
  have h6 := hw.2.1
  obtain ⟨t1, t2, t3⟩ := t_s s hs
  obtain ⟨l1, l2⟩ := land_al hw (k := k)
  obtain ⟨g1, g2, g3, g4⟩ := hT.2.2.2.2.2.2 k hk
  have h9 : r.2 9 k ≤ 2 := (hw.2.2.2.2.2.2.2.1 k hk).2.2.1
  have v6 : vp_in (nI k) 6 := vp6 (by omega)
  unfold wp_X7_whyNot
  rw [clamp_nI (by omega), g1, g3]
  refine ⟨v6, ?_⟩
  have bF : ∀ b, ¬ s = 100 → (fate r k s).1 = (bindF r k b).1 → if 0 ≤ landI r k then (if nI s = 100 then K 0 else (vp_in (nI k) 6 ∧ (if nI (r.2 9 k) = 0 then K 0 else K 4))) else K 1 := by
    intro b h1 e
    rw [e] at hK
    unfold bindF at hK
    by_cases hl : alB r k = true
    · rw [if_pos hl] at hK
      rw [if_pos (l1 hl).2, if_neg (fun y => h1 (t1.1 y))]
      refine ⟨v6, ?_⟩
      by_cases h0 : r.2 9 k = 0
      · rw [if_pos h0] at hK
        rw [if_pos (by rw [h0, nI_0]), show (0 : Int32) = nI 0 from nI_0.symm]
        exact hK
      · rw [if_neg h0] at hK
        rw [if_neg (nI_ne0 (by omega) (by omega)), show (4 : Int32) = nI 4 by decide]
        exact hK
    · rw [if_neg hl] at hK
      rw [if_neg (l2 hl).2, i1]
      exact hK
  by_cases h1 : s = 100
  · unfold fate at hK
    rw [if_pos h1] at hK
    unfold dieF at hK
    by_cases hl : alB r k = true
    · rw [if_pos hl] at hK
      rw [if_pos (l1 hl).2, if_pos (t1.2 h1), show (0 : Int32) = nI 0 from nI_0.symm]
      exact hK
    · rw [if_neg hl] at hK
      rw [if_neg (l2 hl).2, i1]
      exact hK
  · by_cases h2 : s = 109
    · refine bF 2 h1 ?_
      unfold fate
      rw [if_neg h1, if_pos h2]
    · refine bF 1 h1 ?_
      unfold fate
      rw [if_neg h1, if_neg h2, if_pos (by omega)]
theorem whyHM {M0 M : St} {r : NS} {a c : Nat} (hT : TR M0 M r a c) (hw : WF r) {k j : Nat} (hk : k < r.1 0) (hj : j < r.1 0) {K : Int32 → Prop} (hK : K (nI (hatF r k j).1)) : wp_X7_whyNoHats M (nI k) (nI j) K := by
  obtain ⟨w0, w1, w2, w3, w4, -⟩ := id hw
  obtain ⟨l1, l2⟩ := land_al hw (k := k)
  obtain ⟨l3, l4⟩ := land_al hw (k := j)
  obtain ⟨g1, -⟩ := hT.2.2.2.2.2.2 k hk
  obtain ⟨g2, -⟩ := hT.2.2.2.2.2.2 j hj
  have h16 := hT.2.2.2.1
  unfold wp_X7_whyNoHats
  rw [clamp_nI (show k < 2 ^ 31 by omega), clamp_nI (show j < 2 ^ 31 by omega), g1, g2, h16]
  refine ⟨vp6 (by omega), ?_⟩
  unfold hatF at hK
  by_cases h : alB r k = true
  · rw [if_pos h] at hK
    rw [if_neg (l1 h).1]
    refine ⟨vp6 (by omega), ?_⟩
    by_cases h2 : alB r j = true
    · rw [if_pos h2] at hK
      rw [if_pos (l3 h2).2]
      by_cases hab : k = j
      · rw [if_pos hab] at hK
        rw [if_pos (by rw [hab]), i2]
        exact hK
      · rw [if_neg hab] at hK
        rw [if_neg (by rw [nI_eq (by omega) (by omega)]; exact hab)]
        by_cases h3 : r.1 3 = 0
        · rw [if_pos h3] at hK
          rw [if_pos (by rw [h3, nI_0]), show (0 : Int32) = nI 0 from nI_0.symm]
          exact hK
        · rw [if_neg h3] at hK
          rw [if_neg (nI_ne0 (by omega) (by omega)), show (3 : Int32) = nI 3 by decide]
          exact hK
    · rw [if_neg h2] at hK
      rw [if_neg (l4 h2).2, i1]
      exact hK
  · rw [if_neg h] at hK
    rw [if_pos (l2 h).1, i1]
    exact hK
theorem TR_f {M0 M : St} {r r' : NS} {a c a' c' : Nat} (h : TR M0 M r a c) {v w : Int32} {f g : Nat → Int32} (hI : ∀ j, j ≠ 5 → r'.1 j = r.1 j) (h8 : r'.2 8 = r.2 8) (h10 : r'.2 10 = r.2 10) (hv : v = nI c') (hww : w = nI a') (hf : ∀ k, k < r.1 0 → f k = landI r' k) (hg : ∀ k, k < r.1 0 → g k = nI (r'.2 9 k)) : TR M0 (sI (sA (sA (sI (sI M 21 0) 21 v) 17 f) 19 g) 22 w) r' a' c' := by
  obtain ⟨k1, k2, k3, k4, k5, k6, k7⟩ := h
  refine ⟨kpI (kp1 (kp1 (kpI (kpI k1 _ (by omega)) _ (by omega)) _ (by omega) (by omega)) _ (by omega) (by omega)) _ (by omega), ?_, ?_, ?_, hv, hww, fun k hk => ?_⟩
  · rw [hI 2 (by decide)]; exact k2
  · rw [hI 4 (by decide)]; exact k3
  · rw [hI 3 (by decide)]; exact k4
  · rw [hI 0 (by decide)] at hk
    obtain ⟨g1, g2, g3, g4⟩ := k7 k hk
    rw [h8, h10]
    exact ⟨hf k hk, g2, hg k hk, g4⟩
theorem TR_h {M0 M : St} {r r' : NS} {a c a' c' : Nat} (h : TR M0 M r a c) {v w : Int32} {f g : Nat → Int32} (hI : ∀ j, r'.1 j = r.1 j) (h7 : r'.2 7 = r.2 7) (h9 : r'.2 9 = r.2 9) (h10 : r'.2 10 = r.2 10) (hv : v = nI c') (hww : w = nI a') (hg : ∀ k, k < r.1 0 → g k = nI (r'.2 8 k)) : TR M0 (sI (sA (sA (sI (sI M 21 0) 21 v) 18 f) 18 g) 22 w) r' a' c' := by
  obtain ⟨k1, k2, k3, k4, k5, k6, k7⟩ := h
  refine ⟨kpI (kp1 (kp1 (kpI (kpI k1 _ (by omega)) _ (by omega)) _ (by omega) (by omega)) _ (by omega) (by omega)) _ (by omega), ?_, ?_, ?_, hv, hww, fun k hk => ?_⟩
  · rw [hI 2]; exact k2
  · rw [hI 4]; exact k3
  · rw [hI 3]; exact k4
  · rw [hI 0] at hk
    obtain ⟨g1, g2, g3, g4⟩ := k7 k hk
    rw [h9, h10]
    refine ⟨?_, hg k hk, g3, g4⟩
    unfold landI
    rw [hI 5, hI 0, h7]
    exact g1
theorem TR_a {M0 M : St} {r : NS} {a c : Nat} (h : TR M0 M r a c) : TR M0 (sI M 22 (M.1 22 + 1)) r (a + 1) c := by
  obtain ⟨k1, k2, k3, k4, k5, k6, k7⟩ := h
  refine ⟨kpI k1 _ (by omega), k2, k3, k4, k5, ?_, k7⟩
  show M.1 22 + 1 = _
  rw [k6, nI_1]
theorem TR_c {M0 M : St} {r : NS} {a c : Nat} (h : TR M0 M r a c) : TR M0 (sI M 21 0) r a 0 := by
  obtain ⟨k1, k2, k3, k4, k5, k6, k7⟩ := h
  exact ⟨kpI k1 _ (by omega), k2, k3, k4, nI_0.symm, k6, k7⟩
theorem die_land {r : NS} (hw : WF r) {k : Nat} (hk : k < r.1 0) (hl : alB r k = true) : ∀ j, j < r.1 0 → landI (nDie r k) j = if j = k then -6 else landI r j := by
  intro j hj
  have h6 := hw.2.1
  have e := t_dbit (r.1 5) (lv64 hw) k (by omega) j (by omega)
  unfold alB at hl
  rw [decide_eq_true_eq] at hl
  rw [if_pos hl] at e
  show (if (r.1 5 - 2 ^ k) / 2 ^ j % 2 = 1 then nI ((j + 1 + r.2 7 j) % r.1 0) else -6) = _
  rw [e]
  by_cases h : j = k
  · rw [if_pos h, if_pos h, if_neg (by decide)]
  · rw [if_neg h, if_neg h]
    rfl
