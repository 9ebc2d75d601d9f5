-- images
/-- the same Round, as far as it is looked at -/
def EqR (r q : NS) : Prop := (∀ i, i < 7 → q.1 i = r.1 i) ∧ (∀ k, k < 6 → q.2 7 k = r.2 7 k ∧ q.2 8 k = r.2 8 k ∧ q.2 9 k = r.2 9 k ∧ q.2 11 k = r.2 11 k ∧ q.2 12 k = r.2 12 k) ∧ ∀ k, k < 8 → q.2 13 k = r.2 13 k ∧ q.2 14 k = r.2 14 k
theorem EqR.wf {r q : NS} (h : EqR r q) (hw : WF r) : WF q := by
  obtain ⟨h1, h2, h3⟩ := h
  obtain ⟨w0, w1, w2, w3, w4, w5, w6, w7, w8, w9⟩ := hw
  unfold WF
  rw [h1 0 (by omega), h1 1 (by omega), h1 3 (by omega), h1 5 (by omega), h1 6 (by omega)]
  refine ⟨w0, w1, w2, w3, w4, w5, w6, fun k hk => ?_, fun i j hi hj => ?_, fun i hi => ?_⟩
  · obtain ⟨a, b, c, d, e⟩ := h2 k (by omega)
    rw [a, b, c, d, e]; exact w7 k hk
  · rw [(h2 i (by omega)).2.1, (h2 j (by omega)).2.1]; exact w8 i j hi hj
  · rw [(h3 i (by omega)).1, (h3 i (by omega)).2]; exact w9 i hi
theorem EqR.mr {r q : NS} {M : St} (h : EqR r q) (hw : WF r) (hm : MR M r) : MR M q := by
  obtain ⟨h1, h2, h3⟩ := h
  obtain ⟨m0, m1, m2, m3, m4, m10, m5, m11⟩ := hm
  obtain ⟨w0, w1, w2, w3, w4, w5, w6, w7, w8, w9⟩ := hw
  unfold MR landI
  rw [h1 0 (by omega), h1 1 (by omega), h1 2 (by omega), h1 3 (by omega), h1 4 (by omega), h1 5 (by omega), h1 6 (by omega)]
  refine ⟨m0, m1, m2, m3, m4, m10, fun k hk => ?_, fun i hi => ?_⟩
  · obtain ⟨a, b, c, d, e⟩ := h2 k (by omega)
    rw [a, b, c, d, e]; exact m5 k hk
  · rw [(h3 i (by omega)).1, (h3 i (by omega)).2]; exact m11 i hi
def cpN (m : Nat) (g a : Nat → Nat) : Nat → Nat := fun j => if j < m then g j else a j
def takeN (a r : NS) : NS := nsA (nsA (nsA (nsA (nsA (nsA (nsA (nsI (nsI (nsI (nsI (nsI (nsI (nsI a 0 (r.1 0)) 1 (r.1 1)) 2 (r.1 2)) 3 (r.1 3)) 4 (r.1 4)) 5 (r.1 5)) 6 (r.1 6)) 7 (cpN 6 (r.2 7) (a.2 7))) 8 (cpN 6 (r.2 8) (a.2 8))) 9 (cpN 6 (r.2 9) (a.2 9))) 11 (cpN 6 (r.2 11) (a.2 11))) 12 (cpN 6 (r.2 12) (a.2 12))) 13 (cpN 8 (r.2 13) (a.2 13))) 14 (cpN 8 (r.2 14) (a.2 14))
theorem takeN_eq (a r : NS) : EqR r (takeN a r) := by
  refine ⟨fun i hi => ?_, fun k hk => ?_, fun k hk => ?_⟩
  · have : i = 0 ∨ i = 1 ∨ i = 2 ∨ i = 3 ∨ i = 4 ∨ i = 5 ∨ i = 6 := by omega
    rcases this with rfl | rfl | rfl | rfl | rfl | rfl | rfl <;> rfl
  · refine ⟨?_, ?_, ?_, ?_, ?_⟩ <;> exact if_pos hk
  · exact ⟨if_pos hk, if_pos hk⟩
theorem cp_nI (m : Nat) (g a : Nat → Nat) : (fun j => if j < m then nI (g j) else nI (a j)) = fun j => nI (cpN m g a j) := by
  funext j
  unfold cpN
  by_cases h : j < m
  · rw [if_pos h, if_pos h]
  · rw [if_neg h, if_neg h]
theorem takeOver_nI {a r : NS} {K : St → Prop} (h : K (NI (takeN a r))) : wp_X2_takeOver (NI a) (NI r) K := by
  unfold wp_X2_takeOver
  refine take_nI (by omega) (take_nI (by omega) (take_nI (by omega) (take_nI (by omega) (take_nI (by omega) (take_nI (by omega) (take_nI (by omega) ?_))))))
  simp only [NI_2, NI_1]
  rw [cp_nI, cp_nI, cp_nI, cp_nI, cp_nI, cp_nI, cp_nI, sI_NI, sI_NI, sI_NI, sI_NI, sI_NI, sI_NI, sI_NI, sA_NI, sA_NI, sA_NI, sA_NI, sA_NI, sA_NI, sA_NI]
  exact h
theorem take_any {A : St} {r : NS} {K : St → Prop} (h : ∀ q : NS, EqR r q → K (NI q)) : wp_X2_takeOver A (NI r) K := by
  obtain ⟨a, rfl⟩ := ex_NI A
  exact takeOver_nI (h _ (takeN_eq a r))
/-- behind i rows of the reference's image -/
def imP (M : St) (t i : Nat) (S : St) : Prop := S.1 = M.1 ∧ (∀ j, j ≠ 25 → S.2 j = M.2 j) ∧ (∀ q, (q < t ∨ t + 30 ≤ q) → S.2 25 q = M.2 25 q) ∧
  ∀ k, k < i → S.2 25 (t + k) = M.2 5 k ∧ S.2 25 (t + (6 + k)) = M.2 6 k ∧ S.2 25 (t + (12 + k)) = M.2 7 k ∧ S.2 25 (t + (18 + k)) = M.2 8 k ∧ S.2 25 (t + (24 + k)) = M.2 9 k
theorem nadd {t : Nat} (c : Nat) {x : Int32} (hx : x = nI c) (k : Nat) : nI t + x + nI k = nI (t + (c + k)) := by rw [hx, nI_add, nI_add, Nat.add_assoc]
theorem im_lp {M : St} {t : Nat} (ht : t ≤ 70) {kx : St → Prop} (hk : ∀ S, imP M t 6 S → kx S) : ∀ (d i : Nat) (S : St), i + d = 6 → imP M t i S → wl_X7_image_19 (nI t) kx (d + 1) (nI i) S := by
  intro d
  induction d with
  | zero =>
    intro i S hi h
    have : i = 6 := by omega
    subst this
    unfold wl_X7_image_19
    rw [if_pos (by decide)]
    exact hk S h
  | succ d ih =>
    intro i S hi ⟨g1, g2, g3, g4⟩
    unfold wl_X7_image_19
    rw [if_neg (by rw [show (6 : Int32) = nI 6 by decide]; exact nI_ge (by omega) (by omega))]
    have v6 := vp6 (show i < 6 by omega)
    rw [nadd 6 (by decide), nadd 12 (by decide), nadd 18 (by decide), nadd 24 (by decide), nI_add, nI_1]
    have v140 : ∀ c, c < 140 → vp_in (nI c) 140 := fun c hc => vp_in_nI hc (by omega)
    refine ⟨v6, v140 _ (by omega), v6, v140 _ (by omega), v6, v140 _ (by omega), v6, v140 _ (by omega), v6, v140 _ (by omega), ih (i + 1) _ (by omega) ?_⟩
    rw [nI_clamp (show i < 2 ^ 31 by omega), nI_clamp (show t + i < 2 ^ 31 by omega), nI_clamp (show t + (6 + i) < 2 ^ 31 by omega), nI_clamp (show t + (12 + i) < 2 ^ 31 by omega), nI_clamp (show t + (18 + i) < 2 ^ 31 by omega), nI_clamp (show t + (24 + i) < 2 ^ 31 by omega)]
    simp only [sA_sA]
    refine ⟨g1, fun j hj => ?_, fun q hq => ?_, fun k hk9 => ?_⟩
    · rw [sA_2, if_neg hj]; exact g2 j hj
    · rw [sA_at]
      simp only [upd_at]
      rw [if_neg (by omega), if_neg (by omega), if_neg (by omega), if_neg (by omega), if_neg (by omega)]
      exact g3 q hq
    · rw [sA_at]
      simp only [upd_at]
      by_cases hki : k = i
      · subst hki
        rw [g2 5 (by omega), g2 6 (by omega), g2 7 (by omega), g2 8 (by omega), g2 9 (by omega)]
        refine ⟨?_, ?_, ?_, ?_, ?_⟩
        · rw [if_neg (by omega), if_neg (by omega), if_neg (by omega), if_neg (by omega), if_pos rfl]
        · rw [if_neg (by omega), if_neg (by omega), if_neg (by omega), if_pos rfl]
        · rw [if_neg (by omega), if_neg (by omega), if_pos rfl]
        · rw [if_neg (by omega), if_pos rfl]
        · rw [if_pos rfl]
      · obtain ⟨a, b, c, e, f⟩ := g4 k (by omega)
        refine ⟨?_, ?_, ?_, ?_, ?_⟩
        · rw [if_neg (by omega), if_neg (by omega), if_neg (by omega), if_neg (by omega), if_neg (by omega)]; exact a
        · rw [if_neg (by omega), if_neg (by omega), if_neg (by omega), if_neg (by omega), if_neg (by omega)]; exact b
        · rw [if_neg (by omega), if_neg (by omega), if_neg (by omega), if_neg (by omega), if_neg (by omega)]; exact c
        · rw [if_neg (by omega), if_neg (by omega), if_neg (by omega), if_neg (by omega), if_neg (by omega)]; exact e
        · rw [if_neg (by omega), if_neg (by omega), if_neg (by omega), if_neg (by omega), if_neg (by omega)]; exact f
def imQ (M S0 : St) (t i : Nat) (S : St) : Prop := S.1 = M.1 ∧ (∀ j, j ≠ 25 → S.2 j = M.2 j) ∧ (∀ q, (q < t + 30 ∨ t + 46 ≤ q) → S.2 25 q = S0.2 25 q) ∧ ∀ k, k < i → S.2 25 (t + (30 + k)) = M.2 11 k
theorem im_lp2 {M S0 : St} {t : Nat} (ht : t ≤ 70) {kx : St → Prop} (hk : ∀ S, imQ M S0 t 16 S → kx S) : ∀ (d i : Nat) (S : St), i + d = 16 → imQ M S0 t i S → wl_X7_image_115 (nI t) kx (d + 1) (nI i) S := by
  intro d
  induction d with
  | zero =>
    intro i S hi h
    have : i = 16 := by omega
    subst this
    unfold wl_X7_image_115
    rw [if_pos (by decide)]
    exact hk S h
  | succ d ih =>
    intro i S hi ⟨g1, g2, g3, g4⟩
    unfold wl_X7_image_115
    rw [if_neg (by rw [show (16 : Int32) = nI 16 by decide]; exact nI_ge (by omega) (by omega))]
    rw [nadd 30 (by decide), nI_1]
    refine ⟨vp_in_nI (by omega) (by omega), vp_in_nI (by omega) (by omega), ih (i + 1) _ (by omega) ?_⟩
    rw [nI_clamp (show i < 2 ^ 31 by omega), nI_clamp (show t + (30 + i) < 2 ^ 31 by omega)]
    refine ⟨g1, fun j hj => ?_, fun q hq => ?_, fun k hk9 => ?_⟩
    · rw [sA_2, if_neg hj]; exact g2 j hj
    · rw [sA_at, upd_at, if_neg (by omega)]; exact g3 q hq
    · rw [sA_at, upd_at]
      by_cases hki : k = i
      · subst hki; rw [if_pos rfl, g2 11 (by omega)]
      · rw [if_neg (by omega)]; exact g4 k (by omega)
theorem nadd0 {t : Nat} (c : Nat) {x : Int32} (hx : x = nI c) : nI t + x = nI (t + c) := by rw [hx, nI_add]
/-- what the reference's image call leaves -/
theorem image_ok {M : St} {i : Nat} (hi : i < 2) {K : Int32 → St → Prop} (hK : ∀ N : St, N.1 = M.1 → (∀ j, j < 25 → N.2 j = M.2 j) → (∀ q, (q < 70 * i ∨ 70 * i + 56 ≤ q) → N.2 25 q = M.2 25 q) → N.2 26 = upd (M.2 26) i 1 → (∀ r, WF r → MR M r → MR (imSt N i) r) → K 1 N) : wp_X7_image M (nI i) K := by
  unfold wp_X7_image
  have h0 : ¬ F_X7_in (nI i) 0 1 = 0 := (in_ne _ _ _).mpr ⟨nI_pos' (by omega), by rw [i1]; exact nI_le (by omega) (by omega)⟩
  rw [if_neg h0]
  have e70 : (70 : Int32) * nI i = nI (70 * i) := by rw [show (70 : Int32) = nI 70 by decide, pk_mul]
  rw [e70]
  refine ⟨7, ?_⟩
  rw [← nI_0]
  refine im_lp (M := M) (by omega) (fun S1 hS1 => ?_) 6 0 M (by omega) ⟨rfl, fun _ _ => rfl, fun _ _ => rfl, fun k hk => absurd hk (Nat.not_lt_zero k)⟩
  refine ⟨17, ?_⟩
  obtain ⟨p1, p2, p3, p4⟩ := hS1
  refine im_lp2 (M := M) (S0 := S1) (by omega) (fun S2 hS2 => ?_) 16 0 S1 (by omega) ⟨p1, p2, fun _ _ => rfl, fun k hk => absurd hk (Nat.not_lt_zero k)⟩
  obtain ⟨q1, q2, q3, q4⟩ := hS2
  rw [nadd0 50 (by decide), nadd0 51 (by decide), nadd0 52 (by decide), nadd0 53 (by decide), nadd0 54 (by decide), nadd0 55 (by decide)]
  have v140 : ∀ c, c < 140 → vp_in (nI c) 140 := fun c hc => vp_in_nI hc (by omega)
  refine ⟨v140 _ (by omega), v140 _ (by omega), v140 _ (by omega), v140 _ (by omega), v140 _ (by omega), v140 _ (by omega), vp_in_nI hi (by omega), ?_⟩
  rw [nI_clamp (show 70 * i + 50 < 2 ^ 31 by omega), nI_clamp (show 70 * i + 51 < 2 ^ 31 by omega), nI_clamp (show 70 * i + 52 < 2 ^ 31 by omega), nI_clamp (show 70 * i + 53 < 2 ^ 31 by omega), nI_clamp (show 70 * i + 54 < 2 ^ 31 by omega), nI_clamp (show 70 * i + 55 < 2 ^ 31 by omega), nI_clamp (show i < 2 ^ 31 by omega)]
  simp only [sA_sA]
  generalize hU : upd (upd (upd (upd (upd (upd (S2.2 25) (70 * i + 50) (S2.1 0)) (70 * i + 51) (S2.1 1)) (70 * i + 52) (S2.1 2)) (70 * i + 53) (S2.1 3)) (70 * i + 54) (S2.1 4)) (70 * i + 55) (S2.1 10) = U
  have u : ∀ q, U q = if q = 70 * i + 55 then S2.1 10 else if q = 70 * i + 54 then S2.1 4 else if q = 70 * i + 53 then S2.1 3 else if q = 70 * i + 52 then S2.1 2 else if q = 70 * i + 51 then S2.1 1 else if q = 70 * i + 50 then S2.1 0 else S2.2 25 q := by
    intro q; rw [← hU]; rfl
  have lo : ∀ q, (q < 70 * i + 50 ∨ 70 * i + 56 ≤ q) → U q = S2.2 25 q := by
    intro q hq
    rw [u, if_neg (by omega), if_neg (by omega), if_neg (by omega), if_neg (by omega), if_neg (by omega), if_neg (by omega)]
  refine hK _ q1 (fun j hj => ?_) (fun q hq => ?_) ?_ (fun r hw hm => ?_)
  · rw [sA_2, if_neg (by omega), sA_2, if_neg (by omega)]; exact q2 j (by omega)
  · rw [sA_2, if_neg (by omega), sA_at, lo q (by omega), q3 q (by omega)]
    exact p3 q (by omega)
  · rw [sA_at, q2 26 (by omega)]
    rfl
  · obtain ⟨m0, m1, m2, m3, m4, m10, m5, m11⟩ := hm
    have b : (sA (sA S2 25 U) 26 (upd (S2.2 26) i (vp_nar .boolean 1))).2 25 = U := by rw [sA_2, if_neg (by omega), sA_at]
    unfold imSt
    rw [b]
    refine ⟨?_, ?_, ?_, ?_, ?_, ?_, fun k hk => ?_, fun j hj => ?_⟩
    · show U (70 * i + 50) = _
      rw [u, if_neg (by omega), if_neg (by omega), if_neg (by omega), if_neg (by omega), if_neg (by omega), if_pos rfl, q1]; exact m0
    · show U (70 * i + 51) = _
      rw [u, if_neg (by omega), if_neg (by omega), if_neg (by omega), if_neg (by omega), if_pos rfl, q1]; exact m1
    · show U (70 * i + 52) = _
      rw [u, if_neg (by omega), if_neg (by omega), if_neg (by omega), if_pos rfl, q1]; exact m2
    · show U (70 * i + 53) = _
      rw [u, if_neg (by omega), if_neg (by omega), if_pos rfl, q1]; exact m3
    · show U (70 * i + 54) = _
      rw [u, if_neg (by omega), if_pos rfl, q1]; exact m4
    · show U (70 * i + 55) = _
      rw [u, if_pos rfl, q1]; exact m10
    · have h6 := hw.2.1
      obtain ⟨a, b2, c, e, f⟩ := p4 k (by omega)
      show U (70 * i + k) = _ ∧ U (70 * i + (6 + k)) = _ ∧ U (70 * i + (12 + k)) = _ ∧ U (70 * i + (18 + k)) = _ ∧ U (70 * i + (24 + k)) = _
      rw [lo _ (by omega), lo _ (by omega), lo _ (by omega), lo _ (by omega), lo _ (by omega), q3 _ (by omega), q3 _ (by omega), q3 _ (by omega), q3 _ (by omega), q3 _ (by omega), a, b2, c, e, f]
      exact m5 k hk
    · have h8 := hw.2.2.2.2.2.2.1
      show U (70 * i + (30 + 2 * j)) = _ ∧ U (70 * i + (30 + (2 * j + 1))) = _
      rw [lo _ (by omega), lo _ (by omega), q4 _ (by omega), q4 _ (by omega)]
      exact m11 j hj
