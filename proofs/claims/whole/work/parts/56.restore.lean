-- image, restore, where, state, letter, told
theorem imSt_far {M N : St} {i o : Nat} (hi : i < 2) (ho : o < 2) (hne : i ≠ o) (h : ∀ q, (q < 70 * i ∨ 70 * i + 56 ≤ q) → N.2 25 q = M.2 25 q) {r : NS} (hw : WF r) (hm : MR (imSt M o) r) : MR (imSt N o) r := by
  obtain ⟨m0, m1, m2, m3, m4, m10, m5, m11⟩ := hm
  have h6 := hw.2.1
  have h8 := hw.2.2.2.2.2.2.1
  have e : ∀ k, k < 56 → N.2 25 (70 * o + k) = M.2 25 (70 * o + k) := fun k hk => h _ (by omega)
  refine ⟨(e 50 (by omega)).trans m0, (e 51 (by omega)).trans m1, (e 52 (by omega)).trans m2, (e 53 (by omega)).trans m3, (e 54 (by omega)).trans m4, (e 55 (by omega)).trans m10, fun k hk => ?_, fun j hj => ?_⟩
  · obtain ⟨a, b, c, d, f⟩ := m5 k hk
    exact ⟨(e k (by omega)).trans a, (e (6 + k) (by omega)).trans b, (e (12 + k) (by omega)).trans c, (e (18 + k) (by omega)).trans d, (e (24 + k) (by omega)).trans f⟩
  · obtain ⟨a, b⟩ := m11 j hj
    exact ⟨(e (30 + 2 * j) (by omega)).trans a, (e (30 + (2 * j + 1)) (by omega)).trans b⟩
theorem sim_image : Sim_image Inv := by
  intro X0 X1 X2 X3 X4 X5 X6 X7 X8 M a0 hI
  obtain ⟨⟨r, rfl, hw, hm⟩, ⟨f1, hi1⟩, ⟨f2, hi2⟩, hp⟩ := id hI
  unfold wp_X6_image
  by_cases h : F_X7_in a0 0 1 = 0
  · unfold wp_X7_image
    simp only [within_in, if_pos h]
    exact ⟨trivial, hI⟩
  · simp only [within_in, if_neg h]
    obtain ⟨i, -, hi, rfl⟩ := inN (a := 0) (b := 1) h (by decide) (by decide) (by omega) (by omega)
    have h01 : i = 0 ∨ i = 1 := by omega
    rcases h01 with rfl | rfl
    · rw [if_pos nI_0]
      refine take_any (fun q hq => ?_)
      refine put_nI (by omega) (by omega) ?_
      refine image_ok (by omega) (fun N n1 n2 n3 n4 n5 => ?_)
      refine ⟨rfl, ⟨r, rfl, hw, MR_of hm (congrFun n1 0) (congrFun n1 1) (congrFun n1 2) (congrFun n1 3) (congrFun n1 4) (congrFun n1 10) (n2 5 (by omega)) (n2 6 (by omega)) (n2 7 (by omega)) (n2 8 (by omega)) (n2 9 (by omega)) (n2 11 (by omega))⟩, ⟨by rw [n4]; rfl, Or.inr ⟨rfl, q, rfl, hq.wf hw, hq.mr hw (n5 r hw hm)⟩⟩, ⟨by rw [n4]; exact f2, ?_⟩, PdR_of hp (congrFun n1 12) (n2 13 (by omega))⟩
      rcases hi2 with hi2 | ⟨g1, r2, g2, g3, g4⟩
      · exact Or.inl hi2
      · exact Or.inr ⟨g1, r2, g2, g3, imSt_far (i := 0) (by omega) (by omega) (by omega) n3 g3 g4⟩
    · rw [if_neg (by decide : ¬ nI 1 = 0)]
      refine take_any (fun q hq => ?_)
      refine put_nI (by omega) (by omega) ?_
      refine image_ok (by omega) (fun N n1 n2 n3 n4 n5 => ?_)
      refine ⟨rfl, ⟨r, rfl, hw, MR_of hm (congrFun n1 0) (congrFun n1 1) (congrFun n1 2) (congrFun n1 3) (congrFun n1 4) (congrFun n1 10) (n2 5 (by omega)) (n2 6 (by omega)) (n2 7 (by omega)) (n2 8 (by omega)) (n2 9 (by omega)) (n2 11 (by omega))⟩, ⟨by rw [n4]; exact f1, ?_⟩, ⟨by rw [n4]; rfl, Or.inr ⟨rfl, q, rfl, hq.wf hw, hq.mr hw (n5 r hw hm)⟩⟩, PdR_of hp (congrFun n1 12) (n2 13 (by omega))⟩
      rcases hi1 with hi1 | ⟨g1, r2, g2, g3, g4⟩
      · exact Or.inl hi1
      · exact Or.inr ⟨g1, r2, g2, g3, imSt_far (i := 1) (by omega) (by omega) (by omega) n3 g3 g4⟩
/-- behind i rows of the reference's restoring -/
def reP (M : St) (t i : Nat) (S : St) : Prop := S.1 = M.1 ∧ (∀ j, (j < 5 ∨ 9 < j) → S.2 j = M.2 j) ∧
  ∀ k, k < i → S.2 5 k = M.2 25 (t + k) ∧ S.2 6 k = M.2 25 (t + (6 + k)) ∧ S.2 7 k = M.2 25 (t + (12 + k)) ∧ S.2 8 k = M.2 25 (t + (18 + k)) ∧ S.2 9 k = M.2 25 (t + (24 + k))
theorem re_lp {M : St} {t : Nat} (ht : t ≤ 70) {kx : St → Prop} (hk : ∀ S, reP M t 6 S → kx S) : ∀ (d i : Nat) (S : St), i + d = 6 → reP M t i S → wl_X7_restore_31 (nI t) kx (d + 1) (nI i) S := by
  intro d
  induction d with
  | zero =>
    intro i S hi h
    have : i = 6 := by omega
    subst this
    unfold wl_X7_restore_31
    rw [if_pos (by decide)]
    exact hk S h
  | succ d ih =>
    intro i S hi ⟨g1, g2, g4⟩
    unfold wl_X7_restore_31
    rw [if_neg (by rw [show (6 : Int32) = nI 6 by decide]; exact nI_ge (by omega) (by omega))]
    have v6 := vp6 (show i < 6 by omega)
    rw [nadd 6 (by decide), nadd 12 (by decide), nadd 18 (by decide), nadd 24 (by decide), nI_add, nI_1]
    have v140 : ∀ c, c < 140 → vp_in (nI c) 140 := fun c hc => vp_in_nI hc (by omega)
    refine ⟨v140 _ (by omega), v6, v140 _ (by omega), v6, v140 _ (by omega), v6, v140 _ (by omega), v6, v140 _ (by omega), v6, ih (i + 1) _ (by omega) ?_⟩
    rw [nI_clamp (show i < 2 ^ 31 by omega), nI_clamp (show t + i < 2 ^ 31 by omega), nI_clamp (show t + (6 + i) < 2 ^ 31 by omega), nI_clamp (show t + (12 + i) < 2 ^ 31 by omega), nI_clamp (show t + (18 + i) < 2 ^ 31 by omega), nI_clamp (show t + (24 + i) < 2 ^ 31 by omega), g2 25 (by omega)]
    refine ⟨g1, fun j hj => ?_, fun k hk9 => ?_⟩
    · rw [sA_2, if_neg (by omega), sA_2, if_neg (by omega), sA_2, if_neg (by omega), sA_2, if_neg (by omega), sA_2, if_neg (by omega)]
      exact g2 j hj
    · show upd (S.2 5) i _ k = _ ∧ upd (S.2 6) i _ k = _ ∧ upd (S.2 7) i _ k = _ ∧ upd (S.2 8) i _ k = _ ∧ upd (S.2 9) i _ k = _
      unfold upd
      by_cases hki : k = i
      · subst hki
        rw [if_pos rfl, if_pos rfl, if_pos rfl, if_pos rfl, if_pos rfl]
        exact ⟨rfl, rfl, rfl, rfl, rfl⟩
      · rw [if_neg hki, if_neg hki, if_neg hki, if_neg hki, if_neg hki]
        exact g4 k (by omega)
def reQ (M S0 : St) (t i : Nat) (S : St) : Prop := S.1 = M.1 ∧ (∀ j, j ≠ 11 → S.2 j = S0.2 j) ∧ ∀ k, k < i → S.2 11 k = M.2 25 (t + (30 + k))
theorem re_lp2 {M S0 : St} {t : Nat} (ht : t ≤ 70) (h25 : S0.2 25 = M.2 25) {kx : St → Prop} (hk : ∀ S, reQ M S0 t 16 S → kx S) : ∀ (d i : Nat) (S : St), i + d = 16 → reQ M S0 t i S → wl_X7_restore_127 (nI t) kx (d + 1) (nI i) S := by
  intro d
  induction d with
  | zero =>
    intro i S hi h
    have : i = 16 := by omega
    subst this
    unfold wl_X7_restore_127
    rw [if_pos (by decide)]
    exact hk S h
  | succ d ih =>
    intro i S hi ⟨g1, g2, g4⟩
    unfold wl_X7_restore_127
    rw [if_neg (by rw [show (16 : Int32) = nI 16 by decide]; exact nI_ge (by omega) (by omega))]
    rw [nadd 30 (by decide), nI_1]
    refine ⟨vp_in_nI (by omega) (by omega), vp_in_nI (by omega) (by omega), ih (i + 1) _ (by omega) ?_⟩
    rw [nI_clamp (show i < 2 ^ 31 by omega), nI_clamp (show t + (30 + i) < 2 ^ 31 by omega)]
    refine ⟨g1, fun j hj => ?_, fun k hk9 => ?_⟩
    · rw [sA_2, if_neg hj]; exact g2 j hj
    · rw [sA_at, upd_at]
      by_cases hki : k = i
      · subst hki; rw [if_pos rfl, g2 25 (by omega), h25]
      · rw [if_neg (by omega)]; exact g4 k (by omega)
theorem restore_ok {M : St} {i : Nat} (hi : i < 2) (hf : ¬ M.2 26 i = 0) {K : Int32 → St → Prop} (hK : ∀ N : St, (∀ j, (j = 12) → N.1 j = M.1 j) → N.2 13 = M.2 13 → N.2 25 = M.2 25 → N.2 26 = M.2 26 → (∀ r, WF r → MR (imSt M i) r → MR N r) → K 1 N) : wp_X7_restore M (nI i) K := by
  unfold wp_X7_restore
  have h0 : ¬ F_X7_in (nI i) 0 1 = 0 := (in_ne _ _ _).mpr ⟨nI_pos' (by omega), by rw [i1]; exact nI_le (by omega) (by omega)⟩
  have e70 : (70 : Int32) * nI i = nI (70 * i) := by rw [show (70 : Int32) = nI 70 by decide, pk_mul]
  rw [if_neg h0, nI_clamp (show i < 2 ^ 31 by omega), if_neg hf, e70]
  refine ⟨vp_in_nI hi (by omega), 7, ?_⟩
  rw [← nI_0]
  refine re_lp (M := M) (by omega) (fun S1 hS1 => ?_) 6 0 M (by omega) ⟨rfl, fun _ _ => rfl, fun k hk => absurd hk (Nat.not_lt_zero k)⟩
  refine ⟨17, ?_⟩
  obtain ⟨p1, p2, p4⟩ := hS1
  refine re_lp2 (M := M) (S0 := S1) (by omega) (p2 25 (by omega)) (fun S2 hS2 => ?_) 16 0 S1 (by omega) ⟨p1, fun _ _ => rfl, fun k hk => absurd hk (Nat.not_lt_zero k)⟩
  obtain ⟨q1, q2, q4⟩ := hS2
  rw [nadd0 50 (by decide), nadd0 51 (by decide), nadd0 52 (by decide), nadd0 53 (by decide), nadd0 54 (by decide), nadd0 55 (by decide)]
  have v140 : ∀ c, c < 140 → vp_in (nI c) 140 := fun c hc => vp_in_nI hc (by omega)
  refine ⟨v140 _ (by omega), v140 _ (by omega), v140 _ (by omega), v140 _ (by omega), v140 _ (by omega), v140 _ (by omega), ?_⟩
  rw [nI_clamp (show 70 * i + 50 < 2 ^ 31 by omega), nI_clamp (show 70 * i + 51 < 2 ^ 31 by omega), nI_clamp (show 70 * i + 52 < 2 ^ 31 by omega), nI_clamp (show 70 * i + 53 < 2 ^ 31 by omega), nI_clamp (show 70 * i + 54 < 2 ^ 31 by omega), nI_clamp (show 70 * i + 55 < 2 ^ 31 by omega), q2 25 (by omega), p2 25 (by omega)]
  refine hK _ (fun j hj => ?_) ?_ ?_ ?_ (fun r hw hm => ?_)
  · subst hj
    show S2.1 12 = _
    rw [q1]
  · show S2.2 13 = _
    rw [q2 13 (by omega), p2 13 (by omega)]
  · show S2.2 25 = _
    rw [q2 25 (by omega), p2 25 (by omega)]
  · show S2.2 26 = _
    rw [q2 26 (by omega), p2 26 (by omega)]
  · obtain ⟨m0, m1, m2, m3, m4, m10, m5, m11⟩ := hm
    have h6 := hw.2.1
    have h8 := hw.2.2.2.2.2.2.1
    refine ⟨m0, m1, m2, m3, m4, m10, fun k hk => ?_, fun j hj => ?_⟩
    · obtain ⟨a, b, c, d, f⟩ := p4 k (by omega)
      show S2.2 5 k = _ ∧ S2.2 6 k = _ ∧ S2.2 7 k = _ ∧ S2.2 8 k = _ ∧ S2.2 9 k = _
      rw [q2 5 (by omega), q2 6 (by omega), q2 7 (by omega), q2 8 (by omega), q2 9 (by omega), a, b, c, d, f]
      exact m5 k hk
    · show S2.2 11 (2 * j) = _ ∧ S2.2 11 (2 * j + 1) = _
      rw [q4 _ (by omega), q4 _ (by omega)]
      exact m11 j hj
theorem sim_restore : Sim_restore Inv := by
  intro X0 X1 X2 X3 X4 X5 X6 X7 X8 M a0 hI
  obtain ⟨⟨r, rfl, hw, hm⟩, hj1, hj2, hp⟩ := id hI
  obtain ⟨f1, hi1⟩ := id hj1
  obtain ⟨f2, hi2⟩ := id hj2
  unfold wp_X6_restore
  by_cases h : F_X7_in a0 0 1 = 0
  · unfold wp_X7_restore
    simp only [within_in, if_pos h]
    exact ⟨trivial, hI⟩
  · simp only [within_in, if_neg h]
    obtain ⟨i, -, hi, rfl⟩ := inN (a := 0) (b := 1) h (by decide) (by decide) (by omega) (by omega)
    rw [get_nI _ (by omega) (by omega)]
    have ok : ∀ (q s : NS), EqR s q → WF s → MR (imSt M i) s → ¬ M.2 26 i = 0 → wp_X7_restore M (nI i) (fun q_1 N => (1 : Int32) = q_1 ∧ Inv (NI q) X1 X2 X3 X4 X5 X6 X7 X8 N) := by
      intro q s hq hs hms hf
      refine restore_ok (by omega) hf (fun N n1 n2 n3 n4 n5 => ?_)
      exact ⟨rfl, ⟨q, rfl, hq.wf hs, hq.mr hs (n5 s hs hms)⟩, ImR_of hj1 n3 n4, ImR_of hj2 n3 n4, PdR_of hp (n1 12 rfl) n2⟩
    have no : X4 i = 0 → M.2 26 i = 0 → wp_X7_restore M (nI i) (fun q_1 N => (-3 : Int32) = q_1 ∧ Inv (NI r) X1 X2 X3 X4 X5 X6 X7 X8 N) := by
      intro h1 h2
      unfold wp_X7_restore
      rw [if_neg h, nI_clamp (show i < 2 ^ 31 by omega), if_pos h2]
      exact ⟨vp_in_nI (by omega) (by omega), rfl, hI⟩
    have h01 : i = 0 ∨ i = 1 := by omega
    rcases h01 with rfl | rfl
    · rcases hi1 with h1 | ⟨h1, s, g2, g3, g4⟩
      · rw [if_pos h1]
        exact no h1 (by rw [f1, h1])
      · rw [if_neg (by rw [h1]; decide), if_pos nI_0, g2]
        refine take_any (fun q hq => ?_)
        have := ok q s hq g3 g4 (by rw [f1, h1]; decide)
        rw [g2] at this
        exact this
    · rcases hi2 with h1 | ⟨h1, s, g2, g3, g4⟩
      · rw [if_pos h1]
        exact no h1 (by rw [f2, h1])
      · rw [if_neg (by rw [h1]; decide), if_neg (by decide : ¬ nI 1 = 0), g2]
        refine take_any (fun q hq => ?_)
        have := ok q s hq g3 g4 (by rw [f2, h1]; decide)
        rw [g2] at this
        exact this
theorem till_nI {r : NS} (hw : WF r) {d : Nat} (hd : d ≤ 20000) : F_X2_equinoxesTill (NI r) (nI d) = nI ((r.1 3 + d) / r.1 1) := by
  obtain ⟨w0, w1, w2, w3, w4, -⟩ := hw
  unfold F_X2_equinoxesTill
  rw [NI_1, NI_1, nI_add, cut_nI (by omega) (by omega) (by omega)]
theorem equi_nI {r : NS} {M : St} (hw : WF r) (hm : MR M r) {d : Nat} (hd : d ≤ 20000) {K : Int32 → Prop} (h : K (nI ((r.1 3 + d) / r.1 1))) : wp_X7_equinoxes M (nI d) K := by
  obtain ⟨m0, m1, m2, m3, m4, m10, m5, m11⟩ := hm
  obtain ⟨w0, w1, w2, w3, w4, -⟩ := hw
  unfold wp_X7_equinoxes
  rw [m1, m4, nI_add, pk_div (by omega) (by omega) (by omega)]
  exact ⟨nI_ne0 (by omega) (by omega), h⟩
theorem e_lt {r : NS} (hw : WF r) {d : Nat} (hd : d ≤ 20000) : (r.1 3 + d) / r.1 1 < 2 ^ 20 := by
  obtain ⟨w0, w1, w2, w3, w4, -⟩ := hw
  have := Nat.div_le_self (r.1 3 + d) (r.1 1)
  omega
theorem sim_where : Sim_where Inv := by
  intro X0 X1 X2 X3 X4 X5 X6 X7 X8 M a0 a1 hI
  obtain ⟨⟨r, rfl, hw, hm⟩, hi1, hi2, hp⟩ := id hI
  obtain ⟨hh, hc⟩ := has_one hw hm a0
  unfold F_X6_where wp_X7_where
  rcases hc with h | ⟨k, hk, rfl, h⟩
  · simp only [hh, if_pos h]
    exact ⟨trivial, hI⟩
  · have hne : ¬ F_X7_isOne M (nI k) = 0 := by rw [h]; decide
    simp only [hh, if_neg hne]
    by_cases h2 : F_X7_in a1 0 9999 = 0
    · rw [if_pos h2, if_pos (show F_X6_within a1 0 9999 = 0 from h2)]
      exact ⟨rfl, hI⟩
    · rw [if_neg h2, if_neg (show ¬ F_X6_within a1 0 9999 = 0 from h2)]
      obtain ⟨d, -, hd, rfl⟩ := inN (a := 0) (b := 9999) h2 (by decide) (by decide) (by omega) (by omega)
      have el := e_lt hw (d := d) (by omega)
      refine equi_nI hw hm (by omega) (whereB hw hm hk (by omega) ⟨?_, hI⟩)
      rw [till_nI hw (by omega), landAfter_nI hw hk (by omega)]
theorem landE_0 {r : NS} (hw : WF r) {k : Nat} (hk : k < r.1 0) : landE r k 0 = landI r k := by
  obtain ⟨w0, w1, -, -, -, -, -, w7, -⟩ := hw
  have hp := (w7 k hk).1
  unfold landE landI landN stp
  have e : (if r.2 9 k = 1 then 0 - 1 else if r.2 9 k = 2 then 0 else 0) = 0 := by
    split
    · rfl
    · split <;> rfl
  rw [e, Nat.add_zero (r.2 7 k), Nat.mod_eq_of_lt hp]
theorem sim_state : Sim_state Inv := by
  intro X0 X1 X2 X3 X4 X5 X6 X7 X8 M a0 a1 hI
  obtain ⟨⟨r, rfl, hw, hm⟩, hi1, hi2, hp⟩ := id hI
  obtain ⟨m0, m1, m2, m3, m4, m10, m5, m11⟩ := id hm
  obtain ⟨hh, hc⟩ := has_one hw hm a0
  have h6 := hw.2.1
  unfold F_X6_state wp_X7_state
  rcases hc with h | ⟨k, hk, rfl, h⟩
  · simp only [hh, if_pos h]
    exact ⟨trivial, hI⟩
  · have hne : ¬ F_X7_isOne M (nI k) = 0 := by rw [h]; decide
    simp only [hh, if_neg hne]
    have v6 := vp6 (show k < 6 by omega)
    have ck : (nI k).toNatClampNeg = k := nI_clamp (by omega)
    obtain ⟨b5, b6, b7, b8, b9⟩ := m5 k hk
    by_cases h2 : F_X7_in a1 0 2 = 0
    · rw [if_pos (show F_X6_within a1 0 2 = 0 from h2)]
      have q : ∀ c : Int32, ¬ F_X7_in c 0 2 = 0 → ¬ a1 = c := fun c hc e => hc (by rw [← e]; exact h2)
      rw [if_neg (q 0 (by decide)), if_neg (q 1 (by decide)), if_neg (q 2 (by decide))]
      exact ⟨rfl, hI⟩
    · rw [if_neg (show ¬ F_X6_within a1 0 2 = 0 from h2)]
      obtain ⟨w, -, hw2, rfl⟩ := inN (a := 0) (b := 2) h2 (by decide) (by decide) (by omega) (by omega)
      have h012 : w = 0 ∨ w = 1 ∨ w = 2 := by omega
      rcases h012 with rfl | rfl | rfl
      · rw [if_pos nI_0, if_pos nI_0, ck, ← nI_0, landAfter_nI hw hk (by omega), landE_0 hw hk, b5]
        exact ⟨v6, rfl, hI⟩
      · rw [if_neg (by decide : ¬ nI 1 = 0), if_neg (by decide : ¬ nI 1 = 0), if_pos i1.symm, if_pos i1.symm, ck, getR r 8 (by omega) (by omega), b6]
        exact ⟨v6, rfl, hI⟩
      · rw [if_neg (by decide : ¬ nI 2 = 0), if_neg (by decide : ¬ nI 2 = 0), if_neg (by decide : ¬ nI 2 = 1), if_neg (by decide : ¬ nI 2 = 1), if_pos i2.symm, ck, getR r 9 (by omega) (by omega), b7]
        exact ⟨v6, rfl, hI⟩
theorem sub_left : ∀ n, n < 7 → 3 ≤ n → ∀ a, a < n → ∀ b, b < n → F_X6_leftOver (nI a - nI b) (nI n) = nI ((a + n - b) % n) := by decide +kernel
theorem sub_mod : ∀ n, n < 7 → 3 ≤ n → ∀ a, a < n → ∀ b, b < n → (nI a - nI b + nI n) - (nI a - nI b + nI n) / nI n * nI n = nI ((a + n - b) % n) := by decide +kernel
theorem first_nI {r : NS} (e : Nat) (he : e < 2 ^ 20) (hw : WF r) : F_X2_firstDayAfter (NI r) (nI e) = if e = 0 then 0 else nI (e * r.1 1 - r.1 3) := by
  obtain ⟨w0, w1, w2, w3, w4, -⟩ := hw
  unfold F_X2_firstDayAfter
  rw [NI_1, NI_1]
  by_cases h : e = 0
  · subst h; rw [if_neg (by decide), if_pos rfl]
  · have h1 : (0 : Int32) < nI e := by rw [← nI_0]; exact nI_lt (by omega) (by omega)
    have h2 : r.1 1 ≤ e * r.1 1 := Nat.le_mul_of_pos_left _ (by omega)
    rw [if_pos h1, if_neg h, pk_mul, pk_sub (by omega)]
theorem firstM_nI {r : NS} {M : St} (e : Nat) (he : e < 2 ^ 20) (hw : WF r) (hm : MR M r) : F_X7_firstDay M (nI e) = if e = 0 then 0 else nI (e * r.1 1 - r.1 3) := by
  obtain ⟨w0, w1, w2, w3, w4, -⟩ := hw
  obtain ⟨m0, m1, m2, m3, m4, m10, m5, m11⟩ := hm
  unfold F_X7_firstDay
  rw [m1, m4]
  by_cases h : e = 0
  · subst h; rw [if_pos nI_0, if_pos rfl]
  · have h2 : r.1 1 ≤ e * r.1 1 := Nat.le_mul_of_pos_left _ (by omega)
    rw [if_neg (nI_ne0 (by omega) (by omega)), if_neg h, pk_mul, pk_sub (by omega)]
theorem sim_letter : Sim_letter Inv := by
  intro X0 X1 X2 X3 X4 X5 X6 X7 X8 M a0 a1 hI
  obtain ⟨⟨r, rfl, hw, hm⟩, hi1, hi2, hp⟩ := id hI
  obtain ⟨hh, hc⟩ := has_one hw hm a0
  obtain ⟨hh1, hc1⟩ := has_one hw hm a1
  have m0 := hm.1
  unfold F_X6_letter wp_X7_letter
  rcases hc with h | ⟨k, hk, rfl, h⟩
  · simp only [hh, if_pos h]
    exact ⟨trivial, hI⟩
  · have hne : ¬ F_X7_isOne M (nI k) = 0 := by rw [h]; decide
    simp only [hh, if_neg hne]
    rcases hc1 with h1 | ⟨j, hj, rfl, h1⟩
    · simp only [hh1, if_pos h1]
      exact ⟨trivial, hI⟩
    · have hne1 : ¬ F_X7_isOne M (nI j) = 0 := by rw [h1]; decide
      have w1 := hw.1
      have w2 := hw.2.1
      have hlt := Nat.mod_lt (k + r.1 0 - j) (show 0 < r.1 0 by omega)
      simp only [hh1, if_neg hne1, NI_1, m0]
      rw [sub_left _ (by omega) w1 k hk j hj, sub_mod _ (by omega) w1 k hk j hj, first_nI _ (by omega) hw, firstM_nI _ (by omega) hw hm]
      exact ⟨nI_ne0 (by omega) (by omega), rfl, hI⟩
