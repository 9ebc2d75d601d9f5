-- judge, done, behind and day themselves
theorem neg6 {j : Nat} (h : j ≤ 60) : nI j ≠ -6 := by
  have : ∀ j, j < 61 → nI j ≠ (-6 : Int32) := by decide +kernel
  exact this j (by omega)
theorem sim_judge : Sim_judge Inv := by
  intro X0 X1 X2 X3 X4 X5 X6 X7 X8 M a0 hI
  obtain ⟨⟨r, rfl, hw, hm⟩, hi1, hi2, p, d, hp60, e1, e2, hd⟩ := id hI
  unfold wp_X6_judge wp_X7_judge
  by_cases h : F_X7_in a0 0 1 = 0
  · rw [if_pos (show F_X6_within a0 0 1 = 0 from h)]
    dsimp only
    rw [if_pos h]
    exact ⟨rfl, hI⟩
  · rw [if_neg (show ¬ F_X6_within a0 0 1 = 0 from h)]
    refine fault_X hw hp60 e1 hd ?_
    rcases fv_or (r.1 0) d p 0 (by omega) with hf | ⟨j, hj, hf⟩
    · rw [hf, if_pos rfl]
      refine canBe_X hw hp60 e1 (fun k hk => ⟨(hd k hk).1, by have := (hd k hk).2.2.2; omega⟩) hf (fun t ht S s0 s1 => ⟨fun hz => ?_, fun hz => ?_⟩)
      · rw [if_neg (by decide)]
        dsimp only
        rw [if_neg h]
        refine fault_M hw hm hp60 e2 hd ?_
        rw [hf, if_pos (by decide)]
        refine go_M hw hm hp60 e2 (fun k hk => ⟨(hd k hk).2.1, by have := (hd k hk).2.2.2; omega⟩) hf ht (fun _ N c' hN => ?_) (fun hz' => absurd hz hz')
        rw [if_pos (by decide)]
        exact ⟨rfl, Inv_keep hI hN.1 _ _ _ _⟩
      · have ha := (run_ok (d := d) (n := r.1 0) (by have := hw.2.1; omega) p 0 t 0 (by omega) hf (ht.1.wf hw) (ht.1.1 0 (by omega))).2.2.1
        rw [if_pos rfl]
        have fin : ∀ (v : Int32), ((a0 = 0 → v = S.1 0) ∧ (¬ a0 = 0 → v = S.1 1)) → wp_X7_faultOf M (fun (v2 : Int32) => (if v2 < 0 then (wp_X7_goYears M (fun (v4 : Int32) (Z5 : St) => (if v4 < 0 then (v = v4 ∧ Inv (NI r) (NI (runY d p 0 t 0).2.2) X2 X3 X4 X5 S X7 X8 Z5) else (if a0 = 0 then (v = v4 ∧ Inv (NI r) (NI (runY d p 0 t 0).2.2) X2 X3 X4 X5 S X7 X8 Z5) else (v = Z5.1 21 ∧ Inv (NI r) (NI (runY d p 0 t 0).2.2) X2 X3 X4 X5 S X7 X8 Z5))))) else (v = -5 ∧ Inv (NI r) (NI (runY d p 0 t 0).2.2) X2 X3 X4 X5 S X7 X8 M))) := by
          intro v hv
          refine fault_M hw hm hp60 e2 hd ?_
          rw [hf, if_pos (by decide)]
          refine go_M hw hm hp60 e2 (fun k hk => ⟨(hd k hk).2.1, by have := (hd k hk).2.2.2; omega⟩) hf ht (fun hz' => absurd hz' hz) (fun _ N n1 n2 n3 => ?_)
          rw [if_neg (nI_pos (by omega))]
          by_cases h0 : a0 = 0
          · rw [if_pos h0]
            exact ⟨(hv.1 h0).trans s0, Inv_keep hI n1 _ _ _ _⟩
          · rw [if_neg h0]
            exact ⟨(hv.2 h0).trans (s1.trans n2.symm), Inv_keep hI n1 _ _ _ _⟩
        by_cases h0 : a0 = 0
        · rw [if_pos h0]
          dsimp only
          rw [if_neg h]
          exact fin _ ⟨fun _ => rfl, fun x => absurd h0 x⟩
        · rw [if_neg h0]
          dsimp only
          rw [if_neg h]
          exact fin _ ⟨fun x => absurd x h0, fun _ => rfl⟩
    · rw [hf, if_neg (neg6 hj)]
      dsimp only
      rw [if_neg h]
      refine fault_M hw hm hp60 e2 hd ?_
      rw [hf, if_neg (nI_pos (by omega))]
      exact ⟨rfl, hI⟩
/-- both sides' bar at once -/
theorem bar_both {X1 X5 X6 M : St} {r : NS} {p : Nat} {d : Nat → Nat} (hw : WF r) (hm : MR M r) (hp : p ≤ 60) (e1 : X5.1 1 = nI p) (e2 : M.1 12 = nI p) (hd : ∀ k, k < p → X5.2 0 k = nI (d k) ∧ M.2 13 k = nI (d k) ∧ 33 ≤ d k ∧ d k ≤ 126) {K : Int32 → St → St → Prop} (hA : ∀ Z1 Z6, (∀ KM : Int32 → St → Prop, (∀ N, Keep M N → KM (-5) N) → wp_X7_barOfYears M KM) → K 0 Z1 Z6) (hB : ∀ (R : NS) (a : Nat) (Z6 : St), WF R → KS r R → Z6.1 0 = nI a → (∀ KM : Int32 → St → Prop, (∀ N c, TR M N R a c → KM 0 N) → wp_X7_barOfYears M KM) → K 1 (NI R) Z6) : wp_X6_yearsCanBe (NI r) X1 X5 X6 K := by
  have h6 := hw.2.1
  unfold wp_X6_yearsCanBe
  refine fault_X hw hp e1 hd ?_
  rcases fv_or (r.1 0) d p 0 (by omega) with hf | ⟨j, hj, hf⟩
  · rw [hf, if_pos rfl]
    refine canBe_X hw hp e1 (fun k hk => ⟨(hd k hk).1, by have := (hd k hk).2.2.2; omega⟩) hf (fun t ht S s0 s1 => ?_)
    obtain ⟨o1, o2, o3, o4⟩ := run_ok (d := d) (n := r.1 0) (by omega) p 0 t 0 (by omega) hf (ht.1.wf hw) (ht.1.1 0 (by omega))
    refine ⟨fun hz => ?_, fun hz => ?_⟩
    · rw [if_neg (by decide)]
      refine hB _ _ S o1 (ht.1.ks.trans o2) s0 (fun KM hKM => ?_)
      unfold wp_X7_barOfYears
      refine fault_M hw hm hp e2 hd ?_
      rw [hf, if_neg (by decide)]
      refine go_M hw hm hp e2 (fun k hk => ⟨(hd k hk).2.1, by have := (hd k hk).2.2.2; omega⟩) hf ht (fun _ N c' hN => ?_) (fun hz' => absurd hz hz')
      rw [if_pos (by decide)]
      exact hKM N c' hN
    · rw [if_pos rfl]
      refine hA _ _ (fun KM hKM => ?_)
      unfold wp_X7_barOfYears
      refine fault_M hw hm hp e2 hd ?_
      rw [hf, if_neg (by decide)]
      refine go_M hw hm hp e2 (fun k hk => ⟨(hd k hk).2.1, by have := (hd k hk).2.2.2; omega⟩) hf ht (fun hz' => absurd hz' hz) (fun _ N n1 n2 n3 => ?_)
      rw [if_neg (nI_pos (by omega))]
      exact hKM N n1
  · rw [hf, if_neg (neg6 hj)]
    refine hA _ _ (fun KM hKM => ?_)
    unfold wp_X7_barOfYears
    refine fault_M hw hm hp e2 hd ?_
    rw [hf, if_pos (le0 (by omega))]
    exact hKM M (Keep.refl M)
theorem sim_day : Sim_day Inv := by
  intro X0 X1 X2 X3 X4 X5 X6 X7 X8 M hI
  obtain ⟨⟨r, rfl, hw, hm⟩, hi1, hi2, p, d, hp60, e1, e2, hd⟩ := id hI
  unfold wp_X6_day wp_X7_day
  refine bar_both hw hm hp60 e1 e2 hd (fun Z1 Z6 run => ?_) (fun R a Z6 hR hks ha run => ?_)
  · rw [if_pos rfl]
    refine run _ (fun N hN => ?_)
    rw [if_neg (by decide)]
    exact ⟨rfl, Inv_keep hI hN _ _ _ _⟩
  · rw [if_neg (by decide)]
    refine run _ (fun N c hN => ?_)
    rw [if_pos (by decide)]
    exact ⟨hN.2.1.symm, Inv_keep hI hN.1 _ _ _ _⟩
theorem sim_behind : Sim_behind Inv := by
  intro X0 X1 X2 X3 X4 X5 X6 X7 X8 M a0 a1 hI
  obtain ⟨⟨r, rfl, hw, hm⟩, hi1, hi2, p, d, hp60, e1, e2, hd⟩ := id hI
  have h6 := hw.2.1
  obtain ⟨hh, hk⟩ := has_one hw hm a0
  unfold wp_X6_behind wp_X7_behind
  rw [hh]
  by_cases h : F_X7_isOne M a0 = 0
  · rw [if_pos h]
    dsimp only
    rw [if_pos h]
    exact ⟨by trivial, hI⟩
  · simp only [if_neg h]
    obtain ⟨k, hkr, rfl, -⟩ := hk.resolve_left h
    by_cases h2 : F_X7_in a1 0 2 = 0
    · rw [if_pos (show F_X6_within a1 0 2 = 0 from h2)]
      rw [if_pos h2]
      exact ⟨by trivial, hI⟩
    · rw [if_neg (show ¬ F_X6_within a1 0 2 = 0 from h2)]
      simp only [if_neg h2]
      refine bar_both hw hm hp60 e1 e2 hd (fun Z1 Z6 run => ?_) (fun R a Z6 hR hks ha run => ?_)
      · rw [if_pos rfl]
        refine run _ (fun N hN => ?_)
        rw [if_neg (by decide)]
        exact ⟨by trivial, Inv_keep hI hN _ _ _ _⟩
      · have hkR : k < R.1 0 := by rw [hks.1]; exact hkr
        have v6 : vp_in (nI k) 6 := vp6 (by omega)
        have ck : (nI k).toNatClampNeg = k := clamp_nI (by omega)
        rw [if_neg (by decide)]
        by_cases z0 : a1 = 0
        · rw [if_pos z0]
          refine run _ (fun N c hN => ?_)
          obtain ⟨g1, g2, g3, g4⟩ := hN.2.2.2.2.2.2 k hkR
          rw [if_pos (by decide), if_pos z0, ck]
          refine ⟨v6, ?_, Inv_keep hI hN.1 _ _ _ _⟩
          rw [show (0 : Int32) = nI 0 from nI_0.symm, landAfter_nI hR hkR (by omega), landE_0 hR hkR]
          exact g1.symm
        · rw [if_neg z0]
          by_cases z1 : a1 = 1
          · rw [if_pos z1]
            refine run _ (fun N c hN => ?_)
            obtain ⟨g1, g2, g3, g4⟩ := hN.2.2.2.2.2.2 k hkR
            rw [if_pos (by decide), if_neg z0, if_pos z1, ck]
            refine ⟨v6, ?_, Inv_keep hI hN.1 _ _ _ _⟩
            rw [getR _ _ (show k < 6 by omega) (by omega)]
            exact g2.symm
          · rw [if_neg z1]
            refine run _ (fun N c hN => ?_)
            obtain ⟨g1, g2, g3, g4⟩ := hN.2.2.2.2.2.2 k hkR
            rw [if_pos (by decide), if_neg z0, if_neg z1, ck]
            refine ⟨v6, ?_, Inv_keep hI hN.1 _ _ _ _⟩
            rw [getR _ _ (show k < 6 by omega) (by omega)]
            exact g4.symm
/-- behind i rows of the reference's done -/
def doR (M0 N : St) (i : Nat) : Prop := N.1 = (sI (sI (sI M0 2 (M0.1 14)) 3 (M0.1 15)) 4 (M0.1 16)).1 ∧ (∀ j, j ≠ 5 → j ≠ 6 → j ≠ 7 → N.2 j = M0.2 j) ∧ ∀ k, k < i → N.2 5 k = M0.2 17 k ∧ N.2 6 k = M0.2 18 k ∧ N.2 7 k = M0.2 19 k
theorem do_lp {M0 : St} {K : St → Prop} (hK : ∀ N, doR M0 N 6 → K N) : ∀ n i N, i + n = 6 → doR M0 N i → wl_X7_done_36 K (n + 1) (nI i) N := by
  have e6 : (6 : Int32) = nI 6 := by decide
  intro n
  induction n with
  | zero =>
    intro i N hi h
    unfold wl_X7_done_36
    rw [if_pos (by rw [show i = 6 by omega]; decide)]
    rw [show i = 6 by omega] at h
    exact hK N h
  | succ n ih =>
    intro i N hi h
    obtain ⟨k1, k2, k3⟩ := h
    have v6 : vp_in (nI i) 6 := vp6 (by omega)
    unfold wl_X7_done_36
    rw [if_neg (by rw [e6]; exact nI_ge (by omega) (by omega)), clamp_nI (by omega), nI_1]
    refine ⟨v6, v6, v6, v6, v6, v6, ?_⟩
    refine ih (i + 1) _ (by omega) ⟨k1, fun j h5 h6 h7 => ?_, fun k hk => ?_⟩
    · rw [sA_2, if_neg h7, sA_2, if_neg h6, sA_2, if_neg h5]
      exact k2 j h5 h6 h7
    · show upd (N.2 5) i (N.2 17 i) k = _ ∧ upd (N.2 6) i (N.2 18 i) k = _ ∧ upd (N.2 7) i (N.2 19 i) k = _
      rw [k2 17 (by decide) (by decide) (by decide), k2 18 (by decide) (by decide) (by decide), k2 19 (by decide) (by decide) (by decide)]
      unfold upd
      by_cases e : k = i
      · rw [if_pos e, if_pos e, if_pos e, e]
        exact ⟨rfl, rfl, rfl⟩
      · rw [if_neg e, if_neg e, if_neg e]
        exact k3 k (by omega)
theorem sim_done : Sim_done Inv := by
  intro X0 X1 X2 X3 X4 X5 X6 X7 X8 M hI
  obtain ⟨⟨r, rfl, hw, hm⟩, hi1, hi2, p, d, hp60, e1, e2, hd⟩ := id hI
  have h6 := hw.2.1
  unfold wp_X6_done wp_X7_done
  refine bar_both hw hm hp60 e1 e2 hd (fun Z1 Z6 run => ?_) (fun R a Z6 hR hks ha run => ?_)
  · rw [if_pos rfl]
    refine run _ (fun N hN => ?_)
    rw [if_neg (by decide)]
    exact ⟨rfl, Inv_keep hI hN _ _ _ _⟩
  · rw [if_neg (by decide)]
    refine take_any (fun q hq => ?_)
    unfold wp_X1_clear
    refine run _ (fun N c hN => ?_)
    rw [if_pos (by decide)]
    have key := do_lp (M0 := N) (K := fun Z8 => Z6.1 0 = Z8.1 22 ∧ Inv (NI q) (NI R) X2 X3 X4 (sI X5 1 0) Z6 X7 X8 (sI Z8 12 0)) (fun Z hZ => by
      obtain ⟨k1, k2, k3, k4, k5, k6, k7⟩ := hN
      obtain ⟨z1, z2, z3⟩ := hZ
      obtain ⟨m0, m1, m2, m3, m4, m10, m5, m11⟩ := hm
      obtain ⟨s0, s1, s6, sA, sB⟩ := hks
      obtain ⟨q1, q2, q3⟩ := hq
      have zi : ∀ i, i ≠ 2 → i ≠ 3 → i ≠ 4 → Z.1 i = N.1 i := by
        intro i i2 i3 i4
        rw [z1, sI_1, if_neg i4, sI_1, if_neg i3, sI_1, if_neg i2]
      refine ⟨?_, ⟨q, rfl, EqR.wf ⟨q1, q2, q3⟩ hR, ?_⟩, ?_, ?_, 0, d, by omega, nI_0.symm, nI_0.symm, fun k hk => absurd hk (by omega)⟩
      · rw [zi 22 (by decide) (by decide) (by decide), k6]
        exact ha
      · refine ⟨?_, ?_, ?_, ?_, ?_, ?_, fun k hk => ?_, fun i hi => ?_⟩
        · show Z.1 0 = _
          rw [zi 0 (by decide) (by decide) (by decide), k1.1 0 (by omega), m0, q1 0 (by omega), s0]
        · show Z.1 1 = _
          rw [zi 1 (by decide) (by decide) (by decide), k1.1 1 (by omega), m1, q1 1 (by omega), s1]
        · show Z.1 2 = _
          rw [z1, q1 2 (by omega)]
          exact k2
        · show Z.1 3 = _
          rw [z1, q1 4 (by omega)]
          exact k3
        · show Z.1 4 = _
          rw [z1, q1 3 (by omega)]
          exact k4
        · show Z.1 10 = _
          rw [zi 10 (by decide) (by decide) (by decide), k1.1 10 (by omega), m10, q1 6 (by omega), s6]
        · rw [q1 0 (by omega)] at hk
          obtain ⟨g1, g2, g3, -⟩ := k7 k hk
          have hkr : k < r.1 0 := by rw [← s0]; exact hk
          obtain ⟨b5, b6, b7, b8, b9⟩ := m5 k hkr
          obtain ⟨y1, y2, y3⟩ := z3 k (by omega)
          obtain ⟨c7, c8, c9, c11, c12⟩ := q2 k (by omega)
          refine ⟨?_, ?_, ?_, ?_, ?_⟩
          · refine y1.trans (g1.trans ?_)
            unfold landI
            rw [q1 5 (by omega), q1 0 (by omega), c7]
          · exact y2.trans (g2.trans (by rw [c8]))
          · exact y3.trans (g3.trans (by rw [c9]))
          · show Z.2 8 k = _
            rw [z2 8 (by decide) (by decide) (by decide), k1.2.1 8 (by omega), b8, c12, (sA k (by omega)).2]
          · show Z.2 9 k = _
            rw [z2 9 (by decide) (by decide) (by decide), k1.2.1 9 (by omega), b9, c11, (sA k (by omega)).1]
        · rw [q1 6 (by omega), s6] at hi
          have h8 := hw.2.2.2.2.2.2.1
          obtain ⟨b1, b2⟩ := m11 i hi
          obtain ⟨c1, c2⟩ := q3 i (by omega)
          obtain ⟨c3, c4⟩ := sB i (by omega)
          show Z.2 11 (2 * i) = _ ∧ Z.2 11 (2 * i + 1) = _
          rw [z2 11 (by decide) (by decide) (by decide), k1.2.1 11 (by omega), c1, c2, c3, c4]
          exact ⟨b1, b2⟩
      · exact ImR_of hi1 (by show Z.2 25 = _; rw [z2 25 (by decide) (by decide) (by decide)]; exact k1.2.2.1) (by show Z.2 26 = _; rw [z2 26 (by decide) (by decide) (by decide)]; exact k1.2.2.2)
      · exact ImR_of hi2 (by show Z.2 25 = _; rw [z2 25 (by decide) (by decide) (by decide)]; exact k1.2.2.1) (by show Z.2 26 = _; rw [z2 26 (by decide) (by decide) (by decide)]; exact k1.2.2.2)) 6 0 (sI (sI (sI N 2 (N.1 14)) 3 (N.1 15)) 4 (N.1 16)) (by omega) ⟨rfl, fun j _ _ _ => rfl, fun k hk => absurd hk (by omega)⟩
    rw [nI_0] at key
    exact ⟨_, key⟩
