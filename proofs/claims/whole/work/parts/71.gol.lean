-- the reference's loop over the pad
theorem fs_die {r : NS} {k s : Nat} (h1 : s = 100) (h0 : (fate r k s).1 = 0) : alB r k = true ∧ fate r k s = (0, nDie r k) := by
  unfold fate at h0 ⊢
  rw [if_pos h1] at h0 ⊢
  unfold dieF at h0 ⊢
  by_cases h : alB r k = true
  · rw [if_pos h]
    exact ⟨h, rfl⟩
  · rw [if_neg h] at h0
    exact absurd h0 (Nat.succ_ne_zero _)
theorem bF_0 {r : NS} {k b : Nat} (h0 : (bindF r k b).1 = 0) : bindF r k b = (0, nBind r k b) := by
  unfold bindF at h0 ⊢
  by_cases h : alB r k = true
  · rw [if_pos h] at h0 ⊢
    by_cases h9 : r.2 9 k = 0
    · rw [if_pos h9]
    · rw [if_neg h9] at h0
      exact absurd h0 (Nat.succ_ne_zero _)
  · rw [if_neg h] at h0
    exact absurd h0 (Nat.succ_ne_zero _)
theorem fs_m {r : NS} {k s : Nat} (h1 : s = 109) (h0 : (fate r k s).1 = 0) : fate r k s = (0, nBind r k 2) := by
  unfold fate at h0 ⊢
  rw [if_neg (by omega), if_pos h1] at h0 ⊢
  exact bF_0 h0
theorem fs_s {r : NS} {k s : Nat} (h1 : s = 115) (h0 : (fate r k s).1 = 0) : fate r k s = (0, nBind r k 1) := by
  unfold fate at h0 ⊢
  rw [if_neg (by omega), if_neg (by omega), if_pos h1] at h0 ⊢
  exact bF_0 h0
theorem fate_h {r : NS} {k s n : Nat} (hn : n < 7) (h : chB n s = true) : fate r k s = hatF r k (s - 65) := by
  have := ch_k h
  unfold fate
  rw [if_neg (by omega), if_neg (by omega), if_neg (by omega)]
theorem fs_h {r : NS} {a b : Nat} (h0 : (hatF r a b).1 = 0) : hatF r a b = (0, nSwap r a b) := by
  unfold hatF at h0 ⊢
  by_cases h : alB r a = true
  · rw [if_pos h] at h0 ⊢
    by_cases h2 : alB r b = true
    · rw [if_pos h2] at h0 ⊢
      by_cases hab : a = b
      · rw [if_pos hab] at h0
        exact absurd h0 (Nat.succ_ne_zero _)
      · rw [if_neg hab] at h0 ⊢
        by_cases h3 : r.1 3 = 0
        · rw [if_pos h3]
        · rw [if_neg h3] at h0
          exact absurd h0 (Nat.succ_ne_zero _)
    · rw [if_neg h2] at h0
      exact absurd h0 (Nat.succ_ne_zero _)
  · rw [if_neg h] at h0
    exact absurd h0 (Nat.succ_ne_zero _)
theorem TR_die {M0 M : St} {r : NS} {a c k : Nat} (h : TR M0 M r a c) (hw : WF r) (hk : k < r.1 0) (hl : alB r k = true) : TR M0 (sI (sA (sA (sI (sI M 21 0) 21 0) 17 (upd (M.2 17) k (-6))) 19 (upd (M.2 19) k (M.2 19 k))) 22 (M.1 22 + 1)) (nDie r k) (a + 1) 0 := by
  obtain ⟨k1, k2, k3, k4, k5, k6, k7⟩ := id h
  refine TR_f h (fun j hj => by unfold nDie; rw [nsI_1, if_neg hj]) rfl rfl nI_0.symm (by rw [k6, nI_1]) (fun j hj => ?_) (fun j hj => ?_)
  · rw [die_land hw hk hl j hj]
    unfold upd
    by_cases e : j = k
    · rw [if_pos e, if_pos e]
    · rw [if_neg e, if_neg e]
      exact (k7 j hj).1
  · unfold upd
    by_cases e : j = k
    · rw [if_pos e, ← e]
      exact (k7 j hj).2.2.1
    · rw [if_neg e]
      exact (k7 j hj).2.2.1
theorem TR_bind {M0 M : St} {r : NS} {a c k b : Nat} (h : TR M0 M r a c) (hk : k < r.1 0) {x : Int32} (hx : x = nI b) : TR M0 (sI (sA (sA (sI (sI M 21 0) 21 0) 17 (upd (M.2 17) k (M.2 17 k))) 19 (upd (M.2 19) k x)) 22 (M.1 22 + 1)) (nBind r k b) (a + 1) 0 := by
  obtain ⟨k1, k2, k3, k4, k5, k6, k7⟩ := id h
  refine TR_f h (fun j hj => rfl) rfl rfl nI_0.symm (by rw [k6, nI_1]) (fun j hj => ?_) (fun j hj => ?_)
  · show _ = landI r j
    unfold upd
    by_cases e : j = k
    · rw [if_pos e, ← e]
      exact (k7 j hj).1
    · rw [if_neg e]
      exact (k7 j hj).1
  · show _ = nI (nup (r.2 9) k b j)
    unfold upd nup
    by_cases e : j = k
    · rw [if_pos e, if_pos e]
      exact hx
    · rw [if_neg e, if_neg e]
      exact (k7 j hj).2.2.1
theorem TR_swap {M0 M : St} {r : NS} {a c k l : Nat} (h : TR M0 M r a c) (hk : k < r.1 0) (hl : l < r.1 0) : TR M0 (sI (sA (sA (sI (sI M 21 0) 21 0) 18 (upd (M.2 18) k (M.2 18 l))) 18 (upd (upd (M.2 18) k (M.2 18 l)) l (M.2 18 k))) 22 (M.1 22 + 1)) (nSwap r k l) (a + 1) 0 := by
  obtain ⟨k1, k2, k3, k4, k5, k6, k7⟩ := id h
  refine TR_h h (fun j => rfl) rfl rfl rfl nI_0.symm (by rw [k6, nI_1]) (fun j hj => ?_)
  show _ = nI (nup (nup (r.2 8) k (r.2 8 l)) l (r.2 8 k) j)
  unfold upd nup
  by_cases e : j = l
  · rw [if_pos e, if_pos e]
    exact (k7 k hk).2.1
  · rw [if_neg e, if_neg e]
    by_cases e2 : j = k
    · rw [if_pos e2, if_pos e2]
      exact (k7 l hl).2.1
    · rw [if_neg e2, if_neg e2]
      exact (k7 j hj).2.1
theorem t_code : ∀ c, c < 5 → c ≠ 0 → 0 < nI c ∧ ¬ nI c ≤ 0 ∧ nI c ≠ 0 := by decide +kernel
theorem fate_4 (r : NS) (k s : Nat) : (fate r k s).1 ≤ 4 := by
  unfold fate dieF bindF hatF
  repeat' split
  all_goals exact Nat.le_of_ble_eq_true rfl
theorem goM {M0 : St} {p n L : Nat} {d : Nat → Nat} (hn : n < 7) (hp : p ≤ 60) (h0 : M0.1 0 = nI n) (hl : M0.1 1 = nI L) (e1 : M0.1 12 = nI p) (hd : ∀ k, k < p → M0.2 13 k = nI (d k) ∧ d k < 127) {kx : St → Prop} {K : Int32 → St → Prop} : ∀ (m i : Nat) (r : NS) (a c : Nat) (M : St), i + m = p → fv n d m i = -6 → WF r → r.1 0 = n → r.1 1 = L → TR M0 M r a c → ((runY d m i r a).1 = 0 → ∀ N c', TR M0 N (runY d m i r a).2.2 (runY d m i r a).2.1 c' → kx N) → ((runY d m i r a).1 ≠ 0 → ∀ N, Keep M0 N → N.1 21 = nI (runY d m i r a).1 → N.1 22 = nI (runY d m i r a).2.1 → K (nI (runY d m i r a).2.1) N) → ∀ F, m < F → wl_X7_goYears_11 kx K F (nI i) M := by
  intro m
  induction m using Nat.strongRecOn with
  | _ m ih =>
    intro i r a c M hi hf hw hr hL hT hK0 hK1 F hF
    obtain ⟨k1, k2, k3, k4, k5, k6, k7⟩ := id hT
    obtain ⟨w0, w1, w2, w3, w4, -⟩ := id hw
    obtain ⟨F, rfl⟩ : ∃ G, F = G + 1 := ⟨F - 1, by omega⟩
    unfold wl_X7_goYears_11
    rw [k1.1 12 (by omega), e1]
    cases m with
    | zero =>
      rw [if_pos (by rw [show i = p by omega]; exact Int32.le_refl _)]
      exact hK0 rfl M c hT
    | succ m =>
      obtain ⟨d0, b0⟩ := hd i (by omega)
      have g0 : M.2 13 (nI i).toNatClampNeg = nI (d i) := by rw [clamp_nI (by omega), k1.2.1 13 (by omega)]; exact d0
      have z0 : (sI M 21 0).1 0 = nI n := by show M.1 0 = _; rw [k1.1 0 (by omega)]; exact h0
      rw [if_neg (nI_ge (show i < p by omega) (by omega)), g0, isChild_n z0 hn b0]
      refine ⟨vp_in_nI (by omega) (by omega), ?_⟩
      have hTc := TR_c hT
      by_cases ht : tmB (d i) = true
      · have hc : ¬ chB n (d i) = true := fun h => t_tmch _ hn _ b0 ht h
        obtain ⟨t1, t2⟩ := t_46 (d i) b0
        have hf' : fv n d m (i + 1) = -6 := by
          unfold fv at hf
          rw [if_pos ht] at hf
          exact hf
        have er : runY d (m + 1) i r a = runY d m (i + 1) (nTime r (d i)) (a + 1) := by
          conv => lhs; unfold runY
          rw [if_pos ht]
        rw [er] at hK0 hK1
        have fin : ∀ N, TR M0 N (nTime r (d i)) a 0 → if N.1 21 ≤ 0 then wl_X7_goYears_11 kx K F (nI i + 1) (sI N 22 (N.1 22 + 1)) else K (N.1 22) N := by
          intro N hN
          rw [hN.2.2.2.2.1, nI_0, if_pos (by decide), nI_1]
          exact ih m (by omega) (i + 1) (nTime r (d i)) (a + 1) 0 (sI N 22 (N.1 22 + 1)) (by omega) hf' (nTime_wf hw _) (by rw [nTime_n]; exact hr) (by rw [nTime_l]; exact hL) (TR_a hN) hK0 hK1 F (by omega)
        rw [if_neg hc, if_pos rfl]
        unfold nTime at fin
        by_cases h1 : d i = 46
        · rw [if_pos h1] at fin
          rw [if_pos (t1.2 h1)]
          exact daysM i1 (by omega) hw (by rw [hr]; exact h0) (by rw [hL]; exact hl) hTc fin
        · rw [if_neg h1] at fin
          rw [if_neg (fun y => h1 (t1.1 y))]
          by_cases h2 : d i = 58
          · rw [if_pos h2] at fin
            rw [if_pos (t2.2 h2)]
            exact daysM (m := 10) (by decide) (by omega) hw (by rw [hr]; exact h0) (by rw [hL]; exact hl) hTc fin
          · rw [if_neg h2] at fin
            rw [if_neg (fun y => h2 (t2.1 y))]
            refine daysM (m := r.1 1 - r.1 3) ?_ (by omega) hw (by rw [hr]; exact h0) (by rw [hL]; exact hl) hTc fin
            rw [k1.1 1 (by omega), hl, k4, ← hL]
            exact pk_sub (by omega)
      · obtain ⟨hc, m, rfl, ho, hf'⟩ := fv_ch hf (by omega) ht
        obtain ⟨d1, b1⟩ := hd (i + 1) (by omega)
        obtain ⟨c1, c2⟩ := ch_k hc
        have g1 : M.2 13 (nI (i + 1)).toNatClampNeg = nI (d (i + 1)) := by rw [clamp_nI (by omega), k1.2.1 13 (by omega)]; exact d1
        have kk : nI (d i) - 65 = nI (d i - 65) := pk_sub (a := d i) (b := 65) (by omega)
        have v6 : vp_in (nI (d i - 65)) 6 := vp6 (by omega)
        have ck : (nI (d i - 65)).toNatClampNeg = d i - 65 := clamp_nI (by omega)
        have hkr : d i - 65 < r.1 0 := by omega
        rw [if_pos hc, if_neg (by decide), nI_1, g1, isChild_n z0 hn b1, kk, ck, show nI i + 2 = nI (i + 2) from nI_k i 2 (by decide)]
        refine ⟨vp_in_nI (by omega) (by omega), ?_⟩
        have hwf := fate_wf (k := d i - 65) (s := d (i + 1)) hw (by omega) (by rw [hr]; exact ho)
        have hI := fun j (hj : j ≠ 5) => fate_I r (d i - 65) (d (i + 1)) hj
        have h4 := fate_4 r (d i - 65) (d (i + 1))
        have er : runY d (m + 1 + 1) i r a = if (fate r (d i - 65) (d (i + 1))).1 = 0 then runY d m (i + 2) (fate r (d i - 65) (d (i + 1))).2 (a + 1) else ((fate r (d i - 65) (d (i + 1))).1, a, (fate r (d i - 65) (d (i + 1))).2) := by
          conv => lhs; unfold runY
          rw [if_neg ht]
        rw [er] at hK0 hK1
        obtain ⟨t1, t2, t3⟩ := t_s (d (i + 1)) b1
        have rgo : (fate r (d i - 65) (d (i + 1))).1 = 0 → ∀ N, TR M0 N (fate r (d i - 65) (d (i + 1))).2 (a + 1) 0 → wl_X7_goYears_11 kx K F (nI (i + 2)) N := by
          intro hz N hN
          rw [if_pos hz] at hK0 hK1
          exact ih m (by omega) (i + 2) _ (a + 1) 0 N (by omega) hf' hwf ((hI 0 (by decide)).trans hr) ((hI 1 (by decide)).trans hL) hN hK0 hK1 F (by omega)
        have stop : (fate r (d i - 65) (d (i + 1))).1 ≠ 0 → ∀ N, Keep M0 N → N.1 21 = nI (fate r (d i - 65) (d (i + 1))).1 → N.1 22 = nI a → K (M.1 22) N := by
          intro hz N n1 n2 n3
          rw [if_neg hz] at hK1
          rw [k6]
          exact hK1 hz N n1 n2 n3
        by_cases hc1 : chB n (d (i + 1)) = true
        · obtain ⟨c3, c4⟩ := ch_k hc1
          have kj : nI (d (i + 1)) - 65 = nI (d (i + 1) - 65) := pk_sub (a := d (i + 1)) (b := 65) (by omega)
          have cj : (nI (d (i + 1) - 65)).toNatClampNeg = d (i + 1) - 65 := clamp_nI (by omega)
          have fe := fate_h (r := r) (k := d i - 65) hn hc1
          rw [if_pos hc1, if_neg (by decide), kj]
          refine whyHM hTc hw hkr (by omega) ?_
          rw [fe] at rgo stop h4
          by_cases hz : (hatF r (d i - 65) (d (i + 1) - 65)).1 = 0
          · rw [hz, nI_0, if_pos rfl]
            have rgo := rgo hz
            rw [fs_h hz] at rgo
            unfold wp_X7_hats
            refine ⟨v6, vp6 (by omega), v6, vp6 (by omega), ?_⟩
            rw [ck, cj]
            refine (if_pos (show (0 : Int32) ≤ 0 by decide)).mpr ?_
            exact rgo _ (TR_swap hT hkr (by omega))
          · obtain ⟨z1, z2, z3⟩ := t_code _ (Nat.lt_succ_of_le h4) hz
            rw [if_neg z3, if_neg z2]
            exact stop hz _ (kpI (kpI k1 _ (by omega)) _ (by omega)) rfl k6
        · have h3 : d (i + 1) = 100 ∨ d (i + 1) = 109 ∨ d (i + 1) = 115 := by
            rcases ho with h | h
            · unfold ftB at h
              rw [decide_eq_true_eq] at h
              omega
            · exact absurd h hc1
          rw [if_neg hc1, if_pos rfl]
          refine whyM hTc hw hkr b1 h3 ?_
          by_cases hz : (fate r (d i - 65) (d (i + 1))).1 = 0
          · have rgo := rgo hz
            rw [hz, nI_0, if_pos rfl]
            by_cases s1 : d (i + 1) = 100
            · obtain ⟨al, fe⟩ := fs_die s1 hz
              rw [fe] at rgo
              rw [if_pos (t1.2 s1)]
              refine ⟨v6, ?_⟩
              rw [if_neg (by decide)]
              refine ⟨v6, v6, ?_⟩
              rw [if_pos (by decide)]
              exact rgo _ (TR_die hT hw hkr al)
            · rw [if_neg (fun y => s1 (t1.1 y))]
              refine ⟨v6, v6, ?_⟩
              rw [if_neg (by decide)]
              by_cases s2 : d (i + 1) = 115
              · have fe := fs_s s2 hz
                rw [fe] at rgo
                rw [if_pos (t3.2 s2)]
                refine ⟨v6, ?_⟩
                rw [if_pos (by decide)]
                exact rgo _ (TR_bind hT hkr i1)
              · have fe := fs_m (by omega) hz
                rw [fe] at rgo
                rw [if_neg (fun y => s2 (t3.1 y))]
                refine ⟨v6, ?_⟩
                rw [if_pos (by decide)]
                exact rgo _ (TR_bind hT hkr i2)
          · obtain ⟨z1, z2, z3⟩ := t_code _ (Nat.lt_succ_of_le h4) hz
            rw [if_neg z3]
            refine ⟨v6, v6, ?_⟩
            rw [if_pos z1]
            refine ⟨v6, v6, ?_⟩
            rw [if_neg z2]
            exact stop hz _ (kp1 (kp1 (kpI (kpI k1 _ (by omega)) _ (by omega)) _ (by omega) (by omega)) _ (by omega) (by omega)) rfl k6
