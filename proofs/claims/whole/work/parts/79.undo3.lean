-- undo at six lands, and the whole
theorem t_u6 : allG 6 6 0 (fun _ => 0) = true := by decide +kernel
theorem clU_ok {n lv : Nat} {g : Nat → Nat} (h : ∀ i, i < n → lv / 2 ^ i % 2 = 1 → lv / 2 ^ (findB g i n 0) % 2 = 1) : ∀ m, m ≤ n → clU n lv g m = true := by
  intro m
  induction m with
  | zero => exact fun _ => rfl
  | succ m ih =>
    intro hm
    unfold clU
    rw [ih (by omega), Bool.and_true]
    by_cases e : lv / 2 ^ m % 2 = 1
    · rw [if_pos e]
      exact decide_eq_true (h m (by omega) e)
    · rw [if_neg e]
theorem undo_eq {r : NS} (hw : WF r) (hok : ∀ i, i < r.1 0 → okU r i = true) : ∃ g : Nat → Nat, (∀ k, k < r.1 0 → r.2 8 k = g k) ∧ (uM (r.1 5) g (r.1 0) 0 0 0).1 = true ∧ (uM (r.1 5) g (r.1 0) 0 0 0).2 = uX (r.1 0) (r.1 5) (r.1 0) 0 g 0 := by
  have h3 := hw.1
  have h6 := hw.2.1
  have hf : ∀ k, k < r.1 0 → r.2 8 k < r.1 0 := fun k hk => (hw.2.2.2.2.2.2.2.1 k hk).2.1
  have hi : ∀ i j, i < r.1 0 → j < r.1 0 → r.2 8 i = r.2 8 j → i = j := hw.2.2.2.2.2.2.2.2.1
  have all : allG (r.1 0) (r.1 0) 0 (fun _ => 0) = true := by
    have : r.1 0 = 3 ∨ r.1 0 = 4 ∨ r.1 0 = 5 ∨ r.1 0 = 6 := by omega
    rcases this with e | e | e | e
    · rw [e]; exact t_u3
    · rw [e]; exact t_u4
    · rw [e]; exact t_u5
    · rw [e]; exact t_u6
  obtain ⟨g, hg, hc⟩ := allG_get hf hi (r.1 0) 0 (fun _ => 0) (by omega) (fun j hj => absurd hj (by omega)) all
  have c := hc (r.1 5) hw.2.2.2.2.2.1
  have cl : clU (r.1 0) (r.1 5) g (r.1 0) = true := by
    refine clU_ok (fun i hi' hl => ?_) _ (Nat.le_refl _)
    obtain ⟨q, hq, hlq, he⟩ := (of_decide_eq_true (hok i hi')) (decide_eq_true hl)
    have fq : findB g i (r.1 0) 0 = q := findB_eq (by rw [← hg q hq]; exact he) (r.1 0) 0 (by omega) (by omega) (fun j _ hj e' => by
      have := hi j q (by omega) hq ((hg j (by omega)).trans (e'.trans he.symm))
      omega)
    rw [fq]
    exact of_decide_eq_true hlq
  unfold chkU at c
  rw [if_pos cl, Bool.and_eq_true, decide_eq_true_eq] at c
  exact ⟨g, hg, c.1, c.2⟩
theorem sim_undo : Sim_undo Inv := by
  intro X0 X1 X2 X3 X4 X5 X6 X7 X8 M hI
  obtain ⟨⟨r, rfl, hw, hm⟩, hi1, hi2, hp⟩ := id hI
  have h6 := hw.2.1
  have hs : ∀ i, i < r.1 0 → ∃ q, q < r.1 0 ∧ r.2 8 q = i := fun i hi => surj (fun k hk => (hw.2.2.2.2.2.2.2.1 k hk).2.1) hw.2.2.2.2.2.2.2.2.1 hi
  unfold wp_X6_undo
  have key := u1X hw hs (Y1 := X1) (K := fun (q1 : Int32) (U1 : St) => wp_X7_undo M (fun (q : Int32) => q1 = q ∧ Inv (NI r) U1 X2 X3 X4 X5 X6 X7 X8 M)) (kx := wp_X2_takeOver X1 (NI r) (fun (Z5 : St) => (∃ M13, wl_X6_undo_66 (fun (v11 : Int32) (Z12 : St) => wp_X7_undo M (fun (q : Int32) => v11 = q ∧ Inv (NI r) Z12 X2 X3 X4 X5 X6 X7 X8 M)) M13 0 0 Z5))) (fun hok => by
    obtain ⟨g, hg, c1, c2⟩ := undo_eq hw hok
    refine take_any (fun t ht => ?_)
    have hwt := ht.wf hw
    have e0 := ht.1 0 (by omega)
    have e5 := ht.1 5 (by omega)
    have alt : ∀ k, alB t k = alB r k := fun k => by
      unfold alB
      rw [e5]
    have nt : ∀ k, k < r.1 0 → t.2 8 k = r.2 8 k := fun k hk => (ht.2.1 k (by omega)).2.1
    have k2 := u66 (n := r.1 0) (lv := r.1 5) (K := fun (v11 : Int32) (Z12 : St) => wp_X7_undo M (fun (q : Int32) => v11 = q ∧ Inv (NI r) Z12 X2 X3 X4 X5 X6 X7 X8 M)) (r.1 0) 0 0 t g (by omega) hwt e0 e5 (fun k hk => (nt k hk).trans (hg k hk)) (fun i hi hl => by
      rw [alt] at hl
      obtain ⟨k, a, b, c⟩ := (of_decide_eq_true (hok i hi)) hl
      exact ⟨k, a, by rw [alt]; exact b, (nt k a).trans c⟩) (fun Z => by
      unfold wp_X7_undo
      have k3 := u1M hw hm (K := fun (q : Int32) => nI (uX (r.1 0) (r.1 5) (r.1 0) 0 g 0) = q ∧ Inv (NI r) Z X2 X3 X4 X5 X6 X7 X8 M) (kx := ∃ M15, wl_X7_undo_45 M (fun (q : Int32) => nI (uX (r.1 0) (r.1 5) (r.1 0) 0 g 0) = q ∧ Inv (NI r) Z X2 X3 X4 X5 X6 X7 X8 M) M15 0 0 0) (fun _ => by
        have k4 := u45 hw hm hg (K := fun (q : Int32) => nI (uX (r.1 0) (r.1 5) (r.1 0) 0 g 0) = q ∧ Inv (NI r) Z X2 X3 X4 X5 X6 X7 X8 M) (r.1 0) 0 0 0 (by omega) (by omega) c1 ⟨by rw [c2], Inv_keep hI (Keep.refl M) _ _ _ _⟩
        rw [nI_0] at k4
        exact ⟨_, k4⟩) (fun ⟨i, hi, hn⟩ => absurd (hok i hi) hn) (r.1 0) 0 (by omega) (fun j hj => absurd hj (by omega))
      rw [nI_0] at k3
      exact ⟨_, k3⟩)
    rw [nI_0] at k2
    exact ⟨_, k2⟩) (fun hno => by
    unfold wp_X7_undo
    have k3 := u1M hw hm (K := fun (q : Int32) => -6 = q ∧ Inv (NI r) X1 X2 X3 X4 X5 X6 X7 X8 M) (kx := ∃ M15, wl_X7_undo_45 M (fun (q : Int32) => -6 = q ∧ Inv (NI r) X1 X2 X3 X4 X5 X6 X7 X8 M) M15 0 0 0) (fun hok => by
      obtain ⟨i, hi, hn⟩ := hno
      exact absurd (hok i hi) hn) (fun _ => ⟨rfl, hI⟩) (r.1 0) 0 (by omega) (fun j hj => absurd hj (by omega))
    rw [nI_0] at k3
    exact ⟨_, k3⟩) (r.1 0) 0 (by omega) (fun j hj => absurd hj (by omega))
  rw [nI_0] at key
  exact ⟨_, key⟩
