-- laid by wip/whole/all.py: the walks
set_option maxHeartbeats 4000000 in
set_option maxRecDepth 100000 in
theorem c_X1_add (l : Launch) (D : va_G) (cI cZ : ClassId) (ad : Nat → Nat) (o0 : Nat) (S0 : St) (x1 : Int32) (k : Int32 → St → Prop) (hw : wp_X1_add S0 x1 k) : KW l yX1_add cX1_add 2 (some .int) 1 22 D cI cZ [.ref (ad o0), .int x1] [pcells cI ad o0 S0] (fun v (u : St) => ∃ r, v = some (.int r) ∧ k r u) (fun u : St => [pcells cI ad o0 u]) := by
  refine Met.ofE (by decide +kernel) (Nat.le_of_ble_eq_true rfl) ?_
  intro p e s m below meth c E ls hl
  obtain ⟨hx, hb, hr, hml, hW, hown, hlocks, hP, hK, hD, hN⟩ := E
  have hl : lv_has ls 2 [(0, .ref (ad o0)), (1, .int x1)] := hl
  have hS : va_S (cOf (jn [pcells cI ad o0 S0])) s.heap s.heap [] := va_S.rf
  have hw : (wp_X3_put 60 (S0.2 0) (S0.1 1) x1 (fun (Z1 : (Nat → Int32)) => (k ((S0.1 1) + 1) (sI (sA S0 0 Z1) 1 ((S0.1 1) + 1))))) := hw
  refine lv_aload_n hx hb dX1_add_0 rfl (lv_at hl 0 rfl) ?_
  refine va_get (D := D) (ci := 1) (v := .ref (ad (o0 + 1))) (C := RX1) (T := TX1) (N := 2) hx hb hW inW_X1 hown hK hP 0 rfl rfl 0 (by decide) (hW _ fl_X1_14) (fun _ h9 => h9) rfl dX1_add_1 ?_
  refine lv_aload_n hx hb dX1_add_4 rfl (lv_at hl 0 rfl) ?_
  refine va_get (D := D) (ci := 1) (v := .int (S0.1 1)) (C := RX1) (T := TX1) (N := 2) hx hb hW inW_X1 hown hK hP 0 rfl rfl 1 (by decide) (hW _ fl_X1_20) (fun _ h9 => h9) rfl dX1_add_5 ?_
  refine lv_iload_n hx hb dX1_add_8 rfl (lv_at hl 1 rfl) ?_
  refine callW (va_runV (As := [.int (S0.1 1), .int x1]) (rest := []) ⟨hx, hb, hml, hown, hW⟩ (c_X3_put__pad_0 l D cI cZ ad o0 S0 (S0.1 1) x1 _ hw) (cwV0 hW mV_X3_put ml_X1_24 ⟨Nat.le_of_ble_eq_true rfl, Nat.le_of_ble_eq_true rfl⟩) (preV0 1 rfl rfl hK hN hP hD [0] rfl rfl) rfl rfl hl.1 rfl (lv_room (Nat.le_of_ble_eq_true rfl)) dX1_add_9 ⟨Nat.le_refl _, Nat.le_refl _⟩) hP hD hS [0] rfl rfl (fun _ => rfl) (fun v9 u9 H locs hq hP hD hS => ?_)
  obtain ⟨rfl, hw⟩ := hq
  obtain ⟨Z1, rfl⟩ : ∃ z, z = u9 := ⟨_, rfl⟩
  have hP : va_P D classes (jn [pcells cI ad o0 (sA S0 0 Z1)]) H := hP
  have hD : va_D (cOf (jn [pcells cI ad o0 S0])) (jn [pcells cI ad o0 (sA S0 0 Z1)]) := hD
  refine W.eq (g2 := F0 m 12 ls []) rfl ?_
  refine lv_aload_n hx hb dX1_add_12 rfl (lv_at hl 0 rfl) ?_
  refine lv_dup hx hb dX1_add_13 rfl ?_
  refine va_get (D := D) (ci := 1) (v := .int (S0.1 1)) (C := RX1) (T := TX1) (N := 2) hx hb hW inW_X1 hown hK hP 0 rfl rfl 1 (by decide) (hW _ fl_X1_20) (fun _ h9 => h9) rfl dX1_add_14 ?_
  refine lv_iconst (v := 1) hx hb dX1_add_17 (by decide) ?_
  refine lv_iadd hx hb dX1_add_18 ?_
  refine va_put (D := D) (ci := 1) (v := .int ((S0.1 1) + 1)) (ty := .int) (C := RX1) (T := TX1) (N := 2) hx hb hW inW_X1 tyX1 tyX1_ok nmX1 hown hK hP hD hS 0 rfl rfl 1 (by decide) (hW _ fl_X1_20) (fun _ h9 => h9) rfl (by decide +kernel) rfl rfl (Nat.le_of_ble_eq_true rfl) dX1_add_19 (fun H locs hP hD hS => ?_)
  have hP : va_P D classes (jn [pcells cI ad o0 (sI (sA S0 0 Z1) 1 ((S0.1 1) + 1))]) H := hP
  have hD : va_D (cOf (jn [pcells cI ad o0 S0])) (jn [pcells cI ad o0 (sI (sA S0 0 Z1) 1 ((S0.1 1) + 1))]) := hD
  refine lv_aload_n hx hb dX1_add_22 rfl (lv_at hl 0 rfl) ?_
  refine va_get (D := D) (ci := 1) (v := .int ((S0.1 1) + 1)) (C := RX1) (T := TX1) (N := 2) hx hb hW inW_X1 hown hK hP 0 rfl rfl 1 (by decide) (hW _ fl_X1_20) (fun _ h9 => h9) rfl dX1_add_23 ?_
  exact W.iret (v := ((S0.1 1) + 1)) hx hb hr (fun t ht _ => ⟨⟨_, ((sI (sA S0 0 Z1) 1 ((S0.1 1) + 1))), rfl, ⟨_, rfl, hw⟩, by rw [ht]; exact hP⟩, hS.F ht⟩) hS.2.2 dX1_add_26
set_option maxHeartbeats 4000000 in
set_option maxRecDepth 100000 in
theorem c_X1_clear (l : Launch) (D : va_G) (cI cZ : ClassId) (ad : Nat → Nat) (o0 : Nat) (S0 : St) (k : Int32 → St → Prop) (hw : wp_X1_clear S0 k) : KW l yX1_clear cX1_clear 2 (some .int) 0 0 D cI cZ [.ref (ad o0)] [pcells cI ad o0 S0] (fun v (u : St) => ∃ r, v = some (.int r) ∧ k r u) (fun u : St => [pcells cI ad o0 u]) := by
  refine Met.ofE (by decide +kernel) (Nat.le_of_ble_eq_true rfl) ?_
  intro p e s m below meth c E ls hl
  obtain ⟨hx, hb, hr, hml, hW, hown, hlocks, hP, hK, hD, hN⟩ := E
  have hl : lv_has ls 2 [(0, .ref (ad o0))] := hl
  have hS : va_S (cOf (jn [pcells cI ad o0 S0])) s.heap s.heap [] := va_S.rf
  have hw : (k (S0.1 1) (sI S0 1 0)) := hw
  refine lv_aload_n hx hb dX1_clear_0 rfl (lv_at hl 0 rfl) ?_
  refine va_get (D := D) (ci := 1) (v := .int (S0.1 1)) (C := RX1) (T := TX1) (N := 2) hx hb hW inW_X1 hown hK hP 0 rfl rfl 1 (by decide) (hW _ fl_X1_20) (fun _ h9 => h9) rfl dX1_clear_1 ?_
  refine lv_istore_n (lv' := [(1, .int (S0.1 1)), (0, .ref (ad o0))]) hx hb dX1_clear_4 rfl hl (by decide) rfl (fun ls hl => ?_)
  refine lv_aload_n hx hb dX1_clear_5 rfl (lv_at hl 1 rfl) ?_
  refine lv_iconst (v := 0) hx hb dX1_clear_6 (by decide) ?_
  refine va_put (D := D) (ci := 1) (v := .int 0) (ty := .int) (C := RX1) (T := TX1) (N := 2) hx hb hW inW_X1 tyX1 tyX1_ok nmX1 hown hK hP hD hS 0 rfl rfl 1 (by decide) (hW _ fl_X1_20) (fun _ h9 => h9) rfl (by decide +kernel) rfl rfl (Nat.le_of_ble_eq_true rfl) dX1_clear_7 (fun H locs hP hD hS => ?_)
  have hP : va_P D classes (jn [pcells cI ad o0 (sI S0 1 0)]) H := hP
  have hD : va_D (cOf (jn [pcells cI ad o0 S0])) (jn [pcells cI ad o0 (sI S0 1 0)]) := hD
  refine lv_iload_n hx hb dX1_clear_10 rfl (lv_at hl 0 rfl) ?_
  exact W.iret (v := (S0.1 1)) hx hb hr (fun t ht _ => ⟨⟨_, ((sI S0 1 0)), rfl, ⟨_, rfl, hw⟩, by rw [ht]; exact hP⟩, hS.F ht⟩) hS.2.2 dX1_clear_11
set_option maxHeartbeats 4000000 in
set_option maxRecDepth 100000 in
theorem c_X1_isTime (l : Launch) (D : va_G) (cI cZ : ClassId) (x0 : Int32) (r9 : Int32) (hw : F_X1_isTime x0 = r9) : KF l yX1_isTime cX1_isTime 1 (some .boolean) 0 0 D cI cZ [.int x0] [] (some (.int r9)) := by
  refine Met.ofE (by decide +kernel) (Nat.le_of_ble_eq_true rfl) ?_
  intro p e s m below meth c E ls hl
  obtain ⟨hx, hb, hr, hml, hW, hown, hlocks, hP, hK, hD, hN⟩ := E
  have hl : lv_has ls 1 [(0, .int x0)] := hl
  have hw : (if x0 = 46 then 1 else (if x0 = 58 then 1 else (if x0 = 59 then 1 else 0))) = r9 := hw
  refine lv_iload_n hx hb dX1_isTime_0 rfl (lv_at hl 0 rfl) ?_
  refine lv_bipush (v := 46) hx hb dX1_isTime_1 (by decide) ?_
  refine lv_icmp_eq (tgt := 18) hx hb dX1_isTime_3 (by decide) (fun c1 => ?_) (fun c1 => ?_)
  · have hw := (if_pos c1).symm.trans hw
    refine lv_iconst (v := 1) hx hb dX1_isTime_18 (by decide) ?_
    refine lv_goto (tgt := 23) hx hb dX1_isTime_19 (by decide) ?_
    subst hw
    exact W.zret (v := 1) hx hb hr rfl (fun t ht _ => ⟨rfl, ht⟩) (fun _ h => by cases h) dX1_isTime_23
  · have hw := (if_neg c1).symm.trans hw
    refine lv_iload_n hx hb dX1_isTime_6 rfl (lv_at hl 0 rfl) ?_
    refine lv_bipush (v := 58) hx hb dX1_isTime_7 (by decide) ?_
    refine lv_icmp_eq (tgt := 18) hx hb dX1_isTime_9 (by decide) (fun c2 => ?_) (fun c2 => ?_)
    · have hw := (if_pos c2).symm.trans hw
      refine lv_iconst (v := 1) hx hb dX1_isTime_18 (by decide) ?_
      refine lv_goto (tgt := 23) hx hb dX1_isTime_19 (by decide) ?_
      subst hw
      exact W.zret (v := 1) hx hb hr rfl (fun t ht _ => ⟨rfl, ht⟩) (fun _ h => by cases h) dX1_isTime_23
    · have hw := (if_neg c2).symm.trans hw
      refine lv_iload_n hx hb dX1_isTime_12 rfl (lv_at hl 0 rfl) ?_
      refine lv_bipush (v := 59) hx hb dX1_isTime_13 (by decide) ?_
      refine lv_icmp_ne (tgt := 22) hx hb dX1_isTime_15 (by decide) (fun c3 => ?_) (fun c3 => ?_)
      · have hw := (if_neg c3).symm.trans hw
        refine lv_iconst (v := 0) hx hb dX1_isTime_22 (by decide) ?_
        subst hw
        exact W.zret (v := 0) hx hb hr rfl (fun t ht _ => ⟨rfl, ht⟩) (fun _ h => by cases h) dX1_isTime_23
      · have hw := (if_pos c3).symm.trans hw
        refine lv_iconst (v := 1) hx hb dX1_isTime_18 (by decide) ?_
        refine lv_goto (tgt := 23) hx hb dX1_isTime_19 (by decide) ?_
        subst hw
        exact W.zret (v := 1) hx hb hr rfl (fun t ht _ => ⟨rfl, ht⟩) (fun _ h => by cases h) dX1_isTime_23
set_option maxHeartbeats 4000000 in
set_option maxRecDepth 100000 in
theorem c_X1_isChild (l : Launch) (D : va_G) (cI cZ : ClassId) (x0 : Int32) (x1 : Int32) (r9 : Int32) (hw : F_X1_isChild x0 x1 = r9) : KF l yX1_isChild cX1_isChild 2 (some .boolean) 0 0 D cI cZ [.int x0, .int x1] [] (some (.int r9)) := by
  refine Met.ofE (by decide +kernel) (Nat.le_of_ble_eq_true rfl) ?_
  intro p e s m below meth c E ls hl
  obtain ⟨hx, hb, hr, hml, hW, hown, hlocks, hP, hK, hD, hN⟩ := E
  have hl : lv_has ls 2 [(0, .int x0), (1, .int x1)] := hl
  have hw : (if x0 < 65 then 0 else (if ((65 : Int32) + x1) ≤ x0 then 0 else 1)) = r9 := hw
  refine lv_iload_n hx hb dX1_isChild_0 rfl (lv_at hl 0 rfl) ?_
  refine lv_bipush (v := 65) hx hb dX1_isChild_1 (by decide) ?_
  refine lv_icmp_lt (tgt := 18) hx hb dX1_isChild_3 (by decide) (fun c1 => ?_) (fun c1 => ?_)
  · have hw := (if_pos c1).symm.trans hw
    refine lv_iconst (v := 0) hx hb dX1_isChild_18 (by decide) ?_
    subst hw
    exact W.zret (v := 0) hx hb hr rfl (fun t ht _ => ⟨rfl, ht⟩) (fun _ h => by cases h) dX1_isChild_19
  · have hw := (if_neg c1).symm.trans hw
    refine lv_iload_n hx hb dX1_isChild_6 rfl (lv_at hl 0 rfl) ?_
    refine lv_bipush (v := 65) hx hb dX1_isChild_7 (by decide) ?_
    refine lv_iload_n hx hb dX1_isChild_9 rfl (lv_at hl 1 rfl) ?_
    refine lv_iadd hx hb dX1_isChild_10 ?_
    refine lv_icmp_ge (tgt := 18) hx hb dX1_isChild_11 (by decide) (fun c2 => ?_) (fun c2 => ?_)
    · have hw := (if_pos c2).symm.trans hw
      refine lv_iconst (v := 0) hx hb dX1_isChild_18 (by decide) ?_
      subst hw
      exact W.zret (v := 0) hx hb hr rfl (fun t ht _ => ⟨rfl, ht⟩) (fun _ h => by cases h) dX1_isChild_19
    · have hw := (if_neg c2).symm.trans hw
      refine lv_iconst (v := 1) hx hb dX1_isChild_14 (by decide) ?_
      refine lv_goto (tgt := 19) hx hb dX1_isChild_15 (by decide) ?_
      subst hw
      exact W.zret (v := 1) hx hb hr rfl (fun t ht _ => ⟨rfl, ht⟩) (fun _ h => by cases h) dX1_isChild_19
set_option maxHeartbeats 4000000 in
set_option maxRecDepth 100000 in
theorem c_X1_isFate (l : Launch) (D : va_G) (cI cZ : ClassId) (x0 : Int32) (r9 : Int32) (hw : F_X1_isFate x0 = r9) : KF l yX1_isFate cX1_isFate 1 (some .boolean) 0 0 D cI cZ [.int x0] [] (some (.int r9)) := by
  refine Met.ofE (by decide +kernel) (Nat.le_of_ble_eq_true rfl) ?_
  intro p e s m below meth c E ls hl
  obtain ⟨hx, hb, hr, hml, hW, hown, hlocks, hP, hK, hD, hN⟩ := E
  have hl : lv_has ls 1 [(0, .int x0)] := hl
  have hw : (if x0 = 115 then 1 else (if x0 = 100 then 1 else (if x0 = 109 then 1 else 0))) = r9 := hw
  refine lv_iload_n hx hb dX1_isFate_0 rfl (lv_at hl 0 rfl) ?_
  refine lv_bipush (v := 115) hx hb dX1_isFate_1 (by decide) ?_
  refine lv_icmp_eq (tgt := 18) hx hb dX1_isFate_3 (by decide) (fun c1 => ?_) (fun c1 => ?_)
  · have hw := (if_pos c1).symm.trans hw
    refine lv_iconst (v := 1) hx hb dX1_isFate_18 (by decide) ?_
    refine lv_goto (tgt := 23) hx hb dX1_isFate_19 (by decide) ?_
    subst hw
    exact W.zret (v := 1) hx hb hr rfl (fun t ht _ => ⟨rfl, ht⟩) (fun _ h => by cases h) dX1_isFate_23
  · have hw := (if_neg c1).symm.trans hw
    refine lv_iload_n hx hb dX1_isFate_6 rfl (lv_at hl 0 rfl) ?_
    refine lv_bipush (v := 100) hx hb dX1_isFate_7 (by decide) ?_
    refine lv_icmp_eq (tgt := 18) hx hb dX1_isFate_9 (by decide) (fun c2 => ?_) (fun c2 => ?_)
    · have hw := (if_pos c2).symm.trans hw
      refine lv_iconst (v := 1) hx hb dX1_isFate_18 (by decide) ?_
      refine lv_goto (tgt := 23) hx hb dX1_isFate_19 (by decide) ?_
      subst hw
      exact W.zret (v := 1) hx hb hr rfl (fun t ht _ => ⟨rfl, ht⟩) (fun _ h => by cases h) dX1_isFate_23
    · have hw := (if_neg c2).symm.trans hw
      refine lv_iload_n hx hb dX1_isFate_12 rfl (lv_at hl 0 rfl) ?_
      refine lv_bipush (v := 109) hx hb dX1_isFate_13 (by decide) ?_
      refine lv_icmp_ne (tgt := 22) hx hb dX1_isFate_15 (by decide) (fun c3 => ?_) (fun c3 => ?_)
      · have hw := (if_neg c3).symm.trans hw
        refine lv_iconst (v := 0) hx hb dX1_isFate_22 (by decide) ?_
        subst hw
        exact W.zret (v := 0) hx hb hr rfl (fun t ht _ => ⟨rfl, ht⟩) (fun _ h => by cases h) dX1_isFate_23
      · have hw := (if_pos c3).symm.trans hw
        refine lv_iconst (v := 1) hx hb dX1_isFate_18 (by decide) ?_
        refine lv_goto (tgt := 23) hx hb dX1_isFate_19 (by decide) ?_
        subst hw
        exact W.zret (v := 1) hx hb hr rfl (fun t ht _ => ⟨rfl, ht⟩) (fun _ h => by cases h) dX1_isFate_23
set_option maxHeartbeats 4000000 in
set_option maxRecDepth 100000 in
theorem c_X1_firstFault (l : Launch) (D : va_G) (cI cZ : ClassId) (ad : Nat → Nat) (o0 : Nat) (S0 : St) (x1 : Int32) (k : Int32 → Prop) (hw : wp_X1_firstFault S0 x1 k) : KR l yX1_firstFault cX1_firstFault 4 (some .int) 1 21 D cI cZ [.ref (ad o0), .int x1] [pcells cI ad o0 S0] (fun v => ∃ r, v = some (.int r) ∧ k r) := by
  refine Met.ofE (by decide +kernel) (Nat.le_of_ble_eq_true rfl) ?_
  intro p e s m below meth c E ls hl
  obtain ⟨hx, hb, hr, hml, hW, hown, hlocks, hP, hK, hD, hN⟩ := E
  have hl : lv_has ls 4 [(0, .ref (ad o0)), (1, .int x1)] := hl
  have L2 : ∀  (kx : Prop), (∀ ls : Array Slot, lv_has ls 4 [] → kx → W p l e { frames := 1, cells := 0, slots := 0, locals := 21 } s m ([.ref (ad o0), .int x1] : List Value).toArray below meth c s.heap [] 0 0 (MQ below (QR (fun v => ∃ r, v = some (.int r) ∧ k r)) ([.ref (ad o0), .int x1] : List Value).toArray s 0 0 (fun _ => False)) (F0 m 100 ls [])) → ∀ (N2 : Nat) (y2 : Int32), ∀ ls : Array Slot, lv_has ls 4 [(0, .ref (ad o0)), (1, .int x1), (2, .int y2)] → wl_X1_firstFault_2 S0 x1 kx k N2 y2 → W p l e { frames := 1, cells := 0, slots := 0, locals := 21 } s m ([.ref (ad o0), .int x1] : List Value).toArray below meth c s.heap [] 0 0 (MQ below (QR (fun v => ∃ r, v = some (.int r) ∧ k r)) ([.ref (ad o0), .int x1] : List Value).toArray s 0 0 (fun _ => False)) (F0 m 2 ls []) := by
    intro  kx hxt N2
    induction N2 with
    | zero => intro y2 ls hl hw; exact False.elim hw
    | succ N2 ih =>
      intro y2 ls hl hw
      have hw : (if (S0.1 1) ≤ y2 then kx else (if (F_X1_isTime (F_X3_get 60 (S0.2 0) y2)) = 0 then (if (F_X1_isChild (F_X3_get 60 (S0.2 0) y2) x1) = 0 then (k y2) else (if (y2 + 1) < (S0.1 1) then (if (F_X1_isFate (F_X3_get 60 (S0.2 0) (y2 + 1))) = 0 then (if (F_X1_isChild (F_X3_get 60 (S0.2 0) (y2 + 1)) x1) = 0 then (k (y2 + 1)) else (wl_X1_firstFault_2 S0 x1 kx k N2 (y2 + 2))) else (wl_X1_firstFault_2 S0 x1 kx k N2 (y2 + 2))) else (k (S0.1 1)))) else (wl_X1_firstFault_2 S0 x1 kx k N2 (y2 + 1)))) := hw
      refine lv_iload_n hx hb dX1_firstFault_2 rfl (lv_at hl 2 rfl) ?_
      refine lv_aload_n hx hb dX1_firstFault_3 rfl (lv_at hl 0 rfl) ?_
      refine va_get (D := D) (ci := 1) (v := .int (S0.1 1)) (C := RX1) (T := TX1) (N := 2) hx hb hW inW_X1 hown hK hP 0 rfl rfl 1 (by decide) (hW _ fl_X1_20) (fun _ h9 => h9) rfl dX1_firstFault_4 ?_
      refine lv_icmp_ge (tgt := 100) hx hb dX1_firstFault_7 (by decide) (fun c1 => ?_) (fun c1 => ?_)
      · have hw := Eq.mp (if_pos c1) hw
        exact hxt  _ (lv_sub hl [] rfl) hw
      · have hw := Eq.mp (if_neg c1) hw
        refine lv_aload_n hx hb dX1_firstFault_10 rfl (lv_at hl 0 rfl) ?_
        refine va_get (D := D) (ci := 1) (v := .ref (ad (o0 + 1))) (C := RX1) (T := TX1) (N := 2) hx hb hW inW_X1 hown hK hP 0 rfl rfl 0 (by decide) (hW _ fl_X1_14) (fun _ h9 => h9) rfl dX1_firstFault_11 ?_
        refine lv_iload_n hx hb dX1_firstFault_14 rfl (lv_at hl 2 rfl) ?_
        refine callF (va_runV (As := [.int y2]) (rest := []) ⟨hx, hb, hml, hown, hW⟩ (c_X3_get__pad_0 l D cI cZ ad o0 S0 y2 _ rfl) (cwV0 hW mV_X3_get ml_X1_28 ⟨Nat.le_of_ble_eq_true rfl, Nat.le_of_ble_eq_true rfl⟩) (preV0 1 rfl rfl hK hN hP hD [0] rfl rfl) rfl rfl hl.1 rfl (lv_room (Nat.le_of_ble_eq_true rfl)) dX1_firstFault_15 ⟨Nat.le_refl _, Nat.le_refl _⟩) ?_
        refine W.eq (g2 := F0 m 18 ls [.int (F_X3_get 60 (S0.2 0) y2)]) rfl ?_
        refine lv_istore_n (lv' := [(3, .int (F_X3_get 60 (S0.2 0) y2)), (0, .ref (ad o0)), (1, .int x1), (2, .int y2)]) hx hb dX1_firstFault_18 rfl hl (by decide) rfl (fun ls hl => ?_)
        refine lv_iload_n hx hb dX1_firstFault_19 rfl (lv_at hl 0 rfl) ?_
        refine callF (va_runS (As := [.int (F_X3_get 60 (S0.2 0) y2)]) (rest := []) ⟨hx, hb, hml, hown, hW⟩ (c_X1_isTime l D cI cZ (F_X3_get 60 (S0.2 0) y2) _ rfl) (cwS0 hW mS_X1_isTime ml_X1_32 ⟨Nat.le_of_ble_eq_true rfl, Nat.le_of_ble_eq_true rfl⟩) (preS0 hK hN hP hD [] rfl rfl) rfl rfl hl.1 rfl (lv_room (Nat.le_of_ble_eq_true rfl)) dX1_firstFault_20 ⟨Nat.le_refl _, Nat.le_refl _⟩) ?_
        refine W.eq (g2 := F0 m 23 ls [.int (F_X1_isTime (F_X3_get 60 (S0.2 0) y2))]) rfl ?_
        refine lv_if_eq (tgt := 32) hx hb dX1_firstFault_23 (by decide) (fun c2 => ?_) (fun c2 => ?_)
        · have hw := Eq.mp (if_pos c2) hw
          refine lv_iload_n hx hb dX1_firstFault_32 rfl (lv_at hl 0 rfl) ?_
          refine lv_iload_n hx hb dX1_firstFault_33 rfl (lv_at hl 2 rfl) ?_
          refine callF (va_runS (As := [.int (F_X3_get 60 (S0.2 0) y2), .int x1]) (rest := []) ⟨hx, hb, hml, hown, hW⟩ (c_X1_isChild l D cI cZ (F_X3_get 60 (S0.2 0) y2) x1 _ rfl) (cwS0 hW mS_X1_isChild ml_X1_36 ⟨Nat.le_of_ble_eq_true rfl, Nat.le_of_ble_eq_true rfl⟩) (preS0 hK hN hP hD [] rfl rfl) rfl rfl hl.1 rfl (lv_room (Nat.le_of_ble_eq_true rfl)) dX1_firstFault_34 ⟨Nat.le_refl _, Nat.le_refl _⟩) ?_
          refine W.eq (g2 := F0 m 37 ls [.int (F_X1_isChild (F_X3_get 60 (S0.2 0) y2) x1)]) rfl ?_
          refine lv_if_ne (tgt := 42) hx hb dX1_firstFault_37 (by decide) (fun c3 => ?_) (fun c3 => ?_)
          · have hw := Eq.mp (if_neg c3) hw
            refine lv_iload_n hx hb dX1_firstFault_42 rfl (lv_at hl 3 rfl) ?_
            refine lv_iconst (v := 1) hx hb dX1_firstFault_43 (by decide) ?_
            refine lv_iadd hx hb dX1_firstFault_44 ?_
            refine lv_aload_n hx hb dX1_firstFault_45 rfl (lv_at hl 1 rfl) ?_
            refine va_get (D := D) (ci := 1) (v := .int (S0.1 1)) (C := RX1) (T := TX1) (N := 2) hx hb hW inW_X1 hown hK hP 0 rfl rfl 1 (by decide) (hW _ fl_X1_20) (fun _ h9 => h9) rfl dX1_firstFault_46 ?_
            refine lv_icmp_lt (tgt := 57) hx hb dX1_firstFault_49 (by decide) (fun c4 => ?_) (fun c4 => ?_)
            · have hw := Eq.mp (if_pos c4) hw
              refine lv_aload_n hx hb dX1_firstFault_57 rfl (lv_at hl 1 rfl) ?_
              refine va_get (D := D) (ci := 1) (v := .ref (ad (o0 + 1))) (C := RX1) (T := TX1) (N := 2) hx hb hW inW_X1 hown hK hP 0 rfl rfl 0 (by decide) (hW _ fl_X1_14) (fun _ h9 => h9) rfl dX1_firstFault_58 ?_
              refine lv_iload_n hx hb dX1_firstFault_61 rfl (lv_at hl 3 rfl) ?_
              refine lv_iconst (v := 1) hx hb dX1_firstFault_62 (by decide) ?_
              refine lv_iadd hx hb dX1_firstFault_63 ?_
              refine callF (va_runV (As := [.int (y2 + 1)]) (rest := []) ⟨hx, hb, hml, hown, hW⟩ (c_X3_get__pad_0 l D cI cZ ad o0 S0 (y2 + 1) _ rfl) (cwV0 hW mV_X3_get ml_X1_28 ⟨Nat.le_of_ble_eq_true rfl, Nat.le_of_ble_eq_true rfl⟩) (preV0 1 rfl rfl hK hN hP hD [0] rfl rfl) rfl rfl hl.1 rfl (lv_room (Nat.le_of_ble_eq_true rfl)) dX1_firstFault_64 ⟨Nat.le_refl _, Nat.le_refl _⟩) ?_
              refine W.eq (g2 := F0 m 67 ls [.int (F_X3_get 60 (S0.2 0) (y2 + 1))]) rfl ?_
              refine callF (va_runS (As := [.int (F_X3_get 60 (S0.2 0) (y2 + 1))]) (rest := []) ⟨hx, hb, hml, hown, hW⟩ (c_X1_isFate l D cI cZ (F_X3_get 60 (S0.2 0) (y2 + 1)) _ rfl) (cwS0 hW mS_X1_isFate ml_X1_40 ⟨Nat.le_of_ble_eq_true rfl, Nat.le_of_ble_eq_true rfl⟩) (preS0 hK hN hP hD [] rfl rfl) rfl rfl hl.1 rfl (lv_room (Nat.le_of_ble_eq_true rfl)) dX1_firstFault_67 ⟨Nat.le_refl _, Nat.le_refl _⟩) ?_
              refine W.eq (g2 := F0 m 70 ls [.int (F_X1_isFate (F_X3_get 60 (S0.2 0) (y2 + 1)))]) rfl ?_
              refine lv_if_ne (tgt := 94) hx hb dX1_firstFault_70 (by decide) (fun c5 => ?_) (fun c5 => ?_)
              · have hw := Eq.mp (if_neg c5) hw
                refine lv_iinc (v := (y2 + 2)) (lv' := [(2, .int (y2 + 2)), (3, .int (F_X3_get 60 (S0.2 0) y2)), (0, .ref (ad o0)), (1, .int x1)]) hx hb dX1_firstFault_94 hl (k := 3) rfl rfl (by decide) rfl (fun ls hl => ?_)
                refine lv_goto (tgt := 2) hx hb dX1_firstFault_97 (by decide) ?_
                exact ih (y2 + 2) _ (lv_sub hl [2, 3, 0] rfl) hw
              · have hw := Eq.mp (if_pos c5) hw
                refine lv_aload_n hx hb dX1_firstFault_73 rfl (lv_at hl 1 rfl) ?_
                refine va_get (D := D) (ci := 1) (v := .ref (ad (o0 + 1))) (C := RX1) (T := TX1) (N := 2) hx hb hW inW_X1 hown hK hP 0 rfl rfl 0 (by decide) (hW _ fl_X1_14) (fun _ h9 => h9) rfl dX1_firstFault_74 ?_
                refine lv_iload_n hx hb dX1_firstFault_77 rfl (lv_at hl 3 rfl) ?_
                refine lv_iconst (v := 1) hx hb dX1_firstFault_78 (by decide) ?_
                refine lv_iadd hx hb dX1_firstFault_79 ?_
                refine callF (va_runV (As := [.int (y2 + 1)]) (rest := []) ⟨hx, hb, hml, hown, hW⟩ (c_X3_get__pad_0 l D cI cZ ad o0 S0 (y2 + 1) _ rfl) (cwV0 hW mV_X3_get ml_X1_28 ⟨Nat.le_of_ble_eq_true rfl, Nat.le_of_ble_eq_true rfl⟩) (preV0 1 rfl rfl hK hN hP hD [0] rfl rfl) rfl rfl hl.1 rfl (lv_room (Nat.le_of_ble_eq_true rfl)) dX1_firstFault_80 ⟨Nat.le_refl _, Nat.le_refl _⟩) ?_
                refine W.eq (g2 := F0 m 83 ls [.int (F_X3_get 60 (S0.2 0) (y2 + 1))]) rfl ?_
                refine lv_iload_n hx hb dX1_firstFault_83 rfl (lv_at hl 2 rfl) ?_
                refine callF (va_runS (As := [.int (F_X3_get 60 (S0.2 0) (y2 + 1)), .int x1]) (rest := []) ⟨hx, hb, hml, hown, hW⟩ (c_X1_isChild l D cI cZ (F_X3_get 60 (S0.2 0) (y2 + 1)) x1 _ rfl) (cwS0 hW mS_X1_isChild ml_X1_36 ⟨Nat.le_of_ble_eq_true rfl, Nat.le_of_ble_eq_true rfl⟩) (preS0 hK hN hP hD [] rfl rfl) rfl rfl hl.1 rfl (lv_room (Nat.le_of_ble_eq_true rfl)) dX1_firstFault_84 ⟨Nat.le_refl _, Nat.le_refl _⟩) ?_
                refine W.eq (g2 := F0 m 87 ls [.int (F_X1_isChild (F_X3_get 60 (S0.2 0) (y2 + 1)) x1)]) rfl ?_
                refine lv_if_ne (tgt := 94) hx hb dX1_firstFault_87 (by decide) (fun c6 => ?_) (fun c6 => ?_)
                · have hw := Eq.mp (if_neg c6) hw
                  refine lv_iinc (v := (y2 + 2)) (lv' := [(2, .int (y2 + 2)), (3, .int (F_X3_get 60 (S0.2 0) y2)), (0, .ref (ad o0)), (1, .int x1)]) hx hb dX1_firstFault_94 hl (k := 3) rfl rfl (by decide) rfl (fun ls hl => ?_)
                  refine lv_goto (tgt := 2) hx hb dX1_firstFault_97 (by decide) ?_
                  exact ih (y2 + 2) _ (lv_sub hl [2, 3, 0] rfl) hw
                · have hw := Eq.mp (if_pos c6) hw
                  refine lv_iload_n hx hb dX1_firstFault_90 rfl (lv_at hl 3 rfl) ?_
                  refine lv_iconst (v := 1) hx hb dX1_firstFault_91 (by decide) ?_
                  refine lv_iadd hx hb dX1_firstFault_92 ?_
                  exact W.iret (v := (y2 + 1)) hx hb hr (fun t ht _ => ⟨⟨_, rfl, ⟨_, rfl, hw⟩⟩, ht⟩) (fun _ h => by cases h) dX1_firstFault_93
            · have hw := Eq.mp (if_neg c4) hw
              refine lv_aload_n hx hb dX1_firstFault_52 rfl (lv_at hl 1 rfl) ?_
              refine va_get (D := D) (ci := 1) (v := .int (S0.1 1)) (C := RX1) (T := TX1) (N := 2) hx hb hW inW_X1 hown hK hP 0 rfl rfl 1 (by decide) (hW _ fl_X1_20) (fun _ h9 => h9) rfl dX1_firstFault_53 ?_
              exact W.iret (v := (S0.1 1)) hx hb hr (fun t ht _ => ⟨⟨_, rfl, ⟨_, rfl, hw⟩⟩, ht⟩) (fun _ h => by cases h) dX1_firstFault_56
          · have hw := Eq.mp (if_pos c3) hw
            refine lv_iload_n hx hb dX1_firstFault_40 rfl (lv_at hl 3 rfl) ?_
            exact W.iret (v := y2) hx hb hr (fun t ht _ => ⟨⟨_, rfl, ⟨_, rfl, hw⟩⟩, ht⟩) (fun _ h => by cases h) dX1_firstFault_41
        · have hw := Eq.mp (if_neg c2) hw
          refine lv_iinc (v := (y2 + 1)) (lv' := [(2, .int (y2 + 1)), (3, .int (F_X3_get 60 (S0.2 0) y2)), (0, .ref (ad o0)), (1, .int x1)]) hx hb dX1_firstFault_26 hl (k := 3) rfl rfl (by decide) rfl (fun ls hl => ?_)
          refine lv_goto (tgt := 97) hx hb dX1_firstFault_29 (by decide) ?_
          refine lv_goto (tgt := 2) hx hb dX1_firstFault_97 (by decide) ?_
          exact ih (y2 + 1) _ (lv_sub hl [2, 3, 0] rfl) hw
  have hw : (∃ M7, wl_X1_firstFault_2 S0 x1 (k (-6)) k M7 0) := hw
  refine lv_iconst (v := 0) hx hb dX1_firstFault_0 (by decide) ?_
  refine lv_istore_n (lv' := [(2, .int 0), (0, .ref (ad o0)), (1, .int x1)]) hx hb dX1_firstFault_1 rfl hl (by decide) rfl (fun ls hl => ?_)
  obtain ⟨N8, hw⟩ := hw
  refine L2  _ (fun  ls hl hw => ?_) N8 0 _ (lv_sub hl [1, 2, 0] rfl) hw
  refine lv_bipush (v := (-6)) hx hb dX1_firstFault_100 (by decide) ?_
  exact W.iret (v := (-6)) hx hb hr (fun t ht _ => ⟨⟨_, rfl, ⟨_, rfl, hw⟩⟩, ht⟩) (fun _ h => by cases h) dX1_firstFault_102
set_option maxHeartbeats 4000000 in
set_option maxRecDepth 100000 in
theorem c_X5_passTime (l : Launch) (D : va_G) (cI cZ : ClassId) (ad : Nat → Nat) (o0 : Nat) (S0 : St) (x1 : Int32) (k : St → Prop) (hw : wp_X5_passTime S0 x1 k) : KW l yX5_passTime cX5_passTime 2 none 3 65 D cI cZ [.ref (ad o0), .int x1] [rcells cI ad o0 S0] (fun v (u : St) => v = none ∧ k u) (fun u : St => [rcells cI ad o0 u]) := by
  refine Met.ofE (by decide +kernel) (Nat.le_of_ble_eq_true rfl) ?_
  intro p e s m below meth c E ls hl
  obtain ⟨hx, hb, hr, hml, hW, hown, hlocks, hP, hK, hD, hN⟩ := E
  have hl : lv_has ls 2 [(0, .ref (ad o0)), (1, .int x1)] := hl
  have hS : va_S (cOf (jn [rcells cI ad o0 S0])) s.heap s.heap [] := va_S.rf
  have hw : (if x1 = 46 then (wp_X2_passDays S0 1 (fun (Z2 : St) => (k Z2))) else (if x1 = 58 then (wp_X2_passDays S0 10 (fun (Z4 : St) => (k Z4))) else (wp_X2_passSeason S0 (fun (Z5 : St) => (k Z5))))) := hw
  refine lv_iload_n hx hb dX5_passTime_0 rfl (lv_at hl 1 rfl) ?_
  by_cases c1 : x1 = 46
  · have hw := Eq.mp (if_pos c1) hw
    refine lv_lookup (off := 27) (tgt := 28) hx hb dX5_passTime_1 (by decide) (by rw [c1]; rfl) (by decide) ?_
    refine lv_aload_n hx hb dX5_passTime_28 rfl (lv_at hl 0 rfl) ?_
    refine lv_iconst (v := 1) hx hb dX5_passTime_29 (by decide) ?_
    refine callW (va_runV (As := [.int 1]) (rest := []) ⟨hx, hb, hml, hown, hW⟩ (c_X2_passDays l D cI cZ ad o0 S0 1 _ hw) (cwV0 hW mV_X2_passDays ml_X5_58 ⟨Nat.le_of_ble_eq_true rfl, Nat.le_of_ble_eq_true rfl⟩) (preV0 0 rfl rfl hK hN hP hD [0] rfl rfl) rfl rfl hl.1 rfl (lv_room (Nat.le_of_ble_eq_true rfl)) dX5_passTime_30 ⟨Nat.le_refl _, Nat.le_refl _⟩) hP hD hS [0] rfl rfl (fun _ => rfl) (fun v9 u9 H locs hq hP hD hS => ?_)
    obtain ⟨rfl, hw⟩ := hq
    obtain ⟨Z2, rfl⟩ : ∃ z, z = u9 := ⟨_, rfl⟩
    have hP : va_P D classes (jn [rcells cI ad o0 Z2]) H := hP
    have hD : va_D (cOf (jn [rcells cI ad o0 S0])) (jn [rcells cI ad o0 Z2]) := hD
    refine W.eq (g2 := F0 m 33 ls []) rfl ?_
    refine lv_goto (tgt := 49) hx hb dX5_passTime_33 (by decide) ?_
    exact W.vret hx hb hr (fun t ht _ => ⟨⟨_, (Z2), rfl, ⟨rfl, hw⟩, by rw [ht]; exact hP⟩, hS.F ht⟩) hS.2.2 dX5_passTime_49
  · have hw := Eq.mp (if_neg c1) hw
    by_cases c3 : x1 = 58
    · have hw := Eq.mp (if_pos c3) hw
      refine lv_lookup (off := 35) (tgt := 36) hx hb dX5_passTime_1 (by decide) (by rw [c3]; rfl) (by decide) ?_
      refine lv_aload_n hx hb dX5_passTime_36 rfl (lv_at hl 0 rfl) ?_
      refine lv_bipush (v := 10) hx hb dX5_passTime_37 (by decide) ?_
      refine callW (va_runV (As := [.int 10]) (rest := []) ⟨hx, hb, hml, hown, hW⟩ (c_X2_passDays l D cI cZ ad o0 S0 10 _ hw) (cwV0 hW mV_X2_passDays ml_X5_58 ⟨Nat.le_of_ble_eq_true rfl, Nat.le_of_ble_eq_true rfl⟩) (preV0 0 rfl rfl hK hN hP hD [0] rfl rfl) rfl rfl hl.1 rfl (lv_room (Nat.le_of_ble_eq_true rfl)) dX5_passTime_39 ⟨Nat.le_refl _, Nat.le_refl _⟩) hP hD hS [0] rfl rfl (fun _ => rfl) (fun v9 u9 H locs hq hP hD hS => ?_)
      obtain ⟨rfl, hw⟩ := hq
      obtain ⟨Z4, rfl⟩ : ∃ z, z = u9 := ⟨_, rfl⟩
      have hP : va_P D classes (jn [rcells cI ad o0 Z4]) H := hP
      have hD : va_D (cOf (jn [rcells cI ad o0 S0])) (jn [rcells cI ad o0 Z4]) := hD
      refine W.eq (g2 := F0 m 42 ls []) rfl ?_
      refine lv_goto (tgt := 49) hx hb dX5_passTime_42 (by decide) ?_
      exact W.vret hx hb hr (fun t ht _ => ⟨⟨_, (Z4), rfl, ⟨rfl, hw⟩, by rw [ht]; exact hP⟩, hS.F ht⟩) hS.2.2 dX5_passTime_49
    · have hw := Eq.mp (if_neg c3) hw
      have ec1 : (x1).toInt ≠ 46 := ne_toInt c1
      have ec3 : (x1).toInt ≠ 58 := ne_toInt c3
      refine lv_lookup (off := 44) (tgt := 45) hx hb dX5_passTime_1 (by decide) (by simp [Op.lookupswitch.offset, Ne.symm ec1, Ne.symm ec3]) (by decide) ?_
      refine lv_aload_n hx hb dX5_passTime_45 rfl (lv_at hl 0 rfl) ?_
      refine callW (va_runV (As := []) (rest := []) ⟨hx, hb, hml, hown, hW⟩ (c_X2_passSeason l D cI cZ ad o0 S0 _ hw) (cwV0 hW mV_X2_passSeason ml_X5_61 ⟨Nat.le_of_ble_eq_true rfl, Nat.le_of_ble_eq_true rfl⟩) (preV0 0 rfl rfl hK hN hP hD [0] rfl rfl) rfl rfl hl.1 rfl (lv_room (Nat.le_of_ble_eq_true rfl)) dX5_passTime_46 ⟨Nat.le_refl _, Nat.le_refl _⟩) hP hD hS [0] rfl rfl (fun _ => rfl) (fun v9 u9 H locs hq hP hD hS => ?_)
      obtain ⟨rfl, hw⟩ := hq
      obtain ⟨Z5, rfl⟩ : ∃ z, z = u9 := ⟨_, rfl⟩
      have hP : va_P D classes (jn [rcells cI ad o0 Z5]) H := hP
      have hD : va_D (cOf (jn [rcells cI ad o0 S0])) (jn [rcells cI ad o0 Z5]) := hD
      refine W.eq (g2 := F0 m 49 ls []) rfl ?_
      exact W.vret hx hb hr (fun t ht _ => ⟨⟨_, (Z5), rfl, ⟨rfl, hw⟩, by rw [ht]; exact hP⟩, hS.F ht⟩) hS.2.2 dX5_passTime_49
set_option maxHeartbeats 4000000 in
set_option maxRecDepth 100000 in
theorem c_X5_befall (l : Launch) (D : va_G) (cI cZ : ClassId) (ad : Nat → Nat) (o0 : Nat) (S0 : St) (x1 : Int32) (x2 : Int32) (k : Int32 → St → Prop) (hw : wp_X5_befall S0 x1 x2 k) : KW l yX5_befall cX5_befall 3 (some .int) 3 67 D cI cZ [.ref (ad o0), .int x1, .int x2] [rcells cI ad o0 S0] (fun v (u : St) => ∃ r, v = some (.int r) ∧ k r u) (fun u : St => [rcells cI ad o0 u]) := by
  refine Met.ofE (by decide +kernel) (Nat.le_of_ble_eq_true rfl) ?_
  intro p e s m below meth c E ls hl
  obtain ⟨hx, hb, hr, hml, hW, hown, hlocks, hP, hK, hD, hN⟩ := E
  have hl : lv_has ls 3 [(0, .ref (ad o0)), (1, .int x1), (2, .int x2)] := hl
  have hS : va_S (cOf (jn [rcells cI ad o0 S0])) s.heap s.heap [] := va_S.rf
  have hw : (if x2 = 100 then (wp_X2_die S0 x1 (fun (v2 : Int32) (Z3 : St) => (k v2 Z3))) else (if x2 = 109 then (wp_X2_bind S0 x1 2 (fun (v5 : Int32) (Z6 : St) => (k v5 Z6))) else (if x2 = 115 then (wp_X2_bind S0 x1 1 (fun (v8 : Int32) (Z9 : St) => (k v8 Z9))) else (wp_X2_changeHats S0 x1 (x2 - 65) (fun (v10 : Int32) (Z11 : St) => (k v10 Z11)))))) := hw
  refine lv_iload_n hx hb dX5_befall_0 rfl (lv_at hl 2 rfl) ?_
  by_cases c1 : x2 = 100
  · have hw := Eq.mp (if_pos c1) hw
    refine lv_lookup (off := 35) (tgt := 36) hx hb dX5_befall_1 (by decide) (by rw [c1]; rfl) (by decide) ?_
    refine lv_aload_n hx hb dX5_befall_36 rfl (lv_at hl 0 rfl) ?_
    refine lv_iload_n hx hb dX5_befall_37 rfl (lv_at hl 1 rfl) ?_
    refine callW (va_runV (As := [.int x1]) (rest := []) ⟨hx, hb, hml, hown, hW⟩ (c_X2_die l D cI cZ ad o0 S0 x1 _ hw) (cwV0 hW mV_X2_die ml_X5_64 ⟨Nat.le_of_ble_eq_true rfl, Nat.le_of_ble_eq_true rfl⟩) (preV0 0 rfl rfl hK hN hP hD [0] rfl rfl) rfl rfl hl.1 rfl (lv_room (Nat.le_of_ble_eq_true rfl)) dX5_befall_38 ⟨Nat.le_refl _, Nat.le_refl _⟩) hP hD hS [0] rfl rfl (fun _ => rfl) (fun v9 u9 H locs hq hP hD hS => ?_)
    obtain ⟨v2, rfl, hw⟩ := hq
    obtain ⟨Z3, rfl⟩ : ∃ z, z = u9 := ⟨_, rfl⟩
    have hP : va_P D classes (jn [rcells cI ad o0 Z3]) H := hP
    have hD : va_D (cOf (jn [rcells cI ad o0 S0])) (jn [rcells cI ad o0 Z3]) := hD
    refine W.eq (g2 := F0 m 41 ls [.int v2]) rfl ?_
    exact W.iret (v := v2) hx hb hr (fun t ht _ => ⟨⟨_, (Z3), rfl, ⟨_, rfl, hw⟩, by rw [ht]; exact hP⟩, hS.F ht⟩) hS.2.2 dX5_befall_41
  · have hw := Eq.mp (if_neg c1) hw
    by_cases c4 : x2 = 109
    · have hw := Eq.mp (if_pos c4) hw
      refine lv_lookup (off := 48) (tgt := 49) hx hb dX5_befall_1 (by decide) (by rw [c4]; rfl) (by decide) ?_
      refine lv_aload_n hx hb dX5_befall_49 rfl (lv_at hl 0 rfl) ?_
      refine lv_iload_n hx hb dX5_befall_50 rfl (lv_at hl 1 rfl) ?_
      refine lv_iconst (v := 2) hx hb dX5_befall_51 (by decide) ?_
      refine callW (va_runV (As := [.int x1, .int 2]) (rest := []) ⟨hx, hb, hml, hown, hW⟩ (c_X2_bind l D cI cZ ad o0 S0 x1 2 _ hw) (cwV0 hW mV_X2_bind ml_X5_67 ⟨Nat.le_of_ble_eq_true rfl, Nat.le_of_ble_eq_true rfl⟩) (preV0 0 rfl rfl hK hN hP hD [0] rfl rfl) rfl rfl hl.1 rfl (lv_room (Nat.le_of_ble_eq_true rfl)) dX5_befall_52 ⟨Nat.le_refl _, Nat.le_refl _⟩) hP hD hS [0] rfl rfl (fun _ => rfl) (fun v9 u9 H locs hq hP hD hS => ?_)
      obtain ⟨v5, rfl, hw⟩ := hq
      obtain ⟨Z6, rfl⟩ : ∃ z, z = u9 := ⟨_, rfl⟩
      have hP : va_P D classes (jn [rcells cI ad o0 Z6]) H := hP
      have hD : va_D (cOf (jn [rcells cI ad o0 S0])) (jn [rcells cI ad o0 Z6]) := hD
      refine W.eq (g2 := F0 m 55 ls [.int v5]) rfl ?_
      exact W.iret (v := v5) hx hb hr (fun t ht _ => ⟨⟨_, (Z6), rfl, ⟨_, rfl, hw⟩, by rw [ht]; exact hP⟩, hS.F ht⟩) hS.2.2 dX5_befall_55
    · have hw := Eq.mp (if_neg c4) hw
      by_cases c7 : x2 = 115
      · have hw := Eq.mp (if_pos c7) hw
        refine lv_lookup (off := 41) (tgt := 42) hx hb dX5_befall_1 (by decide) (by rw [c7]; rfl) (by decide) ?_
        refine lv_aload_n hx hb dX5_befall_42 rfl (lv_at hl 0 rfl) ?_
        refine lv_iload_n hx hb dX5_befall_43 rfl (lv_at hl 1 rfl) ?_
        refine lv_iconst (v := 1) hx hb dX5_befall_44 (by decide) ?_
        refine callW (va_runV (As := [.int x1, .int 1]) (rest := []) ⟨hx, hb, hml, hown, hW⟩ (c_X2_bind l D cI cZ ad o0 S0 x1 1 _ hw) (cwV0 hW mV_X2_bind ml_X5_67 ⟨Nat.le_of_ble_eq_true rfl, Nat.le_of_ble_eq_true rfl⟩) (preV0 0 rfl rfl hK hN hP hD [0] rfl rfl) rfl rfl hl.1 rfl (lv_room (Nat.le_of_ble_eq_true rfl)) dX5_befall_45 ⟨Nat.le_refl _, Nat.le_refl _⟩) hP hD hS [0] rfl rfl (fun _ => rfl) (fun v9 u9 H locs hq hP hD hS => ?_)
        obtain ⟨v8, rfl, hw⟩ := hq
        obtain ⟨Z9, rfl⟩ : ∃ z, z = u9 := ⟨_, rfl⟩
        have hP : va_P D classes (jn [rcells cI ad o0 Z9]) H := hP
        have hD : va_D (cOf (jn [rcells cI ad o0 S0])) (jn [rcells cI ad o0 Z9]) := hD
        refine W.eq (g2 := F0 m 48 ls [.int v8]) rfl ?_
        exact W.iret (v := v8) hx hb hr (fun t ht _ => ⟨⟨_, (Z9), rfl, ⟨_, rfl, hw⟩, by rw [ht]; exact hP⟩, hS.F ht⟩) hS.2.2 dX5_befall_48
      · have hw := Eq.mp (if_neg c7) hw
        have ec1 : (x2).toInt ≠ 100 := ne_toInt c1
        have ec4 : (x2).toInt ≠ 109 := ne_toInt c4
        have ec7 : (x2).toInt ≠ 115 := ne_toInt c7
        refine lv_lookup (off := 55) (tgt := 56) hx hb dX5_befall_1 (by decide) (by simp [Op.lookupswitch.offset, Ne.symm ec1, Ne.symm ec4, Ne.symm ec7]) (by decide) ?_
        refine lv_aload_n hx hb dX5_befall_56 rfl (lv_at hl 0 rfl) ?_
        refine lv_iload_n hx hb dX5_befall_57 rfl (lv_at hl 1 rfl) ?_
        refine lv_iload_n hx hb dX5_befall_58 rfl (lv_at hl 2 rfl) ?_
        refine lv_bipush (v := 65) hx hb dX5_befall_59 (by decide) ?_
        refine lv_isub hx hb dX5_befall_61 ?_
        refine callW (va_runV (As := [.int x1, .int (x2 - 65)]) (rest := []) ⟨hx, hb, hml, hown, hW⟩ (c_X2_changeHats l D cI cZ ad o0 S0 x1 (x2 - 65) _ hw) (cwV0 hW mV_X2_changeHats ml_X5_71 ⟨Nat.le_of_ble_eq_true rfl, Nat.le_of_ble_eq_true rfl⟩) (preV0 0 rfl rfl hK hN hP hD [0] rfl rfl) rfl rfl hl.1 rfl (lv_room (Nat.le_of_ble_eq_true rfl)) dX5_befall_62 ⟨Nat.le_refl _, Nat.le_refl _⟩) hP hD hS [0] rfl rfl (fun _ => rfl) (fun v9 u9 H locs hq hP hD hS => ?_)
        obtain ⟨v10, rfl, hw⟩ := hq
        obtain ⟨Z11, rfl⟩ : ∃ z, z = u9 := ⟨_, rfl⟩
        have hP : va_P D classes (jn [rcells cI ad o0 Z11]) H := hP
        have hD : va_D (cOf (jn [rcells cI ad o0 S0])) (jn [rcells cI ad o0 Z11]) := hD
        refine W.eq (g2 := F0 m 65 ls [.int v10]) rfl ?_
        exact W.iret (v := v10) hx hb hr (fun t ht _ => ⟨⟨_, (Z11), rfl, ⟨_, rfl, hw⟩, by rw [ht]; exact hP⟩, hS.F ht⟩) hS.2.2 dX5_befall_65
set_option maxHeartbeats 4000000 in
set_option maxRecDepth 100000 in
theorem c_X5_canBe (l : Launch) (D : va_G) (cI cZ : ClassId) (ad : Nat → Nat) (o0 : Nat) (S0 : St) (o1 : Nat) (S1 : St) (o2 : Nat) (S2 : St) (o3 : Nat) (S3 : St) (k : Int32 → St → St → Prop) (hw : wp_X5_canBe S0 S1 S2 S3 k) : KW l yX5_canBe cX5_canBe 6 (some .boolean) 4 89 D cI cZ [.ref (ad o0), .ref (ad o1), .ref (ad o2), .ref (ad o3)] [ycells ad o0 S0, rcells cI ad o1 S1, rcells cI ad o2 S2, pcells cI ad o3 S3] (fun v (u : St × St) => ∃ r, v = some (.int r) ∧ k r u.1 u.2) (fun u : St × St => [ycells ad o0 u.1, rcells cI ad o1 S1, rcells cI ad o2 u.2, pcells cI ad o3 S3]) := by
  refine Met.ofE (by decide +kernel) (Nat.le_of_ble_eq_true rfl) ?_
  intro p e s m below meth c E ls hl
  obtain ⟨hx, hb, hr, hml, hW, hown, hlocks, hP, hK, hD, hN⟩ := E
  have hl : lv_has ls 6 [(0, .ref (ad o0)), (1, .ref (ad o1)), (2, .ref (ad o2)), (3, .ref (ad o3))] := hl
  have hS : va_S (cOf (jn [ycells ad o0 S0, rcells cI ad o1 S1, rcells cI ad o2 S2, pcells cI ad o3 S3])) s.heap s.heap [] := va_S.rf
  have L26 : ∀  (kx : St → St → Prop), (∀ (S0q : St) (S2q : St) (H : Heap) (locs : List Loc), va_P D classes (jn [ycells ad o0 S0q, rcells cI ad o1 S1, rcells cI ad o2 S2q, pcells cI ad o3 S3]) H → va_D (cOf (jn [ycells ad o0 S0, rcells cI ad o1 S1, rcells cI ad o2 S2, pcells cI ad o3 S3])) (jn [ycells ad o0 S0q, rcells cI ad o1 S1, rcells cI ad o2 S2q, pcells cI ad o3 S3]) → va_S (cOf (jn [ycells ad o0 S0, rcells cI ad o1 S1, rcells cI ad o2 S2, pcells cI ad o3 S3])) s.heap H locs → ∀ ls : Array Slot, lv_has ls 6 [(0, .ref (ad o0))] → kx S0q S2q → W p l e { frames := 4, cells := 0, slots := 0, locals := 89 } s m ([.ref (ad o0), .ref (ad o1), .ref (ad o2), .ref (ad o3)] : List Value).toArray below meth c H locs 0 0 (MQ below (QW (fun v (u : St × St) => ∃ r, v = some (.int r) ∧ k r u.1 u.2) D (fun u : St × St => [ycells ad o0 u.1, rcells cI ad o1 S1, rcells cI ad o2 u.2, pcells cI ad o3 S3]) [ycells ad o0 S0, rcells cI ad o1 S1, rcells cI ad o2 S2, pcells cI ad o3 S3]) ([.ref (ad o0), .ref (ad o1), .ref (ad o2), .ref (ad o3)] : List Value).toArray s 0 0 (cOf (jn [ycells ad o0 S0, rcells cI ad o1 S1, rcells cI ad o2 S2, pcells cI ad o3 S3]))) (F0 m 120 ls [])) → ∀ (N26 : Nat) (y4 : Int32) (S0q : St) (S2q : St) (H : Heap) (locs : List Loc), va_P D classes (jn [ycells ad o0 S0q, rcells cI ad o1 S1, rcells cI ad o2 S2q, pcells cI ad o3 S3]) H → va_D (cOf (jn [ycells ad o0 S0, rcells cI ad o1 S1, rcells cI ad o2 S2, pcells cI ad o3 S3])) (jn [ycells ad o0 S0q, rcells cI ad o1 S1, rcells cI ad o2 S2q, pcells cI ad o3 S3]) → va_S (cOf (jn [ycells ad o0 S0, rcells cI ad o1 S1, rcells cI ad o2 S2, pcells cI ad o3 S3])) s.heap H locs → ∀ ls : Array Slot, lv_has ls 6 [(0, .ref (ad o0)), (2, .ref (ad o2)), (3, .ref (ad o3)), (4, .int y4)] → wl_X5_canBe_26 S3 kx N26 y4 S0q S2q → W p l e { frames := 4, cells := 0, slots := 0, locals := 89 } s m ([.ref (ad o0), .ref (ad o1), .ref (ad o2), .ref (ad o3)] : List Value).toArray below meth c H locs 0 0 (MQ below (QW (fun v (u : St × St) => ∃ r, v = some (.int r) ∧ k r u.1 u.2) D (fun u : St × St => [ycells ad o0 u.1, rcells cI ad o1 S1, rcells cI ad o2 u.2, pcells cI ad o3 S3]) [ycells ad o0 S0, rcells cI ad o1 S1, rcells cI ad o2 S2, pcells cI ad o3 S3]) ([.ref (ad o0), .ref (ad o1), .ref (ad o2), .ref (ad o3)] : List Value).toArray s 0 0 (cOf (jn [ycells ad o0 S0, rcells cI ad o1 S1, rcells cI ad o2 S2, pcells cI ad o3 S3]))) (F0 m 26 ls []) := by
    intro  kx hxt N26
    induction N26 with
    | zero => intro y4 S0q S2q H locs hP hD hS ls hl hw; exact False.elim hw
    | succ N26 ih =>
      intro y4 S0q S2q H locs hP hD hS ls hl hw
      have hw : (if (S3.1 1) ≤ y4 then (kx S0q S2q) else (if (S0q.1 1) = 0 then (if (F_X1_isTime (F_X3_get 60 (S3.2 0) y4)) = 0 then (wp_X5_befall S2q ((F_X3_get 60 (S3.2 0) y4) - 65) (F_X3_get 60 (S3.2 0) (y4 + 1)) (fun (v6 : Int32) (Z7 : St) => (if v6 = 0 then (wl_X5_canBe_26 S3 kx N26 (y4 + 2) (sI (sI S0q 1 v6) 0 ((S0q.1 0) + 1)) Z7) else (wl_X5_canBe_26 S3 kx N26 (y4 + 2) (sI S0q 1 v6) Z7)))) else (wp_X5_passTime S2q (F_X3_get 60 (S3.2 0) y4) (fun (Z9 : St) => (wl_X5_canBe_26 S3 kx N26 (y4 + 1) (sI S0q 0 ((S0q.1 0) + 1)) Z9)))) else (kx S0q S2q))) := hw
      refine lv_iload hx hb dX5_canBe_26 (lv_at hl 3 rfl) ?_
      refine lv_aload_n hx hb dX5_canBe_28 rfl (lv_at hl 2 rfl) ?_
      refine va_get (D := D) (ci := 1) (v := .int (S3.1 1)) (C := RX1) (T := TX1) (N := 2) hx hb hW inW_X1 hown hK hP 35 rfl rfl 1 (by decide) (hW _ fl_X5_34) (fun _ h9 => h9) rfl dX5_canBe_29 ?_
      refine lv_icmp_ge (tgt := 120) hx hb dX5_canBe_32 (by decide) (fun c3 => ?_) (fun c3 => ?_)
      · have hw := Eq.mp (if_pos c3) hw
        exact hxt S0q S2q _ _ hP hD hS _ (lv_sub hl [0] rfl) hw
      · have hw := Eq.mp (if_neg c3) hw
        refine lv_aload_n hx hb dX5_canBe_35 rfl (lv_at hl 0 rfl) ?_
        refine va_get (D := D) (ci := 5) (v := .int (S0q.1 1)) (C := RX5) (T := TX5) (N := 2) hx hb hW inW_X5 hown hK hP 0 rfl rfl 1 (by decide) (hW _ fl_X5_31) (fun _ h9 => h9) rfl dX5_canBe_36 ?_
        refine lv_if_ne (tgt := 120) hx hb dX5_canBe_39 (by decide) (fun c4 => ?_) (fun c4 => ?_)
        · have hw := Eq.mp (if_neg c4) hw
          exact hxt S0q S2q _ _ hP hD hS _ (lv_sub hl [0] rfl) hw
        · have hw := Eq.mp (if_pos c4) hw
          refine lv_aload_n hx hb dX5_canBe_42 rfl (lv_at hl 2 rfl) ?_
          refine va_get (D := D) (ci := 1) (v := .ref (ad (o3 + 1))) (C := RX1) (T := TX1) (N := 2) hx hb hW inW_X1 hown hK hP 35 rfl rfl 0 (by decide) (hW _ fl_X5_39) (fun _ h9 => h9) rfl dX5_canBe_43 ?_
          refine lv_iload hx hb dX5_canBe_46 (lv_at hl 3 rfl) ?_
          refine callF (va_runV (As := [.int y4]) (rest := []) ⟨hx, hb, hml, hown, hW⟩ (c_X3_get__pad_0 l D cI cZ ad o3 S3 y4 _ rfl) (cwV0 hW mV_X3_get ml_X5_42 ⟨Nat.le_of_ble_eq_true rfl, Nat.le_of_ble_eq_true rfl⟩) (preV0 1 rfl rfl hK hN hP hD [3] rfl rfl) rfl rfl hl.1 rfl (lv_room (Nat.le_of_ble_eq_true rfl)) dX5_canBe_48 ⟨Nat.le_refl _, Nat.le_refl _⟩) ?_
          refine W.eq (g2 := F0 m 51 ls [.int (F_X3_get 60 (S3.2 0) y4)]) rfl ?_
          refine lv_istore (lv' := [(5, .int (F_X3_get 60 (S3.2 0) y4)), (0, .ref (ad o0)), (2, .ref (ad o2)), (3, .ref (ad o3)), (4, .int y4)]) hx hb dX5_canBe_51 hl (by decide) rfl (fun ls hl => ?_)
          refine lv_iload hx hb dX5_canBe_53 (lv_at hl 0 rfl) ?_
          refine callF (va_runS (As := [.int (F_X3_get 60 (S3.2 0) y4)]) (rest := []) ⟨hx, hb, hml, hown, hW⟩ (c_X1_isTime l D cI cZ (F_X3_get 60 (S3.2 0) y4) _ rfl) (cwS0 hW mS_X1_isTime ml_X5_46 ⟨Nat.le_of_ble_eq_true rfl, Nat.le_of_ble_eq_true rfl⟩) (preS0 hK hN hP hD [] rfl rfl) rfl rfl hl.1 rfl (lv_room (Nat.le_of_ble_eq_true rfl)) dX5_canBe_55 ⟨Nat.le_refl _, Nat.le_refl _⟩) ?_
          refine W.eq (g2 := F0 m 58 ls [.int (F_X1_isTime (F_X3_get 60 (S3.2 0) y4))]) rfl ?_
          refine lv_if_eq (tgt := 73) hx hb dX5_canBe_58 (by decide) (fun c5 => ?_) (fun c5 => ?_)
          · have hw := Eq.mp (if_pos c5) hw
            refine lv_aload_n hx hb dX5_canBe_73 rfl (lv_at hl 1 rfl) ?_
            refine lv_aload_n hx hb dX5_canBe_74 rfl (lv_at hl 2 rfl) ?_
            refine lv_iload hx hb dX5_canBe_75 (lv_at hl 0 rfl) ?_
            refine lv_bipush (v := 65) hx hb dX5_canBe_77 (by decide) ?_
            refine lv_isub hx hb dX5_canBe_79 ?_
            refine lv_aload_n hx hb dX5_canBe_80 rfl (lv_at hl 3 rfl) ?_
            refine va_get (D := D) (ci := 1) (v := .ref (ad (o3 + 1))) (C := RX1) (T := TX1) (N := 2) hx hb hW inW_X1 hown hK hP 35 rfl rfl 0 (by decide) (hW _ fl_X5_39) (fun _ h9 => h9) rfl dX5_canBe_81 ?_
            refine lv_iload hx hb dX5_canBe_84 (lv_at hl 4 rfl) ?_
            refine lv_iconst (v := 1) hx hb dX5_canBe_86 (by decide) ?_
            refine lv_iadd hx hb dX5_canBe_87 ?_
            refine callF (va_runV (As := [.int (y4 + 1)]) (rest := [.int ((F_X3_get 60 (S3.2 0) y4) - 65), .ref (ad o2), .ref (ad o0)]) ⟨hx, hb, hml, hown, hW⟩ (c_X3_get__pad_0 l D cI cZ ad o3 S3 (y4 + 1) _ rfl) (cwV0 hW mV_X3_get ml_X5_42 ⟨Nat.le_of_ble_eq_true rfl, Nat.le_of_ble_eq_true rfl⟩) (preV0 1 rfl rfl hK hN hP hD [3] rfl rfl) rfl rfl hl.1 rfl (lv_room (Nat.le_of_ble_eq_true rfl)) dX5_canBe_88 ⟨Nat.le_refl _, Nat.le_refl _⟩) ?_
            refine W.eq (g2 := F0 m 91 ls [.int (F_X3_get 60 (S3.2 0) (y4 + 1)), .int ((F_X3_get 60 (S3.2 0) y4) - 65), .ref (ad o2), .ref (ad o0)]) rfl ?_
            refine callW (va_runS (As := [.ref (ad o2), .int ((F_X3_get 60 (S3.2 0) y4) - 65), .int (F_X3_get 60 (S3.2 0) (y4 + 1))]) (rest := [.ref (ad o0)]) ⟨hx, hb, hml, hown, hW⟩ (c_X5_befall l D cI cZ ad o2 S2q ((F_X3_get 60 (S3.2 0) y4) - 65) (F_X3_get 60 (S3.2 0) (y4 + 1)) _ hw) (cwS0 hW mS_X5_befall ml_X5_54 ⟨Nat.le_of_ble_eq_true rfl, Nat.le_of_ble_eq_true rfl⟩) (preS0 hK hN hP hD [2] rfl rfl) rfl rfl hl.1 rfl (lv_room (Nat.le_of_ble_eq_true rfl)) dX5_canBe_91 ⟨Nat.le_refl _, Nat.le_refl _⟩) hP hD hS [2] rfl rfl (fun _ => rfl) (fun v9 u9 H locs hq hP hD hS => ?_)
            obtain ⟨v6, rfl, hw⟩ := hq
            obtain ⟨Z7, rfl⟩ : ∃ z, z = u9 := ⟨_, rfl⟩
            have hP : va_P D classes (jn [ycells ad o0 S0q, rcells cI ad o1 S1, rcells cI ad o2 Z7, pcells cI ad o3 S3]) H := hP
            have hD : va_D (cOf (jn [ycells ad o0 S0, rcells cI ad o1 S1, rcells cI ad o2 S2, pcells cI ad o3 S3])) (jn [ycells ad o0 S0q, rcells cI ad o1 S1, rcells cI ad o2 Z7, pcells cI ad o3 S3]) := hD
            refine W.eq (g2 := F0 m 94 ls [.int v6, .ref (ad o0)]) rfl ?_
            refine va_put (D := D) (ci := 5) (v := .int v6) (ty := .int) (C := RX5) (T := TX5) (N := 2) hx hb hW inW_X5 tyX5 tyX5_ok nmX5 hown hK hP hD hS 0 rfl rfl 1 (by decide) (hW _ fl_X5_31) (fun _ h9 => h9) rfl (by decide +kernel) rfl rfl (Nat.le_of_ble_eq_true rfl) dX5_canBe_94 (fun H locs hP hD hS => ?_)
            have hP : va_P D classes (jn [ycells ad o0 (sI S0q 1 v6), rcells cI ad o1 S1, rcells cI ad o2 Z7, pcells cI ad o3 S3]) H := hP
            have hD : va_D (cOf (jn [ycells ad o0 S0, rcells cI ad o1 S1, rcells cI ad o2 S2, pcells cI ad o3 S3])) (jn [ycells ad o0 (sI S0q 1 v6), rcells cI ad o1 S1, rcells cI ad o2 Z7, pcells cI ad o3 S3]) := hD
            refine lv_iinc (v := (y4 + 2)) (lv' := [(4, .int (y4 + 2)), (5, .int (F_X3_get 60 (S3.2 0) y4)), (0, .ref (ad o0)), (2, .ref (ad o2)), (3, .ref (ad o3))]) hx hb dX5_canBe_97 hl (k := 4) rfl rfl (by decide) rfl (fun ls hl => ?_)
            refine lv_aload_n hx hb dX5_canBe_100 rfl (lv_at hl 2 rfl) ?_
            refine va_get (D := D) (ci := 5) (v := .int v6) (C := RX5) (T := TX5) (N := 2) hx hb hW inW_X5 hown hK hP 0 rfl rfl 1 (by decide) (hW _ fl_X5_31) (fun _ h9 => h9) rfl dX5_canBe_101 ?_
            refine lv_if_ne (tgt := 117) hx hb dX5_canBe_104 (by decide) (fun c8 => ?_) (fun c8 => ?_)
            · have hw := Eq.mp (if_neg c8) hw
              refine lv_goto (tgt := 26) hx hb dX5_canBe_117 (by decide) ?_
              exact ih (y4 + 2) (sI S0q 1 v6) Z7 _ _ hP hD hS _ (lv_sub hl [2, 3, 4, 0] rfl) hw
            · have hw := Eq.mp (if_pos c8) hw
              refine lv_aload_n hx hb dX5_canBe_107 rfl (lv_at hl 2 rfl) ?_
              refine lv_dup hx hb dX5_canBe_108 rfl ?_
              refine va_get (D := D) (ci := 5) (v := .int (S0q.1 0)) (C := RX5) (T := TX5) (N := 2) hx hb hW inW_X5 hown hK hP 0 rfl rfl 0 (by decide) (hW _ fl_X5_25) (fun _ h9 => h9) rfl dX5_canBe_109 ?_
              refine lv_iconst (v := 1) hx hb dX5_canBe_112 (by decide) ?_
              refine lv_iadd hx hb dX5_canBe_113 ?_
              refine va_put (D := D) (ci := 5) (v := .int ((S0q.1 0) + 1)) (ty := .int) (C := RX5) (T := TX5) (N := 2) hx hb hW inW_X5 tyX5 tyX5_ok nmX5 hown hK hP hD hS 0 rfl rfl 0 (by decide) (hW _ fl_X5_25) (fun _ h9 => h9) rfl (by decide +kernel) rfl rfl (Nat.le_of_ble_eq_true rfl) dX5_canBe_114 (fun H locs hP hD hS => ?_)
              have hP : va_P D classes (jn [ycells ad o0 (sI (sI S0q 1 v6) 0 ((S0q.1 0) + 1)), rcells cI ad o1 S1, rcells cI ad o2 Z7, pcells cI ad o3 S3]) H := hP
              have hD : va_D (cOf (jn [ycells ad o0 S0, rcells cI ad o1 S1, rcells cI ad o2 S2, pcells cI ad o3 S3])) (jn [ycells ad o0 (sI (sI S0q 1 v6) 0 ((S0q.1 0) + 1)), rcells cI ad o1 S1, rcells cI ad o2 Z7, pcells cI ad o3 S3]) := hD
              refine lv_goto (tgt := 26) hx hb dX5_canBe_117 (by decide) ?_
              exact ih (y4 + 2) (sI (sI S0q 1 v6) 0 ((S0q.1 0) + 1)) Z7 _ _ hP hD hS _ (lv_sub hl [2, 3, 4, 0] rfl) hw
          · have hw := Eq.mp (if_neg c5) hw
            refine lv_aload_n hx hb dX5_canBe_61 rfl (lv_at hl 2 rfl) ?_
            refine lv_iload hx hb dX5_canBe_62 (lv_at hl 0 rfl) ?_
            refine callW (va_runS (As := [.ref (ad o2), .int (F_X3_get 60 (S3.2 0) y4)]) (rest := []) ⟨hx, hb, hml, hown, hW⟩ (c_X5_passTime l D cI cZ ad o2 S2q (F_X3_get 60 (S3.2 0) y4) _ hw) (cwS0 hW mS_X5_passTime ml_X5_50 ⟨Nat.le_of_ble_eq_true rfl, Nat.le_of_ble_eq_true rfl⟩) (preS0 hK hN hP hD [2] rfl rfl) rfl rfl hl.1 rfl (lv_room (Nat.le_of_ble_eq_true rfl)) dX5_canBe_64 ⟨Nat.le_refl _, Nat.le_refl _⟩) hP hD hS [2] rfl rfl (fun _ => rfl) (fun v9 u9 H locs hq hP hD hS => ?_)
            obtain ⟨rfl, hw⟩ := hq
            obtain ⟨Z9, rfl⟩ : ∃ z, z = u9 := ⟨_, rfl⟩
            have hP : va_P D classes (jn [ycells ad o0 S0q, rcells cI ad o1 S1, rcells cI ad o2 Z9, pcells cI ad o3 S3]) H := hP
            have hD : va_D (cOf (jn [ycells ad o0 S0, rcells cI ad o1 S1, rcells cI ad o2 S2, pcells cI ad o3 S3])) (jn [ycells ad o0 S0q, rcells cI ad o1 S1, rcells cI ad o2 Z9, pcells cI ad o3 S3]) := hD
            refine W.eq (g2 := F0 m 67 ls []) rfl ?_
            refine lv_iinc (v := (y4 + 1)) (lv' := [(4, .int (y4 + 1)), (5, .int (F_X3_get 60 (S3.2 0) y4)), (0, .ref (ad o0)), (2, .ref (ad o2)), (3, .ref (ad o3))]) hx hb dX5_canBe_67 hl (k := 4) rfl rfl (by decide) rfl (fun ls hl => ?_)
            refine lv_goto (tgt := 100) hx hb dX5_canBe_70 (by decide) ?_
            refine lv_aload_n hx hb dX5_canBe_100 rfl (lv_at hl 2 rfl) ?_
            refine va_get (D := D) (ci := 5) (v := .int (S0q.1 1)) (C := RX5) (T := TX5) (N := 2) hx hb hW inW_X5 hown hK hP 0 rfl rfl 1 (by decide) (hW _ fl_X5_31) (fun _ h9 => h9) rfl dX5_canBe_101 ?_
            refine lv_if_ne (tgt := 117) hx hb dX5_canBe_104 (by decide) (fun c9 => absurd c4 c9) (fun _ => ?_)
            refine lv_aload_n hx hb dX5_canBe_107 rfl (lv_at hl 2 rfl) ?_
            refine lv_dup hx hb dX5_canBe_108 rfl ?_
            refine va_get (D := D) (ci := 5) (v := .int (S0q.1 0)) (C := RX5) (T := TX5) (N := 2) hx hb hW inW_X5 hown hK hP 0 rfl rfl 0 (by decide) (hW _ fl_X5_25) (fun _ h9 => h9) rfl dX5_canBe_109 ?_
            refine lv_iconst (v := 1) hx hb dX5_canBe_112 (by decide) ?_
            refine lv_iadd hx hb dX5_canBe_113 ?_
            refine va_put (D := D) (ci := 5) (v := .int ((S0q.1 0) + 1)) (ty := .int) (C := RX5) (T := TX5) (N := 2) hx hb hW inW_X5 tyX5 tyX5_ok nmX5 hown hK hP hD hS 0 rfl rfl 0 (by decide) (hW _ fl_X5_25) (fun _ h9 => h9) rfl (by decide +kernel) rfl rfl (Nat.le_of_ble_eq_true rfl) dX5_canBe_114 (fun H locs hP hD hS => ?_)
            have hP : va_P D classes (jn [ycells ad o0 (sI S0q 0 ((S0q.1 0) + 1)), rcells cI ad o1 S1, rcells cI ad o2 Z9, pcells cI ad o3 S3]) H := hP
            have hD : va_D (cOf (jn [ycells ad o0 S0, rcells cI ad o1 S1, rcells cI ad o2 S2, pcells cI ad o3 S3])) (jn [ycells ad o0 (sI S0q 0 ((S0q.1 0) + 1)), rcells cI ad o1 S1, rcells cI ad o2 Z9, pcells cI ad o3 S3]) := hD
            refine lv_goto (tgt := 26) hx hb dX5_canBe_117 (by decide) ?_
            exact ih (y4 + 1) (sI S0q 0 ((S0q.1 0) + 1)) Z9 _ _ hP hD hS _ (lv_sub hl [2, 3, 4, 0] rfl) hw
  have hw : (wp_X2_takeOver S2 S1 (fun (Z1 : St) => (wp_X3_fill 6 (Z1.2 10) 0 (fun (Z2 : (Nat → Int32)) => (∃ M13, wl_X5_canBe_26 S3 (fun (Z10 : St) (Z11 : St) => (if (Z10.1 1) = 0 then (k 1 Z10 Z11) else (k 0 Z10 Z11))) M13 0 (sI (sI S0 0 0) 1 0) (sA Z1 10 Z2)))))) := hw
  refine lv_aload_n hx hb dX5_canBe_0 rfl (lv_at hl 2 rfl) ?_
  refine lv_aload_n hx hb dX5_canBe_1 rfl (lv_at hl 1 rfl) ?_
  refine callW (va_runV (As := [.ref (ad o1)]) (rest := []) ⟨hx, hb, hml, hown, hW⟩ (c_X2_takeOver l D cI cZ ad o2 S2 o1 S1 _ hw) (cwV0 hW mV_X2_takeOver ml_X5_9 ⟨Nat.le_of_ble_eq_true rfl, Nat.le_of_ble_eq_true rfl⟩) (preV0 0 rfl rfl hK hN hP hD [2, 1] rfl rfl) rfl rfl hl.1 rfl (lv_room (Nat.le_of_ble_eq_true rfl)) dX5_canBe_2 ⟨Nat.le_refl _, Nat.le_refl _⟩) hP hD hS [2, 1] rfl rfl (fun _ => rfl) (fun v9 u9 H locs hq hP hD hS => ?_)
  obtain ⟨rfl, hw⟩ := hq
  obtain ⟨Z1, rfl⟩ : ∃ z, z = u9 := ⟨_, rfl⟩
  have hP : va_P D classes (jn [ycells ad o0 S0, rcells cI ad o1 S1, rcells cI ad o2 Z1, pcells cI ad o3 S3]) H := hP
  have hD : va_D (cOf (jn [ycells ad o0 S0, rcells cI ad o1 S1, rcells cI ad o2 S2, pcells cI ad o3 S3])) (jn [ycells ad o0 S0, rcells cI ad o1 S1, rcells cI ad o2 Z1, pcells cI ad o3 S3]) := hD
  refine W.eq (g2 := F0 m 5 ls []) rfl ?_
  refine lv_aload_n hx hb dX5_canBe_5 rfl (lv_at hl 2 rfl) ?_
  refine va_get (D := D) (ci := 2) (v := .ref (ad (o2 + 4))) (C := RX2) (T := TX2) (N := 15) hx hb hW inW_X2 hown hK hP 18 rfl rfl 10 (by decide) (hW _ fl_X5_15) (fun _ h9 => h9) rfl dX5_canBe_6 ?_
  refine lv_iconst (v := 0) hx hb dX5_canBe_9 (by decide) ?_
  refine callW (va_runV (As := [.int 0]) (rest := []) ⟨hx, hb, hml, hown, hW⟩ (c_X3_fill__round_10 l D cI cZ ad o2 Z1 0 _ hw) (cwV0 hW mV_X3_fill ml_X5_19 ⟨Nat.le_of_ble_eq_true rfl, Nat.le_of_ble_eq_true rfl⟩) (preV0 4 rfl rfl hK hN hP hD [2] rfl rfl) rfl rfl hl.1 rfl (lv_room (Nat.le_of_ble_eq_true rfl)) dX5_canBe_10 ⟨Nat.le_refl _, Nat.le_refl _⟩) hP hD hS [2] rfl rfl (fun _ => rfl) (fun v9 u9 H locs hq hP hD hS => ?_)
  obtain ⟨rfl, hw⟩ := hq
  obtain ⟨Z2, rfl⟩ : ∃ z, z = u9 := ⟨_, rfl⟩
  have hP : va_P D classes (jn [ycells ad o0 S0, rcells cI ad o1 S1, rcells cI ad o2 (sA Z1 10 Z2), pcells cI ad o3 S3]) H := hP
  have hD : va_D (cOf (jn [ycells ad o0 S0, rcells cI ad o1 S1, rcells cI ad o2 S2, pcells cI ad o3 S3])) (jn [ycells ad o0 S0, rcells cI ad o1 S1, rcells cI ad o2 (sA Z1 10 Z2), pcells cI ad o3 S3]) := hD
  refine W.eq (g2 := F0 m 13 ls []) rfl ?_
  refine lv_aload_n hx hb dX5_canBe_13 rfl (lv_at hl 0 rfl) ?_
  refine lv_iconst (v := 0) hx hb dX5_canBe_14 (by decide) ?_
  refine va_put (D := D) (ci := 5) (v := .int 0) (ty := .int) (C := RX5) (T := TX5) (N := 2) hx hb hW inW_X5 tyX5 tyX5_ok nmX5 hown hK hP hD hS 0 rfl rfl 0 (by decide) (hW _ fl_X5_25) (fun _ h9 => h9) rfl (by decide +kernel) rfl rfl (Nat.le_of_ble_eq_true rfl) dX5_canBe_15 (fun H locs hP hD hS => ?_)
  have hP : va_P D classes (jn [ycells ad o0 (sI S0 0 0), rcells cI ad o1 S1, rcells cI ad o2 (sA Z1 10 Z2), pcells cI ad o3 S3]) H := hP
  have hD : va_D (cOf (jn [ycells ad o0 S0, rcells cI ad o1 S1, rcells cI ad o2 S2, pcells cI ad o3 S3])) (jn [ycells ad o0 (sI S0 0 0), rcells cI ad o1 S1, rcells cI ad o2 (sA Z1 10 Z2), pcells cI ad o3 S3]) := hD
  refine lv_aload_n hx hb dX5_canBe_18 rfl (lv_at hl 0 rfl) ?_
  refine lv_iconst (v := 0) hx hb dX5_canBe_19 (by decide) ?_
  refine va_put (D := D) (ci := 5) (v := .int 0) (ty := .int) (C := RX5) (T := TX5) (N := 2) hx hb hW inW_X5 tyX5 tyX5_ok nmX5 hown hK hP hD hS 0 rfl rfl 1 (by decide) (hW _ fl_X5_31) (fun _ h9 => h9) rfl (by decide +kernel) rfl rfl (Nat.le_of_ble_eq_true rfl) dX5_canBe_20 (fun H locs hP hD hS => ?_)
  have hP : va_P D classes (jn [ycells ad o0 (sI (sI S0 0 0) 1 0), rcells cI ad o1 S1, rcells cI ad o2 (sA Z1 10 Z2), pcells cI ad o3 S3]) H := hP
  have hD : va_D (cOf (jn [ycells ad o0 S0, rcells cI ad o1 S1, rcells cI ad o2 S2, pcells cI ad o3 S3])) (jn [ycells ad o0 (sI (sI S0 0 0) 1 0), rcells cI ad o1 S1, rcells cI ad o2 (sA Z1 10 Z2), pcells cI ad o3 S3]) := hD
  refine lv_iconst (v := 0) hx hb dX5_canBe_23 (by decide) ?_
  refine lv_istore (lv' := [(4, .int 0), (0, .ref (ad o0)), (1, .ref (ad o1)), (2, .ref (ad o2)), (3, .ref (ad o3))]) hx hb dX5_canBe_24 hl (by decide) rfl (fun ls hl => ?_)
  obtain ⟨N14, hw⟩ := hw
  refine L26  _ (fun Z10 Z11 H locs hP hD hS ls hl hw => ?_) N14 0 (sI (sI S0 0 0) 1 0) (sA Z1 10 Z2) _ _ hP hD hS _ (lv_sub hl [1, 3, 4, 0] rfl) hw
  refine lv_aload_n hx hb dX5_canBe_120 rfl (lv_at hl 0 rfl) ?_
  refine va_get (D := D) (ci := 5) (v := .int (Z10.1 1)) (C := RX5) (T := TX5) (N := 2) hx hb hW inW_X5 hown hK hP 0 rfl rfl 1 (by decide) (hW _ fl_X5_31) (fun _ h9 => h9) rfl dX5_canBe_121 ?_
  refine lv_if_ne (tgt := 131) hx hb dX5_canBe_124 (by decide) (fun c12 => ?_) (fun c12 => ?_)
  · have hw := Eq.mp (if_neg c12) hw
    refine lv_iconst (v := 0) hx hb dX5_canBe_131 (by decide) ?_
    exact W.zret (v := 0) hx hb hr rfl (fun t ht _ => ⟨⟨_, (Z10, Z11), rfl, ⟨_, rfl, hw⟩, by rw [ht]; exact hP⟩, hS.F ht⟩) hS.2.2 dX5_canBe_132
  · have hw := Eq.mp (if_pos c12) hw
    refine lv_iconst (v := 1) hx hb dX5_canBe_127 (by decide) ?_
    refine lv_goto (tgt := 132) hx hb dX5_canBe_128 (by decide) ?_
    exact W.zret (v := 1) hx hb hr rfl (fun t ht _ => ⟨⟨_, (Z10, Z11), rfl, ⟨_, rfl, hw⟩, by rw [ht]; exact hP⟩, hS.F ht⟩) hS.2.2 dX5_canBe_132
set_option maxHeartbeats 4000000 in
set_option maxRecDepth 100000 in
theorem c_X0_countWant (l : Launch) (D : va_G) (cI cZ : ClassId) (ad : Nat → Nat) (o0 : Nat) (S0 : St) (x1 : Int32) (x2 : Int32) (k : St → Prop) (hw : wp_X0_countWant S0 x1 x2 k) : KW l yX0_countWant cX0_countWant 3 none 1 21 D cI cZ [.ref (ad o0), .int x1, .int x2] [dcells cI ad o0 S0] (fun v (u : St) => v = none ∧ k u) (fun u : St => [dcells cI ad o0 u]) := by
  refine Met.ofE (by decide +kernel) (Nat.le_of_ble_eq_true rfl) ?_
  intro p e s m below meth c E ls hl
  obtain ⟨hx, hb, hr, hml, hW, hown, hlocks, hP, hK, hD, hN⟩ := E
  have hl : lv_has ls 3 [(0, .ref (ad o0)), (1, .int x1), (2, .int x2)] := hl
  have hS : va_S (cOf (jn [dcells cI ad o0 S0])) s.heap s.heap [] := va_S.rf
  have hw : (if (F_X3_get 6 (S0.2 0) x1) = 1 then (k (sI S0 4 ((S0.1 4) + x2))) else (if (F_X3_get 6 (S0.2 0) x1) = 2 then (k (sI S0 5 ((S0.1 5) + x2))) else (k S0))) := hw
  refine lv_aload_n hx hb dX0_countWant_0 rfl (lv_at hl 0 rfl) ?_
  refine va_get (D := D) (ci := 0) (v := .ref (ad (o0 + 1))) (C := RX0) (T := TX0) (N := 7) hx hb hW inW_X0 hown hK hP 0 rfl rfl 0 (by decide) (hW _ fl_X0_14) (fun _ h9 => h9) rfl dX0_countWant_1 ?_
  refine lv_iload_n hx hb dX0_countWant_4 rfl (lv_at hl 1 rfl) ?_
  refine callF (va_runV (As := [.int x1]) (rest := []) ⟨hx, hb, hml, hown, hW⟩ (c_X3_get__deal_0 l D cI cZ ad o0 S0 x1 _ rfl) (cwV0 hW mV_X3_get ml_X0_55 ⟨Nat.le_of_ble_eq_true rfl, Nat.le_of_ble_eq_true rfl⟩) (preV0 1 rfl rfl hK hN hP hD [0] rfl rfl) rfl rfl hl.1 rfl (lv_room (Nat.le_of_ble_eq_true rfl)) dX0_countWant_5 ⟨Nat.le_refl _, Nat.le_refl _⟩) ?_
  refine W.eq (g2 := F0 m 8 ls [.int (F_X3_get 6 (S0.2 0) x1)]) rfl ?_
  refine lv_iconst (v := 1) hx hb dX0_countWant_8 (by decide) ?_
  refine lv_icmp_ne (tgt := 25) hx hb dX0_countWant_9 (by decide) (fun c1 => ?_) (fun c1 => ?_)
  · have hw := Eq.mp (if_neg c1) hw
    refine lv_aload_n hx hb dX0_countWant_25 rfl (lv_at hl 0 rfl) ?_
    refine va_get (D := D) (ci := 0) (v := .ref (ad (o0 + 1))) (C := RX0) (T := TX0) (N := 7) hx hb hW inW_X0 hown hK hP 0 rfl rfl 0 (by decide) (hW _ fl_X0_14) (fun _ h9 => h9) rfl dX0_countWant_26 ?_
    refine lv_iload_n hx hb dX0_countWant_29 rfl (lv_at hl 1 rfl) ?_
    refine callF (va_runV (As := [.int x1]) (rest := []) ⟨hx, hb, hml, hown, hW⟩ (c_X3_get__deal_0 l D cI cZ ad o0 S0 x1 _ rfl) (cwV0 hW mV_X3_get ml_X0_55 ⟨Nat.le_of_ble_eq_true rfl, Nat.le_of_ble_eq_true rfl⟩) (preV0 1 rfl rfl hK hN hP hD [0] rfl rfl) rfl rfl hl.1 rfl (lv_room (Nat.le_of_ble_eq_true rfl)) dX0_countWant_30 ⟨Nat.le_refl _, Nat.le_refl _⟩) ?_
    refine W.eq (g2 := F0 m 33 ls [.int (F_X3_get 6 (S0.2 0) x1)]) rfl ?_
    refine lv_iconst (v := 2) hx hb dX0_countWant_33 (by decide) ?_
    refine lv_icmp_ne (tgt := 47) hx hb dX0_countWant_34 (by decide) (fun c2 => ?_) (fun c2 => ?_)
    · have hw := Eq.mp (if_neg c2) hw
      exact W.vret hx hb hr (fun t ht _ => ⟨⟨_, (S0), rfl, ⟨rfl, hw⟩, by rw [ht]; exact hP⟩, hS.F ht⟩) hS.2.2 dX0_countWant_47
    · have hw := Eq.mp (if_pos c2) hw
      refine lv_aload_n hx hb dX0_countWant_37 rfl (lv_at hl 0 rfl) ?_
      refine lv_dup hx hb dX0_countWant_38 rfl ?_
      refine va_get (D := D) (ci := 0) (v := .int (S0.1 5)) (C := RX0) (T := TX0) (N := 7) hx hb hW inW_X0 hown hK hP 0 rfl rfl 5 (by decide) (hW _ fl_X0_33) (fun _ h9 => h9) rfl dX0_countWant_39 ?_
      refine lv_iload_n hx hb dX0_countWant_42 rfl (lv_at hl 2 rfl) ?_
      refine lv_iadd hx hb dX0_countWant_43 ?_
      refine va_put (D := D) (ci := 0) (v := .int ((S0.1 5) + x2)) (ty := .int) (C := RX0) (T := TX0) (N := 7) hx hb hW inW_X0 tyX0 tyX0_ok nmX0 hown hK hP hD hS 0 rfl rfl 5 (by decide) (hW _ fl_X0_33) (fun _ h9 => h9) rfl (by decide +kernel) rfl rfl (Nat.le_of_ble_eq_true rfl) dX0_countWant_44 (fun H locs hP hD hS => ?_)
      have hP : va_P D classes (jn [dcells cI ad o0 (sI S0 5 ((S0.1 5) + x2))]) H := hP
      have hD : va_D (cOf (jn [dcells cI ad o0 S0])) (jn [dcells cI ad o0 (sI S0 5 ((S0.1 5) + x2))]) := hD
      exact W.vret hx hb hr (fun t ht _ => ⟨⟨_, ((sI S0 5 ((S0.1 5) + x2))), rfl, ⟨rfl, hw⟩, by rw [ht]; exact hP⟩, hS.F ht⟩) hS.2.2 dX0_countWant_47
  · have hw := Eq.mp (if_pos c1) hw
    refine lv_aload_n hx hb dX0_countWant_12 rfl (lv_at hl 0 rfl) ?_
    refine lv_dup hx hb dX0_countWant_13 rfl ?_
    refine va_get (D := D) (ci := 0) (v := .int (S0.1 4)) (C := RX0) (T := TX0) (N := 7) hx hb hW inW_X0 hown hK hP 0 rfl rfl 4 (by decide) (hW _ fl_X0_30) (fun _ h9 => h9) rfl dX0_countWant_14 ?_
    refine lv_iload_n hx hb dX0_countWant_17 rfl (lv_at hl 2 rfl) ?_
    refine lv_iadd hx hb dX0_countWant_18 ?_
    refine va_put (D := D) (ci := 0) (v := .int ((S0.1 4) + x2)) (ty := .int) (C := RX0) (T := TX0) (N := 7) hx hb hW inW_X0 tyX0 tyX0_ok nmX0 hown hK hP hD hS 0 rfl rfl 4 (by decide) (hW _ fl_X0_30) (fun _ h9 => h9) rfl (by decide +kernel) rfl rfl (Nat.le_of_ble_eq_true rfl) dX0_countWant_19 (fun H locs hP hD hS => ?_)
    have hP : va_P D classes (jn [dcells cI ad o0 (sI S0 4 ((S0.1 4) + x2))]) H := hP
    have hD : va_D (cOf (jn [dcells cI ad o0 S0])) (jn [dcells cI ad o0 (sI S0 4 ((S0.1 4) + x2))]) := hD
    refine lv_goto (tgt := 47) hx hb dX0_countWant_22 (by decide) ?_
    exact W.vret hx hb hr (fun t ht _ => ⟨⟨_, ((sI S0 4 ((S0.1 4) + x2))), rfl, ⟨rfl, hw⟩, by rw [ht]; exact hP⟩, hS.F ht⟩) hS.2.2 dX0_countWant_47
set_option maxHeartbeats 4000000 in
set_option maxRecDepth 100000 in
theorem c_X0_countBearer (l : Launch) (D : va_G) (cI cZ : ClassId) (ad : Nat → Nat) (o0 : Nat) (S0 : St) (x1 : Int32) (x2 : Int32) (k : St → Prop) (hw : wp_X0_countBearer S0 x1 x2 k) : KW l yX0_countBearer cX0_countBearer 3 none 0 0 D cI cZ [.ref (ad o0), .int x1, .int x2] [dcells cI ad o0 S0] (fun v (u : St) => v = none ∧ k u) (fun u : St => [dcells cI ad o0 u]) := by
  refine Met.ofE (by decide +kernel) (Nat.le_of_ble_eq_true rfl) ?_
  intro p e s m below meth c E ls hl
  obtain ⟨hx, hb, hr, hml, hW, hown, hlocks, hP, hK, hD, hN⟩ := E
  have hl : lv_has ls 3 [(0, .ref (ad o0)), (1, .int x1), (2, .int x2)] := hl
  have hS : va_S (cOf (jn [dcells cI ad o0 S0])) s.heap s.heap [] := va_S.rf
  have hw : (if x1 = 0 then (k (sI S0 3 ((S0.1 3) + x2))) else (k (sI S0 2 ((S0.1 2) + x2)))) := hw
  refine lv_iload_n hx hb dX0_countBearer_0 rfl (lv_at hl 1 rfl) ?_
  refine lv_if_eq (tgt := 17) hx hb dX0_countBearer_1 (by decide) (fun c1 => ?_) (fun c1 => ?_)
  · have hw := Eq.mp (if_pos c1) hw
    refine lv_aload_n hx hb dX0_countBearer_17 rfl (lv_at hl 0 rfl) ?_
    refine lv_dup hx hb dX0_countBearer_18 rfl ?_
    refine va_get (D := D) (ci := 0) (v := .int (S0.1 3)) (C := RX0) (T := TX0) (N := 7) hx hb hW inW_X0 hown hK hP 0 rfl rfl 3 (by decide) (hW _ fl_X0_27) (fun _ h9 => h9) rfl dX0_countBearer_19 ?_
    refine lv_iload_n hx hb dX0_countBearer_22 rfl (lv_at hl 2 rfl) ?_
    refine lv_iadd hx hb dX0_countBearer_23 ?_
    refine va_put (D := D) (ci := 0) (v := .int ((S0.1 3) + x2)) (ty := .int) (C := RX0) (T := TX0) (N := 7) hx hb hW inW_X0 tyX0 tyX0_ok nmX0 hown hK hP hD hS 0 rfl rfl 3 (by decide) (hW _ fl_X0_27) (fun _ h9 => h9) rfl (by decide +kernel) rfl rfl (Nat.le_of_ble_eq_true rfl) dX0_countBearer_24 (fun H locs hP hD hS => ?_)
    have hP : va_P D classes (jn [dcells cI ad o0 (sI S0 3 ((S0.1 3) + x2))]) H := hP
    have hD : va_D (cOf (jn [dcells cI ad o0 S0])) (jn [dcells cI ad o0 (sI S0 3 ((S0.1 3) + x2))]) := hD
    exact W.vret hx hb hr (fun t ht _ => ⟨⟨_, ((sI S0 3 ((S0.1 3) + x2))), rfl, ⟨rfl, hw⟩, by rw [ht]; exact hP⟩, hS.F ht⟩) hS.2.2 dX0_countBearer_27
  · have hw := Eq.mp (if_neg c1) hw
    refine lv_aload_n hx hb dX0_countBearer_4 rfl (lv_at hl 0 rfl) ?_
    refine lv_dup hx hb dX0_countBearer_5 rfl ?_
    refine va_get (D := D) (ci := 0) (v := .int (S0.1 2)) (C := RX0) (T := TX0) (N := 7) hx hb hW inW_X0 hown hK hP 0 rfl rfl 2 (by decide) (hW _ fl_X0_24) (fun _ h9 => h9) rfl dX0_countBearer_6 ?_
    refine lv_iload_n hx hb dX0_countBearer_9 rfl (lv_at hl 2 rfl) ?_
    refine lv_iadd hx hb dX0_countBearer_10 ?_
    refine va_put (D := D) (ci := 0) (v := .int ((S0.1 2) + x2)) (ty := .int) (C := RX0) (T := TX0) (N := 7) hx hb hW inW_X0 tyX0 tyX0_ok nmX0 hown hK hP hD hS 0 rfl rfl 2 (by decide) (hW _ fl_X0_24) (fun _ h9 => h9) rfl (by decide +kernel) rfl rfl (Nat.le_of_ble_eq_true rfl) dX0_countBearer_11 (fun H locs hP hD hS => ?_)
    have hP : va_P D classes (jn [dcells cI ad o0 (sI S0 2 ((S0.1 2) + x2))]) H := hP
    have hD : va_D (cOf (jn [dcells cI ad o0 S0])) (jn [dcells cI ad o0 (sI S0 2 ((S0.1 2) + x2))]) := hD
    refine lv_goto (tgt := 27) hx hb dX0_countBearer_14 (by decide) ?_
    exact W.vret hx hb hr (fun t ht _ => ⟨⟨_, ((sI S0 2 ((S0.1 2) + x2))), rfl, ⟨rfl, hw⟩, by rw [ht]; exact hP⟩, hS.F ht⟩) hS.2.2 dX0_countBearer_27
set_option maxHeartbeats 4000000 in
set_option maxRecDepth 100000 in
theorem c_X0_takeBack (l : Launch) (D : va_G) (cI cZ : ClassId) (ad : Nat → Nat) (o0 : Nat) (S0 : St) (x1 : Int32) (x2 : Int32) (k : St → Prop) (hw : wp_X0_takeBack S0 x1 x2 k) : KW l yX0_takeBack cX0_takeBack 3 none 2 43 D cI cZ [.ref (ad o0), .int x1, .int x2] [dcells cI ad o0 S0] (fun v (u : St) => v = none ∧ k u) (fun u : St => [dcells cI ad o0 u]) := by
  refine Met.ofE (by decide +kernel) (Nat.le_of_ble_eq_true rfl) ?_
  intro p e s m below meth c E ls hl
  obtain ⟨hx, hb, hr, hml, hW, hown, hlocks, hP, hK, hD, hN⟩ := E
  have hl : lv_has ls 3 [(0, .ref (ad o0)), (1, .int x1), (2, .int x2)] := hl
  have hS : va_S (cOf (jn [dcells cI ad o0 S0])) s.heap s.heap [] := va_S.rf
  have hw : (wp_X0_countWant (sI S0 1 ((S0.1 1) ||| ((1 : Int32) <<< (x1 &&& 31)))) x1 1 (fun (Z1 : St) => (wp_X0_countBearer Z1 x2 1 (fun (Z2 : St) => (k Z2))))) := hw
  refine lv_aload_n hx hb dX0_takeBack_0 rfl (lv_at hl 0 rfl) ?_
  refine lv_dup hx hb dX0_takeBack_1 rfl ?_
  refine va_get (D := D) (ci := 0) (v := .int (S0.1 1)) (C := RX0) (T := TX0) (N := 7) hx hb hW inW_X0 hown hK hP 0 rfl rfl 1 (by decide) (hW _ fl_X0_20) (fun _ h9 => h9) rfl dX0_takeBack_2 ?_
  refine lv_iconst (v := 1) hx hb dX0_takeBack_5 (by decide) ?_
  refine lv_iload_n hx hb dX0_takeBack_6 rfl (lv_at hl 1 rfl) ?_
  refine lv_ishl hx hb dX0_takeBack_7 ?_
  refine lv_ior hx hb dX0_takeBack_8 ?_
  refine va_put (D := D) (ci := 0) (v := .int ((S0.1 1) ||| ((1 : Int32) <<< (x1 &&& 31)))) (ty := .int) (C := RX0) (T := TX0) (N := 7) hx hb hW inW_X0 tyX0 tyX0_ok nmX0 hown hK hP hD hS 0 rfl rfl 1 (by decide) (hW _ fl_X0_20) (fun _ h9 => h9) rfl (by decide +kernel) rfl rfl (Nat.le_of_ble_eq_true rfl) dX0_takeBack_9 (fun H locs hP hD hS => ?_)
  have hP : va_P D classes (jn [dcells cI ad o0 (sI S0 1 ((S0.1 1) ||| ((1 : Int32) <<< (x1 &&& 31))))]) H := hP
  have hD : va_D (cOf (jn [dcells cI ad o0 S0])) (jn [dcells cI ad o0 (sI S0 1 ((S0.1 1) ||| ((1 : Int32) <<< (x1 &&& 31))))]) := hD
  refine lv_aload_n hx hb dX0_takeBack_12 rfl (lv_at hl 0 rfl) ?_
  refine lv_iload_n hx hb dX0_takeBack_13 rfl (lv_at hl 1 rfl) ?_
  refine lv_iconst (v := 1) hx hb dX0_takeBack_14 (by decide) ?_
  refine callW (va_runV (As := [.int x1, .int 1]) (rest := []) ⟨hx, hb, hml, hown, hW⟩ (c_X0_countWant l D cI cZ ad o0 (sI S0 1 ((S0.1 1) ||| ((1 : Int32) <<< (x1 &&& 31)))) x1 1 _ hw) (cwV0 hW mV_X0_countWant ml_X0_85 ⟨Nat.le_of_ble_eq_true rfl, Nat.le_of_ble_eq_true rfl⟩) (preV0 0 rfl rfl hK hN hP hD [0] rfl rfl) rfl rfl hl.1 rfl (lv_room (Nat.le_of_ble_eq_true rfl)) dX0_takeBack_15 ⟨Nat.le_refl _, Nat.le_refl _⟩) hP hD hS [0] rfl rfl (fun _ => rfl) (fun v9 u9 H locs hq hP hD hS => ?_)
  obtain ⟨rfl, hw⟩ := hq
  obtain ⟨Z1, rfl⟩ : ∃ z, z = u9 := ⟨_, rfl⟩
  have hP : va_P D classes (jn [dcells cI ad o0 Z1]) H := hP
  have hD : va_D (cOf (jn [dcells cI ad o0 S0])) (jn [dcells cI ad o0 Z1]) := hD
  refine W.eq (g2 := F0 m 18 ls []) rfl ?_
  refine lv_aload_n hx hb dX0_takeBack_18 rfl (lv_at hl 0 rfl) ?_
  refine lv_iload_n hx hb dX0_takeBack_19 rfl (lv_at hl 2 rfl) ?_
  refine lv_iconst (v := 1) hx hb dX0_takeBack_20 (by decide) ?_
  refine callW (va_runV (As := [.int x2, .int 1]) (rest := []) ⟨hx, hb, hml, hown, hW⟩ (c_X0_countBearer l D cI cZ ad o0 Z1 x2 1 _ hw) (cwV0 hW mV_X0_countBearer ml_X0_88 ⟨Nat.le_of_ble_eq_true rfl, Nat.le_of_ble_eq_true rfl⟩) (preV0 0 rfl rfl hK hN hP hD [0] rfl rfl) rfl rfl hl.1 rfl (lv_room (Nat.le_of_ble_eq_true rfl)) dX0_takeBack_21 ⟨Nat.le_refl _, Nat.le_refl _⟩) hP hD hS [0] rfl rfl (fun _ => rfl) (fun v9 u9 H locs hq hP hD hS => ?_)
  obtain ⟨rfl, hw⟩ := hq
  obtain ⟨Z2, rfl⟩ : ∃ z, z = u9 := ⟨_, rfl⟩
  have hP : va_P D classes (jn [dcells cI ad o0 Z2]) H := hP
  have hD : va_D (cOf (jn [dcells cI ad o0 S0])) (jn [dcells cI ad o0 Z2]) := hD
  refine W.eq (g2 := F0 m 24 ls []) rfl ?_
  exact W.vret hx hb hr (fun t ht _ => ⟨⟨_, (Z2), rfl, ⟨rfl, hw⟩, by rw [ht]; exact hP⟩, hS.F ht⟩) hS.2.2 dX0_takeBack_24
set_option maxHeartbeats 4000000 in
set_option maxRecDepth 100000 in
theorem c_X0_isOpen (l : Launch) (D : va_G) (cI cZ : ClassId) (ad : Nat → Nat) (o0 : Nat) (S0 : St) (x1 : Int32) (r9 : Int32) (hw : F_X0_isOpen S0 x1 = r9) : KF l yX0_isOpen cX0_isOpen 2 (some .boolean) 0 0 D cI cZ [.ref (ad o0), .int x1] [dcells cI ad o0 S0] (some (.int r9)) := by
  refine Met.ofE (by decide +kernel) (Nat.le_of_ble_eq_true rfl) ?_
  intro p e s m below meth c E ls hl
  obtain ⟨hx, hb, hr, hml, hW, hown, hlocks, hP, hK, hD, hN⟩ := E
  have hl : lv_has ls 2 [(0, .ref (ad o0)), (1, .int x1)] := hl
  have hw : (if (((S0.1 1) >>> (x1 &&& 31)) &&& 1) = 1 then 1 else 0) = r9 := hw
  refine lv_aload_n hx hb dX0_isOpen_0 rfl (lv_at hl 0 rfl) ?_
  refine va_get (D := D) (ci := 0) (v := .int (S0.1 1)) (C := RX0) (T := TX0) (N := 7) hx hb hW inW_X0 hown hK hP 0 rfl rfl 1 (by decide) (hW _ fl_X0_20) (fun _ h9 => h9) rfl dX0_isOpen_1 ?_
  refine lv_iload_n hx hb dX0_isOpen_4 rfl (lv_at hl 1 rfl) ?_
  refine lv_ishr hx hb dX0_isOpen_5 ?_
  refine lv_iconst (v := 1) hx hb dX0_isOpen_6 (by decide) ?_
  refine lv_iand hx hb dX0_isOpen_7 ?_
  refine lv_iconst (v := 1) hx hb dX0_isOpen_8 (by decide) ?_
  refine lv_icmp_ne (tgt := 16) hx hb dX0_isOpen_9 (by decide) (fun c1 => ?_) (fun c1 => ?_)
  · have hw := (if_neg c1).symm.trans hw
    refine lv_iconst (v := 0) hx hb dX0_isOpen_16 (by decide) ?_
    subst hw
    exact W.zret (v := 0) hx hb hr rfl (fun t ht _ => ⟨rfl, ht⟩) (fun _ h => by cases h) dX0_isOpen_17
  · have hw := (if_pos c1).symm.trans hw
    refine lv_iconst (v := 1) hx hb dX0_isOpen_12 (by decide) ?_
    refine lv_goto (tgt := 17) hx hb dX0_isOpen_13 (by decide) ?_
    subst hw
    exact W.zret (v := 1) hx hb hr rfl (fun t ht _ => ⟨rfl, ht⟩) (fun _ h => by cases h) dX0_isOpen_17
set_option maxHeartbeats 4000000 in
set_option maxRecDepth 100000 in
theorem c_X0_heed (l : Launch) (D : va_G) (cI cZ : ClassId) (ad : Nat → Nat) (o0 : Nat) (S0 : St) (x1 : Int32) (x2 : Int32) (k : St → Prop) (hw : wp_X0_heed S0 x1 x2 k) : KW l yX0_heed cX0_heed 4 none 2 43 D cI cZ [.ref (ad o0), .int x1, .int x2] [dcells cI ad o0 S0] (fun v (u : St) => v = none ∧ k u) (fun u : St => [dcells cI ad o0 u]) := by
  refine Met.ofE (by decide +kernel) (Nat.le_of_ble_eq_true rfl) ?_
  intro p e s m below meth c E ls hl
  obtain ⟨hx, hb, hr, hml, hW, hown, hlocks, hP, hK, hD, hN⟩ := E
  have hl : lv_has ls 4 [(0, .ref (ad o0)), (1, .int x1), (2, .int x2)] := hl
  have hS : va_S (cOf (jn [dcells cI ad o0 S0])) s.heap s.heap [] := va_S.rf
  have hw : (if x2 = 0 then (if (F_X0_isOpen S0 x1) = 0 then (k (sI S0 6 1)) else (if (F_X3_get 6 (S0.2 0) x1) = 0 then (wp_X3_put 6 (S0.2 0) x1 2 (fun (Z4 : (Nat → Int32)) => (wp_X0_countWant (sA S0 0 Z4) x1 1 (fun (Z5 : St) => (k Z5))))) else (if (F_X3_get 6 (S0.2 0) x1) = 2 then (k S0) else (k (sI S0 6 1))))) else (if (F_X0_isOpen S0 x1) = 0 then (k (sI S0 6 1)) else (if (F_X3_get 6 (S0.2 0) x1) = 0 then (wp_X3_put 6 (S0.2 0) x1 1 (fun (Z9 : (Nat → Int32)) => (wp_X0_countWant (sA S0 0 Z9) x1 1 (fun (Z10 : St) => (k Z10))))) else (if (F_X3_get 6 (S0.2 0) x1) = 1 then (k S0) else (k (sI S0 6 1)))))) := hw
  refine lv_iload_n hx hb dX0_heed_0 rfl (lv_at hl 2 rfl) ?_
  refine lv_if_eq (tgt := 8) hx hb dX0_heed_1 (by decide) (fun c1 => ?_) (fun c1 => ?_)
  · have hw := Eq.mp (if_pos c1) hw
    refine lv_iconst (v := 2) hx hb dX0_heed_8 (by decide) ?_
    refine lv_istore_n (lv' := [(3, .int 2), (0, .ref (ad o0)), (1, .int x1), (2, .int x2)]) hx hb dX0_heed_9 rfl hl (by decide) rfl (fun ls hl => ?_)
    refine lv_aload_n hx hb dX0_heed_10 rfl (lv_at hl 1 rfl) ?_
    refine lv_iload_n hx hb dX0_heed_11 rfl (lv_at hl 2 rfl) ?_
    refine callF (va_runV (As := [.int x1]) (rest := []) ⟨hx, hb, hml, hown, hW⟩ (c_X0_isOpen l D cI cZ ad o0 S0 x1 _ rfl) (cwV0 hW mV_X0_isOpen ml_X0_78 ⟨Nat.le_of_ble_eq_true rfl, Nat.le_of_ble_eq_true rfl⟩) (preV0 0 rfl rfl hK hN hP hD [0] rfl rfl) rfl rfl hl.1 rfl (lv_room (Nat.le_of_ble_eq_true rfl)) dX0_heed_12 ⟨Nat.le_refl _, Nat.le_refl _⟩) ?_
    refine W.eq (g2 := F0 m 15 ls [.int (F_X0_isOpen S0 x1)]) rfl ?_
    refine lv_if_ne (tgt := 26) hx hb dX0_heed_15 (by decide) (fun c2 => ?_) (fun c2 => ?_)
    · have hw := Eq.mp (if_neg c2) hw
      refine lv_aload_n hx hb dX0_heed_26 rfl (lv_at hl 1 rfl) ?_
      refine va_get (D := D) (ci := 0) (v := .ref (ad (o0 + 1))) (C := RX0) (T := TX0) (N := 7) hx hb hW inW_X0 hown hK hP 0 rfl rfl 0 (by decide) (hW _ fl_X0_14) (fun _ h9 => h9) rfl dX0_heed_27 ?_
      refine lv_iload_n hx hb dX0_heed_30 rfl (lv_at hl 2 rfl) ?_
      refine callF (va_runV (As := [.int x1]) (rest := []) ⟨hx, hb, hml, hown, hW⟩ (c_X3_get__deal_0 l D cI cZ ad o0 S0 x1 _ rfl) (cwV0 hW mV_X3_get ml_X0_55 ⟨Nat.le_of_ble_eq_true rfl, Nat.le_of_ble_eq_true rfl⟩) (preV0 1 rfl rfl hK hN hP hD [0] rfl rfl) rfl rfl hl.1 rfl (lv_room (Nat.le_of_ble_eq_true rfl)) dX0_heed_31 ⟨Nat.le_refl _, Nat.le_refl _⟩) ?_
      refine W.eq (g2 := F0 m 34 ls [.int (F_X3_get 6 (S0.2 0) x1)]) rfl ?_
      refine lv_if_ne (tgt := 55) hx hb dX0_heed_34 (by decide) (fun c3 => ?_) (fun c3 => ?_)
      · have hw := Eq.mp (if_neg c3) hw
        refine lv_aload_n hx hb dX0_heed_55 rfl (lv_at hl 1 rfl) ?_
        refine va_get (D := D) (ci := 0) (v := .ref (ad (o0 + 1))) (C := RX0) (T := TX0) (N := 7) hx hb hW inW_X0 hown hK hP 0 rfl rfl 0 (by decide) (hW _ fl_X0_14) (fun _ h9 => h9) rfl dX0_heed_56 ?_
        refine lv_iload_n hx hb dX0_heed_59 rfl (lv_at hl 2 rfl) ?_
        refine callF (va_runV (As := [.int x1]) (rest := []) ⟨hx, hb, hml, hown, hW⟩ (c_X3_get__deal_0 l D cI cZ ad o0 S0 x1 _ rfl) (cwV0 hW mV_X3_get ml_X0_55 ⟨Nat.le_of_ble_eq_true rfl, Nat.le_of_ble_eq_true rfl⟩) (preV0 1 rfl rfl hK hN hP hD [0] rfl rfl) rfl rfl hl.1 rfl (lv_room (Nat.le_of_ble_eq_true rfl)) dX0_heed_60 ⟨Nat.le_refl _, Nat.le_refl _⟩) ?_
        refine W.eq (g2 := F0 m 63 ls [.int (F_X3_get 6 (S0.2 0) x1)]) rfl ?_
        refine lv_iload_n hx hb dX0_heed_63 rfl (lv_at hl 0 rfl) ?_
        refine lv_icmp_eq (tgt := 72) hx hb dX0_heed_64 (by decide) (fun c6 => ?_) (fun c6 => ?_)
        · have hw := Eq.mp (if_pos c6) hw
          exact W.vret hx hb hr (fun t ht _ => ⟨⟨_, (S0), rfl, ⟨rfl, hw⟩, by rw [ht]; exact hP⟩, hS.F ht⟩) hS.2.2 dX0_heed_72
        · have hw := Eq.mp (if_neg c6) hw
          refine lv_aload_n hx hb dX0_heed_67 rfl (lv_at hl 1 rfl) ?_
          refine lv_iconst (v := 1) hx hb dX0_heed_68 (by decide) ?_
          refine va_put (D := D) (ci := 0) (v := .int 1) (ty := .boolean) (C := RX0) (T := TX0) (N := 7) hx hb hW inW_X0 tyX0 tyX0_ok nmX0 hown hK hP hD hS 0 rfl rfl 6 (by decide) (hW _ fl_X0_36) (fun _ h9 => h9) rfl (by decide +kernel) rfl rfl (Nat.le_of_ble_eq_true rfl) dX0_heed_69 (fun H locs hP hD hS => ?_)
          have hP : va_P D classes (jn [dcells cI ad o0 (sI S0 6 1)]) H := hP
          have hD : va_D (cOf (jn [dcells cI ad o0 S0])) (jn [dcells cI ad o0 (sI S0 6 1)]) := hD
          exact W.vret hx hb hr (fun t ht _ => ⟨⟨_, ((sI S0 6 1)), rfl, ⟨rfl, hw⟩, by rw [ht]; exact hP⟩, hS.F ht⟩) hS.2.2 dX0_heed_72
      · have hw := Eq.mp (if_pos c3) hw
        refine lv_aload_n hx hb dX0_heed_37 rfl (lv_at hl 1 rfl) ?_
        refine va_get (D := D) (ci := 0) (v := .ref (ad (o0 + 1))) (C := RX0) (T := TX0) (N := 7) hx hb hW inW_X0 hown hK hP 0 rfl rfl 0 (by decide) (hW _ fl_X0_14) (fun _ h9 => h9) rfl dX0_heed_38 ?_
        refine lv_iload_n hx hb dX0_heed_41 rfl (lv_at hl 2 rfl) ?_
        refine lv_iload_n hx hb dX0_heed_42 rfl (lv_at hl 0 rfl) ?_
        refine callW (va_runV (As := [.int x1, .int 2]) (rest := []) ⟨hx, hb, hml, hown, hW⟩ (c_X3_put__deal_0 l D cI cZ ad o0 S0 x1 2 _ hw) (cwV0 hW mV_X3_put ml_X0_81 ⟨Nat.le_of_ble_eq_true rfl, Nat.le_of_ble_eq_true rfl⟩) (preV0 1 rfl rfl hK hN hP hD [0] rfl rfl) rfl rfl hl.1 rfl (lv_room (Nat.le_of_ble_eq_true rfl)) dX0_heed_43 ⟨Nat.le_refl _, Nat.le_refl _⟩) hP hD hS [0] rfl rfl (fun _ => rfl) (fun v9 u9 H locs hq hP hD hS => ?_)
        obtain ⟨rfl, hw⟩ := hq
        obtain ⟨Z4, rfl⟩ : ∃ z, z = u9 := ⟨_, rfl⟩
        have hP : va_P D classes (jn [dcells cI ad o0 (sA S0 0 Z4)]) H := hP
        have hD : va_D (cOf (jn [dcells cI ad o0 S0])) (jn [dcells cI ad o0 (sA S0 0 Z4)]) := hD
        refine W.eq (g2 := F0 m 46 ls []) rfl ?_
        refine lv_aload_n hx hb dX0_heed_46 rfl (lv_at hl 1 rfl) ?_
        refine lv_iload_n hx hb dX0_heed_47 rfl (lv_at hl 2 rfl) ?_
        refine lv_iconst (v := 1) hx hb dX0_heed_48 (by decide) ?_
        refine callW (va_runV (As := [.int x1, .int 1]) (rest := []) ⟨hx, hb, hml, hown, hW⟩ (c_X0_countWant l D cI cZ ad o0 (sA S0 0 Z4) x1 1 _ hw) (cwV0 hW mV_X0_countWant ml_X0_85 ⟨Nat.le_of_ble_eq_true rfl, Nat.le_of_ble_eq_true rfl⟩) (preV0 0 rfl rfl hK hN hP hD [0] rfl rfl) rfl rfl hl.1 rfl (lv_room (Nat.le_of_ble_eq_true rfl)) dX0_heed_49 ⟨Nat.le_refl _, Nat.le_refl _⟩) hP hD hS [0] rfl rfl (fun _ => rfl) (fun v9 u9 H locs hq hP hD hS => ?_)
        obtain ⟨rfl, hw⟩ := hq
        obtain ⟨Z5, rfl⟩ : ∃ z, z = u9 := ⟨_, rfl⟩
        have hP : va_P D classes (jn [dcells cI ad o0 Z5]) H := hP
        have hD : va_D (cOf (jn [dcells cI ad o0 S0])) (jn [dcells cI ad o0 Z5]) := hD
        refine W.eq (g2 := F0 m 52 ls []) rfl ?_
        refine lv_goto (tgt := 72) hx hb dX0_heed_52 (by decide) ?_
        exact W.vret hx hb hr (fun t ht _ => ⟨⟨_, (Z5), rfl, ⟨rfl, hw⟩, by rw [ht]; exact hP⟩, hS.F ht⟩) hS.2.2 dX0_heed_72
    · have hw := Eq.mp (if_pos c2) hw
      refine lv_aload_n hx hb dX0_heed_18 rfl (lv_at hl 1 rfl) ?_
      refine lv_iconst (v := 1) hx hb dX0_heed_19 (by decide) ?_
      refine va_put (D := D) (ci := 0) (v := .int 1) (ty := .boolean) (C := RX0) (T := TX0) (N := 7) hx hb hW inW_X0 tyX0 tyX0_ok nmX0 hown hK hP hD hS 0 rfl rfl 6 (by decide) (hW _ fl_X0_36) (fun _ h9 => h9) rfl (by decide +kernel) rfl rfl (Nat.le_of_ble_eq_true rfl) dX0_heed_20 (fun H locs hP hD hS => ?_)
      have hP : va_P D classes (jn [dcells cI ad o0 (sI S0 6 1)]) H := hP
      have hD : va_D (cOf (jn [dcells cI ad o0 S0])) (jn [dcells cI ad o0 (sI S0 6 1)]) := hD
      refine lv_goto (tgt := 72) hx hb dX0_heed_23 (by decide) ?_
      exact W.vret hx hb hr (fun t ht _ => ⟨⟨_, ((sI S0 6 1)), rfl, ⟨rfl, hw⟩, by rw [ht]; exact hP⟩, hS.F ht⟩) hS.2.2 dX0_heed_72
  · have hw := Eq.mp (if_neg c1) hw
    refine lv_iconst (v := 1) hx hb dX0_heed_4 (by decide) ?_
    refine lv_goto (tgt := 9) hx hb dX0_heed_5 (by decide) ?_
    refine lv_istore_n (lv' := [(3, .int 1), (0, .ref (ad o0)), (1, .int x1), (2, .int x2)]) hx hb dX0_heed_9 rfl hl (by decide) rfl (fun ls hl => ?_)
    refine lv_aload_n hx hb dX0_heed_10 rfl (lv_at hl 1 rfl) ?_
    refine lv_iload_n hx hb dX0_heed_11 rfl (lv_at hl 2 rfl) ?_
    refine callF (va_runV (As := [.int x1]) (rest := []) ⟨hx, hb, hml, hown, hW⟩ (c_X0_isOpen l D cI cZ ad o0 S0 x1 _ rfl) (cwV0 hW mV_X0_isOpen ml_X0_78 ⟨Nat.le_of_ble_eq_true rfl, Nat.le_of_ble_eq_true rfl⟩) (preV0 0 rfl rfl hK hN hP hD [0] rfl rfl) rfl rfl hl.1 rfl (lv_room (Nat.le_of_ble_eq_true rfl)) dX0_heed_12 ⟨Nat.le_refl _, Nat.le_refl _⟩) ?_
    refine W.eq (g2 := F0 m 15 ls [.int (F_X0_isOpen S0 x1)]) rfl ?_
    refine lv_if_ne (tgt := 26) hx hb dX0_heed_15 (by decide) (fun c7 => ?_) (fun c7 => ?_)
    · have hw := Eq.mp (if_neg c7) hw
      refine lv_aload_n hx hb dX0_heed_26 rfl (lv_at hl 1 rfl) ?_
      refine va_get (D := D) (ci := 0) (v := .ref (ad (o0 + 1))) (C := RX0) (T := TX0) (N := 7) hx hb hW inW_X0 hown hK hP 0 rfl rfl 0 (by decide) (hW _ fl_X0_14) (fun _ h9 => h9) rfl dX0_heed_27 ?_
      refine lv_iload_n hx hb dX0_heed_30 rfl (lv_at hl 2 rfl) ?_
      refine callF (va_runV (As := [.int x1]) (rest := []) ⟨hx, hb, hml, hown, hW⟩ (c_X3_get__deal_0 l D cI cZ ad o0 S0 x1 _ rfl) (cwV0 hW mV_X3_get ml_X0_55 ⟨Nat.le_of_ble_eq_true rfl, Nat.le_of_ble_eq_true rfl⟩) (preV0 1 rfl rfl hK hN hP hD [0] rfl rfl) rfl rfl hl.1 rfl (lv_room (Nat.le_of_ble_eq_true rfl)) dX0_heed_31 ⟨Nat.le_refl _, Nat.le_refl _⟩) ?_
      refine W.eq (g2 := F0 m 34 ls [.int (F_X3_get 6 (S0.2 0) x1)]) rfl ?_
      refine lv_if_ne (tgt := 55) hx hb dX0_heed_34 (by decide) (fun c8 => ?_) (fun c8 => ?_)
      · have hw := Eq.mp (if_neg c8) hw
        refine lv_aload_n hx hb dX0_heed_55 rfl (lv_at hl 1 rfl) ?_
        refine va_get (D := D) (ci := 0) (v := .ref (ad (o0 + 1))) (C := RX0) (T := TX0) (N := 7) hx hb hW inW_X0 hown hK hP 0 rfl rfl 0 (by decide) (hW _ fl_X0_14) (fun _ h9 => h9) rfl dX0_heed_56 ?_
        refine lv_iload_n hx hb dX0_heed_59 rfl (lv_at hl 2 rfl) ?_
        refine callF (va_runV (As := [.int x1]) (rest := []) ⟨hx, hb, hml, hown, hW⟩ (c_X3_get__deal_0 l D cI cZ ad o0 S0 x1 _ rfl) (cwV0 hW mV_X3_get ml_X0_55 ⟨Nat.le_of_ble_eq_true rfl, Nat.le_of_ble_eq_true rfl⟩) (preV0 1 rfl rfl hK hN hP hD [0] rfl rfl) rfl rfl hl.1 rfl (lv_room (Nat.le_of_ble_eq_true rfl)) dX0_heed_60 ⟨Nat.le_refl _, Nat.le_refl _⟩) ?_
        refine W.eq (g2 := F0 m 63 ls [.int (F_X3_get 6 (S0.2 0) x1)]) rfl ?_
        refine lv_iload_n hx hb dX0_heed_63 rfl (lv_at hl 0 rfl) ?_
        refine lv_icmp_eq (tgt := 72) hx hb dX0_heed_64 (by decide) (fun c11 => ?_) (fun c11 => ?_)
        · have hw := Eq.mp (if_pos c11) hw
          exact W.vret hx hb hr (fun t ht _ => ⟨⟨_, (S0), rfl, ⟨rfl, hw⟩, by rw [ht]; exact hP⟩, hS.F ht⟩) hS.2.2 dX0_heed_72
        · have hw := Eq.mp (if_neg c11) hw
          refine lv_aload_n hx hb dX0_heed_67 rfl (lv_at hl 1 rfl) ?_
          refine lv_iconst (v := 1) hx hb dX0_heed_68 (by decide) ?_
          refine va_put (D := D) (ci := 0) (v := .int 1) (ty := .boolean) (C := RX0) (T := TX0) (N := 7) hx hb hW inW_X0 tyX0 tyX0_ok nmX0 hown hK hP hD hS 0 rfl rfl 6 (by decide) (hW _ fl_X0_36) (fun _ h9 => h9) rfl (by decide +kernel) rfl rfl (Nat.le_of_ble_eq_true rfl) dX0_heed_69 (fun H locs hP hD hS => ?_)
          have hP : va_P D classes (jn [dcells cI ad o0 (sI S0 6 1)]) H := hP
          have hD : va_D (cOf (jn [dcells cI ad o0 S0])) (jn [dcells cI ad o0 (sI S0 6 1)]) := hD
          exact W.vret hx hb hr (fun t ht _ => ⟨⟨_, ((sI S0 6 1)), rfl, ⟨rfl, hw⟩, by rw [ht]; exact hP⟩, hS.F ht⟩) hS.2.2 dX0_heed_72
      · have hw := Eq.mp (if_pos c8) hw
        refine lv_aload_n hx hb dX0_heed_37 rfl (lv_at hl 1 rfl) ?_
        refine va_get (D := D) (ci := 0) (v := .ref (ad (o0 + 1))) (C := RX0) (T := TX0) (N := 7) hx hb hW inW_X0 hown hK hP 0 rfl rfl 0 (by decide) (hW _ fl_X0_14) (fun _ h9 => h9) rfl dX0_heed_38 ?_
        refine lv_iload_n hx hb dX0_heed_41 rfl (lv_at hl 2 rfl) ?_
        refine lv_iload_n hx hb dX0_heed_42 rfl (lv_at hl 0 rfl) ?_
        refine callW (va_runV (As := [.int x1, .int 1]) (rest := []) ⟨hx, hb, hml, hown, hW⟩ (c_X3_put__deal_0 l D cI cZ ad o0 S0 x1 1 _ hw) (cwV0 hW mV_X3_put ml_X0_81 ⟨Nat.le_of_ble_eq_true rfl, Nat.le_of_ble_eq_true rfl⟩) (preV0 1 rfl rfl hK hN hP hD [0] rfl rfl) rfl rfl hl.1 rfl (lv_room (Nat.le_of_ble_eq_true rfl)) dX0_heed_43 ⟨Nat.le_refl _, Nat.le_refl _⟩) hP hD hS [0] rfl rfl (fun _ => rfl) (fun v9 u9 H locs hq hP hD hS => ?_)
        obtain ⟨rfl, hw⟩ := hq
        obtain ⟨Z9, rfl⟩ : ∃ z, z = u9 := ⟨_, rfl⟩
        have hP : va_P D classes (jn [dcells cI ad o0 (sA S0 0 Z9)]) H := hP
        have hD : va_D (cOf (jn [dcells cI ad o0 S0])) (jn [dcells cI ad o0 (sA S0 0 Z9)]) := hD
        refine W.eq (g2 := F0 m 46 ls []) rfl ?_
        refine lv_aload_n hx hb dX0_heed_46 rfl (lv_at hl 1 rfl) ?_
        refine lv_iload_n hx hb dX0_heed_47 rfl (lv_at hl 2 rfl) ?_
        refine lv_iconst (v := 1) hx hb dX0_heed_48 (by decide) ?_
        refine callW (va_runV (As := [.int x1, .int 1]) (rest := []) ⟨hx, hb, hml, hown, hW⟩ (c_X0_countWant l D cI cZ ad o0 (sA S0 0 Z9) x1 1 _ hw) (cwV0 hW mV_X0_countWant ml_X0_85 ⟨Nat.le_of_ble_eq_true rfl, Nat.le_of_ble_eq_true rfl⟩) (preV0 0 rfl rfl hK hN hP hD [0] rfl rfl) rfl rfl hl.1 rfl (lv_room (Nat.le_of_ble_eq_true rfl)) dX0_heed_49 ⟨Nat.le_refl _, Nat.le_refl _⟩) hP hD hS [0] rfl rfl (fun _ => rfl) (fun v9 u9 H locs hq hP hD hS => ?_)
        obtain ⟨rfl, hw⟩ := hq
        obtain ⟨Z10, rfl⟩ : ∃ z, z = u9 := ⟨_, rfl⟩
        have hP : va_P D classes (jn [dcells cI ad o0 Z10]) H := hP
        have hD : va_D (cOf (jn [dcells cI ad o0 S0])) (jn [dcells cI ad o0 Z10]) := hD
        refine W.eq (g2 := F0 m 52 ls []) rfl ?_
        refine lv_goto (tgt := 72) hx hb dX0_heed_52 (by decide) ?_
        exact W.vret hx hb hr (fun t ht _ => ⟨⟨_, (Z10), rfl, ⟨rfl, hw⟩, by rw [ht]; exact hP⟩, hS.F ht⟩) hS.2.2 dX0_heed_72
    · have hw := Eq.mp (if_pos c7) hw
      refine lv_aload_n hx hb dX0_heed_18 rfl (lv_at hl 1 rfl) ?_
      refine lv_iconst (v := 1) hx hb dX0_heed_19 (by decide) ?_
      refine va_put (D := D) (ci := 0) (v := .int 1) (ty := .boolean) (C := RX0) (T := TX0) (N := 7) hx hb hW inW_X0 tyX0 tyX0_ok nmX0 hown hK hP hD hS 0 rfl rfl 6 (by decide) (hW _ fl_X0_36) (fun _ h9 => h9) rfl (by decide +kernel) rfl rfl (Nat.le_of_ble_eq_true rfl) dX0_heed_20 (fun H locs hP hD hS => ?_)
      have hP : va_P D classes (jn [dcells cI ad o0 (sI S0 6 1)]) H := hP
      have hD : va_D (cOf (jn [dcells cI ad o0 S0])) (jn [dcells cI ad o0 (sI S0 6 1)]) := hD
      refine lv_goto (tgt := 72) hx hb dX0_heed_23 (by decide) ?_
      exact W.vret hx hb hr (fun t ht _ => ⟨⟨_, ((sI S0 6 1)), rfl, ⟨rfl, hw⟩, by rw [ht]; exact hP⟩, hS.F ht⟩) hS.2.2 dX0_heed_72
set_option maxHeartbeats 4000000 in
set_option maxRecDepth 100000 in
theorem c_X0_prepare (l : Launch) (D : va_G) (cI cZ : ClassId) (ad : Nat → Nat) (o0 : Nat) (S0 : St) (o1 : Nat) (S1 : St) (k : St → Prop) (hw : wp_X0_prepare S0 S1 k) : KW l yX0_prepare cX0_prepare 3 none 3 66 D cI cZ [.ref (ad o0), .ref (ad o1)] [dcells cI ad o0 S0, rcells cI ad o1 S1] (fun v (u : St) => v = none ∧ k u) (fun u : St => [dcells cI ad o0 u, rcells cI ad o1 S1]) := by
  refine Met.ofE (by decide +kernel) (Nat.le_of_ble_eq_true rfl) ?_
  intro p e s m below meth c E ls hl
  obtain ⟨hx, hb, hr, hml, hW, hown, hlocks, hP, hK, hD, hN⟩ := E
  have hl : lv_has ls 3 [(0, .ref (ad o0)), (1, .ref (ad o1))] := hl
  have hS : va_S (cOf (jn [dcells cI ad o0 S0, rcells cI ad o1 S1])) s.heap s.heap [] := va_S.rf
  have L40 : ∀  (kx : St → Prop), (∀ (S0q : St) (H : Heap) (locs : List Loc), va_P D classes (jn [dcells cI ad o0 S0q, rcells cI ad o1 S1]) H → va_D (cOf (jn [dcells cI ad o0 S0, rcells cI ad o1 S1])) (jn [dcells cI ad o0 S0q, rcells cI ad o1 S1]) → va_S (cOf (jn [dcells cI ad o0 S0, rcells cI ad o1 S1])) s.heap H locs → ∀ ls : Array Slot, lv_has ls 3 [(0, .ref (ad o0)), (1, .ref (ad o1))] → kx S0q → W p l e { frames := 3, cells := 0, slots := 0, locals := 66 } s m ([.ref (ad o0), .ref (ad o1)] : List Value).toArray below meth c H locs 0 0 (MQ below (QW (fun v (u : St) => v = none ∧ k u) D (fun u : St => [dcells cI ad o0 u, rcells cI ad o1 S1]) [dcells cI ad o0 S0, rcells cI ad o1 S1]) ([.ref (ad o0), .ref (ad o1)] : List Value).toArray s 0 0 (cOf (jn [dcells cI ad o0 S0, rcells cI ad o1 S1]))) (F0 m 91 ls [])) → ∀ (N40 : Nat) (y2 : Int32) (S0q : St) (H : Heap) (locs : List Loc), va_P D classes (jn [dcells cI ad o0 S0q, rcells cI ad o1 S1]) H → va_D (cOf (jn [dcells cI ad o0 S0, rcells cI ad o1 S1])) (jn [dcells cI ad o0 S0q, rcells cI ad o1 S1]) → va_S (cOf (jn [dcells cI ad o0 S0, rcells cI ad o1 S1])) s.heap H locs → ∀ ls : Array Slot, lv_has ls 3 [(0, .ref (ad o0)), (1, .ref (ad o1)), (2, .int y2)] → wl_X0_prepare_40 S1 kx N40 y2 S0q → W p l e { frames := 3, cells := 0, slots := 0, locals := 66 } s m ([.ref (ad o0), .ref (ad o1)] : List Value).toArray below meth c H locs 0 0 (MQ below (QW (fun v (u : St) => v = none ∧ k u) D (fun u : St => [dcells cI ad o0 u, rcells cI ad o1 S1]) [dcells cI ad o0 S0, rcells cI ad o1 S1]) ([.ref (ad o0), .ref (ad o1)] : List Value).toArray s 0 0 (cOf (jn [dcells cI ad o0 S0, rcells cI ad o1 S1]))) (F0 m 40 ls []) := by
    intro  kx hxt N40
    induction N40 with
    | zero => intro y2 S0q H locs hP hD hS ls hl hw; exact False.elim hw
    | succ N40 ih =>
      intro y2 S0q H locs hP hD hS ls hl hw
      have hw : (if (S1.1 0) ≤ y2 then (kx S0q) else (if (F_X2_lives S1 y2) = 0 then (wl_X0_prepare_40 S1 kx N40 (y2 + 1) S0q) else (if (F_X3_get 6 (S1.2 11) y2) = 1 then (wp_X0_takeBack S0q (F_X3_get 6 (S1.2 8) y2) 1 (fun (Z5 : St) => (wl_X0_prepare_40 S1 kx N40 (y2 + 1) Z5))) else (wp_X0_takeBack S0q (F_X3_get 6 (S1.2 8) y2) 0 (fun (Z6 : St) => (wl_X0_prepare_40 S1 kx N40 (y2 + 1) Z6)))))) := hw
      refine lv_iload_n hx hb dX0_prepare_40 rfl (lv_at hl 2 rfl) ?_
      refine lv_aload_n hx hb dX0_prepare_41 rfl (lv_at hl 1 rfl) ?_
      refine va_get (D := D) (ci := 2) (v := .int (S1.1 0)) (C := RX2) (T := TX2) (N := 15) hx hb hW inW_X2 hown hK hP 3 rfl rfl 0 (by decide) (hW _ fl_X0_43) (fun _ h9 => h9) rfl dX0_prepare_42 ?_
      refine lv_icmp_ge (tgt := 91) hx hb dX0_prepare_45 (by decide) (fun c2 => ?_) (fun c2 => ?_)
      · have hw := Eq.mp (if_pos c2) hw
        exact hxt S0q _ _ hP hD hS _ (lv_sub hl [0, 1] rfl) hw
      · have hw := Eq.mp (if_neg c2) hw
        refine lv_aload_n hx hb dX0_prepare_48 rfl (lv_at hl 1 rfl) ?_
        refine lv_iload_n hx hb dX0_prepare_49 rfl (lv_at hl 2 rfl) ?_
        refine callF (va_runV (As := [.int y2]) (rest := []) ⟨hx, hb, hml, hown, hW⟩ (c_X2_lives l D cI cZ ad o1 S1 y2 _ rfl) (cwV0 hW mV_X2_lives ml_X0_48 ⟨Nat.le_of_ble_eq_true rfl, Nat.le_of_ble_eq_true rfl⟩) (preV0 0 rfl rfl hK hN hP hD [1] rfl rfl) rfl rfl hl.1 rfl (lv_room (Nat.le_of_ble_eq_true rfl)) dX0_prepare_50 ⟨Nat.le_refl _, Nat.le_refl _⟩) ?_
        refine W.eq (g2 := F0 m 53 ls [.int (F_X2_lives S1 y2)]) rfl ?_
        refine lv_if_eq (tgt := 85) hx hb dX0_prepare_53 (by decide) (fun c3 => ?_) (fun c3 => ?_)
        · have hw := Eq.mp (if_pos c3) hw
          refine lv_iinc (v := (y2 + 1)) (lv' := [(2, .int (y2 + 1)), (0, .ref (ad o0)), (1, .ref (ad o1))]) hx hb dX0_prepare_85 hl (k := 2) rfl rfl (by decide) rfl (fun ls hl => ?_)
          refine lv_goto (tgt := 40) hx hb dX0_prepare_88 (by decide) ?_
          exact ih (y2 + 1) S0q _ _ hP hD hS _ (lv_sub hl [1, 2, 0] rfl) hw
        · have hw := Eq.mp (if_neg c3) hw
          refine lv_aload_n hx hb dX0_prepare_56 rfl (lv_at hl 0 rfl) ?_
          refine lv_aload_n hx hb dX0_prepare_57 rfl (lv_at hl 1 rfl) ?_
          refine va_get (D := D) (ci := 2) (v := .ref (ad (o1 + 2))) (C := RX2) (T := TX2) (N := 15) hx hb hW inW_X2 hown hK hP 3 rfl rfl 8 (by decide) (hW _ fl_X0_52) (fun _ h9 => h9) rfl dX0_prepare_58 ?_
          refine lv_iload_n hx hb dX0_prepare_61 rfl (lv_at hl 2 rfl) ?_
          refine callF (va_runV (As := [.int y2]) (rest := [.ref (ad o0)]) ⟨hx, hb, hml, hown, hW⟩ (c_X3_get__round_8 l D cI cZ ad o1 S1 y2 _ rfl) (cwV0 hW mV_X3_get ml_X0_55 ⟨Nat.le_of_ble_eq_true rfl, Nat.le_of_ble_eq_true rfl⟩) (preV0 2 rfl rfl hK hN hP hD [1] rfl rfl) rfl rfl hl.1 rfl (lv_room (Nat.le_of_ble_eq_true rfl)) dX0_prepare_62 ⟨Nat.le_refl _, Nat.le_refl _⟩) ?_
          refine W.eq (g2 := F0 m 65 ls [.int (F_X3_get 6 (S1.2 8) y2), .ref (ad o0)]) rfl ?_
          refine lv_aload_n hx hb dX0_prepare_65 rfl (lv_at hl 1 rfl) ?_
          refine va_get (D := D) (ci := 2) (v := .ref (ad (o1 + 5))) (C := RX2) (T := TX2) (N := 15) hx hb hW inW_X2 hown hK hP 3 rfl rfl 11 (by decide) (hW _ fl_X0_59) (fun _ h9 => h9) rfl dX0_prepare_66 ?_
          refine lv_iload_n hx hb dX0_prepare_69 rfl (lv_at hl 2 rfl) ?_
          refine callF (va_runV (As := [.int y2]) (rest := [.int (F_X3_get 6 (S1.2 8) y2), .ref (ad o0)]) ⟨hx, hb, hml, hown, hW⟩ (c_X3_get__round_11 l D cI cZ ad o1 S1 y2 _ rfl) (cwV0 hW mV_X3_get ml_X0_55 ⟨Nat.le_of_ble_eq_true rfl, Nat.le_of_ble_eq_true rfl⟩) (preV0 5 rfl rfl hK hN hP hD [1] rfl rfl) rfl rfl hl.1 rfl (lv_room (Nat.le_of_ble_eq_true rfl)) dX0_prepare_70 ⟨Nat.le_refl _, Nat.le_refl _⟩) ?_
          refine W.eq (g2 := F0 m 73 ls [.int (F_X3_get 6 (S1.2 11) y2), .int (F_X3_get 6 (S1.2 8) y2), .ref (ad o0)]) rfl ?_
          refine lv_iconst (v := 1) hx hb dX0_prepare_73 (by decide) ?_
          refine lv_icmp_ne (tgt := 81) hx hb dX0_prepare_74 (by decide) (fun c4 => ?_) (fun c4 => ?_)
          · have hw := Eq.mp (if_neg c4) hw
            refine lv_iconst (v := 0) hx hb dX0_prepare_81 (by decide) ?_
            refine callW (va_runV (As := [.int (F_X3_get 6 (S1.2 8) y2), .int 0]) (rest := []) ⟨hx, hb, hml, hown, hW⟩ (c_X0_takeBack l D cI cZ ad o0 S0q (F_X3_get 6 (S1.2 8) y2) 0 _ hw) (cwV0 hW mV_X0_takeBack ml_X0_62 ⟨Nat.le_of_ble_eq_true rfl, Nat.le_of_ble_eq_true rfl⟩) (preV0 0 rfl rfl hK hN hP hD [0] rfl rfl) rfl rfl hl.1 rfl (lv_room (Nat.le_of_ble_eq_true rfl)) dX0_prepare_82 ⟨Nat.le_refl _, Nat.le_refl _⟩) hP hD hS [0] rfl rfl (fun _ => rfl) (fun v9 u9 H locs hq hP hD hS => ?_)
            obtain ⟨rfl, hw⟩ := hq
            obtain ⟨Z6, rfl⟩ : ∃ z, z = u9 := ⟨_, rfl⟩
            have hP : va_P D classes (jn [dcells cI ad o0 Z6, rcells cI ad o1 S1]) H := hP
            have hD : va_D (cOf (jn [dcells cI ad o0 S0, rcells cI ad o1 S1])) (jn [dcells cI ad o0 Z6, rcells cI ad o1 S1]) := hD
            refine W.eq (g2 := F0 m 85 ls []) rfl ?_
            refine lv_iinc (v := (y2 + 1)) (lv' := [(2, .int (y2 + 1)), (0, .ref (ad o0)), (1, .ref (ad o1))]) hx hb dX0_prepare_85 hl (k := 2) rfl rfl (by decide) rfl (fun ls hl => ?_)
            refine lv_goto (tgt := 40) hx hb dX0_prepare_88 (by decide) ?_
            exact ih (y2 + 1) Z6 _ _ hP hD hS _ (lv_sub hl [1, 2, 0] rfl) hw
          · have hw := Eq.mp (if_pos c4) hw
            refine lv_iconst (v := 1) hx hb dX0_prepare_77 (by decide) ?_
            refine lv_goto (tgt := 82) hx hb dX0_prepare_78 (by decide) ?_
            refine callW (va_runV (As := [.int (F_X3_get 6 (S1.2 8) y2), .int 1]) (rest := []) ⟨hx, hb, hml, hown, hW⟩ (c_X0_takeBack l D cI cZ ad o0 S0q (F_X3_get 6 (S1.2 8) y2) 1 _ hw) (cwV0 hW mV_X0_takeBack ml_X0_62 ⟨Nat.le_of_ble_eq_true rfl, Nat.le_of_ble_eq_true rfl⟩) (preV0 0 rfl rfl hK hN hP hD [0] rfl rfl) rfl rfl hl.1 rfl (lv_room (Nat.le_of_ble_eq_true rfl)) dX0_prepare_82 ⟨Nat.le_refl _, Nat.le_refl _⟩) hP hD hS [0] rfl rfl (fun _ => rfl) (fun v9 u9 H locs hq hP hD hS => ?_)
            obtain ⟨rfl, hw⟩ := hq
            obtain ⟨Z5, rfl⟩ : ∃ z, z = u9 := ⟨_, rfl⟩
            have hP : va_P D classes (jn [dcells cI ad o0 Z5, rcells cI ad o1 S1]) H := hP
            have hD : va_D (cOf (jn [dcells cI ad o0 S0, rcells cI ad o1 S1])) (jn [dcells cI ad o0 Z5, rcells cI ad o1 S1]) := hD
            refine W.eq (g2 := F0 m 85 ls []) rfl ?_
            refine lv_iinc (v := (y2 + 1)) (lv' := [(2, .int (y2 + 1)), (0, .ref (ad o0)), (1, .ref (ad o1))]) hx hb dX0_prepare_85 hl (k := 2) rfl rfl (by decide) rfl (fun ls hl => ?_)
            refine lv_goto (tgt := 40) hx hb dX0_prepare_88 (by decide) ?_
            exact ih (y2 + 1) Z5 _ _ hP hD hS _ (lv_sub hl [1, 2, 0] rfl) hw
  have L93 : ∀  (kx : St → Prop), (∀ (S0q : St) (H : Heap) (locs : List Loc), va_P D classes (jn [dcells cI ad o0 S0q, rcells cI ad o1 S1]) H → va_D (cOf (jn [dcells cI ad o0 S0, rcells cI ad o1 S1])) (jn [dcells cI ad o0 S0q, rcells cI ad o1 S1]) → va_S (cOf (jn [dcells cI ad o0 S0, rcells cI ad o1 S1])) s.heap H locs → ∀ ls : Array Slot, lv_has ls 3 [] → kx S0q → W p l e { frames := 3, cells := 0, slots := 0, locals := 66 } s m ([.ref (ad o0), .ref (ad o1)] : List Value).toArray below meth c H locs 0 0 (MQ below (QW (fun v (u : St) => v = none ∧ k u) D (fun u : St => [dcells cI ad o0 u, rcells cI ad o1 S1]) [dcells cI ad o0 S0, rcells cI ad o1 S1]) ([.ref (ad o0), .ref (ad o1)] : List Value).toArray s 0 0 (cOf (jn [dcells cI ad o0 S0, rcells cI ad o1 S1]))) (F0 m 136 ls [])) → ∀ (N93 : Nat) (y2 : Int32) (S0q : St) (H : Heap) (locs : List Loc), va_P D classes (jn [dcells cI ad o0 S0q, rcells cI ad o1 S1]) H → va_D (cOf (jn [dcells cI ad o0 S0, rcells cI ad o1 S1])) (jn [dcells cI ad o0 S0q, rcells cI ad o1 S1]) → va_S (cOf (jn [dcells cI ad o0 S0, rcells cI ad o1 S1])) s.heap H locs → ∀ ls : Array Slot, lv_has ls 3 [(0, .ref (ad o0)), (1, .ref (ad o1)), (2, .int y2)] → wl_X0_prepare_93 S1 kx N93 y2 S0q → W p l e { frames := 3, cells := 0, slots := 0, locals := 66 } s m ([.ref (ad o0), .ref (ad o1)] : List Value).toArray below meth c H locs 0 0 (MQ below (QW (fun v (u : St) => v = none ∧ k u) D (fun u : St => [dcells cI ad o0 u, rcells cI ad o1 S1]) [dcells cI ad o0 S0, rcells cI ad o1 S1]) ([.ref (ad o0), .ref (ad o1)] : List Value).toArray s 0 0 (cOf (jn [dcells cI ad o0 S0, rcells cI ad o1 S1]))) (F0 m 93 ls []) := by
    intro  kx hxt N93
    induction N93 with
    | zero => intro y2 S0q H locs hP hD hS ls hl hw; exact False.elim hw
    | succ N93 ih =>
      intro y2 S0q H locs hP hD hS ls hl hw
      have hw : (if (S1.1 6) ≤ y2 then (kx S0q) else (if (F_X3_get 8 (S1.2 14) y2) = 1 then (wp_X0_heed S0q (F_X3_get 8 (S1.2 13) y2) 1 (fun (Z10 : St) => (wl_X0_prepare_93 S1 kx N93 (y2 + 1) Z10))) else (wp_X0_heed S0q (F_X3_get 8 (S1.2 13) y2) 0 (fun (Z11 : St) => (wl_X0_prepare_93 S1 kx N93 (y2 + 1) Z11))))) := hw
      refine lv_iload_n hx hb dX0_prepare_93 rfl (lv_at hl 2 rfl) ?_
      refine lv_aload_n hx hb dX0_prepare_94 rfl (lv_at hl 1 rfl) ?_
      refine va_get (D := D) (ci := 2) (v := .int (S1.1 6)) (C := RX2) (T := TX2) (N := 15) hx hb hW inW_X2 hown hK hP 3 rfl rfl 6 (by decide) (hW _ fl_X0_66) (fun _ h9 => h9) rfl dX0_prepare_95 ?_
      refine lv_icmp_ge (tgt := 136) hx hb dX0_prepare_98 (by decide) (fun c8 => ?_) (fun c8 => ?_)
      · have hw := Eq.mp (if_pos c8) hw
        exact hxt S0q _ _ hP hD hS _ (lv_sub hl [] rfl) hw
      · have hw := Eq.mp (if_neg c8) hw
        refine lv_aload_n hx hb dX0_prepare_101 rfl (lv_at hl 0 rfl) ?_
        refine lv_aload_n hx hb dX0_prepare_102 rfl (lv_at hl 1 rfl) ?_
        refine va_get (D := D) (ci := 2) (v := .ref (ad (o1 + 7))) (C := RX2) (T := TX2) (N := 15) hx hb hW inW_X2 hown hK hP 3 rfl rfl 13 (by decide) (hW _ fl_X0_69) (fun _ h9 => h9) rfl dX0_prepare_103 ?_
        refine lv_iload_n hx hb dX0_prepare_106 rfl (lv_at hl 2 rfl) ?_
        refine callF (va_runV (As := [.int y2]) (rest := [.ref (ad o0)]) ⟨hx, hb, hml, hown, hW⟩ (c_X3_get__round_13 l D cI cZ ad o1 S1 y2 _ rfl) (cwV0 hW mV_X3_get ml_X0_55 ⟨Nat.le_of_ble_eq_true rfl, Nat.le_of_ble_eq_true rfl⟩) (preV0 7 rfl rfl hK hN hP hD [1] rfl rfl) rfl rfl hl.1 rfl (lv_room (Nat.le_of_ble_eq_true rfl)) dX0_prepare_107 ⟨Nat.le_refl _, Nat.le_refl _⟩) ?_
        refine W.eq (g2 := F0 m 110 ls [.int (F_X3_get 8 (S1.2 13) y2), .ref (ad o0)]) rfl ?_
        refine lv_aload_n hx hb dX0_prepare_110 rfl (lv_at hl 1 rfl) ?_
        refine va_get (D := D) (ci := 2) (v := .ref (ad (o1 + 8))) (C := RX2) (T := TX2) (N := 15) hx hb hW inW_X2 hown hK hP 3 rfl rfl 14 (by decide) (hW _ fl_X0_72) (fun _ h9 => h9) rfl dX0_prepare_111 ?_
        refine lv_iload_n hx hb dX0_prepare_114 rfl (lv_at hl 2 rfl) ?_
        refine callF (va_runV (As := [.int y2]) (rest := [.int (F_X3_get 8 (S1.2 13) y2), .ref (ad o0)]) ⟨hx, hb, hml, hown, hW⟩ (c_X3_get__round_14 l D cI cZ ad o1 S1 y2 _ rfl) (cwV0 hW mV_X3_get ml_X0_55 ⟨Nat.le_of_ble_eq_true rfl, Nat.le_of_ble_eq_true rfl⟩) (preV0 8 rfl rfl hK hN hP hD [1] rfl rfl) rfl rfl hl.1 rfl (lv_room (Nat.le_of_ble_eq_true rfl)) dX0_prepare_115 ⟨Nat.le_refl _, Nat.le_refl _⟩) ?_
        refine W.eq (g2 := F0 m 118 ls [.int (F_X3_get 8 (S1.2 14) y2), .int (F_X3_get 8 (S1.2 13) y2), .ref (ad o0)]) rfl ?_
        refine lv_iconst (v := 1) hx hb dX0_prepare_118 (by decide) ?_
        refine lv_icmp_ne (tgt := 126) hx hb dX0_prepare_119 (by decide) (fun c9 => ?_) (fun c9 => ?_)
        · have hw := Eq.mp (if_neg c9) hw
          refine lv_iconst (v := 0) hx hb dX0_prepare_126 (by decide) ?_
          refine callW (va_runV (As := [.int (F_X3_get 8 (S1.2 13) y2), .int 0]) (rest := []) ⟨hx, hb, hml, hown, hW⟩ (c_X0_heed l D cI cZ ad o0 S0q (F_X3_get 8 (S1.2 13) y2) 0 _ hw) (cwV0 hW mV_X0_heed ml_X0_75 ⟨Nat.le_of_ble_eq_true rfl, Nat.le_of_ble_eq_true rfl⟩) (preV0 0 rfl rfl hK hN hP hD [0] rfl rfl) rfl rfl hl.1 rfl (lv_room (Nat.le_of_ble_eq_true rfl)) dX0_prepare_127 ⟨Nat.le_refl _, Nat.le_refl _⟩) hP hD hS [0] rfl rfl (fun _ => rfl) (fun v9 u9 H locs hq hP hD hS => ?_)
          obtain ⟨rfl, hw⟩ := hq
          obtain ⟨Z11, rfl⟩ : ∃ z, z = u9 := ⟨_, rfl⟩
          have hP : va_P D classes (jn [dcells cI ad o0 Z11, rcells cI ad o1 S1]) H := hP
          have hD : va_D (cOf (jn [dcells cI ad o0 S0, rcells cI ad o1 S1])) (jn [dcells cI ad o0 Z11, rcells cI ad o1 S1]) := hD
          refine W.eq (g2 := F0 m 130 ls []) rfl ?_
          refine lv_iinc (v := (y2 + 1)) (lv' := [(2, .int (y2 + 1)), (0, .ref (ad o0)), (1, .ref (ad o1))]) hx hb dX0_prepare_130 hl (k := 2) rfl rfl (by decide) rfl (fun ls hl => ?_)
          refine lv_goto (tgt := 93) hx hb dX0_prepare_133 (by decide) ?_
          exact ih (y2 + 1) Z11 _ _ hP hD hS _ (lv_sub hl [1, 2, 0] rfl) hw
        · have hw := Eq.mp (if_pos c9) hw
          refine lv_iconst (v := 1) hx hb dX0_prepare_122 (by decide) ?_
          refine lv_goto (tgt := 127) hx hb dX0_prepare_123 (by decide) ?_
          refine callW (va_runV (As := [.int (F_X3_get 8 (S1.2 13) y2), .int 1]) (rest := []) ⟨hx, hb, hml, hown, hW⟩ (c_X0_heed l D cI cZ ad o0 S0q (F_X3_get 8 (S1.2 13) y2) 1 _ hw) (cwV0 hW mV_X0_heed ml_X0_75 ⟨Nat.le_of_ble_eq_true rfl, Nat.le_of_ble_eq_true rfl⟩) (preV0 0 rfl rfl hK hN hP hD [0] rfl rfl) rfl rfl hl.1 rfl (lv_room (Nat.le_of_ble_eq_true rfl)) dX0_prepare_127 ⟨Nat.le_refl _, Nat.le_refl _⟩) hP hD hS [0] rfl rfl (fun _ => rfl) (fun v9 u9 H locs hq hP hD hS => ?_)
          obtain ⟨rfl, hw⟩ := hq
          obtain ⟨Z10, rfl⟩ : ∃ z, z = u9 := ⟨_, rfl⟩
          have hP : va_P D classes (jn [dcells cI ad o0 Z10, rcells cI ad o1 S1]) H := hP
          have hD : va_D (cOf (jn [dcells cI ad o0 S0, rcells cI ad o1 S1])) (jn [dcells cI ad o0 Z10, rcells cI ad o1 S1]) := hD
          refine W.eq (g2 := F0 m 130 ls []) rfl ?_
          refine lv_iinc (v := (y2 + 1)) (lv' := [(2, .int (y2 + 1)), (0, .ref (ad o0)), (1, .ref (ad o1))]) hx hb dX0_prepare_130 hl (k := 2) rfl rfl (by decide) rfl (fun ls hl => ?_)
          refine lv_goto (tgt := 93) hx hb dX0_prepare_133 (by decide) ?_
          exact ih (y2 + 1) Z10 _ _ hP hD hS _ (lv_sub hl [1, 2, 0] rfl) hw
  have hw : (wp_X3_fill 6 (S0.2 0) 0 (fun (Z1 : (Nat → Int32)) => (∃ M15, wl_X0_prepare_40 S1 (fun (Z7 : St) => (∃ M13, wl_X0_prepare_93 S1 (fun (Z12 : St) => (k Z12)) M13 0 Z7)) M15 0 (sA (sI (sI (sI (sI (sI (sI S0 1 0) 2 0) 3 0) 4 0) 5 0) 6 0) 0 Z1)))) := hw
  refine lv_aload_n hx hb dX0_prepare_0 rfl (lv_at hl 0 rfl) ?_
  refine lv_iconst (v := 0) hx hb dX0_prepare_1 (by decide) ?_
  refine va_put (D := D) (ci := 0) (v := .int 0) (ty := .int) (C := RX0) (T := TX0) (N := 7) hx hb hW inW_X0 tyX0 tyX0_ok nmX0 hown hK hP hD hS 0 rfl rfl 1 (by decide) (hW _ fl_X0_20) (fun _ h9 => h9) rfl (by decide +kernel) rfl rfl (Nat.le_of_ble_eq_true rfl) dX0_prepare_2 (fun H locs hP hD hS => ?_)
  have hP : va_P D classes (jn [dcells cI ad o0 (sI S0 1 0), rcells cI ad o1 S1]) H := hP
  have hD : va_D (cOf (jn [dcells cI ad o0 S0, rcells cI ad o1 S1])) (jn [dcells cI ad o0 (sI S0 1 0), rcells cI ad o1 S1]) := hD
  refine lv_aload_n hx hb dX0_prepare_5 rfl (lv_at hl 0 rfl) ?_
  refine lv_iconst (v := 0) hx hb dX0_prepare_6 (by decide) ?_
  refine va_put (D := D) (ci := 0) (v := .int 0) (ty := .int) (C := RX0) (T := TX0) (N := 7) hx hb hW inW_X0 tyX0 tyX0_ok nmX0 hown hK hP hD hS 0 rfl rfl 2 (by decide) (hW _ fl_X0_24) (fun _ h9 => h9) rfl (by decide +kernel) rfl rfl (Nat.le_of_ble_eq_true rfl) dX0_prepare_7 (fun H locs hP hD hS => ?_)
  have hP : va_P D classes (jn [dcells cI ad o0 (sI (sI S0 1 0) 2 0), rcells cI ad o1 S1]) H := hP
  have hD : va_D (cOf (jn [dcells cI ad o0 S0, rcells cI ad o1 S1])) (jn [dcells cI ad o0 (sI (sI S0 1 0) 2 0), rcells cI ad o1 S1]) := hD
  refine lv_aload_n hx hb dX0_prepare_10 rfl (lv_at hl 0 rfl) ?_
  refine lv_iconst (v := 0) hx hb dX0_prepare_11 (by decide) ?_
  refine va_put (D := D) (ci := 0) (v := .int 0) (ty := .int) (C := RX0) (T := TX0) (N := 7) hx hb hW inW_X0 tyX0 tyX0_ok nmX0 hown hK hP hD hS 0 rfl rfl 3 (by decide) (hW _ fl_X0_27) (fun _ h9 => h9) rfl (by decide +kernel) rfl rfl (Nat.le_of_ble_eq_true rfl) dX0_prepare_12 (fun H locs hP hD hS => ?_)
  have hP : va_P D classes (jn [dcells cI ad o0 (sI (sI (sI S0 1 0) 2 0) 3 0), rcells cI ad o1 S1]) H := hP
  have hD : va_D (cOf (jn [dcells cI ad o0 S0, rcells cI ad o1 S1])) (jn [dcells cI ad o0 (sI (sI (sI S0 1 0) 2 0) 3 0), rcells cI ad o1 S1]) := hD
  refine lv_aload_n hx hb dX0_prepare_15 rfl (lv_at hl 0 rfl) ?_
  refine lv_iconst (v := 0) hx hb dX0_prepare_16 (by decide) ?_
  refine va_put (D := D) (ci := 0) (v := .int 0) (ty := .int) (C := RX0) (T := TX0) (N := 7) hx hb hW inW_X0 tyX0 tyX0_ok nmX0 hown hK hP hD hS 0 rfl rfl 4 (by decide) (hW _ fl_X0_30) (fun _ h9 => h9) rfl (by decide +kernel) rfl rfl (Nat.le_of_ble_eq_true rfl) dX0_prepare_17 (fun H locs hP hD hS => ?_)
  have hP : va_P D classes (jn [dcells cI ad o0 (sI (sI (sI (sI S0 1 0) 2 0) 3 0) 4 0), rcells cI ad o1 S1]) H := hP
  have hD : va_D (cOf (jn [dcells cI ad o0 S0, rcells cI ad o1 S1])) (jn [dcells cI ad o0 (sI (sI (sI (sI S0 1 0) 2 0) 3 0) 4 0), rcells cI ad o1 S1]) := hD
  refine lv_aload_n hx hb dX0_prepare_20 rfl (lv_at hl 0 rfl) ?_
  refine lv_iconst (v := 0) hx hb dX0_prepare_21 (by decide) ?_
  refine va_put (D := D) (ci := 0) (v := .int 0) (ty := .int) (C := RX0) (T := TX0) (N := 7) hx hb hW inW_X0 tyX0 tyX0_ok nmX0 hown hK hP hD hS 0 rfl rfl 5 (by decide) (hW _ fl_X0_33) (fun _ h9 => h9) rfl (by decide +kernel) rfl rfl (Nat.le_of_ble_eq_true rfl) dX0_prepare_22 (fun H locs hP hD hS => ?_)
  have hP : va_P D classes (jn [dcells cI ad o0 (sI (sI (sI (sI (sI S0 1 0) 2 0) 3 0) 4 0) 5 0), rcells cI ad o1 S1]) H := hP
  have hD : va_D (cOf (jn [dcells cI ad o0 S0, rcells cI ad o1 S1])) (jn [dcells cI ad o0 (sI (sI (sI (sI (sI S0 1 0) 2 0) 3 0) 4 0) 5 0), rcells cI ad o1 S1]) := hD
  refine lv_aload_n hx hb dX0_prepare_25 rfl (lv_at hl 0 rfl) ?_
  refine lv_iconst (v := 0) hx hb dX0_prepare_26 (by decide) ?_
  refine va_put (D := D) (ci := 0) (v := .int 0) (ty := .boolean) (C := RX0) (T := TX0) (N := 7) hx hb hW inW_X0 tyX0 tyX0_ok nmX0 hown hK hP hD hS 0 rfl rfl 6 (by decide) (hW _ fl_X0_36) (fun _ h9 => h9) rfl (by decide +kernel) rfl rfl (Nat.le_of_ble_eq_true rfl) dX0_prepare_27 (fun H locs hP hD hS => ?_)
  have hP : va_P D classes (jn [dcells cI ad o0 (sI (sI (sI (sI (sI (sI S0 1 0) 2 0) 3 0) 4 0) 5 0) 6 0), rcells cI ad o1 S1]) H := hP
  have hD : va_D (cOf (jn [dcells cI ad o0 S0, rcells cI ad o1 S1])) (jn [dcells cI ad o0 (sI (sI (sI (sI (sI (sI S0 1 0) 2 0) 3 0) 4 0) 5 0) 6 0), rcells cI ad o1 S1]) := hD
  refine lv_aload_n hx hb dX0_prepare_30 rfl (lv_at hl 0 rfl) ?_
  refine va_get (D := D) (ci := 0) (v := .ref (ad (o0 + 1))) (C := RX0) (T := TX0) (N := 7) hx hb hW inW_X0 hown hK hP 0 rfl rfl 0 (by decide) (hW _ fl_X0_14) (fun _ h9 => h9) rfl dX0_prepare_31 ?_
  refine lv_iconst (v := 0) hx hb dX0_prepare_34 (by decide) ?_
  refine callW (va_runV (As := [.int 0]) (rest := []) ⟨hx, hb, hml, hown, hW⟩ (c_X3_fill__deal_0 l D cI cZ ad o0 (sI (sI (sI (sI (sI (sI S0 1 0) 2 0) 3 0) 4 0) 5 0) 6 0) 0 _ hw) (cwV0 hW mV_X3_fill ml_X0_40 ⟨Nat.le_of_ble_eq_true rfl, Nat.le_of_ble_eq_true rfl⟩) (preV0 1 rfl rfl hK hN hP hD [0] rfl rfl) rfl rfl hl.1 rfl (lv_room (Nat.le_of_ble_eq_true rfl)) dX0_prepare_35 ⟨Nat.le_refl _, Nat.le_refl _⟩) hP hD hS [0] rfl rfl (fun _ => rfl) (fun v9 u9 H locs hq hP hD hS => ?_)
  obtain ⟨rfl, hw⟩ := hq
  obtain ⟨Z1, rfl⟩ : ∃ z, z = u9 := ⟨_, rfl⟩
  have hP : va_P D classes (jn [dcells cI ad o0 (sA (sI (sI (sI (sI (sI (sI S0 1 0) 2 0) 3 0) 4 0) 5 0) 6 0) 0 Z1), rcells cI ad o1 S1]) H := hP
  have hD : va_D (cOf (jn [dcells cI ad o0 S0, rcells cI ad o1 S1])) (jn [dcells cI ad o0 (sA (sI (sI (sI (sI (sI (sI S0 1 0) 2 0) 3 0) 4 0) 5 0) 6 0) 0 Z1), rcells cI ad o1 S1]) := hD
  refine W.eq (g2 := F0 m 38 ls []) rfl ?_
  refine lv_iconst (v := 0) hx hb dX0_prepare_38 (by decide) ?_
  refine lv_istore_n (lv' := [(2, .int 0), (0, .ref (ad o0)), (1, .ref (ad o1))]) hx hb dX0_prepare_39 rfl hl (by decide) rfl (fun ls hl => ?_)
  obtain ⟨N16, hw⟩ := hw
  refine L40  _ (fun Z7 H locs hP hD hS ls hl hw => ?_) N16 0 (sA (sI (sI (sI (sI (sI (sI S0 1 0) 2 0) 3 0) 4 0) 5 0) 6 0) 0 Z1) _ _ hP hD hS _ (lv_sub hl [1, 2, 0] rfl) hw
  refine lv_iconst (v := 0) hx hb dX0_prepare_91 (by decide) ?_
  refine lv_istore_n (lv' := [(2, .int 0), (0, .ref (ad o0)), (1, .ref (ad o1))]) hx hb dX0_prepare_92 rfl hl (by decide) rfl (fun ls hl => ?_)
  obtain ⟨N14, hw⟩ := hw
  refine L93  _ (fun Z12 H locs hP hD hS ls hl hw => ?_) N14 0 Z7 _ _ hP hD hS _ (lv_sub hl [1, 2, 0] rfl) hw
  exact W.vret hx hb hr (fun t ht _ => ⟨⟨_, (Z12), rfl, ⟨rfl, hw⟩, by rw [ht]; exact hP⟩, hS.F ht⟩) hS.2.2 dX0_prepare_136
set_option maxHeartbeats 4000000 in
set_option maxRecDepth 100000 in
theorem c_X0_suits (l : Launch) (D : va_G) (cI cZ : ClassId) (ad : Nat → Nat) (o0 : Nat) (S0 : St) (x1 : Int32) (x2 : Int32) (r9 : Int32) (hw : F_X0_suits S0 x1 x2 = r9) : KF l yX0_suits cX0_suits 3 (some .boolean) 1 21 D cI cZ [.ref (ad o0), .int x1, .int x2] [dcells cI ad o0 S0] (some (.int r9)) := by
  refine Met.ofE (by decide +kernel) (Nat.le_of_ble_eq_true rfl) ?_
  intro p e s m below meth c E ls hl
  obtain ⟨hx, hb, hr, hml, hW, hown, hlocks, hP, hK, hD, hN⟩ := E
  have hl : lv_has ls 3 [(0, .ref (ad o0)), (1, .int x1), (2, .int x2)] := hl
  have hw : (if (F_X0_isOpen S0 x1) = 0 then 0 else (if x2 = 0 then (if (F_X3_get 6 (S0.2 0) x1) = 1 then 0 else 1) else (if (F_X3_get 6 (S0.2 0) x1) = 2 then 0 else 1))) = r9 := hw
  refine lv_aload_n hx hb dX0_suits_0 rfl (lv_at hl 0 rfl) ?_
  refine lv_iload_n hx hb dX0_suits_1 rfl (lv_at hl 1 rfl) ?_
  refine callF (va_runV (As := [.int x1]) (rest := []) ⟨hx, hb, hml, hown, hW⟩ (c_X0_isOpen l D cI cZ ad o0 S0 x1 _ rfl) (cwV0 hW mV_X0_isOpen ml_X0_78 ⟨Nat.le_of_ble_eq_true rfl, Nat.le_of_ble_eq_true rfl⟩) (preV0 0 rfl rfl hK hN hP hD [0] rfl rfl) rfl rfl hl.1 rfl (lv_room (Nat.le_of_ble_eq_true rfl)) dX0_suits_2 ⟨Nat.le_refl _, Nat.le_refl _⟩) ?_
  refine W.eq (g2 := F0 m 5 ls [.int (F_X0_isOpen S0 x1)]) rfl ?_
  refine lv_if_eq (tgt := 32) hx hb dX0_suits_5 (by decide) (fun c1 => ?_) (fun c1 => ?_)
  · have hw := (if_pos c1).symm.trans hw
    refine lv_iconst (v := 0) hx hb dX0_suits_32 (by decide) ?_
    subst hw
    exact W.zret (v := 0) hx hb hr rfl (fun t ht _ => ⟨rfl, ht⟩) (fun _ h => by cases h) dX0_suits_33
  · have hw := (if_neg c1).symm.trans hw
    refine lv_aload_n hx hb dX0_suits_8 rfl (lv_at hl 0 rfl) ?_
    refine va_get (D := D) (ci := 0) (v := .ref (ad (o0 + 1))) (C := RX0) (T := TX0) (N := 7) hx hb hW inW_X0 hown hK hP 0 rfl rfl 0 (by decide) (hW _ fl_X0_14) (fun _ h9 => h9) rfl dX0_suits_9 ?_
    refine lv_iload_n hx hb dX0_suits_12 rfl (lv_at hl 1 rfl) ?_
    refine callF (va_runV (As := [.int x1]) (rest := []) ⟨hx, hb, hml, hown, hW⟩ (c_X3_get__deal_0 l D cI cZ ad o0 S0 x1 _ rfl) (cwV0 hW mV_X3_get ml_X0_55 ⟨Nat.le_of_ble_eq_true rfl, Nat.le_of_ble_eq_true rfl⟩) (preV0 1 rfl rfl hK hN hP hD [0] rfl rfl) rfl rfl hl.1 rfl (lv_room (Nat.le_of_ble_eq_true rfl)) dX0_suits_13 ⟨Nat.le_refl _, Nat.le_refl _⟩) ?_
    refine W.eq (g2 := F0 m 16 ls [.int (F_X3_get 6 (S0.2 0) x1)]) rfl ?_
    refine lv_iload_n hx hb dX0_suits_16 rfl (lv_at hl 2 rfl) ?_
    refine lv_if_eq (tgt := 24) hx hb dX0_suits_17 (by decide) (fun c2 => ?_) (fun c2 => ?_)
    · have hw := (if_pos c2).symm.trans hw
      refine lv_iconst (v := 1) hx hb dX0_suits_24 (by decide) ?_
      refine lv_icmp_eq (tgt := 32) hx hb dX0_suits_25 (by decide) (fun c3 => ?_) (fun c3 => ?_)
      · have hw := (if_pos c3).symm.trans hw
        refine lv_iconst (v := 0) hx hb dX0_suits_32 (by decide) ?_
        subst hw
        exact W.zret (v := 0) hx hb hr rfl (fun t ht _ => ⟨rfl, ht⟩) (fun _ h => by cases h) dX0_suits_33
      · have hw := (if_neg c3).symm.trans hw
        refine lv_iconst (v := 1) hx hb dX0_suits_28 (by decide) ?_
        refine lv_goto (tgt := 33) hx hb dX0_suits_29 (by decide) ?_
        subst hw
        exact W.zret (v := 1) hx hb hr rfl (fun t ht _ => ⟨rfl, ht⟩) (fun _ h => by cases h) dX0_suits_33
    · have hw := (if_neg c2).symm.trans hw
      refine lv_iconst (v := 2) hx hb dX0_suits_20 (by decide) ?_
      refine lv_goto (tgt := 25) hx hb dX0_suits_21 (by decide) ?_
      refine lv_icmp_eq (tgt := 32) hx hb dX0_suits_25 (by decide) (fun c4 => ?_) (fun c4 => ?_)
      · have hw := (if_pos c4).symm.trans hw
        refine lv_iconst (v := 0) hx hb dX0_suits_32 (by decide) ?_
        subst hw
        exact W.zret (v := 0) hx hb hr rfl (fun t ht _ => ⟨rfl, ht⟩) (fun _ h => by cases h) dX0_suits_33
      · have hw := (if_neg c4).symm.trans hw
        refine lv_iconst (v := 1) hx hb dX0_suits_28 (by decide) ?_
        refine lv_goto (tgt := 33) hx hb dX0_suits_29 (by decide) ?_
        subst hw
        exact W.zret (v := 1) hx hb hr rfl (fun t ht _ => ⟨rfl, ht⟩) (fun _ h => by cases h) dX0_suits_33
set_option maxHeartbeats 4000000 in
set_option maxRecDepth 100000 in
theorem c_X0_give (l : Launch) (D : va_G) (cI cZ : ClassId) (ad : Nat → Nat) (o0 : Nat) (S0 : St) (x1 : Int32) (x2 : Int32) (k : St → Prop) (hw : wp_X0_give S0 x1 x2 k) : KW l yX0_give cX0_give 3 none 2 43 D cI cZ [.ref (ad o0), .int x1, .int x2] [dcells cI ad o0 S0] (fun v (u : St) => v = none ∧ k u) (fun u : St => [dcells cI ad o0 u]) := by
  refine Met.ofE (by decide +kernel) (Nat.le_of_ble_eq_true rfl) ?_
  intro p e s m below meth c E ls hl
  obtain ⟨hx, hb, hr, hml, hW, hown, hlocks, hP, hK, hD, hN⟩ := E
  have hl : lv_has ls 3 [(0, .ref (ad o0)), (1, .int x1), (2, .int x2)] := hl
  have hS : va_S (cOf (jn [dcells cI ad o0 S0])) s.heap s.heap [] := va_S.rf
  have hw : (wp_X0_countWant (sI S0 1 ((S0.1 1) &&& (((1 : Int32) <<< (x1 &&& 31)) ^^^ (-1)))) x1 (-1) (fun (Z1 : St) => (wp_X0_countBearer Z1 x2 (-1) (fun (Z2 : St) => (k Z2))))) := hw
  refine lv_aload_n hx hb dX0_give_0 rfl (lv_at hl 0 rfl) ?_
  refine lv_dup hx hb dX0_give_1 rfl ?_
  refine va_get (D := D) (ci := 0) (v := .int (S0.1 1)) (C := RX0) (T := TX0) (N := 7) hx hb hW inW_X0 hown hK hP 0 rfl rfl 1 (by decide) (hW _ fl_X0_20) (fun _ h9 => h9) rfl dX0_give_2 ?_
  refine lv_iconst (v := 1) hx hb dX0_give_5 (by decide) ?_
  refine lv_iload_n hx hb dX0_give_6 rfl (lv_at hl 1 rfl) ?_
  refine lv_ishl hx hb dX0_give_7 ?_
  refine lv_iconst (v := (-1)) hx hb dX0_give_8 (by decide) ?_
  refine lv_ixor hx hb dX0_give_9 ?_
  refine lv_iand hx hb dX0_give_10 ?_
  refine va_put (D := D) (ci := 0) (v := .int ((S0.1 1) &&& (((1 : Int32) <<< (x1 &&& 31)) ^^^ (-1)))) (ty := .int) (C := RX0) (T := TX0) (N := 7) hx hb hW inW_X0 tyX0 tyX0_ok nmX0 hown hK hP hD hS 0 rfl rfl 1 (by decide) (hW _ fl_X0_20) (fun _ h9 => h9) rfl (by decide +kernel) rfl rfl (Nat.le_of_ble_eq_true rfl) dX0_give_11 (fun H locs hP hD hS => ?_)
  have hP : va_P D classes (jn [dcells cI ad o0 (sI S0 1 ((S0.1 1) &&& (((1 : Int32) <<< (x1 &&& 31)) ^^^ (-1))))]) H := hP
  have hD : va_D (cOf (jn [dcells cI ad o0 S0])) (jn [dcells cI ad o0 (sI S0 1 ((S0.1 1) &&& (((1 : Int32) <<< (x1 &&& 31)) ^^^ (-1))))]) := hD
  refine lv_aload_n hx hb dX0_give_14 rfl (lv_at hl 0 rfl) ?_
  refine lv_iload_n hx hb dX0_give_15 rfl (lv_at hl 1 rfl) ?_
  refine lv_iconst (v := (-1)) hx hb dX0_give_16 (by decide) ?_
  refine callW (va_runV (As := [.int x1, .int (-1)]) (rest := []) ⟨hx, hb, hml, hown, hW⟩ (c_X0_countWant l D cI cZ ad o0 (sI S0 1 ((S0.1 1) &&& (((1 : Int32) <<< (x1 &&& 31)) ^^^ (-1)))) x1 (-1) _ hw) (cwV0 hW mV_X0_countWant ml_X0_85 ⟨Nat.le_of_ble_eq_true rfl, Nat.le_of_ble_eq_true rfl⟩) (preV0 0 rfl rfl hK hN hP hD [0] rfl rfl) rfl rfl hl.1 rfl (lv_room (Nat.le_of_ble_eq_true rfl)) dX0_give_17 ⟨Nat.le_refl _, Nat.le_refl _⟩) hP hD hS [0] rfl rfl (fun _ => rfl) (fun v9 u9 H locs hq hP hD hS => ?_)
  obtain ⟨rfl, hw⟩ := hq
  obtain ⟨Z1, rfl⟩ : ∃ z, z = u9 := ⟨_, rfl⟩
  have hP : va_P D classes (jn [dcells cI ad o0 Z1]) H := hP
  have hD : va_D (cOf (jn [dcells cI ad o0 S0])) (jn [dcells cI ad o0 Z1]) := hD
  refine W.eq (g2 := F0 m 20 ls []) rfl ?_
  refine lv_aload_n hx hb dX0_give_20 rfl (lv_at hl 0 rfl) ?_
  refine lv_iload_n hx hb dX0_give_21 rfl (lv_at hl 2 rfl) ?_
  refine lv_iconst (v := (-1)) hx hb dX0_give_22 (by decide) ?_
  refine callW (va_runV (As := [.int x2, .int (-1)]) (rest := []) ⟨hx, hb, hml, hown, hW⟩ (c_X0_countBearer l D cI cZ ad o0 Z1 x2 (-1) _ hw) (cwV0 hW mV_X0_countBearer ml_X0_88 ⟨Nat.le_of_ble_eq_true rfl, Nat.le_of_ble_eq_true rfl⟩) (preV0 0 rfl rfl hK hN hP hD [0] rfl rfl) rfl rfl hl.1 rfl (lv_room (Nat.le_of_ble_eq_true rfl)) dX0_give_23 ⟨Nat.le_refl _, Nat.le_refl _⟩) hP hD hS [0] rfl rfl (fun _ => rfl) (fun v9 u9 H locs hq hP hD hS => ?_)
  obtain ⟨rfl, hw⟩ := hq
  obtain ⟨Z2, rfl⟩ : ∃ z, z = u9 := ⟨_, rfl⟩
  have hP : va_P D classes (jn [dcells cI ad o0 Z2]) H := hP
  have hD : va_D (cOf (jn [dcells cI ad o0 S0])) (jn [dcells cI ad o0 Z2]) := hD
  refine W.eq (g2 := F0 m 26 ls []) rfl ?_
  exact W.vret hx hb hr (fun t ht _ => ⟨⟨_, (Z2), rfl, ⟨rfl, hw⟩, by rw [ht]; exact hP⟩, hS.F ht⟩) hS.2.2 dX0_give_26
set_option maxHeartbeats 4000000 in
set_option maxRecDepth 100000 in
theorem c_X0_picks (l : Launch) (D : va_G) (cI cZ : ClassId) (x0 : Int32) (x1 : Int32) (k : Int32 → Prop) (hw : wp_X0_picks x0 x1 k) : KR l yX0_picks cX0_picks 4 (some .int) 0 0 D cI cZ [.int x0, .int x1] [] (fun v => ∃ r, v = some (.int r) ∧ k r) := by
  refine Met.ofE (by decide +kernel) (Nat.le_of_ble_eq_true rfl) ?_
  intro p e s m below meth c E ls hl
  obtain ⟨hx, hb, hr, hml, hW, hown, hlocks, hP, hK, hD, hN⟩ := E
  have hl : lv_has ls 4 [(0, .int x0), (1, .int x1)] := hl
  have L11 : ∀  (kx : Int32 → Prop), (∀ (y2 : Int32), ∀ ls : Array Slot, lv_has ls 4 [(2, .int y2)] → kx y2 → W p l e { frames := 0, cells := 0, slots := 0, locals := 0 } s m ([.int x0, .int x1] : List Value).toArray below meth c s.heap [] 0 0 (MQ below (QR (fun v => ∃ r, v = some (.int r) ∧ k r)) ([.int x0, .int x1] : List Value).toArray s 0 0 (fun _ => False)) (F0 m 28 ls [])) → ∀ (N11 : Nat) (y2 : Int32) (y3 : Int32), ∀ ls : Array Slot, lv_has ls 4 [(0, .int x0), (1, .int x1), (2, .int y2), (3, .int y3)] → wl_X0_picks_11 x0 x1 kx N11 y2 y3 → W p l e { frames := 0, cells := 0, slots := 0, locals := 0 } s m ([.int x0, .int x1] : List Value).toArray below meth c s.heap [] 0 0 (MQ below (QR (fun v => ∃ r, v = some (.int r) ∧ k r)) ([.int x0, .int x1] : List Value).toArray s 0 0 (fun _ => False)) (F0 m 11 ls []) := by
    intro  kx hxt N11
    induction N11 with
    | zero => intro y2 y3 ls hl hw; exact False.elim hw
    | succ N11 ih =>
      intro y2 y3 ls hl hw
      have hw : (if x1 ≤ y3 then (kx y2) else (wl_X0_picks_11 x0 x1 kx N11 (y2 * (x0 - y3)) (y3 + 1))) := hw
      refine lv_iload_n hx hb dX0_picks_11 rfl (lv_at hl 3 rfl) ?_
      refine lv_iload_n hx hb dX0_picks_12 rfl (lv_at hl 1 rfl) ?_
      refine lv_icmp_ge (tgt := 28) hx hb dX0_picks_13 (by decide) (fun c2 => ?_) (fun c2 => ?_)
      · have hw := Eq.mp (if_pos c2) hw
        exact hxt y2 _ (lv_sub hl [2] rfl) hw
      · have hw := Eq.mp (if_neg c2) hw
        refine lv_iload_n hx hb dX0_picks_16 rfl (lv_at hl 2 rfl) ?_
        refine lv_iload_n hx hb dX0_picks_17 rfl (lv_at hl 0 rfl) ?_
        refine lv_iload_n hx hb dX0_picks_18 rfl (lv_at hl 3 rfl) ?_
        refine lv_isub hx hb dX0_picks_19 ?_
        refine lv_imul hx hb dX0_picks_20 ?_
        refine lv_istore_n (lv' := [(2, .int (y2 * (x0 - y3))), (0, .int x0), (1, .int x1), (3, .int y3)]) hx hb dX0_picks_21 rfl hl (by decide) rfl (fun ls hl => ?_)
        refine lv_iinc (v := (y3 + 1)) (lv' := [(3, .int (y3 + 1)), (2, .int (y2 * (x0 - y3))), (0, .int x0), (1, .int x1)]) hx hb dX0_picks_22 hl (k := 3) rfl rfl (by decide) rfl (fun ls hl => ?_)
        refine lv_goto (tgt := 11) hx hb dX0_picks_25 (by decide) ?_
        exact ih (y2 * (x0 - y3)) (y3 + 1) _ (lv_sub hl [2, 3, 1, 0] rfl) hw
  have hw : (if x1 ≤ x0 then (∃ M4, wl_X0_picks_11 x0 x1 (fun (v3 : Int32) => (k v3)) M4 1 0) else (k 0)) := hw
  refine lv_iload_n hx hb dX0_picks_0 rfl (lv_at hl 1 rfl) ?_
  refine lv_iload_n hx hb dX0_picks_1 rfl (lv_at hl 0 rfl) ?_
  refine lv_icmp_le (tgt := 7) hx hb dX0_picks_2 (by decide) (fun c1 => ?_) (fun c1 => ?_)
  · have hw := Eq.mp (if_pos c1) hw
    refine lv_iconst (v := 1) hx hb dX0_picks_7 (by decide) ?_
    refine lv_istore_n (lv' := [(2, .int 1), (0, .int x0), (1, .int x1)]) hx hb dX0_picks_8 rfl hl (by decide) rfl (fun ls hl => ?_)
    refine lv_iconst (v := 0) hx hb dX0_picks_9 (by decide) ?_
    refine lv_istore_n (lv' := [(3, .int 0), (2, .int 1), (0, .int x0), (1, .int x1)]) hx hb dX0_picks_10 rfl hl (by decide) rfl (fun ls hl => ?_)
    obtain ⟨N5, hw⟩ := hw
    refine L11  _ (fun v3 ls hl hw => ?_) N5 1 0 _ (lv_sub hl [2, 3, 1, 0] rfl) hw
    refine lv_iload_n hx hb dX0_picks_28 rfl (lv_at hl 0 rfl) ?_
    exact W.iret (v := v3) hx hb hr (fun t ht _ => ⟨⟨_, rfl, ⟨_, rfl, hw⟩⟩, ht⟩) (fun _ h => by cases h) dX0_picks_29
  · have hw := Eq.mp (if_neg c1) hw
    refine lv_iconst (v := 0) hx hb dX0_picks_5 (by decide) ?_
    exact W.iret (v := 0) hx hb hr (fun t ht _ => ⟨⟨_, rfl, ⟨_, rfl, hw⟩⟩, ht⟩) (fun _ h => by cases h) dX0_picks_6
set_option maxHeartbeats 4000000 in
set_option maxRecDepth 100000 in
theorem c_X0_waysIf (l : Launch) (D : va_G) (cI cZ : ClassId) (ad : Nat → Nat) (o0 : Nat) (S0 : St) (x1 : Int32) (x2 : Int32) (k : Int32 → Prop) (hw : wp_X0_waysIf S0 x1 x2 k) : KR l yX0_waysIf cX0_waysIf 4 (some .int) 1 23 D cI cZ [.ref (ad o0), .int x1, .int x2] [dcells cI ad o0 S0] (fun v => ∃ r, v = some (.int r) ∧ k r) := by
  refine Met.ofE (by decide +kernel) (Nat.le_of_ble_eq_true rfl) ?_
  intro p e s m below meth c E ls hl
  obtain ⟨hx, hb, hr, hml, hW, hown, hlocks, hP, hK, hD, hN⟩ := E
  have hl : lv_has ls 4 [(0, .ref (ad o0)), (1, .int x1), (2, .int x2)] := hl
  have hw : (wp_X0_picks (S0.1 2) x1 (fun (v1 : Int32) => (wp_X0_picks (S0.1 3) x2 (fun (v2 : Int32) => (wp_X0_picks ((((S0.1 2) + (S0.1 3)) - x1) - x2) ((((S0.1 2) + (S0.1 3)) - x1) - x2) (fun (v3 : Int32) => (k ((v1 * v2) * v3)))))))) := hw
  refine lv_aload_n hx hb dX0_waysIf_0 rfl (lv_at hl 0 rfl) ?_
  refine va_get (D := D) (ci := 0) (v := .int (S0.1 2)) (C := RX0) (T := TX0) (N := 7) hx hb hW inW_X0 hown hK hP 0 rfl rfl 2 (by decide) (hW _ fl_X0_24) (fun _ h9 => h9) rfl dX0_waysIf_1 ?_
  refine lv_aload_n hx hb dX0_waysIf_4 rfl (lv_at hl 0 rfl) ?_
  refine va_get (D := D) (ci := 0) (v := .int (S0.1 3)) (C := RX0) (T := TX0) (N := 7) hx hb hW inW_X0 hown hK hP 0 rfl rfl 3 (by decide) (hW _ fl_X0_27) (fun _ h9 => h9) rfl dX0_waysIf_5 ?_
  refine lv_iadd hx hb dX0_waysIf_8 ?_
  refine lv_iload_n hx hb dX0_waysIf_9 rfl (lv_at hl 1 rfl) ?_
  refine lv_isub hx hb dX0_waysIf_10 ?_
  refine lv_iload_n hx hb dX0_waysIf_11 rfl (lv_at hl 2 rfl) ?_
  refine lv_isub hx hb dX0_waysIf_12 ?_
  refine lv_istore_n (lv' := [(3, .int ((((S0.1 2) + (S0.1 3)) - x1) - x2)), (0, .ref (ad o0)), (1, .int x1), (2, .int x2)]) hx hb dX0_waysIf_13 rfl hl (by decide) rfl (fun ls hl => ?_)
  refine lv_aload_n hx hb dX0_waysIf_14 rfl (lv_at hl 1 rfl) ?_
  refine va_get (D := D) (ci := 0) (v := .int (S0.1 2)) (C := RX0) (T := TX0) (N := 7) hx hb hW inW_X0 hown hK hP 0 rfl rfl 2 (by decide) (hW _ fl_X0_24) (fun _ h9 => h9) rfl dX0_waysIf_15 ?_
  refine lv_iload_n hx hb dX0_waysIf_18 rfl (lv_at hl 2 rfl) ?_
  refine callR (va_runS (As := [.int (S0.1 2), .int x1]) (rest := []) ⟨hx, hb, hml, hown, hW⟩ (c_X0_picks l D cI cZ (S0.1 2) x1 _ hw) (cwS0 hW mS_X0_picks ml_X0_96 ⟨Nat.le_of_ble_eq_true rfl, Nat.le_of_ble_eq_true rfl⟩) (preS0 hK hN hP hD [] rfl rfl) rfl rfl hl.1 rfl (lv_room (Nat.le_of_ble_eq_true rfl)) dX0_waysIf_19 ⟨Nat.le_refl _, Nat.le_refl _⟩) (fun v9 hq => ?_)
  obtain ⟨v1, rfl, hw⟩ := hq
  refine W.eq (g2 := F0 m 22 ls [.int v1]) rfl ?_
  refine lv_aload_n hx hb dX0_waysIf_22 rfl (lv_at hl 1 rfl) ?_
  refine va_get (D := D) (ci := 0) (v := .int (S0.1 3)) (C := RX0) (T := TX0) (N := 7) hx hb hW inW_X0 hown hK hP 0 rfl rfl 3 (by decide) (hW _ fl_X0_27) (fun _ h9 => h9) rfl dX0_waysIf_23 ?_
  refine lv_iload_n hx hb dX0_waysIf_26 rfl (lv_at hl 3 rfl) ?_
  refine callR (va_runS (As := [.int (S0.1 3), .int x2]) (rest := [.int v1]) ⟨hx, hb, hml, hown, hW⟩ (c_X0_picks l D cI cZ (S0.1 3) x2 _ hw) (cwS0 hW mS_X0_picks ml_X0_96 ⟨Nat.le_of_ble_eq_true rfl, Nat.le_of_ble_eq_true rfl⟩) (preS0 hK hN hP hD [] rfl rfl) rfl rfl hl.1 rfl (lv_room (Nat.le_of_ble_eq_true rfl)) dX0_waysIf_27 ⟨Nat.le_refl _, Nat.le_refl _⟩) (fun v9 hq => ?_)
  obtain ⟨v2, rfl, hw⟩ := hq
  refine W.eq (g2 := F0 m 30 ls [.int v2, .int v1]) rfl ?_
  refine lv_imul hx hb dX0_waysIf_30 ?_
  refine lv_iload_n hx hb dX0_waysIf_31 rfl (lv_at hl 0 rfl) ?_
  refine lv_iload_n hx hb dX0_waysIf_32 rfl (lv_at hl 0 rfl) ?_
  refine callR (va_runS (As := [.int ((((S0.1 2) + (S0.1 3)) - x1) - x2), .int ((((S0.1 2) + (S0.1 3)) - x1) - x2)]) (rest := [.int (v1 * v2)]) ⟨hx, hb, hml, hown, hW⟩ (c_X0_picks l D cI cZ ((((S0.1 2) + (S0.1 3)) - x1) - x2) ((((S0.1 2) + (S0.1 3)) - x1) - x2) _ hw) (cwS0 hW mS_X0_picks ml_X0_96 ⟨Nat.le_of_ble_eq_true rfl, Nat.le_of_ble_eq_true rfl⟩) (preS0 hK hN hP hD [] rfl rfl) rfl rfl hl.1 rfl (lv_room (Nat.le_of_ble_eq_true rfl)) dX0_waysIf_33 ⟨Nat.le_refl _, Nat.le_refl _⟩) (fun v9 hq => ?_)
  obtain ⟨v3, rfl, hw⟩ := hq
  refine W.eq (g2 := F0 m 36 ls [.int v3, .int (v1 * v2)]) rfl ?_
  refine lv_imul hx hb dX0_waysIf_36 ?_
  exact W.iret (v := ((v1 * v2) * v3)) hx hb hr (fun t ht _ => ⟨⟨_, rfl, ⟨_, rfl, hw⟩⟩, ht⟩) (fun _ h => by cases h) dX0_waysIf_37
set_option maxHeartbeats 4000000 in
set_option maxRecDepth 100000 in
theorem c_X0_ways (l : Launch) (D : va_G) (cI cZ : ClassId) (ad : Nat → Nat) (o0 : Nat) (S0 : St) (k : Int32 → Prop) (hw : wp_X0_ways S0 k) : KR l yX0_ways cX0_ways 1 (some .int) 2 46 D cI cZ [.ref (ad o0)] [dcells cI ad o0 S0] (fun v => ∃ r, v = some (.int r) ∧ k r) := by
  refine Met.ofE (by decide +kernel) (Nat.le_of_ble_eq_true rfl) ?_
  intro p e s m below meth c E ls hl
  obtain ⟨hx, hb, hr, hml, hW, hown, hlocks, hP, hK, hD, hN⟩ := E
  have hl : lv_has ls 1 [(0, .ref (ad o0))] := hl
  have hw : (if (S0.1 6) = 0 then (wp_X0_waysIf S0 (S0.1 4) (S0.1 5) (fun (v2 : Int32) => (k v2))) else (k 0)) := hw
  refine lv_aload_n hx hb dX0_ways_0 rfl (lv_at hl 0 rfl) ?_
  refine va_get (D := D) (ci := 0) (v := .int (S0.1 6)) (C := RX0) (T := TX0) (N := 7) hx hb hW inW_X0 hown hK hP 0 rfl rfl 6 (by decide) (hW _ fl_X0_36) (fun _ h9 => h9) rfl dX0_ways_1 ?_
  refine lv_if_eq (tgt := 11) hx hb dX0_ways_4 (by decide) (fun c1 => ?_) (fun c1 => ?_)
  · have hw := Eq.mp (if_pos c1) hw
    refine lv_aload_n hx hb dX0_ways_11 rfl (lv_at hl 0 rfl) ?_
    refine lv_aload_n hx hb dX0_ways_12 rfl (lv_at hl 0 rfl) ?_
    refine va_get (D := D) (ci := 0) (v := .int (S0.1 4)) (C := RX0) (T := TX0) (N := 7) hx hb hW inW_X0 hown hK hP 0 rfl rfl 4 (by decide) (hW _ fl_X0_30) (fun _ h9 => h9) rfl dX0_ways_13 ?_
    refine lv_aload_n hx hb dX0_ways_16 rfl (lv_at hl 0 rfl) ?_
    refine va_get (D := D) (ci := 0) (v := .int (S0.1 5)) (C := RX0) (T := TX0) (N := 7) hx hb hW inW_X0 hown hK hP 0 rfl rfl 5 (by decide) (hW _ fl_X0_33) (fun _ h9 => h9) rfl dX0_ways_17 ?_
    refine callR (va_runV (As := [.int (S0.1 4), .int (S0.1 5)]) (rest := []) ⟨hx, hb, hml, hown, hW⟩ (c_X0_waysIf l D cI cZ ad o0 S0 (S0.1 4) (S0.1 5) _ hw) (cwV0 hW mV_X0_waysIf ml_X0_92 ⟨Nat.le_of_ble_eq_true rfl, Nat.le_of_ble_eq_true rfl⟩) (preV0 0 rfl rfl hK hN hP hD [0] rfl rfl) rfl rfl hl.1 rfl (lv_room (Nat.le_of_ble_eq_true rfl)) dX0_ways_20 ⟨Nat.le_refl _, Nat.le_refl _⟩) (fun v9 hq => ?_)
    obtain ⟨v2, rfl, hw⟩ := hq
    refine W.eq (g2 := F0 m 23 ls [.int v2]) rfl ?_
    exact W.iret (v := v2) hx hb hr (fun t ht _ => ⟨⟨_, rfl, ⟨_, rfl, hw⟩⟩, ht⟩) (fun _ h => by cases h) dX0_ways_23
  · have hw := Eq.mp (if_neg c1) hw
    refine lv_iconst (v := 0) hx hb dX0_ways_7 (by decide) ?_
    refine lv_goto (tgt := 23) hx hb dX0_ways_8 (by decide) ?_
    exact W.iret (v := 0) hx hb hr (fun t ht _ => ⟨⟨_, rfl, ⟨_, rfl, hw⟩⟩, ht⟩) (fun _ h => by cases h) dX0_ways_23
set_option maxHeartbeats 4000000 in
set_option maxRecDepth 100000 in
theorem c_X0_waysWith (l : Launch) (D : va_G) (cI cZ : ClassId) (ad : Nat → Nat) (o0 : Nat) (S0 : St) (x1 : Int32) (x2 : Int32) (k : Int32 → St → Prop) (hw : wp_X0_waysWith S0 x1 x2 k) : KW l yX0_waysWith cX0_waysWith 4 (some .int) 3 66 D cI cZ [.ref (ad o0), .int x1, .int x2] [dcells cI ad o0 S0] (fun v (u : St) => ∃ r, v = some (.int r) ∧ k r u) (fun u : St => [dcells cI ad o0 u]) := by
  refine Met.ofE (by decide +kernel) (Nat.le_of_ble_eq_true rfl) ?_
  intro p e s m below meth c E ls hl
  obtain ⟨hx, hb, hr, hml, hW, hown, hlocks, hP, hK, hD, hN⟩ := E
  have hl : lv_has ls 4 [(0, .ref (ad o0)), (1, .int x1), (2, .int x2)] := hl
  have hS : va_S (cOf (jn [dcells cI ad o0 S0])) s.heap s.heap [] := va_S.rf
  have hw : (if (F_X0_suits S0 x1 x2) = 0 then (k 0 S0) else (wp_X0_give S0 x1 x2 (fun (Z2 : St) => (wp_X0_ways Z2 (fun (v3 : Int32) => (wp_X0_takeBack Z2 x1 x2 (fun (Z4 : St) => (k v3 Z4)))))))) := hw
  refine lv_aload_n hx hb dX0_waysWith_0 rfl (lv_at hl 0 rfl) ?_
  refine lv_iload_n hx hb dX0_waysWith_1 rfl (lv_at hl 1 rfl) ?_
  refine lv_iload_n hx hb dX0_waysWith_2 rfl (lv_at hl 2 rfl) ?_
  refine callF (va_runV (As := [.int x1, .int x2]) (rest := []) ⟨hx, hb, hml, hown, hW⟩ (c_X0_suits l D cI cZ ad o0 S0 x1 x2 _ rfl) (cwV0 hW mV_X0_suits ml_X0_106 ⟨Nat.le_of_ble_eq_true rfl, Nat.le_of_ble_eq_true rfl⟩) (preV0 0 rfl rfl hK hN hP hD [0] rfl rfl) rfl rfl hl.1 rfl (lv_room (Nat.le_of_ble_eq_true rfl)) dX0_waysWith_3 ⟨Nat.le_refl _, Nat.le_refl _⟩) ?_
  refine W.eq (g2 := F0 m 6 ls [.int (F_X0_suits S0 x1 x2)]) rfl ?_
  refine lv_if_ne (tgt := 11) hx hb dX0_waysWith_6 (by decide) (fun c1 => ?_) (fun c1 => ?_)
  · have hw := Eq.mp (if_neg c1) hw
    refine lv_aload_n hx hb dX0_waysWith_11 rfl (lv_at hl 0 rfl) ?_
    refine lv_iload_n hx hb dX0_waysWith_12 rfl (lv_at hl 1 rfl) ?_
    refine lv_iload_n hx hb dX0_waysWith_13 rfl (lv_at hl 2 rfl) ?_
    refine callW (va_runV (As := [.int x1, .int x2]) (rest := []) ⟨hx, hb, hml, hown, hW⟩ (c_X0_give l D cI cZ ad o0 S0 x1 x2 _ hw) (cwV0 hW mV_X0_give ml_X0_103 ⟨Nat.le_of_ble_eq_true rfl, Nat.le_of_ble_eq_true rfl⟩) (preV0 0 rfl rfl hK hN hP hD [0] rfl rfl) rfl rfl hl.1 rfl (lv_room (Nat.le_of_ble_eq_true rfl)) dX0_waysWith_14 ⟨Nat.le_refl _, Nat.le_refl _⟩) hP hD hS [0] rfl rfl (fun _ => rfl) (fun v9 u9 H locs hq hP hD hS => ?_)
    obtain ⟨rfl, hw⟩ := hq
    obtain ⟨Z2, rfl⟩ : ∃ z, z = u9 := ⟨_, rfl⟩
    have hP : va_P D classes (jn [dcells cI ad o0 Z2]) H := hP
    have hD : va_D (cOf (jn [dcells cI ad o0 S0])) (jn [dcells cI ad o0 Z2]) := hD
    refine W.eq (g2 := F0 m 17 ls []) rfl ?_
    refine lv_aload_n hx hb dX0_waysWith_17 rfl (lv_at hl 0 rfl) ?_
    refine callR (va_runV (As := []) (rest := []) ⟨hx, hb, hml, hown, hW⟩ (c_X0_ways l D cI cZ ad o0 Z2 _ hw) (cwV0 hW mV_X0_ways ml_X0_110 ⟨Nat.le_of_ble_eq_true rfl, Nat.le_of_ble_eq_true rfl⟩) (preV0 0 rfl rfl hK hN hP hD [0] rfl rfl) rfl rfl hl.1 rfl (lv_room (Nat.le_of_ble_eq_true rfl)) dX0_waysWith_18 ⟨Nat.le_refl _, Nat.le_refl _⟩) (fun v9 hq => ?_)
    obtain ⟨v3, rfl, hw⟩ := hq
    refine W.eq (g2 := F0 m 21 ls [.int v3]) rfl ?_
    refine lv_istore_n (lv' := [(3, .int v3), (0, .ref (ad o0)), (1, .int x1), (2, .int x2)]) hx hb dX0_waysWith_21 rfl hl (by decide) rfl (fun ls hl => ?_)
    refine lv_aload_n hx hb dX0_waysWith_22 rfl (lv_at hl 1 rfl) ?_
    refine lv_iload_n hx hb dX0_waysWith_23 rfl (lv_at hl 2 rfl) ?_
    refine lv_iload_n hx hb dX0_waysWith_24 rfl (lv_at hl 3 rfl) ?_
    refine callW (va_runV (As := [.int x1, .int x2]) (rest := []) ⟨hx, hb, hml, hown, hW⟩ (c_X0_takeBack l D cI cZ ad o0 Z2 x1 x2 _ hw) (cwV0 hW mV_X0_takeBack ml_X0_62 ⟨Nat.le_of_ble_eq_true rfl, Nat.le_of_ble_eq_true rfl⟩) (preV0 0 rfl rfl hK hN hP hD [0] rfl rfl) rfl rfl hl.1 rfl (lv_room (Nat.le_of_ble_eq_true rfl)) dX0_waysWith_25 ⟨Nat.le_refl _, Nat.le_refl _⟩) hP hD hS [0] rfl rfl (fun _ => rfl) (fun v9 u9 H locs hq hP hD hS => ?_)
    obtain ⟨rfl, hw⟩ := hq
    obtain ⟨Z4, rfl⟩ : ∃ z, z = u9 := ⟨_, rfl⟩
    have hP : va_P D classes (jn [dcells cI ad o0 Z4]) H := hP
    have hD : va_D (cOf (jn [dcells cI ad o0 S0])) (jn [dcells cI ad o0 Z4]) := hD
    refine W.eq (g2 := F0 m 28 ls []) rfl ?_
    refine lv_iload_n hx hb dX0_waysWith_28 rfl (lv_at hl 0 rfl) ?_
    exact W.iret (v := v3) hx hb hr (fun t ht _ => ⟨⟨_, (Z4), rfl, ⟨_, rfl, hw⟩, by rw [ht]; exact hP⟩, hS.F ht⟩) hS.2.2 dX0_waysWith_29
  · have hw := Eq.mp (if_pos c1) hw
    refine lv_iconst (v := 0) hx hb dX0_waysWith_9 (by decide) ?_
    exact W.iret (v := 0) hx hb hr (fun t ht _ => ⟨⟨_, (S0), rfl, ⟨_, rfl, hw⟩, by rw [ht]; exact hP⟩, hS.F ht⟩) hS.2.2 dX0_waysWith_10
set_option maxHeartbeats 4000000 in
set_option maxRecDepth 100000 in
theorem c_X0_rowAt (l : Launch) (D : va_G) (cI cZ : ClassId) (ad : Nat → Nat) (o0 : Nat) (S0 : St) (o1 : Nat) (S1 : St) (x2 : Int32) (k : Int32 → St → Prop) (hw : wp_X0_rowAt S0 S1 x2 k) : KW l yX0_rowAt cX0_rowAt 9 (some .int) 4 89 D cI cZ [.ref (ad o0), .ref (ad o1), .int x2] [dcells cI ad o0 S0, rcells cI ad o1 S1] (fun v (u : St) => ∃ r, v = some (.int r) ∧ k r u) (fun u : St => [dcells cI ad o0 u, rcells cI ad o1 S1]) := by
  refine Met.ofE (by decide +kernel) (Nat.le_of_ble_eq_true rfl) ?_
  intro p e s m below meth c E ls hl
  obtain ⟨hx, hb, hr, hml, hW, hown, hlocks, hP, hK, hD, hN⟩ := E
  have hl : lv_has ls 9 [(0, .ref (ad o0)), (1, .ref (ad o1)), (2, .int x2)] := hl
  have hS : va_S (cOf (jn [dcells cI ad o0 S0, rcells cI ad o1 S1])) s.heap s.heap [] := va_S.rf
  have L53 : ∀ (y3 : Int32) (y5 : Int32) (y7 : Int32) (kx : Int32 → Int32 → St → Prop), (∀ (y4 : Int32) (y8 : Int32) (S0q : St) (H : Heap) (locs : List Loc), va_P D classes (jn [dcells cI ad o0 S0q, rcells cI ad o1 S1]) H → va_D (cOf (jn [dcells cI ad o0 S0, rcells cI ad o1 S1])) (jn [dcells cI ad o0 S0q, rcells cI ad o1 S1]) → va_S (cOf (jn [dcells cI ad o0 S0, rcells cI ad o1 S1])) s.heap H locs → ∀ ls : Array Slot, lv_has ls 9 [(0, .ref (ad o0)), (1, .ref (ad o1)), (3, .int y3), (4, .int y4), (5, .int y5), (7, .int y7), (8, .int y8)] → kx y4 y8 S0q → W p l e { frames := 4, cells := 0, slots := 0, locals := 89 } s m ([.ref (ad o0), .ref (ad o1), .int x2] : List Value).toArray below meth c H locs 0 0 (MQ below (QW (fun v (u : St) => ∃ r, v = some (.int r) ∧ k r u) D (fun u : St => [dcells cI ad o0 u, rcells cI ad o1 S1]) [dcells cI ad o0 S0, rcells cI ad o1 S1]) ([.ref (ad o0), .ref (ad o1), .int x2] : List Value).toArray s 0 0 (cOf (jn [dcells cI ad o0 S0, rcells cI ad o1 S1]))) (F0 m 94 ls [])) → ∀ (N53 : Nat) (y4 : Int32) (y8 : Int32) (S0q : St) (H : Heap) (locs : List Loc), va_P D classes (jn [dcells cI ad o0 S0q, rcells cI ad o1 S1]) H → va_D (cOf (jn [dcells cI ad o0 S0, rcells cI ad o1 S1])) (jn [dcells cI ad o0 S0q, rcells cI ad o1 S1]) → va_S (cOf (jn [dcells cI ad o0 S0, rcells cI ad o1 S1])) s.heap H locs → ∀ ls : Array Slot, lv_has ls 9 [(0, .ref (ad o0)), (1, .ref (ad o1)), (3, .int y3), (4, .int y4), (5, .int y5), (7, .int y7), (8, .int y8)] → wl_X0_rowAt_53 S1 y7 kx N53 y4 y8 S0q → W p l e { frames := 4, cells := 0, slots := 0, locals := 89 } s m ([.ref (ad o0), .ref (ad o1), .int x2] : List Value).toArray below meth c H locs 0 0 (MQ below (QW (fun v (u : St) => ∃ r, v = some (.int r) ∧ k r u) D (fun u : St => [dcells cI ad o0 u, rcells cI ad o1 S1]) [dcells cI ad o0 S0, rcells cI ad o1 S1]) ([.ref (ad o0), .ref (ad o1), .int x2] : List Value).toArray s 0 0 (cOf (jn [dcells cI ad o0 S0, rcells cI ad o1 S1]))) (F0 m 53 ls []) := by
    intro y3 y5 y7 kx hxt N53
    induction N53 with
    | zero => intro y4 y8 S0q H locs hP hD hS ls hl hw; exact False.elim hw
    | succ N53 ih =>
      intro y4 y8 S0q H locs hP hD hS ls hl hw
      have hw : (if (S1.1 0) ≤ y8 then (kx y4 y8 S0q) else (wp_X0_waysWith S0q y8 y7 (fun (v5 : Int32) (Z6 : St) => (if y4 < v5 then (kx y4 y8 Z6) else (wp_X0_waysWith Z6 y8 y7 (fun (v8 : Int32) (Z9 : St) => (wl_X0_rowAt_53 S1 y7 kx N53 (y4 - v8) (y8 + 1) Z9))))))) := hw
      refine lv_iload hx hb dX0_rowAt_53 (lv_at hl 6 rfl) ?_
      refine lv_aload_n hx hb dX0_rowAt_55 rfl (lv_at hl 1 rfl) ?_
      refine va_get (D := D) (ci := 2) (v := .int (S1.1 0)) (C := RX2) (T := TX2) (N := 15) hx hb hW inW_X2 hown hK hP 3 rfl rfl 0 (by decide) (hW _ fl_X0_43) (fun _ h9 => h9) rfl dX0_rowAt_56 ?_
      refine lv_icmp_ge (tgt := 94) hx hb dX0_rowAt_59 (by decide) (fun c4 => ?_) (fun c4 => ?_)
      · have hw := Eq.mp (if_pos c4) hw
        exact hxt y4 y8 S0q _ _ hP hD hS _ (lv_sub hl [0, 1, 2, 3, 4, 5, 6] rfl) hw
      · have hw := Eq.mp (if_neg c4) hw
        refine lv_iload hx hb dX0_rowAt_62 (lv_at hl 3 rfl) ?_
        refine lv_aload_n hx hb dX0_rowAt_64 rfl (lv_at hl 0 rfl) ?_
        refine lv_iload hx hb dX0_rowAt_65 (lv_at hl 6 rfl) ?_
        refine lv_iload hx hb dX0_rowAt_67 (lv_at hl 5 rfl) ?_
        refine callW (va_runV (As := [.int y8, .int y7]) (rest := [.int y4]) ⟨hx, hb, hml, hown, hW⟩ (c_X0_waysWith l D cI cZ ad o0 S0q y8 y7 _ hw) (cwV0 hW mV_X0_waysWith ml_X0_99 ⟨Nat.le_of_ble_eq_true rfl, Nat.le_of_ble_eq_true rfl⟩) (preV0 0 rfl rfl hK hN hP hD [0] rfl rfl) rfl rfl hl.1 rfl (lv_room (Nat.le_of_ble_eq_true rfl)) dX0_rowAt_69 ⟨Nat.le_refl _, Nat.le_refl _⟩) hP hD hS [0] rfl rfl (fun _ => rfl) (fun v9 u9 H locs hq hP hD hS => ?_)
        obtain ⟨v5, rfl, hw⟩ := hq
        obtain ⟨Z6, rfl⟩ : ∃ z, z = u9 := ⟨_, rfl⟩
        have hP : va_P D classes (jn [dcells cI ad o0 Z6, rcells cI ad o1 S1]) H := hP
        have hD : va_D (cOf (jn [dcells cI ad o0 S0, rcells cI ad o1 S1])) (jn [dcells cI ad o0 Z6, rcells cI ad o1 S1]) := hD
        refine W.eq (g2 := F0 m 72 ls [.int v5, .int y4]) rfl ?_
        refine lv_icmp_lt (tgt := 94) hx hb dX0_rowAt_72 (by decide) (fun c7 => ?_) (fun c7 => ?_)
        · have hw := Eq.mp (if_pos c7) hw
          exact hxt y4 y8 Z6 _ _ hP hD hS _ (lv_sub hl [0, 1, 2, 3, 4, 5, 6] rfl) hw
        · have hw := Eq.mp (if_neg c7) hw
          refine lv_iload hx hb dX0_rowAt_75 (lv_at hl 3 rfl) ?_
          refine lv_aload_n hx hb dX0_rowAt_77 rfl (lv_at hl 0 rfl) ?_
          refine lv_iload hx hb dX0_rowAt_78 (lv_at hl 6 rfl) ?_
          refine lv_iload hx hb dX0_rowAt_80 (lv_at hl 5 rfl) ?_
          refine callW (va_runV (As := [.int y8, .int y7]) (rest := [.int y4]) ⟨hx, hb, hml, hown, hW⟩ (c_X0_waysWith l D cI cZ ad o0 Z6 y8 y7 _ hw) (cwV0 hW mV_X0_waysWith ml_X0_99 ⟨Nat.le_of_ble_eq_true rfl, Nat.le_of_ble_eq_true rfl⟩) (preV0 0 rfl rfl hK hN hP hD [0] rfl rfl) rfl rfl hl.1 rfl (lv_room (Nat.le_of_ble_eq_true rfl)) dX0_rowAt_82 ⟨Nat.le_refl _, Nat.le_refl _⟩) hP hD hS [0] rfl rfl (fun _ => rfl) (fun v9 u9 H locs hq hP hD hS => ?_)
          obtain ⟨v8, rfl, hw⟩ := hq
          obtain ⟨Z9, rfl⟩ : ∃ z, z = u9 := ⟨_, rfl⟩
          have hP : va_P D classes (jn [dcells cI ad o0 Z9, rcells cI ad o1 S1]) H := hP
          have hD : va_D (cOf (jn [dcells cI ad o0 S0, rcells cI ad o1 S1])) (jn [dcells cI ad o0 Z9, rcells cI ad o1 S1]) := hD
          refine W.eq (g2 := F0 m 85 ls [.int v8, .int y4]) rfl ?_
          refine lv_isub hx hb dX0_rowAt_85 ?_
          refine lv_istore (lv' := [(4, .int (y4 - v8)), (0, .ref (ad o0)), (1, .ref (ad o1)), (3, .int y3), (5, .int y5), (7, .int y7), (8, .int y8)]) hx hb dX0_rowAt_86 hl (by decide) rfl (fun ls hl => ?_)
          refine lv_iinc (v := (y8 + 1)) (lv' := [(8, .int (y8 + 1)), (4, .int (y4 - v8)), (0, .ref (ad o0)), (1, .ref (ad o1)), (3, .int y3), (5, .int y5), (7, .int y7)]) hx hb dX0_rowAt_88 hl (k := 6) rfl rfl (by decide) rfl (fun ls hl => ?_)
          refine lv_goto (tgt := 53) hx hb dX0_rowAt_91 (by decide) ?_
          exact ih (y4 - v8) (y8 + 1) Z9 _ _ hP hD hS _ (lv_sub hl [2, 3, 4, 1, 5, 6, 0] rfl) hw
  have L8 : ∀  (kx : Int32 → St → Prop), (∀ (y3 : Int32) (S0q : St) (H : Heap) (locs : List Loc), va_P D classes (jn [dcells cI ad o0 S0q, rcells cI ad o1 S1]) H → va_D (cOf (jn [dcells cI ad o0 S0, rcells cI ad o1 S1])) (jn [dcells cI ad o0 S0q, rcells cI ad o1 S1]) → va_S (cOf (jn [dcells cI ad o0 S0, rcells cI ad o1 S1])) s.heap H locs → ∀ ls : Array Slot, lv_has ls 9 [(3, .int y3)] → kx y3 S0q → W p l e { frames := 4, cells := 0, slots := 0, locals := 89 } s m ([.ref (ad o0), .ref (ad o1), .int x2] : List Value).toArray below meth c H locs 0 0 (MQ below (QW (fun v (u : St) => ∃ r, v = some (.int r) ∧ k r u) D (fun u : St => [dcells cI ad o0 u, rcells cI ad o1 S1]) [dcells cI ad o0 S0, rcells cI ad o1 S1]) ([.ref (ad o0), .ref (ad o1), .int x2] : List Value).toArray s 0 0 (cOf (jn [dcells cI ad o0 S0, rcells cI ad o1 S1]))) (F0 m 120 ls [])) → ∀ (N8 : Nat) (y3 : Int32) (y4 : Int32) (y5 : Int32) (S0q : St) (H : Heap) (locs : List Loc), va_P D classes (jn [dcells cI ad o0 S0q, rcells cI ad o1 S1]) H → va_D (cOf (jn [dcells cI ad o0 S0, rcells cI ad o1 S1])) (jn [dcells cI ad o0 S0q, rcells cI ad o1 S1]) → va_S (cOf (jn [dcells cI ad o0 S0, rcells cI ad o1 S1])) s.heap H locs → ∀ ls : Array Slot, lv_has ls 9 [(0, .ref (ad o0)), (1, .ref (ad o1)), (3, .int y3), (4, .int y4), (5, .int y5)] → wl_X0_rowAt_8 S1 kx N8 y3 y4 y5 S0q → W p l e { frames := 4, cells := 0, slots := 0, locals := 89 } s m ([.ref (ad o0), .ref (ad o1), .int x2] : List Value).toArray below meth c H locs 0 0 (MQ below (QW (fun v (u : St) => ∃ r, v = some (.int r) ∧ k r u) D (fun u : St => [dcells cI ad o0 u, rcells cI ad o1 S1]) [dcells cI ad o0 S0, rcells cI ad o1 S1]) ([.ref (ad o0), .ref (ad o1), .int x2] : List Value).toArray s 0 0 (cOf (jn [dcells cI ad o0 S0, rcells cI ad o1 S1]))) (F0 m 8 ls []) := by
    intro  kx hxt N8
    induction N8 with
    | zero => intro y3 y4 y5 S0q H locs hP hD hS ls hl hw; exact False.elim hw
    | succ N8 ih =>
      intro y3 y4 y5 S0q H locs hP hD hS ls hl hw
      have hw : (if (S1.1 0) ≤ y5 then (kx y3 S0q) else (if (F_X2_lives S1 y5) = 0 then (wl_X0_rowAt_8 S1 kx N8 (((10 : Int32) * y3) + 6) y4 (y5 + 1) S0q) else (if (F_X3_get 6 (S1.2 11) y5) = 1 then (∃ M14, wl_X0_rowAt_53 S1 1 (fun (v10 : Int32) (v11 : Int32) (Z12 : St) => (wp_X0_give Z12 v11 1 (fun (Z13 : St) => (wl_X0_rowAt_8 S1 kx N8 (((10 : Int32) * y3) + v11) v10 (y5 + 1) Z13)))) M14 y4 0 S0q) else (∃ M20, wl_X0_rowAt_53 S1 0 (fun (v16 : Int32) (v17 : Int32) (Z18 : St) => (wp_X0_give Z18 v17 0 (fun (Z19 : St) => (wl_X0_rowAt_8 S1 kx N8 (((10 : Int32) * y3) + v17) v16 (y5 + 1) Z19)))) M20 y4 0 S0q)))) := hw
      refine lv_iload hx hb dX0_rowAt_8 (lv_at hl 4 rfl) ?_
      refine lv_aload_n hx hb dX0_rowAt_10 rfl (lv_at hl 1 rfl) ?_
      refine va_get (D := D) (ci := 2) (v := .int (S1.1 0)) (C := RX2) (T := TX2) (N := 15) hx hb hW inW_X2 hown hK hP 3 rfl rfl 0 (by decide) (hW _ fl_X0_43) (fun _ h9 => h9) rfl dX0_rowAt_11 ?_
      refine lv_icmp_ge (tgt := 120) hx hb dX0_rowAt_14 (by decide) (fun c1 => ?_) (fun c1 => ?_)
      · have hw := Eq.mp (if_pos c1) hw
        exact hxt y3 S0q _ _ hP hD hS _ (lv_sub hl [2] rfl) hw
      · have hw := Eq.mp (if_neg c1) hw
        refine lv_bipush (v := 6) hx hb dX0_rowAt_17 (by decide) ?_
        refine lv_istore (lv' := [(6, .int 6), (0, .ref (ad o0)), (1, .ref (ad o1)), (3, .int y3), (4, .int y4), (5, .int y5)]) hx hb dX0_rowAt_19 hl (by decide) rfl (fun ls hl => ?_)
        refine lv_aload_n hx hb dX0_rowAt_21 rfl (lv_at hl 2 rfl) ?_
        refine lv_iload hx hb dX0_rowAt_22 (lv_at hl 5 rfl) ?_
        refine callF (va_runV (As := [.int y5]) (rest := []) ⟨hx, hb, hml, hown, hW⟩ (c_X2_lives l D cI cZ ad o1 S1 y5 _ rfl) (cwV0 hW mV_X2_lives ml_X0_48 ⟨Nat.le_of_ble_eq_true rfl, Nat.le_of_ble_eq_true rfl⟩) (preV0 0 rfl rfl hK hN hP hD [1] rfl rfl) rfl rfl hl.1 rfl (lv_room (Nat.le_of_ble_eq_true rfl)) dX0_rowAt_24 ⟨Nat.le_refl _, Nat.le_refl _⟩) ?_
        refine W.eq (g2 := F0 m 27 ls [.int (F_X2_lives S1 y5)]) rfl ?_
        refine lv_if_eq (tgt := 106) hx hb dX0_rowAt_27 (by decide) (fun c2 => ?_) (fun c2 => ?_)
        · have hw := Eq.mp (if_pos c2) hw
          refine lv_bipush (v := 10) hx hb dX0_rowAt_106 (by decide) ?_
          refine lv_iload_n hx hb dX0_rowAt_108 rfl (lv_at hl 3 rfl) ?_
          refine lv_imul hx hb dX0_rowAt_109 ?_
          refine lv_iload hx hb dX0_rowAt_110 (lv_at hl 0 rfl) ?_
          refine lv_iadd hx hb dX0_rowAt_112 ?_
          refine lv_istore_n (lv' := [(3, .int (((10 : Int32) * y3) + 6)), (6, .int 6), (0, .ref (ad o0)), (1, .ref (ad o1)), (4, .int y4), (5, .int y5)]) hx hb dX0_rowAt_113 rfl hl (by decide) rfl (fun ls hl => ?_)
          refine lv_iinc (v := (y5 + 1)) (lv' := [(5, .int (y5 + 1)), (3, .int (((10 : Int32) * y3) + 6)), (6, .int 6), (0, .ref (ad o0)), (1, .ref (ad o1)), (4, .int y4)]) hx hb dX0_rowAt_114 hl (k := 5) rfl rfl (by decide) rfl (fun ls hl => ?_)
          refine lv_goto (tgt := 8) hx hb dX0_rowAt_117 (by decide) ?_
          exact ih (((10 : Int32) * y3) + 6) y4 (y5 + 1) S0q _ _ hP hD hS _ (lv_sub hl [3, 4, 1, 5, 0] rfl) hw
        · have hw := Eq.mp (if_neg c2) hw
          refine lv_aload_n hx hb dX0_rowAt_30 rfl (lv_at hl 2 rfl) ?_
          refine va_get (D := D) (ci := 2) (v := .ref (ad (o1 + 5))) (C := RX2) (T := TX2) (N := 15) hx hb hW inW_X2 hown hK hP 3 rfl rfl 11 (by decide) (hW _ fl_X0_59) (fun _ h9 => h9) rfl dX0_rowAt_31 ?_
          refine lv_iload hx hb dX0_rowAt_34 (lv_at hl 5 rfl) ?_
          refine callF (va_runV (As := [.int y5]) (rest := []) ⟨hx, hb, hml, hown, hW⟩ (c_X3_get__round_11 l D cI cZ ad o1 S1 y5 _ rfl) (cwV0 hW mV_X3_get ml_X0_55 ⟨Nat.le_of_ble_eq_true rfl, Nat.le_of_ble_eq_true rfl⟩) (preV0 5 rfl rfl hK hN hP hD [1] rfl rfl) rfl rfl hl.1 rfl (lv_room (Nat.le_of_ble_eq_true rfl)) dX0_rowAt_36 ⟨Nat.le_refl _, Nat.le_refl _⟩) ?_
          refine W.eq (g2 := F0 m 39 ls [.int (F_X3_get 6 (S1.2 11) y5)]) rfl ?_
          refine lv_iconst (v := 1) hx hb dX0_rowAt_39 (by decide) ?_
          refine lv_icmp_ne (tgt := 47) hx hb dX0_rowAt_40 (by decide) (fun c3 => ?_) (fun c3 => ?_)
          · have hw := Eq.mp (if_neg c3) hw
            refine lv_iconst (v := 0) hx hb dX0_rowAt_47 (by decide) ?_
            refine lv_istore (lv' := [(7, .int 0), (6, .int 6), (0, .ref (ad o0)), (1, .ref (ad o1)), (3, .int y3), (4, .int y4), (5, .int y5)]) hx hb dX0_rowAt_48 hl (by decide) rfl (fun ls hl => ?_)
            refine lv_iconst (v := 0) hx hb dX0_rowAt_50 (by decide) ?_
            refine lv_istore (lv' := [(8, .int 0), (7, .int 0), (6, .int 6), (0, .ref (ad o0)), (1, .ref (ad o1)), (3, .int y3), (4, .int y4), (5, .int y5)]) hx hb dX0_rowAt_51 hl (by decide) rfl (fun ls hl => ?_)
            obtain ⟨N21, hw⟩ := hw
            refine L53 y3 y5 0 _ (fun v16 v17 Z18 H locs hP hD hS ls hl hw => ?_) N21 y4 0 S0q _ _ hP hD hS _ (lv_sub hl [3, 4, 5, 6, 7, 1, 0] rfl) hw
            refine lv_aload_n hx hb dX0_rowAt_94 rfl (lv_at hl 0 rfl) ?_
            refine lv_iload hx hb dX0_rowAt_95 (lv_at hl 6 rfl) ?_
            refine lv_iload hx hb dX0_rowAt_97 (lv_at hl 5 rfl) ?_
            refine callW (va_runV (As := [.int v17, .int 0]) (rest := []) ⟨hx, hb, hml, hown, hW⟩ (c_X0_give l D cI cZ ad o0 Z18 v17 0 _ hw) (cwV0 hW mV_X0_give ml_X0_103 ⟨Nat.le_of_ble_eq_true rfl, Nat.le_of_ble_eq_true rfl⟩) (preV0 0 rfl rfl hK hN hP hD [0] rfl rfl) rfl rfl hl.1 rfl (lv_room (Nat.le_of_ble_eq_true rfl)) dX0_rowAt_99 ⟨Nat.le_refl _, Nat.le_refl _⟩) hP hD hS [0] rfl rfl (fun _ => rfl) (fun v9 u9 H locs hq hP hD hS => ?_)
            obtain ⟨rfl, hw⟩ := hq
            obtain ⟨Z19, rfl⟩ : ∃ z, z = u9 := ⟨_, rfl⟩
            have hP : va_P D classes (jn [dcells cI ad o0 Z19, rcells cI ad o1 S1]) H := hP
            have hD : va_D (cOf (jn [dcells cI ad o0 S0, rcells cI ad o1 S1])) (jn [dcells cI ad o0 Z19, rcells cI ad o1 S1]) := hD
            refine W.eq (g2 := F0 m 102 ls []) rfl ?_
            refine lv_iload hx hb dX0_rowAt_102 (lv_at hl 6 rfl) ?_
            refine lv_istore (lv' := [(6, .int v17), (0, .ref (ad o0)), (1, .ref (ad o1)), (3, .int y3), (4, .int v16), (5, .int y5), (7, .int 0), (8, .int v17)]) hx hb dX0_rowAt_104 hl (by decide) rfl (fun ls hl => ?_)
            refine lv_bipush (v := 10) hx hb dX0_rowAt_106 (by decide) ?_
            refine lv_iload_n hx hb dX0_rowAt_108 rfl (lv_at hl 3 rfl) ?_
            refine lv_imul hx hb dX0_rowAt_109 ?_
            refine lv_iload hx hb dX0_rowAt_110 (lv_at hl 0 rfl) ?_
            refine lv_iadd hx hb dX0_rowAt_112 ?_
            refine lv_istore_n (lv' := [(3, .int (((10 : Int32) * y3) + v17)), (6, .int v17), (0, .ref (ad o0)), (1, .ref (ad o1)), (4, .int v16), (5, .int y5), (7, .int 0), (8, .int v17)]) hx hb dX0_rowAt_113 rfl hl (by decide) rfl (fun ls hl => ?_)
            refine lv_iinc (v := (y5 + 1)) (lv' := [(5, .int (y5 + 1)), (3, .int (((10 : Int32) * y3) + v17)), (6, .int v17), (0, .ref (ad o0)), (1, .ref (ad o1)), (4, .int v16), (7, .int 0), (8, .int v17)]) hx hb dX0_rowAt_114 hl (k := 5) rfl rfl (by decide) rfl (fun ls hl => ?_)
            refine lv_goto (tgt := 8) hx hb dX0_rowAt_117 (by decide) ?_
            exact ih (((10 : Int32) * y3) + v17) v16 (y5 + 1) Z19 _ _ hP hD hS _ (lv_sub hl [3, 4, 1, 5, 0] rfl) hw
          · have hw := Eq.mp (if_pos c3) hw
            refine lv_iconst (v := 1) hx hb dX0_rowAt_43 (by decide) ?_
            refine lv_goto (tgt := 48) hx hb dX0_rowAt_44 (by decide) ?_
            refine lv_istore (lv' := [(7, .int 1), (6, .int 6), (0, .ref (ad o0)), (1, .ref (ad o1)), (3, .int y3), (4, .int y4), (5, .int y5)]) hx hb dX0_rowAt_48 hl (by decide) rfl (fun ls hl => ?_)
            refine lv_iconst (v := 0) hx hb dX0_rowAt_50 (by decide) ?_
            refine lv_istore (lv' := [(8, .int 0), (7, .int 1), (6, .int 6), (0, .ref (ad o0)), (1, .ref (ad o1)), (3, .int y3), (4, .int y4), (5, .int y5)]) hx hb dX0_rowAt_51 hl (by decide) rfl (fun ls hl => ?_)
            obtain ⟨N15, hw⟩ := hw
            refine L53 y3 y5 1 _ (fun v10 v11 Z12 H locs hP hD hS ls hl hw => ?_) N15 y4 0 S0q _ _ hP hD hS _ (lv_sub hl [3, 4, 5, 6, 7, 1, 0] rfl) hw
            refine lv_aload_n hx hb dX0_rowAt_94 rfl (lv_at hl 0 rfl) ?_
            refine lv_iload hx hb dX0_rowAt_95 (lv_at hl 6 rfl) ?_
            refine lv_iload hx hb dX0_rowAt_97 (lv_at hl 5 rfl) ?_
            refine callW (va_runV (As := [.int v11, .int 1]) (rest := []) ⟨hx, hb, hml, hown, hW⟩ (c_X0_give l D cI cZ ad o0 Z12 v11 1 _ hw) (cwV0 hW mV_X0_give ml_X0_103 ⟨Nat.le_of_ble_eq_true rfl, Nat.le_of_ble_eq_true rfl⟩) (preV0 0 rfl rfl hK hN hP hD [0] rfl rfl) rfl rfl hl.1 rfl (lv_room (Nat.le_of_ble_eq_true rfl)) dX0_rowAt_99 ⟨Nat.le_refl _, Nat.le_refl _⟩) hP hD hS [0] rfl rfl (fun _ => rfl) (fun v9 u9 H locs hq hP hD hS => ?_)
            obtain ⟨rfl, hw⟩ := hq
            obtain ⟨Z13, rfl⟩ : ∃ z, z = u9 := ⟨_, rfl⟩
            have hP : va_P D classes (jn [dcells cI ad o0 Z13, rcells cI ad o1 S1]) H := hP
            have hD : va_D (cOf (jn [dcells cI ad o0 S0, rcells cI ad o1 S1])) (jn [dcells cI ad o0 Z13, rcells cI ad o1 S1]) := hD
            refine W.eq (g2 := F0 m 102 ls []) rfl ?_
            refine lv_iload hx hb dX0_rowAt_102 (lv_at hl 6 rfl) ?_
            refine lv_istore (lv' := [(6, .int v11), (0, .ref (ad o0)), (1, .ref (ad o1)), (3, .int y3), (4, .int v10), (5, .int y5), (7, .int 1), (8, .int v11)]) hx hb dX0_rowAt_104 hl (by decide) rfl (fun ls hl => ?_)
            refine lv_bipush (v := 10) hx hb dX0_rowAt_106 (by decide) ?_
            refine lv_iload_n hx hb dX0_rowAt_108 rfl (lv_at hl 3 rfl) ?_
            refine lv_imul hx hb dX0_rowAt_109 ?_
            refine lv_iload hx hb dX0_rowAt_110 (lv_at hl 0 rfl) ?_
            refine lv_iadd hx hb dX0_rowAt_112 ?_
            refine lv_istore_n (lv' := [(3, .int (((10 : Int32) * y3) + v11)), (6, .int v11), (0, .ref (ad o0)), (1, .ref (ad o1)), (4, .int v10), (5, .int y5), (7, .int 1), (8, .int v11)]) hx hb dX0_rowAt_113 rfl hl (by decide) rfl (fun ls hl => ?_)
            refine lv_iinc (v := (y5 + 1)) (lv' := [(5, .int (y5 + 1)), (3, .int (((10 : Int32) * y3) + v11)), (6, .int v11), (0, .ref (ad o0)), (1, .ref (ad o1)), (4, .int v10), (7, .int 1), (8, .int v11)]) hx hb dX0_rowAt_114 hl (k := 5) rfl rfl (by decide) rfl (fun ls hl => ?_)
            refine lv_goto (tgt := 8) hx hb dX0_rowAt_117 (by decide) ?_
            exact ih (((10 : Int32) * y3) + v11) v10 (y5 + 1) Z13 _ _ hP hD hS _ (lv_sub hl [3, 4, 1, 5, 0] rfl) hw
  have hw : (∃ M24, wl_X0_rowAt_8 S1 (fun (v22 : Int32) (Z23 : St) => (k v22 Z23)) M24 0 x2 0 S0) := hw
  refine lv_iconst (v := 0) hx hb dX0_rowAt_0 (by decide) ?_
  refine lv_istore_n (lv' := [(3, .int 0), (0, .ref (ad o0)), (1, .ref (ad o1)), (2, .int x2)]) hx hb dX0_rowAt_1 rfl hl (by decide) rfl (fun ls hl => ?_)
  refine lv_iload_n hx hb dX0_rowAt_2 rfl (lv_at hl 3 rfl) ?_
  refine lv_istore (lv' := [(4, .int x2), (3, .int 0), (0, .ref (ad o0)), (1, .ref (ad o1)), (2, .int x2)]) hx hb dX0_rowAt_3 hl (by decide) rfl (fun ls hl => ?_)
  refine lv_iconst (v := 0) hx hb dX0_rowAt_5 (by decide) ?_
  refine lv_istore (lv' := [(5, .int 0), (4, .int x2), (3, .int 0), (0, .ref (ad o0)), (1, .ref (ad o1)), (2, .int x2)]) hx hb dX0_rowAt_6 hl (by decide) rfl (fun ls hl => ?_)
  obtain ⟨N25, hw⟩ := hw
  refine L8  _ (fun v22 Z23 H locs hP hD hS ls hl hw => ?_) N25 0 x2 0 S0 _ _ hP hD hS _ (lv_sub hl [3, 4, 2, 1, 0] rfl) hw
  refine lv_iload_n hx hb dX0_rowAt_120 rfl (lv_at hl 0 rfl) ?_
  exact W.iret (v := v22) hx hb hr (fun t ht _ => ⟨⟨_, (Z23), rfl, ⟨_, rfl, hw⟩, by rw [ht]; exact hP⟩, hS.F ht⟩) hS.2.2 dX0_rowAt_121
set_option maxHeartbeats 4000000 in
set_option maxRecDepth 100000 in
theorem c_X0_namesFor (l : Launch) (D : va_G) (cI cZ : ClassId) (ad : Nat → Nat) (o0 : Nat) (S0 : St) (o1 : Nat) (S1 : St) (x2 : Int32) (k : Int32 → St → Prop) (hw : wp_X0_namesFor S0 S1 x2 k) : KW l yX0_namesFor cX0_namesFor 5 (some .int) 4 89 D cI cZ [.ref (ad o0), .ref (ad o1), .int x2] [dcells cI ad o0 S0, rcells cI ad o1 S1] (fun v (u : St) => ∃ r, v = some (.int r) ∧ k r u) (fun u : St => [dcells cI ad o0 u, rcells cI ad o1 S1]) := by
  refine Met.ofE (by decide +kernel) (Nat.le_of_ble_eq_true rfl) ?_
  intro p e s m below meth c E ls hl
  obtain ⟨hx, hb, hr, hml, hW, hown, hlocks, hP, hK, hD, hN⟩ := E
  have hl : lv_has ls 5 [(0, .ref (ad o0)), (1, .ref (ad o1)), (2, .int x2)] := hl
  have hS : va_S (cOf (jn [dcells cI ad o0 S0, rcells cI ad o1 S1])) s.heap s.heap [] := va_S.rf
  have L5 : ∀  (kx : Int32 → St → Prop), (∀ (y3 : Int32) (S0q : St) (H : Heap) (locs : List Loc), va_P D classes (jn [dcells cI ad o0 S0q, rcells cI ad o1 S1]) H → va_D (cOf (jn [dcells cI ad o0 S0, rcells cI ad o1 S1])) (jn [dcells cI ad o0 S0q, rcells cI ad o1 S1]) → va_S (cOf (jn [dcells cI ad o0 S0, rcells cI ad o1 S1])) s.heap H locs → ∀ ls : Array Slot, lv_has ls 5 [(3, .int y3)] → kx y3 S0q → W p l e { frames := 4, cells := 0, slots := 0, locals := 89 } s m ([.ref (ad o0), .ref (ad o1), .int x2] : List Value).toArray below meth c H locs 0 0 (MQ below (QW (fun v (u : St) => ∃ r, v = some (.int r) ∧ k r u) D (fun u : St => [dcells cI ad o0 u, rcells cI ad o1 S1]) [dcells cI ad o0 S0, rcells cI ad o1 S1]) ([.ref (ad o0), .ref (ad o1), .int x2] : List Value).toArray s 0 0 (cOf (jn [dcells cI ad o0 S0, rcells cI ad o1 S1]))) (F0 m 53 ls [])) → ∀ (N5 : Nat) (y3 : Int32) (y4 : Int32) (S0q : St) (H : Heap) (locs : List Loc), va_P D classes (jn [dcells cI ad o0 S0q, rcells cI ad o1 S1]) H → va_D (cOf (jn [dcells cI ad o0 S0, rcells cI ad o1 S1])) (jn [dcells cI ad o0 S0q, rcells cI ad o1 S1]) → va_S (cOf (jn [dcells cI ad o0 S0, rcells cI ad o1 S1])) s.heap H locs → ∀ ls : Array Slot, lv_has ls 5 [(0, .ref (ad o0)), (1, .ref (ad o1)), (2, .int x2), (3, .int y3), (4, .int y4)] → wl_X0_namesFor_5 S1 x2 kx N5 y3 y4 S0q → W p l e { frames := 4, cells := 0, slots := 0, locals := 89 } s m ([.ref (ad o0), .ref (ad o1), .int x2] : List Value).toArray below meth c H locs 0 0 (MQ below (QW (fun v (u : St) => ∃ r, v = some (.int r) ∧ k r u) D (fun u : St => [dcells cI ad o0 u, rcells cI ad o1 S1]) [dcells cI ad o0 S0, rcells cI ad o1 S1]) ([.ref (ad o0), .ref (ad o1), .int x2] : List Value).toArray s 0 0 (cOf (jn [dcells cI ad o0 S0, rcells cI ad o1 S1]))) (F0 m 5 ls []) := by
    intro  kx hxt N5
    induction N5 with
    | zero => intro y3 y4 S0q H locs hP hD hS ls hl hw; exact False.elim hw
    | succ N5 ih =>
      intro y3 y4 S0q H locs hP hD hS ls hl hw
      have hw : (if (S1.1 0) ≤ y4 then (kx y3 S0q) else (if (F_X3_get 6 (S1.2 11) x2) = 1 then (wp_X0_waysWith S0q y4 1 (fun (v3 : Int32) (Z4 : St) => (if v3 ≤ 0 then (wl_X0_namesFor_5 S1 x2 kx N5 y3 (y4 + 1) Z4) else (wl_X0_namesFor_5 S1 x2 kx N5 (y3 ||| ((1 : Int32) <<< (y4 &&& 31))) (y4 + 1) Z4)))) else (wp_X0_waysWith S0q y4 0 (fun (v6 : Int32) (Z7 : St) => (if v6 ≤ 0 then (wl_X0_namesFor_5 S1 x2 kx N5 y3 (y4 + 1) Z7) else (wl_X0_namesFor_5 S1 x2 kx N5 (y3 ||| ((1 : Int32) <<< (y4 &&& 31))) (y4 + 1) Z7)))))) := hw
      refine lv_iload hx hb dX0_namesFor_5 (lv_at hl 4 rfl) ?_
      refine lv_aload_n hx hb dX0_namesFor_7 rfl (lv_at hl 1 rfl) ?_
      refine va_get (D := D) (ci := 2) (v := .int (S1.1 0)) (C := RX2) (T := TX2) (N := 15) hx hb hW inW_X2 hown hK hP 3 rfl rfl 0 (by decide) (hW _ fl_X0_43) (fun _ h9 => h9) rfl dX0_namesFor_8 ?_
      refine lv_icmp_ge (tgt := 53) hx hb dX0_namesFor_11 (by decide) (fun c1 => ?_) (fun c1 => ?_)
      · have hw := Eq.mp (if_pos c1) hw
        exact hxt y3 S0q _ _ hP hD hS _ (lv_sub hl [3] rfl) hw
      · have hw := Eq.mp (if_neg c1) hw
        refine lv_aload_n hx hb dX0_namesFor_14 rfl (lv_at hl 0 rfl) ?_
        refine lv_iload hx hb dX0_namesFor_15 (lv_at hl 4 rfl) ?_
        refine lv_aload_n hx hb dX0_namesFor_17 rfl (lv_at hl 1 rfl) ?_
        refine va_get (D := D) (ci := 2) (v := .ref (ad (o1 + 5))) (C := RX2) (T := TX2) (N := 15) hx hb hW inW_X2 hown hK hP 3 rfl rfl 11 (by decide) (hW _ fl_X0_59) (fun _ h9 => h9) rfl dX0_namesFor_18 ?_
        refine lv_iload_n hx hb dX0_namesFor_21 rfl (lv_at hl 2 rfl) ?_
        refine callF (va_runV (As := [.int x2]) (rest := [.int y4, .ref (ad o0)]) ⟨hx, hb, hml, hown, hW⟩ (c_X3_get__round_11 l D cI cZ ad o1 S1 x2 _ rfl) (cwV0 hW mV_X3_get ml_X0_55 ⟨Nat.le_of_ble_eq_true rfl, Nat.le_of_ble_eq_true rfl⟩) (preV0 5 rfl rfl hK hN hP hD [1] rfl rfl) rfl rfl hl.1 rfl (lv_room (Nat.le_of_ble_eq_true rfl)) dX0_namesFor_22 ⟨Nat.le_refl _, Nat.le_refl _⟩) ?_
        refine W.eq (g2 := F0 m 25 ls [.int (F_X3_get 6 (S1.2 11) x2), .int y4, .ref (ad o0)]) rfl ?_
        refine lv_iconst (v := 1) hx hb dX0_namesFor_25 (by decide) ?_
        refine lv_icmp_ne (tgt := 33) hx hb dX0_namesFor_26 (by decide) (fun c2 => ?_) (fun c2 => ?_)
        · have hw := Eq.mp (if_neg c2) hw
          refine lv_iconst (v := 0) hx hb dX0_namesFor_33 (by decide) ?_
          refine callW (va_runV (As := [.int y4, .int 0]) (rest := []) ⟨hx, hb, hml, hown, hW⟩ (c_X0_waysWith l D cI cZ ad o0 S0q y4 0 _ hw) (cwV0 hW mV_X0_waysWith ml_X0_99 ⟨Nat.le_of_ble_eq_true rfl, Nat.le_of_ble_eq_true rfl⟩) (preV0 0 rfl rfl hK hN hP hD [0] rfl rfl) rfl rfl hl.1 rfl (lv_room (Nat.le_of_ble_eq_true rfl)) dX0_namesFor_34 ⟨Nat.le_refl _, Nat.le_refl _⟩) hP hD hS [0] rfl rfl (fun _ => rfl) (fun v9 u9 H locs hq hP hD hS => ?_)
          obtain ⟨v6, rfl, hw⟩ := hq
          obtain ⟨Z7, rfl⟩ : ∃ z, z = u9 := ⟨_, rfl⟩
          have hP : va_P D classes (jn [dcells cI ad o0 Z7, rcells cI ad o1 S1]) H := hP
          have hD : va_D (cOf (jn [dcells cI ad o0 S0, rcells cI ad o1 S1])) (jn [dcells cI ad o0 Z7, rcells cI ad o1 S1]) := hD
          refine W.eq (g2 := F0 m 37 ls [.int v6]) rfl ?_
          refine lv_if_le (tgt := 47) hx hb dX0_namesFor_37 (by decide) (fun c8 => ?_) (fun c8 => ?_)
          · have hw := Eq.mp (if_pos c8) hw
            refine lv_iinc (v := (y4 + 1)) (lv' := [(4, .int (y4 + 1)), (0, .ref (ad o0)), (1, .ref (ad o1)), (2, .int x2), (3, .int y3)]) hx hb dX0_namesFor_47 hl (k := 4) rfl rfl (by decide) rfl (fun ls hl => ?_)
            refine lv_goto (tgt := 5) hx hb dX0_namesFor_50 (by decide) ?_
            exact ih y3 (y4 + 1) Z7 _ _ hP hD hS _ (lv_sub hl [1, 2, 3, 4, 0] rfl) hw
          · have hw := Eq.mp (if_neg c8) hw
            refine lv_iload_n hx hb dX0_namesFor_40 rfl (lv_at hl 3 rfl) ?_
            refine lv_iconst (v := 1) hx hb dX0_namesFor_41 (by decide) ?_
            refine lv_iload hx hb dX0_namesFor_42 (lv_at hl 4 rfl) ?_
            refine lv_ishl hx hb dX0_namesFor_44 ?_
            refine lv_ior hx hb dX0_namesFor_45 ?_
            refine lv_istore_n (lv' := [(3, .int (y3 ||| ((1 : Int32) <<< (y4 &&& 31)))), (0, .ref (ad o0)), (1, .ref (ad o1)), (2, .int x2), (4, .int y4)]) hx hb dX0_namesFor_46 rfl hl (by decide) rfl (fun ls hl => ?_)
            refine lv_iinc (v := (y4 + 1)) (lv' := [(4, .int (y4 + 1)), (3, .int (y3 ||| ((1 : Int32) <<< (y4 &&& 31)))), (0, .ref (ad o0)), (1, .ref (ad o1)), (2, .int x2)]) hx hb dX0_namesFor_47 hl (k := 4) rfl rfl (by decide) rfl (fun ls hl => ?_)
            refine lv_goto (tgt := 5) hx hb dX0_namesFor_50 (by decide) ?_
            exact ih (y3 ||| ((1 : Int32) <<< (y4 &&& 31))) (y4 + 1) Z7 _ _ hP hD hS _ (lv_sub hl [2, 3, 4, 1, 0] rfl) hw
        · have hw := Eq.mp (if_pos c2) hw
          refine lv_iconst (v := 1) hx hb dX0_namesFor_29 (by decide) ?_
          refine lv_goto (tgt := 34) hx hb dX0_namesFor_30 (by decide) ?_
          refine callW (va_runV (As := [.int y4, .int 1]) (rest := []) ⟨hx, hb, hml, hown, hW⟩ (c_X0_waysWith l D cI cZ ad o0 S0q y4 1 _ hw) (cwV0 hW mV_X0_waysWith ml_X0_99 ⟨Nat.le_of_ble_eq_true rfl, Nat.le_of_ble_eq_true rfl⟩) (preV0 0 rfl rfl hK hN hP hD [0] rfl rfl) rfl rfl hl.1 rfl (lv_room (Nat.le_of_ble_eq_true rfl)) dX0_namesFor_34 ⟨Nat.le_refl _, Nat.le_refl _⟩) hP hD hS [0] rfl rfl (fun _ => rfl) (fun v9 u9 H locs hq hP hD hS => ?_)
          obtain ⟨v3, rfl, hw⟩ := hq
          obtain ⟨Z4, rfl⟩ : ∃ z, z = u9 := ⟨_, rfl⟩
          have hP : va_P D classes (jn [dcells cI ad o0 Z4, rcells cI ad o1 S1]) H := hP
          have hD : va_D (cOf (jn [dcells cI ad o0 S0, rcells cI ad o1 S1])) (jn [dcells cI ad o0 Z4, rcells cI ad o1 S1]) := hD
          refine W.eq (g2 := F0 m 37 ls [.int v3]) rfl ?_
          refine lv_if_le (tgt := 47) hx hb dX0_namesFor_37 (by decide) (fun c5 => ?_) (fun c5 => ?_)
          · have hw := Eq.mp (if_pos c5) hw
            refine lv_iinc (v := (y4 + 1)) (lv' := [(4, .int (y4 + 1)), (0, .ref (ad o0)), (1, .ref (ad o1)), (2, .int x2), (3, .int y3)]) hx hb dX0_namesFor_47 hl (k := 4) rfl rfl (by decide) rfl (fun ls hl => ?_)
            refine lv_goto (tgt := 5) hx hb dX0_namesFor_50 (by decide) ?_
            exact ih y3 (y4 + 1) Z4 _ _ hP hD hS _ (lv_sub hl [1, 2, 3, 4, 0] rfl) hw
          · have hw := Eq.mp (if_neg c5) hw
            refine lv_iload_n hx hb dX0_namesFor_40 rfl (lv_at hl 3 rfl) ?_
            refine lv_iconst (v := 1) hx hb dX0_namesFor_41 (by decide) ?_
            refine lv_iload hx hb dX0_namesFor_42 (lv_at hl 4 rfl) ?_
            refine lv_ishl hx hb dX0_namesFor_44 ?_
            refine lv_ior hx hb dX0_namesFor_45 ?_
            refine lv_istore_n (lv' := [(3, .int (y3 ||| ((1 : Int32) <<< (y4 &&& 31)))), (0, .ref (ad o0)), (1, .ref (ad o1)), (2, .int x2), (4, .int y4)]) hx hb dX0_namesFor_46 rfl hl (by decide) rfl (fun ls hl => ?_)
            refine lv_iinc (v := (y4 + 1)) (lv' := [(4, .int (y4 + 1)), (3, .int (y3 ||| ((1 : Int32) <<< (y4 &&& 31)))), (0, .ref (ad o0)), (1, .ref (ad o1)), (2, .int x2)]) hx hb dX0_namesFor_47 hl (k := 4) rfl rfl (by decide) rfl (fun ls hl => ?_)
            refine lv_goto (tgt := 5) hx hb dX0_namesFor_50 (by decide) ?_
            exact ih (y3 ||| ((1 : Int32) <<< (y4 &&& 31))) (y4 + 1) Z4 _ _ hP hD hS _ (lv_sub hl [2, 3, 4, 1, 0] rfl) hw
  have hw : (∃ M11, wl_X0_namesFor_5 S1 x2 (fun (v9 : Int32) (Z10 : St) => (k v9 Z10)) M11 0 0 S0) := hw
  refine lv_iconst (v := 0) hx hb dX0_namesFor_0 (by decide) ?_
  refine lv_istore_n (lv' := [(3, .int 0), (0, .ref (ad o0)), (1, .ref (ad o1)), (2, .int x2)]) hx hb dX0_namesFor_1 rfl hl (by decide) rfl (fun ls hl => ?_)
  refine lv_iconst (v := 0) hx hb dX0_namesFor_2 (by decide) ?_
  refine lv_istore (lv' := [(4, .int 0), (3, .int 0), (0, .ref (ad o0)), (1, .ref (ad o1)), (2, .int x2)]) hx hb dX0_namesFor_3 hl (by decide) rfl (fun ls hl => ?_)
  obtain ⟨N12, hw⟩ := hw
  refine L5  _ (fun v9 Z10 H locs hP hD hS ls hl hw => ?_) N12 0 0 S0 _ _ hP hD hS _ (lv_sub hl [2, 3, 4, 1, 0] rfl) hw
  refine lv_iload_n hx hb dX0_namesFor_53 rfl (lv_at hl 0 rfl) ?_
  exact W.iret (v := v9) hx hb hr (fun t ht _ => ⟨⟨_, (Z10), rfl, ⟨_, rfl, hw⟩, by rw [ht]; exact hP⟩, hS.F ht⟩) hS.2.2 dX0_namesFor_54
set_option maxHeartbeats 4000000 in
set_option maxRecDepth 100000 in
theorem c_X0_mostLeftBy (l : Launch) (D : va_G) (cI cZ : ClassId) (ad : Nat → Nat) (o0 : Nat) (S0 : St) (x1 : Int32) (k : Int32 → Prop) (hw : wp_X0_mostLeftBy S0 x1 k) : KR l yX0_mostLeftBy cX0_mostLeftBy 4 (some .int) 3 66 D cI cZ [.ref (ad o0), .int x1] [dcells cI ad o0 S0] (fun v => ∃ r, v = some (.int r) ∧ k r) := by
  refine Met.ofE (by decide +kernel) (Nat.le_of_ble_eq_true rfl) ?_
  intro p e s m below meth c E ls hl
  obtain ⟨hx, hb, hr, hml, hW, hown, hlocks, hP, hK, hD, hN⟩ := E
  have hl : lv_has ls 4 [(0, .ref (ad o0)), (1, .int x1)] := hl
  have hw : (wp_X0_ways S0 (fun (v1 : Int32) => (if (F_X3_get 6 (S0.2 0) x1) = 0 then (if (S0.1 6) = 0 then (wp_X0_waysIf S0 ((S0.1 4) + 1) (S0.1 5) (fun (v4 : Int32) => (k (jmax v4 (v1 - v4))))) else (k v1)) else (k v1)))) := hw
  refine lv_aload_n hx hb dX0_mostLeftBy_0 rfl (lv_at hl 0 rfl) ?_
  refine callR (va_runV (As := []) (rest := []) ⟨hx, hb, hml, hown, hW⟩ (c_X0_ways l D cI cZ ad o0 S0 _ hw) (cwV0 hW mV_X0_ways ml_X0_110 ⟨Nat.le_of_ble_eq_true rfl, Nat.le_of_ble_eq_true rfl⟩) (preV0 0 rfl rfl hK hN hP hD [0] rfl rfl) rfl rfl hl.1 rfl (lv_room (Nat.le_of_ble_eq_true rfl)) dX0_mostLeftBy_1 ⟨Nat.le_refl _, Nat.le_refl _⟩) (fun v9 hq => ?_)
  obtain ⟨v1, rfl, hw⟩ := hq
  refine W.eq (g2 := F0 m 4 ls [.int v1]) rfl ?_
  refine lv_istore_n (lv' := [(2, .int v1), (0, .ref (ad o0)), (1, .int x1)]) hx hb dX0_mostLeftBy_4 rfl hl (by decide) rfl (fun ls hl => ?_)
  refine lv_aload_n hx hb dX0_mostLeftBy_5 rfl (lv_at hl 1 rfl) ?_
  refine va_get (D := D) (ci := 0) (v := .ref (ad (o0 + 1))) (C := RX0) (T := TX0) (N := 7) hx hb hW inW_X0 hown hK hP 0 rfl rfl 0 (by decide) (hW _ fl_X0_14) (fun _ h9 => h9) rfl dX0_mostLeftBy_6 ?_
  refine lv_iload_n hx hb dX0_mostLeftBy_9 rfl (lv_at hl 2 rfl) ?_
  refine callF (va_runV (As := [.int x1]) (rest := []) ⟨hx, hb, hml, hown, hW⟩ (c_X3_get__deal_0 l D cI cZ ad o0 S0 x1 _ rfl) (cwV0 hW mV_X3_get ml_X0_55 ⟨Nat.le_of_ble_eq_true rfl, Nat.le_of_ble_eq_true rfl⟩) (preV0 1 rfl rfl hK hN hP hD [0] rfl rfl) rfl rfl hl.1 rfl (lv_room (Nat.le_of_ble_eq_true rfl)) dX0_mostLeftBy_10 ⟨Nat.le_refl _, Nat.le_refl _⟩) ?_
  refine W.eq (g2 := F0 m 13 ls [.int (F_X3_get 6 (S0.2 0) x1)]) rfl ?_
  refine lv_if_ne (tgt := 23) hx hb dX0_mostLeftBy_13 (by decide) (fun c2 => ?_) (fun c2 => ?_)
  · have hw := Eq.mp (if_neg c2) hw
    refine lv_iload_n hx hb dX0_mostLeftBy_23 rfl (lv_at hl 0 rfl) ?_
    exact W.iret (v := v1) hx hb hr (fun t ht _ => ⟨⟨_, rfl, ⟨_, rfl, hw⟩⟩, ht⟩) (fun _ h => by cases h) dX0_mostLeftBy_24
  · have hw := Eq.mp (if_pos c2) hw
    refine lv_aload_n hx hb dX0_mostLeftBy_16 rfl (lv_at hl 1 rfl) ?_
    refine va_get (D := D) (ci := 0) (v := .int (S0.1 6)) (C := RX0) (T := TX0) (N := 7) hx hb hW inW_X0 hown hK hP 0 rfl rfl 6 (by decide) (hW _ fl_X0_36) (fun _ h9 => h9) rfl dX0_mostLeftBy_17 ?_
    refine lv_if_eq (tgt := 25) hx hb dX0_mostLeftBy_20 (by decide) (fun c3 => ?_) (fun c3 => ?_)
    · have hw := Eq.mp (if_pos c3) hw
      refine lv_aload_n hx hb dX0_mostLeftBy_25 rfl (lv_at hl 1 rfl) ?_
      refine lv_aload_n hx hb dX0_mostLeftBy_26 rfl (lv_at hl 1 rfl) ?_
      refine va_get (D := D) (ci := 0) (v := .int (S0.1 4)) (C := RX0) (T := TX0) (N := 7) hx hb hW inW_X0 hown hK hP 0 rfl rfl 4 (by decide) (hW _ fl_X0_30) (fun _ h9 => h9) rfl dX0_mostLeftBy_27 ?_
      refine lv_iconst (v := 1) hx hb dX0_mostLeftBy_30 (by decide) ?_
      refine lv_iadd hx hb dX0_mostLeftBy_31 ?_
      refine lv_aload_n hx hb dX0_mostLeftBy_32 rfl (lv_at hl 1 rfl) ?_
      refine va_get (D := D) (ci := 0) (v := .int (S0.1 5)) (C := RX0) (T := TX0) (N := 7) hx hb hW inW_X0 hown hK hP 0 rfl rfl 5 (by decide) (hW _ fl_X0_33) (fun _ h9 => h9) rfl dX0_mostLeftBy_33 ?_
      refine callR (va_runV (As := [.int ((S0.1 4) + 1), .int (S0.1 5)]) (rest := []) ⟨hx, hb, hml, hown, hW⟩ (c_X0_waysIf l D cI cZ ad o0 S0 ((S0.1 4) + 1) (S0.1 5) _ hw) (cwV0 hW mV_X0_waysIf ml_X0_92 ⟨Nat.le_of_ble_eq_true rfl, Nat.le_of_ble_eq_true rfl⟩) (preV0 0 rfl rfl hK hN hP hD [0] rfl rfl) rfl rfl hl.1 rfl (lv_room (Nat.le_of_ble_eq_true rfl)) dX0_mostLeftBy_36 ⟨Nat.le_refl _, Nat.le_refl _⟩) (fun v9 hq => ?_)
      obtain ⟨v4, rfl, hw⟩ := hq
      refine W.eq (g2 := F0 m 39 ls [.int v4]) rfl ?_
      refine lv_istore_n (lv' := [(3, .int v4), (2, .int v1), (0, .ref (ad o0)), (1, .int x1)]) hx hb dX0_mostLeftBy_39 rfl hl (by decide) rfl (fun ls hl => ?_)
      refine lv_iload_n hx hb dX0_mostLeftBy_40 rfl (lv_at hl 0 rfl) ?_
      refine lv_iload_n hx hb dX0_mostLeftBy_41 rfl (lv_at hl 1 rfl) ?_
      refine lv_iload_n hx hb dX0_mostLeftBy_42 rfl (lv_at hl 0 rfl) ?_
      refine lv_isub hx hb dX0_mostLeftBy_43 ?_
      refine va_mmax hx hb (hml.trans hl.1.symm) hown (hW _ ml_X0_117) (hW _ st_J9_max_7cf53) (hW _ ini_J9) (hW _ cd_J9_max_7cf53) (Nat.le_of_ble_eq_true rfl) (Nat.le_of_ble_eq_true rfl) (Nat.le_refl _) (Nat.le_refl _) dX0_mostLeftBy_44 ?_
      refine W.eq (g2 := F0 m 47 ls [.int (jmax v4 (v1 - v4))]) rfl ?_
      exact W.iret (v := (jmax v4 (v1 - v4))) hx hb hr (fun t ht _ => ⟨⟨_, rfl, ⟨_, rfl, hw⟩⟩, ht⟩) (fun _ h => by cases h) dX0_mostLeftBy_47
    · have hw := Eq.mp (if_neg c3) hw
      refine lv_iload_n hx hb dX0_mostLeftBy_23 rfl (lv_at hl 0 rfl) ?_
      exact W.iret (v := v1) hx hb hr (fun t ht _ => ⟨⟨_, rfl, ⟨_, rfl, hw⟩⟩, ht⟩) (fun _ h => by cases h) dX0_mostLeftBy_24
set_option maxHeartbeats 4000000 in
set_option maxRecDepth 100000 in
theorem c_X0_nameToHear (l : Launch) (D : va_G) (cI cZ : ClassId) (ad : Nat → Nat) (o0 : Nat) (S0 : St) (x1 : Int32) (k : Int32 → Prop) (hw : wp_X0_nameToHear S0 x1 k) : KR l yX0_nameToHear cX0_nameToHear 5 (some .int) 4 89 D cI cZ [.ref (ad o0), .int x1] [dcells cI ad o0 S0] (fun v => ∃ r, v = some (.int r) ∧ k r) := by
  refine Met.ofE (by decide +kernel) (Nat.le_of_ble_eq_true rfl) ?_
  intro p e s m below meth c E ls hl
  obtain ⟨hx, hb, hr, hml, hW, hown, hlocks, hP, hK, hD, hN⟩ := E
  have hl : lv_has ls 5 [(0, .ref (ad o0)), (1, .int x1)] := hl
  have L5 : ∀  (kx : Int32 → Prop), (∀ (y2 : Int32), ∀ ls : Array Slot, lv_has ls 5 [(2, .int y2)] → kx y2 → W p l e { frames := 4, cells := 0, slots := 0, locals := 89 } s m ([.ref (ad o0), .int x1] : List Value).toArray below meth c s.heap [] 0 0 (MQ below (QR (fun v => ∃ r, v = some (.int r) ∧ k r)) ([.ref (ad o0), .int x1] : List Value).toArray s 0 0 (fun _ => False)) (F0 m 64 ls [])) → ∀ (N5 : Nat) (y2 : Int32) (y3 : Int32), ∀ ls : Array Slot, lv_has ls 5 [(0, .ref (ad o0)), (1, .int x1), (2, .int y2), (3, .int y3)] → wl_X0_nameToHear_5 S0 x1 kx N5 y2 y3 → W p l e { frames := 4, cells := 0, slots := 0, locals := 89 } s m ([.ref (ad o0), .int x1] : List Value).toArray below meth c s.heap [] 0 0 (MQ below (QR (fun v => ∃ r, v = some (.int r) ∧ k r)) ([.ref (ad o0), .int x1] : List Value).toArray s 0 0 (fun _ => False)) (F0 m 5 ls []) := by
    intro  kx hxt N5
    induction N5 with
    | zero => intro y2 y3 ls hl hw; exact False.elim hw
    | succ N5 ih =>
      intro y2 y3 ls hl hw
      have hw : (if x1 ≤ y3 then (kx y2) else (if y2 = (-6) then (wp_X0_ways S0 (fun (v3 : Int32) => (if v3 ≤ 0 then (wl_X0_nameToHear_5 S0 x1 kx N5 y2 (y3 + 1)) else (if (F_X0_isOpen S0 y3) = 0 then (wl_X0_nameToHear_5 S0 x1 kx N5 y2 (y3 + 1)) else (wl_X0_nameToHear_5 S0 x1 kx N5 y3 (y3 + 1)))))) else (wp_X0_mostLeftBy S0 y3 (fun (v6 : Int32) => (wp_X0_mostLeftBy S0 y2 (fun (v7 : Int32) => (if v7 ≤ v6 then (wp_X0_ways S0 (fun (v9 : Int32) => (if v9 ≤ 0 then (wl_X0_nameToHear_5 S0 x1 kx N5 y2 (y3 + 1)) else (if (F_X0_isOpen S0 y3) = 0 then (wl_X0_nameToHear_5 S0 x1 kx N5 y2 (y3 + 1)) else (wl_X0_nameToHear_5 S0 x1 kx N5 y2 (y3 + 1)))))) else (wp_X0_ways S0 (fun (v12 : Int32) => (if v12 ≤ 0 then (wl_X0_nameToHear_5 S0 x1 kx N5 y2 (y3 + 1)) else (if (F_X0_isOpen S0 y3) = 0 then (wl_X0_nameToHear_5 S0 x1 kx N5 y2 (y3 + 1)) else (wl_X0_nameToHear_5 S0 x1 kx N5 y3 (y3 + 1))))))))))))) := hw
      refine lv_iload_n hx hb dX0_nameToHear_5 rfl (lv_at hl 3 rfl) ?_
      refine lv_iload_n hx hb dX0_nameToHear_6 rfl (lv_at hl 1 rfl) ?_
      refine lv_icmp_ge (tgt := 64) hx hb dX0_nameToHear_7 (by decide) (fun c1 => ?_) (fun c1 => ?_)
      · have hw := Eq.mp (if_pos c1) hw
        exact hxt y2 _ (lv_sub hl [2] rfl) hw
      · have hw := Eq.mp (if_neg c1) hw
        refine lv_iload_n hx hb dX0_nameToHear_10 rfl (lv_at hl 2 rfl) ?_
        refine lv_bipush (v := (-6)) hx hb dX0_nameToHear_11 (by decide) ?_
        refine lv_icmp_eq (tgt := 29) hx hb dX0_nameToHear_13 (by decide) (fun c2 => ?_) (fun c2 => ?_)
        · have hw := Eq.mp (if_pos c2) hw
          refine lv_iconst (v := 1) hx hb dX0_nameToHear_29 (by decide) ?_
          refine lv_goto (tgt := 34) hx hb dX0_nameToHear_30 (by decide) ?_
          refine lv_istore (lv' := [(4, .int 1), (0, .ref (ad o0)), (1, .int x1), (2, .int y2), (3, .int y3)]) hx hb dX0_nameToHear_34 hl (by decide) rfl (fun ls hl => ?_)
          refine lv_aload_n hx hb dX0_nameToHear_36 rfl (lv_at hl 1 rfl) ?_
          refine callR (va_runV (As := []) (rest := []) ⟨hx, hb, hml, hown, hW⟩ (c_X0_ways l D cI cZ ad o0 S0 _ hw) (cwV0 hW mV_X0_ways ml_X0_110 ⟨Nat.le_of_ble_eq_true rfl, Nat.le_of_ble_eq_true rfl⟩) (preV0 0 rfl rfl hK hN hP hD [0] rfl rfl) rfl rfl hl.1 rfl (lv_room (Nat.le_of_ble_eq_true rfl)) dX0_nameToHear_37 ⟨Nat.le_refl _, Nat.le_refl _⟩) (fun v9 hq => ?_)
          obtain ⟨v3, rfl, hw⟩ := hq
          refine W.eq (g2 := F0 m 40 ls [.int v3]) rfl ?_
          refine lv_if_le (tgt := 58) hx hb dX0_nameToHear_40 (by decide) (fun c4 => ?_) (fun c4 => ?_)
          · have hw := Eq.mp (if_pos c4) hw
            refine lv_iinc (v := (y3 + 1)) (lv' := [(3, .int (y3 + 1)), (4, .int 1), (0, .ref (ad o0)), (1, .int x1), (2, .int y2)]) hx hb dX0_nameToHear_58 hl (k := 4) rfl rfl (by decide) rfl (fun ls hl => ?_)
            refine lv_goto (tgt := 5) hx hb dX0_nameToHear_61 (by decide) ?_
            exact ih y2 (y3 + 1) _ (lv_sub hl [2, 3, 4, 0] rfl) hw
          · have hw := Eq.mp (if_neg c4) hw
            refine lv_aload_n hx hb dX0_nameToHear_43 rfl (lv_at hl 1 rfl) ?_
            refine lv_iload_n hx hb dX0_nameToHear_44 rfl (lv_at hl 4 rfl) ?_
            refine callF (va_runV (As := [.int y3]) (rest := []) ⟨hx, hb, hml, hown, hW⟩ (c_X0_isOpen l D cI cZ ad o0 S0 y3 _ rfl) (cwV0 hW mV_X0_isOpen ml_X0_78 ⟨Nat.le_of_ble_eq_true rfl, Nat.le_of_ble_eq_true rfl⟩) (preV0 0 rfl rfl hK hN hP hD [0] rfl rfl) rfl rfl hl.1 rfl (lv_room (Nat.le_of_ble_eq_true rfl)) dX0_nameToHear_45 ⟨Nat.le_refl _, Nat.le_refl _⟩) ?_
            refine W.eq (g2 := F0 m 48 ls [.int (F_X0_isOpen S0 y3)]) rfl ?_
            refine lv_if_eq (tgt := 58) hx hb dX0_nameToHear_48 (by decide) (fun c5 => ?_) (fun c5 => ?_)
            · have hw := Eq.mp (if_pos c5) hw
              refine lv_iinc (v := (y3 + 1)) (lv' := [(3, .int (y3 + 1)), (4, .int 1), (0, .ref (ad o0)), (1, .int x1), (2, .int y2)]) hx hb dX0_nameToHear_58 hl (k := 4) rfl rfl (by decide) rfl (fun ls hl => ?_)
              refine lv_goto (tgt := 5) hx hb dX0_nameToHear_61 (by decide) ?_
              exact ih y2 (y3 + 1) _ (lv_sub hl [2, 3, 4, 0] rfl) hw
            · have hw := Eq.mp (if_neg c5) hw
              refine lv_iload hx hb dX0_nameToHear_51 (lv_at hl 0 rfl) ?_
              refine lv_if_eq (tgt := 58) hx hb dX0_nameToHear_53 (by decide) (fun c9 => absurd c9 (by decide)) (fun _ => ?_)
              refine lv_iload_n hx hb dX0_nameToHear_56 rfl (lv_at hl 4 rfl) ?_
              refine lv_istore_n (lv' := [(2, .int y3), (4, .int 1), (0, .ref (ad o0)), (1, .int x1), (3, .int y3)]) hx hb dX0_nameToHear_57 rfl hl (by decide) rfl (fun ls hl => ?_)
              refine lv_iinc (v := (y3 + 1)) (lv' := [(3, .int (y3 + 1)), (2, .int y3), (4, .int 1), (0, .ref (ad o0)), (1, .int x1)]) hx hb dX0_nameToHear_58 hl (k := 4) rfl rfl (by decide) rfl (fun ls hl => ?_)
              refine lv_goto (tgt := 5) hx hb dX0_nameToHear_61 (by decide) ?_
              exact ih y3 (y3 + 1) _ (lv_sub hl [3, 4, 1, 0] rfl) hw
        · have hw := Eq.mp (if_neg c2) hw
          refine lv_aload_n hx hb dX0_nameToHear_16 rfl (lv_at hl 0 rfl) ?_
          refine lv_iload_n hx hb dX0_nameToHear_17 rfl (lv_at hl 3 rfl) ?_
          refine callR (va_runV (As := [.int y3]) (rest := []) ⟨hx, hb, hml, hown, hW⟩ (c_X0_mostLeftBy l D cI cZ ad o0 S0 y3 _ hw) (cwV0 hW mV_X0_mostLeftBy ml_X0_114 ⟨Nat.le_of_ble_eq_true rfl, Nat.le_of_ble_eq_true rfl⟩) (preV0 0 rfl rfl hK hN hP hD [0] rfl rfl) rfl rfl hl.1 rfl (lv_room (Nat.le_of_ble_eq_true rfl)) dX0_nameToHear_18 ⟨Nat.le_refl _, Nat.le_refl _⟩) (fun v9 hq => ?_)
          obtain ⟨v6, rfl, hw⟩ := hq
          refine W.eq (g2 := F0 m 21 ls [.int v6]) rfl ?_
          refine lv_aload_n hx hb dX0_nameToHear_21 rfl (lv_at hl 0 rfl) ?_
          refine lv_iload_n hx hb dX0_nameToHear_22 rfl (lv_at hl 2 rfl) ?_
          refine callR (va_runV (As := [.int y2]) (rest := [.int v6]) ⟨hx, hb, hml, hown, hW⟩ (c_X0_mostLeftBy l D cI cZ ad o0 S0 y2 _ hw) (cwV0 hW mV_X0_mostLeftBy ml_X0_114 ⟨Nat.le_of_ble_eq_true rfl, Nat.le_of_ble_eq_true rfl⟩) (preV0 0 rfl rfl hK hN hP hD [0] rfl rfl) rfl rfl hl.1 rfl (lv_room (Nat.le_of_ble_eq_true rfl)) dX0_nameToHear_23 ⟨Nat.le_refl _, Nat.le_refl _⟩) (fun v9 hq => ?_)
          obtain ⟨v7, rfl, hw⟩ := hq
          refine W.eq (g2 := F0 m 26 ls [.int v7, .int v6]) rfl ?_
          refine lv_icmp_ge (tgt := 33) hx hb dX0_nameToHear_26 (by decide) (fun c8 => ?_) (fun c8 => ?_)
          · have hw := Eq.mp (if_pos c8) hw
            refine lv_iconst (v := 0) hx hb dX0_nameToHear_33 (by decide) ?_
            refine lv_istore (lv' := [(4, .int 0), (0, .ref (ad o0)), (1, .int x1), (2, .int y2), (3, .int y3)]) hx hb dX0_nameToHear_34 hl (by decide) rfl (fun ls hl => ?_)
            refine lv_aload_n hx hb dX0_nameToHear_36 rfl (lv_at hl 1 rfl) ?_
            refine callR (va_runV (As := []) (rest := []) ⟨hx, hb, hml, hown, hW⟩ (c_X0_ways l D cI cZ ad o0 S0 _ hw) (cwV0 hW mV_X0_ways ml_X0_110 ⟨Nat.le_of_ble_eq_true rfl, Nat.le_of_ble_eq_true rfl⟩) (preV0 0 rfl rfl hK hN hP hD [0] rfl rfl) rfl rfl hl.1 rfl (lv_room (Nat.le_of_ble_eq_true rfl)) dX0_nameToHear_37 ⟨Nat.le_refl _, Nat.le_refl _⟩) (fun v9 hq => ?_)
            obtain ⟨v9, rfl, hw⟩ := hq
            refine W.eq (g2 := F0 m 40 ls [.int v9]) rfl ?_
            refine lv_if_le (tgt := 58) hx hb dX0_nameToHear_40 (by decide) (fun c10 => ?_) (fun c10 => ?_)
            · have hw := Eq.mp (if_pos c10) hw
              refine lv_iinc (v := (y3 + 1)) (lv' := [(3, .int (y3 + 1)), (4, .int 0), (0, .ref (ad o0)), (1, .int x1), (2, .int y2)]) hx hb dX0_nameToHear_58 hl (k := 4) rfl rfl (by decide) rfl (fun ls hl => ?_)
              refine lv_goto (tgt := 5) hx hb dX0_nameToHear_61 (by decide) ?_
              exact ih y2 (y3 + 1) _ (lv_sub hl [2, 3, 4, 0] rfl) hw
            · have hw := Eq.mp (if_neg c10) hw
              refine lv_aload_n hx hb dX0_nameToHear_43 rfl (lv_at hl 1 rfl) ?_
              refine lv_iload_n hx hb dX0_nameToHear_44 rfl (lv_at hl 4 rfl) ?_
              refine callF (va_runV (As := [.int y3]) (rest := []) ⟨hx, hb, hml, hown, hW⟩ (c_X0_isOpen l D cI cZ ad o0 S0 y3 _ rfl) (cwV0 hW mV_X0_isOpen ml_X0_78 ⟨Nat.le_of_ble_eq_true rfl, Nat.le_of_ble_eq_true rfl⟩) (preV0 0 rfl rfl hK hN hP hD [0] rfl rfl) rfl rfl hl.1 rfl (lv_room (Nat.le_of_ble_eq_true rfl)) dX0_nameToHear_45 ⟨Nat.le_refl _, Nat.le_refl _⟩) ?_
              refine W.eq (g2 := F0 m 48 ls [.int (F_X0_isOpen S0 y3)]) rfl ?_
              refine lv_if_eq (tgt := 58) hx hb dX0_nameToHear_48 (by decide) (fun c11 => ?_) (fun c11 => ?_)
              · have hw := Eq.mp (if_pos c11) hw
                refine lv_iinc (v := (y3 + 1)) (lv' := [(3, .int (y3 + 1)), (4, .int 0), (0, .ref (ad o0)), (1, .int x1), (2, .int y2)]) hx hb dX0_nameToHear_58 hl (k := 4) rfl rfl (by decide) rfl (fun ls hl => ?_)
                refine lv_goto (tgt := 5) hx hb dX0_nameToHear_61 (by decide) ?_
                exact ih y2 (y3 + 1) _ (lv_sub hl [2, 3, 4, 0] rfl) hw
              · have hw := Eq.mp (if_neg c11) hw
                refine lv_iload hx hb dX0_nameToHear_51 (lv_at hl 0 rfl) ?_
                refine lv_if_eq (tgt := 58) hx hb dX0_nameToHear_53 (by decide) (fun _ => ?_) (fun c9 => absurd (by decide) c9)
                refine lv_iinc (v := (y3 + 1)) (lv' := [(3, .int (y3 + 1)), (4, .int 0), (0, .ref (ad o0)), (1, .int x1), (2, .int y2)]) hx hb dX0_nameToHear_58 hl (k := 4) rfl rfl (by decide) rfl (fun ls hl => ?_)
                refine lv_goto (tgt := 5) hx hb dX0_nameToHear_61 (by decide) ?_
                exact ih y2 (y3 + 1) _ (lv_sub hl [2, 3, 4, 0] rfl) hw
          · have hw := Eq.mp (if_neg c8) hw
            refine lv_iconst (v := 1) hx hb dX0_nameToHear_29 (by decide) ?_
            refine lv_goto (tgt := 34) hx hb dX0_nameToHear_30 (by decide) ?_
            refine lv_istore (lv' := [(4, .int 1), (0, .ref (ad o0)), (1, .int x1), (2, .int y2), (3, .int y3)]) hx hb dX0_nameToHear_34 hl (by decide) rfl (fun ls hl => ?_)
            refine lv_aload_n hx hb dX0_nameToHear_36 rfl (lv_at hl 1 rfl) ?_
            refine callR (va_runV (As := []) (rest := []) ⟨hx, hb, hml, hown, hW⟩ (c_X0_ways l D cI cZ ad o0 S0 _ hw) (cwV0 hW mV_X0_ways ml_X0_110 ⟨Nat.le_of_ble_eq_true rfl, Nat.le_of_ble_eq_true rfl⟩) (preV0 0 rfl rfl hK hN hP hD [0] rfl rfl) rfl rfl hl.1 rfl (lv_room (Nat.le_of_ble_eq_true rfl)) dX0_nameToHear_37 ⟨Nat.le_refl _, Nat.le_refl _⟩) (fun v9 hq => ?_)
            obtain ⟨v12, rfl, hw⟩ := hq
            refine W.eq (g2 := F0 m 40 ls [.int v12]) rfl ?_
            refine lv_if_le (tgt := 58) hx hb dX0_nameToHear_40 (by decide) (fun c13 => ?_) (fun c13 => ?_)
            · have hw := Eq.mp (if_pos c13) hw
              refine lv_iinc (v := (y3 + 1)) (lv' := [(3, .int (y3 + 1)), (4, .int 1), (0, .ref (ad o0)), (1, .int x1), (2, .int y2)]) hx hb dX0_nameToHear_58 hl (k := 4) rfl rfl (by decide) rfl (fun ls hl => ?_)
              refine lv_goto (tgt := 5) hx hb dX0_nameToHear_61 (by decide) ?_
              exact ih y2 (y3 + 1) _ (lv_sub hl [2, 3, 4, 0] rfl) hw
            · have hw := Eq.mp (if_neg c13) hw
              refine lv_aload_n hx hb dX0_nameToHear_43 rfl (lv_at hl 1 rfl) ?_
              refine lv_iload_n hx hb dX0_nameToHear_44 rfl (lv_at hl 4 rfl) ?_
              refine callF (va_runV (As := [.int y3]) (rest := []) ⟨hx, hb, hml, hown, hW⟩ (c_X0_isOpen l D cI cZ ad o0 S0 y3 _ rfl) (cwV0 hW mV_X0_isOpen ml_X0_78 ⟨Nat.le_of_ble_eq_true rfl, Nat.le_of_ble_eq_true rfl⟩) (preV0 0 rfl rfl hK hN hP hD [0] rfl rfl) rfl rfl hl.1 rfl (lv_room (Nat.le_of_ble_eq_true rfl)) dX0_nameToHear_45 ⟨Nat.le_refl _, Nat.le_refl _⟩) ?_
              refine W.eq (g2 := F0 m 48 ls [.int (F_X0_isOpen S0 y3)]) rfl ?_
              refine lv_if_eq (tgt := 58) hx hb dX0_nameToHear_48 (by decide) (fun c14 => ?_) (fun c14 => ?_)
              · have hw := Eq.mp (if_pos c14) hw
                refine lv_iinc (v := (y3 + 1)) (lv' := [(3, .int (y3 + 1)), (4, .int 1), (0, .ref (ad o0)), (1, .int x1), (2, .int y2)]) hx hb dX0_nameToHear_58 hl (k := 4) rfl rfl (by decide) rfl (fun ls hl => ?_)
                refine lv_goto (tgt := 5) hx hb dX0_nameToHear_61 (by decide) ?_
                exact ih y2 (y3 + 1) _ (lv_sub hl [2, 3, 4, 0] rfl) hw
              · have hw := Eq.mp (if_neg c14) hw
                refine lv_iload hx hb dX0_nameToHear_51 (lv_at hl 0 rfl) ?_
                refine lv_if_eq (tgt := 58) hx hb dX0_nameToHear_53 (by decide) (fun c9 => absurd c9 (by decide)) (fun _ => ?_)
                refine lv_iload_n hx hb dX0_nameToHear_56 rfl (lv_at hl 4 rfl) ?_
                refine lv_istore_n (lv' := [(2, .int y3), (4, .int 1), (0, .ref (ad o0)), (1, .int x1), (3, .int y3)]) hx hb dX0_nameToHear_57 rfl hl (by decide) rfl (fun ls hl => ?_)
                refine lv_iinc (v := (y3 + 1)) (lv' := [(3, .int (y3 + 1)), (2, .int y3), (4, .int 1), (0, .ref (ad o0)), (1, .int x1)]) hx hb dX0_nameToHear_58 hl (k := 4) rfl rfl (by decide) rfl (fun ls hl => ?_)
                refine lv_goto (tgt := 5) hx hb dX0_nameToHear_61 (by decide) ?_
                exact ih y3 (y3 + 1) _ (lv_sub hl [3, 4, 1, 0] rfl) hw
  have hw : (∃ M16, wl_X0_nameToHear_5 S0 x1 (fun (v15 : Int32) => (k v15)) M16 (-6) 0) := hw
  refine lv_bipush (v := (-6)) hx hb dX0_nameToHear_0 (by decide) ?_
  refine lv_istore_n (lv' := [(2, .int (-6)), (0, .ref (ad o0)), (1, .int x1)]) hx hb dX0_nameToHear_2 rfl hl (by decide) rfl (fun ls hl => ?_)
  refine lv_iconst (v := 0) hx hb dX0_nameToHear_3 (by decide) ?_
  refine lv_istore_n (lv' := [(3, .int 0), (2, .int (-6)), (0, .ref (ad o0)), (1, .int x1)]) hx hb dX0_nameToHear_4 rfl hl (by decide) rfl (fun ls hl => ?_)
  obtain ⟨N17, hw⟩ := hw
  refine L5  _ (fun v15 ls hl hw => ?_) N17 (-6) 0 _ (lv_sub hl [2, 3, 1, 0] rfl) hw
  refine lv_iload_n hx hb dX0_nameToHear_64 rfl (lv_at hl 0 rfl) ?_
  exact W.iret (v := v15) hx hb hr (fun t ht _ => ⟨⟨_, rfl, ⟨_, rfl, hw⟩⟩, ht⟩) (fun _ h => by cases h) dX0_nameToHear_65
set_option maxHeartbeats 4000000 in
set_option maxRecDepth 100000 in
theorem c_X4_isFree (l : Launch) (D : va_G) (cI cZ : ClassId) (ad : Nat → Nat) (o0 : Nat) (S0 : St) (x1 : Int32) (r9 : Int32) (hw : F_X4_isFree S0 x1 = r9) : KF l yX4_isFree cX4_isFree 2 (some .boolean) 1 21 D cI cZ [.ref (ad o0), .int x1] [rcells cI ad o0 S0] (some (.int r9)) := by
  refine Met.ofE (by decide +kernel) (Nat.le_of_ble_eq_true rfl) ?_
  intro p e s m below meth c E ls hl
  obtain ⟨hx, hb, hr, hml, hW, hown, hlocks, hP, hK, hD, hN⟩ := E
  have hl : lv_has ls 2 [(0, .ref (ad o0)), (1, .int x1)] := hl
  have hw : (if (F_X2_lives S0 x1) = 0 then 0 else (if (F_X3_get 6 (S0.2 9) x1) = 2 then 0 else 1)) = r9 := hw
  refine lv_aload_n hx hb dX4_isFree_0 rfl (lv_at hl 0 rfl) ?_
  refine lv_iload_n hx hb dX4_isFree_1 rfl (lv_at hl 1 rfl) ?_
  refine callF (va_runV (As := [.int x1]) (rest := []) ⟨hx, hb, hml, hown, hW⟩ (c_X2_lives l D cI cZ ad o0 S0 x1 _ rfl) (cwV0 hW mV_X2_lives ml_X4_63 ⟨Nat.le_of_ble_eq_true rfl, Nat.le_of_ble_eq_true rfl⟩) (preV0 0 rfl rfl hK hN hP hD [0] rfl rfl) rfl rfl hl.1 rfl (lv_room (Nat.le_of_ble_eq_true rfl)) dX4_isFree_2 ⟨Nat.le_refl _, Nat.le_refl _⟩) ?_
  refine W.eq (g2 := F0 m 5 ls [.int (F_X2_lives S0 x1)]) rfl ?_
  refine lv_if_eq (tgt := 24) hx hb dX4_isFree_5 (by decide) (fun c1 => ?_) (fun c1 => ?_)
  · have hw := (if_pos c1).symm.trans hw
    refine lv_iconst (v := 0) hx hb dX4_isFree_24 (by decide) ?_
    subst hw
    exact W.zret (v := 0) hx hb hr rfl (fun t ht _ => ⟨rfl, ht⟩) (fun _ h => by cases h) dX4_isFree_25
  · have hw := (if_neg c1).symm.trans hw
    refine lv_aload_n hx hb dX4_isFree_8 rfl (lv_at hl 0 rfl) ?_
    refine va_get (D := D) (ci := 2) (v := .ref (ad (o0 + 3))) (C := RX2) (T := TX2) (N := 15) hx hb hW inW_X2 hown hK hP 0 rfl rfl 9 (by decide) (hW _ fl_X4_67) (fun _ h9 => h9) rfl dX4_isFree_9 ?_
    refine lv_iload_n hx hb dX4_isFree_12 rfl (lv_at hl 1 rfl) ?_
    refine callF (va_runV (As := [.int x1]) (rest := []) ⟨hx, hb, hml, hown, hW⟩ (c_X3_get__round_9 l D cI cZ ad o0 S0 x1 _ rfl) (cwV0 hW mV_X3_get ml_X4_41 ⟨Nat.le_of_ble_eq_true rfl, Nat.le_of_ble_eq_true rfl⟩) (preV0 3 rfl rfl hK hN hP hD [0] rfl rfl) rfl rfl hl.1 rfl (lv_room (Nat.le_of_ble_eq_true rfl)) dX4_isFree_13 ⟨Nat.le_refl _, Nat.le_refl _⟩) ?_
    refine W.eq (g2 := F0 m 16 ls [.int (F_X3_get 6 (S0.2 9) x1)]) rfl ?_
    refine lv_iconst (v := 2) hx hb dX4_isFree_16 (by decide) ?_
    refine lv_icmp_eq (tgt := 24) hx hb dX4_isFree_17 (by decide) (fun c2 => ?_) (fun c2 => ?_)
    · have hw := (if_pos c2).symm.trans hw
      refine lv_iconst (v := 0) hx hb dX4_isFree_24 (by decide) ?_
      subst hw
      exact W.zret (v := 0) hx hb hr rfl (fun t ht _ => ⟨rfl, ht⟩) (fun _ h => by cases h) dX4_isFree_25
    · have hw := (if_neg c2).symm.trans hw
      refine lv_iconst (v := 1) hx hb dX4_isFree_20 (by decide) ?_
      refine lv_goto (tgt := 25) hx hb dX4_isFree_21 (by decide) ?_
      subst hw
      exact W.zret (v := 1) hx hb hr rfl (fun t ht _ => ⟨rfl, ht⟩) (fun _ h => by cases h) dX4_isFree_25
set_option maxHeartbeats 4000000 in
set_option maxRecDepth 100000 in
theorem c_X4_areApart (l : Launch) (D : va_G) (cI cZ : ClassId) (ad : Nat → Nat) (o0 : Nat) (S0 : St) (x1 : Int32) (x2 : Int32) (x3 : Int32) (k : Int32 → Prop) (hw : wp_X4_areApart S0 x1 x2 x3 k) : KR l yX4_areApart cX4_areApart 5 (some .boolean) 3 69 D cI cZ [.ref (ad o0), .int x1, .int x2, .int x3] [rcells cI ad o0 S0] (fun v => ∃ r, v = some (.int r) ∧ k r) := by
  refine Met.ofE (by decide +kernel) (Nat.le_of_ble_eq_true rfl) ?_
  intro p e s m below meth c E ls hl
  obtain ⟨hx, hb, hr, hml, hW, hown, hlocks, hP, hK, hD, hN⟩ := E
  have hl : lv_has ls 5 [(0, .ref (ad o0)), (1, .int x1), (2, .int x2), (3, .int x3)] := hl
  have L3 : ∀  (kx : Prop), (∀ ls : Array Slot, lv_has ls 5 [] → kx → W p l e { frames := 3, cells := 0, slots := 0, locals := 69 } s m ([.ref (ad o0), .int x1, .int x2, .int x3] : List Value).toArray below meth c s.heap [] 0 0 (MQ below (QR (fun v => ∃ r, v = some (.int r) ∧ k r)) ([.ref (ad o0), .int x1, .int x2, .int x3] : List Value).toArray s 0 0 (fun _ => False)) (F0 m 28 ls [])) → ∀ (N3 : Nat) (y4 : Int32), ∀ ls : Array Slot, lv_has ls 5 [(0, .ref (ad o0)), (1, .int x1), (2, .int x2), (3, .int x3), (4, .int y4)] → wl_X4_areApart_3 S0 x1 x2 x3 kx k N3 y4 → W p l e { frames := 3, cells := 0, slots := 0, locals := 69 } s m ([.ref (ad o0), .int x1, .int x2, .int x3] : List Value).toArray below meth c s.heap [] 0 0 (MQ below (QR (fun v => ∃ r, v = some (.int r) ∧ k r)) ([.ref (ad o0), .int x1, .int x2, .int x3] : List Value).toArray s 0 0 (fun _ => False)) (F0 m 3 ls []) := by
    intro  kx hxt N3
    induction N3 with
    | zero => intro y4 ls hl hw; exact False.elim hw
    | succ N3 ih =>
      intro y4 ls hl hw
      have hw : (if x3 ≤ y4 then kx else (if (F_X2_shareALand S0 x1 x2 y4) = 0 then (wl_X4_areApart_3 S0 x1 x2 x3 kx k N3 (y4 + 1)) else (k 0))) := hw
      refine lv_iload hx hb dX4_areApart_3 (lv_at hl 4 rfl) ?_
      refine lv_iload_n hx hb dX4_areApart_5 rfl (lv_at hl 3 rfl) ?_
      refine lv_icmp_ge (tgt := 28) hx hb dX4_areApart_6 (by decide) (fun c1 => ?_) (fun c1 => ?_)
      · have hw := Eq.mp (if_pos c1) hw
        exact hxt  _ (lv_sub hl [] rfl) hw
      · have hw := Eq.mp (if_neg c1) hw
        refine lv_aload_n hx hb dX4_areApart_9 rfl (lv_at hl 0 rfl) ?_
        refine lv_iload_n hx hb dX4_areApart_10 rfl (lv_at hl 1 rfl) ?_
        refine lv_iload_n hx hb dX4_areApart_11 rfl (lv_at hl 2 rfl) ?_
        refine lv_iload hx hb dX4_areApart_12 (lv_at hl 4 rfl) ?_
        refine callF (va_runV (As := [.int x1, .int x2, .int y4]) (rest := []) ⟨hx, hb, hml, hown, hW⟩ (c_X2_shareALand l D cI cZ ad o0 S0 x1 x2 y4 _ rfl) (cwV0 hW mV_X2_shareALand ml_X4_70 ⟨Nat.le_of_ble_eq_true rfl, Nat.le_of_ble_eq_true rfl⟩) (preV0 0 rfl rfl hK hN hP hD [0] rfl rfl) rfl rfl hl.1 rfl (lv_room (Nat.le_of_ble_eq_true rfl)) dX4_areApart_14 ⟨Nat.le_refl _, Nat.le_refl _⟩) ?_
        refine W.eq (g2 := F0 m 17 ls [.int (F_X2_shareALand S0 x1 x2 y4)]) rfl ?_
        refine lv_if_eq (tgt := 22) hx hb dX4_areApart_17 (by decide) (fun c2 => ?_) (fun c2 => ?_)
        · have hw := Eq.mp (if_pos c2) hw
          refine lv_iinc (v := (y4 + 1)) (lv' := [(4, .int (y4 + 1)), (0, .ref (ad o0)), (1, .int x1), (2, .int x2), (3, .int x3)]) hx hb dX4_areApart_22 hl (k := 4) rfl rfl (by decide) rfl (fun ls hl => ?_)
          refine lv_goto (tgt := 3) hx hb dX4_areApart_25 (by decide) ?_
          exact ih (y4 + 1) _ (lv_sub hl [1, 2, 3, 4, 0] rfl) hw
        · have hw := Eq.mp (if_neg c2) hw
          refine lv_iconst (v := 0) hx hb dX4_areApart_20 (by decide) ?_
          exact W.zret (v := 0) hx hb hr rfl (fun t ht _ => ⟨⟨_, rfl, ⟨_, rfl, hw⟩⟩, ht⟩) (fun _ h => by cases h) dX4_areApart_21
  have hw : (∃ M3, wl_X4_areApart_3 S0 x1 x2 x3 (k 1) k M3 0) := hw
  refine lv_iconst (v := 0) hx hb dX4_areApart_0 (by decide) ?_
  refine lv_istore (lv' := [(4, .int 0), (0, .ref (ad o0)), (1, .int x1), (2, .int x2), (3, .int x3)]) hx hb dX4_areApart_1 hl (by decide) rfl (fun ls hl => ?_)
  obtain ⟨N4, hw⟩ := hw
  refine L3  _ (fun  ls hl hw => ?_) N4 0 _ (lv_sub hl [1, 2, 3, 4, 0] rfl) hw
  refine lv_iconst (v := 1) hx hb dX4_areApart_28 (by decide) ?_
  exact W.zret (v := 1) hx hb hr rfl (fun t ht _ => ⟨⟨_, rfl, ⟨_, rfl, hw⟩⟩, ht⟩) (fun _ h => by cases h) dX4_areApart_29
set_option maxHeartbeats 4000000 in
set_option maxRecDepth 100000 in
theorem c_X4_matesOf (l : Launch) (D : va_G) (cI cZ : ClassId) (ad : Nat → Nat) (o0 : Nat) (S0 : St) (x1 : Int32) (x2 : Int32) (k : Int32 → Prop) (hw : wp_X4_matesOf S0 x1 x2 k) : KR l yX4_matesOf cX4_matesOf 5 (some .int) 4 93 D cI cZ [.ref (ad o0), .int x1, .int x2] [rcells cI ad o0 S0] (fun v => ∃ r, v = some (.int r) ∧ k r) := by
  refine Met.ofE (by decide +kernel) (Nat.le_of_ble_eq_true rfl) ?_
  intro p e s m below meth c E ls hl
  obtain ⟨hx, hb, hr, hml, hW, hown, hlocks, hP, hK, hD, hN⟩ := E
  have hl : lv_has ls 5 [(0, .ref (ad o0)), (1, .int x1), (2, .int x2)] := hl
  have L5 : ∀  (kx : Int32 → Prop), (∀ (y3 : Int32), ∀ ls : Array Slot, lv_has ls 5 [(3, .int y3)] → kx y3 → W p l e { frames := 4, cells := 0, slots := 0, locals := 93 } s m ([.ref (ad o0), .int x1, .int x2] : List Value).toArray below meth c s.heap [] 0 0 (MQ below (QR (fun v => ∃ r, v = some (.int r) ∧ k r)) ([.ref (ad o0), .int x1, .int x2] : List Value).toArray s 0 0 (fun _ => False)) (F0 m 61 ls [])) → ∀ (N5 : Nat) (y3 : Int32) (y4 : Int32), ∀ ls : Array Slot, lv_has ls 5 [(0, .ref (ad o0)), (1, .int x1), (2, .int x2), (3, .int y3), (4, .int y4)] → wl_X4_matesOf_5 S0 x1 x2 kx N5 y3 y4 → W p l e { frames := 4, cells := 0, slots := 0, locals := 93 } s m ([.ref (ad o0), .int x1, .int x2] : List Value).toArray below meth c s.heap [] 0 0 (MQ below (QR (fun v => ∃ r, v = some (.int r) ∧ k r)) ([.ref (ad o0), .int x1, .int x2] : List Value).toArray s 0 0 (fun _ => False)) (F0 m 5 ls []) := by
    intro  kx hxt N5
    induction N5 with
    | zero => intro y3 y4 ls hl hw; exact False.elim hw
    | succ N5 ih =>
      intro y3 y4 ls hl hw
      have hw : (if (S0.1 0) ≤ y4 then (kx y3) else (if y4 = x1 then (wl_X4_matesOf_5 S0 x1 x2 kx N5 y3 (y4 + 1)) else (if (F_X4_isFree S0 x1) = 0 then (wl_X4_matesOf_5 S0 x1 x2 kx N5 y3 (y4 + 1)) else (if (F_X4_isFree S0 y4) = 0 then (wl_X4_matesOf_5 S0 x1 x2 kx N5 y3 (y4 + 1)) else (wp_X4_areApart S0 x1 y4 x2 (fun (v5 : Int32) => (if v5 = 0 then (wl_X4_matesOf_5 S0 x1 x2 kx N5 y3 (y4 + 1)) else (wl_X4_matesOf_5 S0 x1 x2 kx N5 (y3 ||| ((1 : Int32) <<< (y4 &&& 31))) (y4 + 1))))))))) := hw
      refine lv_iload hx hb dX4_matesOf_5 (lv_at hl 4 rfl) ?_
      refine lv_aload_n hx hb dX4_matesOf_7 rfl (lv_at hl 0 rfl) ?_
      refine va_get (D := D) (ci := 2) (v := .int (S0.1 0)) (C := RX2) (T := TX2) (N := 15) hx hb hW inW_X2 hown hK hP 0 rfl rfl 0 (by decide) (hW _ fl_X4_23) (fun _ h9 => h9) rfl dX4_matesOf_8 ?_
      refine lv_icmp_ge (tgt := 61) hx hb dX4_matesOf_11 (by decide) (fun c1 => ?_) (fun c1 => ?_)
      · have hw := Eq.mp (if_pos c1) hw
        exact hxt y3 _ (lv_sub hl [3] rfl) hw
      · have hw := Eq.mp (if_neg c1) hw
        refine lv_iload hx hb dX4_matesOf_14 (lv_at hl 4 rfl) ?_
        refine lv_iload_n hx hb dX4_matesOf_16 rfl (lv_at hl 1 rfl) ?_
        refine lv_icmp_eq (tgt := 55) hx hb dX4_matesOf_17 (by decide) (fun c2 => ?_) (fun c2 => ?_)
        · have hw := Eq.mp (if_pos c2) hw
          refine lv_iinc (v := (y4 + 1)) (lv' := [(4, .int (y4 + 1)), (0, .ref (ad o0)), (1, .int x1), (2, .int x2), (3, .int y3)]) hx hb dX4_matesOf_55 hl (k := 4) rfl rfl (by decide) rfl (fun ls hl => ?_)
          refine lv_goto (tgt := 5) hx hb dX4_matesOf_58 (by decide) ?_
          exact ih y3 (y4 + 1) _ (lv_sub hl [1, 2, 3, 4, 0] rfl) hw
        · have hw := Eq.mp (if_neg c2) hw
          refine lv_aload_n hx hb dX4_matesOf_20 rfl (lv_at hl 0 rfl) ?_
          refine lv_iload_n hx hb dX4_matesOf_21 rfl (lv_at hl 1 rfl) ?_
          refine callF (va_runS (As := [.ref (ad o0), .int x1]) (rest := []) ⟨hx, hb, hml, hown, hW⟩ (c_X4_isFree l D cI cZ ad o0 S0 x1 _ rfl) (cwS0 hW mS_X4_isFree ml_X4_55 ⟨Nat.le_of_ble_eq_true rfl, Nat.le_of_ble_eq_true rfl⟩) (preS0 hK hN hP hD [0] rfl rfl) rfl rfl hl.1 rfl (lv_room (Nat.le_of_ble_eq_true rfl)) dX4_matesOf_22 ⟨Nat.le_refl _, Nat.le_refl _⟩) ?_
          refine W.eq (g2 := F0 m 25 ls [.int (F_X4_isFree S0 x1)]) rfl ?_
          refine lv_if_eq (tgt := 55) hx hb dX4_matesOf_25 (by decide) (fun c3 => ?_) (fun c3 => ?_)
          · have hw := Eq.mp (if_pos c3) hw
            refine lv_iinc (v := (y4 + 1)) (lv' := [(4, .int (y4 + 1)), (0, .ref (ad o0)), (1, .int x1), (2, .int x2), (3, .int y3)]) hx hb dX4_matesOf_55 hl (k := 4) rfl rfl (by decide) rfl (fun ls hl => ?_)
            refine lv_goto (tgt := 5) hx hb dX4_matesOf_58 (by decide) ?_
            exact ih y3 (y4 + 1) _ (lv_sub hl [1, 2, 3, 4, 0] rfl) hw
          · have hw := Eq.mp (if_neg c3) hw
            refine lv_aload_n hx hb dX4_matesOf_28 rfl (lv_at hl 0 rfl) ?_
            refine lv_iload hx hb dX4_matesOf_29 (lv_at hl 4 rfl) ?_
            refine callF (va_runS (As := [.ref (ad o0), .int y4]) (rest := []) ⟨hx, hb, hml, hown, hW⟩ (c_X4_isFree l D cI cZ ad o0 S0 y4 _ rfl) (cwS0 hW mS_X4_isFree ml_X4_55 ⟨Nat.le_of_ble_eq_true rfl, Nat.le_of_ble_eq_true rfl⟩) (preS0 hK hN hP hD [0] rfl rfl) rfl rfl hl.1 rfl (lv_room (Nat.le_of_ble_eq_true rfl)) dX4_matesOf_31 ⟨Nat.le_refl _, Nat.le_refl _⟩) ?_
            refine W.eq (g2 := F0 m 34 ls [.int (F_X4_isFree S0 y4)]) rfl ?_
            refine lv_if_eq (tgt := 55) hx hb dX4_matesOf_34 (by decide) (fun c4 => ?_) (fun c4 => ?_)
            · have hw := Eq.mp (if_pos c4) hw
              refine lv_iinc (v := (y4 + 1)) (lv' := [(4, .int (y4 + 1)), (0, .ref (ad o0)), (1, .int x1), (2, .int x2), (3, .int y3)]) hx hb dX4_matesOf_55 hl (k := 4) rfl rfl (by decide) rfl (fun ls hl => ?_)
              refine lv_goto (tgt := 5) hx hb dX4_matesOf_58 (by decide) ?_
              exact ih y3 (y4 + 1) _ (lv_sub hl [1, 2, 3, 4, 0] rfl) hw
            · have hw := Eq.mp (if_neg c4) hw
              refine lv_aload_n hx hb dX4_matesOf_37 rfl (lv_at hl 0 rfl) ?_
              refine lv_iload_n hx hb dX4_matesOf_38 rfl (lv_at hl 1 rfl) ?_
              refine lv_iload hx hb dX4_matesOf_39 (lv_at hl 4 rfl) ?_
              refine lv_iload_n hx hb dX4_matesOf_41 rfl (lv_at hl 2 rfl) ?_
              refine callR (va_runS (As := [.ref (ad o0), .int x1, .int y4, .int x2]) (rest := []) ⟨hx, hb, hml, hown, hW⟩ (c_X4_areApart l D cI cZ ad o0 S0 x1 y4 x2 _ hw) (cwS0 hW mS_X4_areApart ml_X4_59 ⟨Nat.le_of_ble_eq_true rfl, Nat.le_of_ble_eq_true rfl⟩) (preS0 hK hN hP hD [0] rfl rfl) rfl rfl hl.1 rfl (lv_room (Nat.le_of_ble_eq_true rfl)) dX4_matesOf_42 ⟨Nat.le_refl _, Nat.le_refl _⟩) (fun v9 hq => ?_)
              obtain ⟨v5, rfl, hw⟩ := hq
              refine W.eq (g2 := F0 m 45 ls [.int v5]) rfl ?_
              refine lv_if_eq (tgt := 55) hx hb dX4_matesOf_45 (by decide) (fun c6 => ?_) (fun c6 => ?_)
              · have hw := Eq.mp (if_pos c6) hw
                refine lv_iinc (v := (y4 + 1)) (lv' := [(4, .int (y4 + 1)), (0, .ref (ad o0)), (1, .int x1), (2, .int x2), (3, .int y3)]) hx hb dX4_matesOf_55 hl (k := 4) rfl rfl (by decide) rfl (fun ls hl => ?_)
                refine lv_goto (tgt := 5) hx hb dX4_matesOf_58 (by decide) ?_
                exact ih y3 (y4 + 1) _ (lv_sub hl [1, 2, 3, 4, 0] rfl) hw
              · have hw := Eq.mp (if_neg c6) hw
                refine lv_iload_n hx hb dX4_matesOf_48 rfl (lv_at hl 3 rfl) ?_
                refine lv_iconst (v := 1) hx hb dX4_matesOf_49 (by decide) ?_
                refine lv_iload hx hb dX4_matesOf_50 (lv_at hl 4 rfl) ?_
                refine lv_ishl hx hb dX4_matesOf_52 ?_
                refine lv_ior hx hb dX4_matesOf_53 ?_
                refine lv_istore_n (lv' := [(3, .int (y3 ||| ((1 : Int32) <<< (y4 &&& 31)))), (0, .ref (ad o0)), (1, .int x1), (2, .int x2), (4, .int y4)]) hx hb dX4_matesOf_54 rfl hl (by decide) rfl (fun ls hl => ?_)
                refine lv_iinc (v := (y4 + 1)) (lv' := [(4, .int (y4 + 1)), (3, .int (y3 ||| ((1 : Int32) <<< (y4 &&& 31)))), (0, .ref (ad o0)), (1, .int x1), (2, .int x2)]) hx hb dX4_matesOf_55 hl (k := 4) rfl rfl (by decide) rfl (fun ls hl => ?_)
                refine lv_goto (tgt := 5) hx hb dX4_matesOf_58 (by decide) ?_
                exact ih (y3 ||| ((1 : Int32) <<< (y4 &&& 31))) (y4 + 1) _ (lv_sub hl [2, 3, 4, 1, 0] rfl) hw
  have hw : (∃ M8, wl_X4_matesOf_5 S0 x1 x2 (fun (v7 : Int32) => (k v7)) M8 0 0) := hw
  refine lv_iconst (v := 0) hx hb dX4_matesOf_0 (by decide) ?_
  refine lv_istore_n (lv' := [(3, .int 0), (0, .ref (ad o0)), (1, .int x1), (2, .int x2)]) hx hb dX4_matesOf_1 rfl hl (by decide) rfl (fun ls hl => ?_)
  refine lv_iconst (v := 0) hx hb dX4_matesOf_2 (by decide) ?_
  refine lv_istore (lv' := [(4, .int 0), (3, .int 0), (0, .ref (ad o0)), (1, .int x1), (2, .int x2)]) hx hb dX4_matesOf_3 hl (by decide) rfl (fun ls hl => ?_)
  obtain ⟨N9, hw⟩ := hw
  refine L5  _ (fun v7 ls hl hw => ?_) N9 0 0 _ (lv_sub hl [2, 3, 4, 1, 0] rfl) hw
  refine lv_iload_n hx hb dX4_matesOf_61 rfl (lv_at hl 0 rfl) ?_
  exact W.iret (v := v7) hx hb hr (fun t ht _ => ⟨⟨_, rfl, ⟨_, rfl, hw⟩⟩, ht⟩) (fun _ h => by cases h) dX4_matesOf_62
set_option maxHeartbeats 4000000 in
set_option maxRecDepth 100000 in
theorem c_X4_bestOf (l : Launch) (D : va_G) (cI cZ : ClassId) (ad : Nat → Nat) (o0 : Nat) (S0 : St) (x1 : Int32) (k : Int32 → Prop) (hw : wp_X4_bestOf S0 x1 k) : KR l yX4_bestOf cX4_bestOf 6 (some .int) 1 21 D cI cZ [.ref (ad o0), .int x1] [wcells cI ad o0 S0] (fun v => ∃ r, v = some (.int r) ∧ k r) := by
  refine Met.ofE (by decide +kernel) (Nat.le_of_ble_eq_true rfl) ?_
  intro p e s m below meth c E ls hl
  obtain ⟨hx, hb, hr, hml, hW, hown, hlocks, hP, hK, hD, hN⟩ := E
  have hl : lv_has ls 6 [(0, .ref (ad o0)), (1, .int x1)] := hl
  have L28 : ∀ (y2 : Int32) (y3 : Int32) (kx : Int32 → Prop), (∀ (y4 : Int32), ∀ ls : Array Slot, lv_has ls 6 [(4, .int y4)] → kx y4 → W p l e { frames := 1, cells := 0, slots := 0, locals := 21 } s m ([.ref (ad o0), .int x1] : List Value).toArray below meth c s.heap [] 0 0 (MQ below (QR (fun v => ∃ r, v = some (.int r) ∧ k r)) ([.ref (ad o0), .int x1] : List Value).toArray s 0 0 (fun _ => False)) (F0 m 83 ls [])) → ∀ (N28 : Nat) (y4 : Int32) (y5 : Int32), ∀ ls : Array Slot, lv_has ls 6 [(0, .ref (ad o0)), (2, .int y2), (3, .int y3), (4, .int y4), (5, .int y5)] → wl_X4_bestOf_28 S0 y2 y3 kx N28 y4 y5 → W p l e { frames := 1, cells := 0, slots := 0, locals := 21 } s m ([.ref (ad o0), .int x1] : List Value).toArray below meth c s.heap [] 0 0 (MQ below (QR (fun v => ∃ r, v = some (.int r) ∧ k r)) ([.ref (ad o0), .int x1] : List Value).toArray s 0 0 (fun _ => False)) (F0 m 28 ls []) := by
    intro y2 y3 kx hxt N28
    induction N28 with
    | zero => intro y4 y5 ls hl hw; exact False.elim hw
    | succ N28 ih =>
      intro y4 y5 ls hl hw
      have hw : (if 6 ≤ y5 then (kx y4) else (if ((y3 &&& (F_X3_get 6 (S0.2 0) y2)) &&& ((1 : Int32) <<< (y5 &&& 31))) = 0 then (wl_X4_bestOf_28 S0 y2 y3 kx N28 y4 (y5 + 1)) else (wl_X4_bestOf_28 S0 y2 y3 kx N28 (jmax y4 ((1 : Int32) + (F_X3_get 64 (S0.2 1) (y3 &&& (((1 : Int32) <<< (y5 &&& 31)) ^^^ (-1)))))) (y5 + 1)))) := hw
      refine lv_iload hx hb dX4_bestOf_28 (lv_at hl 4 rfl) ?_
      refine lv_bipush (v := 6) hx hb dX4_bestOf_30 (by decide) ?_
      refine lv_icmp_ge (tgt := 83) hx hb dX4_bestOf_32 (by decide) (fun c1 => ?_) (fun c1 => ?_)
      · have hw := Eq.mp (if_pos c1) hw
        exact hxt y4 _ (lv_sub hl [3] rfl) hw
      · have hw := Eq.mp (if_neg c1) hw
        refine lv_iload_n hx hb dX4_bestOf_35 rfl (lv_at hl 2 rfl) ?_
        refine lv_aload_n hx hb dX4_bestOf_36 rfl (lv_at hl 0 rfl) ?_
        refine va_get (D := D) (ci := 4) (v := .ref (ad (o0 + 1))) (C := RX4) (T := TX4) (N := 2) hx hb hW inW_X4 hown hK hP 0 rfl rfl 0 (by decide) (hW _ fl_X4_14) (fun _ h9 => h9) rfl dX4_bestOf_37 ?_
        refine lv_iload_n hx hb dX4_bestOf_40 rfl (lv_at hl 1 rfl) ?_
        refine callF (va_runV (As := [.int y2]) (rest := [.int y3]) ⟨hx, hb, hml, hown, hW⟩ (c_X3_get__wed_0 l D cI cZ ad o0 S0 y2 _ rfl) (cwV0 hW mV_X3_get ml_X4_41 ⟨Nat.le_of_ble_eq_true rfl, Nat.le_of_ble_eq_true rfl⟩) (preV0 1 rfl rfl hK hN hP hD [0] rfl rfl) rfl rfl hl.1 rfl (lv_room (Nat.le_of_ble_eq_true rfl)) dX4_bestOf_41 ⟨Nat.le_refl _, Nat.le_refl _⟩) ?_
        refine W.eq (g2 := F0 m 44 ls [.int (F_X3_get 6 (S0.2 0) y2), .int y3]) rfl ?_
        refine lv_iand hx hb dX4_bestOf_44 ?_
        refine lv_iconst (v := 1) hx hb dX4_bestOf_45 (by decide) ?_
        refine lv_iload hx hb dX4_bestOf_46 (lv_at hl 4 rfl) ?_
        refine lv_ishl hx hb dX4_bestOf_48 ?_
        refine lv_iand hx hb dX4_bestOf_49 ?_
        refine lv_if_eq (tgt := 77) hx hb dX4_bestOf_50 (by decide) (fun c2 => ?_) (fun c2 => ?_)
        · have hw := Eq.mp (if_pos c2) hw
          refine lv_iinc (v := (y5 + 1)) (lv' := [(5, .int (y5 + 1)), (0, .ref (ad o0)), (2, .int y2), (3, .int y3), (4, .int y4)]) hx hb dX4_bestOf_77 hl (k := 4) rfl rfl (by decide) rfl (fun ls hl => ?_)
          refine lv_goto (tgt := 28) hx hb dX4_bestOf_80 (by decide) ?_
          exact ih y4 (y5 + 1) _ (lv_sub hl [1, 2, 3, 4, 0] rfl) hw
        · have hw := Eq.mp (if_neg c2) hw
          refine lv_iload hx hb dX4_bestOf_53 (lv_at hl 3 rfl) ?_
          refine lv_iconst (v := 1) hx hb dX4_bestOf_55 (by decide) ?_
          refine lv_aload_n hx hb dX4_bestOf_56 rfl (lv_at hl 0 rfl) ?_
          refine va_get (D := D) (ci := 4) (v := .ref (ad (o0 + 2))) (C := RX4) (T := TX4) (N := 2) hx hb hW inW_X4 hown hK hP 0 rfl rfl 1 (by decide) (hW _ fl_X4_20) (fun _ h9 => h9) rfl dX4_bestOf_57 ?_
          refine lv_iload_n hx hb dX4_bestOf_60 rfl (lv_at hl 2 rfl) ?_
          refine lv_iconst (v := 1) hx hb dX4_bestOf_61 (by decide) ?_
          refine lv_iload hx hb dX4_bestOf_62 (lv_at hl 4 rfl) ?_
          refine lv_ishl hx hb dX4_bestOf_64 ?_
          refine lv_iconst (v := (-1)) hx hb dX4_bestOf_65 (by decide) ?_
          refine lv_ixor hx hb dX4_bestOf_66 ?_
          refine lv_iand hx hb dX4_bestOf_67 ?_
          refine callF (va_runV (As := [.int (y3 &&& (((1 : Int32) <<< (y5 &&& 31)) ^^^ (-1)))]) (rest := [.int 1, .int y4]) ⟨hx, hb, hml, hown, hW⟩ (c_X3_get__wed_1 l D cI cZ ad o0 S0 (y3 &&& (((1 : Int32) <<< (y5 &&& 31)) ^^^ (-1))) _ rfl) (cwV0 hW mV_X3_get ml_X4_41 ⟨Nat.le_of_ble_eq_true rfl, Nat.le_of_ble_eq_true rfl⟩) (preV0 2 rfl rfl hK hN hP hD [0] rfl rfl) rfl rfl hl.1 rfl (lv_room (Nat.le_of_ble_eq_true rfl)) dX4_bestOf_68 ⟨Nat.le_refl _, Nat.le_refl _⟩) ?_
          refine W.eq (g2 := F0 m 71 ls [.int (F_X3_get 64 (S0.2 1) (y3 &&& (((1 : Int32) <<< (y5 &&& 31)) ^^^ (-1)))), .int 1, .int y4]) rfl ?_
          refine lv_iadd hx hb dX4_bestOf_71 ?_
          refine va_mmax hx hb (hml.trans hl.1.symm) hown (hW _ ml_X4_49) (hW _ st_J9_max_7cf53) (hW _ ini_J9) (hW _ cd_J9_max_7cf53) (Nat.le_of_ble_eq_true rfl) (Nat.le_of_ble_eq_true rfl) (Nat.le_refl _) (Nat.le_refl _) dX4_bestOf_72 ?_
          refine W.eq (g2 := F0 m 75 ls [.int (jmax y4 ((1 : Int32) + (F_X3_get 64 (S0.2 1) (y3 &&& (((1 : Int32) <<< (y5 &&& 31)) ^^^ (-1))))))]) rfl ?_
          refine lv_istore (lv' := [(4, .int (jmax y4 ((1 : Int32) + (F_X3_get 64 (S0.2 1) (y3 &&& (((1 : Int32) <<< (y5 &&& 31)) ^^^ (-1))))))), (0, .ref (ad o0)), (2, .int y2), (3, .int y3), (5, .int y5)]) hx hb dX4_bestOf_75 hl (by decide) rfl (fun ls hl => ?_)
          refine lv_iinc (v := (y5 + 1)) (lv' := [(5, .int (y5 + 1)), (4, .int (jmax y4 ((1 : Int32) + (F_X3_get 64 (S0.2 1) (y3 &&& (((1 : Int32) <<< (y5 &&& 31)) ^^^ (-1))))))), (0, .ref (ad o0)), (2, .int y2), (3, .int y3)]) hx hb dX4_bestOf_77 hl (k := 4) rfl rfl (by decide) rfl (fun ls hl => ?_)
          refine lv_goto (tgt := 28) hx hb dX4_bestOf_80 (by decide) ?_
          exact ih (jmax y4 ((1 : Int32) + (F_X3_get 64 (S0.2 1) (y3 &&& (((1 : Int32) <<< (y5 &&& 31)) ^^^ (-1)))))) (y5 + 1) _ (lv_sub hl [2, 3, 4, 1, 0] rfl) hw
  have hw : (∃ M4, wl_X4_bestOf_28 S0 (F_J6_numberOfTrailingZeros_0f7a4 x1) (x1 &&& (((1 : Int32) <<< ((F_J6_numberOfTrailingZeros_0f7a4 x1) &&& 31)) ^^^ (-1))) (fun (v3 : Int32) => (k v3)) M4 (F_X3_get 64 (S0.2 1) (x1 &&& (((1 : Int32) <<< ((F_J6_numberOfTrailingZeros_0f7a4 x1) &&& 31)) ^^^ (-1)))) ((F_J6_numberOfTrailingZeros_0f7a4 x1) + 1)) := hw
  refine lv_iload_n hx hb dX4_bestOf_0 rfl (lv_at hl 1 rfl) ?_
  refine callF (va_runS (As := [.int x1]) (rest := []) ⟨hx, hb, hml, hown, hW⟩ (c_J6_numberOfTrailingZeros_0f7a4 l D cI cZ x1 _ rfl) (cwS0 hW mS_J6_numberOfTrailingZeros_0f7a4 ml_X4_44 ⟨Nat.le_of_ble_eq_true rfl, Nat.le_of_ble_eq_true rfl⟩) (preS0 hK hN hP hD [] rfl rfl) rfl rfl hl.1 rfl (lv_room (Nat.le_of_ble_eq_true rfl)) dX4_bestOf_1 ⟨Nat.le_refl _, Nat.le_refl _⟩) ?_
  refine W.eq (g2 := F0 m 4 ls [.int (F_J6_numberOfTrailingZeros_0f7a4 x1)]) rfl ?_
  refine lv_istore_n (lv' := [(2, .int (F_J6_numberOfTrailingZeros_0f7a4 x1)), (0, .ref (ad o0)), (1, .int x1)]) hx hb dX4_bestOf_4 rfl hl (by decide) rfl (fun ls hl => ?_)
  refine lv_iload_n hx hb dX4_bestOf_5 rfl (lv_at hl 2 rfl) ?_
  refine lv_iconst (v := 1) hx hb dX4_bestOf_6 (by decide) ?_
  refine lv_iload_n hx hb dX4_bestOf_7 rfl (lv_at hl 0 rfl) ?_
  refine lv_ishl hx hb dX4_bestOf_8 ?_
  refine lv_iconst (v := (-1)) hx hb dX4_bestOf_9 (by decide) ?_
  refine lv_ixor hx hb dX4_bestOf_10 ?_
  refine lv_iand hx hb dX4_bestOf_11 ?_
  refine lv_istore_n (lv' := [(3, .int (x1 &&& (((1 : Int32) <<< ((F_J6_numberOfTrailingZeros_0f7a4 x1) &&& 31)) ^^^ (-1)))), (2, .int (F_J6_numberOfTrailingZeros_0f7a4 x1)), (0, .ref (ad o0)), (1, .int x1)]) hx hb dX4_bestOf_12 rfl hl (by decide) rfl (fun ls hl => ?_)
  refine lv_aload_n hx hb dX4_bestOf_13 rfl (lv_at hl 2 rfl) ?_
  refine va_get (D := D) (ci := 4) (v := .ref (ad (o0 + 2))) (C := RX4) (T := TX4) (N := 2) hx hb hW inW_X4 hown hK hP 0 rfl rfl 1 (by decide) (hW _ fl_X4_20) (fun _ h9 => h9) rfl dX4_bestOf_14 ?_
  refine lv_iload_n hx hb dX4_bestOf_17 rfl (lv_at hl 0 rfl) ?_
  refine callF (va_runV (As := [.int (x1 &&& (((1 : Int32) <<< ((F_J6_numberOfTrailingZeros_0f7a4 x1) &&& 31)) ^^^ (-1)))]) (rest := []) ⟨hx, hb, hml, hown, hW⟩ (c_X3_get__wed_1 l D cI cZ ad o0 S0 (x1 &&& (((1 : Int32) <<< ((F_J6_numberOfTrailingZeros_0f7a4 x1) &&& 31)) ^^^ (-1))) _ rfl) (cwV0 hW mV_X3_get ml_X4_41 ⟨Nat.le_of_ble_eq_true rfl, Nat.le_of_ble_eq_true rfl⟩) (preV0 2 rfl rfl hK hN hP hD [0] rfl rfl) rfl rfl hl.1 rfl (lv_room (Nat.le_of_ble_eq_true rfl)) dX4_bestOf_18 ⟨Nat.le_refl _, Nat.le_refl _⟩) ?_
  refine W.eq (g2 := F0 m 21 ls [.int (F_X3_get 64 (S0.2 1) (x1 &&& (((1 : Int32) <<< ((F_J6_numberOfTrailingZeros_0f7a4 x1) &&& 31)) ^^^ (-1))))]) rfl ?_
  refine lv_istore (lv' := [(4, .int (F_X3_get 64 (S0.2 1) (x1 &&& (((1 : Int32) <<< ((F_J6_numberOfTrailingZeros_0f7a4 x1) &&& 31)) ^^^ (-1))))), (3, .int (x1 &&& (((1 : Int32) <<< ((F_J6_numberOfTrailingZeros_0f7a4 x1) &&& 31)) ^^^ (-1)))), (2, .int (F_J6_numberOfTrailingZeros_0f7a4 x1)), (0, .ref (ad o0)), (1, .int x1)]) hx hb dX4_bestOf_21 hl (by decide) rfl (fun ls hl => ?_)
  refine lv_iload_n hx hb dX4_bestOf_23 rfl (lv_at hl 2 rfl) ?_
  refine lv_iconst (v := 1) hx hb dX4_bestOf_24 (by decide) ?_
  refine lv_iadd hx hb dX4_bestOf_25 ?_
  refine lv_istore (lv' := [(5, .int ((F_J6_numberOfTrailingZeros_0f7a4 x1) + 1)), (4, .int (F_X3_get 64 (S0.2 1) (x1 &&& (((1 : Int32) <<< ((F_J6_numberOfTrailingZeros_0f7a4 x1) &&& 31)) ^^^ (-1))))), (3, .int (x1 &&& (((1 : Int32) <<< ((F_J6_numberOfTrailingZeros_0f7a4 x1) &&& 31)) ^^^ (-1)))), (2, .int (F_J6_numberOfTrailingZeros_0f7a4 x1)), (0, .ref (ad o0)), (1, .int x1)]) hx hb dX4_bestOf_26 hl (by decide) rfl (fun ls hl => ?_)
  obtain ⟨N5, hw⟩ := hw
  refine L28 (F_J6_numberOfTrailingZeros_0f7a4 x1) (x1 &&& (((1 : Int32) <<< ((F_J6_numberOfTrailingZeros_0f7a4 x1) &&& 31)) ^^^ (-1))) _ (fun v3 ls hl hw => ?_) N5 (F_X3_get 64 (S0.2 1) (x1 &&& (((1 : Int32) <<< ((F_J6_numberOfTrailingZeros_0f7a4 x1) &&& 31)) ^^^ (-1)))) ((F_J6_numberOfTrailingZeros_0f7a4 x1) + 1) _ (lv_sub hl [4, 3, 2, 1, 0] rfl) hw
  refine lv_iload hx hb dX4_bestOf_83 (lv_at hl 0 rfl) ?_
  exact W.iret (v := v3) hx hb hr (fun t ht _ => ⟨⟨_, rfl, ⟨_, rfl, hw⟩⟩, ht⟩) (fun _ h => by cases h) dX4_bestOf_85
set_option maxHeartbeats 4000000 in
set_option maxRecDepth 100000 in
theorem c_X4_mostTwos (l : Launch) (D : va_G) (cI cZ : ClassId) (ad : Nat → Nat) (o0 : Nat) (S0 : St) (o1 : Nat) (S1 : St) (x2 : Int32) (k : Int32 → St → Prop) (hw : wp_X4_mostTwos S0 S1 x2 k) : KW l yX4_mostTwos cX4_mostTwos 5 (some .int) 5 117 D cI cZ [.ref (ad o0), .ref (ad o1), .int x2] [wcells cI ad o0 S0, rcells cI ad o1 S1] (fun v (u : St) => ∃ r, v = some (.int r) ∧ k r u) (fun u : St => [wcells cI ad o0 u, rcells cI ad o1 S1]) := by
  refine Met.ofE (by decide +kernel) (Nat.le_of_ble_eq_true rfl) ?_
  intro p e s m below meth c E ls hl
  obtain ⟨hx, hb, hr, hml, hW, hown, hlocks, hP, hK, hD, hN⟩ := E
  have hl : lv_has ls 5 [(0, .ref (ad o0)), (1, .ref (ad o1)), (2, .int x2)] := hl
  have hS : va_S (cOf (jn [wcells cI ad o0 S0, rcells cI ad o1 S1])) s.heap s.heap [] := va_S.rf
  have L2 : ∀  (kx : St → Prop), (∀ (S0q : St) (H : Heap) (locs : List Loc), va_P D classes (jn [wcells cI ad o0 S0q, rcells cI ad o1 S1]) H → va_D (cOf (jn [wcells cI ad o0 S0, rcells cI ad o1 S1])) (jn [wcells cI ad o0 S0q, rcells cI ad o1 S1]) → va_S (cOf (jn [wcells cI ad o0 S0, rcells cI ad o1 S1])) s.heap H locs → ∀ ls : Array Slot, lv_has ls 5 [(0, .ref (ad o0)), (1, .ref (ad o1))] → kx S0q → W p l e { frames := 5, cells := 0, slots := 0, locals := 117 } s m ([.ref (ad o0), .ref (ad o1), .int x2] : List Value).toArray below meth c H locs 0 0 (MQ below (QW (fun v (u : St) => ∃ r, v = some (.int r) ∧ k r u) D (fun u : St => [wcells cI ad o0 u, rcells cI ad o1 S1]) [wcells cI ad o0 S0, rcells cI ad o1 S1]) ([.ref (ad o0), .ref (ad o1), .int x2] : List Value).toArray s 0 0 (cOf (jn [wcells cI ad o0 S0, rcells cI ad o1 S1]))) (F0 m 30 ls [])) → ∀ (N2 : Nat) (y3 : Int32) (S0q : St) (H : Heap) (locs : List Loc), va_P D classes (jn [wcells cI ad o0 S0q, rcells cI ad o1 S1]) H → va_D (cOf (jn [wcells cI ad o0 S0, rcells cI ad o1 S1])) (jn [wcells cI ad o0 S0q, rcells cI ad o1 S1]) → va_S (cOf (jn [wcells cI ad o0 S0, rcells cI ad o1 S1])) s.heap H locs → ∀ ls : Array Slot, lv_has ls 5 [(0, .ref (ad o0)), (1, .ref (ad o1)), (2, .int x2), (3, .int y3)] → wl_X4_mostTwos_2 S1 x2 kx N2 y3 S0q → W p l e { frames := 5, cells := 0, slots := 0, locals := 117 } s m ([.ref (ad o0), .ref (ad o1), .int x2] : List Value).toArray below meth c H locs 0 0 (MQ below (QW (fun v (u : St) => ∃ r, v = some (.int r) ∧ k r u) D (fun u : St => [wcells cI ad o0 u, rcells cI ad o1 S1]) [wcells cI ad o0 S0, rcells cI ad o1 S1]) ([.ref (ad o0), .ref (ad o1), .int x2] : List Value).toArray s 0 0 (cOf (jn [wcells cI ad o0 S0, rcells cI ad o1 S1]))) (F0 m 2 ls []) := by
    intro  kx hxt N2
    induction N2 with
    | zero => intro y3 S0q H locs hP hD hS ls hl hw; exact False.elim hw
    | succ N2 ih =>
      intro y3 S0q H locs hP hD hS ls hl hw
      have hw : (if (S1.1 0) ≤ y3 then (kx S0q) else (wp_X4_matesOf S1 y3 x2 (fun (v2 : Int32) => (wp_X3_put 6 (S0q.2 0) y3 v2 (fun (Z3 : (Nat → Int32)) => (wl_X4_mostTwos_2 S1 x2 kx N2 (y3 + 1) (sA S0q 0 Z3))))))) := hw
      refine lv_iload_n hx hb dX4_mostTwos_2 rfl (lv_at hl 3 rfl) ?_
      refine lv_aload_n hx hb dX4_mostTwos_3 rfl (lv_at hl 1 rfl) ?_
      refine va_get (D := D) (ci := 2) (v := .int (S1.1 0)) (C := RX2) (T := TX2) (N := 15) hx hb hW inW_X2 hown hK hP 5 rfl rfl 0 (by decide) (hW _ fl_X4_23) (fun _ h9 => h9) rfl dX4_mostTwos_4 ?_
      refine lv_icmp_ge (tgt := 30) hx hb dX4_mostTwos_7 (by decide) (fun c1 => ?_) (fun c1 => ?_)
      · have hw := Eq.mp (if_pos c1) hw
        exact hxt S0q _ _ hP hD hS _ (lv_sub hl [0, 1] rfl) hw
      · have hw := Eq.mp (if_neg c1) hw
        refine lv_aload_n hx hb dX4_mostTwos_10 rfl (lv_at hl 0 rfl) ?_
        refine va_get (D := D) (ci := 4) (v := .ref (ad (o0 + 1))) (C := RX4) (T := TX4) (N := 2) hx hb hW inW_X4 hown hK hP 0 rfl rfl 0 (by decide) (hW _ fl_X4_14) (fun _ h9 => h9) rfl dX4_mostTwos_11 ?_
        refine lv_iload_n hx hb dX4_mostTwos_14 rfl (lv_at hl 3 rfl) ?_
        refine lv_aload_n hx hb dX4_mostTwos_15 rfl (lv_at hl 1 rfl) ?_
        refine lv_iload_n hx hb dX4_mostTwos_16 rfl (lv_at hl 3 rfl) ?_
        refine lv_iload_n hx hb dX4_mostTwos_17 rfl (lv_at hl 2 rfl) ?_
        refine callR (va_runS (As := [.ref (ad o1), .int y3, .int x2]) (rest := [.int y3, .ref (ad (o0 + 1))]) ⟨hx, hb, hml, hown, hW⟩ (c_X4_matesOf l D cI cZ ad o1 S1 y3 x2 _ hw) (cwS0 hW mS_X4_matesOf ml_X4_29 ⟨Nat.le_of_ble_eq_true rfl, Nat.le_of_ble_eq_true rfl⟩) (preS0 hK hN hP hD [1] rfl rfl) rfl rfl hl.1 rfl (lv_room (Nat.le_of_ble_eq_true rfl)) dX4_mostTwos_18 ⟨Nat.le_refl _, Nat.le_refl _⟩) (fun v9 hq => ?_)
        obtain ⟨v2, rfl, hw⟩ := hq
        refine W.eq (g2 := F0 m 21 ls [.int v2, .int y3, .ref (ad (o0 + 1))]) rfl ?_
        refine callW (va_runV (As := [.int y3, .int v2]) (rest := []) ⟨hx, hb, hml, hown, hW⟩ (c_X3_put__wed_0 l D cI cZ ad o0 S0q y3 v2 _ hw) (cwV0 hW mV_X3_put ml_X4_33 ⟨Nat.le_of_ble_eq_true rfl, Nat.le_of_ble_eq_true rfl⟩) (preV0 1 rfl rfl hK hN hP hD [0] rfl rfl) rfl rfl hl.1 rfl (lv_room (Nat.le_of_ble_eq_true rfl)) dX4_mostTwos_21 ⟨Nat.le_refl _, Nat.le_refl _⟩) hP hD hS [0] rfl rfl (fun _ => rfl) (fun v9 u9 H locs hq hP hD hS => ?_)
        obtain ⟨rfl, hw⟩ := hq
        obtain ⟨Z3, rfl⟩ : ∃ z, z = u9 := ⟨_, rfl⟩
        have hP : va_P D classes (jn [wcells cI ad o0 (sA S0q 0 Z3), rcells cI ad o1 S1]) H := hP
        have hD : va_D (cOf (jn [wcells cI ad o0 S0, rcells cI ad o1 S1])) (jn [wcells cI ad o0 (sA S0q 0 Z3), rcells cI ad o1 S1]) := hD
        refine W.eq (g2 := F0 m 24 ls []) rfl ?_
        refine lv_iinc (v := (y3 + 1)) (lv' := [(3, .int (y3 + 1)), (0, .ref (ad o0)), (1, .ref (ad o1)), (2, .int x2)]) hx hb dX4_mostTwos_24 hl (k := 3) rfl rfl (by decide) rfl (fun ls hl => ?_)
        refine lv_goto (tgt := 2) hx hb dX4_mostTwos_27 (by decide) ?_
        exact ih (y3 + 1) (sA S0q 0 Z3) _ _ hP hD hS _ (lv_sub hl [1, 2, 3, 0] rfl) hw
  have L51 : ∀ (y3 : Int32) (kx : St → Prop), (∀ (S0q : St) (H : Heap) (locs : List Loc), va_P D classes (jn [wcells cI ad o0 S0q, rcells cI ad o1 S1]) H → va_D (cOf (jn [wcells cI ad o0 S0, rcells cI ad o1 S1])) (jn [wcells cI ad o0 S0q, rcells cI ad o1 S1]) → va_S (cOf (jn [wcells cI ad o0 S0, rcells cI ad o1 S1])) s.heap H locs → ∀ ls : Array Slot, lv_has ls 5 [(0, .ref (ad o0)), (3, .int y3)] → kx S0q → W p l e { frames := 5, cells := 0, slots := 0, locals := 117 } s m ([.ref (ad o0), .ref (ad o1), .int x2] : List Value).toArray below meth c H locs 0 0 (MQ below (QW (fun v (u : St) => ∃ r, v = some (.int r) ∧ k r u) D (fun u : St => [wcells cI ad o0 u, rcells cI ad o1 S1]) [wcells cI ad o0 S0, rcells cI ad o1 S1]) ([.ref (ad o0), .ref (ad o1), .int x2] : List Value).toArray s 0 0 (cOf (jn [wcells cI ad o0 S0, rcells cI ad o1 S1]))) (F0 m 78 ls [])) → ∀ (N51 : Nat) (y4 : Int32) (S0q : St) (H : Heap) (locs : List Loc), va_P D classes (jn [wcells cI ad o0 S0q, rcells cI ad o1 S1]) H → va_D (cOf (jn [wcells cI ad o0 S0, rcells cI ad o1 S1])) (jn [wcells cI ad o0 S0q, rcells cI ad o1 S1]) → va_S (cOf (jn [wcells cI ad o0 S0, rcells cI ad o1 S1])) s.heap H locs → ∀ ls : Array Slot, lv_has ls 5 [(0, .ref (ad o0)), (3, .int y3), (4, .int y4)] → wl_X4_mostTwos_51 y3 kx N51 y4 S0q → W p l e { frames := 5, cells := 0, slots := 0, locals := 117 } s m ([.ref (ad o0), .ref (ad o1), .int x2] : List Value).toArray below meth c H locs 0 0 (MQ below (QW (fun v (u : St) => ∃ r, v = some (.int r) ∧ k r u) D (fun u : St => [wcells cI ad o0 u, rcells cI ad o1 S1]) [wcells cI ad o0 S0, rcells cI ad o1 S1]) ([.ref (ad o0), .ref (ad o1), .int x2] : List Value).toArray s 0 0 (cOf (jn [wcells cI ad o0 S0, rcells cI ad o1 S1]))) (F0 m 51 ls []) := by
    intro y3 kx hxt N51
    induction N51 with
    | zero => intro y4 S0q H locs hP hD hS ls hl hw; exact False.elim hw
    | succ N51 ih =>
      intro y4 S0q H locs hP hD hS ls hl hw
      have hw : (if y3 < y4 then (kx S0q) else (wp_X4_bestOf S0q y4 (fun (v7 : Int32) => (wp_X3_put 64 (S0q.2 1) y4 v7 (fun (Z8 : (Nat → Int32)) => (wl_X4_mostTwos_51 y3 kx N51 (y4 + 1) (sA S0q 1 Z8))))))) := hw
      refine lv_iload hx hb dX4_mostTwos_51 (lv_at hl 2 rfl) ?_
      refine lv_iload_n hx hb dX4_mostTwos_53 rfl (lv_at hl 1 rfl) ?_
      refine lv_icmp_gt (tgt := 78) hx hb dX4_mostTwos_54 (by decide) (fun c6 => ?_) (fun c6 => ?_)
      · have hw := Eq.mp (if_pos c6) hw
        exact hxt S0q _ _ hP hD hS _ (lv_sub hl [0, 1] rfl) hw
      · have hw := Eq.mp (if_neg c6) hw
        refine lv_aload_n hx hb dX4_mostTwos_57 rfl (lv_at hl 0 rfl) ?_
        refine va_get (D := D) (ci := 4) (v := .ref (ad (o0 + 2))) (C := RX4) (T := TX4) (N := 2) hx hb hW inW_X4 hown hK hP 0 rfl rfl 1 (by decide) (hW _ fl_X4_20) (fun _ h9 => h9) rfl dX4_mostTwos_58 ?_
        refine lv_iload hx hb dX4_mostTwos_61 (lv_at hl 2 rfl) ?_
        refine lv_aload_n hx hb dX4_mostTwos_63 rfl (lv_at hl 0 rfl) ?_
        refine lv_iload hx hb dX4_mostTwos_64 (lv_at hl 2 rfl) ?_
        refine callR (va_runV (As := [.int y4]) (rest := [.int y4, .ref (ad (o0 + 2))]) ⟨hx, hb, hml, hown, hW⟩ (c_X4_bestOf l D cI cZ ad o0 S0q y4 _ hw) (cwV0 hW mV_X4_bestOf ml_X4_37 ⟨Nat.le_of_ble_eq_true rfl, Nat.le_of_ble_eq_true rfl⟩) (preV0 0 rfl rfl hK hN hP hD [0] rfl rfl) rfl rfl hl.1 rfl (lv_room (Nat.le_of_ble_eq_true rfl)) dX4_mostTwos_66 ⟨Nat.le_refl _, Nat.le_refl _⟩) (fun v9 hq => ?_)
        obtain ⟨v7, rfl, hw⟩ := hq
        refine W.eq (g2 := F0 m 69 ls [.int v7, .int y4, .ref (ad (o0 + 2))]) rfl ?_
        refine callW (va_runV (As := [.int y4, .int v7]) (rest := []) ⟨hx, hb, hml, hown, hW⟩ (c_X3_put__wed_1 l D cI cZ ad o0 S0q y4 v7 _ hw) (cwV0 hW mV_X3_put ml_X4_33 ⟨Nat.le_of_ble_eq_true rfl, Nat.le_of_ble_eq_true rfl⟩) (preV0 2 rfl rfl hK hN hP hD [0] rfl rfl) rfl rfl hl.1 rfl (lv_room (Nat.le_of_ble_eq_true rfl)) dX4_mostTwos_69 ⟨Nat.le_refl _, Nat.le_refl _⟩) hP hD hS [0] rfl rfl (fun _ => rfl) (fun v9 u9 H locs hq hP hD hS => ?_)
        obtain ⟨rfl, hw⟩ := hq
        obtain ⟨Z8, rfl⟩ : ∃ z, z = u9 := ⟨_, rfl⟩
        have hP : va_P D classes (jn [wcells cI ad o0 (sA S0q 1 Z8), rcells cI ad o1 S1]) H := hP
        have hD : va_D (cOf (jn [wcells cI ad o0 S0, rcells cI ad o1 S1])) (jn [wcells cI ad o0 (sA S0q 1 Z8), rcells cI ad o1 S1]) := hD
        refine W.eq (g2 := F0 m 72 ls []) rfl ?_
        refine lv_iinc (v := (y4 + 1)) (lv' := [(4, .int (y4 + 1)), (0, .ref (ad o0)), (3, .int y3)]) hx hb dX4_mostTwos_72 hl (k := 2) rfl rfl (by decide) rfl (fun ls hl => ?_)
        refine lv_goto (tgt := 51) hx hb dX4_mostTwos_75 (by decide) ?_
        exact ih (y4 + 1) (sA S0q 1 Z8) _ _ hP hD hS _ (lv_sub hl [1, 2, 0] rfl) hw
  have hw : (∃ M12, wl_X4_mostTwos_2 S1 x2 (fun (Z4 : St) => (wp_X3_put 64 (Z4.2 1) 0 0 (fun (Z5 : (Nat → Int32)) => (∃ M10, wl_X4_mostTwos_51 (((1 : Int32) <<< ((S1.1 0) &&& 31)) - 1) (fun (Z9 : St) => (k (F_X3_get 64 (Z9.2 1) (((1 : Int32) <<< ((S1.1 0) &&& 31)) - 1)) Z9)) M10 1 (sA Z4 1 Z5))))) M12 0 S0) := hw
  refine lv_iconst (v := 0) hx hb dX4_mostTwos_0 (by decide) ?_
  refine lv_istore_n (lv' := [(3, .int 0), (0, .ref (ad o0)), (1, .ref (ad o1)), (2, .int x2)]) hx hb dX4_mostTwos_1 rfl hl (by decide) rfl (fun ls hl => ?_)
  obtain ⟨N13, hw⟩ := hw
  refine L2  _ (fun Z4 H locs hP hD hS ls hl hw => ?_) N13 0 S0 _ _ hP hD hS _ (lv_sub hl [1, 2, 3, 0] rfl) hw
  refine lv_iconst (v := 1) hx hb dX4_mostTwos_30 (by decide) ?_
  refine lv_aload_n hx hb dX4_mostTwos_31 rfl (lv_at hl 1 rfl) ?_
  refine va_get (D := D) (ci := 2) (v := .int (S1.1 0)) (C := RX2) (T := TX2) (N := 15) hx hb hW inW_X2 hown hK hP 5 rfl rfl 0 (by decide) (hW _ fl_X4_23) (fun _ h9 => h9) rfl dX4_mostTwos_32 ?_
  refine lv_ishl hx hb dX4_mostTwos_35 ?_
  refine lv_iconst (v := 1) hx hb dX4_mostTwos_36 (by decide) ?_
  refine lv_isub hx hb dX4_mostTwos_37 ?_
  refine lv_istore_n (lv' := [(3, .int (((1 : Int32) <<< ((S1.1 0) &&& 31)) - 1)), (0, .ref (ad o0)), (1, .ref (ad o1))]) hx hb dX4_mostTwos_38 rfl hl (by decide) rfl (fun ls hl => ?_)
  refine lv_aload_n hx hb dX4_mostTwos_39 rfl (lv_at hl 1 rfl) ?_
  refine va_get (D := D) (ci := 4) (v := .ref (ad (o0 + 2))) (C := RX4) (T := TX4) (N := 2) hx hb hW inW_X4 hown hK hP 0 rfl rfl 1 (by decide) (hW _ fl_X4_20) (fun _ h9 => h9) rfl dX4_mostTwos_40 ?_
  refine lv_iconst (v := 0) hx hb dX4_mostTwos_43 (by decide) ?_
  refine lv_iconst (v := 0) hx hb dX4_mostTwos_44 (by decide) ?_
  refine callW (va_runV (As := [.int 0, .int 0]) (rest := []) ⟨hx, hb, hml, hown, hW⟩ (c_X3_put__wed_1 l D cI cZ ad o0 Z4 0 0 _ hw) (cwV0 hW mV_X3_put ml_X4_33 ⟨Nat.le_of_ble_eq_true rfl, Nat.le_of_ble_eq_true rfl⟩) (preV0 2 rfl rfl hK hN hP hD [0] rfl rfl) rfl rfl hl.1 rfl (lv_room (Nat.le_of_ble_eq_true rfl)) dX4_mostTwos_45 ⟨Nat.le_refl _, Nat.le_refl _⟩) hP hD hS [0] rfl rfl (fun _ => rfl) (fun v9 u9 H locs hq hP hD hS => ?_)
  obtain ⟨rfl, hw⟩ := hq
  obtain ⟨Z5, rfl⟩ : ∃ z, z = u9 := ⟨_, rfl⟩
  have hP : va_P D classes (jn [wcells cI ad o0 (sA Z4 1 Z5), rcells cI ad o1 S1]) H := hP
  have hD : va_D (cOf (jn [wcells cI ad o0 S0, rcells cI ad o1 S1])) (jn [wcells cI ad o0 (sA Z4 1 Z5), rcells cI ad o1 S1]) := hD
  refine W.eq (g2 := F0 m 48 ls []) rfl ?_
  refine lv_iconst (v := 1) hx hb dX4_mostTwos_48 (by decide) ?_
  refine lv_istore (lv' := [(4, .int 1), (3, .int (((1 : Int32) <<< ((S1.1 0) &&& 31)) - 1)), (0, .ref (ad o0)), (1, .ref (ad o1))]) hx hb dX4_mostTwos_49 hl (by decide) rfl (fun ls hl => ?_)
  obtain ⟨N11, hw⟩ := hw
  refine L51 (((1 : Int32) <<< ((S1.1 0) &&& 31)) - 1) _ (fun Z9 H locs hP hD hS ls hl hw => ?_) N11 1 (sA Z4 1 Z5) _ _ hP hD hS _ (lv_sub hl [2, 1, 0] rfl) hw
  refine lv_aload_n hx hb dX4_mostTwos_78 rfl (lv_at hl 0 rfl) ?_
  refine va_get (D := D) (ci := 4) (v := .ref (ad (o0 + 2))) (C := RX4) (T := TX4) (N := 2) hx hb hW inW_X4 hown hK hP 0 rfl rfl 1 (by decide) (hW _ fl_X4_20) (fun _ h9 => h9) rfl dX4_mostTwos_79 ?_
  refine lv_iload_n hx hb dX4_mostTwos_82 rfl (lv_at hl 1 rfl) ?_
  refine callF (va_runV (As := [.int (((1 : Int32) <<< ((S1.1 0) &&& 31)) - 1)]) (rest := []) ⟨hx, hb, hml, hown, hW⟩ (c_X3_get__wed_1 l D cI cZ ad o0 Z9 (((1 : Int32) <<< ((S1.1 0) &&& 31)) - 1) _ rfl) (cwV0 hW mV_X3_get ml_X4_41 ⟨Nat.le_of_ble_eq_true rfl, Nat.le_of_ble_eq_true rfl⟩) (preV0 2 rfl rfl hK hN hP hD [0] rfl rfl) rfl rfl hl.1 rfl (lv_room (Nat.le_of_ble_eq_true rfl)) dX4_mostTwos_83 ⟨Nat.le_refl _, Nat.le_refl _⟩) ?_
  refine W.eq (g2 := F0 m 86 ls [.int (F_X3_get 64 (Z9.2 1) (((1 : Int32) <<< ((S1.1 0) &&& 31)) - 1))]) rfl ?_
  exact W.iret (v := (F_X3_get 64 (Z9.2 1) (((1 : Int32) <<< ((S1.1 0) &&& 31)) - 1))) hx hb hr (fun t ht _ => ⟨⟨_, (Z9), rfl, ⟨_, rfl, hw⟩, by rw [ht]; exact hP⟩, hS.F ht⟩) hS.2.2 dX4_mostTwos_86
