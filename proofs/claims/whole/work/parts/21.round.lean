-- laid by wip/whole/all.py: the walks
set_option maxHeartbeats 4000000 in
set_option maxRecDepth 100000 in
theorem c_X2_startAnew (l : Launch) (D : va_G) (cI cZ : ClassId) (ad : Nat → Nat) (o0 : Nat) (S0 : St) (x1 : Int32) (k : St → Prop) (hw : wp_X2_startAnew S0 x1 k) : KW l yX2_startAnew cX2_startAnew 3 none 1 22 D cI cZ [.ref (ad o0), .int x1] [rcells cI ad o0 S0] (fun v (u : St) => v = none ∧ k u) (fun u : St => [rcells cI ad o0 u]) := by
  refine Met.ofE (by decide +kernel) (Nat.le_of_ble_eq_true rfl) ?_
  intro p e s m below meth c E ls hl
  obtain ⟨hx, hb, hr, hml, hW, hown, hlocks, hP, hK, hD, hN⟩ := E
  have hl : lv_has ls 3 [(0, .ref (ad o0)), (1, .int x1)] := hl
  have hS : va_S (cOf (jn [rcells cI ad o0 S0])) s.heap s.heap [] := va_S.rf
  have L68 : ∀  (kx : St → Prop), (∀ (S0q : St) (H : Heap) (locs : List Loc), va_P D classes (jn [rcells cI ad o0 S0q]) H → va_D (cOf (jn [rcells cI ad o0 S0])) (jn [rcells cI ad o0 S0q]) → va_S (cOf (jn [rcells cI ad o0 S0])) s.heap H locs → ∀ ls : Array Slot, lv_has ls 3 [] → kx S0q → W p l e { frames := 1, cells := 0, slots := 0, locals := 22 } s m ([.ref (ad o0), .int x1] : List Value).toArray below meth c H locs 0 0 (MQ below (QW (fun v (u : St) => v = none ∧ k u) D (fun u : St => [rcells cI ad o0 u]) [rcells cI ad o0 S0]) ([.ref (ad o0), .int x1] : List Value).toArray s 0 0 (cOf (jn [rcells cI ad o0 S0]))) (F0 m 88 ls [])) → ∀ (N68 : Nat) (y2 : Int32) (S0q : St) (H : Heap) (locs : List Loc), va_P D classes (jn [rcells cI ad o0 S0q]) H → va_D (cOf (jn [rcells cI ad o0 S0])) (jn [rcells cI ad o0 S0q]) → va_S (cOf (jn [rcells cI ad o0 S0])) s.heap H locs → ∀ ls : Array Slot, lv_has ls 3 [(0, .ref (ad o0)), (1, .int x1), (2, .int y2)] → wl_X2_startAnew_68 x1 kx N68 y2 S0q → W p l e { frames := 1, cells := 0, slots := 0, locals := 22 } s m ([.ref (ad o0), .int x1] : List Value).toArray below meth c H locs 0 0 (MQ below (QW (fun v (u : St) => v = none ∧ k u) D (fun u : St => [rcells cI ad o0 u]) [rcells cI ad o0 S0]) ([.ref (ad o0), .int x1] : List Value).toArray s 0 0 (cOf (jn [rcells cI ad o0 S0]))) (F0 m 68 ls []) := by
    intro  kx hxt N68
    induction N68 with
    | zero => intro y2 S0q H locs hP hD hS ls hl hw; exact False.elim hw
    | succ N68 ih =>
      intro y2 S0q H locs hP hD hS ls hl hw
      have hw : (if x1 ≤ y2 then (kx S0q) else (wp_X3_put 6 (S0q.2 8) y2 y2 (fun (Z6 : (Nat → Int32)) => (wl_X2_startAnew_68 x1 kx N68 (y2 + 1) (sA S0q 8 Z6))))) := hw
      refine lv_iload_n hx hb dX2_startAnew_68 rfl (lv_at hl 2 rfl) ?_
      refine lv_iload_n hx hb dX2_startAnew_69 rfl (lv_at hl 1 rfl) ?_
      refine lv_icmp_ge (tgt := 88) hx hb dX2_startAnew_70 (by decide) (fun c5 => ?_) (fun c5 => ?_)
      · have hw := Eq.mp (if_pos c5) hw
        exact hxt S0q _ _ hP hD hS _ (lv_sub hl [] rfl) hw
      · have hw := Eq.mp (if_neg c5) hw
        refine lv_aload_n hx hb dX2_startAnew_73 rfl (lv_at hl 0 rfl) ?_
        refine va_get (D := D) (ci := 2) (v := .ref (ad (o0 + 2))) (C := RX2) (T := TX2) (N := 15) hx hb hW inW_X2 hown hK hP 0 rfl rfl 8 (by decide) (hW _ fl_X2_20) (fun _ h9 => h9) rfl dX2_startAnew_74 ?_
        refine lv_iload_n hx hb dX2_startAnew_77 rfl (lv_at hl 2 rfl) ?_
        refine lv_iload_n hx hb dX2_startAnew_78 rfl (lv_at hl 2 rfl) ?_
        refine callW (va_runV (As := [.int y2, .int y2]) (rest := []) ⟨hx, hb, hml, hown, hW⟩ (c_X3_put__round_8 l D cI cZ ad o0 S0q y2 y2 _ hw) (cwV0 hW mV_X3_put ml_X2_63 ⟨Nat.le_of_ble_eq_true rfl, Nat.le_of_ble_eq_true rfl⟩) (preV0 2 rfl rfl hK hN hP hD [0] rfl rfl) rfl rfl hl.1 rfl (lv_room (Nat.le_of_ble_eq_true rfl)) dX2_startAnew_79 ⟨Nat.le_refl _, Nat.le_refl _⟩) hP hD hS [0] rfl rfl (fun _ => rfl) (fun v9 u9 H locs hq hP hD hS => ?_)
        obtain ⟨rfl, hw⟩ := hq
        obtain ⟨Z6, rfl⟩ : ∃ z, z = u9 := ⟨_, rfl⟩
        have hP : va_P D classes (jn [rcells cI ad o0 (sA S0q 8 Z6)]) H := hP
        have hD : va_D (cOf (jn [rcells cI ad o0 S0])) (jn [rcells cI ad o0 (sA S0q 8 Z6)]) := hD
        refine W.eq (g2 := F0 m 82 ls []) rfl ?_
        refine lv_iinc (v := (y2 + 1)) (lv' := [(2, .int (y2 + 1)), (0, .ref (ad o0)), (1, .int x1)]) hx hb dX2_startAnew_82 hl (k := 2) rfl rfl (by decide) rfl (fun ls hl => ?_)
        refine lv_goto (tgt := 68) hx hb dX2_startAnew_85 (by decide) ?_
        exact ih (y2 + 1) (sA S0q 8 Z6) _ _ hP hD hS _ (lv_sub hl [1, 2, 0] rfl) hw
  have hw : (wp_X3_fill 6 (S0.2 7) 0 (fun (Z1 : (Nat → Int32)) => (wp_X3_fill 6 (S0.2 9) 0 (fun (Z2 : (Nat → Int32)) => (wp_X3_fill 6 (S0.2 11) 0 (fun (Z3 : (Nat → Int32)) => (wp_X3_fill 6 (S0.2 12) 0 (fun (Z4 : (Nat → Int32)) => (∃ M8, wl_X2_startAnew_68 x1 (fun (Z7 : St) => (k Z7)) M8 0 (sA (sA (sA (sA (sI (sI (sI (sI (sI (sI S0 0 x1) 2 0) 3 0) 4 0) 6 0) 5 (((1 : Int32) <<< (x1 &&& 31)) - 1)) 7 Z1) 9 Z2) 11 Z3) 12 Z4)))))))))) := hw
  refine lv_aload_n hx hb dX2_startAnew_0 rfl (lv_at hl 0 rfl) ?_
  refine lv_iload_n hx hb dX2_startAnew_1 rfl (lv_at hl 1 rfl) ?_
  refine va_put (D := D) (ci := 2) (v := .int x1) (ty := .int) (C := RX2) (T := TX2) (N := 15) hx hb hW inW_X2 tyX2 tyX2_ok nmX2 hown hK hP hD hS 0 rfl rfl 0 (by decide) (hW _ fl_X2_41) (fun _ h9 => h9) rfl (by decide +kernel) rfl rfl (Nat.le_of_ble_eq_true rfl) dX2_startAnew_2 (fun H locs hP hD hS => ?_)
  have hP : va_P D classes (jn [rcells cI ad o0 (sI S0 0 x1)]) H := hP
  have hD : va_D (cOf (jn [rcells cI ad o0 S0])) (jn [rcells cI ad o0 (sI S0 0 x1)]) := hD
  refine lv_aload_n hx hb dX2_startAnew_5 rfl (lv_at hl 0 rfl) ?_
  refine lv_iconst (v := 0) hx hb dX2_startAnew_6 (by decide) ?_
  refine va_put (D := D) (ci := 2) (v := .int 0) (ty := .int) (C := RX2) (T := TX2) (N := 15) hx hb hW inW_X2 tyX2 tyX2_ok nmX2 hown hK hP hD hS 0 rfl rfl 2 (by decide) (hW _ fl_X2_45) (fun _ h9 => h9) rfl (by decide +kernel) rfl rfl (Nat.le_of_ble_eq_true rfl) dX2_startAnew_7 (fun H locs hP hD hS => ?_)
  have hP : va_P D classes (jn [rcells cI ad o0 (sI (sI S0 0 x1) 2 0)]) H := hP
  have hD : va_D (cOf (jn [rcells cI ad o0 S0])) (jn [rcells cI ad o0 (sI (sI S0 0 x1) 2 0)]) := hD
  refine lv_aload_n hx hb dX2_startAnew_10 rfl (lv_at hl 0 rfl) ?_
  refine lv_iconst (v := 0) hx hb dX2_startAnew_11 (by decide) ?_
  refine va_put (D := D) (ci := 2) (v := .int 0) (ty := .int) (C := RX2) (T := TX2) (N := 15) hx hb hW inW_X2 tyX2 tyX2_ok nmX2 hown hK hP hD hS 0 rfl rfl 3 (by decide) (hW _ fl_X2_48) (fun _ h9 => h9) rfl (by decide +kernel) rfl rfl (Nat.le_of_ble_eq_true rfl) dX2_startAnew_12 (fun H locs hP hD hS => ?_)
  have hP : va_P D classes (jn [rcells cI ad o0 (sI (sI (sI S0 0 x1) 2 0) 3 0)]) H := hP
  have hD : va_D (cOf (jn [rcells cI ad o0 S0])) (jn [rcells cI ad o0 (sI (sI (sI S0 0 x1) 2 0) 3 0)]) := hD
  refine lv_aload_n hx hb dX2_startAnew_15 rfl (lv_at hl 0 rfl) ?_
  refine lv_iconst (v := 0) hx hb dX2_startAnew_16 (by decide) ?_
  refine va_put (D := D) (ci := 2) (v := .int 0) (ty := .int) (C := RX2) (T := TX2) (N := 15) hx hb hW inW_X2 tyX2 tyX2_ok nmX2 hown hK hP hD hS 0 rfl rfl 4 (by decide) (hW _ fl_X2_51) (fun _ h9 => h9) rfl (by decide +kernel) rfl rfl (Nat.le_of_ble_eq_true rfl) dX2_startAnew_17 (fun H locs hP hD hS => ?_)
  have hP : va_P D classes (jn [rcells cI ad o0 (sI (sI (sI (sI S0 0 x1) 2 0) 3 0) 4 0)]) H := hP
  have hD : va_D (cOf (jn [rcells cI ad o0 S0])) (jn [rcells cI ad o0 (sI (sI (sI (sI S0 0 x1) 2 0) 3 0) 4 0)]) := hD
  refine lv_aload_n hx hb dX2_startAnew_20 rfl (lv_at hl 0 rfl) ?_
  refine lv_iconst (v := 0) hx hb dX2_startAnew_21 (by decide) ?_
  refine va_put (D := D) (ci := 2) (v := .int 0) (ty := .int) (C := RX2) (T := TX2) (N := 15) hx hb hW inW_X2 tyX2 tyX2_ok nmX2 hown hK hP hD hS 0 rfl rfl 6 (by decide) (hW _ fl_X2_54) (fun _ h9 => h9) rfl (by decide +kernel) rfl rfl (Nat.le_of_ble_eq_true rfl) dX2_startAnew_22 (fun H locs hP hD hS => ?_)
  have hP : va_P D classes (jn [rcells cI ad o0 (sI (sI (sI (sI (sI S0 0 x1) 2 0) 3 0) 4 0) 6 0)]) H := hP
  have hD : va_D (cOf (jn [rcells cI ad o0 S0])) (jn [rcells cI ad o0 (sI (sI (sI (sI (sI S0 0 x1) 2 0) 3 0) 4 0) 6 0)]) := hD
  refine lv_aload_n hx hb dX2_startAnew_25 rfl (lv_at hl 0 rfl) ?_
  refine lv_iconst (v := 1) hx hb dX2_startAnew_26 (by decide) ?_
  refine lv_iload_n hx hb dX2_startAnew_27 rfl (lv_at hl 1 rfl) ?_
  refine lv_ishl hx hb dX2_startAnew_28 ?_
  refine lv_iconst (v := 1) hx hb dX2_startAnew_29 (by decide) ?_
  refine lv_isub hx hb dX2_startAnew_30 ?_
  refine va_put (D := D) (ci := 2) (v := .int (((1 : Int32) <<< (x1 &&& 31)) - 1)) (ty := .int) (C := RX2) (T := TX2) (N := 15) hx hb hW inW_X2 tyX2 tyX2_ok nmX2 hown hK hP hD hS 0 rfl rfl 5 (by decide) (hW _ fl_X2_57) (fun _ h9 => h9) rfl (by decide +kernel) rfl rfl (Nat.le_of_ble_eq_true rfl) dX2_startAnew_31 (fun H locs hP hD hS => ?_)
  have hP : va_P D classes (jn [rcells cI ad o0 (sI (sI (sI (sI (sI (sI S0 0 x1) 2 0) 3 0) 4 0) 6 0) 5 (((1 : Int32) <<< (x1 &&& 31)) - 1))]) H := hP
  have hD : va_D (cOf (jn [rcells cI ad o0 S0])) (jn [rcells cI ad o0 (sI (sI (sI (sI (sI (sI S0 0 x1) 2 0) 3 0) 4 0) 6 0) 5 (((1 : Int32) <<< (x1 &&& 31)) - 1))]) := hD
  refine lv_aload_n hx hb dX2_startAnew_34 rfl (lv_at hl 0 rfl) ?_
  refine va_get (D := D) (ci := 2) (v := .ref (ad (o0 + 1))) (C := RX2) (T := TX2) (N := 15) hx hb hW inW_X2 hown hK hP 0 rfl rfl 7 (by decide) (hW _ fl_X2_14) (fun _ h9 => h9) rfl dX2_startAnew_35 ?_
  refine lv_iconst (v := 0) hx hb dX2_startAnew_38 (by decide) ?_
  refine callW (va_runV (As := [.int 0]) (rest := []) ⟨hx, hb, hml, hown, hW⟩ (c_X3_fill__round_7 l D cI cZ ad o0 (sI (sI (sI (sI (sI (sI S0 0 x1) 2 0) 3 0) 4 0) 6 0) 5 (((1 : Int32) <<< (x1 &&& 31)) - 1)) 0 _ hw) (cwV0 hW mV_X3_fill ml_X2_60 ⟨Nat.le_of_ble_eq_true rfl, Nat.le_of_ble_eq_true rfl⟩) (preV0 1 rfl rfl hK hN hP hD [0] rfl rfl) rfl rfl hl.1 rfl (lv_room (Nat.le_of_ble_eq_true rfl)) dX2_startAnew_39 ⟨Nat.le_refl _, Nat.le_refl _⟩) hP hD hS [0] rfl rfl (fun _ => rfl) (fun v9 u9 H locs hq hP hD hS => ?_)
  obtain ⟨rfl, hw⟩ := hq
  obtain ⟨Z1, rfl⟩ : ∃ z, z = u9 := ⟨_, rfl⟩
  have hP : va_P D classes (jn [rcells cI ad o0 (sA (sI (sI (sI (sI (sI (sI S0 0 x1) 2 0) 3 0) 4 0) 6 0) 5 (((1 : Int32) <<< (x1 &&& 31)) - 1)) 7 Z1)]) H := hP
  have hD : va_D (cOf (jn [rcells cI ad o0 S0])) (jn [rcells cI ad o0 (sA (sI (sI (sI (sI (sI (sI S0 0 x1) 2 0) 3 0) 4 0) 6 0) 5 (((1 : Int32) <<< (x1 &&& 31)) - 1)) 7 Z1)]) := hD
  refine W.eq (g2 := F0 m 42 ls []) rfl ?_
  refine lv_aload_n hx hb dX2_startAnew_42 rfl (lv_at hl 0 rfl) ?_
  refine va_get (D := D) (ci := 2) (v := .ref (ad (o0 + 3))) (C := RX2) (T := TX2) (N := 15) hx hb hW inW_X2 hown hK hP 0 rfl rfl 9 (by decide) (hW _ fl_X2_23) (fun _ h9 => h9) rfl dX2_startAnew_43 ?_
  refine lv_iconst (v := 0) hx hb dX2_startAnew_46 (by decide) ?_
  refine callW (va_runV (As := [.int 0]) (rest := []) ⟨hx, hb, hml, hown, hW⟩ (c_X3_fill__round_9 l D cI cZ ad o0 (sA (sI (sI (sI (sI (sI (sI S0 0 x1) 2 0) 3 0) 4 0) 6 0) 5 (((1 : Int32) <<< (x1 &&& 31)) - 1)) 7 Z1) 0 _ hw) (cwV0 hW mV_X3_fill ml_X2_60 ⟨Nat.le_of_ble_eq_true rfl, Nat.le_of_ble_eq_true rfl⟩) (preV0 3 rfl rfl hK hN hP hD [0] rfl rfl) rfl rfl hl.1 rfl (lv_room (Nat.le_of_ble_eq_true rfl)) dX2_startAnew_47 ⟨Nat.le_refl _, Nat.le_refl _⟩) hP hD hS [0] rfl rfl (fun _ => rfl) (fun v9 u9 H locs hq hP hD hS => ?_)
  obtain ⟨rfl, hw⟩ := hq
  obtain ⟨Z2, rfl⟩ : ∃ z, z = u9 := ⟨_, rfl⟩
  have hP : va_P D classes (jn [rcells cI ad o0 (sA (sA (sI (sI (sI (sI (sI (sI S0 0 x1) 2 0) 3 0) 4 0) 6 0) 5 (((1 : Int32) <<< (x1 &&& 31)) - 1)) 7 Z1) 9 Z2)]) H := hP
  have hD : va_D (cOf (jn [rcells cI ad o0 S0])) (jn [rcells cI ad o0 (sA (sA (sI (sI (sI (sI (sI (sI S0 0 x1) 2 0) 3 0) 4 0) 6 0) 5 (((1 : Int32) <<< (x1 &&& 31)) - 1)) 7 Z1) 9 Z2)]) := hD
  refine W.eq (g2 := F0 m 50 ls []) rfl ?_
  refine lv_aload_n hx hb dX2_startAnew_50 rfl (lv_at hl 0 rfl) ?_
  refine va_get (D := D) (ci := 2) (v := .ref (ad (o0 + 5))) (C := RX2) (T := TX2) (N := 15) hx hb hW inW_X2 hown hK hP 0 rfl rfl 11 (by decide) (hW _ fl_X2_29) (fun _ h9 => h9) rfl dX2_startAnew_51 ?_
  refine lv_iconst (v := 0) hx hb dX2_startAnew_54 (by decide) ?_
  refine callW (va_runV (As := [.int 0]) (rest := []) ⟨hx, hb, hml, hown, hW⟩ (c_X3_fill__round_11 l D cI cZ ad o0 (sA (sA (sI (sI (sI (sI (sI (sI S0 0 x1) 2 0) 3 0) 4 0) 6 0) 5 (((1 : Int32) <<< (x1 &&& 31)) - 1)) 7 Z1) 9 Z2) 0 _ hw) (cwV0 hW mV_X3_fill ml_X2_60 ⟨Nat.le_of_ble_eq_true rfl, Nat.le_of_ble_eq_true rfl⟩) (preV0 5 rfl rfl hK hN hP hD [0] rfl rfl) rfl rfl hl.1 rfl (lv_room (Nat.le_of_ble_eq_true rfl)) dX2_startAnew_55 ⟨Nat.le_refl _, Nat.le_refl _⟩) hP hD hS [0] rfl rfl (fun _ => rfl) (fun v9 u9 H locs hq hP hD hS => ?_)
  obtain ⟨rfl, hw⟩ := hq
  obtain ⟨Z3, rfl⟩ : ∃ z, z = u9 := ⟨_, rfl⟩
  have hP : va_P D classes (jn [rcells cI ad o0 (sA (sA (sA (sI (sI (sI (sI (sI (sI S0 0 x1) 2 0) 3 0) 4 0) 6 0) 5 (((1 : Int32) <<< (x1 &&& 31)) - 1)) 7 Z1) 9 Z2) 11 Z3)]) H := hP
  have hD : va_D (cOf (jn [rcells cI ad o0 S0])) (jn [rcells cI ad o0 (sA (sA (sA (sI (sI (sI (sI (sI (sI S0 0 x1) 2 0) 3 0) 4 0) 6 0) 5 (((1 : Int32) <<< (x1 &&& 31)) - 1)) 7 Z1) 9 Z2) 11 Z3)]) := hD
  refine W.eq (g2 := F0 m 58 ls []) rfl ?_
  refine lv_aload_n hx hb dX2_startAnew_58 rfl (lv_at hl 0 rfl) ?_
  refine va_get (D := D) (ci := 2) (v := .ref (ad (o0 + 6))) (C := RX2) (T := TX2) (N := 15) hx hb hW inW_X2 hown hK hP 0 rfl rfl 12 (by decide) (hW _ fl_X2_32) (fun _ h9 => h9) rfl dX2_startAnew_59 ?_
  refine lv_iconst (v := 0) hx hb dX2_startAnew_62 (by decide) ?_
  refine callW (va_runV (As := [.int 0]) (rest := []) ⟨hx, hb, hml, hown, hW⟩ (c_X3_fill__round_12 l D cI cZ ad o0 (sA (sA (sA (sI (sI (sI (sI (sI (sI S0 0 x1) 2 0) 3 0) 4 0) 6 0) 5 (((1 : Int32) <<< (x1 &&& 31)) - 1)) 7 Z1) 9 Z2) 11 Z3) 0 _ hw) (cwV0 hW mV_X3_fill ml_X2_60 ⟨Nat.le_of_ble_eq_true rfl, Nat.le_of_ble_eq_true rfl⟩) (preV0 6 rfl rfl hK hN hP hD [0] rfl rfl) rfl rfl hl.1 rfl (lv_room (Nat.le_of_ble_eq_true rfl)) dX2_startAnew_63 ⟨Nat.le_refl _, Nat.le_refl _⟩) hP hD hS [0] rfl rfl (fun _ => rfl) (fun v9 u9 H locs hq hP hD hS => ?_)
  obtain ⟨rfl, hw⟩ := hq
  obtain ⟨Z4, rfl⟩ : ∃ z, z = u9 := ⟨_, rfl⟩
  have hP : va_P D classes (jn [rcells cI ad o0 (sA (sA (sA (sA (sI (sI (sI (sI (sI (sI S0 0 x1) 2 0) 3 0) 4 0) 6 0) 5 (((1 : Int32) <<< (x1 &&& 31)) - 1)) 7 Z1) 9 Z2) 11 Z3) 12 Z4)]) H := hP
  have hD : va_D (cOf (jn [rcells cI ad o0 S0])) (jn [rcells cI ad o0 (sA (sA (sA (sA (sI (sI (sI (sI (sI (sI S0 0 x1) 2 0) 3 0) 4 0) 6 0) 5 (((1 : Int32) <<< (x1 &&& 31)) - 1)) 7 Z1) 9 Z2) 11 Z3) 12 Z4)]) := hD
  refine W.eq (g2 := F0 m 66 ls []) rfl ?_
  refine lv_iconst (v := 0) hx hb dX2_startAnew_66 (by decide) ?_
  refine lv_istore_n (lv' := [(2, .int 0), (0, .ref (ad o0)), (1, .int x1)]) hx hb dX2_startAnew_67 rfl hl (by decide) rfl (fun ls hl => ?_)
  obtain ⟨N9, hw⟩ := hw
  refine L68  _ (fun Z7 H locs hP hD hS ls hl hw => ?_) N9 0 (sA (sA (sA (sA (sI (sI (sI (sI (sI (sI S0 0 x1) 2 0) 3 0) 4 0) 6 0) 5 (((1 : Int32) <<< (x1 &&& 31)) - 1)) 7 Z1) 9 Z2) 11 Z3) 12 Z4) _ _ hP hD hS _ (lv_sub hl [1, 2, 0] rfl) hw
  exact W.vret hx hb hr (fun t ht _ => ⟨⟨_, (Z7), rfl, ⟨rfl, hw⟩, by rw [ht]; exact hP⟩, hS.F ht⟩) hS.2.2 dX2_startAnew_88
set_option maxHeartbeats 4000000 in
set_option maxRecDepth 100000 in
theorem c_X2_takeOver (l : Launch) (D : va_G) (cI cZ : ClassId) (ad : Nat → Nat) (o0 : Nat) (S0 : St) (o1 : Nat) (S1 : St) (k : St → Prop) (hw : wp_X2_takeOver S0 S1 k) : KW l yX2_takeOver cX2_takeOver 2 none 2 43 D cI cZ [.ref (ad o0), .ref (ad o1)] [rcells cI ad o0 S0, rcells cI ad o1 S1] (fun v (u : St) => v = none ∧ k u) (fun u : St => [rcells cI ad o0 u, rcells cI ad o1 S1]) := by
  refine Met.ofE (by decide +kernel) (Nat.le_of_ble_eq_true rfl) ?_
  intro p e s m below meth c E ls hl
  obtain ⟨hx, hb, hr, hml, hW, hown, hlocks, hP, hK, hD, hN⟩ := E
  have hl : lv_has ls 2 [(0, .ref (ad o0)), (1, .ref (ad o1))] := hl
  have hS : va_S (cOf (jn [rcells cI ad o0 S0, rcells cI ad o1 S1])) s.heap s.heap [] := va_S.rf
  have hw : (wp_X3_takeOver 6 (S0.2 7) (S1.2 7) (fun (Z1 : (Nat → Int32)) => (wp_X3_takeOver 6 (S0.2 8) (S1.2 8) (fun (Z2 : (Nat → Int32)) => (wp_X3_takeOver 6 (S0.2 9) (S1.2 9) (fun (Z3 : (Nat → Int32)) => (wp_X3_takeOver 6 (S0.2 11) (S1.2 11) (fun (Z4 : (Nat → Int32)) => (wp_X3_takeOver 6 (S0.2 12) (S1.2 12) (fun (Z5 : (Nat → Int32)) => (wp_X3_takeOver 8 (S0.2 13) (S1.2 13) (fun (Z6 : (Nat → Int32)) => (wp_X3_takeOver 8 (S0.2 14) (S1.2 14) (fun (Z7 : (Nat → Int32)) => (k (sA (sA (sA (sA (sA (sA (sA (sI (sI (sI (sI (sI (sI (sI S0 0 (S1.1 0)) 1 (S1.1 1)) 2 (S1.1 2)) 3 (S1.1 3)) 4 (S1.1 4)) 5 (S1.1 5)) 6 (S1.1 6)) 7 Z1) 8 Z2) 9 Z3) 11 Z4) 12 Z5) 13 Z6) 14 Z7)))))))))))))))) := hw
  refine lv_aload_n hx hb dX2_takeOver_0 rfl (lv_at hl 0 rfl) ?_
  refine lv_aload_n hx hb dX2_takeOver_1 rfl (lv_at hl 1 rfl) ?_
  refine va_get (D := D) (ci := 2) (v := .int (S1.1 0)) (C := RX2) (T := TX2) (N := 15) hx hb hW inW_X2 hown hK hP 17 rfl rfl 0 (by decide) (hW _ fl_X2_41) (fun _ h9 => h9) rfl dX2_takeOver_2 ?_
  refine va_put (D := D) (ci := 2) (v := .int (S1.1 0)) (ty := .int) (C := RX2) (T := TX2) (N := 15) hx hb hW inW_X2 tyX2 tyX2_ok nmX2 hown hK hP hD hS 0 rfl rfl 0 (by decide) (hW _ fl_X2_41) (fun _ h9 => h9) rfl (by decide +kernel) rfl rfl (Nat.le_of_ble_eq_true rfl) dX2_takeOver_5 (fun H locs hP hD hS => ?_)
  have hP : va_P D classes (jn [rcells cI ad o0 (sI S0 0 (S1.1 0)), rcells cI ad o1 S1]) H := hP
  have hD : va_D (cOf (jn [rcells cI ad o0 S0, rcells cI ad o1 S1])) (jn [rcells cI ad o0 (sI S0 0 (S1.1 0)), rcells cI ad o1 S1]) := hD
  refine lv_aload_n hx hb dX2_takeOver_8 rfl (lv_at hl 0 rfl) ?_
  refine lv_aload_n hx hb dX2_takeOver_9 rfl (lv_at hl 1 rfl) ?_
  refine va_get (D := D) (ci := 2) (v := .int (S1.1 1)) (C := RX2) (T := TX2) (N := 15) hx hb hW inW_X2 hown hK hP 17 rfl rfl 1 (by decide) (hW _ fl_X2_67) (fun _ h9 => h9) rfl dX2_takeOver_10 ?_
  refine va_put (D := D) (ci := 2) (v := .int (S1.1 1)) (ty := .int) (C := RX2) (T := TX2) (N := 15) hx hb hW inW_X2 tyX2 tyX2_ok nmX2 hown hK hP hD hS 0 rfl rfl 1 (by decide) (hW _ fl_X2_67) (fun _ h9 => h9) rfl (by decide +kernel) rfl rfl (Nat.le_of_ble_eq_true rfl) dX2_takeOver_13 (fun H locs hP hD hS => ?_)
  have hP : va_P D classes (jn [rcells cI ad o0 (sI (sI S0 0 (S1.1 0)) 1 (S1.1 1)), rcells cI ad o1 S1]) H := hP
  have hD : va_D (cOf (jn [rcells cI ad o0 S0, rcells cI ad o1 S1])) (jn [rcells cI ad o0 (sI (sI S0 0 (S1.1 0)) 1 (S1.1 1)), rcells cI ad o1 S1]) := hD
  refine lv_aload_n hx hb dX2_takeOver_16 rfl (lv_at hl 0 rfl) ?_
  refine lv_aload_n hx hb dX2_takeOver_17 rfl (lv_at hl 1 rfl) ?_
  refine va_get (D := D) (ci := 2) (v := .int (S1.1 2)) (C := RX2) (T := TX2) (N := 15) hx hb hW inW_X2 hown hK hP 17 rfl rfl 2 (by decide) (hW _ fl_X2_45) (fun _ h9 => h9) rfl dX2_takeOver_18 ?_
  refine va_put (D := D) (ci := 2) (v := .int (S1.1 2)) (ty := .int) (C := RX2) (T := TX2) (N := 15) hx hb hW inW_X2 tyX2 tyX2_ok nmX2 hown hK hP hD hS 0 rfl rfl 2 (by decide) (hW _ fl_X2_45) (fun _ h9 => h9) rfl (by decide +kernel) rfl rfl (Nat.le_of_ble_eq_true rfl) dX2_takeOver_21 (fun H locs hP hD hS => ?_)
  have hP : va_P D classes (jn [rcells cI ad o0 (sI (sI (sI S0 0 (S1.1 0)) 1 (S1.1 1)) 2 (S1.1 2)), rcells cI ad o1 S1]) H := hP
  have hD : va_D (cOf (jn [rcells cI ad o0 S0, rcells cI ad o1 S1])) (jn [rcells cI ad o0 (sI (sI (sI S0 0 (S1.1 0)) 1 (S1.1 1)) 2 (S1.1 2)), rcells cI ad o1 S1]) := hD
  refine lv_aload_n hx hb dX2_takeOver_24 rfl (lv_at hl 0 rfl) ?_
  refine lv_aload_n hx hb dX2_takeOver_25 rfl (lv_at hl 1 rfl) ?_
  refine va_get (D := D) (ci := 2) (v := .int (S1.1 3)) (C := RX2) (T := TX2) (N := 15) hx hb hW inW_X2 hown hK hP 17 rfl rfl 3 (by decide) (hW _ fl_X2_48) (fun _ h9 => h9) rfl dX2_takeOver_26 ?_
  refine va_put (D := D) (ci := 2) (v := .int (S1.1 3)) (ty := .int) (C := RX2) (T := TX2) (N := 15) hx hb hW inW_X2 tyX2 tyX2_ok nmX2 hown hK hP hD hS 0 rfl rfl 3 (by decide) (hW _ fl_X2_48) (fun _ h9 => h9) rfl (by decide +kernel) rfl rfl (Nat.le_of_ble_eq_true rfl) dX2_takeOver_29 (fun H locs hP hD hS => ?_)
  have hP : va_P D classes (jn [rcells cI ad o0 (sI (sI (sI (sI S0 0 (S1.1 0)) 1 (S1.1 1)) 2 (S1.1 2)) 3 (S1.1 3)), rcells cI ad o1 S1]) H := hP
  have hD : va_D (cOf (jn [rcells cI ad o0 S0, rcells cI ad o1 S1])) (jn [rcells cI ad o0 (sI (sI (sI (sI S0 0 (S1.1 0)) 1 (S1.1 1)) 2 (S1.1 2)) 3 (S1.1 3)), rcells cI ad o1 S1]) := hD
  refine lv_aload_n hx hb dX2_takeOver_32 rfl (lv_at hl 0 rfl) ?_
  refine lv_aload_n hx hb dX2_takeOver_33 rfl (lv_at hl 1 rfl) ?_
  refine va_get (D := D) (ci := 2) (v := .int (S1.1 4)) (C := RX2) (T := TX2) (N := 15) hx hb hW inW_X2 hown hK hP 17 rfl rfl 4 (by decide) (hW _ fl_X2_51) (fun _ h9 => h9) rfl dX2_takeOver_34 ?_
  refine va_put (D := D) (ci := 2) (v := .int (S1.1 4)) (ty := .int) (C := RX2) (T := TX2) (N := 15) hx hb hW inW_X2 tyX2 tyX2_ok nmX2 hown hK hP hD hS 0 rfl rfl 4 (by decide) (hW _ fl_X2_51) (fun _ h9 => h9) rfl (by decide +kernel) rfl rfl (Nat.le_of_ble_eq_true rfl) dX2_takeOver_37 (fun H locs hP hD hS => ?_)
  have hP : va_P D classes (jn [rcells cI ad o0 (sI (sI (sI (sI (sI S0 0 (S1.1 0)) 1 (S1.1 1)) 2 (S1.1 2)) 3 (S1.1 3)) 4 (S1.1 4)), rcells cI ad o1 S1]) H := hP
  have hD : va_D (cOf (jn [rcells cI ad o0 S0, rcells cI ad o1 S1])) (jn [rcells cI ad o0 (sI (sI (sI (sI (sI S0 0 (S1.1 0)) 1 (S1.1 1)) 2 (S1.1 2)) 3 (S1.1 3)) 4 (S1.1 4)), rcells cI ad o1 S1]) := hD
  refine lv_aload_n hx hb dX2_takeOver_40 rfl (lv_at hl 0 rfl) ?_
  refine lv_aload_n hx hb dX2_takeOver_41 rfl (lv_at hl 1 rfl) ?_
  refine va_get (D := D) (ci := 2) (v := .int (S1.1 5)) (C := RX2) (T := TX2) (N := 15) hx hb hW inW_X2 hown hK hP 17 rfl rfl 5 (by decide) (hW _ fl_X2_57) (fun _ h9 => h9) rfl dX2_takeOver_42 ?_
  refine va_put (D := D) (ci := 2) (v := .int (S1.1 5)) (ty := .int) (C := RX2) (T := TX2) (N := 15) hx hb hW inW_X2 tyX2 tyX2_ok nmX2 hown hK hP hD hS 0 rfl rfl 5 (by decide) (hW _ fl_X2_57) (fun _ h9 => h9) rfl (by decide +kernel) rfl rfl (Nat.le_of_ble_eq_true rfl) dX2_takeOver_45 (fun H locs hP hD hS => ?_)
  have hP : va_P D classes (jn [rcells cI ad o0 (sI (sI (sI (sI (sI (sI S0 0 (S1.1 0)) 1 (S1.1 1)) 2 (S1.1 2)) 3 (S1.1 3)) 4 (S1.1 4)) 5 (S1.1 5)), rcells cI ad o1 S1]) H := hP
  have hD : va_D (cOf (jn [rcells cI ad o0 S0, rcells cI ad o1 S1])) (jn [rcells cI ad o0 (sI (sI (sI (sI (sI (sI S0 0 (S1.1 0)) 1 (S1.1 1)) 2 (S1.1 2)) 3 (S1.1 3)) 4 (S1.1 4)) 5 (S1.1 5)), rcells cI ad o1 S1]) := hD
  refine lv_aload_n hx hb dX2_takeOver_48 rfl (lv_at hl 0 rfl) ?_
  refine lv_aload_n hx hb dX2_takeOver_49 rfl (lv_at hl 1 rfl) ?_
  refine va_get (D := D) (ci := 2) (v := .int (S1.1 6)) (C := RX2) (T := TX2) (N := 15) hx hb hW inW_X2 hown hK hP 17 rfl rfl 6 (by decide) (hW _ fl_X2_54) (fun _ h9 => h9) rfl dX2_takeOver_50 ?_
  refine va_put (D := D) (ci := 2) (v := .int (S1.1 6)) (ty := .int) (C := RX2) (T := TX2) (N := 15) hx hb hW inW_X2 tyX2 tyX2_ok nmX2 hown hK hP hD hS 0 rfl rfl 6 (by decide) (hW _ fl_X2_54) (fun _ h9 => h9) rfl (by decide +kernel) rfl rfl (Nat.le_of_ble_eq_true rfl) dX2_takeOver_53 (fun H locs hP hD hS => ?_)
  have hP : va_P D classes (jn [rcells cI ad o0 (sI (sI (sI (sI (sI (sI (sI S0 0 (S1.1 0)) 1 (S1.1 1)) 2 (S1.1 2)) 3 (S1.1 3)) 4 (S1.1 4)) 5 (S1.1 5)) 6 (S1.1 6)), rcells cI ad o1 S1]) H := hP
  have hD : va_D (cOf (jn [rcells cI ad o0 S0, rcells cI ad o1 S1])) (jn [rcells cI ad o0 (sI (sI (sI (sI (sI (sI (sI S0 0 (S1.1 0)) 1 (S1.1 1)) 2 (S1.1 2)) 3 (S1.1 3)) 4 (S1.1 4)) 5 (S1.1 5)) 6 (S1.1 6)), rcells cI ad o1 S1]) := hD
  refine lv_aload_n hx hb dX2_takeOver_56 rfl (lv_at hl 0 rfl) ?_
  refine va_get (D := D) (ci := 2) (v := .ref (ad (o0 + 1))) (C := RX2) (T := TX2) (N := 15) hx hb hW inW_X2 hown hK hP 0 rfl rfl 7 (by decide) (hW _ fl_X2_14) (fun _ h9 => h9) rfl dX2_takeOver_57 ?_
  refine lv_aload_n hx hb dX2_takeOver_60 rfl (lv_at hl 1 rfl) ?_
  refine va_get (D := D) (ci := 2) (v := .ref (ad (o1 + 1))) (C := RX2) (T := TX2) (N := 15) hx hb hW inW_X2 hown hK hP 17 rfl rfl 7 (by decide) (hW _ fl_X2_14) (fun _ h9 => h9) rfl dX2_takeOver_61 ?_
  refine callW (va_runV (As := [.ref (ad (o1 + 1))]) (rest := []) ⟨hx, hb, hml, hown, hW⟩ (c_X3_takeOver__round_7 l D cI cZ ad o0 (sI (sI (sI (sI (sI (sI (sI S0 0 (S1.1 0)) 1 (S1.1 1)) 2 (S1.1 2)) 3 (S1.1 3)) 4 (S1.1 4)) 5 (S1.1 5)) 6 (S1.1 6)) o1 S1 _ hw) (cwV0 hW mV_X3_takeOver ml_X2_70 ⟨Nat.le_of_ble_eq_true rfl, Nat.le_of_ble_eq_true rfl⟩) (preV0 1 rfl rfl hK hN hP hD [0, 1] rfl rfl) rfl rfl hl.1 rfl (lv_room (Nat.le_of_ble_eq_true rfl)) dX2_takeOver_64 ⟨Nat.le_refl _, Nat.le_refl _⟩) hP hD hS [0, 1] rfl rfl (fun _ => rfl) (fun v9 u9 H locs hq hP hD hS => ?_)
  obtain ⟨rfl, hw⟩ := hq
  obtain ⟨Z1, rfl⟩ : ∃ z, z = u9 := ⟨_, rfl⟩
  have hP : va_P D classes (jn [rcells cI ad o0 (sA (sI (sI (sI (sI (sI (sI (sI S0 0 (S1.1 0)) 1 (S1.1 1)) 2 (S1.1 2)) 3 (S1.1 3)) 4 (S1.1 4)) 5 (S1.1 5)) 6 (S1.1 6)) 7 Z1), rcells cI ad o1 S1]) H := hP
  have hD : va_D (cOf (jn [rcells cI ad o0 S0, rcells cI ad o1 S1])) (jn [rcells cI ad o0 (sA (sI (sI (sI (sI (sI (sI (sI S0 0 (S1.1 0)) 1 (S1.1 1)) 2 (S1.1 2)) 3 (S1.1 3)) 4 (S1.1 4)) 5 (S1.1 5)) 6 (S1.1 6)) 7 Z1), rcells cI ad o1 S1]) := hD
  refine W.eq (g2 := F0 m 67 ls []) rfl ?_
  refine lv_aload_n hx hb dX2_takeOver_67 rfl (lv_at hl 0 rfl) ?_
  refine va_get (D := D) (ci := 2) (v := .ref (ad (o0 + 2))) (C := RX2) (T := TX2) (N := 15) hx hb hW inW_X2 hown hK hP 0 rfl rfl 8 (by decide) (hW _ fl_X2_20) (fun _ h9 => h9) rfl dX2_takeOver_68 ?_
  refine lv_aload_n hx hb dX2_takeOver_71 rfl (lv_at hl 1 rfl) ?_
  refine va_get (D := D) (ci := 2) (v := .ref (ad (o1 + 2))) (C := RX2) (T := TX2) (N := 15) hx hb hW inW_X2 hown hK hP 17 rfl rfl 8 (by decide) (hW _ fl_X2_20) (fun _ h9 => h9) rfl dX2_takeOver_72 ?_
  refine callW (va_runV (As := [.ref (ad (o1 + 2))]) (rest := []) ⟨hx, hb, hml, hown, hW⟩ (c_X3_takeOver__round_8 l D cI cZ ad o0 (sA (sI (sI (sI (sI (sI (sI (sI S0 0 (S1.1 0)) 1 (S1.1 1)) 2 (S1.1 2)) 3 (S1.1 3)) 4 (S1.1 4)) 5 (S1.1 5)) 6 (S1.1 6)) 7 Z1) o1 S1 _ hw) (cwV0 hW mV_X3_takeOver ml_X2_70 ⟨Nat.le_of_ble_eq_true rfl, Nat.le_of_ble_eq_true rfl⟩) (preV0 2 rfl rfl hK hN hP hD [0, 1] rfl rfl) rfl rfl hl.1 rfl (lv_room (Nat.le_of_ble_eq_true rfl)) dX2_takeOver_75 ⟨Nat.le_refl _, Nat.le_refl _⟩) hP hD hS [0, 1] rfl rfl (fun _ => rfl) (fun v9 u9 H locs hq hP hD hS => ?_)
  obtain ⟨rfl, hw⟩ := hq
  obtain ⟨Z2, rfl⟩ : ∃ z, z = u9 := ⟨_, rfl⟩
  have hP : va_P D classes (jn [rcells cI ad o0 (sA (sA (sI (sI (sI (sI (sI (sI (sI S0 0 (S1.1 0)) 1 (S1.1 1)) 2 (S1.1 2)) 3 (S1.1 3)) 4 (S1.1 4)) 5 (S1.1 5)) 6 (S1.1 6)) 7 Z1) 8 Z2), rcells cI ad o1 S1]) H := hP
  have hD : va_D (cOf (jn [rcells cI ad o0 S0, rcells cI ad o1 S1])) (jn [rcells cI ad o0 (sA (sA (sI (sI (sI (sI (sI (sI (sI S0 0 (S1.1 0)) 1 (S1.1 1)) 2 (S1.1 2)) 3 (S1.1 3)) 4 (S1.1 4)) 5 (S1.1 5)) 6 (S1.1 6)) 7 Z1) 8 Z2), rcells cI ad o1 S1]) := hD
  refine W.eq (g2 := F0 m 78 ls []) rfl ?_
  refine lv_aload_n hx hb dX2_takeOver_78 rfl (lv_at hl 0 rfl) ?_
  refine va_get (D := D) (ci := 2) (v := .ref (ad (o0 + 3))) (C := RX2) (T := TX2) (N := 15) hx hb hW inW_X2 hown hK hP 0 rfl rfl 9 (by decide) (hW _ fl_X2_23) (fun _ h9 => h9) rfl dX2_takeOver_79 ?_
  refine lv_aload_n hx hb dX2_takeOver_82 rfl (lv_at hl 1 rfl) ?_
  refine va_get (D := D) (ci := 2) (v := .ref (ad (o1 + 3))) (C := RX2) (T := TX2) (N := 15) hx hb hW inW_X2 hown hK hP 17 rfl rfl 9 (by decide) (hW _ fl_X2_23) (fun _ h9 => h9) rfl dX2_takeOver_83 ?_
  refine callW (va_runV (As := [.ref (ad (o1 + 3))]) (rest := []) ⟨hx, hb, hml, hown, hW⟩ (c_X3_takeOver__round_9 l D cI cZ ad o0 (sA (sA (sI (sI (sI (sI (sI (sI (sI S0 0 (S1.1 0)) 1 (S1.1 1)) 2 (S1.1 2)) 3 (S1.1 3)) 4 (S1.1 4)) 5 (S1.1 5)) 6 (S1.1 6)) 7 Z1) 8 Z2) o1 S1 _ hw) (cwV0 hW mV_X3_takeOver ml_X2_70 ⟨Nat.le_of_ble_eq_true rfl, Nat.le_of_ble_eq_true rfl⟩) (preV0 3 rfl rfl hK hN hP hD [0, 1] rfl rfl) rfl rfl hl.1 rfl (lv_room (Nat.le_of_ble_eq_true rfl)) dX2_takeOver_86 ⟨Nat.le_refl _, Nat.le_refl _⟩) hP hD hS [0, 1] rfl rfl (fun _ => rfl) (fun v9 u9 H locs hq hP hD hS => ?_)
  obtain ⟨rfl, hw⟩ := hq
  obtain ⟨Z3, rfl⟩ : ∃ z, z = u9 := ⟨_, rfl⟩
  have hP : va_P D classes (jn [rcells cI ad o0 (sA (sA (sA (sI (sI (sI (sI (sI (sI (sI S0 0 (S1.1 0)) 1 (S1.1 1)) 2 (S1.1 2)) 3 (S1.1 3)) 4 (S1.1 4)) 5 (S1.1 5)) 6 (S1.1 6)) 7 Z1) 8 Z2) 9 Z3), rcells cI ad o1 S1]) H := hP
  have hD : va_D (cOf (jn [rcells cI ad o0 S0, rcells cI ad o1 S1])) (jn [rcells cI ad o0 (sA (sA (sA (sI (sI (sI (sI (sI (sI (sI S0 0 (S1.1 0)) 1 (S1.1 1)) 2 (S1.1 2)) 3 (S1.1 3)) 4 (S1.1 4)) 5 (S1.1 5)) 6 (S1.1 6)) 7 Z1) 8 Z2) 9 Z3), rcells cI ad o1 S1]) := hD
  refine W.eq (g2 := F0 m 89 ls []) rfl ?_
  refine lv_aload_n hx hb dX2_takeOver_89 rfl (lv_at hl 0 rfl) ?_
  refine va_get (D := D) (ci := 2) (v := .ref (ad (o0 + 5))) (C := RX2) (T := TX2) (N := 15) hx hb hW inW_X2 hown hK hP 0 rfl rfl 11 (by decide) (hW _ fl_X2_29) (fun _ h9 => h9) rfl dX2_takeOver_90 ?_
  refine lv_aload_n hx hb dX2_takeOver_93 rfl (lv_at hl 1 rfl) ?_
  refine va_get (D := D) (ci := 2) (v := .ref (ad (o1 + 5))) (C := RX2) (T := TX2) (N := 15) hx hb hW inW_X2 hown hK hP 17 rfl rfl 11 (by decide) (hW _ fl_X2_29) (fun _ h9 => h9) rfl dX2_takeOver_94 ?_
  refine callW (va_runV (As := [.ref (ad (o1 + 5))]) (rest := []) ⟨hx, hb, hml, hown, hW⟩ (c_X3_takeOver__round_11 l D cI cZ ad o0 (sA (sA (sA (sI (sI (sI (sI (sI (sI (sI S0 0 (S1.1 0)) 1 (S1.1 1)) 2 (S1.1 2)) 3 (S1.1 3)) 4 (S1.1 4)) 5 (S1.1 5)) 6 (S1.1 6)) 7 Z1) 8 Z2) 9 Z3) o1 S1 _ hw) (cwV0 hW mV_X3_takeOver ml_X2_70 ⟨Nat.le_of_ble_eq_true rfl, Nat.le_of_ble_eq_true rfl⟩) (preV0 5 rfl rfl hK hN hP hD [0, 1] rfl rfl) rfl rfl hl.1 rfl (lv_room (Nat.le_of_ble_eq_true rfl)) dX2_takeOver_97 ⟨Nat.le_refl _, Nat.le_refl _⟩) hP hD hS [0, 1] rfl rfl (fun _ => rfl) (fun v9 u9 H locs hq hP hD hS => ?_)
  obtain ⟨rfl, hw⟩ := hq
  obtain ⟨Z4, rfl⟩ : ∃ z, z = u9 := ⟨_, rfl⟩
  have hP : va_P D classes (jn [rcells cI ad o0 (sA (sA (sA (sA (sI (sI (sI (sI (sI (sI (sI S0 0 (S1.1 0)) 1 (S1.1 1)) 2 (S1.1 2)) 3 (S1.1 3)) 4 (S1.1 4)) 5 (S1.1 5)) 6 (S1.1 6)) 7 Z1) 8 Z2) 9 Z3) 11 Z4), rcells cI ad o1 S1]) H := hP
  have hD : va_D (cOf (jn [rcells cI ad o0 S0, rcells cI ad o1 S1])) (jn [rcells cI ad o0 (sA (sA (sA (sA (sI (sI (sI (sI (sI (sI (sI S0 0 (S1.1 0)) 1 (S1.1 1)) 2 (S1.1 2)) 3 (S1.1 3)) 4 (S1.1 4)) 5 (S1.1 5)) 6 (S1.1 6)) 7 Z1) 8 Z2) 9 Z3) 11 Z4), rcells cI ad o1 S1]) := hD
  refine W.eq (g2 := F0 m 100 ls []) rfl ?_
  refine lv_aload_n hx hb dX2_takeOver_100 rfl (lv_at hl 0 rfl) ?_
  refine va_get (D := D) (ci := 2) (v := .ref (ad (o0 + 6))) (C := RX2) (T := TX2) (N := 15) hx hb hW inW_X2 hown hK hP 0 rfl rfl 12 (by decide) (hW _ fl_X2_32) (fun _ h9 => h9) rfl dX2_takeOver_101 ?_
  refine lv_aload_n hx hb dX2_takeOver_104 rfl (lv_at hl 1 rfl) ?_
  refine va_get (D := D) (ci := 2) (v := .ref (ad (o1 + 6))) (C := RX2) (T := TX2) (N := 15) hx hb hW inW_X2 hown hK hP 17 rfl rfl 12 (by decide) (hW _ fl_X2_32) (fun _ h9 => h9) rfl dX2_takeOver_105 ?_
  refine callW (va_runV (As := [.ref (ad (o1 + 6))]) (rest := []) ⟨hx, hb, hml, hown, hW⟩ (c_X3_takeOver__round_12 l D cI cZ ad o0 (sA (sA (sA (sA (sI (sI (sI (sI (sI (sI (sI S0 0 (S1.1 0)) 1 (S1.1 1)) 2 (S1.1 2)) 3 (S1.1 3)) 4 (S1.1 4)) 5 (S1.1 5)) 6 (S1.1 6)) 7 Z1) 8 Z2) 9 Z3) 11 Z4) o1 S1 _ hw) (cwV0 hW mV_X3_takeOver ml_X2_70 ⟨Nat.le_of_ble_eq_true rfl, Nat.le_of_ble_eq_true rfl⟩) (preV0 6 rfl rfl hK hN hP hD [0, 1] rfl rfl) rfl rfl hl.1 rfl (lv_room (Nat.le_of_ble_eq_true rfl)) dX2_takeOver_108 ⟨Nat.le_refl _, Nat.le_refl _⟩) hP hD hS [0, 1] rfl rfl (fun _ => rfl) (fun v9 u9 H locs hq hP hD hS => ?_)
  obtain ⟨rfl, hw⟩ := hq
  obtain ⟨Z5, rfl⟩ : ∃ z, z = u9 := ⟨_, rfl⟩
  have hP : va_P D classes (jn [rcells cI ad o0 (sA (sA (sA (sA (sA (sI (sI (sI (sI (sI (sI (sI S0 0 (S1.1 0)) 1 (S1.1 1)) 2 (S1.1 2)) 3 (S1.1 3)) 4 (S1.1 4)) 5 (S1.1 5)) 6 (S1.1 6)) 7 Z1) 8 Z2) 9 Z3) 11 Z4) 12 Z5), rcells cI ad o1 S1]) H := hP
  have hD : va_D (cOf (jn [rcells cI ad o0 S0, rcells cI ad o1 S1])) (jn [rcells cI ad o0 (sA (sA (sA (sA (sA (sI (sI (sI (sI (sI (sI (sI S0 0 (S1.1 0)) 1 (S1.1 1)) 2 (S1.1 2)) 3 (S1.1 3)) 4 (S1.1 4)) 5 (S1.1 5)) 6 (S1.1 6)) 7 Z1) 8 Z2) 9 Z3) 11 Z4) 12 Z5), rcells cI ad o1 S1]) := hD
  refine W.eq (g2 := F0 m 111 ls []) rfl ?_
  refine lv_aload_n hx hb dX2_takeOver_111 rfl (lv_at hl 0 rfl) ?_
  refine va_get (D := D) (ci := 2) (v := .ref (ad (o0 + 7))) (C := RX2) (T := TX2) (N := 15) hx hb hW inW_X2 hown hK hP 0 rfl rfl 13 (by decide) (hW _ fl_X2_35) (fun _ h9 => h9) rfl dX2_takeOver_112 ?_
  refine lv_aload_n hx hb dX2_takeOver_115 rfl (lv_at hl 1 rfl) ?_
  refine va_get (D := D) (ci := 2) (v := .ref (ad (o1 + 7))) (C := RX2) (T := TX2) (N := 15) hx hb hW inW_X2 hown hK hP 17 rfl rfl 13 (by decide) (hW _ fl_X2_35) (fun _ h9 => h9) rfl dX2_takeOver_116 ?_
  refine callW (va_runV (As := [.ref (ad (o1 + 7))]) (rest := []) ⟨hx, hb, hml, hown, hW⟩ (c_X3_takeOver__round_13 l D cI cZ ad o0 (sA (sA (sA (sA (sA (sI (sI (sI (sI (sI (sI (sI S0 0 (S1.1 0)) 1 (S1.1 1)) 2 (S1.1 2)) 3 (S1.1 3)) 4 (S1.1 4)) 5 (S1.1 5)) 6 (S1.1 6)) 7 Z1) 8 Z2) 9 Z3) 11 Z4) 12 Z5) o1 S1 _ hw) (cwV0 hW mV_X3_takeOver ml_X2_70 ⟨Nat.le_of_ble_eq_true rfl, Nat.le_of_ble_eq_true rfl⟩) (preV0 7 rfl rfl hK hN hP hD [0, 1] rfl rfl) rfl rfl hl.1 rfl (lv_room (Nat.le_of_ble_eq_true rfl)) dX2_takeOver_119 ⟨Nat.le_refl _, Nat.le_refl _⟩) hP hD hS [0, 1] rfl rfl (fun _ => rfl) (fun v9 u9 H locs hq hP hD hS => ?_)
  obtain ⟨rfl, hw⟩ := hq
  obtain ⟨Z6, rfl⟩ : ∃ z, z = u9 := ⟨_, rfl⟩
  have hP : va_P D classes (jn [rcells cI ad o0 (sA (sA (sA (sA (sA (sA (sI (sI (sI (sI (sI (sI (sI S0 0 (S1.1 0)) 1 (S1.1 1)) 2 (S1.1 2)) 3 (S1.1 3)) 4 (S1.1 4)) 5 (S1.1 5)) 6 (S1.1 6)) 7 Z1) 8 Z2) 9 Z3) 11 Z4) 12 Z5) 13 Z6), rcells cI ad o1 S1]) H := hP
  have hD : va_D (cOf (jn [rcells cI ad o0 S0, rcells cI ad o1 S1])) (jn [rcells cI ad o0 (sA (sA (sA (sA (sA (sA (sI (sI (sI (sI (sI (sI (sI S0 0 (S1.1 0)) 1 (S1.1 1)) 2 (S1.1 2)) 3 (S1.1 3)) 4 (S1.1 4)) 5 (S1.1 5)) 6 (S1.1 6)) 7 Z1) 8 Z2) 9 Z3) 11 Z4) 12 Z5) 13 Z6), rcells cI ad o1 S1]) := hD
  refine W.eq (g2 := F0 m 122 ls []) rfl ?_
  refine lv_aload_n hx hb dX2_takeOver_122 rfl (lv_at hl 0 rfl) ?_
  refine va_get (D := D) (ci := 2) (v := .ref (ad (o0 + 8))) (C := RX2) (T := TX2) (N := 15) hx hb hW inW_X2 hown hK hP 0 rfl rfl 14 (by decide) (hW _ fl_X2_38) (fun _ h9 => h9) rfl dX2_takeOver_123 ?_
  refine lv_aload_n hx hb dX2_takeOver_126 rfl (lv_at hl 1 rfl) ?_
  refine va_get (D := D) (ci := 2) (v := .ref (ad (o1 + 8))) (C := RX2) (T := TX2) (N := 15) hx hb hW inW_X2 hown hK hP 17 rfl rfl 14 (by decide) (hW _ fl_X2_38) (fun _ h9 => h9) rfl dX2_takeOver_127 ?_
  refine callW (va_runV (As := [.ref (ad (o1 + 8))]) (rest := []) ⟨hx, hb, hml, hown, hW⟩ (c_X3_takeOver__round_14 l D cI cZ ad o0 (sA (sA (sA (sA (sA (sA (sI (sI (sI (sI (sI (sI (sI S0 0 (S1.1 0)) 1 (S1.1 1)) 2 (S1.1 2)) 3 (S1.1 3)) 4 (S1.1 4)) 5 (S1.1 5)) 6 (S1.1 6)) 7 Z1) 8 Z2) 9 Z3) 11 Z4) 12 Z5) 13 Z6) o1 S1 _ hw) (cwV0 hW mV_X3_takeOver ml_X2_70 ⟨Nat.le_of_ble_eq_true rfl, Nat.le_of_ble_eq_true rfl⟩) (preV0 8 rfl rfl hK hN hP hD [0, 1] rfl rfl) rfl rfl hl.1 rfl (lv_room (Nat.le_of_ble_eq_true rfl)) dX2_takeOver_130 ⟨Nat.le_refl _, Nat.le_refl _⟩) hP hD hS [0, 1] rfl rfl (fun _ => rfl) (fun v9 u9 H locs hq hP hD hS => ?_)
  obtain ⟨rfl, hw⟩ := hq
  obtain ⟨Z7, rfl⟩ : ∃ z, z = u9 := ⟨_, rfl⟩
  have hP : va_P D classes (jn [rcells cI ad o0 (sA (sA (sA (sA (sA (sA (sA (sI (sI (sI (sI (sI (sI (sI S0 0 (S1.1 0)) 1 (S1.1 1)) 2 (S1.1 2)) 3 (S1.1 3)) 4 (S1.1 4)) 5 (S1.1 5)) 6 (S1.1 6)) 7 Z1) 8 Z2) 9 Z3) 11 Z4) 12 Z5) 13 Z6) 14 Z7), rcells cI ad o1 S1]) H := hP
  have hD : va_D (cOf (jn [rcells cI ad o0 S0, rcells cI ad o1 S1])) (jn [rcells cI ad o0 (sA (sA (sA (sA (sA (sA (sA (sI (sI (sI (sI (sI (sI (sI S0 0 (S1.1 0)) 1 (S1.1 1)) 2 (S1.1 2)) 3 (S1.1 3)) 4 (S1.1 4)) 5 (S1.1 5)) 6 (S1.1 6)) 7 Z1) 8 Z2) 9 Z3) 11 Z4) 12 Z5) 13 Z6) 14 Z7), rcells cI ad o1 S1]) := hD
  refine W.eq (g2 := F0 m 133 ls []) rfl ?_
  exact W.vret hx hb hr (fun t ht _ => ⟨⟨_, ((sA (sA (sA (sA (sA (sA (sA (sI (sI (sI (sI (sI (sI (sI S0 0 (S1.1 0)) 1 (S1.1 1)) 2 (S1.1 2)) 3 (S1.1 3)) 4 (S1.1 4)) 5 (S1.1 5)) 6 (S1.1 6)) 7 Z1) 8 Z2) 9 Z3) 11 Z4) 12 Z5) 13 Z6) 14 Z7)), rfl, ⟨rfl, hw⟩, by rw [ht]; exact hP⟩, hS.F ht⟩) hS.2.2 dX2_takeOver_133
set_option maxHeartbeats 4000000 in
set_option maxRecDepth 100000 in
theorem c_X2_has (l : Launch) (D : va_G) (cI cZ : ClassId) (ad : Nat → Nat) (o0 : Nat) (S0 : St) (x1 : Int32) (r9 : Int32) (hw : F_X2_has S0 x1 = r9) : KF l yX2_has cX2_has 2 (some .boolean) 0 0 D cI cZ [.ref (ad o0), .int x1] [rcells cI ad o0 S0] (some (.int r9)) := by
  refine Met.ofE (by decide +kernel) (Nat.le_of_ble_eq_true rfl) ?_
  intro p e s m below meth c E ls hl
  obtain ⟨hx, hb, hr, hml, hW, hown, hlocks, hP, hK, hD, hN⟩ := E
  have hl : lv_has ls 2 [(0, .ref (ad o0)), (1, .int x1)] := hl
  have hw : (if x1 < 0 then 0 else (if (S0.1 0) ≤ x1 then 0 else 1)) = r9 := hw
  refine lv_iload_n hx hb dX2_has_0 rfl (lv_at hl 1 rfl) ?_
  refine lv_if_lt (tgt := 16) hx hb dX2_has_1 (by decide) (fun c1 => ?_) (fun c1 => ?_)
  · have hw := (if_pos c1).symm.trans hw
    refine lv_iconst (v := 0) hx hb dX2_has_16 (by decide) ?_
    subst hw
    exact W.zret (v := 0) hx hb hr rfl (fun t ht _ => ⟨rfl, ht⟩) (fun _ h => by cases h) dX2_has_17
  · have hw := (if_neg c1).symm.trans hw
    refine lv_iload_n hx hb dX2_has_4 rfl (lv_at hl 1 rfl) ?_
    refine lv_aload_n hx hb dX2_has_5 rfl (lv_at hl 0 rfl) ?_
    refine va_get (D := D) (ci := 2) (v := .int (S0.1 0)) (C := RX2) (T := TX2) (N := 15) hx hb hW inW_X2 hown hK hP 0 rfl rfl 0 (by decide) (hW _ fl_X2_41) (fun _ h9 => h9) rfl dX2_has_6 ?_
    refine lv_icmp_ge (tgt := 16) hx hb dX2_has_9 (by decide) (fun c2 => ?_) (fun c2 => ?_)
    · have hw := (if_pos c2).symm.trans hw
      refine lv_iconst (v := 0) hx hb dX2_has_16 (by decide) ?_
      subst hw
      exact W.zret (v := 0) hx hb hr rfl (fun t ht _ => ⟨rfl, ht⟩) (fun _ h => by cases h) dX2_has_17
    · have hw := (if_neg c2).symm.trans hw
      refine lv_iconst (v := 1) hx hb dX2_has_12 (by decide) ?_
      refine lv_goto (tgt := 17) hx hb dX2_has_13 (by decide) ?_
      subst hw
      exact W.zret (v := 1) hx hb hr rfl (fun t ht _ => ⟨rfl, ht⟩) (fun _ h => by cases h) dX2_has_17
set_option maxHeartbeats 4000000 in
set_option maxRecDepth 100000 in
theorem c_X2_hasBoth (l : Launch) (D : va_G) (cI cZ : ClassId) (ad : Nat → Nat) (o0 : Nat) (S0 : St) (x1 : Int32) (x2 : Int32) (r9 : Int32) (hw : F_X2_hasBoth S0 x1 x2 = r9) : KF l yX2_hasBoth cX2_hasBoth 3 (some .boolean) 1 21 D cI cZ [.ref (ad o0), .int x1, .int x2] [rcells cI ad o0 S0] (some (.int r9)) := by
  refine Met.ofE (by decide +kernel) (Nat.le_of_ble_eq_true rfl) ?_
  intro p e s m below meth c E ls hl
  obtain ⟨hx, hb, hr, hml, hW, hown, hlocks, hP, hK, hD, hN⟩ := E
  have hl : lv_has ls 3 [(0, .ref (ad o0)), (1, .int x1), (2, .int x2)] := hl
  have hw : (if (F_X2_has S0 x1) = 0 then 0 else (if (F_X2_has S0 x2) = 0 then 0 else (if x1 = x2 then 0 else 1))) = r9 := hw
  refine lv_aload_n hx hb dX2_hasBoth_0 rfl (lv_at hl 0 rfl) ?_
  refine lv_iload_n hx hb dX2_hasBoth_1 rfl (lv_at hl 1 rfl) ?_
  refine callF (va_runV (As := [.int x1]) (rest := []) ⟨hx, hb, hml, hown, hW⟩ (c_X2_has l D cI cZ ad o0 S0 x1 _ rfl) (cwV0 hW mV_X2_has ml_X2_74 ⟨Nat.le_of_ble_eq_true rfl, Nat.le_of_ble_eq_true rfl⟩) (preV0 0 rfl rfl hK hN hP hD [0] rfl rfl) rfl rfl hl.1 rfl (lv_room (Nat.le_of_ble_eq_true rfl)) dX2_hasBoth_2 ⟨Nat.le_refl _, Nat.le_refl _⟩) ?_
  refine W.eq (g2 := F0 m 5 ls [.int (F_X2_has S0 x1)]) rfl ?_
  refine lv_if_eq (tgt := 25) hx hb dX2_hasBoth_5 (by decide) (fun c1 => ?_) (fun c1 => ?_)
  · have hw := (if_pos c1).symm.trans hw
    refine lv_iconst (v := 0) hx hb dX2_hasBoth_25 (by decide) ?_
    subst hw
    exact W.zret (v := 0) hx hb hr rfl (fun t ht _ => ⟨rfl, ht⟩) (fun _ h => by cases h) dX2_hasBoth_26
  · have hw := (if_neg c1).symm.trans hw
    refine lv_aload_n hx hb dX2_hasBoth_8 rfl (lv_at hl 0 rfl) ?_
    refine lv_iload_n hx hb dX2_hasBoth_9 rfl (lv_at hl 2 rfl) ?_
    refine callF (va_runV (As := [.int x2]) (rest := []) ⟨hx, hb, hml, hown, hW⟩ (c_X2_has l D cI cZ ad o0 S0 x2 _ rfl) (cwV0 hW mV_X2_has ml_X2_74 ⟨Nat.le_of_ble_eq_true rfl, Nat.le_of_ble_eq_true rfl⟩) (preV0 0 rfl rfl hK hN hP hD [0] rfl rfl) rfl rfl hl.1 rfl (lv_room (Nat.le_of_ble_eq_true rfl)) dX2_hasBoth_10 ⟨Nat.le_refl _, Nat.le_refl _⟩) ?_
    refine W.eq (g2 := F0 m 13 ls [.int (F_X2_has S0 x2)]) rfl ?_
    refine lv_if_eq (tgt := 25) hx hb dX2_hasBoth_13 (by decide) (fun c2 => ?_) (fun c2 => ?_)
    · have hw := (if_pos c2).symm.trans hw
      refine lv_iconst (v := 0) hx hb dX2_hasBoth_25 (by decide) ?_
      subst hw
      exact W.zret (v := 0) hx hb hr rfl (fun t ht _ => ⟨rfl, ht⟩) (fun _ h => by cases h) dX2_hasBoth_26
    · have hw := (if_neg c2).symm.trans hw
      refine lv_iload_n hx hb dX2_hasBoth_16 rfl (lv_at hl 1 rfl) ?_
      refine lv_iload_n hx hb dX2_hasBoth_17 rfl (lv_at hl 2 rfl) ?_
      refine lv_icmp_eq (tgt := 25) hx hb dX2_hasBoth_18 (by decide) (fun c3 => ?_) (fun c3 => ?_)
      · have hw := (if_pos c3).symm.trans hw
        refine lv_iconst (v := 0) hx hb dX2_hasBoth_25 (by decide) ?_
        subst hw
        exact W.zret (v := 0) hx hb hr rfl (fun t ht _ => ⟨rfl, ht⟩) (fun _ h => by cases h) dX2_hasBoth_26
      · have hw := (if_neg c3).symm.trans hw
        refine lv_iconst (v := 1) hx hb dX2_hasBoth_21 (by decide) ?_
        refine lv_goto (tgt := 26) hx hb dX2_hasBoth_22 (by decide) ?_
        subst hw
        exact W.zret (v := 1) hx hb hr rfl (fun t ht _ => ⟨rfl, ht⟩) (fun _ h => by cases h) dX2_hasBoth_26
set_option maxHeartbeats 4000000 in
set_option maxRecDepth 100000 in
theorem c_X2_lives (l : Launch) (D : va_G) (cI cZ : ClassId) (ad : Nat → Nat) (o0 : Nat) (S0 : St) (x1 : Int32) (r9 : Int32) (hw : F_X2_lives S0 x1 = r9) : KF l yX2_lives cX2_lives 2 (some .boolean) 0 0 D cI cZ [.ref (ad o0), .int x1] [rcells cI ad o0 S0] (some (.int r9)) := by
  refine Met.ofE (by decide +kernel) (Nat.le_of_ble_eq_true rfl) ?_
  intro p e s m below meth c E ls hl
  obtain ⟨hx, hb, hr, hml, hW, hown, hlocks, hP, hK, hD, hN⟩ := E
  have hl : lv_has ls 2 [(0, .ref (ad o0)), (1, .int x1)] := hl
  have hw : (if x1 < 0 then 0 else (if (S0.1 0) ≤ x1 then 0 else (if (((S0.1 5) >>> (x1 &&& 31)) &&& 1) = 1 then 1 else 0))) = r9 := hw
  refine lv_iload_n hx hb dX2_lives_0 rfl (lv_at hl 1 rfl) ?_
  refine lv_if_lt (tgt := 28) hx hb dX2_lives_1 (by decide) (fun c1 => ?_) (fun c1 => ?_)
  · have hw := (if_pos c1).symm.trans hw
    refine lv_iconst (v := 0) hx hb dX2_lives_28 (by decide) ?_
    subst hw
    exact W.zret (v := 0) hx hb hr rfl (fun t ht _ => ⟨rfl, ht⟩) (fun _ h => by cases h) dX2_lives_29
  · have hw := (if_neg c1).symm.trans hw
    refine lv_iload_n hx hb dX2_lives_4 rfl (lv_at hl 1 rfl) ?_
    refine lv_aload_n hx hb dX2_lives_5 rfl (lv_at hl 0 rfl) ?_
    refine va_get (D := D) (ci := 2) (v := .int (S0.1 0)) (C := RX2) (T := TX2) (N := 15) hx hb hW inW_X2 hown hK hP 0 rfl rfl 0 (by decide) (hW _ fl_X2_41) (fun _ h9 => h9) rfl dX2_lives_6 ?_
    refine lv_icmp_ge (tgt := 28) hx hb dX2_lives_9 (by decide) (fun c2 => ?_) (fun c2 => ?_)
    · have hw := (if_pos c2).symm.trans hw
      refine lv_iconst (v := 0) hx hb dX2_lives_28 (by decide) ?_
      subst hw
      exact W.zret (v := 0) hx hb hr rfl (fun t ht _ => ⟨rfl, ht⟩) (fun _ h => by cases h) dX2_lives_29
    · have hw := (if_neg c2).symm.trans hw
      refine lv_aload_n hx hb dX2_lives_12 rfl (lv_at hl 0 rfl) ?_
      refine va_get (D := D) (ci := 2) (v := .int (S0.1 5)) (C := RX2) (T := TX2) (N := 15) hx hb hW inW_X2 hown hK hP 0 rfl rfl 5 (by decide) (hW _ fl_X2_57) (fun _ h9 => h9) rfl dX2_lives_13 ?_
      refine lv_iload_n hx hb dX2_lives_16 rfl (lv_at hl 1 rfl) ?_
      refine lv_ishr hx hb dX2_lives_17 ?_
      refine lv_iconst (v := 1) hx hb dX2_lives_18 (by decide) ?_
      refine lv_iand hx hb dX2_lives_19 ?_
      refine lv_iconst (v := 1) hx hb dX2_lives_20 (by decide) ?_
      refine lv_icmp_ne (tgt := 28) hx hb dX2_lives_21 (by decide) (fun c3 => ?_) (fun c3 => ?_)
      · have hw := (if_neg c3).symm.trans hw
        refine lv_iconst (v := 0) hx hb dX2_lives_28 (by decide) ?_
        subst hw
        exact W.zret (v := 0) hx hb hr rfl (fun t ht _ => ⟨rfl, ht⟩) (fun _ h => by cases h) dX2_lives_29
      · have hw := (if_pos c3).symm.trans hw
        refine lv_iconst (v := 1) hx hb dX2_lives_24 (by decide) ?_
        refine lv_goto (tgt := 29) hx hb dX2_lives_25 (by decide) ?_
        subst hw
        exact W.zret (v := 1) hx hb hr rfl (fun t ht _ => ⟨rfl, ht⟩) (fun _ h => by cases h) dX2_lives_29
set_option maxHeartbeats 4000000 in
set_option maxRecDepth 100000 in
theorem c_X2_bearerOf (l : Launch) (D : va_G) (cI cZ : ClassId) (ad : Nat → Nat) (o0 : Nat) (S0 : St) (x1 : Int32) (k : Int32 → Prop) (hw : wp_X2_bearerOf S0 x1 k) : KR l yX2_bearerOf cX2_bearerOf 3 (some .int) 1 21 D cI cZ [.ref (ad o0), .int x1] [rcells cI ad o0 S0] (fun v => ∃ r, v = some (.int r) ∧ k r) := by
  refine Met.ofE (by decide +kernel) (Nat.le_of_ble_eq_true rfl) ?_
  intro p e s m below meth c E ls hl
  obtain ⟨hx, hb, hr, hml, hW, hown, hlocks, hP, hK, hD, hN⟩ := E
  have hl : lv_has ls 3 [(0, .ref (ad o0)), (1, .int x1)] := hl
  have L2 : ∀  (kx : Prop), (∀ ls : Array Slot, lv_has ls 3 [] → kx → W p l e { frames := 1, cells := 0, slots := 0, locals := 21 } s m ([.ref (ad o0), .int x1] : List Value).toArray below meth c s.heap [] 0 0 (MQ below (QR (fun v => ∃ r, v = some (.int r) ∧ k r)) ([.ref (ad o0), .int x1] : List Value).toArray s 0 0 (fun _ => False)) (F0 m 30 ls [])) → ∀ (N2 : Nat) (y2 : Int32), ∀ ls : Array Slot, lv_has ls 3 [(0, .ref (ad o0)), (1, .int x1), (2, .int y2)] → wl_X2_bearerOf_2 S0 x1 kx k N2 y2 → W p l e { frames := 1, cells := 0, slots := 0, locals := 21 } s m ([.ref (ad o0), .int x1] : List Value).toArray below meth c s.heap [] 0 0 (MQ below (QR (fun v => ∃ r, v = some (.int r) ∧ k r)) ([.ref (ad o0), .int x1] : List Value).toArray s 0 0 (fun _ => False)) (F0 m 2 ls []) := by
    intro  kx hxt N2
    induction N2 with
    | zero => intro y2 ls hl hw; exact False.elim hw
    | succ N2 ih =>
      intro y2 ls hl hw
      have hw : (if (S0.1 0) ≤ y2 then kx else (if (F_X3_get 6 (S0.2 8) y2) = x1 then (k y2) else (wl_X2_bearerOf_2 S0 x1 kx k N2 (y2 + 1)))) := hw
      refine lv_iload_n hx hb dX2_bearerOf_2 rfl (lv_at hl 2 rfl) ?_
      refine lv_aload_n hx hb dX2_bearerOf_3 rfl (lv_at hl 0 rfl) ?_
      refine va_get (D := D) (ci := 2) (v := .int (S0.1 0)) (C := RX2) (T := TX2) (N := 15) hx hb hW inW_X2 hown hK hP 0 rfl rfl 0 (by decide) (hW _ fl_X2_41) (fun _ h9 => h9) rfl dX2_bearerOf_4 ?_
      refine lv_icmp_ge (tgt := 30) hx hb dX2_bearerOf_7 (by decide) (fun c1 => ?_) (fun c1 => ?_)
      · have hw := Eq.mp (if_pos c1) hw
        exact hxt  _ (lv_sub hl [] rfl) hw
      · have hw := Eq.mp (if_neg c1) hw
        refine lv_aload_n hx hb dX2_bearerOf_10 rfl (lv_at hl 0 rfl) ?_
        refine va_get (D := D) (ci := 2) (v := .ref (ad (o0 + 2))) (C := RX2) (T := TX2) (N := 15) hx hb hW inW_X2 hown hK hP 0 rfl rfl 8 (by decide) (hW _ fl_X2_20) (fun _ h9 => h9) rfl dX2_bearerOf_11 ?_
        refine lv_iload_n hx hb dX2_bearerOf_14 rfl (lv_at hl 2 rfl) ?_
        refine callF (va_runV (As := [.int y2]) (rest := []) ⟨hx, hb, hml, hown, hW⟩ (c_X3_get__round_8 l D cI cZ ad o0 S0 y2 _ rfl) (cwV0 hW mV_X3_get ml_X2_78 ⟨Nat.le_of_ble_eq_true rfl, Nat.le_of_ble_eq_true rfl⟩) (preV0 2 rfl rfl hK hN hP hD [0] rfl rfl) rfl rfl hl.1 rfl (lv_room (Nat.le_of_ble_eq_true rfl)) dX2_bearerOf_15 ⟨Nat.le_refl _, Nat.le_refl _⟩) ?_
        refine W.eq (g2 := F0 m 18 ls [.int (F_X3_get 6 (S0.2 8) y2)]) rfl ?_
        refine lv_iload_n hx hb dX2_bearerOf_18 rfl (lv_at hl 1 rfl) ?_
        refine lv_icmp_ne (tgt := 24) hx hb dX2_bearerOf_19 (by decide) (fun c2 => ?_) (fun c2 => ?_)
        · have hw := Eq.mp (if_neg c2) hw
          refine lv_iinc (v := (y2 + 1)) (lv' := [(2, .int (y2 + 1)), (0, .ref (ad o0)), (1, .int x1)]) hx hb dX2_bearerOf_24 hl (k := 2) rfl rfl (by decide) rfl (fun ls hl => ?_)
          refine lv_goto (tgt := 2) hx hb dX2_bearerOf_27 (by decide) ?_
          exact ih (y2 + 1) _ (lv_sub hl [1, 2, 0] rfl) hw
        · have hw := Eq.mp (if_pos c2) hw
          refine lv_iload_n hx hb dX2_bearerOf_22 rfl (lv_at hl 2 rfl) ?_
          exact W.iret (v := y2) hx hb hr (fun t ht _ => ⟨⟨_, rfl, ⟨_, rfl, hw⟩⟩, ht⟩) (fun _ h => by cases h) dX2_bearerOf_23
  have hw : (∃ M3, wl_X2_bearerOf_2 S0 x1 (k (-6)) k M3 0) := hw
  refine lv_iconst (v := 0) hx hb dX2_bearerOf_0 (by decide) ?_
  refine lv_istore_n (lv' := [(2, .int 0), (0, .ref (ad o0)), (1, .int x1)]) hx hb dX2_bearerOf_1 rfl hl (by decide) rfl (fun ls hl => ?_)
  obtain ⟨N4, hw⟩ := hw
  refine L2  _ (fun  ls hl hw => ?_) N4 0 _ (lv_sub hl [1, 2, 0] rfl) hw
  refine lv_bipush (v := (-6)) hx hb dX2_bearerOf_30 (by decide) ?_
  exact W.iret (v := (-6)) hx hb hr (fun t ht _ => ⟨⟨_, rfl, ⟨_, rfl, hw⟩⟩, ht⟩) (fun _ h => by cases h) dX2_bearerOf_32
set_option maxHeartbeats 4000000 in
set_option maxRecDepth 100000 in
theorem c_X2_die (l : Launch) (D : va_G) (cI cZ : ClassId) (ad : Nat → Nat) (o0 : Nat) (S0 : St) (x1 : Int32) (k : Int32 → St → Prop) (hw : wp_X2_die S0 x1 k) : KW l yX2_die cX2_die 2 (some .int) 1 21 D cI cZ [.ref (ad o0), .int x1] [rcells cI ad o0 S0] (fun v (u : St) => ∃ r, v = some (.int r) ∧ k r u) (fun u : St => [rcells cI ad o0 u]) := by
  refine Met.ofE (by decide +kernel) (Nat.le_of_ble_eq_true rfl) ?_
  intro p e s m below meth c E ls hl
  obtain ⟨hx, hb, hr, hml, hW, hown, hlocks, hP, hK, hD, hN⟩ := E
  have hl : lv_has ls 2 [(0, .ref (ad o0)), (1, .int x1)] := hl
  have hS : va_S (cOf (jn [rcells cI ad o0 S0])) s.heap s.heap [] := va_S.rf
  have hw : (if (F_X2_lives S0 x1) = 0 then (k 1 S0) else (k 0 (sI S0 5 ((S0.1 5) &&& (((1 : Int32) <<< (x1 &&& 31)) ^^^ (-1)))))) := hw
  refine lv_aload_n hx hb dX2_die_0 rfl (lv_at hl 0 rfl) ?_
  refine lv_iload_n hx hb dX2_die_1 rfl (lv_at hl 1 rfl) ?_
  refine callF (va_runV (As := [.int x1]) (rest := []) ⟨hx, hb, hml, hown, hW⟩ (c_X2_lives l D cI cZ ad o0 S0 x1 _ rfl) (cwV0 hW mV_X2_lives ml_X2_82 ⟨Nat.le_of_ble_eq_true rfl, Nat.le_of_ble_eq_true rfl⟩) (preV0 0 rfl rfl hK hN hP hD [0] rfl rfl) rfl rfl hl.1 rfl (lv_room (Nat.le_of_ble_eq_true rfl)) dX2_die_2 ⟨Nat.le_refl _, Nat.le_refl _⟩) ?_
  refine W.eq (g2 := F0 m 5 ls [.int (F_X2_lives S0 x1)]) rfl ?_
  refine lv_if_ne (tgt := 10) hx hb dX2_die_5 (by decide) (fun c1 => ?_) (fun c1 => ?_)
  · have hw := Eq.mp (if_neg c1) hw
    refine lv_aload_n hx hb dX2_die_10 rfl (lv_at hl 0 rfl) ?_
    refine lv_dup hx hb dX2_die_11 rfl ?_
    refine va_get (D := D) (ci := 2) (v := .int (S0.1 5)) (C := RX2) (T := TX2) (N := 15) hx hb hW inW_X2 hown hK hP 0 rfl rfl 5 (by decide) (hW _ fl_X2_57) (fun _ h9 => h9) rfl dX2_die_12 ?_
    refine lv_iconst (v := 1) hx hb dX2_die_15 (by decide) ?_
    refine lv_iload_n hx hb dX2_die_16 rfl (lv_at hl 1 rfl) ?_
    refine lv_ishl hx hb dX2_die_17 ?_
    refine lv_iconst (v := (-1)) hx hb dX2_die_18 (by decide) ?_
    refine lv_ixor hx hb dX2_die_19 ?_
    refine lv_iand hx hb dX2_die_20 ?_
    refine va_put (D := D) (ci := 2) (v := .int ((S0.1 5) &&& (((1 : Int32) <<< (x1 &&& 31)) ^^^ (-1)))) (ty := .int) (C := RX2) (T := TX2) (N := 15) hx hb hW inW_X2 tyX2 tyX2_ok nmX2 hown hK hP hD hS 0 rfl rfl 5 (by decide) (hW _ fl_X2_57) (fun _ h9 => h9) rfl (by decide +kernel) rfl rfl (Nat.le_of_ble_eq_true rfl) dX2_die_21 (fun H locs hP hD hS => ?_)
    have hP : va_P D classes (jn [rcells cI ad o0 (sI S0 5 ((S0.1 5) &&& (((1 : Int32) <<< (x1 &&& 31)) ^^^ (-1))))]) H := hP
    have hD : va_D (cOf (jn [rcells cI ad o0 S0])) (jn [rcells cI ad o0 (sI S0 5 ((S0.1 5) &&& (((1 : Int32) <<< (x1 &&& 31)) ^^^ (-1))))]) := hD
    refine lv_iconst (v := 0) hx hb dX2_die_24 (by decide) ?_
    exact W.iret (v := 0) hx hb hr (fun t ht _ => ⟨⟨_, ((sI S0 5 ((S0.1 5) &&& (((1 : Int32) <<< (x1 &&& 31)) ^^^ (-1))))), rfl, ⟨_, rfl, hw⟩, by rw [ht]; exact hP⟩, hS.F ht⟩) hS.2.2 dX2_die_25
  · have hw := Eq.mp (if_pos c1) hw
    refine lv_iconst (v := 1) hx hb dX2_die_8 (by decide) ?_
    exact W.iret (v := 1) hx hb hr (fun t ht _ => ⟨⟨_, (S0), rfl, ⟨_, rfl, hw⟩, by rw [ht]; exact hP⟩, hS.F ht⟩) hS.2.2 dX2_die_9
set_option maxHeartbeats 4000000 in
set_option maxRecDepth 100000 in
theorem c_X2_bind (l : Launch) (D : va_G) (cI cZ : ClassId) (ad : Nat → Nat) (o0 : Nat) (S0 : St) (x1 : Int32) (x2 : Int32) (k : Int32 → St → Prop) (hw : wp_X2_bind S0 x1 x2 k) : KW l yX2_bind cX2_bind 3 (some .int) 1 22 D cI cZ [.ref (ad o0), .int x1, .int x2] [rcells cI ad o0 S0] (fun v (u : St) => ∃ r, v = some (.int r) ∧ k r u) (fun u : St => [rcells cI ad o0 u]) := by
  refine Met.ofE (by decide +kernel) (Nat.le_of_ble_eq_true rfl) ?_
  intro p e s m below meth c E ls hl
  obtain ⟨hx, hb, hr, hml, hW, hown, hlocks, hP, hK, hD, hN⟩ := E
  have hl : lv_has ls 3 [(0, .ref (ad o0)), (1, .int x1), (2, .int x2)] := hl
  have hS : va_S (cOf (jn [rcells cI ad o0 S0])) s.heap s.heap [] := va_S.rf
  have hw : (if (F_X2_lives S0 x1) = 0 then (k 1 S0) else (if (F_X3_get 6 (S0.2 9) x1) = 0 then (wp_X3_put 6 (S0.2 9) x1 x2 (fun (Z3 : (Nat → Int32)) => (k 0 (sA S0 9 Z3)))) else (k 4 S0))) := hw
  refine lv_aload_n hx hb dX2_bind_0 rfl (lv_at hl 0 rfl) ?_
  refine lv_iload_n hx hb dX2_bind_1 rfl (lv_at hl 1 rfl) ?_
  refine callF (va_runV (As := [.int x1]) (rest := []) ⟨hx, hb, hml, hown, hW⟩ (c_X2_lives l D cI cZ ad o0 S0 x1 _ rfl) (cwV0 hW mV_X2_lives ml_X2_82 ⟨Nat.le_of_ble_eq_true rfl, Nat.le_of_ble_eq_true rfl⟩) (preV0 0 rfl rfl hK hN hP hD [0] rfl rfl) rfl rfl hl.1 rfl (lv_room (Nat.le_of_ble_eq_true rfl)) dX2_bind_2 ⟨Nat.le_refl _, Nat.le_refl _⟩) ?_
  refine W.eq (g2 := F0 m 5 ls [.int (F_X2_lives S0 x1)]) rfl ?_
  refine lv_if_ne (tgt := 10) hx hb dX2_bind_5 (by decide) (fun c1 => ?_) (fun c1 => ?_)
  · have hw := Eq.mp (if_neg c1) hw
    refine lv_aload_n hx hb dX2_bind_10 rfl (lv_at hl 0 rfl) ?_
    refine va_get (D := D) (ci := 2) (v := .ref (ad (o0 + 3))) (C := RX2) (T := TX2) (N := 15) hx hb hW inW_X2 hown hK hP 0 rfl rfl 9 (by decide) (hW _ fl_X2_23) (fun _ h9 => h9) rfl dX2_bind_11 ?_
    refine lv_iload_n hx hb dX2_bind_14 rfl (lv_at hl 1 rfl) ?_
    refine callF (va_runV (As := [.int x1]) (rest := []) ⟨hx, hb, hml, hown, hW⟩ (c_X3_get__round_9 l D cI cZ ad o0 S0 x1 _ rfl) (cwV0 hW mV_X3_get ml_X2_78 ⟨Nat.le_of_ble_eq_true rfl, Nat.le_of_ble_eq_true rfl⟩) (preV0 3 rfl rfl hK hN hP hD [0] rfl rfl) rfl rfl hl.1 rfl (lv_room (Nat.le_of_ble_eq_true rfl)) dX2_bind_15 ⟨Nat.le_refl _, Nat.le_refl _⟩) ?_
    refine W.eq (g2 := F0 m 18 ls [.int (F_X3_get 6 (S0.2 9) x1)]) rfl ?_
    refine lv_if_eq (tgt := 23) hx hb dX2_bind_18 (by decide) (fun c2 => ?_) (fun c2 => ?_)
    · have hw := Eq.mp (if_pos c2) hw
      refine lv_aload_n hx hb dX2_bind_23 rfl (lv_at hl 0 rfl) ?_
      refine va_get (D := D) (ci := 2) (v := .ref (ad (o0 + 3))) (C := RX2) (T := TX2) (N := 15) hx hb hW inW_X2 hown hK hP 0 rfl rfl 9 (by decide) (hW _ fl_X2_23) (fun _ h9 => h9) rfl dX2_bind_24 ?_
      refine lv_iload_n hx hb dX2_bind_27 rfl (lv_at hl 1 rfl) ?_
      refine lv_iload_n hx hb dX2_bind_28 rfl (lv_at hl 2 rfl) ?_
      refine callW (va_runV (As := [.int x1, .int x2]) (rest := []) ⟨hx, hb, hml, hown, hW⟩ (c_X3_put__round_9 l D cI cZ ad o0 S0 x1 x2 _ hw) (cwV0 hW mV_X3_put ml_X2_63 ⟨Nat.le_of_ble_eq_true rfl, Nat.le_of_ble_eq_true rfl⟩) (preV0 3 rfl rfl hK hN hP hD [0] rfl rfl) rfl rfl hl.1 rfl (lv_room (Nat.le_of_ble_eq_true rfl)) dX2_bind_29 ⟨Nat.le_refl _, Nat.le_refl _⟩) hP hD hS [0] rfl rfl (fun _ => rfl) (fun v9 u9 H locs hq hP hD hS => ?_)
      obtain ⟨rfl, hw⟩ := hq
      obtain ⟨Z3, rfl⟩ : ∃ z, z = u9 := ⟨_, rfl⟩
      have hP : va_P D classes (jn [rcells cI ad o0 (sA S0 9 Z3)]) H := hP
      have hD : va_D (cOf (jn [rcells cI ad o0 S0])) (jn [rcells cI ad o0 (sA S0 9 Z3)]) := hD
      refine W.eq (g2 := F0 m 32 ls []) rfl ?_
      refine lv_iconst (v := 0) hx hb dX2_bind_32 (by decide) ?_
      exact W.iret (v := 0) hx hb hr (fun t ht _ => ⟨⟨_, ((sA S0 9 Z3)), rfl, ⟨_, rfl, hw⟩, by rw [ht]; exact hP⟩, hS.F ht⟩) hS.2.2 dX2_bind_33
    · have hw := Eq.mp (if_neg c2) hw
      refine lv_iconst (v := 4) hx hb dX2_bind_21 (by decide) ?_
      exact W.iret (v := 4) hx hb hr (fun t ht _ => ⟨⟨_, (S0), rfl, ⟨_, rfl, hw⟩, by rw [ht]; exact hP⟩, hS.F ht⟩) hS.2.2 dX2_bind_22
  · have hw := Eq.mp (if_pos c1) hw
    refine lv_iconst (v := 1) hx hb dX2_bind_8 (by decide) ?_
    exact W.iret (v := 1) hx hb hr (fun t ht _ => ⟨⟨_, (S0), rfl, ⟨_, rfl, hw⟩, by rw [ht]; exact hP⟩, hS.F ht⟩) hS.2.2 dX2_bind_9
set_option maxHeartbeats 4000000 in
set_option maxRecDepth 100000 in
theorem c_X2_swapNames (l : Launch) (D : va_G) (cI cZ : ClassId) (ad : Nat → Nat) (o0 : Nat) (S0 : St) (x1 : Int32) (x2 : Int32) (k : St → Prop) (hw : wp_X2_swapNames S0 x1 x2 k) : KW l yX2_swapNames cX2_swapNames 4 none 1 22 D cI cZ [.ref (ad o0), .int x1, .int x2] [rcells cI ad o0 S0] (fun v (u : St) => v = none ∧ k u) (fun u : St => [rcells cI ad o0 u]) := by
  refine Met.ofE (by decide +kernel) (Nat.le_of_ble_eq_true rfl) ?_
  intro p e s m below meth c E ls hl
  obtain ⟨hx, hb, hr, hml, hW, hown, hlocks, hP, hK, hD, hN⟩ := E
  have hl : lv_has ls 4 [(0, .ref (ad o0)), (1, .int x1), (2, .int x2)] := hl
  have hS : va_S (cOf (jn [rcells cI ad o0 S0])) s.heap s.heap [] := va_S.rf
  have hw : (wp_X3_put 6 (S0.2 8) x1 (F_X3_get 6 (S0.2 8) x2) (fun (Z1 : (Nat → Int32)) => (wp_X3_put 6 Z1 x2 (F_X3_get 6 (S0.2 8) x1) (fun (Z2 : (Nat → Int32)) => (k (sA (sA S0 8 Z1) 8 Z2)))))) := hw
  refine lv_aload_n hx hb dX2_swapNames_0 rfl (lv_at hl 0 rfl) ?_
  refine va_get (D := D) (ci := 2) (v := .ref (ad (o0 + 2))) (C := RX2) (T := TX2) (N := 15) hx hb hW inW_X2 hown hK hP 0 rfl rfl 8 (by decide) (hW _ fl_X2_20) (fun _ h9 => h9) rfl dX2_swapNames_1 ?_
  refine lv_iload_n hx hb dX2_swapNames_4 rfl (lv_at hl 1 rfl) ?_
  refine callF (va_runV (As := [.int x1]) (rest := []) ⟨hx, hb, hml, hown, hW⟩ (c_X3_get__round_8 l D cI cZ ad o0 S0 x1 _ rfl) (cwV0 hW mV_X3_get ml_X2_78 ⟨Nat.le_of_ble_eq_true rfl, Nat.le_of_ble_eq_true rfl⟩) (preV0 2 rfl rfl hK hN hP hD [0] rfl rfl) rfl rfl hl.1 rfl (lv_room (Nat.le_of_ble_eq_true rfl)) dX2_swapNames_5 ⟨Nat.le_refl _, Nat.le_refl _⟩) ?_
  refine W.eq (g2 := F0 m 8 ls [.int (F_X3_get 6 (S0.2 8) x1)]) rfl ?_
  refine lv_istore_n (lv' := [(3, .int (F_X3_get 6 (S0.2 8) x1)), (0, .ref (ad o0)), (1, .int x1), (2, .int x2)]) hx hb dX2_swapNames_8 rfl hl (by decide) rfl (fun ls hl => ?_)
  refine lv_aload_n hx hb dX2_swapNames_9 rfl (lv_at hl 1 rfl) ?_
  refine va_get (D := D) (ci := 2) (v := .ref (ad (o0 + 2))) (C := RX2) (T := TX2) (N := 15) hx hb hW inW_X2 hown hK hP 0 rfl rfl 8 (by decide) (hW _ fl_X2_20) (fun _ h9 => h9) rfl dX2_swapNames_10 ?_
  refine lv_iload_n hx hb dX2_swapNames_13 rfl (lv_at hl 2 rfl) ?_
  refine lv_aload_n hx hb dX2_swapNames_14 rfl (lv_at hl 1 rfl) ?_
  refine va_get (D := D) (ci := 2) (v := .ref (ad (o0 + 2))) (C := RX2) (T := TX2) (N := 15) hx hb hW inW_X2 hown hK hP 0 rfl rfl 8 (by decide) (hW _ fl_X2_20) (fun _ h9 => h9) rfl dX2_swapNames_15 ?_
  refine lv_iload_n hx hb dX2_swapNames_18 rfl (lv_at hl 3 rfl) ?_
  refine callF (va_runV (As := [.int x2]) (rest := [.int x1, .ref (ad (o0 + 2))]) ⟨hx, hb, hml, hown, hW⟩ (c_X3_get__round_8 l D cI cZ ad o0 S0 x2 _ rfl) (cwV0 hW mV_X3_get ml_X2_78 ⟨Nat.le_of_ble_eq_true rfl, Nat.le_of_ble_eq_true rfl⟩) (preV0 2 rfl rfl hK hN hP hD [0] rfl rfl) rfl rfl hl.1 rfl (lv_room (Nat.le_of_ble_eq_true rfl)) dX2_swapNames_19 ⟨Nat.le_refl _, Nat.le_refl _⟩) ?_
  refine W.eq (g2 := F0 m 22 ls [.int (F_X3_get 6 (S0.2 8) x2), .int x1, .ref (ad (o0 + 2))]) rfl ?_
  refine callW (va_runV (As := [.int x1, .int (F_X3_get 6 (S0.2 8) x2)]) (rest := []) ⟨hx, hb, hml, hown, hW⟩ (c_X3_put__round_8 l D cI cZ ad o0 S0 x1 (F_X3_get 6 (S0.2 8) x2) _ hw) (cwV0 hW mV_X3_put ml_X2_63 ⟨Nat.le_of_ble_eq_true rfl, Nat.le_of_ble_eq_true rfl⟩) (preV0 2 rfl rfl hK hN hP hD [0] rfl rfl) rfl rfl hl.1 rfl (lv_room (Nat.le_of_ble_eq_true rfl)) dX2_swapNames_22 ⟨Nat.le_refl _, Nat.le_refl _⟩) hP hD hS [0] rfl rfl (fun _ => rfl) (fun v9 u9 H locs hq hP hD hS => ?_)
  obtain ⟨rfl, hw⟩ := hq
  obtain ⟨Z1, rfl⟩ : ∃ z, z = u9 := ⟨_, rfl⟩
  have hP : va_P D classes (jn [rcells cI ad o0 (sA S0 8 Z1)]) H := hP
  have hD : va_D (cOf (jn [rcells cI ad o0 S0])) (jn [rcells cI ad o0 (sA S0 8 Z1)]) := hD
  refine W.eq (g2 := F0 m 25 ls []) rfl ?_
  refine lv_aload_n hx hb dX2_swapNames_25 rfl (lv_at hl 1 rfl) ?_
  refine va_get (D := D) (ci := 2) (v := .ref (ad (o0 + 2))) (C := RX2) (T := TX2) (N := 15) hx hb hW inW_X2 hown hK hP 0 rfl rfl 8 (by decide) (hW _ fl_X2_20) (fun _ h9 => h9) rfl dX2_swapNames_26 ?_
  refine lv_iload_n hx hb dX2_swapNames_29 rfl (lv_at hl 3 rfl) ?_
  refine lv_iload_n hx hb dX2_swapNames_30 rfl (lv_at hl 0 rfl) ?_
  refine callW (va_runV (As := [.int x2, .int (F_X3_get 6 (S0.2 8) x1)]) (rest := []) ⟨hx, hb, hml, hown, hW⟩ (c_X3_put__round_8 l D cI cZ ad o0 (sA S0 8 Z1) x2 (F_X3_get 6 (S0.2 8) x1) _ hw) (cwV0 hW mV_X3_put ml_X2_63 ⟨Nat.le_of_ble_eq_true rfl, Nat.le_of_ble_eq_true rfl⟩) (preV0 2 rfl rfl hK hN hP hD [0] rfl rfl) rfl rfl hl.1 rfl (lv_room (Nat.le_of_ble_eq_true rfl)) dX2_swapNames_31 ⟨Nat.le_refl _, Nat.le_refl _⟩) hP hD hS [0] rfl rfl (fun _ => rfl) (fun v9 u9 H locs hq hP hD hS => ?_)
  obtain ⟨rfl, hw⟩ := hq
  obtain ⟨Z2, rfl⟩ : ∃ z, z = u9 := ⟨_, rfl⟩
  have hP : va_P D classes (jn [rcells cI ad o0 (sA (sA S0 8 Z1) 8 Z2)]) H := hP
  have hD : va_D (cOf (jn [rcells cI ad o0 S0])) (jn [rcells cI ad o0 (sA (sA S0 8 Z1) 8 Z2)]) := hD
  refine W.eq (g2 := F0 m 34 ls []) rfl ?_
  exact W.vret hx hb hr (fun t ht _ => ⟨⟨_, ((sA (sA S0 8 Z1) 8 Z2)), rfl, ⟨rfl, hw⟩, by rw [ht]; exact hP⟩, hS.F ht⟩) hS.2.2 dX2_swapNames_34
set_option maxHeartbeats 4000000 in
set_option maxRecDepth 100000 in
theorem c_X2_changeHats (l : Launch) (D : va_G) (cI cZ : ClassId) (ad : Nat → Nat) (o0 : Nat) (S0 : St) (x1 : Int32) (x2 : Int32) (k : Int32 → St → Prop) (hw : wp_X2_changeHats S0 x1 x2 k) : KW l yX2_changeHats cX2_changeHats 3 (some .int) 2 45 D cI cZ [.ref (ad o0), .int x1, .int x2] [rcells cI ad o0 S0] (fun v (u : St) => ∃ r, v = some (.int r) ∧ k r u) (fun u : St => [rcells cI ad o0 u]) := by
  refine Met.ofE (by decide +kernel) (Nat.le_of_ble_eq_true rfl) ?_
  intro p e s m below meth c E ls hl
  obtain ⟨hx, hb, hr, hml, hW, hown, hlocks, hP, hK, hD, hN⟩ := E
  have hl : lv_has ls 3 [(0, .ref (ad o0)), (1, .int x1), (2, .int x2)] := hl
  have hS : va_S (cOf (jn [rcells cI ad o0 S0])) s.heap s.heap [] := va_S.rf
  have hw : (if (F_X2_lives S0 x1) = 0 then (k 1 S0) else (if (F_X2_lives S0 x2) = 0 then (k 1 S0) else (if x1 = x2 then (k 2 S0) else (if (S0.1 3) = 0 then (wp_X2_swapNames S0 x1 x2 (fun (Z5 : St) => (k 0 Z5))) else (k 3 S0))))) := hw
  refine lv_aload_n hx hb dX2_changeHats_0 rfl (lv_at hl 0 rfl) ?_
  refine lv_iload_n hx hb dX2_changeHats_1 rfl (lv_at hl 1 rfl) ?_
  refine callF (va_runV (As := [.int x1]) (rest := []) ⟨hx, hb, hml, hown, hW⟩ (c_X2_lives l D cI cZ ad o0 S0 x1 _ rfl) (cwV0 hW mV_X2_lives ml_X2_82 ⟨Nat.le_of_ble_eq_true rfl, Nat.le_of_ble_eq_true rfl⟩) (preV0 0 rfl rfl hK hN hP hD [0] rfl rfl) rfl rfl hl.1 rfl (lv_room (Nat.le_of_ble_eq_true rfl)) dX2_changeHats_2 ⟨Nat.le_refl _, Nat.le_refl _⟩) ?_
  refine W.eq (g2 := F0 m 5 ls [.int (F_X2_lives S0 x1)]) rfl ?_
  refine lv_if_eq (tgt := 16) hx hb dX2_changeHats_5 (by decide) (fun c1 => ?_) (fun c1 => ?_)
  · have hw := Eq.mp (if_pos c1) hw
    refine lv_iconst (v := 1) hx hb dX2_changeHats_16 (by decide) ?_
    exact W.iret (v := 1) hx hb hr (fun t ht _ => ⟨⟨_, (S0), rfl, ⟨_, rfl, hw⟩, by rw [ht]; exact hP⟩, hS.F ht⟩) hS.2.2 dX2_changeHats_17
  · have hw := Eq.mp (if_neg c1) hw
    refine lv_aload_n hx hb dX2_changeHats_8 rfl (lv_at hl 0 rfl) ?_
    refine lv_iload_n hx hb dX2_changeHats_9 rfl (lv_at hl 2 rfl) ?_
    refine callF (va_runV (As := [.int x2]) (rest := []) ⟨hx, hb, hml, hown, hW⟩ (c_X2_lives l D cI cZ ad o0 S0 x2 _ rfl) (cwV0 hW mV_X2_lives ml_X2_82 ⟨Nat.le_of_ble_eq_true rfl, Nat.le_of_ble_eq_true rfl⟩) (preV0 0 rfl rfl hK hN hP hD [0] rfl rfl) rfl rfl hl.1 rfl (lv_room (Nat.le_of_ble_eq_true rfl)) dX2_changeHats_10 ⟨Nat.le_refl _, Nat.le_refl _⟩) ?_
    refine W.eq (g2 := F0 m 13 ls [.int (F_X2_lives S0 x2)]) rfl ?_
    refine lv_if_ne (tgt := 18) hx hb dX2_changeHats_13 (by decide) (fun c2 => ?_) (fun c2 => ?_)
    · have hw := Eq.mp (if_neg c2) hw
      refine lv_iload_n hx hb dX2_changeHats_18 rfl (lv_at hl 1 rfl) ?_
      refine lv_iload_n hx hb dX2_changeHats_19 rfl (lv_at hl 2 rfl) ?_
      refine lv_icmp_ne (tgt := 25) hx hb dX2_changeHats_20 (by decide) (fun c3 => ?_) (fun c3 => ?_)
      · have hw := Eq.mp (if_neg c3) hw
        refine lv_aload_n hx hb dX2_changeHats_25 rfl (lv_at hl 0 rfl) ?_
        refine va_get (D := D) (ci := 2) (v := .int (S0.1 3)) (C := RX2) (T := TX2) (N := 15) hx hb hW inW_X2 hown hK hP 0 rfl rfl 3 (by decide) (hW _ fl_X2_48) (fun _ h9 => h9) rfl dX2_changeHats_26 ?_
        refine lv_if_eq (tgt := 34) hx hb dX2_changeHats_29 (by decide) (fun c4 => ?_) (fun c4 => ?_)
        · have hw := Eq.mp (if_pos c4) hw
          refine lv_aload_n hx hb dX2_changeHats_34 rfl (lv_at hl 0 rfl) ?_
          refine lv_iload_n hx hb dX2_changeHats_35 rfl (lv_at hl 1 rfl) ?_
          refine lv_iload_n hx hb dX2_changeHats_36 rfl (lv_at hl 2 rfl) ?_
          refine callW (va_runV (As := [.int x1, .int x2]) (rest := []) ⟨hx, hb, hml, hown, hW⟩ (c_X2_swapNames l D cI cZ ad o0 S0 x1 x2 _ hw) (cwV0 hW mV_X2_swapNames ml_X2_85 ⟨Nat.le_of_ble_eq_true rfl, Nat.le_of_ble_eq_true rfl⟩) (preV0 0 rfl rfl hK hN hP hD [0] rfl rfl) rfl rfl hl.1 rfl (lv_room (Nat.le_of_ble_eq_true rfl)) dX2_changeHats_37 ⟨Nat.le_refl _, Nat.le_refl _⟩) hP hD hS [0] rfl rfl (fun _ => rfl) (fun v9 u9 H locs hq hP hD hS => ?_)
          obtain ⟨rfl, hw⟩ := hq
          obtain ⟨Z5, rfl⟩ : ∃ z, z = u9 := ⟨_, rfl⟩
          have hP : va_P D classes (jn [rcells cI ad o0 Z5]) H := hP
          have hD : va_D (cOf (jn [rcells cI ad o0 S0])) (jn [rcells cI ad o0 Z5]) := hD
          refine W.eq (g2 := F0 m 40 ls []) rfl ?_
          refine lv_iconst (v := 0) hx hb dX2_changeHats_40 (by decide) ?_
          exact W.iret (v := 0) hx hb hr (fun t ht _ => ⟨⟨_, (Z5), rfl, ⟨_, rfl, hw⟩, by rw [ht]; exact hP⟩, hS.F ht⟩) hS.2.2 dX2_changeHats_41
        · have hw := Eq.mp (if_neg c4) hw
          refine lv_iconst (v := 3) hx hb dX2_changeHats_32 (by decide) ?_
          exact W.iret (v := 3) hx hb hr (fun t ht _ => ⟨⟨_, (S0), rfl, ⟨_, rfl, hw⟩, by rw [ht]; exact hP⟩, hS.F ht⟩) hS.2.2 dX2_changeHats_33
      · have hw := Eq.mp (if_pos c3) hw
        refine lv_iconst (v := 2) hx hb dX2_changeHats_23 (by decide) ?_
        exact W.iret (v := 2) hx hb hr (fun t ht _ => ⟨⟨_, (S0), rfl, ⟨_, rfl, hw⟩, by rw [ht]; exact hP⟩, hS.F ht⟩) hS.2.2 dX2_changeHats_24
    · have hw := Eq.mp (if_pos c2) hw
      refine lv_iconst (v := 1) hx hb dX2_changeHats_16 (by decide) ?_
      exact W.iret (v := 1) hx hb hr (fun t ht _ => ⟨⟨_, (S0), rfl, ⟨_, rfl, hw⟩, by rw [ht]; exact hP⟩, hS.F ht⟩) hS.2.2 dX2_changeHats_17
set_option maxHeartbeats 4000000 in
set_option maxRecDepth 100000 in
theorem c_X2_passEquinox (l : Launch) (D : va_G) (cI cZ : ClassId) (ad : Nat → Nat) (o0 : Nat) (S0 : St) (k : St → Prop) (hw : wp_X2_passEquinox S0 k) : KW l yX2_passEquinox cX2_passEquinox 2 none 1 22 D cI cZ [.ref (ad o0)] [rcells cI ad o0 S0] (fun v (u : St) => v = none ∧ k u) (fun u : St => [rcells cI ad o0 u]) := by
  refine Met.ofE (by decide +kernel) (Nat.le_of_ble_eq_true rfl) ?_
  intro p e s m below meth c E ls hl
  obtain ⟨hx, hb, hr, hml, hW, hown, hlocks, hP, hK, hD, hN⟩ := E
  have hl : lv_has ls 2 [(0, .ref (ad o0))] := hl
  have hS : va_S (cOf (jn [rcells cI ad o0 S0])) s.heap s.heap [] := va_S.rf
  have L17 : ∀  (kx : St → Prop), (∀ (S0q : St) (H : Heap) (locs : List Loc), va_P D classes (jn [rcells cI ad o0 S0q]) H → va_D (cOf (jn [rcells cI ad o0 S0])) (jn [rcells cI ad o0 S0q]) → va_S (cOf (jn [rcells cI ad o0 S0])) s.heap H locs → ∀ ls : Array Slot, lv_has ls 2 [] → kx S0q → W p l e { frames := 1, cells := 0, slots := 0, locals := 22 } s m ([.ref (ad o0)] : List Value).toArray below meth c H locs 0 0 (MQ below (QW (fun v (u : St) => v = none ∧ k u) D (fun u : St => [rcells cI ad o0 u]) [rcells cI ad o0 S0]) ([.ref (ad o0)] : List Value).toArray s 0 0 (cOf (jn [rcells cI ad o0 S0]))) (F0 m 119 ls [])) → ∀ (N17 : Nat) (y1 : Int32) (S0q : St) (H : Heap) (locs : List Loc), va_P D classes (jn [rcells cI ad o0 S0q]) H → va_D (cOf (jn [rcells cI ad o0 S0])) (jn [rcells cI ad o0 S0q]) → va_S (cOf (jn [rcells cI ad o0 S0])) s.heap H locs → ∀ ls : Array Slot, lv_has ls 2 [(0, .ref (ad o0)), (1, .int y1)] → wl_X2_passEquinox_17 kx N17 y1 S0q → W p l e { frames := 1, cells := 0, slots := 0, locals := 22 } s m ([.ref (ad o0)] : List Value).toArray below meth c H locs 0 0 (MQ below (QW (fun v (u : St) => v = none ∧ k u) D (fun u : St => [rcells cI ad o0 u]) [rcells cI ad o0 S0]) ([.ref (ad o0)] : List Value).toArray s 0 0 (cOf (jn [rcells cI ad o0 S0]))) (F0 m 17 ls []) := by
    intro  kx hxt N17
    induction N17 with
    | zero => intro y1 S0q H locs hP hD hS ls hl hw; exact False.elim hw
    | succ N17 ih =>
      intro y1 S0q H locs hP hD hS ls hl hw
      have hw : (if (S0q.1 0) ≤ y1 then (kx S0q) else (if (F_X3_get 6 (S0q.2 9) y1) = 1 then (wp_X3_put 6 (S0q.2 9) y1 0 (fun (Z3 : (Nat → Int32)) => (wl_X2_passEquinox_17 kx N17 (y1 + 1) (sA S0q 9 Z3)))) else (if (F_X3_get 6 (S0q.2 9) y1) = 0 then (if (F_X2_lives S0q y1) = 0 then (wl_X2_passEquinox_17 kx N17 (y1 + 1) S0q) else (wp_X3_put 6 (S0q.2 7) y1 (F_X6_leftOver ((F_X3_get 6 (S0q.2 7) y1) + 1) ((S0q.1 0) - 1)) (fun (Z6 : (Nat → Int32)) => (wp_X3_put 6 (S0q.2 10) y1 ((F_X3_get 6 (S0q.2 10) y1) + 1) (fun (Z7 : (Nat → Int32)) => (wl_X2_passEquinox_17 kx N17 (y1 + 1) (sA (sA S0q 7 Z6) 10 Z7))))))) else (wl_X2_passEquinox_17 kx N17 (y1 + 1) S0q)))) := hw
      refine lv_iload_n hx hb dX2_passEquinox_17 rfl (lv_at hl 1 rfl) ?_
      refine lv_aload_n hx hb dX2_passEquinox_18 rfl (lv_at hl 0 rfl) ?_
      refine va_get (D := D) (ci := 2) (v := .int (S0q.1 0)) (C := RX2) (T := TX2) (N := 15) hx hb hW inW_X2 hown hK hP 0 rfl rfl 0 (by decide) (hW _ fl_X2_41) (fun _ h9 => h9) rfl dX2_passEquinox_19 ?_
      refine lv_icmp_ge (tgt := 119) hx hb dX2_passEquinox_22 (by decide) (fun c1 => ?_) (fun c1 => ?_)
      · have hw := Eq.mp (if_pos c1) hw
        exact hxt S0q _ _ hP hD hS _ (lv_sub hl [] rfl) hw
      · have hw := Eq.mp (if_neg c1) hw
        refine lv_aload_n hx hb dX2_passEquinox_25 rfl (lv_at hl 0 rfl) ?_
        refine va_get (D := D) (ci := 2) (v := .ref (ad (o0 + 3))) (C := RX2) (T := TX2) (N := 15) hx hb hW inW_X2 hown hK hP 0 rfl rfl 9 (by decide) (hW _ fl_X2_23) (fun _ h9 => h9) rfl dX2_passEquinox_26 ?_
        refine lv_iload_n hx hb dX2_passEquinox_29 rfl (lv_at hl 1 rfl) ?_
        refine callF (va_runV (As := [.int y1]) (rest := []) ⟨hx, hb, hml, hown, hW⟩ (c_X3_get__round_9 l D cI cZ ad o0 S0q y1 _ rfl) (cwV0 hW mV_X3_get ml_X2_78 ⟨Nat.le_of_ble_eq_true rfl, Nat.le_of_ble_eq_true rfl⟩) (preV0 3 rfl rfl hK hN hP hD [0] rfl rfl) rfl rfl hl.1 rfl (lv_room (Nat.le_of_ble_eq_true rfl)) dX2_passEquinox_30 ⟨Nat.le_refl _, Nat.le_refl _⟩) ?_
        refine W.eq (g2 := F0 m 33 ls [.int (F_X3_get 6 (S0q.2 9) y1)]) rfl ?_
        refine lv_iconst (v := 1) hx hb dX2_passEquinox_33 (by decide) ?_
        refine lv_icmp_ne (tgt := 49) hx hb dX2_passEquinox_34 (by decide) (fun c2 => ?_) (fun c2 => ?_)
        · have hw := Eq.mp (if_neg c2) hw
          refine lv_aload_n hx hb dX2_passEquinox_49 rfl (lv_at hl 0 rfl) ?_
          refine va_get (D := D) (ci := 2) (v := .ref (ad (o0 + 3))) (C := RX2) (T := TX2) (N := 15) hx hb hW inW_X2 hown hK hP 0 rfl rfl 9 (by decide) (hW _ fl_X2_23) (fun _ h9 => h9) rfl dX2_passEquinox_50 ?_
          refine lv_iload_n hx hb dX2_passEquinox_53 rfl (lv_at hl 1 rfl) ?_
          refine callF (va_runV (As := [.int y1]) (rest := []) ⟨hx, hb, hml, hown, hW⟩ (c_X3_get__round_9 l D cI cZ ad o0 S0q y1 _ rfl) (cwV0 hW mV_X3_get ml_X2_78 ⟨Nat.le_of_ble_eq_true rfl, Nat.le_of_ble_eq_true rfl⟩) (preV0 3 rfl rfl hK hN hP hD [0] rfl rfl) rfl rfl hl.1 rfl (lv_room (Nat.le_of_ble_eq_true rfl)) dX2_passEquinox_54 ⟨Nat.le_refl _, Nat.le_refl _⟩) ?_
          refine W.eq (g2 := F0 m 57 ls [.int (F_X3_get 6 (S0q.2 9) y1)]) rfl ?_
          refine lv_if_ne (tgt := 113) hx hb dX2_passEquinox_57 (by decide) (fun c4 => ?_) (fun c4 => ?_)
          · have hw := Eq.mp (if_neg c4) hw
            refine lv_iinc (v := (y1 + 1)) (lv' := [(1, .int (y1 + 1)), (0, .ref (ad o0))]) hx hb dX2_passEquinox_113 hl (k := 1) rfl rfl (by decide) rfl (fun ls hl => ?_)
            refine lv_goto (tgt := 17) hx hb dX2_passEquinox_116 (by decide) ?_
            exact ih (y1 + 1) S0q _ _ hP hD hS _ (lv_sub hl [1, 0] rfl) hw
          · have hw := Eq.mp (if_pos c4) hw
            refine lv_aload_n hx hb dX2_passEquinox_60 rfl (lv_at hl 0 rfl) ?_
            refine lv_iload_n hx hb dX2_passEquinox_61 rfl (lv_at hl 1 rfl) ?_
            refine callF (va_runV (As := [.int y1]) (rest := []) ⟨hx, hb, hml, hown, hW⟩ (c_X2_lives l D cI cZ ad o0 S0q y1 _ rfl) (cwV0 hW mV_X2_lives ml_X2_82 ⟨Nat.le_of_ble_eq_true rfl, Nat.le_of_ble_eq_true rfl⟩) (preV0 0 rfl rfl hK hN hP hD [0] rfl rfl) rfl rfl hl.1 rfl (lv_room (Nat.le_of_ble_eq_true rfl)) dX2_passEquinox_62 ⟨Nat.le_refl _, Nat.le_refl _⟩) ?_
            refine W.eq (g2 := F0 m 65 ls [.int (F_X2_lives S0q y1)]) rfl ?_
            refine lv_if_eq (tgt := 113) hx hb dX2_passEquinox_65 (by decide) (fun c5 => ?_) (fun c5 => ?_)
            · have hw := Eq.mp (if_pos c5) hw
              refine lv_iinc (v := (y1 + 1)) (lv' := [(1, .int (y1 + 1)), (0, .ref (ad o0))]) hx hb dX2_passEquinox_113 hl (k := 1) rfl rfl (by decide) rfl (fun ls hl => ?_)
              refine lv_goto (tgt := 17) hx hb dX2_passEquinox_116 (by decide) ?_
              exact ih (y1 + 1) S0q _ _ hP hD hS _ (lv_sub hl [1, 0] rfl) hw
            · have hw := Eq.mp (if_neg c5) hw
              refine lv_aload_n hx hb dX2_passEquinox_68 rfl (lv_at hl 0 rfl) ?_
              refine va_get (D := D) (ci := 2) (v := .ref (ad (o0 + 1))) (C := RX2) (T := TX2) (N := 15) hx hb hW inW_X2 hown hK hP 0 rfl rfl 7 (by decide) (hW _ fl_X2_14) (fun _ h9 => h9) rfl dX2_passEquinox_69 ?_
              refine lv_iload_n hx hb dX2_passEquinox_72 rfl (lv_at hl 1 rfl) ?_
              refine lv_aload_n hx hb dX2_passEquinox_73 rfl (lv_at hl 0 rfl) ?_
              refine va_get (D := D) (ci := 2) (v := .ref (ad (o0 + 1))) (C := RX2) (T := TX2) (N := 15) hx hb hW inW_X2 hown hK hP 0 rfl rfl 7 (by decide) (hW _ fl_X2_14) (fun _ h9 => h9) rfl dX2_passEquinox_74 ?_
              refine lv_iload_n hx hb dX2_passEquinox_77 rfl (lv_at hl 1 rfl) ?_
              refine callF (va_runV (As := [.int y1]) (rest := [.int y1, .ref (ad (o0 + 1))]) ⟨hx, hb, hml, hown, hW⟩ (c_X3_get__round_7 l D cI cZ ad o0 S0q y1 _ rfl) (cwV0 hW mV_X3_get ml_X2_78 ⟨Nat.le_of_ble_eq_true rfl, Nat.le_of_ble_eq_true rfl⟩) (preV0 1 rfl rfl hK hN hP hD [0] rfl rfl) rfl rfl hl.1 rfl (lv_room (Nat.le_of_ble_eq_true rfl)) dX2_passEquinox_78 ⟨Nat.le_refl _, Nat.le_refl _⟩) ?_
              refine W.eq (g2 := F0 m 81 ls [.int (F_X3_get 6 (S0q.2 7) y1), .int y1, .ref (ad (o0 + 1))]) rfl ?_
              refine lv_iconst (v := 1) hx hb dX2_passEquinox_81 (by decide) ?_
              refine lv_iadd hx hb dX2_passEquinox_82 ?_
              refine lv_aload_n hx hb dX2_passEquinox_83 rfl (lv_at hl 0 rfl) ?_
              refine va_get (D := D) (ci := 2) (v := .int (S0q.1 0)) (C := RX2) (T := TX2) (N := 15) hx hb hW inW_X2 hown hK hP 0 rfl rfl 0 (by decide) (hW _ fl_X2_41) (fun _ h9 => h9) rfl dX2_passEquinox_84 ?_
              refine lv_iconst (v := 1) hx hb dX2_passEquinox_87 (by decide) ?_
              refine lv_isub hx hb dX2_passEquinox_88 ?_
              refine callF (va_runSN (As := [.int ((F_X3_get 6 (S0q.2 7) y1) + 1), .int ((S0q.1 0) - 1)]) (rest := [.int y1, .ref (ad (o0 + 1))]) ⟨hx, hb, hml, hown, hW⟩ (c_X6_leftOver l D cI cZ ((F_X3_get 6 (S0q.2 7) y1) + 1) ((S0q.1 0) - 1) _ rfl) (cwSN0 hW hN mS_X6_leftOver nl_X2_91 ⟨Nat.le_of_ble_eq_true rfl, Nat.le_of_ble_eq_true rfl⟩) (preS0 hK hN hP hD [] rfl rfl) rfl rfl hl.1 rfl (lv_room (Nat.le_of_ble_eq_true rfl)) dX2_passEquinox_89 ⟨Nat.le_refl _, Nat.le_refl _⟩) ?_
              refine W.eq (g2 := F0 m 92 ls [.int (F_X6_leftOver ((F_X3_get 6 (S0q.2 7) y1) + 1) ((S0q.1 0) - 1)), .int y1, .ref (ad (o0 + 1))]) rfl ?_
              refine callW (va_runV (As := [.int y1, .int (F_X6_leftOver ((F_X3_get 6 (S0q.2 7) y1) + 1) ((S0q.1 0) - 1))]) (rest := []) ⟨hx, hb, hml, hown, hW⟩ (c_X3_put__round_7 l D cI cZ ad o0 S0q y1 (F_X6_leftOver ((F_X3_get 6 (S0q.2 7) y1) + 1) ((S0q.1 0) - 1)) _ hw) (cwV0 hW mV_X3_put ml_X2_63 ⟨Nat.le_of_ble_eq_true rfl, Nat.le_of_ble_eq_true rfl⟩) (preV0 1 rfl rfl hK hN hP hD [0] rfl rfl) rfl rfl hl.1 rfl (lv_room (Nat.le_of_ble_eq_true rfl)) dX2_passEquinox_92 ⟨Nat.le_refl _, Nat.le_refl _⟩) hP hD hS [0] rfl rfl (fun _ => rfl) (fun v9 u9 H locs hq hP hD hS => ?_)
              obtain ⟨rfl, hw⟩ := hq
              obtain ⟨Z6, rfl⟩ : ∃ z, z = u9 := ⟨_, rfl⟩
              have hP : va_P D classes (jn [rcells cI ad o0 (sA S0q 7 Z6)]) H := hP
              have hD : va_D (cOf (jn [rcells cI ad o0 S0])) (jn [rcells cI ad o0 (sA S0q 7 Z6)]) := hD
              refine W.eq (g2 := F0 m 95 ls []) rfl ?_
              refine lv_aload_n hx hb dX2_passEquinox_95 rfl (lv_at hl 0 rfl) ?_
              refine va_get (D := D) (ci := 2) (v := .ref (ad (o0 + 4))) (C := RX2) (T := TX2) (N := 15) hx hb hW inW_X2 hown hK hP 0 rfl rfl 10 (by decide) (hW _ fl_X2_26) (fun _ h9 => h9) rfl dX2_passEquinox_96 ?_
              refine lv_iload_n hx hb dX2_passEquinox_99 rfl (lv_at hl 1 rfl) ?_
              refine lv_aload_n hx hb dX2_passEquinox_100 rfl (lv_at hl 0 rfl) ?_
              refine va_get (D := D) (ci := 2) (v := .ref (ad (o0 + 4))) (C := RX2) (T := TX2) (N := 15) hx hb hW inW_X2 hown hK hP 0 rfl rfl 10 (by decide) (hW _ fl_X2_26) (fun _ h9 => h9) rfl dX2_passEquinox_101 ?_
              refine lv_iload_n hx hb dX2_passEquinox_104 rfl (lv_at hl 1 rfl) ?_
              refine callF (va_runV (As := [.int y1]) (rest := [.int y1, .ref (ad (o0 + 4))]) ⟨hx, hb, hml, hown, hW⟩ (c_X3_get__round_10 l D cI cZ ad o0 (sA S0q 7 Z6) y1 _ rfl) (cwV0 hW mV_X3_get ml_X2_78 ⟨Nat.le_of_ble_eq_true rfl, Nat.le_of_ble_eq_true rfl⟩) (preV0 4 rfl rfl hK hN hP hD [0] rfl rfl) rfl rfl hl.1 rfl (lv_room (Nat.le_of_ble_eq_true rfl)) dX2_passEquinox_105 ⟨Nat.le_refl _, Nat.le_refl _⟩) ?_
              refine W.eq (g2 := F0 m 108 ls [.int (F_X3_get 6 (S0q.2 10) y1), .int y1, .ref (ad (o0 + 4))]) rfl ?_
              refine lv_iconst (v := 1) hx hb dX2_passEquinox_108 (by decide) ?_
              refine lv_iadd hx hb dX2_passEquinox_109 ?_
              refine callW (va_runV (As := [.int y1, .int ((F_X3_get 6 (S0q.2 10) y1) + 1)]) (rest := []) ⟨hx, hb, hml, hown, hW⟩ (c_X3_put__round_10 l D cI cZ ad o0 (sA S0q 7 Z6) y1 ((F_X3_get 6 (S0q.2 10) y1) + 1) _ hw) (cwV0 hW mV_X3_put ml_X2_63 ⟨Nat.le_of_ble_eq_true rfl, Nat.le_of_ble_eq_true rfl⟩) (preV0 4 rfl rfl hK hN hP hD [0] rfl rfl) rfl rfl hl.1 rfl (lv_room (Nat.le_of_ble_eq_true rfl)) dX2_passEquinox_110 ⟨Nat.le_refl _, Nat.le_refl _⟩) hP hD hS [0] rfl rfl (fun _ => rfl) (fun v9 u9 H locs hq hP hD hS => ?_)
              obtain ⟨rfl, hw⟩ := hq
              obtain ⟨Z7, rfl⟩ : ∃ z, z = u9 := ⟨_, rfl⟩
              have hP : va_P D classes (jn [rcells cI ad o0 (sA (sA S0q 7 Z6) 10 Z7)]) H := hP
              have hD : va_D (cOf (jn [rcells cI ad o0 S0])) (jn [rcells cI ad o0 (sA (sA S0q 7 Z6) 10 Z7)]) := hD
              refine W.eq (g2 := F0 m 113 ls []) rfl ?_
              refine lv_iinc (v := (y1 + 1)) (lv' := [(1, .int (y1 + 1)), (0, .ref (ad o0))]) hx hb dX2_passEquinox_113 hl (k := 1) rfl rfl (by decide) rfl (fun ls hl => ?_)
              refine lv_goto (tgt := 17) hx hb dX2_passEquinox_116 (by decide) ?_
              exact ih (y1 + 1) (sA (sA S0q 7 Z6) 10 Z7) _ _ hP hD hS _ (lv_sub hl [1, 0] rfl) hw
        · have hw := Eq.mp (if_pos c2) hw
          refine lv_aload_n hx hb dX2_passEquinox_37 rfl (lv_at hl 0 rfl) ?_
          refine va_get (D := D) (ci := 2) (v := .ref (ad (o0 + 3))) (C := RX2) (T := TX2) (N := 15) hx hb hW inW_X2 hown hK hP 0 rfl rfl 9 (by decide) (hW _ fl_X2_23) (fun _ h9 => h9) rfl dX2_passEquinox_38 ?_
          refine lv_iload_n hx hb dX2_passEquinox_41 rfl (lv_at hl 1 rfl) ?_
          refine lv_iconst (v := 0) hx hb dX2_passEquinox_42 (by decide) ?_
          refine callW (va_runV (As := [.int y1, .int 0]) (rest := []) ⟨hx, hb, hml, hown, hW⟩ (c_X3_put__round_9 l D cI cZ ad o0 S0q y1 0 _ hw) (cwV0 hW mV_X3_put ml_X2_63 ⟨Nat.le_of_ble_eq_true rfl, Nat.le_of_ble_eq_true rfl⟩) (preV0 3 rfl rfl hK hN hP hD [0] rfl rfl) rfl rfl hl.1 rfl (lv_room (Nat.le_of_ble_eq_true rfl)) dX2_passEquinox_43 ⟨Nat.le_refl _, Nat.le_refl _⟩) hP hD hS [0] rfl rfl (fun _ => rfl) (fun v9 u9 H locs hq hP hD hS => ?_)
          obtain ⟨rfl, hw⟩ := hq
          obtain ⟨Z3, rfl⟩ : ∃ z, z = u9 := ⟨_, rfl⟩
          have hP : va_P D classes (jn [rcells cI ad o0 (sA S0q 9 Z3)]) H := hP
          have hD : va_D (cOf (jn [rcells cI ad o0 S0])) (jn [rcells cI ad o0 (sA S0q 9 Z3)]) := hD
          refine W.eq (g2 := F0 m 46 ls []) rfl ?_
          refine lv_goto (tgt := 113) hx hb dX2_passEquinox_46 (by decide) ?_
          refine lv_iinc (v := (y1 + 1)) (lv' := [(1, .int (y1 + 1)), (0, .ref (ad o0))]) hx hb dX2_passEquinox_113 hl (k := 1) rfl rfl (by decide) rfl (fun ls hl => ?_)
          refine lv_goto (tgt := 17) hx hb dX2_passEquinox_116 (by decide) ?_
          exact ih (y1 + 1) (sA S0q 9 Z3) _ _ hP hD hS _ (lv_sub hl [1, 0] rfl) hw
  have hw : (∃ M9, wl_X2_passEquinox_17 (fun (Z8 : St) => (k Z8)) M9 0 (sI (sI S0 3 0) 4 ((S0.1 4) + 1))) := hw
  refine lv_aload_n hx hb dX2_passEquinox_0 rfl (lv_at hl 0 rfl) ?_
  refine lv_iconst (v := 0) hx hb dX2_passEquinox_1 (by decide) ?_
  refine va_put (D := D) (ci := 2) (v := .int 0) (ty := .int) (C := RX2) (T := TX2) (N := 15) hx hb hW inW_X2 tyX2 tyX2_ok nmX2 hown hK hP hD hS 0 rfl rfl 3 (by decide) (hW _ fl_X2_48) (fun _ h9 => h9) rfl (by decide +kernel) rfl rfl (Nat.le_of_ble_eq_true rfl) dX2_passEquinox_2 (fun H locs hP hD hS => ?_)
  have hP : va_P D classes (jn [rcells cI ad o0 (sI S0 3 0)]) H := hP
  have hD : va_D (cOf (jn [rcells cI ad o0 S0])) (jn [rcells cI ad o0 (sI S0 3 0)]) := hD
  refine lv_aload_n hx hb dX2_passEquinox_5 rfl (lv_at hl 0 rfl) ?_
  refine lv_dup hx hb dX2_passEquinox_6 rfl ?_
  refine va_get (D := D) (ci := 2) (v := .int (S0.1 4)) (C := RX2) (T := TX2) (N := 15) hx hb hW inW_X2 hown hK hP 0 rfl rfl 4 (by decide) (hW _ fl_X2_51) (fun _ h9 => h9) rfl dX2_passEquinox_7 ?_
  refine lv_iconst (v := 1) hx hb dX2_passEquinox_10 (by decide) ?_
  refine lv_iadd hx hb dX2_passEquinox_11 ?_
  refine va_put (D := D) (ci := 2) (v := .int ((S0.1 4) + 1)) (ty := .int) (C := RX2) (T := TX2) (N := 15) hx hb hW inW_X2 tyX2 tyX2_ok nmX2 hown hK hP hD hS 0 rfl rfl 4 (by decide) (hW _ fl_X2_51) (fun _ h9 => h9) rfl (by decide +kernel) rfl rfl (Nat.le_of_ble_eq_true rfl) dX2_passEquinox_12 (fun H locs hP hD hS => ?_)
  have hP : va_P D classes (jn [rcells cI ad o0 (sI (sI S0 3 0) 4 ((S0.1 4) + 1))]) H := hP
  have hD : va_D (cOf (jn [rcells cI ad o0 S0])) (jn [rcells cI ad o0 (sI (sI S0 3 0) 4 ((S0.1 4) + 1))]) := hD
  refine lv_iconst (v := 0) hx hb dX2_passEquinox_15 (by decide) ?_
  refine lv_istore_n (lv' := [(1, .int 0), (0, .ref (ad o0))]) hx hb dX2_passEquinox_16 rfl hl (by decide) rfl (fun ls hl => ?_)
  obtain ⟨N10, hw⟩ := hw
  refine L17  _ (fun Z8 H locs hP hD hS ls hl hw => ?_) N10 0 (sI (sI S0 3 0) 4 ((S0.1 4) + 1)) _ _ hP hD hS _ (lv_sub hl [1, 0] rfl) hw
  exact W.vret hx hb hr (fun t ht _ => ⟨⟨_, (Z8), rfl, ⟨rfl, hw⟩, by rw [ht]; exact hP⟩, hS.F ht⟩) hS.2.2 dX2_passEquinox_119
set_option maxHeartbeats 4000000 in
set_option maxRecDepth 100000 in
theorem c_X2_passDays (l : Launch) (D : va_G) (cI cZ : ClassId) (ad : Nat → Nat) (o0 : Nat) (S0 : St) (x1 : Int32) (k : St → Prop) (hw : wp_X2_passDays S0 x1 k) : KW l yX2_passDays cX2_passDays 3 none 2 43 D cI cZ [.ref (ad o0), .int x1] [rcells cI ad o0 S0] (fun v (u : St) => v = none ∧ k u) (fun u : St => [rcells cI ad o0 u]) := by
  refine Met.ofE (by decide +kernel) (Nat.le_of_ble_eq_true rfl) ?_
  intro p e s m below meth c E ls hl
  obtain ⟨hx, hb, hr, hml, hW, hown, hlocks, hP, hK, hD, hN⟩ := E
  have hl : lv_has ls 3 [(0, .ref (ad o0)), (1, .int x1)] := hl
  have hS : va_S (cOf (jn [rcells cI ad o0 S0])) s.heap s.heap [] := va_S.rf
  have L2 : ∀  (kx : St → Prop), (∀ (S0q : St) (H : Heap) (locs : List Loc), va_P D classes (jn [rcells cI ad o0 S0q]) H → va_D (cOf (jn [rcells cI ad o0 S0])) (jn [rcells cI ad o0 S0q]) → va_S (cOf (jn [rcells cI ad o0 S0])) s.heap H locs → ∀ ls : Array Slot, lv_has ls 3 [] → kx S0q → W p l e { frames := 2, cells := 0, slots := 0, locals := 43 } s m ([.ref (ad o0), .int x1] : List Value).toArray below meth c H locs 0 0 (MQ below (QW (fun v (u : St) => v = none ∧ k u) D (fun u : St => [rcells cI ad o0 u]) [rcells cI ad o0 S0]) ([.ref (ad o0), .int x1] : List Value).toArray s 0 0 (cOf (jn [rcells cI ad o0 S0]))) (F0 m 47 ls [])) → ∀ (N2 : Nat) (y2 : Int32) (S0q : St) (H : Heap) (locs : List Loc), va_P D classes (jn [rcells cI ad o0 S0q]) H → va_D (cOf (jn [rcells cI ad o0 S0])) (jn [rcells cI ad o0 S0q]) → va_S (cOf (jn [rcells cI ad o0 S0])) s.heap H locs → ∀ ls : Array Slot, lv_has ls 3 [(0, .ref (ad o0)), (2, .int y2)] → wl_X2_passDays_2 kx N2 y2 S0q → W p l e { frames := 2, cells := 0, slots := 0, locals := 43 } s m ([.ref (ad o0), .int x1] : List Value).toArray below meth c H locs 0 0 (MQ below (QW (fun v (u : St) => v = none ∧ k u) D (fun u : St => [rcells cI ad o0 u]) [rcells cI ad o0 S0]) ([.ref (ad o0), .int x1] : List Value).toArray s 0 0 (cOf (jn [rcells cI ad o0 S0]))) (F0 m 2 ls []) := by
    intro  kx hxt N2
    induction N2 with
    | zero => intro y2 S0q H locs hP hD hS ls hl hw; exact False.elim hw
    | succ N2 ih =>
      intro y2 S0q H locs hP hD hS ls hl hw
      have hw : (if y2 ≤ 0 then (kx S0q) else (if ((S0q.1 3) + 1) < (S0q.1 1) then (wl_X2_passDays_2 kx N2 (y2 + (-1)) (sI (sI S0q 2 ((S0q.1 2) + 1)) 3 ((S0q.1 3) + 1))) else (wp_X2_passEquinox (sI (sI S0q 2 ((S0q.1 2) + 1)) 3 ((S0q.1 3) + 1)) (fun (Z3 : St) => (wl_X2_passDays_2 kx N2 (y2 + (-1)) Z3))))) := hw
      refine lv_iload_n hx hb dX2_passDays_2 rfl (lv_at hl 1 rfl) ?_
      refine lv_if_le (tgt := 47) hx hb dX2_passDays_3 (by decide) (fun c1 => ?_) (fun c1 => ?_)
      · have hw := Eq.mp (if_pos c1) hw
        exact hxt S0q _ _ hP hD hS _ (lv_sub hl [] rfl) hw
      · have hw := Eq.mp (if_neg c1) hw
        refine lv_aload_n hx hb dX2_passDays_6 rfl (lv_at hl 0 rfl) ?_
        refine lv_dup hx hb dX2_passDays_7 rfl ?_
        refine va_get (D := D) (ci := 2) (v := .int (S0q.1 2)) (C := RX2) (T := TX2) (N := 15) hx hb hW inW_X2 hown hK hP 0 rfl rfl 2 (by decide) (hW _ fl_X2_45) (fun _ h9 => h9) rfl dX2_passDays_8 ?_
        refine lv_iconst (v := 1) hx hb dX2_passDays_11 (by decide) ?_
        refine lv_iadd hx hb dX2_passDays_12 ?_
        refine va_put (D := D) (ci := 2) (v := .int ((S0q.1 2) + 1)) (ty := .int) (C := RX2) (T := TX2) (N := 15) hx hb hW inW_X2 tyX2 tyX2_ok nmX2 hown hK hP hD hS 0 rfl rfl 2 (by decide) (hW _ fl_X2_45) (fun _ h9 => h9) rfl (by decide +kernel) rfl rfl (Nat.le_of_ble_eq_true rfl) dX2_passDays_13 (fun H locs hP hD hS => ?_)
        have hP : va_P D classes (jn [rcells cI ad o0 (sI S0q 2 ((S0q.1 2) + 1))]) H := hP
        have hD : va_D (cOf (jn [rcells cI ad o0 S0])) (jn [rcells cI ad o0 (sI S0q 2 ((S0q.1 2) + 1))]) := hD
        refine lv_aload_n hx hb dX2_passDays_16 rfl (lv_at hl 0 rfl) ?_
        refine lv_dup hx hb dX2_passDays_17 rfl ?_
        refine va_get (D := D) (ci := 2) (v := .int (S0q.1 3)) (C := RX2) (T := TX2) (N := 15) hx hb hW inW_X2 hown hK hP 0 rfl rfl 3 (by decide) (hW _ fl_X2_48) (fun _ h9 => h9) rfl dX2_passDays_18 ?_
        refine lv_iconst (v := 1) hx hb dX2_passDays_21 (by decide) ?_
        refine lv_iadd hx hb dX2_passDays_22 ?_
        refine va_put (D := D) (ci := 2) (v := .int ((S0q.1 3) + 1)) (ty := .int) (C := RX2) (T := TX2) (N := 15) hx hb hW inW_X2 tyX2 tyX2_ok nmX2 hown hK hP hD hS 0 rfl rfl 3 (by decide) (hW _ fl_X2_48) (fun _ h9 => h9) rfl (by decide +kernel) rfl rfl (Nat.le_of_ble_eq_true rfl) dX2_passDays_23 (fun H locs hP hD hS => ?_)
        have hP : va_P D classes (jn [rcells cI ad o0 (sI (sI S0q 2 ((S0q.1 2) + 1)) 3 ((S0q.1 3) + 1))]) H := hP
        have hD : va_D (cOf (jn [rcells cI ad o0 S0])) (jn [rcells cI ad o0 (sI (sI S0q 2 ((S0q.1 2) + 1)) 3 ((S0q.1 3) + 1))]) := hD
        refine lv_aload_n hx hb dX2_passDays_26 rfl (lv_at hl 0 rfl) ?_
        refine va_get (D := D) (ci := 2) (v := .int ((S0q.1 3) + 1)) (C := RX2) (T := TX2) (N := 15) hx hb hW inW_X2 hown hK hP 0 rfl rfl 3 (by decide) (hW _ fl_X2_48) (fun _ h9 => h9) rfl dX2_passDays_27 ?_
        refine lv_aload_n hx hb dX2_passDays_30 rfl (lv_at hl 0 rfl) ?_
        refine va_get (D := D) (ci := 2) (v := .int (S0q.1 1)) (C := RX2) (T := TX2) (N := 15) hx hb hW inW_X2 hown hK hP 0 rfl rfl 1 (by decide) (hW _ fl_X2_67) (fun _ h9 => h9) rfl dX2_passDays_31 ?_
        refine lv_icmp_lt (tgt := 41) hx hb dX2_passDays_34 (by decide) (fun c2 => ?_) (fun c2 => ?_)
        · have hw := Eq.mp (if_pos c2) hw
          refine lv_iinc (v := (y2 + (-1))) (lv' := [(2, .int (y2 + (-1))), (0, .ref (ad o0))]) hx hb dX2_passDays_41 hl (k := 1) rfl (by rfl) (by decide) rfl (fun ls hl => ?_)
          refine lv_goto (tgt := 2) hx hb dX2_passDays_44 (by decide) ?_
          exact ih (y2 + (-1)) (sI (sI S0q 2 ((S0q.1 2) + 1)) 3 ((S0q.1 3) + 1)) _ _ hP hD hS _ (lv_sub hl [1, 0] rfl) hw
        · have hw := Eq.mp (if_neg c2) hw
          refine lv_aload_n hx hb dX2_passDays_37 rfl (lv_at hl 0 rfl) ?_
          refine callW (va_runV (As := []) (rest := []) ⟨hx, hb, hml, hown, hW⟩ (c_X2_passEquinox l D cI cZ ad o0 (sI (sI S0q 2 ((S0q.1 2) + 1)) 3 ((S0q.1 3) + 1)) _ hw) (cwV0 hW mV_X2_passEquinox ml_X2_88 ⟨Nat.le_of_ble_eq_true rfl, Nat.le_of_ble_eq_true rfl⟩) (preV0 0 rfl rfl hK hN hP hD [0] rfl rfl) rfl rfl hl.1 rfl (lv_room (Nat.le_of_ble_eq_true rfl)) dX2_passDays_38 ⟨Nat.le_refl _, Nat.le_refl _⟩) hP hD hS [0] rfl rfl (fun _ => rfl) (fun v9 u9 H locs hq hP hD hS => ?_)
          obtain ⟨rfl, hw⟩ := hq
          obtain ⟨Z3, rfl⟩ : ∃ z, z = u9 := ⟨_, rfl⟩
          have hP : va_P D classes (jn [rcells cI ad o0 Z3]) H := hP
          have hD : va_D (cOf (jn [rcells cI ad o0 S0])) (jn [rcells cI ad o0 Z3]) := hD
          refine W.eq (g2 := F0 m 41 ls []) rfl ?_
          refine lv_iinc (v := (y2 + (-1))) (lv' := [(2, .int (y2 + (-1))), (0, .ref (ad o0))]) hx hb dX2_passDays_41 hl (k := 1) rfl (by rfl) (by decide) rfl (fun ls hl => ?_)
          refine lv_goto (tgt := 2) hx hb dX2_passDays_44 (by decide) ?_
          exact ih (y2 + (-1)) Z3 _ _ hP hD hS _ (lv_sub hl [1, 0] rfl) hw
  have hw : (∃ M5, wl_X2_passDays_2 (fun (Z4 : St) => (k Z4)) M5 x1 S0) := hw
  refine lv_iload_n hx hb dX2_passDays_0 rfl (lv_at hl 1 rfl) ?_
  refine lv_istore_n (lv' := [(2, .int x1), (0, .ref (ad o0)), (1, .int x1)]) hx hb dX2_passDays_1 rfl hl (by decide) rfl (fun ls hl => ?_)
  obtain ⟨N6, hw⟩ := hw
  refine L2  _ (fun Z4 H locs hP hD hS ls hl hw => ?_) N6 x1 S0 _ _ hP hD hS _ (lv_sub hl [1, 0] rfl) hw
  exact W.vret hx hb hr (fun t ht _ => ⟨⟨_, (Z4), rfl, ⟨rfl, hw⟩, by rw [ht]; exact hP⟩, hS.F ht⟩) hS.2.2 dX2_passDays_47
set_option maxHeartbeats 4000000 in
set_option maxRecDepth 100000 in
theorem c_X2_passSeason (l : Launch) (D : va_G) (cI cZ : ClassId) (ad : Nat → Nat) (o0 : Nat) (S0 : St) (k : St → Prop) (hw : wp_X2_passSeason S0 k) : KW l yX2_passSeason cX2_passSeason 1 none 2 43 D cI cZ [.ref (ad o0)] [rcells cI ad o0 S0] (fun v (u : St) => v = none ∧ k u) (fun u : St => [rcells cI ad o0 u]) := by
  refine Met.ofE (by decide +kernel) (Nat.le_of_ble_eq_true rfl) ?_
  intro p e s m below meth c E ls hl
  obtain ⟨hx, hb, hr, hml, hW, hown, hlocks, hP, hK, hD, hN⟩ := E
  have hl : lv_has ls 1 [(0, .ref (ad o0))] := hl
  have hS : va_S (cOf (jn [rcells cI ad o0 S0])) s.heap s.heap [] := va_S.rf
  have hw : (wp_X2_passEquinox (sI S0 2 ((S0.1 2) + ((S0.1 1) - (S0.1 3)))) (fun (Z1 : St) => (k Z1))) := hw
  refine lv_aload_n hx hb dX2_passSeason_0 rfl (lv_at hl 0 rfl) ?_
  refine lv_dup hx hb dX2_passSeason_1 rfl ?_
  refine va_get (D := D) (ci := 2) (v := .int (S0.1 2)) (C := RX2) (T := TX2) (N := 15) hx hb hW inW_X2 hown hK hP 0 rfl rfl 2 (by decide) (hW _ fl_X2_45) (fun _ h9 => h9) rfl dX2_passSeason_2 ?_
  refine lv_aload_n hx hb dX2_passSeason_5 rfl (lv_at hl 0 rfl) ?_
  refine va_get (D := D) (ci := 2) (v := .int (S0.1 1)) (C := RX2) (T := TX2) (N := 15) hx hb hW inW_X2 hown hK hP 0 rfl rfl 1 (by decide) (hW _ fl_X2_67) (fun _ h9 => h9) rfl dX2_passSeason_6 ?_
  refine lv_aload_n hx hb dX2_passSeason_9 rfl (lv_at hl 0 rfl) ?_
  refine va_get (D := D) (ci := 2) (v := .int (S0.1 3)) (C := RX2) (T := TX2) (N := 15) hx hb hW inW_X2 hown hK hP 0 rfl rfl 3 (by decide) (hW _ fl_X2_48) (fun _ h9 => h9) rfl dX2_passSeason_10 ?_
  refine lv_isub hx hb dX2_passSeason_13 ?_
  refine lv_iadd hx hb dX2_passSeason_14 ?_
  refine va_put (D := D) (ci := 2) (v := .int ((S0.1 2) + ((S0.1 1) - (S0.1 3)))) (ty := .int) (C := RX2) (T := TX2) (N := 15) hx hb hW inW_X2 tyX2 tyX2_ok nmX2 hown hK hP hD hS 0 rfl rfl 2 (by decide) (hW _ fl_X2_45) (fun _ h9 => h9) rfl (by decide +kernel) rfl rfl (Nat.le_of_ble_eq_true rfl) dX2_passSeason_15 (fun H locs hP hD hS => ?_)
  have hP : va_P D classes (jn [rcells cI ad o0 (sI S0 2 ((S0.1 2) + ((S0.1 1) - (S0.1 3))))]) H := hP
  have hD : va_D (cOf (jn [rcells cI ad o0 S0])) (jn [rcells cI ad o0 (sI S0 2 ((S0.1 2) + ((S0.1 1) - (S0.1 3))))]) := hD
  refine lv_aload_n hx hb dX2_passSeason_18 rfl (lv_at hl 0 rfl) ?_
  refine callW (va_runV (As := []) (rest := []) ⟨hx, hb, hml, hown, hW⟩ (c_X2_passEquinox l D cI cZ ad o0 (sI S0 2 ((S0.1 2) + ((S0.1 1) - (S0.1 3)))) _ hw) (cwV0 hW mV_X2_passEquinox ml_X2_88 ⟨Nat.le_of_ble_eq_true rfl, Nat.le_of_ble_eq_true rfl⟩) (preV0 0 rfl rfl hK hN hP hD [0] rfl rfl) rfl rfl hl.1 rfl (lv_room (Nat.le_of_ble_eq_true rfl)) dX2_passSeason_19 ⟨Nat.le_refl _, Nat.le_refl _⟩) hP hD hS [0] rfl rfl (fun _ => rfl) (fun v9 u9 H locs hq hP hD hS => ?_)
  obtain ⟨rfl, hw⟩ := hq
  obtain ⟨Z1, rfl⟩ : ∃ z, z = u9 := ⟨_, rfl⟩
  have hP : va_P D classes (jn [rcells cI ad o0 Z1]) H := hP
  have hD : va_D (cOf (jn [rcells cI ad o0 S0])) (jn [rcells cI ad o0 Z1]) := hD
  refine W.eq (g2 := F0 m 22 ls []) rfl ?_
  exact W.vret hx hb hr (fun t ht _ => ⟨⟨_, (Z1), rfl, ⟨rfl, hw⟩, by rw [ht]; exact hP⟩, hS.F ht⟩) hS.2.2 dX2_passSeason_22
set_option maxHeartbeats 4000000 in
set_option maxRecDepth 100000 in
theorem c_X2_landAfter (l : Launch) (D : va_G) (cI cZ : ClassId) (ad : Nat → Nat) (o0 : Nat) (S0 : St) (x1 : Int32) (x2 : Int32) (r9 : Int32) (hw : F_X2_landAfter S0 x1 x2 = r9) : KF l yX2_landAfter cX2_landAfter 4 (some .int) 1 22 D cI cZ [.ref (ad o0), .int x1, .int x2] [rcells cI ad o0 S0] (some (.int r9)) := by
  refine Met.ofE (by decide +kernel) (Nat.le_of_ble_eq_true rfl) ?_
  intro p e s m below meth c E ls hl
  obtain ⟨hx, hb, hr, hml, hW, hown, hlocks, hP, hK, hD, hN⟩ := E
  have hl : lv_has ls 4 [(0, .ref (ad o0)), (1, .int x1), (2, .int x2)] := hl
  have hw : (if (F_X2_lives S0 x1) = 0 then (-6) else (if (F_X3_get 6 (S0.2 9) x1) = 1 then (F_X6_leftOver ((x1 + 1) + (F_X6_leftOver ((F_X3_get 6 (S0.2 7) x1) + (jmax 0 (x2 - 1))) ((S0.1 0) - 1))) (S0.1 0)) else (if (F_X3_get 6 (S0.2 9) x1) = 2 then (F_X6_leftOver ((x1 + 1) + (F_X6_leftOver ((F_X3_get 6 (S0.2 7) x1) + 0) ((S0.1 0) - 1))) (S0.1 0)) else (F_X6_leftOver ((x1 + 1) + (F_X6_leftOver ((F_X3_get 6 (S0.2 7) x1) + x2) ((S0.1 0) - 1))) (S0.1 0))))) = r9 := hw
  refine lv_aload_n hx hb dX2_landAfter_0 rfl (lv_at hl 0 rfl) ?_
  refine lv_iload_n hx hb dX2_landAfter_1 rfl (lv_at hl 1 rfl) ?_
  refine callF (va_runV (As := [.int x1]) (rest := []) ⟨hx, hb, hml, hown, hW⟩ (c_X2_lives l D cI cZ ad o0 S0 x1 _ rfl) (cwV0 hW mV_X2_lives ml_X2_82 ⟨Nat.le_of_ble_eq_true rfl, Nat.le_of_ble_eq_true rfl⟩) (preV0 0 rfl rfl hK hN hP hD [0] rfl rfl) rfl rfl hl.1 rfl (lv_room (Nat.le_of_ble_eq_true rfl)) dX2_landAfter_2 ⟨Nat.le_refl _, Nat.le_refl _⟩) ?_
  refine W.eq (g2 := F0 m 5 ls [.int (F_X2_lives S0 x1)]) rfl ?_
  refine lv_if_ne (tgt := 11) hx hb dX2_landAfter_5 (by decide) (fun c1 => ?_) (fun c1 => ?_)
  · have hw := (if_neg c1).symm.trans hw
    refine lv_iload_n hx hb dX2_landAfter_11 rfl (lv_at hl 2 rfl) ?_
    refine lv_istore_n (lv' := [(3, .int x2), (0, .ref (ad o0)), (1, .int x1), (2, .int x2)]) hx hb dX2_landAfter_12 rfl hl (by decide) rfl (fun ls hl => ?_)
    refine lv_aload_n hx hb dX2_landAfter_13 rfl (lv_at hl 1 rfl) ?_
    refine va_get (D := D) (ci := 2) (v := .ref (ad (o0 + 3))) (C := RX2) (T := TX2) (N := 15) hx hb hW inW_X2 hown hK hP 0 rfl rfl 9 (by decide) (hW _ fl_X2_23) (fun _ h9 => h9) rfl dX2_landAfter_14 ?_
    refine lv_iload_n hx hb dX2_landAfter_17 rfl (lv_at hl 2 rfl) ?_
    refine callF (va_runV (As := [.int x1]) (rest := []) ⟨hx, hb, hml, hown, hW⟩ (c_X3_get__round_9 l D cI cZ ad o0 S0 x1 _ rfl) (cwV0 hW mV_X3_get ml_X2_78 ⟨Nat.le_of_ble_eq_true rfl, Nat.le_of_ble_eq_true rfl⟩) (preV0 3 rfl rfl hK hN hP hD [0] rfl rfl) rfl rfl hl.1 rfl (lv_room (Nat.le_of_ble_eq_true rfl)) dX2_landAfter_18 ⟨Nat.le_refl _, Nat.le_refl _⟩) ?_
    refine W.eq (g2 := F0 m 21 ls [.int (F_X3_get 6 (S0.2 9) x1)]) rfl ?_
    refine lv_iconst (v := 1) hx hb dX2_landAfter_21 (by decide) ?_
    refine lv_icmp_ne (tgt := 36) hx hb dX2_landAfter_22 (by decide) (fun c2 => ?_) (fun c2 => ?_)
    · have hw := (if_neg c2).symm.trans hw
      refine lv_aload_n hx hb dX2_landAfter_36 rfl (lv_at hl 1 rfl) ?_
      refine va_get (D := D) (ci := 2) (v := .ref (ad (o0 + 3))) (C := RX2) (T := TX2) (N := 15) hx hb hW inW_X2 hown hK hP 0 rfl rfl 9 (by decide) (hW _ fl_X2_23) (fun _ h9 => h9) rfl dX2_landAfter_37 ?_
      refine lv_iload_n hx hb dX2_landAfter_40 rfl (lv_at hl 2 rfl) ?_
      refine callF (va_runV (As := [.int x1]) (rest := []) ⟨hx, hb, hml, hown, hW⟩ (c_X3_get__round_9 l D cI cZ ad o0 S0 x1 _ rfl) (cwV0 hW mV_X3_get ml_X2_78 ⟨Nat.le_of_ble_eq_true rfl, Nat.le_of_ble_eq_true rfl⟩) (preV0 3 rfl rfl hK hN hP hD [0] rfl rfl) rfl rfl hl.1 rfl (lv_room (Nat.le_of_ble_eq_true rfl)) dX2_landAfter_41 ⟨Nat.le_refl _, Nat.le_refl _⟩) ?_
      refine W.eq (g2 := F0 m 44 ls [.int (F_X3_get 6 (S0.2 9) x1)]) rfl ?_
      refine lv_iconst (v := 2) hx hb dX2_landAfter_44 (by decide) ?_
      refine lv_icmp_ne (tgt := 50) hx hb dX2_landAfter_45 (by decide) (fun c3 => ?_) (fun c3 => ?_)
      · have hw := (if_neg c3).symm.trans hw
        refine lv_iload_n hx hb dX2_landAfter_50 rfl (lv_at hl 2 rfl) ?_
        refine lv_iconst (v := 1) hx hb dX2_landAfter_51 (by decide) ?_
        refine lv_iadd hx hb dX2_landAfter_52 ?_
        refine lv_aload_n hx hb dX2_landAfter_53 rfl (lv_at hl 1 rfl) ?_
        refine va_get (D := D) (ci := 2) (v := .ref (ad (o0 + 1))) (C := RX2) (T := TX2) (N := 15) hx hb hW inW_X2 hown hK hP 0 rfl rfl 7 (by decide) (hW _ fl_X2_14) (fun _ h9 => h9) rfl dX2_landAfter_54 ?_
        refine lv_iload_n hx hb dX2_landAfter_57 rfl (lv_at hl 2 rfl) ?_
        refine callF (va_runV (As := [.int x1]) (rest := [.int (x1 + 1)]) ⟨hx, hb, hml, hown, hW⟩ (c_X3_get__round_7 l D cI cZ ad o0 S0 x1 _ rfl) (cwV0 hW mV_X3_get ml_X2_78 ⟨Nat.le_of_ble_eq_true rfl, Nat.le_of_ble_eq_true rfl⟩) (preV0 1 rfl rfl hK hN hP hD [0] rfl rfl) rfl rfl hl.1 rfl (lv_room (Nat.le_of_ble_eq_true rfl)) dX2_landAfter_58 ⟨Nat.le_refl _, Nat.le_refl _⟩) ?_
        refine W.eq (g2 := F0 m 61 ls [.int (F_X3_get 6 (S0.2 7) x1), .int (x1 + 1)]) rfl ?_
        refine lv_iload_n hx hb dX2_landAfter_61 rfl (lv_at hl 0 rfl) ?_
        refine lv_iadd hx hb dX2_landAfter_62 ?_
        refine lv_aload_n hx hb dX2_landAfter_63 rfl (lv_at hl 1 rfl) ?_
        refine va_get (D := D) (ci := 2) (v := .int (S0.1 0)) (C := RX2) (T := TX2) (N := 15) hx hb hW inW_X2 hown hK hP 0 rfl rfl 0 (by decide) (hW _ fl_X2_41) (fun _ h9 => h9) rfl dX2_landAfter_64 ?_
        refine lv_iconst (v := 1) hx hb dX2_landAfter_67 (by decide) ?_
        refine lv_isub hx hb dX2_landAfter_68 ?_
        refine callF (va_runSN (As := [.int ((F_X3_get 6 (S0.2 7) x1) + x2), .int ((S0.1 0) - 1)]) (rest := [.int (x1 + 1)]) ⟨hx, hb, hml, hown, hW⟩ (c_X6_leftOver l D cI cZ ((F_X3_get 6 (S0.2 7) x1) + x2) ((S0.1 0) - 1) _ rfl) (cwSN0 hW hN mS_X6_leftOver nl_X2_91 ⟨Nat.le_of_ble_eq_true rfl, Nat.le_of_ble_eq_true rfl⟩) (preS0 hK hN hP hD [] rfl rfl) rfl rfl hl.1 rfl (lv_room (Nat.le_of_ble_eq_true rfl)) dX2_landAfter_69 ⟨Nat.le_refl _, Nat.le_refl _⟩) ?_
        refine W.eq (g2 := F0 m 72 ls [.int (F_X6_leftOver ((F_X3_get 6 (S0.2 7) x1) + x2) ((S0.1 0) - 1)), .int (x1 + 1)]) rfl ?_
        refine lv_iadd hx hb dX2_landAfter_72 ?_
        refine lv_aload_n hx hb dX2_landAfter_73 rfl (lv_at hl 1 rfl) ?_
        refine va_get (D := D) (ci := 2) (v := .int (S0.1 0)) (C := RX2) (T := TX2) (N := 15) hx hb hW inW_X2 hown hK hP 0 rfl rfl 0 (by decide) (hW _ fl_X2_41) (fun _ h9 => h9) rfl dX2_landAfter_74 ?_
        refine callF (va_runSN (As := [.int ((x1 + 1) + (F_X6_leftOver ((F_X3_get 6 (S0.2 7) x1) + x2) ((S0.1 0) - 1))), .int (S0.1 0)]) (rest := []) ⟨hx, hb, hml, hown, hW⟩ (c_X6_leftOver l D cI cZ ((x1 + 1) + (F_X6_leftOver ((F_X3_get 6 (S0.2 7) x1) + x2) ((S0.1 0) - 1))) (S0.1 0) _ rfl) (cwSN0 hW hN mS_X6_leftOver nl_X2_91 ⟨Nat.le_of_ble_eq_true rfl, Nat.le_of_ble_eq_true rfl⟩) (preS0 hK hN hP hD [] rfl rfl) rfl rfl hl.1 rfl (lv_room (Nat.le_of_ble_eq_true rfl)) dX2_landAfter_77 ⟨Nat.le_refl _, Nat.le_refl _⟩) ?_
        refine W.eq (g2 := F0 m 80 ls [.int (F_X6_leftOver ((x1 + 1) + (F_X6_leftOver ((F_X3_get 6 (S0.2 7) x1) + x2) ((S0.1 0) - 1))) (S0.1 0))]) rfl ?_
        subst hw
        exact W.iret (v := (F_X6_leftOver ((x1 + 1) + (F_X6_leftOver ((F_X3_get 6 (S0.2 7) x1) + x2) ((S0.1 0) - 1))) (S0.1 0))) hx hb hr (fun t ht _ => ⟨rfl, ht⟩) (fun _ h => by cases h) dX2_landAfter_80
      · have hw := (if_pos c3).symm.trans hw
        refine lv_iconst (v := 0) hx hb dX2_landAfter_48 (by decide) ?_
        refine lv_istore_n (lv' := [(3, .int 0), (0, .ref (ad o0)), (1, .int x1), (2, .int x2)]) hx hb dX2_landAfter_49 rfl hl (by decide) rfl (fun ls hl => ?_)
        refine lv_iload_n hx hb dX2_landAfter_50 rfl (lv_at hl 2 rfl) ?_
        refine lv_iconst (v := 1) hx hb dX2_landAfter_51 (by decide) ?_
        refine lv_iadd hx hb dX2_landAfter_52 ?_
        refine lv_aload_n hx hb dX2_landAfter_53 rfl (lv_at hl 1 rfl) ?_
        refine va_get (D := D) (ci := 2) (v := .ref (ad (o0 + 1))) (C := RX2) (T := TX2) (N := 15) hx hb hW inW_X2 hown hK hP 0 rfl rfl 7 (by decide) (hW _ fl_X2_14) (fun _ h9 => h9) rfl dX2_landAfter_54 ?_
        refine lv_iload_n hx hb dX2_landAfter_57 rfl (lv_at hl 2 rfl) ?_
        refine callF (va_runV (As := [.int x1]) (rest := [.int (x1 + 1)]) ⟨hx, hb, hml, hown, hW⟩ (c_X3_get__round_7 l D cI cZ ad o0 S0 x1 _ rfl) (cwV0 hW mV_X3_get ml_X2_78 ⟨Nat.le_of_ble_eq_true rfl, Nat.le_of_ble_eq_true rfl⟩) (preV0 1 rfl rfl hK hN hP hD [0] rfl rfl) rfl rfl hl.1 rfl (lv_room (Nat.le_of_ble_eq_true rfl)) dX2_landAfter_58 ⟨Nat.le_refl _, Nat.le_refl _⟩) ?_
        refine W.eq (g2 := F0 m 61 ls [.int (F_X3_get 6 (S0.2 7) x1), .int (x1 + 1)]) rfl ?_
        refine lv_iload_n hx hb dX2_landAfter_61 rfl (lv_at hl 0 rfl) ?_
        refine lv_iadd hx hb dX2_landAfter_62 ?_
        refine lv_aload_n hx hb dX2_landAfter_63 rfl (lv_at hl 1 rfl) ?_
        refine va_get (D := D) (ci := 2) (v := .int (S0.1 0)) (C := RX2) (T := TX2) (N := 15) hx hb hW inW_X2 hown hK hP 0 rfl rfl 0 (by decide) (hW _ fl_X2_41) (fun _ h9 => h9) rfl dX2_landAfter_64 ?_
        refine lv_iconst (v := 1) hx hb dX2_landAfter_67 (by decide) ?_
        refine lv_isub hx hb dX2_landAfter_68 ?_
        refine callF (va_runSN (As := [.int ((F_X3_get 6 (S0.2 7) x1) + 0), .int ((S0.1 0) - 1)]) (rest := [.int (x1 + 1)]) ⟨hx, hb, hml, hown, hW⟩ (c_X6_leftOver l D cI cZ ((F_X3_get 6 (S0.2 7) x1) + 0) ((S0.1 0) - 1) _ rfl) (cwSN0 hW hN mS_X6_leftOver nl_X2_91 ⟨Nat.le_of_ble_eq_true rfl, Nat.le_of_ble_eq_true rfl⟩) (preS0 hK hN hP hD [] rfl rfl) rfl rfl hl.1 rfl (lv_room (Nat.le_of_ble_eq_true rfl)) dX2_landAfter_69 ⟨Nat.le_refl _, Nat.le_refl _⟩) ?_
        refine W.eq (g2 := F0 m 72 ls [.int (F_X6_leftOver ((F_X3_get 6 (S0.2 7) x1) + 0) ((S0.1 0) - 1)), .int (x1 + 1)]) rfl ?_
        refine lv_iadd hx hb dX2_landAfter_72 ?_
        refine lv_aload_n hx hb dX2_landAfter_73 rfl (lv_at hl 1 rfl) ?_
        refine va_get (D := D) (ci := 2) (v := .int (S0.1 0)) (C := RX2) (T := TX2) (N := 15) hx hb hW inW_X2 hown hK hP 0 rfl rfl 0 (by decide) (hW _ fl_X2_41) (fun _ h9 => h9) rfl dX2_landAfter_74 ?_
        refine callF (va_runSN (As := [.int ((x1 + 1) + (F_X6_leftOver ((F_X3_get 6 (S0.2 7) x1) + 0) ((S0.1 0) - 1))), .int (S0.1 0)]) (rest := []) ⟨hx, hb, hml, hown, hW⟩ (c_X6_leftOver l D cI cZ ((x1 + 1) + (F_X6_leftOver ((F_X3_get 6 (S0.2 7) x1) + 0) ((S0.1 0) - 1))) (S0.1 0) _ rfl) (cwSN0 hW hN mS_X6_leftOver nl_X2_91 ⟨Nat.le_of_ble_eq_true rfl, Nat.le_of_ble_eq_true rfl⟩) (preS0 hK hN hP hD [] rfl rfl) rfl rfl hl.1 rfl (lv_room (Nat.le_of_ble_eq_true rfl)) dX2_landAfter_77 ⟨Nat.le_refl _, Nat.le_refl _⟩) ?_
        refine W.eq (g2 := F0 m 80 ls [.int (F_X6_leftOver ((x1 + 1) + (F_X6_leftOver ((F_X3_get 6 (S0.2 7) x1) + 0) ((S0.1 0) - 1))) (S0.1 0))]) rfl ?_
        subst hw
        exact W.iret (v := (F_X6_leftOver ((x1 + 1) + (F_X6_leftOver ((F_X3_get 6 (S0.2 7) x1) + 0) ((S0.1 0) - 1))) (S0.1 0))) hx hb hr (fun t ht _ => ⟨rfl, ht⟩) (fun _ h => by cases h) dX2_landAfter_80
    · have hw := (if_pos c2).symm.trans hw
      refine lv_iconst (v := 0) hx hb dX2_landAfter_25 (by decide) ?_
      refine lv_iload_n hx hb dX2_landAfter_26 rfl (lv_at hl 3 rfl) ?_
      refine lv_iconst (v := 1) hx hb dX2_landAfter_27 (by decide) ?_
      refine lv_isub hx hb dX2_landAfter_28 ?_
      refine va_mmax hx hb (hml.trans hl.1.symm) hown (hW _ ml_X2_95) (hW _ st_J9_max_7cf53) (hW _ ini_J9) (hW _ cd_J9_max_7cf53) (Nat.le_of_ble_eq_true rfl) (Nat.le_of_ble_eq_true rfl) (Nat.le_refl _) (Nat.le_refl _) dX2_landAfter_29 ?_
      refine W.eq (g2 := F0 m 32 ls [.int (jmax 0 (x2 - 1))]) rfl ?_
      refine lv_istore_n (lv' := [(3, .int (jmax 0 (x2 - 1))), (0, .ref (ad o0)), (1, .int x1), (2, .int x2)]) hx hb dX2_landAfter_32 rfl hl (by decide) rfl (fun ls hl => ?_)
      refine lv_goto (tgt := 50) hx hb dX2_landAfter_33 (by decide) ?_
      refine lv_iload_n hx hb dX2_landAfter_50 rfl (lv_at hl 2 rfl) ?_
      refine lv_iconst (v := 1) hx hb dX2_landAfter_51 (by decide) ?_
      refine lv_iadd hx hb dX2_landAfter_52 ?_
      refine lv_aload_n hx hb dX2_landAfter_53 rfl (lv_at hl 1 rfl) ?_
      refine va_get (D := D) (ci := 2) (v := .ref (ad (o0 + 1))) (C := RX2) (T := TX2) (N := 15) hx hb hW inW_X2 hown hK hP 0 rfl rfl 7 (by decide) (hW _ fl_X2_14) (fun _ h9 => h9) rfl dX2_landAfter_54 ?_
      refine lv_iload_n hx hb dX2_landAfter_57 rfl (lv_at hl 2 rfl) ?_
      refine callF (va_runV (As := [.int x1]) (rest := [.int (x1 + 1)]) ⟨hx, hb, hml, hown, hW⟩ (c_X3_get__round_7 l D cI cZ ad o0 S0 x1 _ rfl) (cwV0 hW mV_X3_get ml_X2_78 ⟨Nat.le_of_ble_eq_true rfl, Nat.le_of_ble_eq_true rfl⟩) (preV0 1 rfl rfl hK hN hP hD [0] rfl rfl) rfl rfl hl.1 rfl (lv_room (Nat.le_of_ble_eq_true rfl)) dX2_landAfter_58 ⟨Nat.le_refl _, Nat.le_refl _⟩) ?_
      refine W.eq (g2 := F0 m 61 ls [.int (F_X3_get 6 (S0.2 7) x1), .int (x1 + 1)]) rfl ?_
      refine lv_iload_n hx hb dX2_landAfter_61 rfl (lv_at hl 0 rfl) ?_
      refine lv_iadd hx hb dX2_landAfter_62 ?_
      refine lv_aload_n hx hb dX2_landAfter_63 rfl (lv_at hl 1 rfl) ?_
      refine va_get (D := D) (ci := 2) (v := .int (S0.1 0)) (C := RX2) (T := TX2) (N := 15) hx hb hW inW_X2 hown hK hP 0 rfl rfl 0 (by decide) (hW _ fl_X2_41) (fun _ h9 => h9) rfl dX2_landAfter_64 ?_
      refine lv_iconst (v := 1) hx hb dX2_landAfter_67 (by decide) ?_
      refine lv_isub hx hb dX2_landAfter_68 ?_
      refine callF (va_runSN (As := [.int ((F_X3_get 6 (S0.2 7) x1) + (jmax 0 (x2 - 1))), .int ((S0.1 0) - 1)]) (rest := [.int (x1 + 1)]) ⟨hx, hb, hml, hown, hW⟩ (c_X6_leftOver l D cI cZ ((F_X3_get 6 (S0.2 7) x1) + (jmax 0 (x2 - 1))) ((S0.1 0) - 1) _ rfl) (cwSN0 hW hN mS_X6_leftOver nl_X2_91 ⟨Nat.le_of_ble_eq_true rfl, Nat.le_of_ble_eq_true rfl⟩) (preS0 hK hN hP hD [] rfl rfl) rfl rfl hl.1 rfl (lv_room (Nat.le_of_ble_eq_true rfl)) dX2_landAfter_69 ⟨Nat.le_refl _, Nat.le_refl _⟩) ?_
      refine W.eq (g2 := F0 m 72 ls [.int (F_X6_leftOver ((F_X3_get 6 (S0.2 7) x1) + (jmax 0 (x2 - 1))) ((S0.1 0) - 1)), .int (x1 + 1)]) rfl ?_
      refine lv_iadd hx hb dX2_landAfter_72 ?_
      refine lv_aload_n hx hb dX2_landAfter_73 rfl (lv_at hl 1 rfl) ?_
      refine va_get (D := D) (ci := 2) (v := .int (S0.1 0)) (C := RX2) (T := TX2) (N := 15) hx hb hW inW_X2 hown hK hP 0 rfl rfl 0 (by decide) (hW _ fl_X2_41) (fun _ h9 => h9) rfl dX2_landAfter_74 ?_
      refine callF (va_runSN (As := [.int ((x1 + 1) + (F_X6_leftOver ((F_X3_get 6 (S0.2 7) x1) + (jmax 0 (x2 - 1))) ((S0.1 0) - 1))), .int (S0.1 0)]) (rest := []) ⟨hx, hb, hml, hown, hW⟩ (c_X6_leftOver l D cI cZ ((x1 + 1) + (F_X6_leftOver ((F_X3_get 6 (S0.2 7) x1) + (jmax 0 (x2 - 1))) ((S0.1 0) - 1))) (S0.1 0) _ rfl) (cwSN0 hW hN mS_X6_leftOver nl_X2_91 ⟨Nat.le_of_ble_eq_true rfl, Nat.le_of_ble_eq_true rfl⟩) (preS0 hK hN hP hD [] rfl rfl) rfl rfl hl.1 rfl (lv_room (Nat.le_of_ble_eq_true rfl)) dX2_landAfter_77 ⟨Nat.le_refl _, Nat.le_refl _⟩) ?_
      refine W.eq (g2 := F0 m 80 ls [.int (F_X6_leftOver ((x1 + 1) + (F_X6_leftOver ((F_X3_get 6 (S0.2 7) x1) + (jmax 0 (x2 - 1))) ((S0.1 0) - 1))) (S0.1 0))]) rfl ?_
      subst hw
      exact W.iret (v := (F_X6_leftOver ((x1 + 1) + (F_X6_leftOver ((F_X3_get 6 (S0.2 7) x1) + (jmax 0 (x2 - 1))) ((S0.1 0) - 1))) (S0.1 0))) hx hb hr (fun t ht _ => ⟨rfl, ht⟩) (fun _ h => by cases h) dX2_landAfter_80
  · have hw := (if_pos c1).symm.trans hw
    refine lv_bipush (v := (-6)) hx hb dX2_landAfter_8 (by decide) ?_
    subst hw
    exact W.iret (v := (-6)) hx hb hr (fun t ht _ => ⟨rfl, ht⟩) (fun _ h => by cases h) dX2_landAfter_10
set_option maxHeartbeats 4000000 in
set_option maxRecDepth 100000 in
theorem c_X2_guestsAfter (l : Launch) (D : va_G) (cI cZ : ClassId) (ad : Nat → Nat) (o0 : Nat) (S0 : St) (x1 : Int32) (x2 : Int32) (k : Int32 → Prop) (hw : wp_X2_guestsAfter S0 x1 x2 k) : KR l yX2_guestsAfter cX2_guestsAfter 5 (some .int) 2 45 D cI cZ [.ref (ad o0), .int x1, .int x2] [rcells cI ad o0 S0] (fun v => ∃ r, v = some (.int r) ∧ k r) := by
  refine Met.ofE (by decide +kernel) (Nat.le_of_ble_eq_true rfl) ?_
  intro p e s m below meth c E ls hl
  obtain ⟨hx, hb, hr, hml, hW, hown, hlocks, hP, hK, hD, hN⟩ := E
  have hl : lv_has ls 5 [(0, .ref (ad o0)), (1, .int x1), (2, .int x2)] := hl
  have L5 : ∀  (kx : Int32 → Prop), (∀ (y3 : Int32), ∀ ls : Array Slot, lv_has ls 5 [(3, .int y3)] → kx y3 → W p l e { frames := 2, cells := 0, slots := 0, locals := 45 } s m ([.ref (ad o0), .int x1, .int x2] : List Value).toArray below meth c s.heap [] 0 0 (MQ below (QR (fun v => ∃ r, v = some (.int r) ∧ k r)) ([.ref (ad o0), .int x1, .int x2] : List Value).toArray s 0 0 (fun _ => False)) (F0 m 38 ls [])) → ∀ (N5 : Nat) (y3 : Int32) (y4 : Int32), ∀ ls : Array Slot, lv_has ls 5 [(0, .ref (ad o0)), (1, .int x1), (2, .int x2), (3, .int y3), (4, .int y4)] → wl_X2_guestsAfter_5 S0 x1 x2 kx N5 y3 y4 → W p l e { frames := 2, cells := 0, slots := 0, locals := 45 } s m ([.ref (ad o0), .int x1, .int x2] : List Value).toArray below meth c s.heap [] 0 0 (MQ below (QR (fun v => ∃ r, v = some (.int r) ∧ k r)) ([.ref (ad o0), .int x1, .int x2] : List Value).toArray s 0 0 (fun _ => False)) (F0 m 5 ls []) := by
    intro  kx hxt N5
    induction N5 with
    | zero => intro y3 y4 ls hl hw; exact False.elim hw
    | succ N5 ih =>
      intro y3 y4 ls hl hw
      have hw : (if (S0.1 0) ≤ y4 then (kx y3) else (if (F_X2_landAfter S0 y4 x2) = x1 then (wl_X2_guestsAfter_5 S0 x1 x2 kx N5 (y3 ||| ((1 : Int32) <<< (y4 &&& 31))) (y4 + 1)) else (wl_X2_guestsAfter_5 S0 x1 x2 kx N5 y3 (y4 + 1)))) := hw
      refine lv_iload hx hb dX2_guestsAfter_5 (lv_at hl 4 rfl) ?_
      refine lv_aload_n hx hb dX2_guestsAfter_7 rfl (lv_at hl 0 rfl) ?_
      refine va_get (D := D) (ci := 2) (v := .int (S0.1 0)) (C := RX2) (T := TX2) (N := 15) hx hb hW inW_X2 hown hK hP 0 rfl rfl 0 (by decide) (hW _ fl_X2_41) (fun _ h9 => h9) rfl dX2_guestsAfter_8 ?_
      refine lv_icmp_ge (tgt := 38) hx hb dX2_guestsAfter_11 (by decide) (fun c1 => ?_) (fun c1 => ?_)
      · have hw := Eq.mp (if_pos c1) hw
        exact hxt y3 _ (lv_sub hl [3] rfl) hw
      · have hw := Eq.mp (if_neg c1) hw
        refine lv_aload_n hx hb dX2_guestsAfter_14 rfl (lv_at hl 0 rfl) ?_
        refine lv_iload hx hb dX2_guestsAfter_15 (lv_at hl 4 rfl) ?_
        refine lv_iload_n hx hb dX2_guestsAfter_17 rfl (lv_at hl 2 rfl) ?_
        refine callF (va_runV (As := [.int y4, .int x2]) (rest := []) ⟨hx, hb, hml, hown, hW⟩ (c_X2_landAfter l D cI cZ ad o0 S0 y4 x2 _ rfl) (cwV0 hW mV_X2_landAfter ml_X2_100 ⟨Nat.le_of_ble_eq_true rfl, Nat.le_of_ble_eq_true rfl⟩) (preV0 0 rfl rfl hK hN hP hD [0] rfl rfl) rfl rfl hl.1 rfl (lv_room (Nat.le_of_ble_eq_true rfl)) dX2_guestsAfter_18 ⟨Nat.le_refl _, Nat.le_refl _⟩) ?_
        refine W.eq (g2 := F0 m 21 ls [.int (F_X2_landAfter S0 y4 x2)]) rfl ?_
        refine lv_iload_n hx hb dX2_guestsAfter_21 rfl (lv_at hl 1 rfl) ?_
        refine lv_icmp_ne (tgt := 32) hx hb dX2_guestsAfter_22 (by decide) (fun c2 => ?_) (fun c2 => ?_)
        · have hw := Eq.mp (if_neg c2) hw
          refine lv_iinc (v := (y4 + 1)) (lv' := [(4, .int (y4 + 1)), (0, .ref (ad o0)), (1, .int x1), (2, .int x2), (3, .int y3)]) hx hb dX2_guestsAfter_32 hl (k := 4) rfl rfl (by decide) rfl (fun ls hl => ?_)
          refine lv_goto (tgt := 5) hx hb dX2_guestsAfter_35 (by decide) ?_
          exact ih y3 (y4 + 1) _ (lv_sub hl [1, 2, 3, 4, 0] rfl) hw
        · have hw := Eq.mp (if_pos c2) hw
          refine lv_iload_n hx hb dX2_guestsAfter_25 rfl (lv_at hl 3 rfl) ?_
          refine lv_iconst (v := 1) hx hb dX2_guestsAfter_26 (by decide) ?_
          refine lv_iload hx hb dX2_guestsAfter_27 (lv_at hl 4 rfl) ?_
          refine lv_ishl hx hb dX2_guestsAfter_29 ?_
          refine lv_ior hx hb dX2_guestsAfter_30 ?_
          refine lv_istore_n (lv' := [(3, .int (y3 ||| ((1 : Int32) <<< (y4 &&& 31)))), (0, .ref (ad o0)), (1, .int x1), (2, .int x2), (4, .int y4)]) hx hb dX2_guestsAfter_31 rfl hl (by decide) rfl (fun ls hl => ?_)
          refine lv_iinc (v := (y4 + 1)) (lv' := [(4, .int (y4 + 1)), (3, .int (y3 ||| ((1 : Int32) <<< (y4 &&& 31)))), (0, .ref (ad o0)), (1, .int x1), (2, .int x2)]) hx hb dX2_guestsAfter_32 hl (k := 4) rfl rfl (by decide) rfl (fun ls hl => ?_)
          refine lv_goto (tgt := 5) hx hb dX2_guestsAfter_35 (by decide) ?_
          exact ih (y3 ||| ((1 : Int32) <<< (y4 &&& 31))) (y4 + 1) _ (lv_sub hl [2, 3, 4, 1, 0] rfl) hw
  have hw : (∃ M4, wl_X2_guestsAfter_5 S0 x1 x2 (fun (v3 : Int32) => (k v3)) M4 0 0) := hw
  refine lv_iconst (v := 0) hx hb dX2_guestsAfter_0 (by decide) ?_
  refine lv_istore_n (lv' := [(3, .int 0), (0, .ref (ad o0)), (1, .int x1), (2, .int x2)]) hx hb dX2_guestsAfter_1 rfl hl (by decide) rfl (fun ls hl => ?_)
  refine lv_iconst (v := 0) hx hb dX2_guestsAfter_2 (by decide) ?_
  refine lv_istore (lv' := [(4, .int 0), (3, .int 0), (0, .ref (ad o0)), (1, .int x1), (2, .int x2)]) hx hb dX2_guestsAfter_3 hl (by decide) rfl (fun ls hl => ?_)
  obtain ⟨N5, hw⟩ := hw
  refine L5  _ (fun v3 ls hl hw => ?_) N5 0 0 _ (lv_sub hl [2, 3, 4, 1, 0] rfl) hw
  refine lv_iload_n hx hb dX2_guestsAfter_38 rfl (lv_at hl 0 rfl) ?_
  exact W.iret (v := v3) hx hb hr (fun t ht _ => ⟨⟨_, rfl, ⟨_, rfl, hw⟩⟩, ht⟩) (fun _ h => by cases h) dX2_guestsAfter_39
set_option maxHeartbeats 4000000 in
set_option maxRecDepth 100000 in
theorem c_X2_shareALand (l : Launch) (D : va_G) (cI cZ : ClassId) (ad : Nat → Nat) (o0 : Nat) (S0 : St) (x1 : Int32) (x2 : Int32) (x3 : Int32) (r9 : Int32) (hw : F_X2_shareALand S0 x1 x2 x3 = r9) : KF l yX2_shareALand cX2_shareALand 5 (some .boolean) 2 45 D cI cZ [.ref (ad o0), .int x1, .int x2, .int x3] [rcells cI ad o0 S0] (some (.int r9)) := by
  refine Met.ofE (by decide +kernel) (Nat.le_of_ble_eq_true rfl) ?_
  intro p e s m below meth c E ls hl
  obtain ⟨hx, hb, hr, hml, hW, hown, hlocks, hP, hK, hD, hN⟩ := E
  have hl : lv_has ls 5 [(0, .ref (ad o0)), (1, .int x1), (2, .int x2), (3, .int x3)] := hl
  have hw : (if (F_X2_landAfter S0 x1 x3) = (-6) then 0 else (if (F_X2_landAfter S0 x1 x3) = (F_X2_landAfter S0 x2 x3) then 1 else 0)) = r9 := hw
  refine lv_aload_n hx hb dX2_shareALand_0 rfl (lv_at hl 0 rfl) ?_
  refine lv_iload_n hx hb dX2_shareALand_1 rfl (lv_at hl 1 rfl) ?_
  refine lv_iload_n hx hb dX2_shareALand_2 rfl (lv_at hl 3 rfl) ?_
  refine callF (va_runV (As := [.int x1, .int x3]) (rest := []) ⟨hx, hb, hml, hown, hW⟩ (c_X2_landAfter l D cI cZ ad o0 S0 x1 x3 _ rfl) (cwV0 hW mV_X2_landAfter ml_X2_100 ⟨Nat.le_of_ble_eq_true rfl, Nat.le_of_ble_eq_true rfl⟩) (preV0 0 rfl rfl hK hN hP hD [0] rfl rfl) rfl rfl hl.1 rfl (lv_room (Nat.le_of_ble_eq_true rfl)) dX2_shareALand_3 ⟨Nat.le_refl _, Nat.le_refl _⟩) ?_
  refine W.eq (g2 := F0 m 6 ls [.int (F_X2_landAfter S0 x1 x3)]) rfl ?_
  refine lv_istore (lv' := [(4, .int (F_X2_landAfter S0 x1 x3)), (0, .ref (ad o0)), (1, .int x1), (2, .int x2), (3, .int x3)]) hx hb dX2_shareALand_6 hl (by decide) rfl (fun ls hl => ?_)
  refine lv_iload hx hb dX2_shareALand_8 (lv_at hl 0 rfl) ?_
  refine lv_bipush (v := (-6)) hx hb dX2_shareALand_10 (by decide) ?_
  refine lv_icmp_eq (tgt := 30) hx hb dX2_shareALand_12 (by decide) (fun c1 => ?_) (fun c1 => ?_)
  · have hw := (if_pos c1).symm.trans hw
    refine lv_iconst (v := 0) hx hb dX2_shareALand_30 (by decide) ?_
    subst hw
    exact W.zret (v := 0) hx hb hr rfl (fun t ht _ => ⟨rfl, ht⟩) (fun _ h => by cases h) dX2_shareALand_31
  · have hw := (if_neg c1).symm.trans hw
    refine lv_iload hx hb dX2_shareALand_15 (lv_at hl 0 rfl) ?_
    refine lv_aload_n hx hb dX2_shareALand_17 rfl (lv_at hl 1 rfl) ?_
    refine lv_iload_n hx hb dX2_shareALand_18 rfl (lv_at hl 3 rfl) ?_
    refine lv_iload_n hx hb dX2_shareALand_19 rfl (lv_at hl 4 rfl) ?_
    refine callF (va_runV (As := [.int x2, .int x3]) (rest := [.int (F_X2_landAfter S0 x1 x3)]) ⟨hx, hb, hml, hown, hW⟩ (c_X2_landAfter l D cI cZ ad o0 S0 x2 x3 _ rfl) (cwV0 hW mV_X2_landAfter ml_X2_100 ⟨Nat.le_of_ble_eq_true rfl, Nat.le_of_ble_eq_true rfl⟩) (preV0 0 rfl rfl hK hN hP hD [0] rfl rfl) rfl rfl hl.1 rfl (lv_room (Nat.le_of_ble_eq_true rfl)) dX2_shareALand_20 ⟨Nat.le_refl _, Nat.le_refl _⟩) ?_
    refine W.eq (g2 := F0 m 23 ls [.int (F_X2_landAfter S0 x2 x3), .int (F_X2_landAfter S0 x1 x3)]) rfl ?_
    refine lv_icmp_ne (tgt := 30) hx hb dX2_shareALand_23 (by decide) (fun c2 => ?_) (fun c2 => ?_)
    · have hw := (if_neg c2).symm.trans hw
      refine lv_iconst (v := 0) hx hb dX2_shareALand_30 (by decide) ?_
      subst hw
      exact W.zret (v := 0) hx hb hr rfl (fun t ht _ => ⟨rfl, ht⟩) (fun _ h => by cases h) dX2_shareALand_31
    · have hw := (if_pos c2).symm.trans hw
      refine lv_iconst (v := 1) hx hb dX2_shareALand_26 (by decide) ?_
      refine lv_goto (tgt := 31) hx hb dX2_shareALand_27 (by decide) ?_
      subst hw
      exact W.zret (v := 1) hx hb hr rfl (fun t ht _ => ⟨rfl, ht⟩) (fun _ h => by cases h) dX2_shareALand_31
set_option maxHeartbeats 4000000 in
set_option maxRecDepth 100000 in
theorem c_X2_equinoxesTill (l : Launch) (D : va_G) (cI cZ : ClassId) (ad : Nat → Nat) (o0 : Nat) (S0 : St) (x1 : Int32) (r9 : Int32) (hw : F_X2_equinoxesTill S0 x1 = r9) : KF l yX2_equinoxesTill cX2_equinoxesTill 2 (some .int) 1 21 D cI cZ [.ref (ad o0), .int x1] [rcells cI ad o0 S0] (some (.int r9)) := by
  refine Met.ofE (by decide +kernel) (Nat.le_of_ble_eq_true rfl) ?_
  intro p e s m below meth c E ls hl
  obtain ⟨hx, hb, hr, hml, hW, hown, hlocks, hP, hK, hD, hN⟩ := E
  have hl : lv_has ls 2 [(0, .ref (ad o0)), (1, .int x1)] := hl
  have hw : (F_X6_cut ((S0.1 3) + x1) (S0.1 1)) = r9 := hw
  refine lv_aload_n hx hb dX2_equinoxesTill_0 rfl (lv_at hl 0 rfl) ?_
  refine va_get (D := D) (ci := 2) (v := .int (S0.1 3)) (C := RX2) (T := TX2) (N := 15) hx hb hW inW_X2 hown hK hP 0 rfl rfl 3 (by decide) (hW _ fl_X2_48) (fun _ h9 => h9) rfl dX2_equinoxesTill_1 ?_
  refine lv_iload_n hx hb dX2_equinoxesTill_4 rfl (lv_at hl 1 rfl) ?_
  refine lv_iadd hx hb dX2_equinoxesTill_5 ?_
  refine lv_aload_n hx hb dX2_equinoxesTill_6 rfl (lv_at hl 0 rfl) ?_
  refine va_get (D := D) (ci := 2) (v := .int (S0.1 1)) (C := RX2) (T := TX2) (N := 15) hx hb hW inW_X2 hown hK hP 0 rfl rfl 1 (by decide) (hW _ fl_X2_67) (fun _ h9 => h9) rfl dX2_equinoxesTill_7 ?_
  refine callF (va_runSN (As := [.int ((S0.1 3) + x1), .int (S0.1 1)]) (rest := []) ⟨hx, hb, hml, hown, hW⟩ (c_X6_cut l D cI cZ ((S0.1 3) + x1) (S0.1 1) _ rfl) (cwSN0 hW hN mS_X6_cut nl_X2_103 ⟨Nat.le_of_ble_eq_true rfl, Nat.le_of_ble_eq_true rfl⟩) (preS0 hK hN hP hD [] rfl rfl) rfl rfl hl.1 rfl (lv_room (Nat.le_of_ble_eq_true rfl)) dX2_equinoxesTill_10 ⟨Nat.le_refl _, Nat.le_refl _⟩) ?_
  refine W.eq (g2 := F0 m 13 ls [.int (F_X6_cut ((S0.1 3) + x1) (S0.1 1))]) rfl ?_
  subst hw
  exact W.iret (v := (F_X6_cut ((S0.1 3) + x1) (S0.1 1))) hx hb hr (fun t ht _ => ⟨rfl, ht⟩) (fun _ h => by cases h) dX2_equinoxesTill_13
set_option maxHeartbeats 4000000 in
set_option maxRecDepth 100000 in
theorem c_X2_firstDayAfter (l : Launch) (D : va_G) (cI cZ : ClassId) (ad : Nat → Nat) (o0 : Nat) (S0 : St) (x1 : Int32) (r9 : Int32) (hw : F_X2_firstDayAfter S0 x1 = r9) : KF l yX2_firstDayAfter cX2_firstDayAfter 2 (some .int) 0 0 D cI cZ [.ref (ad o0), .int x1] [rcells cI ad o0 S0] (some (.int r9)) := by
  refine Met.ofE (by decide +kernel) (Nat.le_of_ble_eq_true rfl) ?_
  intro p e s m below meth c E ls hl
  obtain ⟨hx, hb, hr, hml, hW, hown, hlocks, hP, hK, hD, hN⟩ := E
  have hl : lv_has ls 2 [(0, .ref (ad o0)), (1, .int x1)] := hl
  have hw : (if 0 < x1 then ((x1 * (S0.1 1)) - (S0.1 3)) else 0) = r9 := hw
  refine lv_iload_n hx hb dX2_firstDayAfter_0 rfl (lv_at hl 1 rfl) ?_
  refine lv_if_gt (tgt := 8) hx hb dX2_firstDayAfter_1 (by decide) (fun c1 => ?_) (fun c1 => ?_)
  · have hw := (if_pos c1).symm.trans hw
    refine lv_iload_n hx hb dX2_firstDayAfter_8 rfl (lv_at hl 1 rfl) ?_
    refine lv_aload_n hx hb dX2_firstDayAfter_9 rfl (lv_at hl 0 rfl) ?_
    refine va_get (D := D) (ci := 2) (v := .int (S0.1 1)) (C := RX2) (T := TX2) (N := 15) hx hb hW inW_X2 hown hK hP 0 rfl rfl 1 (by decide) (hW _ fl_X2_67) (fun _ h9 => h9) rfl dX2_firstDayAfter_10 ?_
    refine lv_imul hx hb dX2_firstDayAfter_13 ?_
    refine lv_aload_n hx hb dX2_firstDayAfter_14 rfl (lv_at hl 0 rfl) ?_
    refine va_get (D := D) (ci := 2) (v := .int (S0.1 3)) (C := RX2) (T := TX2) (N := 15) hx hb hW inW_X2 hown hK hP 0 rfl rfl 3 (by decide) (hW _ fl_X2_48) (fun _ h9 => h9) rfl dX2_firstDayAfter_15 ?_
    refine lv_isub hx hb dX2_firstDayAfter_18 ?_
    subst hw
    exact W.iret (v := ((x1 * (S0.1 1)) - (S0.1 3))) hx hb hr (fun t ht _ => ⟨rfl, ht⟩) (fun _ h => by cases h) dX2_firstDayAfter_19
  · have hw := (if_neg c1).symm.trans hw
    refine lv_iconst (v := 0) hx hb dX2_firstDayAfter_4 (by decide) ?_
    refine lv_goto (tgt := 19) hx hb dX2_firstDayAfter_5 (by decide) ?_
    subst hw
    exact W.iret (v := 0) hx hb hr (fun t ht _ => ⟨rfl, ht⟩) (fun _ h => by cases h) dX2_firstDayAfter_19
set_option maxHeartbeats 4000000 in
set_option maxRecDepth 100000 in
theorem c_X2_daysLikeSeason (l : Launch) (D : va_G) (cI cZ : ClassId) (ad : Nat → Nat) (o0 : Nat) (S0 : St) (x1 : Int32) (x2 : Int32) (r9 : Int32) (hw : F_X2_daysLikeSeason S0 x1 x2 = r9) : KF l yX2_daysLikeSeason cX2_daysLikeSeason 6 (some .int) 1 22 D cI cZ [.ref (ad o0), .int x1, .int x2] [rcells cI ad o0 S0] (some (.int r9)) := by
  refine Met.ofE (by decide +kernel) (Nat.le_of_ble_eq_true rfl) ?_
  intro p e s m below meth c E ls hl
  obtain ⟨hx, hb, hr, hml, hW, hown, hlocks, hP, hK, hD, hN⟩ := E
  have hl : lv_has ls 6 [(0, .ref (ad o0)), (1, .int x1), (2, .int x2)] := hl
  have hw : (((F_X6_cut (jmax 0 (x2 - (F_X2_firstDayAfter S0 1))) (((S0.1 0) - 1) * (S0.1 1))) * (S0.1 1)) + (jmax 0 (jmin (S0.1 1) ((F_X6_leftOver (jmax 0 (x2 - (F_X2_firstDayAfter S0 1))) (((S0.1 0) - 1) * (S0.1 1))) - ((x1 - 1) * (S0.1 1)))))) = r9 := hw
  refine lv_iconst (v := 0) hx hb dX2_daysLikeSeason_0 (by decide) ?_
  refine lv_iload_n hx hb dX2_daysLikeSeason_1 rfl (lv_at hl 2 rfl) ?_
  refine lv_aload_n hx hb dX2_daysLikeSeason_2 rfl (lv_at hl 0 rfl) ?_
  refine lv_iconst (v := 1) hx hb dX2_daysLikeSeason_3 (by decide) ?_
  refine callF (va_runV (As := [.int 1]) (rest := [.int x2, .int 0]) ⟨hx, hb, hml, hown, hW⟩ (c_X2_firstDayAfter l D cI cZ ad o0 S0 1 _ rfl) (cwV0 hW mV_X2_firstDayAfter ml_X2_106 ⟨Nat.le_of_ble_eq_true rfl, Nat.le_of_ble_eq_true rfl⟩) (preV0 0 rfl rfl hK hN hP hD [0] rfl rfl) rfl rfl hl.1 rfl (lv_room (Nat.le_of_ble_eq_true rfl)) dX2_daysLikeSeason_4 ⟨Nat.le_refl _, Nat.le_refl _⟩) ?_
  refine W.eq (g2 := F0 m 7 ls [.int (F_X2_firstDayAfter S0 1), .int x2, .int 0]) rfl ?_
  refine lv_isub hx hb dX2_daysLikeSeason_7 ?_
  refine va_mmax hx hb (hml.trans hl.1.symm) hown (hW _ ml_X2_95) (hW _ st_J9_max_7cf53) (hW _ ini_J9) (hW _ cd_J9_max_7cf53) (Nat.le_of_ble_eq_true rfl) (Nat.le_of_ble_eq_true rfl) (Nat.le_refl _) (Nat.le_refl _) dX2_daysLikeSeason_8 ?_
  refine W.eq (g2 := F0 m 11 ls [.int (jmax 0 (x2 - (F_X2_firstDayAfter S0 1)))]) rfl ?_
  refine lv_istore_n (lv' := [(3, .int (jmax 0 (x2 - (F_X2_firstDayAfter S0 1)))), (0, .ref (ad o0)), (1, .int x1), (2, .int x2)]) hx hb dX2_daysLikeSeason_11 rfl hl (by decide) rfl (fun ls hl => ?_)
  refine lv_aload_n hx hb dX2_daysLikeSeason_12 rfl (lv_at hl 1 rfl) ?_
  refine va_get (D := D) (ci := 2) (v := .int (S0.1 0)) (C := RX2) (T := TX2) (N := 15) hx hb hW inW_X2 hown hK hP 0 rfl rfl 0 (by decide) (hW _ fl_X2_41) (fun _ h9 => h9) rfl dX2_daysLikeSeason_13 ?_
  refine lv_iconst (v := 1) hx hb dX2_daysLikeSeason_16 (by decide) ?_
  refine lv_isub hx hb dX2_daysLikeSeason_17 ?_
  refine lv_aload_n hx hb dX2_daysLikeSeason_18 rfl (lv_at hl 1 rfl) ?_
  refine va_get (D := D) (ci := 2) (v := .int (S0.1 1)) (C := RX2) (T := TX2) (N := 15) hx hb hW inW_X2 hown hK hP 0 rfl rfl 1 (by decide) (hW _ fl_X2_67) (fun _ h9 => h9) rfl dX2_daysLikeSeason_19 ?_
  refine lv_imul hx hb dX2_daysLikeSeason_22 ?_
  refine lv_istore (lv' := [(4, .int (((S0.1 0) - 1) * (S0.1 1))), (3, .int (jmax 0 (x2 - (F_X2_firstDayAfter S0 1)))), (0, .ref (ad o0)), (1, .int x1), (2, .int x2)]) hx hb dX2_daysLikeSeason_23 hl (by decide) rfl (fun ls hl => ?_)
  refine lv_iload_n hx hb dX2_daysLikeSeason_25 rfl (lv_at hl 1 rfl) ?_
  refine lv_iload hx hb dX2_daysLikeSeason_26 (lv_at hl 0 rfl) ?_
  refine callF (va_runSN (As := [.int (jmax 0 (x2 - (F_X2_firstDayAfter S0 1))), .int (((S0.1 0) - 1) * (S0.1 1))]) (rest := []) ⟨hx, hb, hml, hown, hW⟩ (c_X6_leftOver l D cI cZ (jmax 0 (x2 - (F_X2_firstDayAfter S0 1))) (((S0.1 0) - 1) * (S0.1 1)) _ rfl) (cwSN0 hW hN mS_X6_leftOver nl_X2_91 ⟨Nat.le_of_ble_eq_true rfl, Nat.le_of_ble_eq_true rfl⟩) (preS0 hK hN hP hD [] rfl rfl) rfl rfl hl.1 rfl (lv_room (Nat.le_of_ble_eq_true rfl)) dX2_daysLikeSeason_28 ⟨Nat.le_refl _, Nat.le_refl _⟩) ?_
  refine W.eq (g2 := F0 m 31 ls [.int (F_X6_leftOver (jmax 0 (x2 - (F_X2_firstDayAfter S0 1))) (((S0.1 0) - 1) * (S0.1 1)))]) rfl ?_
  refine lv_iload_n hx hb dX2_daysLikeSeason_31 rfl (lv_at hl 3 rfl) ?_
  refine lv_iconst (v := 1) hx hb dX2_daysLikeSeason_32 (by decide) ?_
  refine lv_isub hx hb dX2_daysLikeSeason_33 ?_
  refine lv_aload_n hx hb dX2_daysLikeSeason_34 rfl (lv_at hl 2 rfl) ?_
  refine va_get (D := D) (ci := 2) (v := .int (S0.1 1)) (C := RX2) (T := TX2) (N := 15) hx hb hW inW_X2 hown hK hP 0 rfl rfl 1 (by decide) (hW _ fl_X2_67) (fun _ h9 => h9) rfl dX2_daysLikeSeason_35 ?_
  refine lv_imul hx hb dX2_daysLikeSeason_38 ?_
  refine lv_isub hx hb dX2_daysLikeSeason_39 ?_
  refine lv_istore (lv' := [(5, .int ((F_X6_leftOver (jmax 0 (x2 - (F_X2_firstDayAfter S0 1))) (((S0.1 0) - 1) * (S0.1 1))) - ((x1 - 1) * (S0.1 1)))), (4, .int (((S0.1 0) - 1) * (S0.1 1))), (3, .int (jmax 0 (x2 - (F_X2_firstDayAfter S0 1)))), (0, .ref (ad o0)), (1, .int x1), (2, .int x2)]) hx hb dX2_daysLikeSeason_40 hl (by decide) rfl (fun ls hl => ?_)
  refine lv_iload_n hx hb dX2_daysLikeSeason_42 rfl (lv_at hl 2 rfl) ?_
  refine lv_iload hx hb dX2_daysLikeSeason_43 (lv_at hl 1 rfl) ?_
  refine callF (va_runSN (As := [.int (jmax 0 (x2 - (F_X2_firstDayAfter S0 1))), .int (((S0.1 0) - 1) * (S0.1 1))]) (rest := []) ⟨hx, hb, hml, hown, hW⟩ (c_X6_cut l D cI cZ (jmax 0 (x2 - (F_X2_firstDayAfter S0 1))) (((S0.1 0) - 1) * (S0.1 1)) _ rfl) (cwSN0 hW hN mS_X6_cut nl_X2_103 ⟨Nat.le_of_ble_eq_true rfl, Nat.le_of_ble_eq_true rfl⟩) (preS0 hK hN hP hD [] rfl rfl) rfl rfl hl.1 rfl (lv_room (Nat.le_of_ble_eq_true rfl)) dX2_daysLikeSeason_45 ⟨Nat.le_refl _, Nat.le_refl _⟩) ?_
  refine W.eq (g2 := F0 m 48 ls [.int (F_X6_cut (jmax 0 (x2 - (F_X2_firstDayAfter S0 1))) (((S0.1 0) - 1) * (S0.1 1)))]) rfl ?_
  refine lv_aload_n hx hb dX2_daysLikeSeason_48 rfl (lv_at hl 3 rfl) ?_
  refine va_get (D := D) (ci := 2) (v := .int (S0.1 1)) (C := RX2) (T := TX2) (N := 15) hx hb hW inW_X2 hown hK hP 0 rfl rfl 1 (by decide) (hW _ fl_X2_67) (fun _ h9 => h9) rfl dX2_daysLikeSeason_49 ?_
  refine lv_imul hx hb dX2_daysLikeSeason_52 ?_
  refine lv_iconst (v := 0) hx hb dX2_daysLikeSeason_53 (by decide) ?_
  refine lv_aload_n hx hb dX2_daysLikeSeason_54 rfl (lv_at hl 3 rfl) ?_
  refine va_get (D := D) (ci := 2) (v := .int (S0.1 1)) (C := RX2) (T := TX2) (N := 15) hx hb hW inW_X2 hown hK hP 0 rfl rfl 1 (by decide) (hW _ fl_X2_67) (fun _ h9 => h9) rfl dX2_daysLikeSeason_55 ?_
  refine lv_iload hx hb dX2_daysLikeSeason_58 (lv_at hl 0 rfl) ?_
  refine va_mmin hx hb (hml.trans hl.1.symm) hown (hW _ ml_X2_109) (hW _ st_J9_min_7cf53) (hW _ ini_J9) (hW _ cd_J9_min_7cf53) (Nat.le_of_ble_eq_true rfl) (Nat.le_of_ble_eq_true rfl) (Nat.le_refl _) (Nat.le_refl _) dX2_daysLikeSeason_60 ?_
  refine W.eq (g2 := F0 m 63 ls [.int (jmin (S0.1 1) ((F_X6_leftOver (jmax 0 (x2 - (F_X2_firstDayAfter S0 1))) (((S0.1 0) - 1) * (S0.1 1))) - ((x1 - 1) * (S0.1 1)))), .int 0, .int ((F_X6_cut (jmax 0 (x2 - (F_X2_firstDayAfter S0 1))) (((S0.1 0) - 1) * (S0.1 1))) * (S0.1 1))]) rfl ?_
  refine va_mmax hx hb (hml.trans hl.1.symm) hown (hW _ ml_X2_95) (hW _ st_J9_max_7cf53) (hW _ ini_J9) (hW _ cd_J9_max_7cf53) (Nat.le_of_ble_eq_true rfl) (Nat.le_of_ble_eq_true rfl) (Nat.le_refl _) (Nat.le_refl _) dX2_daysLikeSeason_63 ?_
  refine W.eq (g2 := F0 m 66 ls [.int (jmax 0 (jmin (S0.1 1) ((F_X6_leftOver (jmax 0 (x2 - (F_X2_firstDayAfter S0 1))) (((S0.1 0) - 1) * (S0.1 1))) - ((x1 - 1) * (S0.1 1))))), .int ((F_X6_cut (jmax 0 (x2 - (F_X2_firstDayAfter S0 1))) (((S0.1 0) - 1) * (S0.1 1))) * (S0.1 1))]) rfl ?_
  refine lv_iadd hx hb dX2_daysLikeSeason_66 ?_
  subst hw
  exact W.iret (v := (((F_X6_cut (jmax 0 (x2 - (F_X2_firstDayAfter S0 1))) (((S0.1 0) - 1) * (S0.1 1))) * (S0.1 1)) + (jmax 0 (jmin (S0.1 1) ((F_X6_leftOver (jmax 0 (x2 - (F_X2_firstDayAfter S0 1))) (((S0.1 0) - 1) * (S0.1 1))) - ((x1 - 1) * (S0.1 1))))))) hx hb hr (fun t ht _ => ⟨rfl, ht⟩) (fun _ h => by cases h) dX2_daysLikeSeason_67
set_option maxHeartbeats 4000000 in
set_option maxRecDepth 100000 in
theorem c_X2_daysAway (l : Launch) (D : va_G) (cI cZ : ClassId) (ad : Nat → Nat) (o0 : Nat) (S0 : St) (x1 : Int32) (x2 : Int32) (x3 : Int32) (k : Int32 → Prop) (hw : wp_X2_daysAway S0 x1 x2 x3 k) : KR l yX2_daysAway cX2_daysAway 6 (some .int) 2 45 D cI cZ [.ref (ad o0), .int x1, .int x2, .int x3] [rcells cI ad o0 S0] (fun v => ∃ r, v = some (.int r) ∧ k r) := by
  refine Met.ofE (by decide +kernel) (Nat.le_of_ble_eq_true rfl) ?_
  intro p e s m below meth c E ls hl
  obtain ⟨hx, hb, hr, hml, hW, hown, hlocks, hP, hK, hD, hN⟩ := E
  have hl : lv_has ls 6 [(0, .ref (ad o0)), (1, .int x1), (2, .int x2), (3, .int x3)] := hl
  have L11 : ∀ (y4 : Int32) (kx : Prop), (∀ ls : Array Slot, lv_has ls 6 [] → kx → W p l e { frames := 2, cells := 0, slots := 0, locals := 45 } s m ([.ref (ad o0), .int x1, .int x2, .int x3] : List Value).toArray below meth c s.heap [] 0 0 (MQ below (QR (fun v => ∃ r, v = some (.int r) ∧ k r)) ([.ref (ad o0), .int x1, .int x2, .int x3] : List Value).toArray s 0 0 (fun _ => False)) (F0 m 59 ls [])) → ∀ (N11 : Nat) (y5 : Int32), ∀ ls : Array Slot, lv_has ls 6 [(0, .ref (ad o0)), (1, .int x1), (2, .int x2), (3, .int x3), (4, .int y4), (5, .int y5)] → wl_X2_daysAway_11 S0 x1 x2 x3 y4 kx k N11 y5 → W p l e { frames := 2, cells := 0, slots := 0, locals := 45 } s m ([.ref (ad o0), .int x1, .int x2, .int x3] : List Value).toArray below meth c s.heap [] 0 0 (MQ below (QR (fun v => ∃ r, v = some (.int r) ∧ k r)) ([.ref (ad o0), .int x1, .int x2, .int x3] : List Value).toArray s 0 0 (fun _ => False)) (F0 m 11 ls []) := by
    intro y4 kx hxt N11
    induction N11 with
    | zero => intro y5 ls hl hw; exact False.elim hw
    | succ N11 ih =>
      intro y5 ls hl hw
      have hw : (if (y4 + (S0.1 0)) < y5 then kx else (if (F_X2_landAfter S0 x1 y5) = x2 then (k (jmax 0 (jmin 9999 ((F_X2_firstDayAfter S0 y5) - x3)))) else (wl_X2_daysAway_11 S0 x1 x2 x3 y4 kx k N11 (y5 + 1)))) := hw
      refine lv_iload hx hb dX2_daysAway_11 (lv_at hl 5 rfl) ?_
      refine lv_iload hx hb dX2_daysAway_13 (lv_at hl 4 rfl) ?_
      refine lv_aload_n hx hb dX2_daysAway_15 rfl (lv_at hl 0 rfl) ?_
      refine va_get (D := D) (ci := 2) (v := .int (S0.1 0)) (C := RX2) (T := TX2) (N := 15) hx hb hW inW_X2 hown hK hP 0 rfl rfl 0 (by decide) (hW _ fl_X2_41) (fun _ h9 => h9) rfl dX2_daysAway_16 ?_
      refine lv_iadd hx hb dX2_daysAway_19 ?_
      refine lv_icmp_gt (tgt := 59) hx hb dX2_daysAway_20 (by decide) (fun c1 => ?_) (fun c1 => ?_)
      · have hw := Eq.mp (if_pos c1) hw
        exact hxt  _ (lv_sub hl [] rfl) hw
      · have hw := Eq.mp (if_neg c1) hw
        refine lv_aload_n hx hb dX2_daysAway_23 rfl (lv_at hl 0 rfl) ?_
        refine lv_iload_n hx hb dX2_daysAway_24 rfl (lv_at hl 1 rfl) ?_
        refine lv_iload hx hb dX2_daysAway_25 (lv_at hl 5 rfl) ?_
        refine callF (va_runV (As := [.int x1, .int y5]) (rest := []) ⟨hx, hb, hml, hown, hW⟩ (c_X2_landAfter l D cI cZ ad o0 S0 x1 y5 _ rfl) (cwV0 hW mV_X2_landAfter ml_X2_100 ⟨Nat.le_of_ble_eq_true rfl, Nat.le_of_ble_eq_true rfl⟩) (preV0 0 rfl rfl hK hN hP hD [0] rfl rfl) rfl rfl hl.1 rfl (lv_room (Nat.le_of_ble_eq_true rfl)) dX2_daysAway_27 ⟨Nat.le_refl _, Nat.le_refl _⟩) ?_
        refine W.eq (g2 := F0 m 30 ls [.int (F_X2_landAfter S0 x1 y5)]) rfl ?_
        refine lv_iload_n hx hb dX2_daysAway_30 rfl (lv_at hl 2 rfl) ?_
        refine lv_icmp_ne (tgt := 53) hx hb dX2_daysAway_31 (by decide) (fun c2 => ?_) (fun c2 => ?_)
        · have hw := Eq.mp (if_neg c2) hw
          refine lv_iinc (v := (y5 + 1)) (lv' := [(5, .int (y5 + 1)), (0, .ref (ad o0)), (1, .int x1), (2, .int x2), (3, .int x3), (4, .int y4)]) hx hb dX2_daysAway_53 hl (k := 5) rfl rfl (by decide) rfl (fun ls hl => ?_)
          refine lv_goto (tgt := 11) hx hb dX2_daysAway_56 (by decide) ?_
          exact ih (y5 + 1) _ (lv_sub hl [1, 2, 3, 4, 5, 0] rfl) hw
        · have hw := Eq.mp (if_pos c2) hw
          refine lv_iconst (v := 0) hx hb dX2_daysAway_34 (by decide) ?_
          refine lv_sipush (v := 9999) hx hb dX2_daysAway_35 (by decide) ?_
          refine lv_aload_n hx hb dX2_daysAway_38 rfl (lv_at hl 0 rfl) ?_
          refine lv_iload hx hb dX2_daysAway_39 (lv_at hl 5 rfl) ?_
          refine callF (va_runV (As := [.int y5]) (rest := [.int 9999, .int 0]) ⟨hx, hb, hml, hown, hW⟩ (c_X2_firstDayAfter l D cI cZ ad o0 S0 y5 _ rfl) (cwV0 hW mV_X2_firstDayAfter ml_X2_106 ⟨Nat.le_of_ble_eq_true rfl, Nat.le_of_ble_eq_true rfl⟩) (preV0 0 rfl rfl hK hN hP hD [0] rfl rfl) rfl rfl hl.1 rfl (lv_room (Nat.le_of_ble_eq_true rfl)) dX2_daysAway_41 ⟨Nat.le_refl _, Nat.le_refl _⟩) ?_
          refine W.eq (g2 := F0 m 44 ls [.int (F_X2_firstDayAfter S0 y5), .int 9999, .int 0]) rfl ?_
          refine lv_iload_n hx hb dX2_daysAway_44 rfl (lv_at hl 3 rfl) ?_
          refine lv_isub hx hb dX2_daysAway_45 ?_
          refine va_mmin hx hb (hml.trans hl.1.symm) hown (hW _ ml_X2_109) (hW _ st_J9_min_7cf53) (hW _ ini_J9) (hW _ cd_J9_min_7cf53) (Nat.le_of_ble_eq_true rfl) (Nat.le_of_ble_eq_true rfl) (Nat.le_refl _) (Nat.le_refl _) dX2_daysAway_46 ?_
          refine W.eq (g2 := F0 m 49 ls [.int (jmin 9999 ((F_X2_firstDayAfter S0 y5) - x3)), .int 0]) rfl ?_
          refine va_mmax hx hb (hml.trans hl.1.symm) hown (hW _ ml_X2_95) (hW _ st_J9_max_7cf53) (hW _ ini_J9) (hW _ cd_J9_max_7cf53) (Nat.le_of_ble_eq_true rfl) (Nat.le_of_ble_eq_true rfl) (Nat.le_refl _) (Nat.le_refl _) dX2_daysAway_49 ?_
          refine W.eq (g2 := F0 m 52 ls [.int (jmax 0 (jmin 9999 ((F_X2_firstDayAfter S0 y5) - x3)))]) rfl ?_
          exact W.iret (v := (jmax 0 (jmin 9999 ((F_X2_firstDayAfter S0 y5) - x3)))) hx hb hr (fun t ht _ => ⟨⟨_, rfl, ⟨_, rfl, hw⟩⟩, ht⟩) (fun _ h => by cases h) dX2_daysAway_52
  have hw : (∃ M3, wl_X2_daysAway_11 S0 x1 x2 x3 (F_X2_equinoxesTill S0 x3) (k 9999) k M3 (F_X2_equinoxesTill S0 x3)) := hw
  refine lv_aload_n hx hb dX2_daysAway_0 rfl (lv_at hl 0 rfl) ?_
  refine lv_iload_n hx hb dX2_daysAway_1 rfl (lv_at hl 3 rfl) ?_
  refine callF (va_runV (As := [.int x3]) (rest := []) ⟨hx, hb, hml, hown, hW⟩ (c_X2_equinoxesTill l D cI cZ ad o0 S0 x3 _ rfl) (cwV0 hW mV_X2_equinoxesTill ml_X2_112 ⟨Nat.le_of_ble_eq_true rfl, Nat.le_of_ble_eq_true rfl⟩) (preV0 0 rfl rfl hK hN hP hD [0] rfl rfl) rfl rfl hl.1 rfl (lv_room (Nat.le_of_ble_eq_true rfl)) dX2_daysAway_2 ⟨Nat.le_refl _, Nat.le_refl _⟩) ?_
  refine W.eq (g2 := F0 m 5 ls [.int (F_X2_equinoxesTill S0 x3)]) rfl ?_
  refine lv_istore (lv' := [(4, .int (F_X2_equinoxesTill S0 x3)), (0, .ref (ad o0)), (1, .int x1), (2, .int x2), (3, .int x3)]) hx hb dX2_daysAway_5 hl (by decide) rfl (fun ls hl => ?_)
  refine lv_iload hx hb dX2_daysAway_7 (lv_at hl 0 rfl) ?_
  refine lv_istore (lv' := [(5, .int (F_X2_equinoxesTill S0 x3)), (4, .int (F_X2_equinoxesTill S0 x3)), (0, .ref (ad o0)), (1, .int x1), (2, .int x2), (3, .int x3)]) hx hb dX2_daysAway_9 hl (by decide) rfl (fun ls hl => ?_)
  obtain ⟨N4, hw⟩ := hw
  refine L11 (F_X2_equinoxesTill S0 x3) _ (fun  ls hl hw => ?_) N4 (F_X2_equinoxesTill S0 x3) _ (lv_sub hl [2, 3, 4, 5, 1, 0] rfl) hw
  refine lv_sipush (v := 9999) hx hb dX2_daysAway_59 (by decide) ?_
  exact W.iret (v := 9999) hx hb hr (fun t ht _ => ⟨⟨_, rfl, ⟨_, rfl, hw⟩⟩, ht⟩) (fun _ h => by cases h) dX2_daysAway_62
set_option maxHeartbeats 4000000 in
set_option maxRecDepth 100000 in
theorem c_X2_firstWar (l : Launch) (D : va_G) (cI cZ : ClassId) (ad : Nat → Nat) (o0 : Nat) (S0 : St) (x1 : Int32) (x2 : Int32) (x3 : Int32) (k : Int32 → Prop) (hw : wp_X2_firstWar S0 x1 x2 x3 k) : KR l yX2_firstWar cX2_firstWar 6 (some .int) 3 70 D cI cZ [.ref (ad o0), .int x1, .int x2, .int x3] [rcells cI ad o0 S0] (fun v => ∃ r, v = some (.int r) ∧ k r) := by
  refine Met.ofE (by decide +kernel) (Nat.le_of_ble_eq_true rfl) ?_
  intro p e s m below meth c E ls hl
  obtain ⟨hx, hb, hr, hml, hW, hown, hlocks, hP, hK, hD, hN⟩ := E
  have hl : lv_has ls 6 [(0, .ref (ad o0)), (1, .int x1), (2, .int x2), (3, .int x3)] := hl
  have L3 : ∀  (kx : Prop), (∀ ls : Array Slot, lv_has ls 6 [] → kx → W p l e { frames := 3, cells := 0, slots := 0, locals := 70 } s m ([.ref (ad o0), .int x1, .int x2, .int x3] : List Value).toArray below meth c s.heap [] 0 0 (MQ below (QR (fun v => ∃ r, v = some (.int r) ∧ k r)) ([.ref (ad o0), .int x1, .int x2, .int x3] : List Value).toArray s 0 0 (fun _ => False)) (F0 m 49 ls [])) → ∀ (N3 : Nat) (y4 : Int32), ∀ ls : Array Slot, lv_has ls 6 [(0, .ref (ad o0)), (1, .int x1), (2, .int x2), (3, .int x3), (4, .int y4)] → wl_X2_firstWar_3 S0 x1 x2 x3 kx k N3 y4 → W p l e { frames := 3, cells := 0, slots := 0, locals := 70 } s m ([.ref (ad o0), .int x1, .int x2, .int x3] : List Value).toArray below meth c s.heap [] 0 0 (MQ below (QR (fun v => ∃ r, v = some (.int r) ∧ k r)) ([.ref (ad o0), .int x1, .int x2, .int x3] : List Value).toArray s 0 0 (fun _ => False)) (F0 m 3 ls []) := by
    intro  kx hxt N3
    induction N3 with
    | zero => intro y4 ls hl hw; exact False.elim hw
    | succ N3 ih =>
      intro y4 ls hl hw
      have hw : (if (S0.1 0) < y4 then kx else (if 9999 < (F_X2_firstDayAfter S0 y4) then (wl_X2_firstWar_3 S0 x1 x2 x3 kx k N3 (y4 + 1)) else (wp_X2_daysAway S0 x1 x2 (F_X2_firstDayAfter S0 y4) (fun (v3 : Int32) => (if v3 < x3 then (wl_X2_firstWar_3 S0 x1 x2 x3 kx k N3 (y4 + 1)) else (k (F_X2_firstDayAfter S0 y4))))))) := hw
      refine lv_iload hx hb dX2_firstWar_3 (lv_at hl 4 rfl) ?_
      refine lv_aload_n hx hb dX2_firstWar_5 rfl (lv_at hl 0 rfl) ?_
      refine va_get (D := D) (ci := 2) (v := .int (S0.1 0)) (C := RX2) (T := TX2) (N := 15) hx hb hW inW_X2 hown hK hP 0 rfl rfl 0 (by decide) (hW _ fl_X2_41) (fun _ h9 => h9) rfl dX2_firstWar_6 ?_
      refine lv_icmp_gt (tgt := 49) hx hb dX2_firstWar_9 (by decide) (fun c1 => ?_) (fun c1 => ?_)
      · have hw := Eq.mp (if_pos c1) hw
        exact hxt  _ (lv_sub hl [] rfl) hw
      · have hw := Eq.mp (if_neg c1) hw
        refine lv_aload_n hx hb dX2_firstWar_12 rfl (lv_at hl 0 rfl) ?_
        refine lv_iload hx hb dX2_firstWar_13 (lv_at hl 4 rfl) ?_
        refine callF (va_runV (As := [.int y4]) (rest := []) ⟨hx, hb, hml, hown, hW⟩ (c_X2_firstDayAfter l D cI cZ ad o0 S0 y4 _ rfl) (cwV0 hW mV_X2_firstDayAfter ml_X2_106 ⟨Nat.le_of_ble_eq_true rfl, Nat.le_of_ble_eq_true rfl⟩) (preV0 0 rfl rfl hK hN hP hD [0] rfl rfl) rfl rfl hl.1 rfl (lv_room (Nat.le_of_ble_eq_true rfl)) dX2_firstWar_15 ⟨Nat.le_refl _, Nat.le_refl _⟩) ?_
        refine W.eq (g2 := F0 m 18 ls [.int (F_X2_firstDayAfter S0 y4)]) rfl ?_
        refine lv_istore (lv' := [(5, .int (F_X2_firstDayAfter S0 y4)), (0, .ref (ad o0)), (1, .int x1), (2, .int x2), (3, .int x3), (4, .int y4)]) hx hb dX2_firstWar_18 hl (by decide) rfl (fun ls hl => ?_)
        refine lv_iload hx hb dX2_firstWar_20 (lv_at hl 0 rfl) ?_
        refine lv_sipush (v := 9999) hx hb dX2_firstWar_22 (by decide) ?_
        refine lv_icmp_gt (tgt := 43) hx hb dX2_firstWar_25 (by decide) (fun c2 => ?_) (fun c2 => ?_)
        · have hw := Eq.mp (if_pos c2) hw
          refine lv_iinc (v := (y4 + 1)) (lv' := [(4, .int (y4 + 1)), (5, .int (F_X2_firstDayAfter S0 y4)), (0, .ref (ad o0)), (1, .int x1), (2, .int x2), (3, .int x3)]) hx hb dX2_firstWar_43 hl (k := 5) rfl rfl (by decide) rfl (fun ls hl => ?_)
          refine lv_goto (tgt := 3) hx hb dX2_firstWar_46 (by decide) ?_
          exact ih (y4 + 1) _ (lv_sub hl [2, 3, 4, 5, 0] rfl) hw
        · have hw := Eq.mp (if_neg c2) hw
          refine lv_aload_n hx hb dX2_firstWar_28 rfl (lv_at hl 1 rfl) ?_
          refine lv_iload_n hx hb dX2_firstWar_29 rfl (lv_at hl 2 rfl) ?_
          refine lv_iload_n hx hb dX2_firstWar_30 rfl (lv_at hl 3 rfl) ?_
          refine lv_iload hx hb dX2_firstWar_31 (lv_at hl 0 rfl) ?_
          refine callR (va_runV (As := [.int x1, .int x2, .int (F_X2_firstDayAfter S0 y4)]) (rest := []) ⟨hx, hb, hml, hown, hW⟩ (c_X2_daysAway l D cI cZ ad o0 S0 x1 x2 (F_X2_firstDayAfter S0 y4) _ hw) (cwV0 hW mV_X2_daysAway ml_X2_115 ⟨Nat.le_of_ble_eq_true rfl, Nat.le_of_ble_eq_true rfl⟩) (preV0 0 rfl rfl hK hN hP hD [0] rfl rfl) rfl rfl hl.1 rfl (lv_room (Nat.le_of_ble_eq_true rfl)) dX2_firstWar_33 ⟨Nat.le_refl _, Nat.le_refl _⟩) (fun v9 hq => ?_)
          obtain ⟨v3, rfl, hw⟩ := hq
          refine W.eq (g2 := F0 m 36 ls [.int v3]) rfl ?_
          refine lv_iload_n hx hb dX2_firstWar_36 rfl (lv_at hl 4 rfl) ?_
          refine lv_icmp_lt (tgt := 43) hx hb dX2_firstWar_37 (by decide) (fun c4 => ?_) (fun c4 => ?_)
          · have hw := Eq.mp (if_pos c4) hw
            refine lv_iinc (v := (y4 + 1)) (lv' := [(4, .int (y4 + 1)), (5, .int (F_X2_firstDayAfter S0 y4)), (0, .ref (ad o0)), (1, .int x1), (2, .int x2), (3, .int x3)]) hx hb dX2_firstWar_43 hl (k := 5) rfl rfl (by decide) rfl (fun ls hl => ?_)
            refine lv_goto (tgt := 3) hx hb dX2_firstWar_46 (by decide) ?_
            exact ih (y4 + 1) _ (lv_sub hl [2, 3, 4, 5, 0] rfl) hw
          · have hw := Eq.mp (if_neg c4) hw
            refine lv_iload hx hb dX2_firstWar_40 (lv_at hl 0 rfl) ?_
            exact W.iret (v := (F_X2_firstDayAfter S0 y4)) hx hb hr (fun t ht _ => ⟨⟨_, rfl, ⟨_, rfl, hw⟩⟩, ht⟩) (fun _ h => by cases h) dX2_firstWar_42
  have hw : (∃ M5, wl_X2_firstWar_3 S0 x1 x2 x3 (k (-6)) k M5 0) := hw
  refine lv_iconst (v := 0) hx hb dX2_firstWar_0 (by decide) ?_
  refine lv_istore (lv' := [(4, .int 0), (0, .ref (ad o0)), (1, .int x1), (2, .int x2), (3, .int x3)]) hx hb dX2_firstWar_1 hl (by decide) rfl (fun ls hl => ?_)
  obtain ⟨N6, hw⟩ := hw
  refine L3  _ (fun  ls hl hw => ?_) N6 0 _ (lv_sub hl [1, 2, 3, 4, 0] rfl) hw
  refine lv_bipush (v := (-6)) hx hb dX2_firstWar_49 (by decide) ?_
  exact W.iret (v := (-6)) hx hb hr (fun t ht _ => ⟨⟨_, rfl, ⟨_, rfl, hw⟩⟩, ht⟩) (fun _ h => by cases h) dX2_firstWar_51
set_option maxHeartbeats 4000000 in
set_option maxRecDepth 100000 in
theorem c_X2_fursAfter (l : Launch) (D : va_G) (cI cZ : ClassId) (ad : Nat → Nat) (o0 : Nat) (S0 : St) (x1 : Int32) (k : Int32 → Prop) (hw : wp_X2_fursAfter S0 x1 k) : KR l yX2_fursAfter cX2_fursAfter 4 (some .int) 2 45 D cI cZ [.ref (ad o0), .int x1] [rcells cI ad o0 S0] (fun v => ∃ r, v = some (.int r) ∧ k r) := by
  refine Met.ofE (by decide +kernel) (Nat.le_of_ble_eq_true rfl) ?_
  intro p e s m below meth c E ls hl
  obtain ⟨hx, hb, hr, hml, hW, hown, hlocks, hP, hK, hD, hN⟩ := E
  have hl : lv_has ls 4 [(0, .ref (ad o0)), (1, .int x1)] := hl
  have L4 : ∀  (kx : Int32 → Prop), (∀ (y2 : Int32), ∀ ls : Array Slot, lv_has ls 4 [(2, .int y2)] → kx y2 → W p l e { frames := 2, cells := 0, slots := 0, locals := 45 } s m ([.ref (ad o0), .int x1] : List Value).toArray below meth c s.heap [] 0 0 (MQ below (QR (fun v => ∃ r, v = some (.int r) ∧ k r)) ([.ref (ad o0), .int x1] : List Value).toArray s 0 0 (fun _ => False)) (F0 m 42 ls [])) → ∀ (N4 : Nat) (y2 : Int32) (y3 : Int32), ∀ ls : Array Slot, lv_has ls 4 [(0, .ref (ad o0)), (1, .int x1), (2, .int y2), (3, .int y3)] → wl_X2_fursAfter_4 S0 x1 kx N4 y2 y3 → W p l e { frames := 2, cells := 0, slots := 0, locals := 45 } s m ([.ref (ad o0), .int x1] : List Value).toArray below meth c s.heap [] 0 0 (MQ below (QR (fun v => ∃ r, v = some (.int r) ∧ k r)) ([.ref (ad o0), .int x1] : List Value).toArray s 0 0 (fun _ => False)) (F0 m 4 ls []) := by
    intro  kx hxt N4
    induction N4 with
    | zero => intro y2 y3 ls hl hw; exact False.elim hw
    | succ N4 ih =>
      intro y2 y3 ls hl hw
      have hw : (if (S0.1 0) ≤ y3 then (kx y2) else (if (F_X2_lives S0 y3) = 0 then (wl_X2_fursAfter_4 S0 x1 kx N4 y2 (y3 + 1)) else (wl_X2_fursAfter_4 S0 x1 kx N4 (y2 + (F_X3_get 6 (S0.2 12) (F_X2_landAfter S0 y3 x1))) (y3 + 1)))) := hw
      refine lv_iload_n hx hb dX2_fursAfter_4 rfl (lv_at hl 3 rfl) ?_
      refine lv_aload_n hx hb dX2_fursAfter_5 rfl (lv_at hl 0 rfl) ?_
      refine va_get (D := D) (ci := 2) (v := .int (S0.1 0)) (C := RX2) (T := TX2) (N := 15) hx hb hW inW_X2 hown hK hP 0 rfl rfl 0 (by decide) (hW _ fl_X2_41) (fun _ h9 => h9) rfl dX2_fursAfter_6 ?_
      refine lv_icmp_ge (tgt := 42) hx hb dX2_fursAfter_9 (by decide) (fun c1 => ?_) (fun c1 => ?_)
      · have hw := Eq.mp (if_pos c1) hw
        exact hxt y2 _ (lv_sub hl [2] rfl) hw
      · have hw := Eq.mp (if_neg c1) hw
        refine lv_aload_n hx hb dX2_fursAfter_12 rfl (lv_at hl 0 rfl) ?_
        refine lv_iload_n hx hb dX2_fursAfter_13 rfl (lv_at hl 3 rfl) ?_
        refine callF (va_runV (As := [.int y3]) (rest := []) ⟨hx, hb, hml, hown, hW⟩ (c_X2_lives l D cI cZ ad o0 S0 y3 _ rfl) (cwV0 hW mV_X2_lives ml_X2_82 ⟨Nat.le_of_ble_eq_true rfl, Nat.le_of_ble_eq_true rfl⟩) (preV0 0 rfl rfl hK hN hP hD [0] rfl rfl) rfl rfl hl.1 rfl (lv_room (Nat.le_of_ble_eq_true rfl)) dX2_fursAfter_14 ⟨Nat.le_refl _, Nat.le_refl _⟩) ?_
        refine W.eq (g2 := F0 m 17 ls [.int (F_X2_lives S0 y3)]) rfl ?_
        refine lv_if_eq (tgt := 36) hx hb dX2_fursAfter_17 (by decide) (fun c2 => ?_) (fun c2 => ?_)
        · have hw := Eq.mp (if_pos c2) hw
          refine lv_iinc (v := (y3 + 1)) (lv' := [(3, .int (y3 + 1)), (0, .ref (ad o0)), (1, .int x1), (2, .int y2)]) hx hb dX2_fursAfter_36 hl (k := 3) rfl rfl (by decide) rfl (fun ls hl => ?_)
          refine lv_goto (tgt := 4) hx hb dX2_fursAfter_39 (by decide) ?_
          exact ih y2 (y3 + 1) _ (lv_sub hl [1, 2, 3, 0] rfl) hw
        · have hw := Eq.mp (if_neg c2) hw
          refine lv_iload_n hx hb dX2_fursAfter_20 rfl (lv_at hl 2 rfl) ?_
          refine lv_aload_n hx hb dX2_fursAfter_21 rfl (lv_at hl 0 rfl) ?_
          refine va_get (D := D) (ci := 2) (v := .ref (ad (o0 + 6))) (C := RX2) (T := TX2) (N := 15) hx hb hW inW_X2 hown hK hP 0 rfl rfl 12 (by decide) (hW _ fl_X2_32) (fun _ h9 => h9) rfl dX2_fursAfter_22 ?_
          refine lv_aload_n hx hb dX2_fursAfter_25 rfl (lv_at hl 0 rfl) ?_
          refine lv_iload_n hx hb dX2_fursAfter_26 rfl (lv_at hl 3 rfl) ?_
          refine lv_iload_n hx hb dX2_fursAfter_27 rfl (lv_at hl 1 rfl) ?_
          refine callF (va_runV (As := [.int y3, .int x1]) (rest := [.ref (ad (o0 + 6)), .int y2]) ⟨hx, hb, hml, hown, hW⟩ (c_X2_landAfter l D cI cZ ad o0 S0 y3 x1 _ rfl) (cwV0 hW mV_X2_landAfter ml_X2_100 ⟨Nat.le_of_ble_eq_true rfl, Nat.le_of_ble_eq_true rfl⟩) (preV0 0 rfl rfl hK hN hP hD [0] rfl rfl) rfl rfl hl.1 rfl (lv_room (Nat.le_of_ble_eq_true rfl)) dX2_fursAfter_28 ⟨Nat.le_refl _, Nat.le_refl _⟩) ?_
          refine W.eq (g2 := F0 m 31 ls [.int (F_X2_landAfter S0 y3 x1), .ref (ad (o0 + 6)), .int y2]) rfl ?_
          refine callF (va_runV (As := [.int (F_X2_landAfter S0 y3 x1)]) (rest := [.int y2]) ⟨hx, hb, hml, hown, hW⟩ (c_X3_get__round_12 l D cI cZ ad o0 S0 (F_X2_landAfter S0 y3 x1) _ rfl) (cwV0 hW mV_X3_get ml_X2_78 ⟨Nat.le_of_ble_eq_true rfl, Nat.le_of_ble_eq_true rfl⟩) (preV0 6 rfl rfl hK hN hP hD [0] rfl rfl) rfl rfl hl.1 rfl (lv_room (Nat.le_of_ble_eq_true rfl)) dX2_fursAfter_31 ⟨Nat.le_refl _, Nat.le_refl _⟩) ?_
          refine W.eq (g2 := F0 m 34 ls [.int (F_X3_get 6 (S0.2 12) (F_X2_landAfter S0 y3 x1)), .int y2]) rfl ?_
          refine lv_iadd hx hb dX2_fursAfter_34 ?_
          refine lv_istore_n (lv' := [(2, .int (y2 + (F_X3_get 6 (S0.2 12) (F_X2_landAfter S0 y3 x1)))), (0, .ref (ad o0)), (1, .int x1), (3, .int y3)]) hx hb dX2_fursAfter_35 rfl hl (by decide) rfl (fun ls hl => ?_)
          refine lv_iinc (v := (y3 + 1)) (lv' := [(3, .int (y3 + 1)), (2, .int (y2 + (F_X3_get 6 (S0.2 12) (F_X2_landAfter S0 y3 x1)))), (0, .ref (ad o0)), (1, .int x1)]) hx hb dX2_fursAfter_36 hl (k := 3) rfl rfl (by decide) rfl (fun ls hl => ?_)
          refine lv_goto (tgt := 4) hx hb dX2_fursAfter_39 (by decide) ?_
          exact ih (y2 + (F_X3_get 6 (S0.2 12) (F_X2_landAfter S0 y3 x1))) (y3 + 1) _ (lv_sub hl [2, 3, 1, 0] rfl) hw
  have hw : (∃ M4, wl_X2_fursAfter_4 S0 x1 (fun (v3 : Int32) => (k v3)) M4 0 0) := hw
  refine lv_iconst (v := 0) hx hb dX2_fursAfter_0 (by decide) ?_
  refine lv_istore_n (lv' := [(2, .int 0), (0, .ref (ad o0)), (1, .int x1)]) hx hb dX2_fursAfter_1 rfl hl (by decide) rfl (fun ls hl => ?_)
  refine lv_iconst (v := 0) hx hb dX2_fursAfter_2 (by decide) ?_
  refine lv_istore_n (lv' := [(3, .int 0), (2, .int 0), (0, .ref (ad o0)), (1, .int x1)]) hx hb dX2_fursAfter_3 rfl hl (by decide) rfl (fun ls hl => ?_)
  obtain ⟨N5, hw⟩ := hw
  refine L4  _ (fun v3 ls hl hw => ?_) N5 0 0 _ (lv_sub hl [2, 3, 1, 0] rfl) hw
  refine lv_iload_n hx hb dX2_fursAfter_42 rfl (lv_at hl 0 rfl) ?_
  exact W.iret (v := v3) hx hb hr (fun t ht _ => ⟨⟨_, rfl, ⟨_, rfl, hw⟩⟩, ht⟩) (fun _ h => by cases h) dX2_fursAfter_43
set_option maxHeartbeats 4000000 in
set_option maxRecDepth 100000 in
theorem c_X2_ownNames (l : Launch) (D : va_G) (cI cZ : ClassId) (ad : Nat → Nat) (o0 : Nat) (S0 : St) (k : Int32 → Prop) (hw : wp_X2_ownNames S0 k) : KR l yX2_ownNames cX2_ownNames 3 (some .int) 1 21 D cI cZ [.ref (ad o0)] [rcells cI ad o0 S0] (fun v => ∃ r, v = some (.int r) ∧ k r) := by
  refine Met.ofE (by decide +kernel) (Nat.le_of_ble_eq_true rfl) ?_
  intro p e s m below meth c E ls hl
  obtain ⟨hx, hb, hr, hml, hW, hown, hlocks, hP, hK, hD, hN⟩ := E
  have hl : lv_has ls 3 [(0, .ref (ad o0))] := hl
  have L4 : ∀  (kx : Int32 → Prop), (∀ (y1 : Int32), ∀ ls : Array Slot, lv_has ls 3 [(1, .int y1)] → kx y1 → W p l e { frames := 1, cells := 0, slots := 0, locals := 21 } s m ([.ref (ad o0)] : List Value).toArray below meth c s.heap [] 0 0 (MQ below (QR (fun v => ∃ r, v = some (.int r) ∧ k r)) ([.ref (ad o0)] : List Value).toArray s 0 0 (fun _ => False)) (F0 m 41 ls [])) → ∀ (N4 : Nat) (y1 : Int32) (y2 : Int32), ∀ ls : Array Slot, lv_has ls 3 [(0, .ref (ad o0)), (1, .int y1), (2, .int y2)] → wl_X2_ownNames_4 S0 kx N4 y1 y2 → W p l e { frames := 1, cells := 0, slots := 0, locals := 21 } s m ([.ref (ad o0)] : List Value).toArray below meth c s.heap [] 0 0 (MQ below (QR (fun v => ∃ r, v = some (.int r) ∧ k r)) ([.ref (ad o0)] : List Value).toArray s 0 0 (fun _ => False)) (F0 m 4 ls []) := by
    intro  kx hxt N4
    induction N4 with
    | zero => intro y1 y2 ls hl hw; exact False.elim hw
    | succ N4 ih =>
      intro y1 y2 ls hl hw
      have hw : (if (S0.1 0) ≤ y2 then (kx y1) else (if (F_X2_lives S0 y2) = 0 then (wl_X2_ownNames_4 S0 kx N4 y1 (y2 + 1)) else (if (F_X3_get 6 (S0.2 8) y2) = y2 then (wl_X2_ownNames_4 S0 kx N4 (y1 + 1) (y2 + 1)) else (wl_X2_ownNames_4 S0 kx N4 y1 (y2 + 1))))) := hw
      refine lv_iload_n hx hb dX2_ownNames_4 rfl (lv_at hl 2 rfl) ?_
      refine lv_aload_n hx hb dX2_ownNames_5 rfl (lv_at hl 0 rfl) ?_
      refine va_get (D := D) (ci := 2) (v := .int (S0.1 0)) (C := RX2) (T := TX2) (N := 15) hx hb hW inW_X2 hown hK hP 0 rfl rfl 0 (by decide) (hW _ fl_X2_41) (fun _ h9 => h9) rfl dX2_ownNames_6 ?_
      refine lv_icmp_ge (tgt := 41) hx hb dX2_ownNames_9 (by decide) (fun c1 => ?_) (fun c1 => ?_)
      · have hw := Eq.mp (if_pos c1) hw
        exact hxt y1 _ (lv_sub hl [1] rfl) hw
      · have hw := Eq.mp (if_neg c1) hw
        refine lv_aload_n hx hb dX2_ownNames_12 rfl (lv_at hl 0 rfl) ?_
        refine lv_iload_n hx hb dX2_ownNames_13 rfl (lv_at hl 2 rfl) ?_
        refine callF (va_runV (As := [.int y2]) (rest := []) ⟨hx, hb, hml, hown, hW⟩ (c_X2_lives l D cI cZ ad o0 S0 y2 _ rfl) (cwV0 hW mV_X2_lives ml_X2_82 ⟨Nat.le_of_ble_eq_true rfl, Nat.le_of_ble_eq_true rfl⟩) (preV0 0 rfl rfl hK hN hP hD [0] rfl rfl) rfl rfl hl.1 rfl (lv_room (Nat.le_of_ble_eq_true rfl)) dX2_ownNames_14 ⟨Nat.le_refl _, Nat.le_refl _⟩) ?_
        refine W.eq (g2 := F0 m 17 ls [.int (F_X2_lives S0 y2)]) rfl ?_
        refine lv_if_eq (tgt := 35) hx hb dX2_ownNames_17 (by decide) (fun c2 => ?_) (fun c2 => ?_)
        · have hw := Eq.mp (if_pos c2) hw
          refine lv_iinc (v := (y2 + 1)) (lv' := [(2, .int (y2 + 1)), (0, .ref (ad o0)), (1, .int y1)]) hx hb dX2_ownNames_35 hl (k := 2) rfl rfl (by decide) rfl (fun ls hl => ?_)
          refine lv_goto (tgt := 4) hx hb dX2_ownNames_38 (by decide) ?_
          exact ih y1 (y2 + 1) _ (lv_sub hl [1, 2, 0] rfl) hw
        · have hw := Eq.mp (if_neg c2) hw
          refine lv_aload_n hx hb dX2_ownNames_20 rfl (lv_at hl 0 rfl) ?_
          refine va_get (D := D) (ci := 2) (v := .ref (ad (o0 + 2))) (C := RX2) (T := TX2) (N := 15) hx hb hW inW_X2 hown hK hP 0 rfl rfl 8 (by decide) (hW _ fl_X2_20) (fun _ h9 => h9) rfl dX2_ownNames_21 ?_
          refine lv_iload_n hx hb dX2_ownNames_24 rfl (lv_at hl 2 rfl) ?_
          refine callF (va_runV (As := [.int y2]) (rest := []) ⟨hx, hb, hml, hown, hW⟩ (c_X3_get__round_8 l D cI cZ ad o0 S0 y2 _ rfl) (cwV0 hW mV_X3_get ml_X2_78 ⟨Nat.le_of_ble_eq_true rfl, Nat.le_of_ble_eq_true rfl⟩) (preV0 2 rfl rfl hK hN hP hD [0] rfl rfl) rfl rfl hl.1 rfl (lv_room (Nat.le_of_ble_eq_true rfl)) dX2_ownNames_25 ⟨Nat.le_refl _, Nat.le_refl _⟩) ?_
          refine W.eq (g2 := F0 m 28 ls [.int (F_X3_get 6 (S0.2 8) y2)]) rfl ?_
          refine lv_iload_n hx hb dX2_ownNames_28 rfl (lv_at hl 2 rfl) ?_
          refine lv_icmp_ne (tgt := 35) hx hb dX2_ownNames_29 (by decide) (fun c3 => ?_) (fun c3 => ?_)
          · have hw := Eq.mp (if_neg c3) hw
            refine lv_iinc (v := (y2 + 1)) (lv' := [(2, .int (y2 + 1)), (0, .ref (ad o0)), (1, .int y1)]) hx hb dX2_ownNames_35 hl (k := 2) rfl rfl (by decide) rfl (fun ls hl => ?_)
            refine lv_goto (tgt := 4) hx hb dX2_ownNames_38 (by decide) ?_
            exact ih y1 (y2 + 1) _ (lv_sub hl [1, 2, 0] rfl) hw
          · have hw := Eq.mp (if_pos c3) hw
            refine lv_iinc (v := (y1 + 1)) (lv' := [(1, .int (y1 + 1)), (0, .ref (ad o0)), (2, .int y2)]) hx hb dX2_ownNames_32 hl (k := 1) rfl rfl (by decide) rfl (fun ls hl => ?_)
            refine lv_iinc (v := (y2 + 1)) (lv' := [(2, .int (y2 + 1)), (1, .int (y1 + 1)), (0, .ref (ad o0))]) hx hb dX2_ownNames_35 hl (k := 2) rfl rfl (by decide) rfl (fun ls hl => ?_)
            refine lv_goto (tgt := 4) hx hb dX2_ownNames_38 (by decide) ?_
            exact ih (y1 + 1) (y2 + 1) _ (lv_sub hl [2, 1, 0] rfl) hw
  have hw : (∃ M5, wl_X2_ownNames_4 S0 (fun (v4 : Int32) => (k v4)) M5 0 0) := hw
  refine lv_iconst (v := 0) hx hb dX2_ownNames_0 (by decide) ?_
  refine lv_istore_n (lv' := [(1, .int 0), (0, .ref (ad o0))]) hx hb dX2_ownNames_1 rfl hl (by decide) rfl (fun ls hl => ?_)
  refine lv_iconst (v := 0) hx hb dX2_ownNames_2 (by decide) ?_
  refine lv_istore_n (lv' := [(2, .int 0), (1, .int 0), (0, .ref (ad o0))]) hx hb dX2_ownNames_3 rfl hl (by decide) rfl (fun ls hl => ?_)
  obtain ⟨N6, hw⟩ := hw
  refine L4  _ (fun v4 ls hl hw => ?_) N6 0 0 _ (lv_sub hl [2, 1, 0] rfl) hw
  refine lv_iload_n hx hb dX2_ownNames_41 rfl (lv_at hl 0 rfl) ?_
  exact W.iret (v := v4) hx hb hr (fun t ht _ => ⟨⟨_, rfl, ⟨_, rfl, hw⟩⟩, ht⟩) (fun _ h => by cases h) dX2_ownNames_42
set_option maxHeartbeats 4000000 in
set_option maxRecDepth 100000 in
theorem c_X2_emptyLands (l : Launch) (D : va_G) (cI cZ : ClassId) (ad : Nat → Nat) (o0 : Nat) (S0 : St) (k : Int32 → Prop) (hw : wp_X2_emptyLands S0 k) : KR l yX2_emptyLands cX2_emptyLands 3 (some .int) 3 69 D cI cZ [.ref (ad o0)] [rcells cI ad o0 S0] (fun v => ∃ r, v = some (.int r) ∧ k r) := by
  refine Met.ofE (by decide +kernel) (Nat.le_of_ble_eq_true rfl) ?_
  intro p e s m below meth c E ls hl
  obtain ⟨hx, hb, hr, hml, hW, hown, hlocks, hP, hK, hD, hN⟩ := E
  have hl : lv_has ls 3 [(0, .ref (ad o0))] := hl
  have L4 : ∀  (kx : Int32 → Prop), (∀ (y1 : Int32), ∀ ls : Array Slot, lv_has ls 3 [(1, .int y1)] → kx y1 → W p l e { frames := 3, cells := 0, slots := 0, locals := 69 } s m ([.ref (ad o0)] : List Value).toArray below meth c s.heap [] 0 0 (MQ below (QR (fun v => ∃ r, v = some (.int r) ∧ k r)) ([.ref (ad o0)] : List Value).toArray s 0 0 (fun _ => False)) (F0 m 33 ls [])) → ∀ (N4 : Nat) (y1 : Int32) (y2 : Int32), ∀ ls : Array Slot, lv_has ls 3 [(0, .ref (ad o0)), (1, .int y1), (2, .int y2)] → wl_X2_emptyLands_4 S0 kx N4 y1 y2 → W p l e { frames := 3, cells := 0, slots := 0, locals := 69 } s m ([.ref (ad o0)] : List Value).toArray below meth c s.heap [] 0 0 (MQ below (QR (fun v => ∃ r, v = some (.int r) ∧ k r)) ([.ref (ad o0)] : List Value).toArray s 0 0 (fun _ => False)) (F0 m 4 ls []) := by
    intro  kx hxt N4
    induction N4 with
    | zero => intro y1 y2 ls hl hw; exact False.elim hw
    | succ N4 ih =>
      intro y1 y2 ls hl hw
      have hw : (if (S0.1 0) ≤ y2 then (kx y1) else (wp_X2_guestsAfter S0 y2 0 (fun (v2 : Int32) => (if v2 = 0 then (wl_X2_emptyLands_4 S0 kx N4 (y1 ||| ((1 : Int32) <<< (y2 &&& 31))) (y2 + 1)) else (wl_X2_emptyLands_4 S0 kx N4 y1 (y2 + 1)))))) := hw
      refine lv_iload_n hx hb dX2_emptyLands_4 rfl (lv_at hl 2 rfl) ?_
      refine lv_aload_n hx hb dX2_emptyLands_5 rfl (lv_at hl 0 rfl) ?_
      refine va_get (D := D) (ci := 2) (v := .int (S0.1 0)) (C := RX2) (T := TX2) (N := 15) hx hb hW inW_X2 hown hK hP 0 rfl rfl 0 (by decide) (hW _ fl_X2_41) (fun _ h9 => h9) rfl dX2_emptyLands_6 ?_
      refine lv_icmp_ge (tgt := 33) hx hb dX2_emptyLands_9 (by decide) (fun c1 => ?_) (fun c1 => ?_)
      · have hw := Eq.mp (if_pos c1) hw
        exact hxt y1 _ (lv_sub hl [1] rfl) hw
      · have hw := Eq.mp (if_neg c1) hw
        refine lv_aload_n hx hb dX2_emptyLands_12 rfl (lv_at hl 0 rfl) ?_
        refine lv_iload_n hx hb dX2_emptyLands_13 rfl (lv_at hl 2 rfl) ?_
        refine lv_iconst (v := 0) hx hb dX2_emptyLands_14 (by decide) ?_
        refine callR (va_runV (As := [.int y2, .int 0]) (rest := []) ⟨hx, hb, hml, hown, hW⟩ (c_X2_guestsAfter l D cI cZ ad o0 S0 y2 0 _ hw) (cwV0 hW mV_X2_guestsAfter ml_X2_119 ⟨Nat.le_of_ble_eq_true rfl, Nat.le_of_ble_eq_true rfl⟩) (preV0 0 rfl rfl hK hN hP hD [0] rfl rfl) rfl rfl hl.1 rfl (lv_room (Nat.le_of_ble_eq_true rfl)) dX2_emptyLands_15 ⟨Nat.le_refl _, Nat.le_refl _⟩) (fun v9 hq => ?_)
        obtain ⟨v2, rfl, hw⟩ := hq
        refine W.eq (g2 := F0 m 18 ls [.int v2]) rfl ?_
        refine lv_if_ne (tgt := 27) hx hb dX2_emptyLands_18 (by decide) (fun c3 => ?_) (fun c3 => ?_)
        · have hw := Eq.mp (if_neg c3) hw
          refine lv_iinc (v := (y2 + 1)) (lv' := [(2, .int (y2 + 1)), (0, .ref (ad o0)), (1, .int y1)]) hx hb dX2_emptyLands_27 hl (k := 2) rfl rfl (by decide) rfl (fun ls hl => ?_)
          refine lv_goto (tgt := 4) hx hb dX2_emptyLands_30 (by decide) ?_
          exact ih y1 (y2 + 1) _ (lv_sub hl [1, 2, 0] rfl) hw
        · have hw := Eq.mp (if_pos c3) hw
          refine lv_iload_n hx hb dX2_emptyLands_21 rfl (lv_at hl 1 rfl) ?_
          refine lv_iconst (v := 1) hx hb dX2_emptyLands_22 (by decide) ?_
          refine lv_iload_n hx hb dX2_emptyLands_23 rfl (lv_at hl 2 rfl) ?_
          refine lv_ishl hx hb dX2_emptyLands_24 ?_
          refine lv_ior hx hb dX2_emptyLands_25 ?_
          refine lv_istore_n (lv' := [(1, .int (y1 ||| ((1 : Int32) <<< (y2 &&& 31)))), (0, .ref (ad o0)), (2, .int y2)]) hx hb dX2_emptyLands_26 rfl hl (by decide) rfl (fun ls hl => ?_)
          refine lv_iinc (v := (y2 + 1)) (lv' := [(2, .int (y2 + 1)), (1, .int (y1 ||| ((1 : Int32) <<< (y2 &&& 31)))), (0, .ref (ad o0))]) hx hb dX2_emptyLands_27 hl (k := 2) rfl rfl (by decide) rfl (fun ls hl => ?_)
          refine lv_goto (tgt := 4) hx hb dX2_emptyLands_30 (by decide) ?_
          exact ih (y1 ||| ((1 : Int32) <<< (y2 &&& 31))) (y2 + 1) _ (lv_sub hl [2, 1, 0] rfl) hw
  have hw : (∃ M5, wl_X2_emptyLands_4 S0 (fun (v4 : Int32) => (k v4)) M5 0 0) := hw
  refine lv_iconst (v := 0) hx hb dX2_emptyLands_0 (by decide) ?_
  refine lv_istore_n (lv' := [(1, .int 0), (0, .ref (ad o0))]) hx hb dX2_emptyLands_1 rfl hl (by decide) rfl (fun ls hl => ?_)
  refine lv_iconst (v := 0) hx hb dX2_emptyLands_2 (by decide) ?_
  refine lv_istore_n (lv' := [(2, .int 0), (1, .int 0), (0, .ref (ad o0))]) hx hb dX2_emptyLands_3 rfl hl (by decide) rfl (fun ls hl => ?_)
  obtain ⟨N6, hw⟩ := hw
  refine L4  _ (fun v4 ls hl hw => ?_) N6 0 0 _ (lv_sub hl [2, 1, 0] rfl) hw
  refine lv_iload_n hx hb dX2_emptyLands_33 rfl (lv_at hl 0 rfl) ?_
  exact W.iret (v := v4) hx hb hr (fun t ht _ => ⟨⟨_, rfl, ⟨_, rfl, hw⟩⟩, ht⟩) (fun _ h => by cases h) dX2_emptyLands_34
