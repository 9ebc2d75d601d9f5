-- laid by wip/whole/all.py: the walks
set_option maxHeartbeats 4000000 in
set_option maxRecDepth 100000 in
theorem c_X7_clear (l : Launch) (D : va_G) (cI cZ : ClassId) (ad : Nat → Nat) (S0 : St) (k : St → Prop) (hw : wp_X7_clear S0 k) : KW l yX7_clear cX7_clear 2 none 0 0 D cI cZ [.ref (ad 0)] [mcells cI cZ ad 0 S0] (fun v (u : St) => v = none ∧ k u) (fun u : St => [mcells cI cZ ad 0 u]) := by
  refine Met.ofE (by decide +kernel) (Nat.le_of_ble_eq_true rfl) ?_
  intro p e s m below meth c E ls hl
  obtain ⟨hx, hb, hr, hml, hW, hown, hlocks, hP, hK, hD, hN⟩ := E
  have hl : lv_has ls 2 [(0, .ref (ad 0))] := hl
  have hS : va_S (cOf (jn [mcells cI cZ ad 0 S0])) s.heap s.heap [] := va_S.rf
  have L22 : ∀  (kx : St → Prop), (∀ (S0q : St) (H : Heap) (locs : List Loc), va_P D classes (jn [mcells cI cZ ad 0 S0q]) H → va_D (cOf (jn [mcells cI cZ ad 0 S0])) (jn [mcells cI cZ ad 0 S0q]) → va_S (cOf (jn [mcells cI cZ ad 0 S0])) s.heap H locs → ∀ ls : Array Slot, lv_has ls 2 [] → kx S0q → W p l e { frames := 0, cells := 0, slots := 0, locals := 0 } s m ([.ref (ad 0)] : List Value).toArray below meth c H locs 0 0 (MQ below (QW (fun v (u : St) => v = none ∧ k u) D (fun u : St => [mcells cI cZ ad 0 u]) [mcells cI cZ ad 0 S0]) ([.ref (ad 0)] : List Value).toArray s 0 0 (cOf (jn [mcells cI cZ ad 0 S0]))) (F0 m 89 ls [])) → ∀ (N22 : Nat) (y1 : Int32) (S0q : St) (H : Heap) (locs : List Loc), va_P D classes (jn [mcells cI cZ ad 0 S0q]) H → va_D (cOf (jn [mcells cI cZ ad 0 S0])) (jn [mcells cI cZ ad 0 S0q]) → va_S (cOf (jn [mcells cI cZ ad 0 S0])) s.heap H locs → ∀ ls : Array Slot, lv_has ls 2 [(0, .ref (ad 0)), (1, .int y1)] → wl_X7_clear_22 kx N22 y1 S0q → W p l e { frames := 0, cells := 0, slots := 0, locals := 0 } s m ([.ref (ad 0)] : List Value).toArray below meth c H locs 0 0 (MQ below (QW (fun v (u : St) => v = none ∧ k u) D (fun u : St => [mcells cI cZ ad 0 u]) [mcells cI cZ ad 0 S0]) ([.ref (ad 0)] : List Value).toArray s 0 0 (cOf (jn [mcells cI cZ ad 0 S0]))) (F0 m 22 ls []) := by
    intro  kx hxt N22
    induction N22 with
    | zero => intro y1 S0q H locs hP hD hS ls hl hw; exact False.elim hw
    | succ N22 ih =>
      intro y1 S0q H locs hP hD hS ls hl hw
      have hw : (if 6 ≤ y1 then (kx S0q) else (if (S0q.1 0) ≤ y1 then (vp_in y1 6 ∧ (vp_in y1 6 ∧ (vp_in y1 6 ∧ (vp_in y1 6 ∧ (vp_in y1 6 ∧ (wl_X7_clear_22 kx N22 (y1 + 1) (sA (sA (sA (sA (sA S0q 5 (upd (S0q.2 5) (y1 : Int32).toNatClampNeg (-6))) 6 (upd (S0q.2 6) (y1 : Int32).toNatClampNeg y1)) 7 (upd (S0q.2 7) (y1 : Int32).toNatClampNeg 0)) 8 (upd (S0q.2 8) (y1 : Int32).toNatClampNeg 0)) 9 (upd (S0q.2 9) (y1 : Int32).toNatClampNeg 0)))))))) else (¬ (S0q.1 0) = 0 ∧ (vp_in y1 6 ∧ (vp_in y1 6 ∧ (vp_in y1 6 ∧ (vp_in y1 6 ∧ (vp_in y1 6 ∧ (wl_X7_clear_22 kx N22 (y1 + 1) (sA (sA (sA (sA (sA S0q 5 (upd (S0q.2 5) (y1 : Int32).toNatClampNeg ((y1 + 1) - (y1 + 1) / (S0q.1 0) * (S0q.1 0)))) 6 (upd (S0q.2 6) (y1 : Int32).toNatClampNeg y1)) 7 (upd (S0q.2 7) (y1 : Int32).toNatClampNeg 0)) 8 (upd (S0q.2 8) (y1 : Int32).toNatClampNeg 0)) 9 (upd (S0q.2 9) (y1 : Int32).toNatClampNeg 0))))))))))) := hw
      refine lv_iload_n hx hb dX7_clear_22 rfl (lv_at hl 1 rfl) ?_
      refine lv_bipush (v := 6) hx hb dX7_clear_23 (by decide) ?_
      refine lv_icmp_ge (tgt := 89) hx hb dX7_clear_25 (by decide) (fun c1 => ?_) (fun c1 => ?_)
      · have hw := Eq.mp (if_pos c1) hw
        exact hxt S0q _ _ hP hD hS _ (lv_sub hl [] rfl) hw
      · have hw := Eq.mp (if_neg c1) hw
        refine lv_aload_n hx hb dX7_clear_28 rfl (lv_at hl 0 rfl) ?_
        refine va_get (D := D) (ci := 7) (v := .ref (ad (0 + 1))) (C := RX7) (T := TX7) (N := 27) hx hb hW inW_X7 hown hK hP 0 rfl rfl 5 (by decide) (hW _ fl_X7_16) (fun _ h9 => h9) rfl dX7_clear_29 ?_
        refine lv_iload_n hx hb dX7_clear_32 rfl (lv_at hl 1 rfl) ?_
        refine lv_iload_n hx hb dX7_clear_33 rfl (lv_at hl 1 rfl) ?_
        refine lv_aload_n hx hb dX7_clear_34 rfl (lv_at hl 0 rfl) ?_
        refine va_get (D := D) (ci := 7) (v := .int (S0q.1 0)) (C := RX7) (T := TX7) (N := 27) hx hb hW inW_X7 hown hK hP 0 rfl rfl 0 (by decide) (hW _ fl_X7_7) (fun _ h9 => h9) rfl dX7_clear_35 ?_
        refine lv_icmp_ge (tgt := 52) hx hb dX7_clear_38 (by decide) (fun c2 => ?_) (fun c2 => ?_)
        · have hw := Eq.mp (if_pos c2) hw
          refine lv_bipush (v := (-6)) hx hb dX7_clear_52 (by decide) ?_
          refine va_iast (f := (S0q.2 5)) hx hb hK hP hD hS 1 0 rfl rfl hw.1 dX7_clear_54 (fun H locs hP hD hS => ?_)
          have hw := hw.2
          revert hw; revert hD; revert hP
          generalize (upd (S0q.2 5) (y1 : Int32).toNatClampNeg (-6)) = Z3
          intro hP hD hw
          have hP : va_P D classes (jn [mcells cI cZ ad 0 (sA S0q 5 Z3)]) H := ms_a5 (Φ := fun w => va_P D classes w H) (S := S0q) (v := Z3) hP
          have hD : va_D (cOf (jn [mcells cI cZ ad 0 S0])) (jn [mcells cI cZ ad 0 (sA S0q 5 Z3)]) := ms_a5 (Φ := fun w => va_D (cOf (jn [mcells cI cZ ad 0 S0])) w) (S := S0q) (v := Z3) hD
          refine lv_aload_n hx hb dX7_clear_55 rfl (lv_at hl 0 rfl) ?_
          refine va_get (D := D) (ci := 7) (v := .ref (ad (0 + 2))) (C := RX7) (T := TX7) (N := 27) hx hb hW inW_X7 hown hK hP 0 rfl rfl 6 (by decide) (hW _ fl_X7_20) (fun _ h9 => h9) rfl dX7_clear_56 ?_
          refine lv_iload_n hx hb dX7_clear_59 rfl (lv_at hl 1 rfl) ?_
          refine lv_iload_n hx hb dX7_clear_60 rfl (lv_at hl 1 rfl) ?_
          refine va_iast (f := (S0q.2 6)) hx hb hK hP hD hS 2 0 rfl rfl hw.1 dX7_clear_61 (fun H locs hP hD hS => ?_)
          have hw := hw.2
          revert hw; revert hD; revert hP
          generalize (upd (S0q.2 6) (y1 : Int32).toNatClampNeg y1) = Z4
          intro hP hD hw
          have hP : va_P D classes (jn [mcells cI cZ ad 0 (sA (sA S0q 5 Z3) 6 Z4)]) H := ms_a6 (Φ := fun w => va_P D classes w H) (S := (sA S0q 5 Z3)) (v := Z4) hP
          have hD : va_D (cOf (jn [mcells cI cZ ad 0 S0])) (jn [mcells cI cZ ad 0 (sA (sA S0q 5 Z3) 6 Z4)]) := ms_a6 (Φ := fun w => va_D (cOf (jn [mcells cI cZ ad 0 S0])) w) (S := (sA S0q 5 Z3)) (v := Z4) hD
          refine lv_aload_n hx hb dX7_clear_62 rfl (lv_at hl 0 rfl) ?_
          refine va_get (D := D) (ci := 7) (v := .ref (ad (0 + 3))) (C := RX7) (T := TX7) (N := 27) hx hb hW inW_X7 hown hK hP 0 rfl rfl 7 (by decide) (hW _ fl_X7_23) (fun _ h9 => h9) rfl dX7_clear_63 ?_
          refine lv_iload_n hx hb dX7_clear_66 rfl (lv_at hl 1 rfl) ?_
          refine lv_iconst (v := 0) hx hb dX7_clear_67 (by decide) ?_
          refine va_iast (f := (S0q.2 7)) hx hb hK hP hD hS 3 0 rfl rfl hw.1 dX7_clear_68 (fun H locs hP hD hS => ?_)
          have hw := hw.2
          revert hw; revert hD; revert hP
          generalize (upd (S0q.2 7) (y1 : Int32).toNatClampNeg 0) = Z5
          intro hP hD hw
          have hP : va_P D classes (jn [mcells cI cZ ad 0 (sA (sA (sA S0q 5 Z3) 6 Z4) 7 Z5)]) H := ms_a7 (Φ := fun w => va_P D classes w H) (S := (sA (sA S0q 5 Z3) 6 Z4)) (v := Z5) hP
          have hD : va_D (cOf (jn [mcells cI cZ ad 0 S0])) (jn [mcells cI cZ ad 0 (sA (sA (sA S0q 5 Z3) 6 Z4) 7 Z5)]) := ms_a7 (Φ := fun w => va_D (cOf (jn [mcells cI cZ ad 0 S0])) w) (S := (sA (sA S0q 5 Z3) 6 Z4)) (v := Z5) hD
          refine lv_aload_n hx hb dX7_clear_69 rfl (lv_at hl 0 rfl) ?_
          refine va_get (D := D) (ci := 7) (v := .ref (ad (0 + 4))) (C := RX7) (T := TX7) (N := 27) hx hb hW inW_X7 hown hK hP 0 rfl rfl 8 (by decide) (hW _ fl_X7_26) (fun _ h9 => h9) rfl dX7_clear_70 ?_
          refine lv_iload_n hx hb dX7_clear_73 rfl (lv_at hl 1 rfl) ?_
          refine lv_iconst (v := 0) hx hb dX7_clear_74 (by decide) ?_
          refine va_iast (f := (S0q.2 8)) hx hb hK hP hD hS 4 0 rfl rfl hw.1 dX7_clear_75 (fun H locs hP hD hS => ?_)
          have hw := hw.2
          revert hw; revert hD; revert hP
          generalize (upd (S0q.2 8) (y1 : Int32).toNatClampNeg 0) = Z6
          intro hP hD hw
          have hP : va_P D classes (jn [mcells cI cZ ad 0 (sA (sA (sA (sA S0q 5 Z3) 6 Z4) 7 Z5) 8 Z6)]) H := ms_a8 (Φ := fun w => va_P D classes w H) (S := (sA (sA (sA S0q 5 Z3) 6 Z4) 7 Z5)) (v := Z6) hP
          have hD : va_D (cOf (jn [mcells cI cZ ad 0 S0])) (jn [mcells cI cZ ad 0 (sA (sA (sA (sA S0q 5 Z3) 6 Z4) 7 Z5) 8 Z6)]) := ms_a8 (Φ := fun w => va_D (cOf (jn [mcells cI cZ ad 0 S0])) w) (S := (sA (sA (sA S0q 5 Z3) 6 Z4) 7 Z5)) (v := Z6) hD
          refine lv_aload_n hx hb dX7_clear_76 rfl (lv_at hl 0 rfl) ?_
          refine va_get (D := D) (ci := 7) (v := .ref (ad (0 + 5))) (C := RX7) (T := TX7) (N := 27) hx hb hW inW_X7 hown hK hP 0 rfl rfl 9 (by decide) (hW _ fl_X7_29) (fun _ h9 => h9) rfl dX7_clear_77 ?_
          refine lv_iload_n hx hb dX7_clear_80 rfl (lv_at hl 1 rfl) ?_
          refine lv_iconst (v := 0) hx hb dX7_clear_81 (by decide) ?_
          refine va_iast (f := (S0q.2 9)) hx hb hK hP hD hS 5 0 rfl rfl hw.1 dX7_clear_82 (fun H locs hP hD hS => ?_)
          have hw := hw.2
          revert hw; revert hD; revert hP
          generalize (upd (S0q.2 9) (y1 : Int32).toNatClampNeg 0) = Z7
          intro hP hD hw
          have hP : va_P D classes (jn [mcells cI cZ ad 0 (sA (sA (sA (sA (sA S0q 5 Z3) 6 Z4) 7 Z5) 8 Z6) 9 Z7)]) H := ms_a9 (Φ := fun w => va_P D classes w H) (S := (sA (sA (sA (sA S0q 5 Z3) 6 Z4) 7 Z5) 8 Z6)) (v := Z7) hP
          have hD : va_D (cOf (jn [mcells cI cZ ad 0 S0])) (jn [mcells cI cZ ad 0 (sA (sA (sA (sA (sA S0q 5 Z3) 6 Z4) 7 Z5) 8 Z6) 9 Z7)]) := ms_a9 (Φ := fun w => va_D (cOf (jn [mcells cI cZ ad 0 S0])) w) (S := (sA (sA (sA (sA S0q 5 Z3) 6 Z4) 7 Z5) 8 Z6)) (v := Z7) hD
          refine lv_iinc (v := (y1 + 1)) (lv' := [(1, .int (y1 + 1)), (0, .ref (ad 0))]) hx hb dX7_clear_83 hl (k := 1) rfl rfl (by decide) rfl (fun ls hl => ?_)
          refine lv_goto (tgt := 22) hx hb dX7_clear_86 (by decide) ?_
          exact ih (y1 + 1) (sA (sA (sA (sA (sA S0q 5 Z3) 6 Z4) 7 Z5) 8 Z6) 9 Z7) _ _ hP hD hS _ (lv_sub hl [1, 0] rfl) hw
        · have hw := Eq.mp (if_neg c2) hw
          refine lv_iload_n hx hb dX7_clear_41 rfl (lv_at hl 1 rfl) ?_
          refine lv_iconst (v := 1) hx hb dX7_clear_42 (by decide) ?_
          refine lv_iadd hx hb dX7_clear_43 ?_
          refine lv_aload_n hx hb dX7_clear_44 rfl (lv_at hl 0 rfl) ?_
          refine va_get (D := D) (ci := 7) (v := .int (S0q.1 0)) (C := RX7) (T := TX7) (N := 27) hx hb hW inW_X7 hown hK hP 0 rfl rfl 0 (by decide) (hW _ fl_X7_7) (fun _ h9 => h9) rfl dX7_clear_45 ?_
          refine lv_irem hx hb dX7_clear_48 hw.1 ?_
          have hw := hw.2
          refine lv_goto (tgt := 54) hx hb dX7_clear_49 (by decide) ?_
          refine va_iast (f := (S0q.2 5)) hx hb hK hP hD hS 1 0 rfl rfl hw.1 dX7_clear_54 (fun H locs hP hD hS => ?_)
          have hw := hw.2
          revert hw; revert hD; revert hP
          generalize (upd (S0q.2 5) (y1 : Int32).toNatClampNeg ((y1 + 1) - (y1 + 1) / (S0q.1 0) * (S0q.1 0))) = Z8
          intro hP hD hw
          have hP : va_P D classes (jn [mcells cI cZ ad 0 (sA S0q 5 Z8)]) H := ms_a5 (Φ := fun w => va_P D classes w H) (S := S0q) (v := Z8) hP
          have hD : va_D (cOf (jn [mcells cI cZ ad 0 S0])) (jn [mcells cI cZ ad 0 (sA S0q 5 Z8)]) := ms_a5 (Φ := fun w => va_D (cOf (jn [mcells cI cZ ad 0 S0])) w) (S := S0q) (v := Z8) hD
          refine lv_aload_n hx hb dX7_clear_55 rfl (lv_at hl 0 rfl) ?_
          refine va_get (D := D) (ci := 7) (v := .ref (ad (0 + 2))) (C := RX7) (T := TX7) (N := 27) hx hb hW inW_X7 hown hK hP 0 rfl rfl 6 (by decide) (hW _ fl_X7_20) (fun _ h9 => h9) rfl dX7_clear_56 ?_
          refine lv_iload_n hx hb dX7_clear_59 rfl (lv_at hl 1 rfl) ?_
          refine lv_iload_n hx hb dX7_clear_60 rfl (lv_at hl 1 rfl) ?_
          refine va_iast (f := (S0q.2 6)) hx hb hK hP hD hS 2 0 rfl rfl hw.1 dX7_clear_61 (fun H locs hP hD hS => ?_)
          have hw := hw.2
          revert hw; revert hD; revert hP
          generalize (upd (S0q.2 6) (y1 : Int32).toNatClampNeg y1) = Z9
          intro hP hD hw
          have hP : va_P D classes (jn [mcells cI cZ ad 0 (sA (sA S0q 5 Z8) 6 Z9)]) H := ms_a6 (Φ := fun w => va_P D classes w H) (S := (sA S0q 5 Z8)) (v := Z9) hP
          have hD : va_D (cOf (jn [mcells cI cZ ad 0 S0])) (jn [mcells cI cZ ad 0 (sA (sA S0q 5 Z8) 6 Z9)]) := ms_a6 (Φ := fun w => va_D (cOf (jn [mcells cI cZ ad 0 S0])) w) (S := (sA S0q 5 Z8)) (v := Z9) hD
          refine lv_aload_n hx hb dX7_clear_62 rfl (lv_at hl 0 rfl) ?_
          refine va_get (D := D) (ci := 7) (v := .ref (ad (0 + 3))) (C := RX7) (T := TX7) (N := 27) hx hb hW inW_X7 hown hK hP 0 rfl rfl 7 (by decide) (hW _ fl_X7_23) (fun _ h9 => h9) rfl dX7_clear_63 ?_
          refine lv_iload_n hx hb dX7_clear_66 rfl (lv_at hl 1 rfl) ?_
          refine lv_iconst (v := 0) hx hb dX7_clear_67 (by decide) ?_
          refine va_iast (f := (S0q.2 7)) hx hb hK hP hD hS 3 0 rfl rfl hw.1 dX7_clear_68 (fun H locs hP hD hS => ?_)
          have hw := hw.2
          revert hw; revert hD; revert hP
          generalize (upd (S0q.2 7) (y1 : Int32).toNatClampNeg 0) = Z10
          intro hP hD hw
          have hP : va_P D classes (jn [mcells cI cZ ad 0 (sA (sA (sA S0q 5 Z8) 6 Z9) 7 Z10)]) H := ms_a7 (Φ := fun w => va_P D classes w H) (S := (sA (sA S0q 5 Z8) 6 Z9)) (v := Z10) hP
          have hD : va_D (cOf (jn [mcells cI cZ ad 0 S0])) (jn [mcells cI cZ ad 0 (sA (sA (sA S0q 5 Z8) 6 Z9) 7 Z10)]) := ms_a7 (Φ := fun w => va_D (cOf (jn [mcells cI cZ ad 0 S0])) w) (S := (sA (sA S0q 5 Z8) 6 Z9)) (v := Z10) hD
          refine lv_aload_n hx hb dX7_clear_69 rfl (lv_at hl 0 rfl) ?_
          refine va_get (D := D) (ci := 7) (v := .ref (ad (0 + 4))) (C := RX7) (T := TX7) (N := 27) hx hb hW inW_X7 hown hK hP 0 rfl rfl 8 (by decide) (hW _ fl_X7_26) (fun _ h9 => h9) rfl dX7_clear_70 ?_
          refine lv_iload_n hx hb dX7_clear_73 rfl (lv_at hl 1 rfl) ?_
          refine lv_iconst (v := 0) hx hb dX7_clear_74 (by decide) ?_
          refine va_iast (f := (S0q.2 8)) hx hb hK hP hD hS 4 0 rfl rfl hw.1 dX7_clear_75 (fun H locs hP hD hS => ?_)
          have hw := hw.2
          revert hw; revert hD; revert hP
          generalize (upd (S0q.2 8) (y1 : Int32).toNatClampNeg 0) = Z11
          intro hP hD hw
          have hP : va_P D classes (jn [mcells cI cZ ad 0 (sA (sA (sA (sA S0q 5 Z8) 6 Z9) 7 Z10) 8 Z11)]) H := ms_a8 (Φ := fun w => va_P D classes w H) (S := (sA (sA (sA S0q 5 Z8) 6 Z9) 7 Z10)) (v := Z11) hP
          have hD : va_D (cOf (jn [mcells cI cZ ad 0 S0])) (jn [mcells cI cZ ad 0 (sA (sA (sA (sA S0q 5 Z8) 6 Z9) 7 Z10) 8 Z11)]) := ms_a8 (Φ := fun w => va_D (cOf (jn [mcells cI cZ ad 0 S0])) w) (S := (sA (sA (sA S0q 5 Z8) 6 Z9) 7 Z10)) (v := Z11) hD
          refine lv_aload_n hx hb dX7_clear_76 rfl (lv_at hl 0 rfl) ?_
          refine va_get (D := D) (ci := 7) (v := .ref (ad (0 + 5))) (C := RX7) (T := TX7) (N := 27) hx hb hW inW_X7 hown hK hP 0 rfl rfl 9 (by decide) (hW _ fl_X7_29) (fun _ h9 => h9) rfl dX7_clear_77 ?_
          refine lv_iload_n hx hb dX7_clear_80 rfl (lv_at hl 1 rfl) ?_
          refine lv_iconst (v := 0) hx hb dX7_clear_81 (by decide) ?_
          refine va_iast (f := (S0q.2 9)) hx hb hK hP hD hS 5 0 rfl rfl hw.1 dX7_clear_82 (fun H locs hP hD hS => ?_)
          have hw := hw.2
          revert hw; revert hD; revert hP
          generalize (upd (S0q.2 9) (y1 : Int32).toNatClampNeg 0) = Z12
          intro hP hD hw
          have hP : va_P D classes (jn [mcells cI cZ ad 0 (sA (sA (sA (sA (sA S0q 5 Z8) 6 Z9) 7 Z10) 8 Z11) 9 Z12)]) H := ms_a9 (Φ := fun w => va_P D classes w H) (S := (sA (sA (sA (sA S0q 5 Z8) 6 Z9) 7 Z10) 8 Z11)) (v := Z12) hP
          have hD : va_D (cOf (jn [mcells cI cZ ad 0 S0])) (jn [mcells cI cZ ad 0 (sA (sA (sA (sA (sA S0q 5 Z8) 6 Z9) 7 Z10) 8 Z11) 9 Z12)]) := ms_a9 (Φ := fun w => va_D (cOf (jn [mcells cI cZ ad 0 S0])) w) (S := (sA (sA (sA (sA S0q 5 Z8) 6 Z9) 7 Z10) 8 Z11)) (v := Z12) hD
          refine lv_iinc (v := (y1 + 1)) (lv' := [(1, .int (y1 + 1)), (0, .ref (ad 0))]) hx hb dX7_clear_83 hl (k := 1) rfl rfl (by decide) rfl (fun ls hl => ?_)
          refine lv_goto (tgt := 22) hx hb dX7_clear_86 (by decide) ?_
          exact ih (y1 + 1) (sA (sA (sA (sA (sA S0q 5 Z8) 6 Z9) 7 Z10) 8 Z11) 9 Z12) _ _ hP hD hS _ (lv_sub hl [1, 0] rfl) hw
  have hw : (∃ M14, wl_X7_clear_22 (fun (Z13 : St) => (k Z13)) M14 0 (sI (sI (sI (sI S0 2 0) 3 0) 4 0) 10 0)) := hw
  refine lv_aload_n hx hb dX7_clear_0 rfl (lv_at hl 0 rfl) ?_
  refine lv_iconst (v := 0) hx hb dX7_clear_1 (by decide) ?_
  refine va_put (D := D) (ci := 7) (v := .int 0) (ty := .int) (C := RX7) (T := TX7) (N := 27) hx hb hW inW_X7 tyX7 tyX7_ok nmX7 hown hK hP hD hS 0 rfl rfl 2 (by decide) (hW _ fl_X7_66) (fun _ h9 => h9) rfl (by decide +kernel) rfl rfl (Nat.le_of_ble_eq_true rfl) dX7_clear_2 (fun H locs hP hD hS => ?_)
  have hP : va_P D classes (jn [mcells cI cZ ad 0 (sI S0 2 0)]) H := ms_i2 (Φ := fun w => va_P D classes w H) (S := S0) (v := 0) hP
  have hD : va_D (cOf (jn [mcells cI cZ ad 0 S0])) (jn [mcells cI cZ ad 0 (sI S0 2 0)]) := ms_i2 (Φ := fun w => va_D (cOf (jn [mcells cI cZ ad 0 S0])) w) (S := S0) (v := 0) hD
  refine lv_aload_n hx hb dX7_clear_5 rfl (lv_at hl 0 rfl) ?_
  refine lv_iconst (v := 0) hx hb dX7_clear_6 (by decide) ?_
  refine va_put (D := D) (ci := 7) (v := .int 0) (ty := .int) (C := RX7) (T := TX7) (N := 27) hx hb hW inW_X7 tyX7 tyX7_ok nmX7 hown hK hP hD hS 0 rfl rfl 3 (by decide) (hW _ fl_X7_69) (fun _ h9 => h9) rfl (by decide +kernel) rfl rfl (Nat.le_of_ble_eq_true rfl) dX7_clear_7 (fun H locs hP hD hS => ?_)
  have hP : va_P D classes (jn [mcells cI cZ ad 0 (sI (sI S0 2 0) 3 0)]) H := ms_i3 (Φ := fun w => va_P D classes w H) (S := (sI S0 2 0)) (v := 0) hP
  have hD : va_D (cOf (jn [mcells cI cZ ad 0 S0])) (jn [mcells cI cZ ad 0 (sI (sI S0 2 0) 3 0)]) := ms_i3 (Φ := fun w => va_D (cOf (jn [mcells cI cZ ad 0 S0])) w) (S := (sI S0 2 0)) (v := 0) hD
  refine lv_aload_n hx hb dX7_clear_10 rfl (lv_at hl 0 rfl) ?_
  refine lv_iconst (v := 0) hx hb dX7_clear_11 (by decide) ?_
  refine va_put (D := D) (ci := 7) (v := .int 0) (ty := .int) (C := RX7) (T := TX7) (N := 27) hx hb hW inW_X7 tyX7 tyX7_ok nmX7 hown hK hP hD hS 0 rfl rfl 4 (by decide) (hW _ fl_X7_72) (fun _ h9 => h9) rfl (by decide +kernel) rfl rfl (Nat.le_of_ble_eq_true rfl) dX7_clear_12 (fun H locs hP hD hS => ?_)
  have hP : va_P D classes (jn [mcells cI cZ ad 0 (sI (sI (sI S0 2 0) 3 0) 4 0)]) H := ms_i4 (Φ := fun w => va_P D classes w H) (S := (sI (sI S0 2 0) 3 0)) (v := 0) hP
  have hD : va_D (cOf (jn [mcells cI cZ ad 0 S0])) (jn [mcells cI cZ ad 0 (sI (sI (sI S0 2 0) 3 0) 4 0)]) := ms_i4 (Φ := fun w => va_D (cOf (jn [mcells cI cZ ad 0 S0])) w) (S := (sI (sI S0 2 0) 3 0)) (v := 0) hD
  refine lv_aload_n hx hb dX7_clear_15 rfl (lv_at hl 0 rfl) ?_
  refine lv_iconst (v := 0) hx hb dX7_clear_16 (by decide) ?_
  refine va_put (D := D) (ci := 7) (v := .int 0) (ty := .int) (C := RX7) (T := TX7) (N := 27) hx hb hW inW_X7 tyX7 tyX7_ok nmX7 hown hK hP hD hS 0 rfl rfl 10 (by decide) (hW _ fl_X7_75) (fun _ h9 => h9) rfl (by decide +kernel) rfl rfl (Nat.le_of_ble_eq_true rfl) dX7_clear_17 (fun H locs hP hD hS => ?_)
  have hP : va_P D classes (jn [mcells cI cZ ad 0 (sI (sI (sI (sI S0 2 0) 3 0) 4 0) 10 0)]) H := ms_i10 (Φ := fun w => va_P D classes w H) (S := (sI (sI (sI S0 2 0) 3 0) 4 0)) (v := 0) hP
  have hD : va_D (cOf (jn [mcells cI cZ ad 0 S0])) (jn [mcells cI cZ ad 0 (sI (sI (sI (sI S0 2 0) 3 0) 4 0) 10 0)]) := ms_i10 (Φ := fun w => va_D (cOf (jn [mcells cI cZ ad 0 S0])) w) (S := (sI (sI (sI S0 2 0) 3 0) 4 0)) (v := 0) hD
  refine lv_iconst (v := 0) hx hb dX7_clear_20 (by decide) ?_
  refine lv_istore_n (lv' := [(1, .int 0), (0, .ref (ad 0))]) hx hb dX7_clear_21 rfl hl (by decide) rfl (fun ls hl => ?_)
  obtain ⟨N15, hw⟩ := hw
  refine L22  _ (fun Z13 H locs hP hD hS ls hl hw => ?_) N15 0 (sI (sI (sI (sI S0 2 0) 3 0) 4 0) 10 0) _ _ hP hD hS _ (lv_sub hl [1, 0] rfl) hw
  exact W.vret hx hb hr (fun t ht _ => ⟨⟨_, (Z13), rfl, ⟨rfl, hw⟩, by rw [ht]; exact hP⟩, hS.F ht⟩) hS.2.2 dX7_clear_89
set_option maxHeartbeats 4000000 in
set_option maxRecDepth 100000 in
theorem c_X7_in (l : Launch) (D : va_G) (cI cZ : ClassId) (x0 : Int32) (x1 : Int32) (x2 : Int32) (r9 : Int32) (hw : F_X7_in x0 x1 x2 = r9) : KF l yX7_in cX7_in 3 (some .boolean) 0 0 D cI cZ [.int x0, .int x1, .int x2] [] (some (.int r9)) := by
  refine Met.ofE (by decide +kernel) (Nat.le_of_ble_eq_true rfl) ?_
  intro p e s m below meth c E ls hl
  obtain ⟨hx, hb, hr, hml, hW, hown, hlocks, hP, hK, hD, hN⟩ := E
  have hl : lv_has ls 3 [(0, .int x0), (1, .int x1), (2, .int x2)] := hl
  have hw : (if x0 < x1 then 0 else (if x2 < x0 then 0 else 1)) = r9 := hw
  refine lv_iload_n hx hb dX7_in_0 rfl (lv_at hl 0 rfl) ?_
  refine lv_iload_n hx hb dX7_in_1 rfl (lv_at hl 1 rfl) ?_
  refine lv_icmp_lt (tgt := 14) hx hb dX7_in_2 (by decide) (fun c1 => ?_) (fun c1 => ?_)
  · have hw := (if_pos c1).symm.trans hw
    refine lv_iconst (v := 0) hx hb dX7_in_14 (by decide) ?_
    subst hw
    exact W.zret (v := 0) hx hb hr rfl (fun t ht _ => ⟨rfl, ht⟩) (fun _ h => by cases h) dX7_in_15
  · have hw := (if_neg c1).symm.trans hw
    refine lv_iload_n hx hb dX7_in_5 rfl (lv_at hl 0 rfl) ?_
    refine lv_iload_n hx hb dX7_in_6 rfl (lv_at hl 2 rfl) ?_
    refine lv_icmp_gt (tgt := 14) hx hb dX7_in_7 (by decide) (fun c2 => ?_) (fun c2 => ?_)
    · have hw := (if_pos c2).symm.trans hw
      refine lv_iconst (v := 0) hx hb dX7_in_14 (by decide) ?_
      subst hw
      exact W.zret (v := 0) hx hb hr rfl (fun t ht _ => ⟨rfl, ht⟩) (fun _ h => by cases h) dX7_in_15
    · have hw := (if_neg c2).symm.trans hw
      refine lv_iconst (v := 1) hx hb dX7_in_10 (by decide) ?_
      refine lv_goto (tgt := 15) hx hb dX7_in_11 (by decide) ?_
      subst hw
      exact W.zret (v := 1) hx hb hr rfl (fun t ht _ => ⟨rfl, ht⟩) (fun _ h => by cases h) dX7_in_15
set_option maxHeartbeats 4000000 in
set_option maxRecDepth 100000 in
theorem c_X7_has (l : Launch) (D : va_G) (cI cZ : ClassId) (x0 : Int32) (x1 : Int32) (r9 : Int32) (hw : F_X7_has x0 x1 = r9) : KF l yX7_has cX7_has 2 (some .boolean) 0 0 D cI cZ [.int x0, .int x1] [] (some (.int r9)) := by
  refine Met.ofE (by decide +kernel) (Nat.le_of_ble_eq_true rfl) ?_
  intro p e s m below meth c E ls hl
  obtain ⟨hx, hb, hr, hml, hW, hown, hlocks, hP, hK, hD, hN⟩ := E
  have hl : lv_has ls 2 [(0, .int x0), (1, .int x1)] := hl
  have hw : (if ((x0 >>> (x1 &&& 31)) &&& 1) = 1 then 1 else 0) = r9 := hw
  refine lv_iload_n hx hb dX7_has_0 rfl (lv_at hl 0 rfl) ?_
  refine lv_iload_n hx hb dX7_has_1 rfl (lv_at hl 1 rfl) ?_
  refine lv_ishr hx hb dX7_has_2 ?_
  refine lv_iconst (v := 1) hx hb dX7_has_3 (by decide) ?_
  refine lv_iand hx hb dX7_has_4 ?_
  refine lv_iconst (v := 1) hx hb dX7_has_5 (by decide) ?_
  refine lv_icmp_ne (tgt := 13) hx hb dX7_has_6 (by decide) (fun c1 => ?_) (fun c1 => ?_)
  · have hw := (if_neg c1).symm.trans hw
    refine lv_iconst (v := 0) hx hb dX7_has_13 (by decide) ?_
    subst hw
    exact W.zret (v := 0) hx hb hr rfl (fun t ht _ => ⟨rfl, ht⟩) (fun _ h => by cases h) dX7_has_14
  · have hw := (if_pos c1).symm.trans hw
    refine lv_iconst (v := 1) hx hb dX7_has_9 (by decide) ?_
    refine lv_goto (tgt := 14) hx hb dX7_has_10 (by decide) ?_
    subst hw
    exact W.zret (v := 1) hx hb hr rfl (fun t ht _ => ⟨rfl, ht⟩) (fun _ h => by cases h) dX7_has_14
set_option maxHeartbeats 4000000 in
set_option maxRecDepth 100000 in
theorem c_X7_isOne (l : Launch) (D : va_G) (cI cZ : ClassId) (ad : Nat → Nat) (S0 : St) (x1 : Int32) (r9 : Int32) (hw : F_X7_isOne S0 x1 = r9) : KF l yX7_isOne cX7_isOne 2 (some .boolean) 1 22 D cI cZ [.ref (ad 0), .int x1] [mcells cI cZ ad 0 S0] (some (.int r9)) := by
  refine Met.ofE (by decide +kernel) (Nat.le_of_ble_eq_true rfl) ?_
  intro p e s m below meth c E ls hl
  obtain ⟨hx, hb, hr, hml, hW, hown, hlocks, hP, hK, hD, hN⟩ := E
  have hl : lv_has ls 2 [(0, .ref (ad 0)), (1, .int x1)] := hl
  have hw : (F_X7_in x1 0 ((S0.1 0) - 1)) = r9 := hw
  refine lv_iload_n hx hb dX7_isOne_0 rfl (lv_at hl 1 rfl) ?_
  refine lv_iconst (v := 0) hx hb dX7_isOne_1 (by decide) ?_
  refine lv_aload_n hx hb dX7_isOne_2 rfl (lv_at hl 0 rfl) ?_
  refine va_get (D := D) (ci := 7) (v := .int (S0.1 0)) (C := RX7) (T := TX7) (N := 27) hx hb hW inW_X7 hown hK hP 0 rfl rfl 0 (by decide) (hW _ fl_X7_7) (fun _ h9 => h9) rfl dX7_isOne_3 ?_
  refine lv_iconst (v := 1) hx hb dX7_isOne_6 (by decide) ?_
  refine lv_isub hx hb dX7_isOne_7 ?_
  refine callF (va_runS (As := [.int x1, .int 0, .int ((S0.1 0) - 1)]) (rest := []) ⟨hx, hb, hml, hown, hW⟩ (c_X7_in l D cI cZ x1 0 ((S0.1 0) - 1) _ rfl) (cwS0 hW mS_X7_in ml_X7_78 ⟨Nat.le_of_ble_eq_true rfl, Nat.le_of_ble_eq_true rfl⟩) (preS0 hK hN hP hD [] rfl rfl) rfl rfl hl.1 rfl (lv_room (Nat.le_of_ble_eq_true rfl)) dX7_isOne_8 ⟨Nat.le_refl _, Nat.le_refl _⟩) ?_
  refine W.eq (g2 := F0 m 11 ls [.int (F_X7_in x1 0 ((S0.1 0) - 1))]) rfl ?_
  subst hw
  exact W.zret (v := (F_X7_in x1 0 ((S0.1 0) - 1))) hx hb hr (nb_of (z_X7_in x1 0 ((S0.1 0) - 1))) (fun t ht _ => ⟨rfl, ht⟩) (fun _ h => by cases h) dX7_isOne_11
set_option maxHeartbeats 4000000 in
set_option maxRecDepth 100000 in
theorem c_X7_areTwo (l : Launch) (D : va_G) (cI cZ : ClassId) (ad : Nat → Nat) (S0 : St) (x1 : Int32) (x2 : Int32) (r9 : Int32) (hw : F_X7_areTwo S0 x1 x2 = r9) : KF l yX7_areTwo cX7_areTwo 3 (some .boolean) 2 43 D cI cZ [.ref (ad 0), .int x1, .int x2] [mcells cI cZ ad 0 S0] (some (.int r9)) := by
  refine Met.ofE (by decide +kernel) (Nat.le_of_ble_eq_true rfl) ?_
  intro p e s m below meth c E ls hl
  obtain ⟨hx, hb, hr, hml, hW, hown, hlocks, hP, hK, hD, hN⟩ := E
  have hl : lv_has ls 3 [(0, .ref (ad 0)), (1, .int x1), (2, .int x2)] := hl
  have hw : (if (F_X7_isOne S0 x1) = 0 then 0 else (if (F_X7_isOne S0 x2) = 0 then 0 else (if x1 = x2 then 0 else 1))) = r9 := hw
  refine lv_aload_n hx hb dX7_areTwo_0 rfl (lv_at hl 0 rfl) ?_
  refine lv_iload_n hx hb dX7_areTwo_1 rfl (lv_at hl 1 rfl) ?_
  refine callF (va_runV (As := [.int x1]) (rest := []) ⟨hx, hb, hml, hown, hW⟩ (c_X7_isOne l D cI cZ ad  S0 x1 _ rfl) (cwV0 hW mV_X7_isOne ml_X7_82 ⟨Nat.le_of_ble_eq_true rfl, Nat.le_of_ble_eq_true rfl⟩) (preV0 0 rfl rfl hK hN hP hD [0] rfl rfl) rfl rfl hl.1 rfl (lv_room (Nat.le_of_ble_eq_true rfl)) dX7_areTwo_2 ⟨Nat.le_refl _, Nat.le_refl _⟩) ?_
  refine W.eq (g2 := F0 m 5 ls [.int (F_X7_isOne S0 x1)]) rfl ?_
  refine lv_if_eq (tgt := 25) hx hb dX7_areTwo_5 (by decide) (fun c1 => ?_) (fun c1 => ?_)
  · have hw := (if_pos c1).symm.trans hw
    refine lv_iconst (v := 0) hx hb dX7_areTwo_25 (by decide) ?_
    subst hw
    exact W.zret (v := 0) hx hb hr rfl (fun t ht _ => ⟨rfl, ht⟩) (fun _ h => by cases h) dX7_areTwo_26
  · have hw := (if_neg c1).symm.trans hw
    refine lv_aload_n hx hb dX7_areTwo_8 rfl (lv_at hl 0 rfl) ?_
    refine lv_iload_n hx hb dX7_areTwo_9 rfl (lv_at hl 2 rfl) ?_
    refine callF (va_runV (As := [.int x2]) (rest := []) ⟨hx, hb, hml, hown, hW⟩ (c_X7_isOne l D cI cZ ad  S0 x2 _ rfl) (cwV0 hW mV_X7_isOne ml_X7_82 ⟨Nat.le_of_ble_eq_true rfl, Nat.le_of_ble_eq_true rfl⟩) (preV0 0 rfl rfl hK hN hP hD [0] rfl rfl) rfl rfl hl.1 rfl (lv_room (Nat.le_of_ble_eq_true rfl)) dX7_areTwo_10 ⟨Nat.le_refl _, Nat.le_refl _⟩) ?_
    refine W.eq (g2 := F0 m 13 ls [.int (F_X7_isOne S0 x2)]) rfl ?_
    refine lv_if_eq (tgt := 25) hx hb dX7_areTwo_13 (by decide) (fun c2 => ?_) (fun c2 => ?_)
    · have hw := (if_pos c2).symm.trans hw
      refine lv_iconst (v := 0) hx hb dX7_areTwo_25 (by decide) ?_
      subst hw
      exact W.zret (v := 0) hx hb hr rfl (fun t ht _ => ⟨rfl, ht⟩) (fun _ h => by cases h) dX7_areTwo_26
    · have hw := (if_neg c2).symm.trans hw
      refine lv_iload_n hx hb dX7_areTwo_16 rfl (lv_at hl 1 rfl) ?_
      refine lv_iload_n hx hb dX7_areTwo_17 rfl (lv_at hl 2 rfl) ?_
      refine lv_icmp_eq (tgt := 25) hx hb dX7_areTwo_18 (by decide) (fun c3 => ?_) (fun c3 => ?_)
      · have hw := (if_pos c3).symm.trans hw
        refine lv_iconst (v := 0) hx hb dX7_areTwo_25 (by decide) ?_
        subst hw
        exact W.zret (v := 0) hx hb hr rfl (fun t ht _ => ⟨rfl, ht⟩) (fun _ h => by cases h) dX7_areTwo_26
      · have hw := (if_neg c3).symm.trans hw
        refine lv_iconst (v := 1) hx hb dX7_areTwo_21 (by decide) ?_
        refine lv_goto (tgt := 26) hx hb dX7_areTwo_22 (by decide) ?_
        subst hw
        exact W.zret (v := 1) hx hb hr rfl (fun t ht _ => ⟨rfl, ht⟩) (fun _ h => by cases h) dX7_areTwo_26
set_option maxHeartbeats 4000000 in
set_option maxRecDepth 100000 in
theorem c_X7_lands (l : Launch) (D : va_G) (cI cZ : ClassId) (ad : Nat → Nat) (S0 : St) (x1 : Int32) (k : Int32 → St → Prop) (hw : wp_X7_lands S0 x1 k) : KW l yX7_lands cX7_lands 3 (some .int) 1 22 D cI cZ [.ref (ad 0), .int x1] [mcells cI cZ ad 0 S0] (fun v (u : St) => ∃ r, v = some (.int r) ∧ k r u) (fun u : St => [mcells cI cZ ad 0 u]) := by
  refine Met.ofE (by decide +kernel) (Nat.le_of_ble_eq_true rfl) ?_
  intro p e s m below meth c E ls hl
  obtain ⟨hx, hb, hr, hml, hW, hown, hlocks, hP, hK, hD, hN⟩ := E
  have hl : lv_has ls 3 [(0, .ref (ad 0)), (1, .int x1)] := hl
  have hS : va_S (cOf (jn [mcells cI cZ ad 0 S0])) s.heap s.heap [] := va_S.rf
  have hw : (if (F_X7_in x1 3 6) = 0 then (k (-2) S0) else (wp_X7_clear (sI S0 0 x1) (fun (Z2 : St) => (k (S0.1 0) Z2)))) := hw
  refine lv_iload_n hx hb dX7_lands_0 rfl (lv_at hl 1 rfl) ?_
  refine lv_iconst (v := 3) hx hb dX7_lands_1 (by decide) ?_
  refine lv_bipush (v := 6) hx hb dX7_lands_2 (by decide) ?_
  refine callF (va_runS (As := [.int x1, .int 3, .int 6]) (rest := []) ⟨hx, hb, hml, hown, hW⟩ (c_X7_in l D cI cZ x1 3 6 _ rfl) (cwS0 hW mS_X7_in ml_X7_78 ⟨Nat.le_of_ble_eq_true rfl, Nat.le_of_ble_eq_true rfl⟩) (preS0 hK hN hP hD [] rfl rfl) rfl rfl hl.1 rfl (lv_room (Nat.le_of_ble_eq_true rfl)) dX7_lands_4 ⟨Nat.le_refl _, Nat.le_refl _⟩) ?_
  refine W.eq (g2 := F0 m 7 ls [.int (F_X7_in x1 3 6)]) rfl ?_
  refine lv_if_ne (tgt := 13) hx hb dX7_lands_7 (by decide) (fun c1 => ?_) (fun c1 => ?_)
  · have hw := Eq.mp (if_neg c1) hw
    refine lv_aload_n hx hb dX7_lands_13 rfl (lv_at hl 0 rfl) ?_
    refine va_get (D := D) (ci := 7) (v := .int (S0.1 0)) (C := RX7) (T := TX7) (N := 27) hx hb hW inW_X7 hown hK hP 0 rfl rfl 0 (by decide) (hW _ fl_X7_7) (fun _ h9 => h9) rfl dX7_lands_14 ?_
    refine lv_istore_n (lv' := [(2, .int (S0.1 0)), (0, .ref (ad 0)), (1, .int x1)]) hx hb dX7_lands_17 rfl hl (by decide) rfl (fun ls hl => ?_)
    refine lv_aload_n hx hb dX7_lands_18 rfl (lv_at hl 1 rfl) ?_
    refine lv_iload_n hx hb dX7_lands_19 rfl (lv_at hl 2 rfl) ?_
    refine va_put (D := D) (ci := 7) (v := .int x1) (ty := .int) (C := RX7) (T := TX7) (N := 27) hx hb hW inW_X7 tyX7 tyX7_ok nmX7 hown hK hP hD hS 0 rfl rfl 0 (by decide) (hW _ fl_X7_7) (fun _ h9 => h9) rfl (by decide +kernel) rfl rfl (Nat.le_of_ble_eq_true rfl) dX7_lands_20 (fun H locs hP hD hS => ?_)
    have hP : va_P D classes (jn [mcells cI cZ ad 0 (sI S0 0 x1)]) H := ms_i0 (Φ := fun w => va_P D classes w H) (S := S0) (v := x1) hP
    have hD : va_D (cOf (jn [mcells cI cZ ad 0 S0])) (jn [mcells cI cZ ad 0 (sI S0 0 x1)]) := ms_i0 (Φ := fun w => va_D (cOf (jn [mcells cI cZ ad 0 S0])) w) (S := S0) (v := x1) hD
    refine lv_aload_n hx hb dX7_lands_23 rfl (lv_at hl 1 rfl) ?_
    refine callW (va_runV (As := []) (rest := []) ⟨hx, hb, hml, hown, hW⟩ (c_X7_clear l D cI cZ ad  (sI S0 0 x1) _ hw) (cwV0 hW mV_X7_clear ml_X7_63 ⟨Nat.le_of_ble_eq_true rfl, Nat.le_of_ble_eq_true rfl⟩) (preV0 0 rfl rfl hK hN hP hD [0] rfl rfl) rfl rfl hl.1 rfl (lv_room (Nat.le_of_ble_eq_true rfl)) dX7_lands_24 ⟨Nat.le_refl _, Nat.le_refl _⟩) hP hD hS [0] rfl rfl (fun _ => rfl) (fun v9 u9 H locs hq hP hD hS => ?_)
    obtain ⟨rfl, hw⟩ := hq
    obtain ⟨Z2, rfl⟩ : ∃ z, z = u9 := ⟨_, rfl⟩
    have hP : va_P D classes (jn [mcells cI cZ ad 0 Z2]) H := hP
    have hD : va_D (cOf (jn [mcells cI cZ ad 0 S0])) (jn [mcells cI cZ ad 0 Z2]) := hD
    refine W.eq (g2 := F0 m 27 ls []) rfl ?_
    refine lv_iload_n hx hb dX7_lands_27 rfl (lv_at hl 0 rfl) ?_
    exact W.iret (v := (S0.1 0)) hx hb hr (fun t ht _ => ⟨⟨_, (Z2), rfl, ⟨_, rfl, hw⟩, by rw [ht]; exact hP⟩, hS.F ht⟩) hS.2.2 dX7_lands_28
  · have hw := Eq.mp (if_pos c1) hw
    refine lv_bipush (v := (-2)) hx hb dX7_lands_10 (by decide) ?_
    exact W.iret (v := (-2)) hx hb hr (fun t ht _ => ⟨⟨_, (S0), rfl, ⟨_, rfl, hw⟩, by rw [ht]; exact hP⟩, hS.F ht⟩) hS.2.2 dX7_lands_12
set_option maxHeartbeats 4000000 in
set_option maxRecDepth 100000 in
theorem c_X7_season (l : Launch) (D : va_G) (cI cZ : ClassId) (ad : Nat → Nat) (S0 : St) (x1 : Int32) (k : Int32 → St → Prop) (hw : wp_X7_season S0 x1 k) : KW l yX7_season cX7_season 3 (some .int) 1 22 D cI cZ [.ref (ad 0), .int x1] [mcells cI cZ ad 0 S0] (fun v (u : St) => ∃ r, v = some (.int r) ∧ k r u) (fun u : St => [mcells cI cZ ad 0 u]) := by
  refine Met.ofE (by decide +kernel) (Nat.le_of_ble_eq_true rfl) ?_
  intro p e s m below meth c E ls hl
  obtain ⟨hx, hb, hr, hml, hW, hown, hlocks, hP, hK, hD, hN⟩ := E
  have hl : lv_has ls 3 [(0, .ref (ad 0)), (1, .int x1)] := hl
  have hS : va_S (cOf (jn [mcells cI cZ ad 0 S0])) s.heap s.heap [] := va_S.rf
  have hw : (if (F_X7_in x1 1 99) = 0 then (k (-2) S0) else (if (S0.1 4) = 0 then (k (S0.1 1) (sI S0 1 x1)) else (k (-3) S0))) := hw
  refine lv_iload_n hx hb dX7_season_0 rfl (lv_at hl 1 rfl) ?_
  refine lv_iconst (v := 1) hx hb dX7_season_1 (by decide) ?_
  refine lv_bipush (v := 99) hx hb dX7_season_2 (by decide) ?_
  refine callF (va_runS (As := [.int x1, .int 1, .int 99]) (rest := []) ⟨hx, hb, hml, hown, hW⟩ (c_X7_in l D cI cZ x1 1 99 _ rfl) (cwS0 hW mS_X7_in ml_X7_78 ⟨Nat.le_of_ble_eq_true rfl, Nat.le_of_ble_eq_true rfl⟩) (preS0 hK hN hP hD [] rfl rfl) rfl rfl hl.1 rfl (lv_room (Nat.le_of_ble_eq_true rfl)) dX7_season_4 ⟨Nat.le_refl _, Nat.le_refl _⟩) ?_
  refine W.eq (g2 := F0 m 7 ls [.int (F_X7_in x1 1 99)]) rfl ?_
  refine lv_if_ne (tgt := 13) hx hb dX7_season_7 (by decide) (fun c1 => ?_) (fun c1 => ?_)
  · have hw := Eq.mp (if_neg c1) hw
    refine lv_aload_n hx hb dX7_season_13 rfl (lv_at hl 0 rfl) ?_
    refine va_get (D := D) (ci := 7) (v := .int (S0.1 4)) (C := RX7) (T := TX7) (N := 27) hx hb hW inW_X7 hown hK hP 0 rfl rfl 4 (by decide) (hW _ fl_X7_72) (fun _ h9 => h9) rfl dX7_season_14 ?_
    refine lv_if_eq (tgt := 23) hx hb dX7_season_17 (by decide) (fun c2 => ?_) (fun c2 => ?_)
    · have hw := Eq.mp (if_pos c2) hw
      refine lv_aload_n hx hb dX7_season_23 rfl (lv_at hl 0 rfl) ?_
      refine va_get (D := D) (ci := 7) (v := .int (S0.1 1)) (C := RX7) (T := TX7) (N := 27) hx hb hW inW_X7 hown hK hP 0 rfl rfl 1 (by decide) (hW _ fl_X7_13) (fun _ h9 => h9) rfl dX7_season_24 ?_
      refine lv_istore_n (lv' := [(2, .int (S0.1 1)), (0, .ref (ad 0)), (1, .int x1)]) hx hb dX7_season_27 rfl hl (by decide) rfl (fun ls hl => ?_)
      refine lv_aload_n hx hb dX7_season_28 rfl (lv_at hl 1 rfl) ?_
      refine lv_iload_n hx hb dX7_season_29 rfl (lv_at hl 2 rfl) ?_
      refine va_put (D := D) (ci := 7) (v := .int x1) (ty := .int) (C := RX7) (T := TX7) (N := 27) hx hb hW inW_X7 tyX7 tyX7_ok nmX7 hown hK hP hD hS 0 rfl rfl 1 (by decide) (hW _ fl_X7_13) (fun _ h9 => h9) rfl (by decide +kernel) rfl rfl (Nat.le_of_ble_eq_true rfl) dX7_season_30 (fun H locs hP hD hS => ?_)
      have hP : va_P D classes (jn [mcells cI cZ ad 0 (sI S0 1 x1)]) H := ms_i1 (Φ := fun w => va_P D classes w H) (S := S0) (v := x1) hP
      have hD : va_D (cOf (jn [mcells cI cZ ad 0 S0])) (jn [mcells cI cZ ad 0 (sI S0 1 x1)]) := ms_i1 (Φ := fun w => va_D (cOf (jn [mcells cI cZ ad 0 S0])) w) (S := S0) (v := x1) hD
      refine lv_iload_n hx hb dX7_season_33 rfl (lv_at hl 0 rfl) ?_
      exact W.iret (v := (S0.1 1)) hx hb hr (fun t ht _ => ⟨⟨_, ((sI S0 1 x1)), rfl, ⟨_, rfl, hw⟩, by rw [ht]; exact hP⟩, hS.F ht⟩) hS.2.2 dX7_season_34
    · have hw := Eq.mp (if_neg c2) hw
      refine lv_bipush (v := (-3)) hx hb dX7_season_20 (by decide) ?_
      exact W.iret (v := (-3)) hx hb hr (fun t ht _ => ⟨⟨_, (S0), rfl, ⟨_, rfl, hw⟩, by rw [ht]; exact hP⟩, hS.F ht⟩) hS.2.2 dX7_season_22
  · have hw := Eq.mp (if_pos c1) hw
    refine lv_bipush (v := (-2)) hx hb dX7_season_10 (by decide) ?_
    exact W.iret (v := (-2)) hx hb hr (fun t ht _ => ⟨⟨_, (S0), rfl, ⟨_, rfl, hw⟩, by rw [ht]; exact hP⟩, hS.F ht⟩) hS.2.2 dX7_season_12
set_option maxHeartbeats 4000000 in
set_option maxRecDepth 100000 in
theorem c_X7_set (l : Launch) (D : va_G) (cI cZ : ClassId) (ad : Nat → Nat) (S0 : St) (x1 : Int32) (x2 : Int32) (x3 : Int32) (k : Int32 → St → Prop) (hw : wp_X7_set S0 x1 x2 x3 k) : KW l yX7_set cX7_set 5 (some .int) 2 43 D cI cZ [.ref (ad 0), .int x1, .int x2, .int x3] [mcells cI cZ ad 0 S0] (fun v (u : St) => ∃ r, v = some (.int r) ∧ k r u) (fun u : St => [mcells cI cZ ad 0 u]) := by
  refine Met.ofE (by decide +kernel) (Nat.le_of_ble_eq_true rfl) ?_
  intro p e s m below meth c E ls hl
  obtain ⟨hx, hb, hr, hml, hW, hown, hlocks, hP, hK, hD, hN⟩ := E
  have hl : lv_has ls 5 [(0, .ref (ad 0)), (1, .int x1), (2, .int x2), (3, .int x3)] := hl
  have hS : va_S (cOf (jn [mcells cI cZ ad 0 S0])) s.heap s.heap [] := va_S.rf
  have hw : (if (F_X7_isOne S0 x1) = 0 then (k (-1) S0) else (if (F_X7_in x2 0 1) = 0 then (k (-2) S0) else (if x2 = 0 then (if (F_X7_in x3 0 9) = 0 then (k (-2) S0) else (vp_in x1 6 ∧ (vp_in x1 6 ∧ (if x2 = 1 then (vp_in x1 6 ∧ (k ((S0.2 8) (x1 : Int32).toNatClampNeg) (sA (sA S0 8 (upd (S0.2 8) (x1 : Int32).toNatClampNeg x3)) 9 (upd (S0.2 9) (x1 : Int32).toNatClampNeg x3)))) else (vp_in x1 6 ∧ (vp_in x1 6 ∧ (k ((S0.2 8) (x1 : Int32).toNatClampNeg) (sA (sA S0 8 (upd (S0.2 8) (x1 : Int32).toNatClampNeg x3)) 9 (upd (S0.2 9) (x1 : Int32).toNatClampNeg ((S0.2 9) (x1 : Int32).toNatClampNeg)))))))))) else (if (F_X7_in x3 0 1) = 0 then (k (-2) S0) else (vp_in x1 6 ∧ (vp_in x1 6 ∧ (vp_in x1 6 ∧ (if x2 = 1 then (vp_in x1 6 ∧ (k ((S0.2 9) (x1 : Int32).toNatClampNeg) (sA (sA S0 8 (upd (S0.2 8) (x1 : Int32).toNatClampNeg ((S0.2 8) (x1 : Int32).toNatClampNeg))) 9 (upd (S0.2 9) (x1 : Int32).toNatClampNeg x3)))) else (vp_in x1 6 ∧ (vp_in x1 6 ∧ (k ((S0.2 9) (x1 : Int32).toNatClampNeg) (sA (sA S0 8 (upd (S0.2 8) (x1 : Int32).toNatClampNeg ((S0.2 8) (x1 : Int32).toNatClampNeg))) 9 (upd (S0.2 9) (x1 : Int32).toNatClampNeg ((S0.2 9) (x1 : Int32).toNatClampNeg)))))))))))))) := hw
  refine lv_aload_n hx hb dX7_set_0 rfl (lv_at hl 0 rfl) ?_
  refine lv_iload_n hx hb dX7_set_1 rfl (lv_at hl 1 rfl) ?_
  refine callF (va_runV (As := [.int x1]) (rest := []) ⟨hx, hb, hml, hown, hW⟩ (c_X7_isOne l D cI cZ ad  S0 x1 _ rfl) (cwV0 hW mV_X7_isOne ml_X7_82 ⟨Nat.le_of_ble_eq_true rfl, Nat.le_of_ble_eq_true rfl⟩) (preV0 0 rfl rfl hK hN hP hD [0] rfl rfl) rfl rfl hl.1 rfl (lv_room (Nat.le_of_ble_eq_true rfl)) dX7_set_2 ⟨Nat.le_refl _, Nat.le_refl _⟩) ?_
  refine W.eq (g2 := F0 m 5 ls [.int (F_X7_isOne S0 x1)]) rfl ?_
  refine lv_if_ne (tgt := 10) hx hb dX7_set_5 (by decide) (fun c1 => ?_) (fun c1 => ?_)
  · have hw := Eq.mp (if_neg c1) hw
    refine lv_iload_n hx hb dX7_set_10 rfl (lv_at hl 2 rfl) ?_
    refine lv_iconst (v := 0) hx hb dX7_set_11 (by decide) ?_
    refine lv_iconst (v := 1) hx hb dX7_set_12 (by decide) ?_
    refine callF (va_runS (As := [.int x2, .int 0, .int 1]) (rest := []) ⟨hx, hb, hml, hown, hW⟩ (c_X7_in l D cI cZ x2 0 1 _ rfl) (cwS0 hW mS_X7_in ml_X7_78 ⟨Nat.le_of_ble_eq_true rfl, Nat.le_of_ble_eq_true rfl⟩) (preS0 hK hN hP hD [] rfl rfl) rfl rfl hl.1 rfl (lv_room (Nat.le_of_ble_eq_true rfl)) dX7_set_13 ⟨Nat.le_refl _, Nat.le_refl _⟩) ?_
    refine W.eq (g2 := F0 m 16 ls [.int (F_X7_in x2 0 1)]) rfl ?_
    refine lv_if_eq (tgt := 37) hx hb dX7_set_16 (by decide) (fun c2 => ?_) (fun c2 => ?_)
    · have hw := Eq.mp (if_pos c2) hw
      refine lv_bipush (v := (-2)) hx hb dX7_set_37 (by decide) ?_
      exact W.iret (v := (-2)) hx hb hr (fun t ht _ => ⟨⟨_, (S0), rfl, ⟨_, rfl, hw⟩, by rw [ht]; exact hP⟩, hS.F ht⟩) hS.2.2 dX7_set_39
    · have hw := Eq.mp (if_neg c2) hw
      refine lv_iload_n hx hb dX7_set_19 rfl (lv_at hl 3 rfl) ?_
      refine lv_iconst (v := 0) hx hb dX7_set_20 (by decide) ?_
      refine lv_iload_n hx hb dX7_set_21 rfl (lv_at hl 2 rfl) ?_
      refine lv_if_ne (tgt := 30) hx hb dX7_set_22 (by decide) (fun c3 => ?_) (fun c3 => ?_)
      · have hw := Eq.mp (if_neg c3) hw
        refine lv_iconst (v := 1) hx hb dX7_set_30 (by decide) ?_
        refine callF (va_runS (As := [.int x3, .int 0, .int 1]) (rest := []) ⟨hx, hb, hml, hown, hW⟩ (c_X7_in l D cI cZ x3 0 1 _ rfl) (cwS0 hW mS_X7_in ml_X7_78 ⟨Nat.le_of_ble_eq_true rfl, Nat.le_of_ble_eq_true rfl⟩) (preS0 hK hN hP hD [] rfl rfl) rfl rfl hl.1 rfl (lv_room (Nat.le_of_ble_eq_true rfl)) dX7_set_31 ⟨Nat.le_refl _, Nat.le_refl _⟩) ?_
        refine W.eq (g2 := F0 m 34 ls [.int (F_X7_in x3 0 1)]) rfl ?_
        refine lv_if_ne (tgt := 40) hx hb dX7_set_34 (by decide) (fun c9 => ?_) (fun c9 => ?_)
        · have hw := Eq.mp (if_neg c9) hw
          refine lv_iload_n hx hb dX7_set_40 rfl (lv_at hl 2 rfl) ?_
          refine lv_if_ne (tgt := 53) hx hb dX7_set_41 (by decide) (fun _ => ?_) (fun c9 => absurd c9 c3)
          refine lv_aload_n hx hb dX7_set_53 rfl (lv_at hl 0 rfl) ?_
          refine va_get (D := D) (ci := 7) (v := .ref (ad (0 + 5))) (C := RX7) (T := TX7) (N := 27) hx hb hW inW_X7 hown hK hP 0 rfl rfl 9 (by decide) (hW _ fl_X7_29) (fun _ h9 => h9) rfl dX7_set_54 ?_
          refine lv_iload_n hx hb dX7_set_57 rfl (lv_at hl 1 rfl) ?_
          refine va_iald (f := (S0.2 9)) hx hb hK hP 5 0 rfl rfl hw.1 dX7_set_58 ?_
          have hw := hw.2
          refine lv_istore (lv' := [(4, .int ((S0.2 9) (x1 : Int32).toNatClampNeg)), (0, .ref (ad 0)), (1, .int x1), (2, .int x2), (3, .int x3)]) hx hb dX7_set_59 hl (by decide) rfl (fun ls hl => ?_)
          refine lv_aload_n hx hb dX7_set_61 rfl (lv_at hl 1 rfl) ?_
          refine va_get (D := D) (ci := 7) (v := .ref (ad (0 + 4))) (C := RX7) (T := TX7) (N := 27) hx hb hW inW_X7 hown hK hP 0 rfl rfl 8 (by decide) (hW _ fl_X7_26) (fun _ h9 => h9) rfl dX7_set_62 ?_
          refine lv_iload_n hx hb dX7_set_65 rfl (lv_at hl 2 rfl) ?_
          refine lv_iload_n hx hb dX7_set_66 rfl (lv_at hl 3 rfl) ?_
          refine lv_if_ne (tgt := 74) hx hb dX7_set_67 (by decide) (fun _ => ?_) (fun c9 => absurd c9 c3)
          refine lv_aload_n hx hb dX7_set_74 rfl (lv_at hl 1 rfl) ?_
          refine va_get (D := D) (ci := 7) (v := .ref (ad (0 + 4))) (C := RX7) (T := TX7) (N := 27) hx hb hW inW_X7 hown hK hP 0 rfl rfl 8 (by decide) (hW _ fl_X7_26) (fun _ h9 => h9) rfl dX7_set_75 ?_
          refine lv_iload_n hx hb dX7_set_78 rfl (lv_at hl 2 rfl) ?_
          refine va_iald (f := (S0.2 8)) hx hb hK hP 4 0 rfl rfl hw.1 dX7_set_79 ?_
          have hw := hw.2
          refine va_iast (f := (S0.2 8)) hx hb hK hP hD hS 4 0 rfl rfl hw.1 dX7_set_80 (fun H locs hP hD hS => ?_)
          have hw := hw.2
          revert hw; revert hD; revert hP
          generalize (upd (S0.2 8) (x1 : Int32).toNatClampNeg ((S0.2 8) (x1 : Int32).toNatClampNeg)) = Z10
          intro hP hD hw
          have hP : va_P D classes (jn [mcells cI cZ ad 0 (sA S0 8 Z10)]) H := ms_a8 (Φ := fun w => va_P D classes w H) (S := S0) (v := Z10) hP
          have hD : va_D (cOf (jn [mcells cI cZ ad 0 S0])) (jn [mcells cI cZ ad 0 (sA S0 8 Z10)]) := ms_a8 (Φ := fun w => va_D (cOf (jn [mcells cI cZ ad 0 S0])) w) (S := S0) (v := Z10) hD
          refine lv_aload_n hx hb dX7_set_81 rfl (lv_at hl 1 rfl) ?_
          refine va_get (D := D) (ci := 7) (v := .ref (ad (0 + 5))) (C := RX7) (T := TX7) (N := 27) hx hb hW inW_X7 hown hK hP 0 rfl rfl 9 (by decide) (hW _ fl_X7_29) (fun _ h9 => h9) rfl dX7_set_82 ?_
          refine lv_iload_n hx hb dX7_set_85 rfl (lv_at hl 2 rfl) ?_
          refine lv_iload_n hx hb dX7_set_86 rfl (lv_at hl 3 rfl) ?_
          refine lv_iconst (v := 1) hx hb dX7_set_87 (by decide) ?_
          refine lv_icmp_ne (tgt := 95) hx hb dX7_set_88 (by decide) (fun c11 => ?_) (fun c11 => ?_)
          · have hw := Eq.mp (if_neg c11) hw
            refine lv_aload_n hx hb dX7_set_95 rfl (lv_at hl 1 rfl) ?_
            refine va_get (D := D) (ci := 7) (v := .ref (ad (0 + 5))) (C := RX7) (T := TX7) (N := 27) hx hb hW inW_X7 hown hK hP 0 rfl rfl 9 (by decide) (hW _ fl_X7_29) (fun _ h9 => h9) rfl dX7_set_96 ?_
            refine lv_iload_n hx hb dX7_set_99 rfl (lv_at hl 2 rfl) ?_
            refine va_iald (f := (S0.2 9)) hx hb hK hP 5 0 rfl rfl hw.1 dX7_set_100 ?_
            have hw := hw.2
            refine va_iast (f := (S0.2 9)) hx hb hK hP hD hS 5 0 rfl rfl hw.1 dX7_set_101 (fun H locs hP hD hS => ?_)
            have hw := hw.2
            revert hw; revert hD; revert hP
            generalize (upd (S0.2 9) (x1 : Int32).toNatClampNeg ((S0.2 9) (x1 : Int32).toNatClampNeg)) = Z13
            intro hP hD hw
            have hP : va_P D classes (jn [mcells cI cZ ad 0 (sA (sA S0 8 Z10) 9 Z13)]) H := ms_a9 (Φ := fun w => va_P D classes w H) (S := (sA S0 8 Z10)) (v := Z13) hP
            have hD : va_D (cOf (jn [mcells cI cZ ad 0 S0])) (jn [mcells cI cZ ad 0 (sA (sA S0 8 Z10) 9 Z13)]) := ms_a9 (Φ := fun w => va_D (cOf (jn [mcells cI cZ ad 0 S0])) w) (S := (sA S0 8 Z10)) (v := Z13) hD
            refine lv_iload hx hb dX7_set_102 (lv_at hl 0 rfl) ?_
            exact W.iret (v := ((S0.2 9) (x1 : Int32).toNatClampNeg)) hx hb hr (fun t ht _ => ⟨⟨_, ((sA (sA S0 8 Z10) 9 Z13)), rfl, ⟨_, rfl, hw⟩, by rw [ht]; exact hP⟩, hS.F ht⟩) hS.2.2 dX7_set_104
          · have hw := Eq.mp (if_pos c11) hw
            refine lv_iload_n hx hb dX7_set_91 rfl (lv_at hl 4 rfl) ?_
            refine lv_goto (tgt := 101) hx hb dX7_set_92 (by decide) ?_
            refine va_iast (f := (S0.2 9)) hx hb hK hP hD hS 5 0 rfl rfl hw.1 dX7_set_101 (fun H locs hP hD hS => ?_)
            have hw := hw.2
            revert hw; revert hD; revert hP
            generalize (upd (S0.2 9) (x1 : Int32).toNatClampNeg x3) = Z12
            intro hP hD hw
            have hP : va_P D classes (jn [mcells cI cZ ad 0 (sA (sA S0 8 Z10) 9 Z12)]) H := ms_a9 (Φ := fun w => va_P D classes w H) (S := (sA S0 8 Z10)) (v := Z12) hP
            have hD : va_D (cOf (jn [mcells cI cZ ad 0 S0])) (jn [mcells cI cZ ad 0 (sA (sA S0 8 Z10) 9 Z12)]) := ms_a9 (Φ := fun w => va_D (cOf (jn [mcells cI cZ ad 0 S0])) w) (S := (sA S0 8 Z10)) (v := Z12) hD
            refine lv_iload hx hb dX7_set_102 (lv_at hl 0 rfl) ?_
            exact W.iret (v := ((S0.2 9) (x1 : Int32).toNatClampNeg)) hx hb hr (fun t ht _ => ⟨⟨_, ((sA (sA S0 8 Z10) 9 Z12)), rfl, ⟨_, rfl, hw⟩, by rw [ht]; exact hP⟩, hS.F ht⟩) hS.2.2 dX7_set_104
        · have hw := Eq.mp (if_pos c9) hw
          refine lv_bipush (v := (-2)) hx hb dX7_set_37 (by decide) ?_
          exact W.iret (v := (-2)) hx hb hr (fun t ht _ => ⟨⟨_, (S0), rfl, ⟨_, rfl, hw⟩, by rw [ht]; exact hP⟩, hS.F ht⟩) hS.2.2 dX7_set_39
      · have hw := Eq.mp (if_pos c3) hw
        refine lv_bipush (v := 9) hx hb dX7_set_25 (by decide) ?_
        refine lv_goto (tgt := 31) hx hb dX7_set_27 (by decide) ?_
        refine callF (va_runS (As := [.int x3, .int 0, .int 9]) (rest := []) ⟨hx, hb, hml, hown, hW⟩ (c_X7_in l D cI cZ x3 0 9 _ rfl) (cwS0 hW mS_X7_in ml_X7_78 ⟨Nat.le_of_ble_eq_true rfl, Nat.le_of_ble_eq_true rfl⟩) (preS0 hK hN hP hD [] rfl rfl) rfl rfl hl.1 rfl (lv_room (Nat.le_of_ble_eq_true rfl)) dX7_set_31 ⟨Nat.le_refl _, Nat.le_refl _⟩) ?_
        refine W.eq (g2 := F0 m 34 ls [.int (F_X7_in x3 0 9)]) rfl ?_
        refine lv_if_ne (tgt := 40) hx hb dX7_set_34 (by decide) (fun c4 => ?_) (fun c4 => ?_)
        · have hw := Eq.mp (if_neg c4) hw
          refine lv_iload_n hx hb dX7_set_40 rfl (lv_at hl 2 rfl) ?_
          refine lv_if_ne (tgt := 53) hx hb dX7_set_41 (by decide) (fun c9 => absurd c3 c9) (fun _ => ?_)
          refine lv_aload_n hx hb dX7_set_44 rfl (lv_at hl 0 rfl) ?_
          refine va_get (D := D) (ci := 7) (v := .ref (ad (0 + 4))) (C := RX7) (T := TX7) (N := 27) hx hb hW inW_X7 hown hK hP 0 rfl rfl 8 (by decide) (hW _ fl_X7_26) (fun _ h9 => h9) rfl dX7_set_45 ?_
          refine lv_iload_n hx hb dX7_set_48 rfl (lv_at hl 1 rfl) ?_
          refine va_iald (f := (S0.2 8)) hx hb hK hP 4 0 rfl rfl hw.1 dX7_set_49 ?_
          have hw := hw.2
          refine lv_goto (tgt := 59) hx hb dX7_set_50 (by decide) ?_
          refine lv_istore (lv' := [(4, .int ((S0.2 8) (x1 : Int32).toNatClampNeg)), (0, .ref (ad 0)), (1, .int x1), (2, .int x2), (3, .int x3)]) hx hb dX7_set_59 hl (by decide) rfl (fun ls hl => ?_)
          refine lv_aload_n hx hb dX7_set_61 rfl (lv_at hl 1 rfl) ?_
          refine va_get (D := D) (ci := 7) (v := .ref (ad (0 + 4))) (C := RX7) (T := TX7) (N := 27) hx hb hW inW_X7 hown hK hP 0 rfl rfl 8 (by decide) (hW _ fl_X7_26) (fun _ h9 => h9) rfl dX7_set_62 ?_
          refine lv_iload_n hx hb dX7_set_65 rfl (lv_at hl 2 rfl) ?_
          refine lv_iload_n hx hb dX7_set_66 rfl (lv_at hl 3 rfl) ?_
          refine lv_if_ne (tgt := 74) hx hb dX7_set_67 (by decide) (fun c9 => absurd c3 c9) (fun _ => ?_)
          refine lv_iload_n hx hb dX7_set_70 rfl (lv_at hl 4 rfl) ?_
          refine lv_goto (tgt := 80) hx hb dX7_set_71 (by decide) ?_
          refine va_iast (f := (S0.2 8)) hx hb hK hP hD hS 4 0 rfl rfl hw.1 dX7_set_80 (fun H locs hP hD hS => ?_)
          have hw := hw.2
          revert hw; revert hD; revert hP
          generalize (upd (S0.2 8) (x1 : Int32).toNatClampNeg x3) = Z5
          intro hP hD hw
          have hP : va_P D classes (jn [mcells cI cZ ad 0 (sA S0 8 Z5)]) H := ms_a8 (Φ := fun w => va_P D classes w H) (S := S0) (v := Z5) hP
          have hD : va_D (cOf (jn [mcells cI cZ ad 0 S0])) (jn [mcells cI cZ ad 0 (sA S0 8 Z5)]) := ms_a8 (Φ := fun w => va_D (cOf (jn [mcells cI cZ ad 0 S0])) w) (S := S0) (v := Z5) hD
          refine lv_aload_n hx hb dX7_set_81 rfl (lv_at hl 1 rfl) ?_
          refine va_get (D := D) (ci := 7) (v := .ref (ad (0 + 5))) (C := RX7) (T := TX7) (N := 27) hx hb hW inW_X7 hown hK hP 0 rfl rfl 9 (by decide) (hW _ fl_X7_29) (fun _ h9 => h9) rfl dX7_set_82 ?_
          refine lv_iload_n hx hb dX7_set_85 rfl (lv_at hl 2 rfl) ?_
          refine lv_iload_n hx hb dX7_set_86 rfl (lv_at hl 3 rfl) ?_
          refine lv_iconst (v := 1) hx hb dX7_set_87 (by decide) ?_
          refine lv_icmp_ne (tgt := 95) hx hb dX7_set_88 (by decide) (fun c6 => ?_) (fun c6 => ?_)
          · have hw := Eq.mp (if_neg c6) hw
            refine lv_aload_n hx hb dX7_set_95 rfl (lv_at hl 1 rfl) ?_
            refine va_get (D := D) (ci := 7) (v := .ref (ad (0 + 5))) (C := RX7) (T := TX7) (N := 27) hx hb hW inW_X7 hown hK hP 0 rfl rfl 9 (by decide) (hW _ fl_X7_29) (fun _ h9 => h9) rfl dX7_set_96 ?_
            refine lv_iload_n hx hb dX7_set_99 rfl (lv_at hl 2 rfl) ?_
            refine va_iald (f := (S0.2 9)) hx hb hK hP 5 0 rfl rfl hw.1 dX7_set_100 ?_
            have hw := hw.2
            refine va_iast (f := (S0.2 9)) hx hb hK hP hD hS 5 0 rfl rfl hw.1 dX7_set_101 (fun H locs hP hD hS => ?_)
            have hw := hw.2
            revert hw; revert hD; revert hP
            generalize (upd (S0.2 9) (x1 : Int32).toNatClampNeg ((S0.2 9) (x1 : Int32).toNatClampNeg)) = Z8
            intro hP hD hw
            have hP : va_P D classes (jn [mcells cI cZ ad 0 (sA (sA S0 8 Z5) 9 Z8)]) H := ms_a9 (Φ := fun w => va_P D classes w H) (S := (sA S0 8 Z5)) (v := Z8) hP
            have hD : va_D (cOf (jn [mcells cI cZ ad 0 S0])) (jn [mcells cI cZ ad 0 (sA (sA S0 8 Z5) 9 Z8)]) := ms_a9 (Φ := fun w => va_D (cOf (jn [mcells cI cZ ad 0 S0])) w) (S := (sA S0 8 Z5)) (v := Z8) hD
            refine lv_iload hx hb dX7_set_102 (lv_at hl 0 rfl) ?_
            exact W.iret (v := ((S0.2 8) (x1 : Int32).toNatClampNeg)) hx hb hr (fun t ht _ => ⟨⟨_, ((sA (sA S0 8 Z5) 9 Z8)), rfl, ⟨_, rfl, hw⟩, by rw [ht]; exact hP⟩, hS.F ht⟩) hS.2.2 dX7_set_104
          · have hw := Eq.mp (if_pos c6) hw
            refine lv_iload_n hx hb dX7_set_91 rfl (lv_at hl 4 rfl) ?_
            refine lv_goto (tgt := 101) hx hb dX7_set_92 (by decide) ?_
            refine va_iast (f := (S0.2 9)) hx hb hK hP hD hS 5 0 rfl rfl hw.1 dX7_set_101 (fun H locs hP hD hS => ?_)
            have hw := hw.2
            revert hw; revert hD; revert hP
            generalize (upd (S0.2 9) (x1 : Int32).toNatClampNeg x3) = Z7
            intro hP hD hw
            have hP : va_P D classes (jn [mcells cI cZ ad 0 (sA (sA S0 8 Z5) 9 Z7)]) H := ms_a9 (Φ := fun w => va_P D classes w H) (S := (sA S0 8 Z5)) (v := Z7) hP
            have hD : va_D (cOf (jn [mcells cI cZ ad 0 S0])) (jn [mcells cI cZ ad 0 (sA (sA S0 8 Z5) 9 Z7)]) := ms_a9 (Φ := fun w => va_D (cOf (jn [mcells cI cZ ad 0 S0])) w) (S := (sA S0 8 Z5)) (v := Z7) hD
            refine lv_iload hx hb dX7_set_102 (lv_at hl 0 rfl) ?_
            exact W.iret (v := ((S0.2 8) (x1 : Int32).toNatClampNeg)) hx hb hr (fun t ht _ => ⟨⟨_, ((sA (sA S0 8 Z5) 9 Z7)), rfl, ⟨_, rfl, hw⟩, by rw [ht]; exact hP⟩, hS.F ht⟩) hS.2.2 dX7_set_104
        · have hw := Eq.mp (if_pos c4) hw
          refine lv_bipush (v := (-2)) hx hb dX7_set_37 (by decide) ?_
          exact W.iret (v := (-2)) hx hb hr (fun t ht _ => ⟨⟨_, (S0), rfl, ⟨_, rfl, hw⟩, by rw [ht]; exact hP⟩, hS.F ht⟩) hS.2.2 dX7_set_39
  · have hw := Eq.mp (if_pos c1) hw
    refine lv_iconst (v := (-1)) hx hb dX7_set_8 (by decide) ?_
    exact W.iret (v := (-1)) hx hb hr (fun t ht _ => ⟨⟨_, (S0), rfl, ⟨_, rfl, hw⟩, by rw [ht]; exact hP⟩, hS.F ht⟩) hS.2.2 dX7_set_9
set_option maxHeartbeats 4000000 in
set_option maxRecDepth 100000 in
theorem c_X7_say (l : Launch) (D : va_G) (cI cZ : ClassId) (ad : Nat → Nat) (S0 : St) (x1 : Int32) (k : Int32 → St → Prop) (hw : wp_X7_say S0 x1 k) : KW l yX7_say cX7_say 2 (some .int) 1 22 D cI cZ [.ref (ad 0), .int x1] [mcells cI cZ ad 0 S0] (fun v (u : St) => ∃ r, v = some (.int r) ∧ k r u) (fun u : St => [mcells cI cZ ad 0 u]) := by
  refine Met.ofE (by decide +kernel) (Nat.le_of_ble_eq_true rfl) ?_
  intro p e s m below meth c E ls hl
  obtain ⟨hx, hb, hr, hml, hW, hown, hlocks, hP, hK, hD, hN⟩ := E
  have hl : lv_has ls 2 [(0, .ref (ad 0)), (1, .int x1)] := hl
  have hS : va_S (cOf (jn [mcells cI cZ ad 0 S0])) s.heap s.heap [] := va_S.rf
  have hw : (if (F_X7_in x1 33 126) = 0 then (k (-2) S0) else (if (S0.1 12) = 60 then (k (-4) S0) else (vp_in (S0.1 12) 60 ∧ (k ((S0.1 12) + 1) (sI (sA S0 13 (upd (S0.2 13) ((S0.1 12) : Int32).toNatClampNeg x1)) 12 ((S0.1 12) + 1)))))) := hw
  refine lv_iload_n hx hb dX7_say_0 rfl (lv_at hl 1 rfl) ?_
  refine lv_bipush (v := 33) hx hb dX7_say_1 (by decide) ?_
  refine lv_bipush (v := 126) hx hb dX7_say_3 (by decide) ?_
  refine callF (va_runS (As := [.int x1, .int 33, .int 126]) (rest := []) ⟨hx, hb, hml, hown, hW⟩ (c_X7_in l D cI cZ x1 33 126 _ rfl) (cwS0 hW mS_X7_in ml_X7_78 ⟨Nat.le_of_ble_eq_true rfl, Nat.le_of_ble_eq_true rfl⟩) (preS0 hK hN hP hD [] rfl rfl) rfl rfl hl.1 rfl (lv_room (Nat.le_of_ble_eq_true rfl)) dX7_say_5 ⟨Nat.le_refl _, Nat.le_refl _⟩) ?_
  refine W.eq (g2 := F0 m 8 ls [.int (F_X7_in x1 33 126)]) rfl ?_
  refine lv_if_ne (tgt := 14) hx hb dX7_say_8 (by decide) (fun c1 => ?_) (fun c1 => ?_)
  · have hw := Eq.mp (if_neg c1) hw
    refine lv_aload_n hx hb dX7_say_14 rfl (lv_at hl 0 rfl) ?_
    refine va_get (D := D) (ci := 7) (v := .int (S0.1 12)) (C := RX7) (T := TX7) (N := 27) hx hb hW inW_X7 hown hK hP 0 rfl rfl 12 (by decide) (hW _ fl_X7_86) (fun _ h9 => h9) rfl dX7_say_15 ?_
    refine lv_bipush (v := 60) hx hb dX7_say_18 (by decide) ?_
    refine lv_icmp_ne (tgt := 26) hx hb dX7_say_20 (by decide) (fun c2 => ?_) (fun c2 => ?_)
    · have hw := Eq.mp (if_neg c2) hw
      refine lv_aload_n hx hb dX7_say_26 rfl (lv_at hl 0 rfl) ?_
      refine va_get (D := D) (ci := 7) (v := .ref (ad (0 + 7))) (C := RX7) (T := TX7) (N := 27) hx hb hW inW_X7 hown hK hP 0 rfl rfl 13 (by decide) (hW _ fl_X7_35) (fun _ h9 => h9) rfl dX7_say_27 ?_
      refine lv_aload_n hx hb dX7_say_30 rfl (lv_at hl 0 rfl) ?_
      refine va_get (D := D) (ci := 7) (v := .int (S0.1 12)) (C := RX7) (T := TX7) (N := 27) hx hb hW inW_X7 hown hK hP 0 rfl rfl 12 (by decide) (hW _ fl_X7_86) (fun _ h9 => h9) rfl dX7_say_31 ?_
      refine lv_iload_n hx hb dX7_say_34 rfl (lv_at hl 1 rfl) ?_
      refine va_iast (f := (S0.2 13)) hx hb hK hP hD hS 7 0 rfl rfl hw.1 dX7_say_35 (fun H locs hP hD hS => ?_)
      have hw := hw.2
      revert hw; revert hD; revert hP
      generalize (upd (S0.2 13) ((S0.1 12) : Int32).toNatClampNeg x1) = Z3
      intro hP hD hw
      have hP : va_P D classes (jn [mcells cI cZ ad 0 (sA S0 13 Z3)]) H := ms_a13 (Φ := fun w => va_P D classes w H) (S := S0) (v := Z3) hP
      have hD : va_D (cOf (jn [mcells cI cZ ad 0 S0])) (jn [mcells cI cZ ad 0 (sA S0 13 Z3)]) := ms_a13 (Φ := fun w => va_D (cOf (jn [mcells cI cZ ad 0 S0])) w) (S := S0) (v := Z3) hD
      refine lv_aload_n hx hb dX7_say_36 rfl (lv_at hl 0 rfl) ?_
      refine lv_dup hx hb dX7_say_37 rfl ?_
      refine va_get (D := D) (ci := 7) (v := .int (S0.1 12)) (C := RX7) (T := TX7) (N := 27) hx hb hW inW_X7 hown hK hP 0 rfl rfl 12 (by decide) (hW _ fl_X7_86) (fun _ h9 => h9) rfl dX7_say_38 ?_
      refine lv_iconst (v := 1) hx hb dX7_say_41 (by decide) ?_
      refine lv_iadd hx hb dX7_say_42 ?_
      refine va_put (D := D) (ci := 7) (v := .int ((S0.1 12) + 1)) (ty := .int) (C := RX7) (T := TX7) (N := 27) hx hb hW inW_X7 tyX7 tyX7_ok nmX7 hown hK hP hD hS 0 rfl rfl 12 (by decide) (hW _ fl_X7_86) (fun _ h9 => h9) rfl (by decide +kernel) rfl rfl (Nat.le_of_ble_eq_true rfl) dX7_say_43 (fun H locs hP hD hS => ?_)
      have hP : va_P D classes (jn [mcells cI cZ ad 0 (sI (sA S0 13 Z3) 12 ((S0.1 12) + 1))]) H := ms_i12 (Φ := fun w => va_P D classes w H) (S := (sA S0 13 Z3)) (v := ((S0.1 12) + 1)) hP
      have hD : va_D (cOf (jn [mcells cI cZ ad 0 S0])) (jn [mcells cI cZ ad 0 (sI (sA S0 13 Z3) 12 ((S0.1 12) + 1))]) := ms_i12 (Φ := fun w => va_D (cOf (jn [mcells cI cZ ad 0 S0])) w) (S := (sA S0 13 Z3)) (v := ((S0.1 12) + 1)) hD
      refine lv_aload_n hx hb dX7_say_46 rfl (lv_at hl 0 rfl) ?_
      refine va_get (D := D) (ci := 7) (v := .int ((S0.1 12) + 1)) (C := RX7) (T := TX7) (N := 27) hx hb hW inW_X7 hown hK hP 0 rfl rfl 12 (by decide) (hW _ fl_X7_86) (fun _ h9 => h9) rfl dX7_say_47 ?_
      exact W.iret (v := ((S0.1 12) + 1)) hx hb hr (fun t ht _ => ⟨⟨_, ((sI (sA S0 13 Z3) 12 ((S0.1 12) + 1))), rfl, ⟨_, rfl, hw⟩, by rw [ht]; exact hP⟩, hS.F ht⟩) hS.2.2 dX7_say_50
    · have hw := Eq.mp (if_pos c2) hw
      refine lv_bipush (v := (-4)) hx hb dX7_say_23 (by decide) ?_
      exact W.iret (v := (-4)) hx hb hr (fun t ht _ => ⟨⟨_, (S0), rfl, ⟨_, rfl, hw⟩, by rw [ht]; exact hP⟩, hS.F ht⟩) hS.2.2 dX7_say_25
  · have hw := Eq.mp (if_pos c1) hw
    refine lv_bipush (v := (-2)) hx hb dX7_say_11 (by decide) ?_
    exact W.iret (v := (-2)) hx hb hr (fun t ht _ => ⟨⟨_, (S0), rfl, ⟨_, rfl, hw⟩, by rw [ht]; exact hP⟩, hS.F ht⟩) hS.2.2 dX7_say_13
set_option maxHeartbeats 4000000 in
set_option maxRecDepth 100000 in
theorem c_X7_wipe (l : Launch) (D : va_G) (cI cZ : ClassId) (ad : Nat → Nat) (S0 : St) (k : Int32 → St → Prop) (hw : wp_X7_wipe S0 k) : KW l yX7_wipe cX7_wipe 2 (some .int) 0 0 D cI cZ [.ref (ad 0)] [mcells cI cZ ad 0 S0] (fun v (u : St) => ∃ r, v = some (.int r) ∧ k r u) (fun u : St => [mcells cI cZ ad 0 u]) := by
  refine Met.ofE (by decide +kernel) (Nat.le_of_ble_eq_true rfl) ?_
  intro p e s m below meth c E ls hl
  obtain ⟨hx, hb, hr, hml, hW, hown, hlocks, hP, hK, hD, hN⟩ := E
  have hl : lv_has ls 2 [(0, .ref (ad 0))] := hl
  have hS : va_S (cOf (jn [mcells cI cZ ad 0 S0])) s.heap s.heap [] := va_S.rf
  have hw : (k (S0.1 12) (sI S0 12 0)) := hw
  refine lv_aload_n hx hb dX7_wipe_0 rfl (lv_at hl 0 rfl) ?_
  refine va_get (D := D) (ci := 7) (v := .int (S0.1 12)) (C := RX7) (T := TX7) (N := 27) hx hb hW inW_X7 hown hK hP 0 rfl rfl 12 (by decide) (hW _ fl_X7_86) (fun _ h9 => h9) rfl dX7_wipe_1 ?_
  refine lv_istore_n (lv' := [(1, .int (S0.1 12)), (0, .ref (ad 0))]) hx hb dX7_wipe_4 rfl hl (by decide) rfl (fun ls hl => ?_)
  refine lv_aload_n hx hb dX7_wipe_5 rfl (lv_at hl 1 rfl) ?_
  refine lv_iconst (v := 0) hx hb dX7_wipe_6 (by decide) ?_
  refine va_put (D := D) (ci := 7) (v := .int 0) (ty := .int) (C := RX7) (T := TX7) (N := 27) hx hb hW inW_X7 tyX7 tyX7_ok nmX7 hown hK hP hD hS 0 rfl rfl 12 (by decide) (hW _ fl_X7_86) (fun _ h9 => h9) rfl (by decide +kernel) rfl rfl (Nat.le_of_ble_eq_true rfl) dX7_wipe_7 (fun H locs hP hD hS => ?_)
  have hP : va_P D classes (jn [mcells cI cZ ad 0 (sI S0 12 0)]) H := ms_i12 (Φ := fun w => va_P D classes w H) (S := S0) (v := 0) hP
  have hD : va_D (cOf (jn [mcells cI cZ ad 0 S0])) (jn [mcells cI cZ ad 0 (sI S0 12 0)]) := ms_i12 (Φ := fun w => va_D (cOf (jn [mcells cI cZ ad 0 S0])) w) (S := S0) (v := 0) hD
  refine lv_iload_n hx hb dX7_wipe_10 rfl (lv_at hl 0 rfl) ?_
  exact W.iret (v := (S0.1 12)) hx hb hr (fun t ht _ => ⟨⟨_, ((sI S0 12 0)), rfl, ⟨_, rfl, hw⟩, by rw [ht]; exact hP⟩, hS.F ht⟩) hS.2.2 dX7_wipe_11
set_option maxHeartbeats 4000000 in
set_option maxRecDepth 100000 in
theorem c_X7_isChild (l : Launch) (D : va_G) (cI cZ : ClassId) (ad : Nat → Nat) (S0 : St) (x1 : Int32) (r9 : Int32) (hw : F_X7_isChild S0 x1 = r9) : KF l yX7_isChild cX7_isChild 2 (some .boolean) 2 43 D cI cZ [.ref (ad 0), .int x1] [mcells cI cZ ad 0 S0] (some (.int r9)) := by
  refine Met.ofE (by decide +kernel) (Nat.le_of_ble_eq_true rfl) ?_
  intro p e s m below meth c E ls hl
  obtain ⟨hx, hb, hr, hml, hW, hown, hlocks, hP, hK, hD, hN⟩ := E
  have hl : lv_has ls 2 [(0, .ref (ad 0)), (1, .int x1)] := hl
  have hw : (F_X7_isOne S0 (x1 - 65)) = r9 := hw
  refine lv_aload_n hx hb dX7_isChild_0 rfl (lv_at hl 0 rfl) ?_
  refine lv_iload_n hx hb dX7_isChild_1 rfl (lv_at hl 1 rfl) ?_
  refine lv_bipush (v := 65) hx hb dX7_isChild_2 (by decide) ?_
  refine lv_isub hx hb dX7_isChild_4 ?_
  refine callF (va_runV (As := [.int (x1 - 65)]) (rest := []) ⟨hx, hb, hml, hown, hW⟩ (c_X7_isOne l D cI cZ ad  S0 (x1 - 65) _ rfl) (cwV0 hW mV_X7_isOne ml_X7_82 ⟨Nat.le_of_ble_eq_true rfl, Nat.le_of_ble_eq_true rfl⟩) (preV0 0 rfl rfl hK hN hP hD [0] rfl rfl) rfl rfl hl.1 rfl (lv_room (Nat.le_of_ble_eq_true rfl)) dX7_isChild_5 ⟨Nat.le_refl _, Nat.le_refl _⟩) ?_
  refine W.eq (g2 := F0 m 8 ls [.int (F_X7_isOne S0 (x1 - 65))]) rfl ?_
  subst hw
  exact W.zret (v := (F_X7_isOne S0 (x1 - 65))) hx hb hr (nb_of (z_X7_isOne S0 (x1 - 65))) (fun t ht _ => ⟨rfl, ht⟩) (fun _ h => by cases h) dX7_isChild_8
set_option maxHeartbeats 4000000 in
set_option maxRecDepth 100000 in
theorem c_X7_faultOf (l : Launch) (D : va_G) (cI cZ : ClassId) (ad : Nat → Nat) (S0 : St) (k : Int32 → Prop) (hw : wp_X7_faultOf S0 k) : KR l yX7_faultOf cX7_faultOf 5 (some .int) 3 64 D cI cZ [.ref (ad 0)] [mcells cI cZ ad 0 S0] (fun v => ∃ r, v = some (.int r) ∧ k r) := by
  refine Met.ofE (by decide +kernel) (Nat.le_of_ble_eq_true rfl) ?_
  intro p e s m below meth c E ls hl
  obtain ⟨hx, hb, hr, hml, hW, hown, hlocks, hP, hK, hD, hN⟩ := E
  have hl : lv_has ls 5 [(0, .ref (ad 0))] := hl
  have L4 : ∀  (kx : Int32 → Prop), (∀ (y1 : Int32), ∀ ls : Array Slot, lv_has ls 5 [(0, .ref (ad 0)), (1, .int y1)] → kx y1 → W p l e { frames := 3, cells := 0, slots := 0, locals := 64 } s m ([.ref (ad 0)] : List Value).toArray below meth c s.heap [] 0 0 (MQ below (QR (fun v => ∃ r, v = some (.int r) ∧ k r)) ([.ref (ad 0)] : List Value).toArray s 0 0 (fun _ => False)) (F0 m 108 ls [])) → ∀ (N4 : Nat) (y1 : Int32) (y2 : Int32), ∀ ls : Array Slot, lv_has ls 5 [(0, .ref (ad 0)), (1, .int y1), (2, .int y2)] → wl_X7_faultOf_4 S0 kx k N4 y1 y2 → W p l e { frames := 3, cells := 0, slots := 0, locals := 64 } s m ([.ref (ad 0)] : List Value).toArray below meth c s.heap [] 0 0 (MQ below (QR (fun v => ∃ r, v = some (.int r) ∧ k r)) ([.ref (ad 0)] : List Value).toArray s 0 0 (fun _ => False)) (F0 m 4 ls []) := by
    intro  kx hxt N4
    induction N4 with
    | zero => intro y1 y2 ls hl hw; exact False.elim hw
    | succ N4 ih =>
      intro y1 y2 ls hl hw
      have hw : (if (S0.1 12) ≤ y2 then (kx y1) else (vp_in y2 60 ∧ (if (F_X7_isChild S0 ((S0.2 13) (y2 : Int32).toNatClampNeg)) = 0 then (if y1 = 0 then (if ((S0.2 13) (y2 : Int32).toNatClampNeg) = 46 then (wl_X7_faultOf_4 S0 kx k N4 0 (y2 + 1)) else (if ((S0.2 13) (y2 : Int32).toNatClampNeg) = 58 then (wl_X7_faultOf_4 S0 kx k N4 0 (y2 + 1)) else (if ((S0.2 13) (y2 : Int32).toNatClampNeg) = 59 then (wl_X7_faultOf_4 S0 kx k N4 0 (y2 + 1)) else (k y2)))) else (if ((S0.2 13) (y2 : Int32).toNatClampNeg) = 115 then (wl_X7_faultOf_4 S0 kx k N4 0 (y2 + 1)) else (if ((S0.2 13) (y2 : Int32).toNatClampNeg) = 100 then (wl_X7_faultOf_4 S0 kx k N4 0 (y2 + 1)) else (if ((S0.2 13) (y2 : Int32).toNatClampNeg) = 109 then (wl_X7_faultOf_4 S0 kx k N4 0 (y2 + 1)) else (k y2))))) else (if y1 = 0 then (wl_X7_faultOf_4 S0 kx k N4 1 (y2 + 1)) else (wl_X7_faultOf_4 S0 kx k N4 0 (y2 + 1)))))) := hw
      refine lv_iload_n hx hb dX7_faultOf_4 rfl (lv_at hl 2 rfl) ?_
      refine lv_aload_n hx hb dX7_faultOf_5 rfl (lv_at hl 0 rfl) ?_
      refine va_get (D := D) (ci := 7) (v := .int (S0.1 12)) (C := RX7) (T := TX7) (N := 27) hx hb hW inW_X7 hown hK hP 0 rfl rfl 12 (by decide) (hW _ fl_X7_86) (fun _ h9 => h9) rfl dX7_faultOf_6 ?_
      refine lv_icmp_ge (tgt := 108) hx hb dX7_faultOf_9 (by decide) (fun c1 => ?_) (fun c1 => ?_)
      · have hw := Eq.mp (if_pos c1) hw
        exact hxt y1 _ (lv_sub hl [0, 1] rfl) hw
      · have hw := Eq.mp (if_neg c1) hw
        refine lv_aload_n hx hb dX7_faultOf_12 rfl (lv_at hl 0 rfl) ?_
        refine va_get (D := D) (ci := 7) (v := .ref (ad (0 + 7))) (C := RX7) (T := TX7) (N := 27) hx hb hW inW_X7 hown hK hP 0 rfl rfl 13 (by decide) (hW _ fl_X7_35) (fun _ h9 => h9) rfl dX7_faultOf_13 ?_
        refine lv_iload_n hx hb dX7_faultOf_16 rfl (lv_at hl 2 rfl) ?_
        refine va_iald (f := (S0.2 13)) hx hb hK hP 7 0 rfl rfl hw.1 dX7_faultOf_17 ?_
        have hw := hw.2
        refine lv_istore_n (lv' := [(3, .int ((S0.2 13) (y2 : Int32).toNatClampNeg)), (0, .ref (ad 0)), (1, .int y1), (2, .int y2)]) hx hb dX7_faultOf_18 rfl hl (by decide) rfl (fun ls hl => ?_)
        refine lv_aload_n hx hb dX7_faultOf_19 rfl (lv_at hl 1 rfl) ?_
        refine lv_iload_n hx hb dX7_faultOf_20 rfl (lv_at hl 0 rfl) ?_
        refine callF (va_runV (As := [.int ((S0.2 13) (y2 : Int32).toNatClampNeg)]) (rest := []) ⟨hx, hb, hml, hown, hW⟩ (c_X7_isChild l D cI cZ ad  S0 ((S0.2 13) (y2 : Int32).toNatClampNeg) _ rfl) (cwV0 hW mV_X7_isChild ml_X7_89 ⟨Nat.le_of_ble_eq_true rfl, Nat.le_of_ble_eq_true rfl⟩) (preV0 0 rfl rfl hK hN hP hD [0] rfl rfl) rfl rfl hl.1 rfl (lv_room (Nat.le_of_ble_eq_true rfl)) dX7_faultOf_21 ⟨Nat.le_refl _, Nat.le_refl _⟩) ?_
        refine W.eq (g2 := F0 m 24 ls [.int (F_X7_isChild S0 ((S0.2 13) (y2 : Int32).toNatClampNeg))]) rfl ?_
        refine lv_if_ne (tgt := 70) hx hb dX7_faultOf_24 (by decide) (fun c2 => ?_) (fun c2 => ?_)
        · have hw := Eq.mp (if_neg c2) hw
          refine lv_iconst (v := 1) hx hb dX7_faultOf_70 (by decide) ?_
          refine lv_goto (tgt := 75) hx hb dX7_faultOf_71 (by decide) ?_
          refine lv_istore (lv' := [(4, .int 1), (3, .int ((S0.2 13) (y2 : Int32).toNatClampNeg)), (0, .ref (ad 0)), (1, .int y1), (2, .int y2)]) hx hb dX7_faultOf_75 hl (by decide) rfl (fun ls hl => ?_)
          refine lv_iload hx hb dX7_faultOf_77 (lv_at hl 0 rfl) ?_
          refine lv_if_ne (tgt := 84) hx hb dX7_faultOf_79 (by decide) (fun _ => ?_) (fun c9 => absurd c9 (by decide))
          refine lv_iload_n hx hb dX7_faultOf_84 rfl (lv_at hl 3 rfl) ?_
          refine lv_if_ne (tgt := 100) hx hb dX7_faultOf_85 (by decide) (fun c10 => ?_) (fun c10 => ?_)
          · have hw := Eq.mp (if_neg c10) hw
            refine lv_iconst (v := 0) hx hb dX7_faultOf_100 (by decide) ?_
            refine lv_istore_n (lv' := [(1, .int 0), (4, .int 1), (3, .int ((S0.2 13) (y2 : Int32).toNatClampNeg)), (0, .ref (ad 0)), (2, .int y2)]) hx hb dX7_faultOf_101 rfl hl (by decide) rfl (fun ls hl => ?_)
            refine lv_iinc (v := (y2 + 1)) (lv' := [(2, .int (y2 + 1)), (1, .int 0), (4, .int 1), (3, .int ((S0.2 13) (y2 : Int32).toNatClampNeg)), (0, .ref (ad 0))]) hx hb dX7_faultOf_102 hl (k := 4) rfl rfl (by decide) rfl (fun ls hl => ?_)
            refine lv_goto (tgt := 4) hx hb dX7_faultOf_105 (by decide) ?_
            exact ih 0 (y2 + 1) _ (lv_sub hl [4, 1, 0] rfl) hw
          · have hw := Eq.mp (if_pos c10) hw
            refine lv_aload_n hx hb dX7_faultOf_88 rfl (lv_at hl 2 rfl) ?_
            refine lv_iload_n hx hb dX7_faultOf_89 rfl (lv_at hl 1 rfl) ?_
            refine callF (va_runV (As := [.int ((S0.2 13) (y2 : Int32).toNatClampNeg)]) (rest := []) ⟨hx, hb, hml, hown, hW⟩ (c_X7_isChild l D cI cZ ad  S0 ((S0.2 13) (y2 : Int32).toNatClampNeg) _ rfl) (cwV0 hW mV_X7_isChild ml_X7_89 ⟨Nat.le_of_ble_eq_true rfl, Nat.le_of_ble_eq_true rfl⟩) (preV0 0 rfl rfl hK hN hP hD [0] rfl rfl) rfl rfl hl.1 rfl (lv_room (Nat.le_of_ble_eq_true rfl)) dX7_faultOf_90 ⟨Nat.le_refl _, Nat.le_refl _⟩) ?_
            refine W.eq (g2 := F0 m 93 ls [.int (F_X7_isChild S0 ((S0.2 13) (y2 : Int32).toNatClampNeg))]) rfl ?_
            refine lv_if_eq (tgt := 100) hx hb dX7_faultOf_93 (by decide) (fun c9 => absurd c9 c2) (fun _ => ?_)
            refine lv_iconst (v := 1) hx hb dX7_faultOf_96 (by decide) ?_
            refine lv_goto (tgt := 101) hx hb dX7_faultOf_97 (by decide) ?_
            refine lv_istore_n (lv' := [(1, .int 1), (4, .int 1), (3, .int ((S0.2 13) (y2 : Int32).toNatClampNeg)), (0, .ref (ad 0)), (2, .int y2)]) hx hb dX7_faultOf_101 rfl hl (by decide) rfl (fun ls hl => ?_)
            refine lv_iinc (v := (y2 + 1)) (lv' := [(2, .int (y2 + 1)), (1, .int 1), (4, .int 1), (3, .int ((S0.2 13) (y2 : Int32).toNatClampNeg)), (0, .ref (ad 0))]) hx hb dX7_faultOf_102 hl (k := 4) rfl rfl (by decide) rfl (fun ls hl => ?_)
            refine lv_goto (tgt := 4) hx hb dX7_faultOf_105 (by decide) ?_
            exact ih 1 (y2 + 1) _ (lv_sub hl [4, 1, 0] rfl) hw
        · have hw := Eq.mp (if_pos c2) hw
          refine lv_iload_n hx hb dX7_faultOf_27 rfl (lv_at hl 2 rfl) ?_
          refine lv_if_eq (tgt := 52) hx hb dX7_faultOf_28 (by decide) (fun c3 => ?_) (fun c3 => ?_)
          · have hw := Eq.mp (if_pos c3) hw
            refine lv_iload_n hx hb dX7_faultOf_52 rfl (lv_at hl 0 rfl) ?_
            refine lv_bipush (v := 46) hx hb dX7_faultOf_53 (by decide) ?_
            refine lv_icmp_eq (tgt := 70) hx hb dX7_faultOf_55 (by decide) (fun c4 => ?_) (fun c4 => ?_)
            · have hw := Eq.mp (if_pos c4) hw
              refine lv_iconst (v := 1) hx hb dX7_faultOf_70 (by decide) ?_
              refine lv_goto (tgt := 75) hx hb dX7_faultOf_71 (by decide) ?_
              refine lv_istore (lv' := [(4, .int 1), (3, .int ((S0.2 13) (y2 : Int32).toNatClampNeg)), (0, .ref (ad 0)), (1, .int y1), (2, .int y2)]) hx hb dX7_faultOf_75 hl (by decide) rfl (fun ls hl => ?_)
              refine lv_iload hx hb dX7_faultOf_77 (lv_at hl 0 rfl) ?_
              refine lv_if_ne (tgt := 84) hx hb dX7_faultOf_79 (by decide) (fun _ => ?_) (fun c9 => absurd c9 (by decide))
              refine lv_iload_n hx hb dX7_faultOf_84 rfl (lv_at hl 3 rfl) ?_
              refine lv_if_ne (tgt := 100) hx hb dX7_faultOf_85 (by decide) (fun c9 => absurd c3 c9) (fun _ => ?_)
              refine lv_aload_n hx hb dX7_faultOf_88 rfl (lv_at hl 2 rfl) ?_
              refine lv_iload_n hx hb dX7_faultOf_89 rfl (lv_at hl 1 rfl) ?_
              refine callF (va_runV (As := [.int ((S0.2 13) (y2 : Int32).toNatClampNeg)]) (rest := []) ⟨hx, hb, hml, hown, hW⟩ (c_X7_isChild l D cI cZ ad  S0 ((S0.2 13) (y2 : Int32).toNatClampNeg) _ rfl) (cwV0 hW mV_X7_isChild ml_X7_89 ⟨Nat.le_of_ble_eq_true rfl, Nat.le_of_ble_eq_true rfl⟩) (preV0 0 rfl rfl hK hN hP hD [0] rfl rfl) rfl rfl hl.1 rfl (lv_room (Nat.le_of_ble_eq_true rfl)) dX7_faultOf_90 ⟨Nat.le_refl _, Nat.le_refl _⟩) ?_
              refine W.eq (g2 := F0 m 93 ls [.int (F_X7_isChild S0 ((S0.2 13) (y2 : Int32).toNatClampNeg))]) rfl ?_
              refine lv_if_eq (tgt := 100) hx hb dX7_faultOf_93 (by decide) (fun _ => ?_) (fun c9 => absurd c2 c9)
              refine lv_iconst (v := 0) hx hb dX7_faultOf_100 (by decide) ?_
              refine lv_istore_n (lv' := [(1, .int 0), (4, .int 1), (3, .int ((S0.2 13) (y2 : Int32).toNatClampNeg)), (0, .ref (ad 0)), (2, .int y2)]) hx hb dX7_faultOf_101 rfl hl (by decide) rfl (fun ls hl => ?_)
              refine lv_iinc (v := (y2 + 1)) (lv' := [(2, .int (y2 + 1)), (1, .int 0), (4, .int 1), (3, .int ((S0.2 13) (y2 : Int32).toNatClampNeg)), (0, .ref (ad 0))]) hx hb dX7_faultOf_102 hl (k := 4) rfl rfl (by decide) rfl (fun ls hl => ?_)
              refine lv_goto (tgt := 4) hx hb dX7_faultOf_105 (by decide) ?_
              exact ih 0 (y2 + 1) _ (lv_sub hl [4, 1, 0] rfl) hw
            · have hw := Eq.mp (if_neg c4) hw
              refine lv_iload_n hx hb dX7_faultOf_58 rfl (lv_at hl 0 rfl) ?_
              refine lv_bipush (v := 58) hx hb dX7_faultOf_59 (by decide) ?_
              refine lv_icmp_eq (tgt := 70) hx hb dX7_faultOf_61 (by decide) (fun c5 => ?_) (fun c5 => ?_)
              · have hw := Eq.mp (if_pos c5) hw
                refine lv_iconst (v := 1) hx hb dX7_faultOf_70 (by decide) ?_
                refine lv_goto (tgt := 75) hx hb dX7_faultOf_71 (by decide) ?_
                refine lv_istore (lv' := [(4, .int 1), (3, .int ((S0.2 13) (y2 : Int32).toNatClampNeg)), (0, .ref (ad 0)), (1, .int y1), (2, .int y2)]) hx hb dX7_faultOf_75 hl (by decide) rfl (fun ls hl => ?_)
                refine lv_iload hx hb dX7_faultOf_77 (lv_at hl 0 rfl) ?_
                refine lv_if_ne (tgt := 84) hx hb dX7_faultOf_79 (by decide) (fun _ => ?_) (fun c9 => absurd c9 (by decide))
                refine lv_iload_n hx hb dX7_faultOf_84 rfl (lv_at hl 3 rfl) ?_
                refine lv_if_ne (tgt := 100) hx hb dX7_faultOf_85 (by decide) (fun c9 => absurd c3 c9) (fun _ => ?_)
                refine lv_aload_n hx hb dX7_faultOf_88 rfl (lv_at hl 2 rfl) ?_
                refine lv_iload_n hx hb dX7_faultOf_89 rfl (lv_at hl 1 rfl) ?_
                refine callF (va_runV (As := [.int ((S0.2 13) (y2 : Int32).toNatClampNeg)]) (rest := []) ⟨hx, hb, hml, hown, hW⟩ (c_X7_isChild l D cI cZ ad  S0 ((S0.2 13) (y2 : Int32).toNatClampNeg) _ rfl) (cwV0 hW mV_X7_isChild ml_X7_89 ⟨Nat.le_of_ble_eq_true rfl, Nat.le_of_ble_eq_true rfl⟩) (preV0 0 rfl rfl hK hN hP hD [0] rfl rfl) rfl rfl hl.1 rfl (lv_room (Nat.le_of_ble_eq_true rfl)) dX7_faultOf_90 ⟨Nat.le_refl _, Nat.le_refl _⟩) ?_
                refine W.eq (g2 := F0 m 93 ls [.int (F_X7_isChild S0 ((S0.2 13) (y2 : Int32).toNatClampNeg))]) rfl ?_
                refine lv_if_eq (tgt := 100) hx hb dX7_faultOf_93 (by decide) (fun _ => ?_) (fun c9 => absurd c2 c9)
                refine lv_iconst (v := 0) hx hb dX7_faultOf_100 (by decide) ?_
                refine lv_istore_n (lv' := [(1, .int 0), (4, .int 1), (3, .int ((S0.2 13) (y2 : Int32).toNatClampNeg)), (0, .ref (ad 0)), (2, .int y2)]) hx hb dX7_faultOf_101 rfl hl (by decide) rfl (fun ls hl => ?_)
                refine lv_iinc (v := (y2 + 1)) (lv' := [(2, .int (y2 + 1)), (1, .int 0), (4, .int 1), (3, .int ((S0.2 13) (y2 : Int32).toNatClampNeg)), (0, .ref (ad 0))]) hx hb dX7_faultOf_102 hl (k := 4) rfl rfl (by decide) rfl (fun ls hl => ?_)
                refine lv_goto (tgt := 4) hx hb dX7_faultOf_105 (by decide) ?_
                exact ih 0 (y2 + 1) _ (lv_sub hl [4, 1, 0] rfl) hw
              · have hw := Eq.mp (if_neg c5) hw
                refine lv_iload_n hx hb dX7_faultOf_64 rfl (lv_at hl 0 rfl) ?_
                refine lv_bipush (v := 59) hx hb dX7_faultOf_65 (by decide) ?_
                refine lv_icmp_ne (tgt := 74) hx hb dX7_faultOf_67 (by decide) (fun c6 => ?_) (fun c6 => ?_)
                · have hw := Eq.mp (if_neg c6) hw
                  refine lv_iconst (v := 0) hx hb dX7_faultOf_74 (by decide) ?_
                  refine lv_istore (lv' := [(4, .int 0), (3, .int ((S0.2 13) (y2 : Int32).toNatClampNeg)), (0, .ref (ad 0)), (1, .int y1), (2, .int y2)]) hx hb dX7_faultOf_75 hl (by decide) rfl (fun ls hl => ?_)
                  refine lv_iload hx hb dX7_faultOf_77 (lv_at hl 0 rfl) ?_
                  refine lv_if_ne (tgt := 84) hx hb dX7_faultOf_79 (by decide) (fun c9 => absurd (by decide) c9) (fun _ => ?_)
                  refine lv_iload_n hx hb dX7_faultOf_82 rfl (lv_at hl 4 rfl) ?_
                  exact W.iret (v := y2) hx hb hr (fun t ht _ => ⟨⟨_, rfl, ⟨_, rfl, hw⟩⟩, ht⟩) (fun _ h => by cases h) dX7_faultOf_83
                · have hw := Eq.mp (if_pos c6) hw
                  refine lv_iconst (v := 1) hx hb dX7_faultOf_70 (by decide) ?_
                  refine lv_goto (tgt := 75) hx hb dX7_faultOf_71 (by decide) ?_
                  refine lv_istore (lv' := [(4, .int 1), (3, .int ((S0.2 13) (y2 : Int32).toNatClampNeg)), (0, .ref (ad 0)), (1, .int y1), (2, .int y2)]) hx hb dX7_faultOf_75 hl (by decide) rfl (fun ls hl => ?_)
                  refine lv_iload hx hb dX7_faultOf_77 (lv_at hl 0 rfl) ?_
                  refine lv_if_ne (tgt := 84) hx hb dX7_faultOf_79 (by decide) (fun _ => ?_) (fun c9 => absurd c9 (by decide))
                  refine lv_iload_n hx hb dX7_faultOf_84 rfl (lv_at hl 3 rfl) ?_
                  refine lv_if_ne (tgt := 100) hx hb dX7_faultOf_85 (by decide) (fun c9 => absurd c3 c9) (fun _ => ?_)
                  refine lv_aload_n hx hb dX7_faultOf_88 rfl (lv_at hl 2 rfl) ?_
                  refine lv_iload_n hx hb dX7_faultOf_89 rfl (lv_at hl 1 rfl) ?_
                  refine callF (va_runV (As := [.int ((S0.2 13) (y2 : Int32).toNatClampNeg)]) (rest := []) ⟨hx, hb, hml, hown, hW⟩ (c_X7_isChild l D cI cZ ad  S0 ((S0.2 13) (y2 : Int32).toNatClampNeg) _ rfl) (cwV0 hW mV_X7_isChild ml_X7_89 ⟨Nat.le_of_ble_eq_true rfl, Nat.le_of_ble_eq_true rfl⟩) (preV0 0 rfl rfl hK hN hP hD [0] rfl rfl) rfl rfl hl.1 rfl (lv_room (Nat.le_of_ble_eq_true rfl)) dX7_faultOf_90 ⟨Nat.le_refl _, Nat.le_refl _⟩) ?_
                  refine W.eq (g2 := F0 m 93 ls [.int (F_X7_isChild S0 ((S0.2 13) (y2 : Int32).toNatClampNeg))]) rfl ?_
                  refine lv_if_eq (tgt := 100) hx hb dX7_faultOf_93 (by decide) (fun _ => ?_) (fun c9 => absurd c2 c9)
                  refine lv_iconst (v := 0) hx hb dX7_faultOf_100 (by decide) ?_
                  refine lv_istore_n (lv' := [(1, .int 0), (4, .int 1), (3, .int ((S0.2 13) (y2 : Int32).toNatClampNeg)), (0, .ref (ad 0)), (2, .int y2)]) hx hb dX7_faultOf_101 rfl hl (by decide) rfl (fun ls hl => ?_)
                  refine lv_iinc (v := (y2 + 1)) (lv' := [(2, .int (y2 + 1)), (1, .int 0), (4, .int 1), (3, .int ((S0.2 13) (y2 : Int32).toNatClampNeg)), (0, .ref (ad 0))]) hx hb dX7_faultOf_102 hl (k := 4) rfl rfl (by decide) rfl (fun ls hl => ?_)
                  refine lv_goto (tgt := 4) hx hb dX7_faultOf_105 (by decide) ?_
                  exact ih 0 (y2 + 1) _ (lv_sub hl [4, 1, 0] rfl) hw
          · have hw := Eq.mp (if_neg c3) hw
            refine lv_iload_n hx hb dX7_faultOf_31 rfl (lv_at hl 0 rfl) ?_
            refine lv_bipush (v := 115) hx hb dX7_faultOf_32 (by decide) ?_
            refine lv_icmp_eq (tgt := 70) hx hb dX7_faultOf_34 (by decide) (fun c7 => ?_) (fun c7 => ?_)
            · have hw := Eq.mp (if_pos c7) hw
              refine lv_iconst (v := 1) hx hb dX7_faultOf_70 (by decide) ?_
              refine lv_goto (tgt := 75) hx hb dX7_faultOf_71 (by decide) ?_
              refine lv_istore (lv' := [(4, .int 1), (3, .int ((S0.2 13) (y2 : Int32).toNatClampNeg)), (0, .ref (ad 0)), (1, .int y1), (2, .int y2)]) hx hb dX7_faultOf_75 hl (by decide) rfl (fun ls hl => ?_)
              refine lv_iload hx hb dX7_faultOf_77 (lv_at hl 0 rfl) ?_
              refine lv_if_ne (tgt := 84) hx hb dX7_faultOf_79 (by decide) (fun _ => ?_) (fun c9 => absurd c9 (by decide))
              refine lv_iload_n hx hb dX7_faultOf_84 rfl (lv_at hl 3 rfl) ?_
              refine lv_if_ne (tgt := 100) hx hb dX7_faultOf_85 (by decide) (fun _ => ?_) (fun c9 => absurd c9 c3)
              refine lv_iconst (v := 0) hx hb dX7_faultOf_100 (by decide) ?_
              refine lv_istore_n (lv' := [(1, .int 0), (4, .int 1), (3, .int ((S0.2 13) (y2 : Int32).toNatClampNeg)), (0, .ref (ad 0)), (2, .int y2)]) hx hb dX7_faultOf_101 rfl hl (by decide) rfl (fun ls hl => ?_)
              refine lv_iinc (v := (y2 + 1)) (lv' := [(2, .int (y2 + 1)), (1, .int 0), (4, .int 1), (3, .int ((S0.2 13) (y2 : Int32).toNatClampNeg)), (0, .ref (ad 0))]) hx hb dX7_faultOf_102 hl (k := 4) rfl rfl (by decide) rfl (fun ls hl => ?_)
              refine lv_goto (tgt := 4) hx hb dX7_faultOf_105 (by decide) ?_
              exact ih 0 (y2 + 1) _ (lv_sub hl [4, 1, 0] rfl) hw
            · have hw := Eq.mp (if_neg c7) hw
              refine lv_iload_n hx hb dX7_faultOf_37 rfl (lv_at hl 0 rfl) ?_
              refine lv_bipush (v := 100) hx hb dX7_faultOf_38 (by decide) ?_
              refine lv_icmp_eq (tgt := 70) hx hb dX7_faultOf_40 (by decide) (fun c8 => ?_) (fun c8 => ?_)
              · have hw := Eq.mp (if_pos c8) hw
                refine lv_iconst (v := 1) hx hb dX7_faultOf_70 (by decide) ?_
                refine lv_goto (tgt := 75) hx hb dX7_faultOf_71 (by decide) ?_
                refine lv_istore (lv' := [(4, .int 1), (3, .int ((S0.2 13) (y2 : Int32).toNatClampNeg)), (0, .ref (ad 0)), (1, .int y1), (2, .int y2)]) hx hb dX7_faultOf_75 hl (by decide) rfl (fun ls hl => ?_)
                refine lv_iload hx hb dX7_faultOf_77 (lv_at hl 0 rfl) ?_
                refine lv_if_ne (tgt := 84) hx hb dX7_faultOf_79 (by decide) (fun _ => ?_) (fun c9 => absurd c9 (by decide))
                refine lv_iload_n hx hb dX7_faultOf_84 rfl (lv_at hl 3 rfl) ?_
                refine lv_if_ne (tgt := 100) hx hb dX7_faultOf_85 (by decide) (fun _ => ?_) (fun c9 => absurd c9 c3)
                refine lv_iconst (v := 0) hx hb dX7_faultOf_100 (by decide) ?_
                refine lv_istore_n (lv' := [(1, .int 0), (4, .int 1), (3, .int ((S0.2 13) (y2 : Int32).toNatClampNeg)), (0, .ref (ad 0)), (2, .int y2)]) hx hb dX7_faultOf_101 rfl hl (by decide) rfl (fun ls hl => ?_)
                refine lv_iinc (v := (y2 + 1)) (lv' := [(2, .int (y2 + 1)), (1, .int 0), (4, .int 1), (3, .int ((S0.2 13) (y2 : Int32).toNatClampNeg)), (0, .ref (ad 0))]) hx hb dX7_faultOf_102 hl (k := 4) rfl rfl (by decide) rfl (fun ls hl => ?_)
                refine lv_goto (tgt := 4) hx hb dX7_faultOf_105 (by decide) ?_
                exact ih 0 (y2 + 1) _ (lv_sub hl [4, 1, 0] rfl) hw
              · have hw := Eq.mp (if_neg c8) hw
                refine lv_iload_n hx hb dX7_faultOf_43 rfl (lv_at hl 0 rfl) ?_
                refine lv_bipush (v := 109) hx hb dX7_faultOf_44 (by decide) ?_
                refine lv_icmp_ne (tgt := 74) hx hb dX7_faultOf_46 (by decide) (fun c9 => ?_) (fun c9 => ?_)
                · have hw := Eq.mp (if_neg c9) hw
                  refine lv_iconst (v := 0) hx hb dX7_faultOf_74 (by decide) ?_
                  refine lv_istore (lv' := [(4, .int 0), (3, .int ((S0.2 13) (y2 : Int32).toNatClampNeg)), (0, .ref (ad 0)), (1, .int y1), (2, .int y2)]) hx hb dX7_faultOf_75 hl (by decide) rfl (fun ls hl => ?_)
                  refine lv_iload hx hb dX7_faultOf_77 (lv_at hl 0 rfl) ?_
                  refine lv_if_ne (tgt := 84) hx hb dX7_faultOf_79 (by decide) (fun c9 => absurd (by decide) c9) (fun _ => ?_)
                  refine lv_iload_n hx hb dX7_faultOf_82 rfl (lv_at hl 4 rfl) ?_
                  exact W.iret (v := y2) hx hb hr (fun t ht _ => ⟨⟨_, rfl, ⟨_, rfl, hw⟩⟩, ht⟩) (fun _ h => by cases h) dX7_faultOf_83
                · have hw := Eq.mp (if_pos c9) hw
                  refine lv_goto (tgt := 70) hx hb dX7_faultOf_49 (by decide) ?_
                  refine lv_iconst (v := 1) hx hb dX7_faultOf_70 (by decide) ?_
                  refine lv_goto (tgt := 75) hx hb dX7_faultOf_71 (by decide) ?_
                  refine lv_istore (lv' := [(4, .int 1), (3, .int ((S0.2 13) (y2 : Int32).toNatClampNeg)), (0, .ref (ad 0)), (1, .int y1), (2, .int y2)]) hx hb dX7_faultOf_75 hl (by decide) rfl (fun ls hl => ?_)
                  refine lv_iload hx hb dX7_faultOf_77 (lv_at hl 0 rfl) ?_
                  refine lv_if_ne (tgt := 84) hx hb dX7_faultOf_79 (by decide) (fun _ => ?_) (fun c9 => absurd c9 (by decide))
                  refine lv_iload_n hx hb dX7_faultOf_84 rfl (lv_at hl 3 rfl) ?_
                  refine lv_if_ne (tgt := 100) hx hb dX7_faultOf_85 (by decide) (fun _ => ?_) (fun c9 => absurd c9 c3)
                  refine lv_iconst (v := 0) hx hb dX7_faultOf_100 (by decide) ?_
                  refine lv_istore_n (lv' := [(1, .int 0), (4, .int 1), (3, .int ((S0.2 13) (y2 : Int32).toNatClampNeg)), (0, .ref (ad 0)), (2, .int y2)]) hx hb dX7_faultOf_101 rfl hl (by decide) rfl (fun ls hl => ?_)
                  refine lv_iinc (v := (y2 + 1)) (lv' := [(2, .int (y2 + 1)), (1, .int 0), (4, .int 1), (3, .int ((S0.2 13) (y2 : Int32).toNatClampNeg)), (0, .ref (ad 0))]) hx hb dX7_faultOf_102 hl (k := 4) rfl rfl (by decide) rfl (fun ls hl => ?_)
                  refine lv_goto (tgt := 4) hx hb dX7_faultOf_105 (by decide) ?_
                  exact ih 0 (y2 + 1) _ (lv_sub hl [4, 1, 0] rfl) hw
  have hw : (∃ M13, wl_X7_faultOf_4 S0 (fun (v11 : Int32) => (if v11 = 0 then (k (-6)) else (k (S0.1 12)))) k M13 0 0) := hw
  refine lv_iconst (v := 0) hx hb dX7_faultOf_0 (by decide) ?_
  refine lv_istore_n (lv' := [(1, .int 0), (0, .ref (ad 0))]) hx hb dX7_faultOf_1 rfl hl (by decide) rfl (fun ls hl => ?_)
  refine lv_iconst (v := 0) hx hb dX7_faultOf_2 (by decide) ?_
  refine lv_istore_n (lv' := [(2, .int 0), (1, .int 0), (0, .ref (ad 0))]) hx hb dX7_faultOf_3 rfl hl (by decide) rfl (fun ls hl => ?_)
  obtain ⟨N14, hw⟩ := hw
  refine L4  _ (fun v11 ls hl hw => ?_) N14 0 0 _ (lv_sub hl [2, 1, 0] rfl) hw
  refine lv_iload_n hx hb dX7_faultOf_108 rfl (lv_at hl 1 rfl) ?_
  refine lv_if_eq (tgt := 119) hx hb dX7_faultOf_109 (by decide) (fun c12 => ?_) (fun c12 => ?_)
  · have hw := Eq.mp (if_pos c12) hw
    refine lv_bipush (v := (-6)) hx hb dX7_faultOf_119 (by decide) ?_
    exact W.iret (v := (-6)) hx hb hr (fun t ht _ => ⟨⟨_, rfl, ⟨_, rfl, hw⟩⟩, ht⟩) (fun _ h => by cases h) dX7_faultOf_121
  · have hw := Eq.mp (if_neg c12) hw
    refine lv_aload_n hx hb dX7_faultOf_112 rfl (lv_at hl 0 rfl) ?_
    refine va_get (D := D) (ci := 7) (v := .int (S0.1 12)) (C := RX7) (T := TX7) (N := 27) hx hb hW inW_X7 hown hK hP 0 rfl rfl 12 (by decide) (hW _ fl_X7_86) (fun _ h9 => h9) rfl dX7_faultOf_113 ?_
    refine lv_goto (tgt := 121) hx hb dX7_faultOf_116 (by decide) ?_
    exact W.iret (v := (S0.1 12)) hx hb hr (fun t ht _ => ⟨⟨_, rfl, ⟨_, rfl, hw⟩⟩, ht⟩) (fun _ h => by cases h) dX7_faultOf_121
set_option maxHeartbeats 4000000 in
set_option maxRecDepth 100000 in
theorem c_X7_fault (l : Launch) (D : va_G) (cI cZ : ClassId) (ad : Nat → Nat) (S0 : St) (k : Int32 → Prop) (hw : wp_X7_fault S0 k) : KR l yX7_fault cX7_fault 1 (some .int) 4 88 D cI cZ [.ref (ad 0)] [mcells cI cZ ad 0 S0] (fun v => ∃ r, v = some (.int r) ∧ k r) := by
  refine Met.ofE (by decide +kernel) (Nat.le_of_ble_eq_true rfl) ?_
  intro p e s m below meth c E ls hl
  obtain ⟨hx, hb, hr, hml, hW, hown, hlocks, hP, hK, hD, hN⟩ := E
  have hl : lv_has ls 1 [(0, .ref (ad 0))] := hl
  have hw : (wp_X7_faultOf S0 (fun (v1 : Int32) => (k v1))) := hw
  refine lv_aload_n hx hb dX7_fault_0 rfl (lv_at hl 0 rfl) ?_
  refine callR (va_runV (As := []) (rest := []) ⟨hx, hb, hml, hown, hW⟩ (c_X7_faultOf l D cI cZ ad  S0 _ hw) (cwV0 hW mV_X7_faultOf ml_X7_92 ⟨Nat.le_of_ble_eq_true rfl, Nat.le_of_ble_eq_true rfl⟩) (preV0 0 rfl rfl hK hN hP hD [0] rfl rfl) rfl rfl hl.1 rfl (lv_room (Nat.le_of_ble_eq_true rfl)) dX7_fault_1 ⟨Nat.le_refl _, Nat.le_refl _⟩) (fun v9 hq => ?_)
  obtain ⟨v1, rfl, hw⟩ := hq
  refine W.eq (g2 := F0 m 4 ls [.int v1]) rfl ?_
  exact W.iret (v := v1) hx hb hr (fun t ht _ => ⟨⟨_, rfl, ⟨_, rfl, hw⟩⟩, ht⟩) (fun _ h => by cases h) dX7_fault_4
set_option maxHeartbeats 4000000 in
set_option maxRecDepth 100000 in
theorem c_X7_asNow (l : Launch) (D : va_G) (cI cZ : ClassId) (ad : Nat → Nat) (S0 : St) (k : St → Prop) (hw : wp_X7_asNow S0 k) : KW l yX7_asNow cX7_asNow 2 none 0 0 D cI cZ [.ref (ad 0)] [mcells cI cZ ad 0 S0] (fun v (u : St) => v = none ∧ k u) (fun u : St => [mcells cI cZ ad 0 u]) := by
  refine Met.ofE (by decide +kernel) (Nat.le_of_ble_eq_true rfl) ?_
  intro p e s m below meth c E ls hl
  obtain ⟨hx, hb, hr, hml, hW, hown, hlocks, hP, hK, hD, hN⟩ := E
  have hl : lv_has ls 2 [(0, .ref (ad 0))] := hl
  have hS : va_S (cOf (jn [mcells cI cZ ad 0 S0])) s.heap s.heap [] := va_S.rf
  have L26 : ∀  (kx : St → Prop), (∀ (S0q : St) (H : Heap) (locs : List Loc), va_P D classes (jn [mcells cI cZ ad 0 S0q]) H → va_D (cOf (jn [mcells cI cZ ad 0 S0])) (jn [mcells cI cZ ad 0 S0q]) → va_S (cOf (jn [mcells cI cZ ad 0 S0])) s.heap H locs → ∀ ls : Array Slot, lv_has ls 2 [] → kx S0q → W p l e { frames := 0, cells := 0, slots := 0, locals := 0 } s m ([.ref (ad 0)] : List Value).toArray below meth c H locs 0 0 (MQ below (QW (fun v (u : St) => v = none ∧ k u) D (fun u : St => [mcells cI cZ ad 0 u]) [mcells cI cZ ad 0 S0]) ([.ref (ad 0)] : List Value).toArray s 0 0 (cOf (jn [mcells cI cZ ad 0 S0]))) (F0 m 81 ls [])) → ∀ (N26 : Nat) (y1 : Int32) (S0q : St) (H : Heap) (locs : List Loc), va_P D classes (jn [mcells cI cZ ad 0 S0q]) H → va_D (cOf (jn [mcells cI cZ ad 0 S0])) (jn [mcells cI cZ ad 0 S0q]) → va_S (cOf (jn [mcells cI cZ ad 0 S0])) s.heap H locs → ∀ ls : Array Slot, lv_has ls 2 [(0, .ref (ad 0)), (1, .int y1)] → wl_X7_asNow_26 kx N26 y1 S0q → W p l e { frames := 0, cells := 0, slots := 0, locals := 0 } s m ([.ref (ad 0)] : List Value).toArray below meth c H locs 0 0 (MQ below (QW (fun v (u : St) => v = none ∧ k u) D (fun u : St => [mcells cI cZ ad 0 u]) [mcells cI cZ ad 0 S0]) ([.ref (ad 0)] : List Value).toArray s 0 0 (cOf (jn [mcells cI cZ ad 0 S0]))) (F0 m 26 ls []) := by
    intro  kx hxt N26
    induction N26 with
    | zero => intro y1 S0q H locs hP hD hS ls hl hw; exact False.elim hw
    | succ N26 ih =>
      intro y1 S0q H locs hP hD hS ls hl hw
      have hw : (if 6 ≤ y1 then (kx S0q) else (vp_in y1 6 ∧ (vp_in y1 6 ∧ (vp_in y1 6 ∧ (vp_in y1 6 ∧ (vp_in y1 6 ∧ (vp_in y1 6 ∧ (vp_in y1 6 ∧ (wl_X7_asNow_26 kx N26 (y1 + 1) (sA (sA (sA (sA S0q 17 (upd (S0q.2 17) (y1 : Int32).toNatClampNeg ((S0q.2 5) (y1 : Int32).toNatClampNeg))) 18 (upd (S0q.2 18) (y1 : Int32).toNatClampNeg ((S0q.2 6) (y1 : Int32).toNatClampNeg))) 19 (upd (S0q.2 19) (y1 : Int32).toNatClampNeg ((S0q.2 7) (y1 : Int32).toNatClampNeg))) 20 (upd (S0q.2 20) (y1 : Int32).toNatClampNeg 0))))))))))) := hw
      refine lv_iload_n hx hb dX7_asNow_26 rfl (lv_at hl 1 rfl) ?_
      refine lv_bipush (v := 6) hx hb dX7_asNow_27 (by decide) ?_
      refine lv_icmp_ge (tgt := 81) hx hb dX7_asNow_29 (by decide) (fun c1 => ?_) (fun c1 => ?_)
      · have hw := Eq.mp (if_pos c1) hw
        exact hxt S0q _ _ hP hD hS _ (lv_sub hl [] rfl) hw
      · have hw := Eq.mp (if_neg c1) hw
        refine lv_aload_n hx hb dX7_asNow_32 rfl (lv_at hl 0 rfl) ?_
        refine va_get (D := D) (ci := 7) (v := .ref (ad (0 + 8))) (C := RX7) (T := TX7) (N := 27) hx hb hW inW_X7 hown hK hP 0 rfl rfl 17 (by decide) (hW _ fl_X7_38) (fun _ h9 => h9) rfl dX7_asNow_33 ?_
        refine lv_iload_n hx hb dX7_asNow_36 rfl (lv_at hl 1 rfl) ?_
        refine lv_aload_n hx hb dX7_asNow_37 rfl (lv_at hl 0 rfl) ?_
        refine va_get (D := D) (ci := 7) (v := .ref (ad (0 + 1))) (C := RX7) (T := TX7) (N := 27) hx hb hW inW_X7 hown hK hP 0 rfl rfl 5 (by decide) (hW _ fl_X7_16) (fun _ h9 => h9) rfl dX7_asNow_38 ?_
        refine lv_iload_n hx hb dX7_asNow_41 rfl (lv_at hl 1 rfl) ?_
        refine va_iald (f := (S0q.2 5)) hx hb hK hP 1 0 rfl rfl hw.1 dX7_asNow_42 ?_
        have hw := hw.2
        refine va_iast (f := (S0q.2 17)) hx hb hK hP hD hS 8 0 rfl rfl hw.1 dX7_asNow_43 (fun H locs hP hD hS => ?_)
        have hw := hw.2
        revert hw; revert hD; revert hP
        generalize (upd (S0q.2 17) (y1 : Int32).toNatClampNeg ((S0q.2 5) (y1 : Int32).toNatClampNeg)) = Z2
        intro hP hD hw
        have hP : va_P D classes (jn [mcells cI cZ ad 0 (sA S0q 17 Z2)]) H := ms_a17 (Φ := fun w => va_P D classes w H) (S := S0q) (v := Z2) hP
        have hD : va_D (cOf (jn [mcells cI cZ ad 0 S0])) (jn [mcells cI cZ ad 0 (sA S0q 17 Z2)]) := ms_a17 (Φ := fun w => va_D (cOf (jn [mcells cI cZ ad 0 S0])) w) (S := S0q) (v := Z2) hD
        refine lv_aload_n hx hb dX7_asNow_44 rfl (lv_at hl 0 rfl) ?_
        refine va_get (D := D) (ci := 7) (v := .ref (ad (0 + 9))) (C := RX7) (T := TX7) (N := 27) hx hb hW inW_X7 hown hK hP 0 rfl rfl 18 (by decide) (hW _ fl_X7_41) (fun _ h9 => h9) rfl dX7_asNow_45 ?_
        refine lv_iload_n hx hb dX7_asNow_48 rfl (lv_at hl 1 rfl) ?_
        refine lv_aload_n hx hb dX7_asNow_49 rfl (lv_at hl 0 rfl) ?_
        refine va_get (D := D) (ci := 7) (v := .ref (ad (0 + 2))) (C := RX7) (T := TX7) (N := 27) hx hb hW inW_X7 hown hK hP 0 rfl rfl 6 (by decide) (hW _ fl_X7_20) (fun _ h9 => h9) rfl dX7_asNow_50 ?_
        refine lv_iload_n hx hb dX7_asNow_53 rfl (lv_at hl 1 rfl) ?_
        refine va_iald (f := (S0q.2 6)) hx hb hK hP 2 0 rfl rfl hw.1 dX7_asNow_54 ?_
        have hw := hw.2
        refine va_iast (f := (S0q.2 18)) hx hb hK hP hD hS 9 0 rfl rfl hw.1 dX7_asNow_55 (fun H locs hP hD hS => ?_)
        have hw := hw.2
        revert hw; revert hD; revert hP
        generalize (upd (S0q.2 18) (y1 : Int32).toNatClampNeg ((S0q.2 6) (y1 : Int32).toNatClampNeg)) = Z3
        intro hP hD hw
        have hP : va_P D classes (jn [mcells cI cZ ad 0 (sA (sA S0q 17 Z2) 18 Z3)]) H := ms_a18 (Φ := fun w => va_P D classes w H) (S := (sA S0q 17 Z2)) (v := Z3) hP
        have hD : va_D (cOf (jn [mcells cI cZ ad 0 S0])) (jn [mcells cI cZ ad 0 (sA (sA S0q 17 Z2) 18 Z3)]) := ms_a18 (Φ := fun w => va_D (cOf (jn [mcells cI cZ ad 0 S0])) w) (S := (sA S0q 17 Z2)) (v := Z3) hD
        refine lv_aload_n hx hb dX7_asNow_56 rfl (lv_at hl 0 rfl) ?_
        refine va_get (D := D) (ci := 7) (v := .ref (ad (0 + 10))) (C := RX7) (T := TX7) (N := 27) hx hb hW inW_X7 hown hK hP 0 rfl rfl 19 (by decide) (hW _ fl_X7_44) (fun _ h9 => h9) rfl dX7_asNow_57 ?_
        refine lv_iload_n hx hb dX7_asNow_60 rfl (lv_at hl 1 rfl) ?_
        refine lv_aload_n hx hb dX7_asNow_61 rfl (lv_at hl 0 rfl) ?_
        refine va_get (D := D) (ci := 7) (v := .ref (ad (0 + 3))) (C := RX7) (T := TX7) (N := 27) hx hb hW inW_X7 hown hK hP 0 rfl rfl 7 (by decide) (hW _ fl_X7_23) (fun _ h9 => h9) rfl dX7_asNow_62 ?_
        refine lv_iload_n hx hb dX7_asNow_65 rfl (lv_at hl 1 rfl) ?_
        refine va_iald (f := (S0q.2 7)) hx hb hK hP 3 0 rfl rfl hw.1 dX7_asNow_66 ?_
        have hw := hw.2
        refine va_iast (f := (S0q.2 19)) hx hb hK hP hD hS 10 0 rfl rfl hw.1 dX7_asNow_67 (fun H locs hP hD hS => ?_)
        have hw := hw.2
        revert hw; revert hD; revert hP
        generalize (upd (S0q.2 19) (y1 : Int32).toNatClampNeg ((S0q.2 7) (y1 : Int32).toNatClampNeg)) = Z4
        intro hP hD hw
        have hP : va_P D classes (jn [mcells cI cZ ad 0 (sA (sA (sA S0q 17 Z2) 18 Z3) 19 Z4)]) H := ms_a19 (Φ := fun w => va_P D classes w H) (S := (sA (sA S0q 17 Z2) 18 Z3)) (v := Z4) hP
        have hD : va_D (cOf (jn [mcells cI cZ ad 0 S0])) (jn [mcells cI cZ ad 0 (sA (sA (sA S0q 17 Z2) 18 Z3) 19 Z4)]) := ms_a19 (Φ := fun w => va_D (cOf (jn [mcells cI cZ ad 0 S0])) w) (S := (sA (sA S0q 17 Z2) 18 Z3)) (v := Z4) hD
        refine lv_aload_n hx hb dX7_asNow_68 rfl (lv_at hl 0 rfl) ?_
        refine va_get (D := D) (ci := 7) (v := .ref (ad (0 + 11))) (C := RX7) (T := TX7) (N := 27) hx hb hW inW_X7 hown hK hP 0 rfl rfl 20 (by decide) (hW _ fl_X7_47) (fun _ h9 => h9) rfl dX7_asNow_69 ?_
        refine lv_iload_n hx hb dX7_asNow_72 rfl (lv_at hl 1 rfl) ?_
        refine lv_iconst (v := 0) hx hb dX7_asNow_73 (by decide) ?_
        refine va_iast (f := (S0q.2 20)) hx hb hK hP hD hS 11 0 rfl rfl hw.1 dX7_asNow_74 (fun H locs hP hD hS => ?_)
        have hw := hw.2
        revert hw; revert hD; revert hP
        generalize (upd (S0q.2 20) (y1 : Int32).toNatClampNeg 0) = Z5
        intro hP hD hw
        have hP : va_P D classes (jn [mcells cI cZ ad 0 (sA (sA (sA (sA S0q 17 Z2) 18 Z3) 19 Z4) 20 Z5)]) H := ms_a20 (Φ := fun w => va_P D classes w H) (S := (sA (sA (sA S0q 17 Z2) 18 Z3) 19 Z4)) (v := Z5) hP
        have hD : va_D (cOf (jn [mcells cI cZ ad 0 S0])) (jn [mcells cI cZ ad 0 (sA (sA (sA (sA S0q 17 Z2) 18 Z3) 19 Z4) 20 Z5)]) := ms_a20 (Φ := fun w => va_D (cOf (jn [mcells cI cZ ad 0 S0])) w) (S := (sA (sA (sA S0q 17 Z2) 18 Z3) 19 Z4)) (v := Z5) hD
        refine lv_iinc (v := (y1 + 1)) (lv' := [(1, .int (y1 + 1)), (0, .ref (ad 0))]) hx hb dX7_asNow_75 hl (k := 1) rfl rfl (by decide) rfl (fun ls hl => ?_)
        refine lv_goto (tgt := 26) hx hb dX7_asNow_78 (by decide) ?_
        exact ih (y1 + 1) (sA (sA (sA (sA S0q 17 Z2) 18 Z3) 19 Z4) 20 Z5) _ _ hP hD hS _ (lv_sub hl [1, 0] rfl) hw
  have hw : (∃ M7, wl_X7_asNow_26 (fun (Z6 : St) => (k Z6)) M7 0 (sI (sI (sI S0 14 (S0.1 2)) 15 (S0.1 3)) 16 (S0.1 4))) := hw
  refine lv_aload_n hx hb dX7_asNow_0 rfl (lv_at hl 0 rfl) ?_
  refine lv_aload_n hx hb dX7_asNow_1 rfl (lv_at hl 0 rfl) ?_
  refine va_get (D := D) (ci := 7) (v := .int (S0.1 2)) (C := RX7) (T := TX7) (N := 27) hx hb hW inW_X7 hown hK hP 0 rfl rfl 2 (by decide) (hW _ fl_X7_66) (fun _ h9 => h9) rfl dX7_asNow_2 ?_
  refine va_put (D := D) (ci := 7) (v := .int (S0.1 2)) (ty := .int) (C := RX7) (T := TX7) (N := 27) hx hb hW inW_X7 tyX7 tyX7_ok nmX7 hown hK hP hD hS 0 rfl rfl 14 (by decide) (hW _ fl_X7_96) (fun _ h9 => h9) rfl (by decide +kernel) rfl rfl (Nat.le_of_ble_eq_true rfl) dX7_asNow_5 (fun H locs hP hD hS => ?_)
  have hP : va_P D classes (jn [mcells cI cZ ad 0 (sI S0 14 (S0.1 2))]) H := ms_i14 (Φ := fun w => va_P D classes w H) (S := S0) (v := (S0.1 2)) hP
  have hD : va_D (cOf (jn [mcells cI cZ ad 0 S0])) (jn [mcells cI cZ ad 0 (sI S0 14 (S0.1 2))]) := ms_i14 (Φ := fun w => va_D (cOf (jn [mcells cI cZ ad 0 S0])) w) (S := S0) (v := (S0.1 2)) hD
  refine lv_aload_n hx hb dX7_asNow_8 rfl (lv_at hl 0 rfl) ?_
  refine lv_aload_n hx hb dX7_asNow_9 rfl (lv_at hl 0 rfl) ?_
  refine va_get (D := D) (ci := 7) (v := .int (S0.1 3)) (C := RX7) (T := TX7) (N := 27) hx hb hW inW_X7 hown hK hP 0 rfl rfl 3 (by decide) (hW _ fl_X7_69) (fun _ h9 => h9) rfl dX7_asNow_10 ?_
  refine va_put (D := D) (ci := 7) (v := .int (S0.1 3)) (ty := .int) (C := RX7) (T := TX7) (N := 27) hx hb hW inW_X7 tyX7 tyX7_ok nmX7 hown hK hP hD hS 0 rfl rfl 15 (by decide) (hW _ fl_X7_99) (fun _ h9 => h9) rfl (by decide +kernel) rfl rfl (Nat.le_of_ble_eq_true rfl) dX7_asNow_13 (fun H locs hP hD hS => ?_)
  have hP : va_P D classes (jn [mcells cI cZ ad 0 (sI (sI S0 14 (S0.1 2)) 15 (S0.1 3))]) H := ms_i15 (Φ := fun w => va_P D classes w H) (S := (sI S0 14 (S0.1 2))) (v := (S0.1 3)) hP
  have hD : va_D (cOf (jn [mcells cI cZ ad 0 S0])) (jn [mcells cI cZ ad 0 (sI (sI S0 14 (S0.1 2)) 15 (S0.1 3))]) := ms_i15 (Φ := fun w => va_D (cOf (jn [mcells cI cZ ad 0 S0])) w) (S := (sI S0 14 (S0.1 2))) (v := (S0.1 3)) hD
  refine lv_aload_n hx hb dX7_asNow_16 rfl (lv_at hl 0 rfl) ?_
  refine lv_aload_n hx hb dX7_asNow_17 rfl (lv_at hl 0 rfl) ?_
  refine va_get (D := D) (ci := 7) (v := .int (S0.1 4)) (C := RX7) (T := TX7) (N := 27) hx hb hW inW_X7 hown hK hP 0 rfl rfl 4 (by decide) (hW _ fl_X7_72) (fun _ h9 => h9) rfl dX7_asNow_18 ?_
  refine va_put (D := D) (ci := 7) (v := .int (S0.1 4)) (ty := .int) (C := RX7) (T := TX7) (N := 27) hx hb hW inW_X7 tyX7 tyX7_ok nmX7 hown hK hP hD hS 0 rfl rfl 16 (by decide) (hW _ fl_X7_102) (fun _ h9 => h9) rfl (by decide +kernel) rfl rfl (Nat.le_of_ble_eq_true rfl) dX7_asNow_21 (fun H locs hP hD hS => ?_)
  have hP : va_P D classes (jn [mcells cI cZ ad 0 (sI (sI (sI S0 14 (S0.1 2)) 15 (S0.1 3)) 16 (S0.1 4))]) H := ms_i16 (Φ := fun w => va_P D classes w H) (S := (sI (sI S0 14 (S0.1 2)) 15 (S0.1 3))) (v := (S0.1 4)) hP
  have hD : va_D (cOf (jn [mcells cI cZ ad 0 S0])) (jn [mcells cI cZ ad 0 (sI (sI (sI S0 14 (S0.1 2)) 15 (S0.1 3)) 16 (S0.1 4))]) := ms_i16 (Φ := fun w => va_D (cOf (jn [mcells cI cZ ad 0 S0])) w) (S := (sI (sI S0 14 (S0.1 2)) 15 (S0.1 3))) (v := (S0.1 4)) hD
  refine lv_iconst (v := 0) hx hb dX7_asNow_24 (by decide) ?_
  refine lv_istore_n (lv' := [(1, .int 0), (0, .ref (ad 0))]) hx hb dX7_asNow_25 rfl hl (by decide) rfl (fun ls hl => ?_)
  obtain ⟨N8, hw⟩ := hw
  refine L26  _ (fun Z6 H locs hP hD hS ls hl hw => ?_) N8 0 (sI (sI (sI S0 14 (S0.1 2)) 15 (S0.1 3)) 16 (S0.1 4)) _ _ hP hD hS _ (lv_sub hl [1, 0] rfl) hw
  exact W.vret hx hb hr (fun t ht _ => ⟨⟨_, (Z6), rfl, ⟨rfl, hw⟩, by rw [ht]; exact hP⟩, hS.F ht⟩) hS.2.2 dX7_asNow_81
set_option maxHeartbeats 4000000 in
set_option maxRecDepth 100000 in
theorem c_X7_equinox (l : Launch) (D : va_G) (cI cZ : ClassId) (ad : Nat → Nat) (S0 : St) (k : St → Prop) (hw : wp_X7_equinox S0 k) : KW l yX7_equinox cX7_equinox 2 none 0 0 D cI cZ [.ref (ad 0)] [mcells cI cZ ad 0 S0] (fun v (u : St) => v = none ∧ k u) (fun u : St => [mcells cI cZ ad 0 u]) := by
  refine Met.ofE (by decide +kernel) (Nat.le_of_ble_eq_true rfl) ?_
  intro p e s m below meth c E ls hl
  obtain ⟨hx, hb, hr, hml, hW, hown, hlocks, hP, hK, hD, hN⟩ := E
  have hl : lv_has ls 2 [(0, .ref (ad 0))] := hl
  have hS : va_S (cOf (jn [mcells cI cZ ad 0 S0])) s.heap s.heap [] := va_S.rf
  have L2 : ∀  (kx : St → Prop), (∀ (S0q : St) (H : Heap) (locs : List Loc), va_P D classes (jn [mcells cI cZ ad 0 S0q]) H → va_D (cOf (jn [mcells cI cZ ad 0 S0])) (jn [mcells cI cZ ad 0 S0q]) → va_S (cOf (jn [mcells cI cZ ad 0 S0])) s.heap H locs → ∀ ls : Array Slot, lv_has ls 2 [(0, .ref (ad 0))] → kx S0q → W p l e { frames := 0, cells := 0, slots := 0, locals := 0 } s m ([.ref (ad 0)] : List Value).toArray below meth c H locs 0 0 (MQ below (QW (fun v (u : St) => v = none ∧ k u) D (fun u : St => [mcells cI cZ ad 0 u]) [mcells cI cZ ad 0 S0]) ([.ref (ad 0)] : List Value).toArray s 0 0 (cOf (jn [mcells cI cZ ad 0 S0]))) (F0 m 117 ls [])) → ∀ (N2 : Nat) (y1 : Int32) (S0q : St) (H : Heap) (locs : List Loc), va_P D classes (jn [mcells cI cZ ad 0 S0q]) H → va_D (cOf (jn [mcells cI cZ ad 0 S0])) (jn [mcells cI cZ ad 0 S0q]) → va_S (cOf (jn [mcells cI cZ ad 0 S0])) s.heap H locs → ∀ ls : Array Slot, lv_has ls 2 [(0, .ref (ad 0)), (1, .int y1)] → wl_X7_equinox_2 kx N2 y1 S0q → W p l e { frames := 0, cells := 0, slots := 0, locals := 0 } s m ([.ref (ad 0)] : List Value).toArray below meth c H locs 0 0 (MQ below (QW (fun v (u : St) => v = none ∧ k u) D (fun u : St => [mcells cI cZ ad 0 u]) [mcells cI cZ ad 0 S0]) ([.ref (ad 0)] : List Value).toArray s 0 0 (cOf (jn [mcells cI cZ ad 0 S0]))) (F0 m 2 ls []) := by
    intro  kx hxt N2
    induction N2 with
    | zero => intro y1 S0q H locs hP hD hS ls hl hw; exact False.elim hw
    | succ N2 ih =>
      intro y1 S0q H locs hP hD hS ls hl hw
      have hw : (if (S0q.1 0) ≤ y1 then (kx S0q) else (vp_in y1 6 ∧ (if ((S0q.2 17) (y1 : Int32).toNatClampNeg) < 0 then (vp_in y1 6 ∧ (if ((S0q.2 19) (y1 : Int32).toNatClampNeg) = 1 then (vp_in y1 6 ∧ (wl_X7_equinox_2 kx N2 (y1 + 1) (sA S0q 19 (upd (S0q.2 19) (y1 : Int32).toNatClampNeg 0)))) else (vp_in y1 6 ∧ (vp_in y1 6 ∧ (wl_X7_equinox_2 kx N2 (y1 + 1) (sA S0q 19 (upd (S0q.2 19) (y1 : Int32).toNatClampNeg ((S0q.2 19) (y1 : Int32).toNatClampNeg)))))))) else (vp_in y1 6 ∧ (if ((S0q.2 19) (y1 : Int32).toNatClampNeg) = 0 then (vp_in y1 6 ∧ (¬ (S0q.1 0) = 0 ∧ (if ((((S0q.2 17) (y1 : Int32).toNatClampNeg) + 1) - (((S0q.2 17) (y1 : Int32).toNatClampNeg) + 1) / (S0q.1 0) * (S0q.1 0)) = y1 then (¬ (S0q.1 0) = 0 ∧ (vp_in y1 6 ∧ (vp_in y1 6 ∧ (vp_in y1 6 ∧ (vp_in y1 6 ∧ (if ((S0q.2 19) (y1 : Int32).toNatClampNeg) = 1 then (vp_in y1 6 ∧ (wl_X7_equinox_2 kx N2 (y1 + 1) (sA (sA (sA S0q 17 (upd (S0q.2 17) (y1 : Int32).toNatClampNeg ((y1 + 1) - (y1 + 1) / (S0q.1 0) * (S0q.1 0)))) 20 (upd (S0q.2 20) (y1 : Int32).toNatClampNeg (((S0q.2 20) (y1 : Int32).toNatClampNeg) + 1))) 19 (upd (S0q.2 19) (y1 : Int32).toNatClampNeg 0)))) else (vp_in y1 6 ∧ (vp_in y1 6 ∧ (wl_X7_equinox_2 kx N2 (y1 + 1) (sA (sA (sA S0q 17 (upd (S0q.2 17) (y1 : Int32).toNatClampNeg ((y1 + 1) - (y1 + 1) / (S0q.1 0) * (S0q.1 0)))) 20 (upd (S0q.2 20) (y1 : Int32).toNatClampNeg (((S0q.2 20) (y1 : Int32).toNatClampNeg) + 1))) 19 (upd (S0q.2 19) (y1 : Int32).toNatClampNeg ((S0q.2 19) (y1 : Int32).toNatClampNeg)))))))))))) else (vp_in y1 6 ∧ (¬ (S0q.1 0) = 0 ∧ (vp_in y1 6 ∧ (vp_in y1 6 ∧ (vp_in y1 6 ∧ (vp_in y1 6 ∧ (if ((S0q.2 19) (y1 : Int32).toNatClampNeg) = 1 then (vp_in y1 6 ∧ (wl_X7_equinox_2 kx N2 (y1 + 1) (sA (sA (sA S0q 17 (upd (S0q.2 17) (y1 : Int32).toNatClampNeg ((((S0q.2 17) (y1 : Int32).toNatClampNeg) + 1) - (((S0q.2 17) (y1 : Int32).toNatClampNeg) + 1) / (S0q.1 0) * (S0q.1 0)))) 20 (upd (S0q.2 20) (y1 : Int32).toNatClampNeg (((S0q.2 20) (y1 : Int32).toNatClampNeg) + 1))) 19 (upd (S0q.2 19) (y1 : Int32).toNatClampNeg 0)))) else (vp_in y1 6 ∧ (vp_in y1 6 ∧ (wl_X7_equinox_2 kx N2 (y1 + 1) (sA (sA (sA S0q 17 (upd (S0q.2 17) (y1 : Int32).toNatClampNeg ((((S0q.2 17) (y1 : Int32).toNatClampNeg) + 1) - (((S0q.2 17) (y1 : Int32).toNatClampNeg) + 1) / (S0q.1 0) * (S0q.1 0)))) 20 (upd (S0q.2 20) (y1 : Int32).toNatClampNeg (((S0q.2 20) (y1 : Int32).toNatClampNeg) + 1))) 19 (upd (S0q.2 19) (y1 : Int32).toNatClampNeg ((S0q.2 19) (y1 : Int32).toNatClampNeg)))))))))))))))) else (vp_in y1 6 ∧ (if ((S0q.2 19) (y1 : Int32).toNatClampNeg) = 1 then (vp_in y1 6 ∧ (wl_X7_equinox_2 kx N2 (y1 + 1) (sA S0q 19 (upd (S0q.2 19) (y1 : Int32).toNatClampNeg 0)))) else (vp_in y1 6 ∧ (vp_in y1 6 ∧ (wl_X7_equinox_2 kx N2 (y1 + 1) (sA S0q 19 (upd (S0q.2 19) (y1 : Int32).toNatClampNeg ((S0q.2 19) (y1 : Int32).toNatClampNeg))))))))))))) := hw
      refine lv_iload_n hx hb dX7_equinox_2 rfl (lv_at hl 1 rfl) ?_
      refine lv_aload_n hx hb dX7_equinox_3 rfl (lv_at hl 0 rfl) ?_
      refine va_get (D := D) (ci := 7) (v := .int (S0q.1 0)) (C := RX7) (T := TX7) (N := 27) hx hb hW inW_X7 hown hK hP 0 rfl rfl 0 (by decide) (hW _ fl_X7_7) (fun _ h9 => h9) rfl dX7_equinox_4 ?_
      refine lv_icmp_ge (tgt := 117) hx hb dX7_equinox_7 (by decide) (fun c1 => ?_) (fun c1 => ?_)
      · have hw := Eq.mp (if_pos c1) hw
        exact hxt S0q _ _ hP hD hS _ (lv_sub hl [0] rfl) hw
      · have hw := Eq.mp (if_neg c1) hw
        refine lv_aload_n hx hb dX7_equinox_10 rfl (lv_at hl 0 rfl) ?_
        refine va_get (D := D) (ci := 7) (v := .ref (ad (0 + 8))) (C := RX7) (T := TX7) (N := 27) hx hb hW inW_X7 hown hK hP 0 rfl rfl 17 (by decide) (hW _ fl_X7_38) (fun _ h9 => h9) rfl dX7_equinox_11 ?_
        refine lv_iload_n hx hb dX7_equinox_14 rfl (lv_at hl 1 rfl) ?_
        refine va_iald (f := (S0q.2 17)) hx hb hK hP 8 0 rfl rfl hw.1 dX7_equinox_15 ?_
        have hw := hw.2
        refine lv_if_lt (tgt := 85) hx hb dX7_equinox_16 (by decide) (fun c2 => ?_) (fun c2 => ?_)
        · have hw := Eq.mp (if_pos c2) hw
          refine lv_aload_n hx hb dX7_equinox_85 rfl (lv_at hl 0 rfl) ?_
          refine va_get (D := D) (ci := 7) (v := .ref (ad (0 + 10))) (C := RX7) (T := TX7) (N := 27) hx hb hW inW_X7 hown hK hP 0 rfl rfl 19 (by decide) (hW _ fl_X7_44) (fun _ h9 => h9) rfl dX7_equinox_86 ?_
          refine lv_iload_n hx hb dX7_equinox_89 rfl (lv_at hl 1 rfl) ?_
          refine lv_aload_n hx hb dX7_equinox_90 rfl (lv_at hl 0 rfl) ?_
          refine va_get (D := D) (ci := 7) (v := .ref (ad (0 + 10))) (C := RX7) (T := TX7) (N := 27) hx hb hW inW_X7 hown hK hP 0 rfl rfl 19 (by decide) (hW _ fl_X7_44) (fun _ h9 => h9) rfl dX7_equinox_91 ?_
          refine lv_iload_n hx hb dX7_equinox_94 rfl (lv_at hl 1 rfl) ?_
          refine va_iald (f := (S0q.2 19)) hx hb hK hP 10 0 rfl rfl hw.1 dX7_equinox_95 ?_
          have hw := hw.2
          refine lv_iconst (v := 1) hx hb dX7_equinox_96 (by decide) ?_
          refine lv_icmp_ne (tgt := 104) hx hb dX7_equinox_97 (by decide) (fun c3 => ?_) (fun c3 => ?_)
          · have hw := Eq.mp (if_neg c3) hw
            refine lv_aload_n hx hb dX7_equinox_104 rfl (lv_at hl 0 rfl) ?_
            refine va_get (D := D) (ci := 7) (v := .ref (ad (0 + 10))) (C := RX7) (T := TX7) (N := 27) hx hb hW inW_X7 hown hK hP 0 rfl rfl 19 (by decide) (hW _ fl_X7_44) (fun _ h9 => h9) rfl dX7_equinox_105 ?_
            refine lv_iload_n hx hb dX7_equinox_108 rfl (lv_at hl 1 rfl) ?_
            refine va_iald (f := (S0q.2 19)) hx hb hK hP 10 0 rfl rfl hw.1 dX7_equinox_109 ?_
            have hw := hw.2
            refine va_iast (f := (S0q.2 19)) hx hb hK hP hD hS 10 0 rfl rfl hw.1 dX7_equinox_110 (fun H locs hP hD hS => ?_)
            have hw := hw.2
            revert hw; revert hD; revert hP
            generalize (upd (S0q.2 19) (y1 : Int32).toNatClampNeg ((S0q.2 19) (y1 : Int32).toNatClampNeg)) = Z5
            intro hP hD hw
            have hP : va_P D classes (jn [mcells cI cZ ad 0 (sA S0q 19 Z5)]) H := ms_a19 (Φ := fun w => va_P D classes w H) (S := S0q) (v := Z5) hP
            have hD : va_D (cOf (jn [mcells cI cZ ad 0 S0])) (jn [mcells cI cZ ad 0 (sA S0q 19 Z5)]) := ms_a19 (Φ := fun w => va_D (cOf (jn [mcells cI cZ ad 0 S0])) w) (S := S0q) (v := Z5) hD
            refine lv_iinc (v := (y1 + 1)) (lv' := [(1, .int (y1 + 1)), (0, .ref (ad 0))]) hx hb dX7_equinox_111 hl (k := 1) rfl rfl (by decide) rfl (fun ls hl => ?_)
            refine lv_goto (tgt := 2) hx hb dX7_equinox_114 (by decide) ?_
            exact ih (y1 + 1) (sA S0q 19 Z5) _ _ hP hD hS _ (lv_sub hl [1, 0] rfl) hw
          · have hw := Eq.mp (if_pos c3) hw
            refine lv_iconst (v := 0) hx hb dX7_equinox_100 (by decide) ?_
            refine lv_goto (tgt := 110) hx hb dX7_equinox_101 (by decide) ?_
            refine va_iast (f := (S0q.2 19)) hx hb hK hP hD hS 10 0 rfl rfl hw.1 dX7_equinox_110 (fun H locs hP hD hS => ?_)
            have hw := hw.2
            revert hw; revert hD; revert hP
            generalize (upd (S0q.2 19) (y1 : Int32).toNatClampNeg 0) = Z4
            intro hP hD hw
            have hP : va_P D classes (jn [mcells cI cZ ad 0 (sA S0q 19 Z4)]) H := ms_a19 (Φ := fun w => va_P D classes w H) (S := S0q) (v := Z4) hP
            have hD : va_D (cOf (jn [mcells cI cZ ad 0 S0])) (jn [mcells cI cZ ad 0 (sA S0q 19 Z4)]) := ms_a19 (Φ := fun w => va_D (cOf (jn [mcells cI cZ ad 0 S0])) w) (S := S0q) (v := Z4) hD
            refine lv_iinc (v := (y1 + 1)) (lv' := [(1, .int (y1 + 1)), (0, .ref (ad 0))]) hx hb dX7_equinox_111 hl (k := 1) rfl rfl (by decide) rfl (fun ls hl => ?_)
            refine lv_goto (tgt := 2) hx hb dX7_equinox_114 (by decide) ?_
            exact ih (y1 + 1) (sA S0q 19 Z4) _ _ hP hD hS _ (lv_sub hl [1, 0] rfl) hw
        · have hw := Eq.mp (if_neg c2) hw
          refine lv_aload_n hx hb dX7_equinox_19 rfl (lv_at hl 0 rfl) ?_
          refine va_get (D := D) (ci := 7) (v := .ref (ad (0 + 10))) (C := RX7) (T := TX7) (N := 27) hx hb hW inW_X7 hown hK hP 0 rfl rfl 19 (by decide) (hW _ fl_X7_44) (fun _ h9 => h9) rfl dX7_equinox_20 ?_
          refine lv_iload_n hx hb dX7_equinox_23 rfl (lv_at hl 1 rfl) ?_
          refine va_iald (f := (S0q.2 19)) hx hb hK hP 10 0 rfl rfl hw.1 dX7_equinox_24 ?_
          have hw := hw.2
          refine lv_if_ne (tgt := 85) hx hb dX7_equinox_25 (by decide) (fun c6 => ?_) (fun c6 => ?_)
          · have hw := Eq.mp (if_neg c6) hw
            refine lv_aload_n hx hb dX7_equinox_85 rfl (lv_at hl 0 rfl) ?_
            refine va_get (D := D) (ci := 7) (v := .ref (ad (0 + 10))) (C := RX7) (T := TX7) (N := 27) hx hb hW inW_X7 hown hK hP 0 rfl rfl 19 (by decide) (hW _ fl_X7_44) (fun _ h9 => h9) rfl dX7_equinox_86 ?_
            refine lv_iload_n hx hb dX7_equinox_89 rfl (lv_at hl 1 rfl) ?_
            refine lv_aload_n hx hb dX7_equinox_90 rfl (lv_at hl 0 rfl) ?_
            refine va_get (D := D) (ci := 7) (v := .ref (ad (0 + 10))) (C := RX7) (T := TX7) (N := 27) hx hb hW inW_X7 hown hK hP 0 rfl rfl 19 (by decide) (hW _ fl_X7_44) (fun _ h9 => h9) rfl dX7_equinox_91 ?_
            refine lv_iload_n hx hb dX7_equinox_94 rfl (lv_at hl 1 rfl) ?_
            refine va_iald (f := (S0q.2 19)) hx hb hK hP 10 0 rfl rfl hw.1 dX7_equinox_95 ?_
            have hw := hw.2
            refine lv_iconst (v := 1) hx hb dX7_equinox_96 (by decide) ?_
            refine lv_icmp_ne (tgt := 104) hx hb dX7_equinox_97 (by decide) (fun c18 => ?_) (fun c18 => ?_)
            · have hw := Eq.mp (if_neg c18) hw
              refine lv_aload_n hx hb dX7_equinox_104 rfl (lv_at hl 0 rfl) ?_
              refine va_get (D := D) (ci := 7) (v := .ref (ad (0 + 10))) (C := RX7) (T := TX7) (N := 27) hx hb hW inW_X7 hown hK hP 0 rfl rfl 19 (by decide) (hW _ fl_X7_44) (fun _ h9 => h9) rfl dX7_equinox_105 ?_
              refine lv_iload_n hx hb dX7_equinox_108 rfl (lv_at hl 1 rfl) ?_
              refine va_iald (f := (S0q.2 19)) hx hb hK hP 10 0 rfl rfl hw.1 dX7_equinox_109 ?_
              have hw := hw.2
              refine va_iast (f := (S0q.2 19)) hx hb hK hP hD hS 10 0 rfl rfl hw.1 dX7_equinox_110 (fun H locs hP hD hS => ?_)
              have hw := hw.2
              revert hw; revert hD; revert hP
              generalize (upd (S0q.2 19) (y1 : Int32).toNatClampNeg ((S0q.2 19) (y1 : Int32).toNatClampNeg)) = Z20
              intro hP hD hw
              have hP : va_P D classes (jn [mcells cI cZ ad 0 (sA S0q 19 Z20)]) H := ms_a19 (Φ := fun w => va_P D classes w H) (S := S0q) (v := Z20) hP
              have hD : va_D (cOf (jn [mcells cI cZ ad 0 S0])) (jn [mcells cI cZ ad 0 (sA S0q 19 Z20)]) := ms_a19 (Φ := fun w => va_D (cOf (jn [mcells cI cZ ad 0 S0])) w) (S := S0q) (v := Z20) hD
              refine lv_iinc (v := (y1 + 1)) (lv' := [(1, .int (y1 + 1)), (0, .ref (ad 0))]) hx hb dX7_equinox_111 hl (k := 1) rfl rfl (by decide) rfl (fun ls hl => ?_)
              refine lv_goto (tgt := 2) hx hb dX7_equinox_114 (by decide) ?_
              exact ih (y1 + 1) (sA S0q 19 Z20) _ _ hP hD hS _ (lv_sub hl [1, 0] rfl) hw
            · have hw := Eq.mp (if_pos c18) hw
              refine lv_iconst (v := 0) hx hb dX7_equinox_100 (by decide) ?_
              refine lv_goto (tgt := 110) hx hb dX7_equinox_101 (by decide) ?_
              refine va_iast (f := (S0q.2 19)) hx hb hK hP hD hS 10 0 rfl rfl hw.1 dX7_equinox_110 (fun H locs hP hD hS => ?_)
              have hw := hw.2
              revert hw; revert hD; revert hP
              generalize (upd (S0q.2 19) (y1 : Int32).toNatClampNeg 0) = Z19
              intro hP hD hw
              have hP : va_P D classes (jn [mcells cI cZ ad 0 (sA S0q 19 Z19)]) H := ms_a19 (Φ := fun w => va_P D classes w H) (S := S0q) (v := Z19) hP
              have hD : va_D (cOf (jn [mcells cI cZ ad 0 S0])) (jn [mcells cI cZ ad 0 (sA S0q 19 Z19)]) := ms_a19 (Φ := fun w => va_D (cOf (jn [mcells cI cZ ad 0 S0])) w) (S := S0q) (v := Z19) hD
              refine lv_iinc (v := (y1 + 1)) (lv' := [(1, .int (y1 + 1)), (0, .ref (ad 0))]) hx hb dX7_equinox_111 hl (k := 1) rfl rfl (by decide) rfl (fun ls hl => ?_)
              refine lv_goto (tgt := 2) hx hb dX7_equinox_114 (by decide) ?_
              exact ih (y1 + 1) (sA S0q 19 Z19) _ _ hP hD hS _ (lv_sub hl [1, 0] rfl) hw
          · have hw := Eq.mp (if_pos c6) hw
            refine lv_aload_n hx hb dX7_equinox_28 rfl (lv_at hl 0 rfl) ?_
            refine va_get (D := D) (ci := 7) (v := .ref (ad (0 + 8))) (C := RX7) (T := TX7) (N := 27) hx hb hW inW_X7 hown hK hP 0 rfl rfl 17 (by decide) (hW _ fl_X7_38) (fun _ h9 => h9) rfl dX7_equinox_29 ?_
            refine lv_iload_n hx hb dX7_equinox_32 rfl (lv_at hl 1 rfl) ?_
            refine lv_aload_n hx hb dX7_equinox_33 rfl (lv_at hl 0 rfl) ?_
            refine va_get (D := D) (ci := 7) (v := .ref (ad (0 + 8))) (C := RX7) (T := TX7) (N := 27) hx hb hW inW_X7 hown hK hP 0 rfl rfl 17 (by decide) (hW _ fl_X7_38) (fun _ h9 => h9) rfl dX7_equinox_34 ?_
            refine lv_iload_n hx hb dX7_equinox_37 rfl (lv_at hl 1 rfl) ?_
            refine va_iald (f := (S0q.2 17)) hx hb hK hP 8 0 rfl rfl hw.1 dX7_equinox_38 ?_
            have hw := hw.2
            refine lv_iconst (v := 1) hx hb dX7_equinox_39 (by decide) ?_
            refine lv_iadd hx hb dX7_equinox_40 ?_
            refine lv_aload_n hx hb dX7_equinox_41 rfl (lv_at hl 0 rfl) ?_
            refine va_get (D := D) (ci := 7) (v := .int (S0q.1 0)) (C := RX7) (T := TX7) (N := 27) hx hb hW inW_X7 hown hK hP 0 rfl rfl 0 (by decide) (hW _ fl_X7_7) (fun _ h9 => h9) rfl dX7_equinox_42 ?_
            refine lv_irem hx hb dX7_equinox_45 hw.1 ?_
            have hw := hw.2
            refine lv_iload_n hx hb dX7_equinox_46 rfl (lv_at hl 1 rfl) ?_
            refine lv_icmp_ne (tgt := 61) hx hb dX7_equinox_47 (by decide) (fun c7 => ?_) (fun c7 => ?_)
            · have hw := Eq.mp (if_neg c7) hw
              refine lv_aload_n hx hb dX7_equinox_61 rfl (lv_at hl 0 rfl) ?_
              refine va_get (D := D) (ci := 7) (v := .ref (ad (0 + 8))) (C := RX7) (T := TX7) (N := 27) hx hb hW inW_X7 hown hK hP 0 rfl rfl 17 (by decide) (hW _ fl_X7_38) (fun _ h9 => h9) rfl dX7_equinox_62 ?_
              refine lv_iload_n hx hb dX7_equinox_65 rfl (lv_at hl 1 rfl) ?_
              refine va_iald (f := (S0q.2 17)) hx hb hK hP 8 0 rfl rfl hw.1 dX7_equinox_66 ?_
              have hw := hw.2
              refine lv_iconst (v := 1) hx hb dX7_equinox_67 (by decide) ?_
              refine lv_iadd hx hb dX7_equinox_68 ?_
              refine lv_aload_n hx hb dX7_equinox_69 rfl (lv_at hl 0 rfl) ?_
              refine va_get (D := D) (ci := 7) (v := .int (S0q.1 0)) (C := RX7) (T := TX7) (N := 27) hx hb hW inW_X7 hown hK hP 0 rfl rfl 0 (by decide) (hW _ fl_X7_7) (fun _ h9 => h9) rfl dX7_equinox_70 ?_
              refine lv_irem hx hb dX7_equinox_73 hw.1 ?_
              have hw := hw.2
              refine va_iast (f := (S0q.2 17)) hx hb hK hP hD hS 8 0 rfl rfl hw.1 dX7_equinox_74 (fun H locs hP hD hS => ?_)
              have hw := hw.2
              revert hw; revert hD; revert hP
              generalize (upd (S0q.2 17) (y1 : Int32).toNatClampNeg ((((S0q.2 17) (y1 : Int32).toNatClampNeg) + 1) - (((S0q.2 17) (y1 : Int32).toNatClampNeg) + 1) / (S0q.1 0) * (S0q.1 0))) = Z13
              intro hP hD hw
              have hP : va_P D classes (jn [mcells cI cZ ad 0 (sA S0q 17 Z13)]) H := ms_a17 (Φ := fun w => va_P D classes w H) (S := S0q) (v := Z13) hP
              have hD : va_D (cOf (jn [mcells cI cZ ad 0 S0])) (jn [mcells cI cZ ad 0 (sA S0q 17 Z13)]) := ms_a17 (Φ := fun w => va_D (cOf (jn [mcells cI cZ ad 0 S0])) w) (S := S0q) (v := Z13) hD
              refine lv_aload_n hx hb dX7_equinox_75 rfl (lv_at hl 0 rfl) ?_
              refine va_get (D := D) (ci := 7) (v := .ref (ad (0 + 11))) (C := RX7) (T := TX7) (N := 27) hx hb hW inW_X7 hown hK hP 0 rfl rfl 20 (by decide) (hW _ fl_X7_47) (fun _ h9 => h9) rfl dX7_equinox_76 ?_
              refine lv_iload_n hx hb dX7_equinox_79 rfl (lv_at hl 1 rfl) ?_
              refine lv_dup2_11 hx hb dX7_equinox_80 rfl rfl ?_
              refine va_iald (f := (S0q.2 20)) hx hb hK hP 11 0 rfl rfl hw.1 dX7_equinox_81 ?_
              have hw := hw.2
              refine lv_iconst (v := 1) hx hb dX7_equinox_82 (by decide) ?_
              refine lv_iadd hx hb dX7_equinox_83 ?_
              refine va_iast (f := (S0q.2 20)) hx hb hK hP hD hS 11 0 rfl rfl hw.1 dX7_equinox_84 (fun H locs hP hD hS => ?_)
              have hw := hw.2
              revert hw; revert hD; revert hP
              generalize (upd (S0q.2 20) (y1 : Int32).toNatClampNeg (((S0q.2 20) (y1 : Int32).toNatClampNeg) + 1)) = Z14
              intro hP hD hw
              have hP : va_P D classes (jn [mcells cI cZ ad 0 (sA (sA S0q 17 Z13) 20 Z14)]) H := ms_a20 (Φ := fun w => va_P D classes w H) (S := (sA S0q 17 Z13)) (v := Z14) hP
              have hD : va_D (cOf (jn [mcells cI cZ ad 0 S0])) (jn [mcells cI cZ ad 0 (sA (sA S0q 17 Z13) 20 Z14)]) := ms_a20 (Φ := fun w => va_D (cOf (jn [mcells cI cZ ad 0 S0])) w) (S := (sA S0q 17 Z13)) (v := Z14) hD
              refine lv_aload_n hx hb dX7_equinox_85 rfl (lv_at hl 0 rfl) ?_
              refine va_get (D := D) (ci := 7) (v := .ref (ad (0 + 10))) (C := RX7) (T := TX7) (N := 27) hx hb hW inW_X7 hown hK hP 0 rfl rfl 19 (by decide) (hW _ fl_X7_44) (fun _ h9 => h9) rfl dX7_equinox_86 ?_
              refine lv_iload_n hx hb dX7_equinox_89 rfl (lv_at hl 1 rfl) ?_
              refine lv_aload_n hx hb dX7_equinox_90 rfl (lv_at hl 0 rfl) ?_
              refine va_get (D := D) (ci := 7) (v := .ref (ad (0 + 10))) (C := RX7) (T := TX7) (N := 27) hx hb hW inW_X7 hown hK hP 0 rfl rfl 19 (by decide) (hW _ fl_X7_44) (fun _ h9 => h9) rfl dX7_equinox_91 ?_
              refine lv_iload_n hx hb dX7_equinox_94 rfl (lv_at hl 1 rfl) ?_
              refine va_iald (f := (S0q.2 19)) hx hb hK hP 10 0 rfl rfl hw.1 dX7_equinox_95 ?_
              have hw := hw.2
              refine lv_iconst (v := 1) hx hb dX7_equinox_96 (by decide) ?_
              refine lv_icmp_ne (tgt := 104) hx hb dX7_equinox_97 (by decide) (fun c15 => ?_) (fun c15 => ?_)
              · have hw := Eq.mp (if_neg c15) hw
                refine lv_aload_n hx hb dX7_equinox_104 rfl (lv_at hl 0 rfl) ?_
                refine va_get (D := D) (ci := 7) (v := .ref (ad (0 + 10))) (C := RX7) (T := TX7) (N := 27) hx hb hW inW_X7 hown hK hP 0 rfl rfl 19 (by decide) (hW _ fl_X7_44) (fun _ h9 => h9) rfl dX7_equinox_105 ?_
                refine lv_iload_n hx hb dX7_equinox_108 rfl (lv_at hl 1 rfl) ?_
                refine va_iald (f := (S0q.2 19)) hx hb hK hP 10 0 rfl rfl hw.1 dX7_equinox_109 ?_
                have hw := hw.2
                refine va_iast (f := (S0q.2 19)) hx hb hK hP hD hS 10 0 rfl rfl hw.1 dX7_equinox_110 (fun H locs hP hD hS => ?_)
                have hw := hw.2
                revert hw; revert hD; revert hP
                generalize (upd (S0q.2 19) (y1 : Int32).toNatClampNeg ((S0q.2 19) (y1 : Int32).toNatClampNeg)) = Z17
                intro hP hD hw
                have hP : va_P D classes (jn [mcells cI cZ ad 0 (sA (sA (sA S0q 17 Z13) 20 Z14) 19 Z17)]) H := ms_a19 (Φ := fun w => va_P D classes w H) (S := (sA (sA S0q 17 Z13) 20 Z14)) (v := Z17) hP
                have hD : va_D (cOf (jn [mcells cI cZ ad 0 S0])) (jn [mcells cI cZ ad 0 (sA (sA (sA S0q 17 Z13) 20 Z14) 19 Z17)]) := ms_a19 (Φ := fun w => va_D (cOf (jn [mcells cI cZ ad 0 S0])) w) (S := (sA (sA S0q 17 Z13) 20 Z14)) (v := Z17) hD
                refine lv_iinc (v := (y1 + 1)) (lv' := [(1, .int (y1 + 1)), (0, .ref (ad 0))]) hx hb dX7_equinox_111 hl (k := 1) rfl rfl (by decide) rfl (fun ls hl => ?_)
                refine lv_goto (tgt := 2) hx hb dX7_equinox_114 (by decide) ?_
                exact ih (y1 + 1) (sA (sA (sA S0q 17 Z13) 20 Z14) 19 Z17) _ _ hP hD hS _ (lv_sub hl [1, 0] rfl) hw
              · have hw := Eq.mp (if_pos c15) hw
                refine lv_iconst (v := 0) hx hb dX7_equinox_100 (by decide) ?_
                refine lv_goto (tgt := 110) hx hb dX7_equinox_101 (by decide) ?_
                refine va_iast (f := (S0q.2 19)) hx hb hK hP hD hS 10 0 rfl rfl hw.1 dX7_equinox_110 (fun H locs hP hD hS => ?_)
                have hw := hw.2
                revert hw; revert hD; revert hP
                generalize (upd (S0q.2 19) (y1 : Int32).toNatClampNeg 0) = Z16
                intro hP hD hw
                have hP : va_P D classes (jn [mcells cI cZ ad 0 (sA (sA (sA S0q 17 Z13) 20 Z14) 19 Z16)]) H := ms_a19 (Φ := fun w => va_P D classes w H) (S := (sA (sA S0q 17 Z13) 20 Z14)) (v := Z16) hP
                have hD : va_D (cOf (jn [mcells cI cZ ad 0 S0])) (jn [mcells cI cZ ad 0 (sA (sA (sA S0q 17 Z13) 20 Z14) 19 Z16)]) := ms_a19 (Φ := fun w => va_D (cOf (jn [mcells cI cZ ad 0 S0])) w) (S := (sA (sA S0q 17 Z13) 20 Z14)) (v := Z16) hD
                refine lv_iinc (v := (y1 + 1)) (lv' := [(1, .int (y1 + 1)), (0, .ref (ad 0))]) hx hb dX7_equinox_111 hl (k := 1) rfl rfl (by decide) rfl (fun ls hl => ?_)
                refine lv_goto (tgt := 2) hx hb dX7_equinox_114 (by decide) ?_
                exact ih (y1 + 1) (sA (sA (sA S0q 17 Z13) 20 Z14) 19 Z16) _ _ hP hD hS _ (lv_sub hl [1, 0] rfl) hw
            · have hw := Eq.mp (if_pos c7) hw
              refine lv_iload_n hx hb dX7_equinox_50 rfl (lv_at hl 1 rfl) ?_
              refine lv_iconst (v := 1) hx hb dX7_equinox_51 (by decide) ?_
              refine lv_iadd hx hb dX7_equinox_52 ?_
              refine lv_aload_n hx hb dX7_equinox_53 rfl (lv_at hl 0 rfl) ?_
              refine va_get (D := D) (ci := 7) (v := .int (S0q.1 0)) (C := RX7) (T := TX7) (N := 27) hx hb hW inW_X7 hown hK hP 0 rfl rfl 0 (by decide) (hW _ fl_X7_7) (fun _ h9 => h9) rfl dX7_equinox_54 ?_
              refine lv_irem hx hb dX7_equinox_57 hw.1 ?_
              have hw := hw.2
              refine lv_goto (tgt := 74) hx hb dX7_equinox_58 (by decide) ?_
              refine va_iast (f := (S0q.2 17)) hx hb hK hP hD hS 8 0 rfl rfl hw.1 dX7_equinox_74 (fun H locs hP hD hS => ?_)
              have hw := hw.2
              revert hw; revert hD; revert hP
              generalize (upd (S0q.2 17) (y1 : Int32).toNatClampNeg ((y1 + 1) - (y1 + 1) / (S0q.1 0) * (S0q.1 0))) = Z8
              intro hP hD hw
              have hP : va_P D classes (jn [mcells cI cZ ad 0 (sA S0q 17 Z8)]) H := ms_a17 (Φ := fun w => va_P D classes w H) (S := S0q) (v := Z8) hP
              have hD : va_D (cOf (jn [mcells cI cZ ad 0 S0])) (jn [mcells cI cZ ad 0 (sA S0q 17 Z8)]) := ms_a17 (Φ := fun w => va_D (cOf (jn [mcells cI cZ ad 0 S0])) w) (S := S0q) (v := Z8) hD
              refine lv_aload_n hx hb dX7_equinox_75 rfl (lv_at hl 0 rfl) ?_
              refine va_get (D := D) (ci := 7) (v := .ref (ad (0 + 11))) (C := RX7) (T := TX7) (N := 27) hx hb hW inW_X7 hown hK hP 0 rfl rfl 20 (by decide) (hW _ fl_X7_47) (fun _ h9 => h9) rfl dX7_equinox_76 ?_
              refine lv_iload_n hx hb dX7_equinox_79 rfl (lv_at hl 1 rfl) ?_
              refine lv_dup2_11 hx hb dX7_equinox_80 rfl rfl ?_
              refine va_iald (f := (S0q.2 20)) hx hb hK hP 11 0 rfl rfl hw.1 dX7_equinox_81 ?_
              have hw := hw.2
              refine lv_iconst (v := 1) hx hb dX7_equinox_82 (by decide) ?_
              refine lv_iadd hx hb dX7_equinox_83 ?_
              refine va_iast (f := (S0q.2 20)) hx hb hK hP hD hS 11 0 rfl rfl hw.1 dX7_equinox_84 (fun H locs hP hD hS => ?_)
              have hw := hw.2
              revert hw; revert hD; revert hP
              generalize (upd (S0q.2 20) (y1 : Int32).toNatClampNeg (((S0q.2 20) (y1 : Int32).toNatClampNeg) + 1)) = Z9
              intro hP hD hw
              have hP : va_P D classes (jn [mcells cI cZ ad 0 (sA (sA S0q 17 Z8) 20 Z9)]) H := ms_a20 (Φ := fun w => va_P D classes w H) (S := (sA S0q 17 Z8)) (v := Z9) hP
              have hD : va_D (cOf (jn [mcells cI cZ ad 0 S0])) (jn [mcells cI cZ ad 0 (sA (sA S0q 17 Z8) 20 Z9)]) := ms_a20 (Φ := fun w => va_D (cOf (jn [mcells cI cZ ad 0 S0])) w) (S := (sA S0q 17 Z8)) (v := Z9) hD
              refine lv_aload_n hx hb dX7_equinox_85 rfl (lv_at hl 0 rfl) ?_
              refine va_get (D := D) (ci := 7) (v := .ref (ad (0 + 10))) (C := RX7) (T := TX7) (N := 27) hx hb hW inW_X7 hown hK hP 0 rfl rfl 19 (by decide) (hW _ fl_X7_44) (fun _ h9 => h9) rfl dX7_equinox_86 ?_
              refine lv_iload_n hx hb dX7_equinox_89 rfl (lv_at hl 1 rfl) ?_
              refine lv_aload_n hx hb dX7_equinox_90 rfl (lv_at hl 0 rfl) ?_
              refine va_get (D := D) (ci := 7) (v := .ref (ad (0 + 10))) (C := RX7) (T := TX7) (N := 27) hx hb hW inW_X7 hown hK hP 0 rfl rfl 19 (by decide) (hW _ fl_X7_44) (fun _ h9 => h9) rfl dX7_equinox_91 ?_
              refine lv_iload_n hx hb dX7_equinox_94 rfl (lv_at hl 1 rfl) ?_
              refine va_iald (f := (S0q.2 19)) hx hb hK hP 10 0 rfl rfl hw.1 dX7_equinox_95 ?_
              have hw := hw.2
              refine lv_iconst (v := 1) hx hb dX7_equinox_96 (by decide) ?_
              refine lv_icmp_ne (tgt := 104) hx hb dX7_equinox_97 (by decide) (fun c10 => ?_) (fun c10 => ?_)
              · have hw := Eq.mp (if_neg c10) hw
                refine lv_aload_n hx hb dX7_equinox_104 rfl (lv_at hl 0 rfl) ?_
                refine va_get (D := D) (ci := 7) (v := .ref (ad (0 + 10))) (C := RX7) (T := TX7) (N := 27) hx hb hW inW_X7 hown hK hP 0 rfl rfl 19 (by decide) (hW _ fl_X7_44) (fun _ h9 => h9) rfl dX7_equinox_105 ?_
                refine lv_iload_n hx hb dX7_equinox_108 rfl (lv_at hl 1 rfl) ?_
                refine va_iald (f := (S0q.2 19)) hx hb hK hP 10 0 rfl rfl hw.1 dX7_equinox_109 ?_
                have hw := hw.2
                refine va_iast (f := (S0q.2 19)) hx hb hK hP hD hS 10 0 rfl rfl hw.1 dX7_equinox_110 (fun H locs hP hD hS => ?_)
                have hw := hw.2
                revert hw; revert hD; revert hP
                generalize (upd (S0q.2 19) (y1 : Int32).toNatClampNeg ((S0q.2 19) (y1 : Int32).toNatClampNeg)) = Z12
                intro hP hD hw
                have hP : va_P D classes (jn [mcells cI cZ ad 0 (sA (sA (sA S0q 17 Z8) 20 Z9) 19 Z12)]) H := ms_a19 (Φ := fun w => va_P D classes w H) (S := (sA (sA S0q 17 Z8) 20 Z9)) (v := Z12) hP
                have hD : va_D (cOf (jn [mcells cI cZ ad 0 S0])) (jn [mcells cI cZ ad 0 (sA (sA (sA S0q 17 Z8) 20 Z9) 19 Z12)]) := ms_a19 (Φ := fun w => va_D (cOf (jn [mcells cI cZ ad 0 S0])) w) (S := (sA (sA S0q 17 Z8) 20 Z9)) (v := Z12) hD
                refine lv_iinc (v := (y1 + 1)) (lv' := [(1, .int (y1 + 1)), (0, .ref (ad 0))]) hx hb dX7_equinox_111 hl (k := 1) rfl rfl (by decide) rfl (fun ls hl => ?_)
                refine lv_goto (tgt := 2) hx hb dX7_equinox_114 (by decide) ?_
                exact ih (y1 + 1) (sA (sA (sA S0q 17 Z8) 20 Z9) 19 Z12) _ _ hP hD hS _ (lv_sub hl [1, 0] rfl) hw
              · have hw := Eq.mp (if_pos c10) hw
                refine lv_iconst (v := 0) hx hb dX7_equinox_100 (by decide) ?_
                refine lv_goto (tgt := 110) hx hb dX7_equinox_101 (by decide) ?_
                refine va_iast (f := (S0q.2 19)) hx hb hK hP hD hS 10 0 rfl rfl hw.1 dX7_equinox_110 (fun H locs hP hD hS => ?_)
                have hw := hw.2
                revert hw; revert hD; revert hP
                generalize (upd (S0q.2 19) (y1 : Int32).toNatClampNeg 0) = Z11
                intro hP hD hw
                have hP : va_P D classes (jn [mcells cI cZ ad 0 (sA (sA (sA S0q 17 Z8) 20 Z9) 19 Z11)]) H := ms_a19 (Φ := fun w => va_P D classes w H) (S := (sA (sA S0q 17 Z8) 20 Z9)) (v := Z11) hP
                have hD : va_D (cOf (jn [mcells cI cZ ad 0 S0])) (jn [mcells cI cZ ad 0 (sA (sA (sA S0q 17 Z8) 20 Z9) 19 Z11)]) := ms_a19 (Φ := fun w => va_D (cOf (jn [mcells cI cZ ad 0 S0])) w) (S := (sA (sA S0q 17 Z8) 20 Z9)) (v := Z11) hD
                refine lv_iinc (v := (y1 + 1)) (lv' := [(1, .int (y1 + 1)), (0, .ref (ad 0))]) hx hb dX7_equinox_111 hl (k := 1) rfl rfl (by decide) rfl (fun ls hl => ?_)
                refine lv_goto (tgt := 2) hx hb dX7_equinox_114 (by decide) ?_
                exact ih (y1 + 1) (sA (sA (sA S0q 17 Z8) 20 Z9) 19 Z11) _ _ hP hD hS _ (lv_sub hl [1, 0] rfl) hw
  have hw : (∃ M22, wl_X7_equinox_2 (fun (Z21 : St) => (k (sI (sI Z21 15 ((Z21.1 15) + 1)) 16 0))) M22 0 S0) := hw
  refine lv_iconst (v := 0) hx hb dX7_equinox_0 (by decide) ?_
  refine lv_istore_n (lv' := [(1, .int 0), (0, .ref (ad 0))]) hx hb dX7_equinox_1 rfl hl (by decide) rfl (fun ls hl => ?_)
  obtain ⟨N23, hw⟩ := hw
  refine L2  _ (fun Z21 H locs hP hD hS ls hl hw => ?_) N23 0 S0 _ _ hP hD hS _ (lv_sub hl [1, 0] rfl) hw
  refine lv_aload_n hx hb dX7_equinox_117 rfl (lv_at hl 0 rfl) ?_
  refine lv_dup hx hb dX7_equinox_118 rfl ?_
  refine va_get (D := D) (ci := 7) (v := .int (Z21.1 15)) (C := RX7) (T := TX7) (N := 27) hx hb hW inW_X7 hown hK hP 0 rfl rfl 15 (by decide) (hW _ fl_X7_99) (fun _ h9 => h9) rfl dX7_equinox_119 ?_
  refine lv_iconst (v := 1) hx hb dX7_equinox_122 (by decide) ?_
  refine lv_iadd hx hb dX7_equinox_123 ?_
  refine va_put (D := D) (ci := 7) (v := .int ((Z21.1 15) + 1)) (ty := .int) (C := RX7) (T := TX7) (N := 27) hx hb hW inW_X7 tyX7 tyX7_ok nmX7 hown hK hP hD hS 0 rfl rfl 15 (by decide) (hW _ fl_X7_99) (fun _ h9 => h9) rfl (by decide +kernel) rfl rfl (Nat.le_of_ble_eq_true rfl) dX7_equinox_124 (fun H locs hP hD hS => ?_)
  have hP : va_P D classes (jn [mcells cI cZ ad 0 (sI Z21 15 ((Z21.1 15) + 1))]) H := ms_i15 (Φ := fun w => va_P D classes w H) (S := Z21) (v := ((Z21.1 15) + 1)) hP
  have hD : va_D (cOf (jn [mcells cI cZ ad 0 S0])) (jn [mcells cI cZ ad 0 (sI Z21 15 ((Z21.1 15) + 1))]) := ms_i15 (Φ := fun w => va_D (cOf (jn [mcells cI cZ ad 0 S0])) w) (S := Z21) (v := ((Z21.1 15) + 1)) hD
  refine lv_aload_n hx hb dX7_equinox_127 rfl (lv_at hl 0 rfl) ?_
  refine lv_iconst (v := 0) hx hb dX7_equinox_128 (by decide) ?_
  refine va_put (D := D) (ci := 7) (v := .int 0) (ty := .int) (C := RX7) (T := TX7) (N := 27) hx hb hW inW_X7 tyX7 tyX7_ok nmX7 hown hK hP hD hS 0 rfl rfl 16 (by decide) (hW _ fl_X7_102) (fun _ h9 => h9) rfl (by decide +kernel) rfl rfl (Nat.le_of_ble_eq_true rfl) dX7_equinox_129 (fun H locs hP hD hS => ?_)
  have hP : va_P D classes (jn [mcells cI cZ ad 0 (sI (sI Z21 15 ((Z21.1 15) + 1)) 16 0)]) H := ms_i16 (Φ := fun w => va_P D classes w H) (S := (sI Z21 15 ((Z21.1 15) + 1))) (v := 0) hP
  have hD : va_D (cOf (jn [mcells cI cZ ad 0 S0])) (jn [mcells cI cZ ad 0 (sI (sI Z21 15 ((Z21.1 15) + 1)) 16 0)]) := ms_i16 (Φ := fun w => va_D (cOf (jn [mcells cI cZ ad 0 S0])) w) (S := (sI Z21 15 ((Z21.1 15) + 1))) (v := 0) hD
  exact W.vret hx hb hr (fun t ht _ => ⟨⟨_, ((sI (sI Z21 15 ((Z21.1 15) + 1)) 16 0)), rfl, ⟨rfl, hw⟩, by rw [ht]; exact hP⟩, hS.F ht⟩) hS.2.2 dX7_equinox_132
set_option maxHeartbeats 4000000 in
set_option maxRecDepth 100000 in
theorem c_X7_days (l : Launch) (D : va_G) (cI cZ : ClassId) (ad : Nat → Nat) (S0 : St) (x1 : Int32) (k : St → Prop) (hw : wp_X7_days S0 x1 k) : KW l yX7_days cX7_days 3 none 1 21 D cI cZ [.ref (ad 0), .int x1] [mcells cI cZ ad 0 S0] (fun v (u : St) => v = none ∧ k u) (fun u : St => [mcells cI cZ ad 0 u]) := by
  refine Met.ofE (by decide +kernel) (Nat.le_of_ble_eq_true rfl) ?_
  intro p e s m below meth c E ls hl
  obtain ⟨hx, hb, hr, hml, hW, hown, hlocks, hP, hK, hD, hN⟩ := E
  have hl : lv_has ls 3 [(0, .ref (ad 0)), (1, .int x1)] := hl
  have hS : va_S (cOf (jn [mcells cI cZ ad 0 S0])) s.heap s.heap [] := va_S.rf
  have L2 : ∀  (kx : St → Prop), (∀ (S0q : St) (H : Heap) (locs : List Loc), va_P D classes (jn [mcells cI cZ ad 0 S0q]) H → va_D (cOf (jn [mcells cI cZ ad 0 S0])) (jn [mcells cI cZ ad 0 S0q]) → va_S (cOf (jn [mcells cI cZ ad 0 S0])) s.heap H locs → ∀ ls : Array Slot, lv_has ls 3 [] → kx S0q → W p l e { frames := 1, cells := 0, slots := 0, locals := 21 } s m ([.ref (ad 0), .int x1] : List Value).toArray below meth c H locs 0 0 (MQ below (QW (fun v (u : St) => v = none ∧ k u) D (fun u : St => [mcells cI cZ ad 0 u]) [mcells cI cZ ad 0 S0]) ([.ref (ad 0), .int x1] : List Value).toArray s 0 0 (cOf (jn [mcells cI cZ ad 0 S0]))) (F0 m 48 ls [])) → ∀ (N2 : Nat) (y2 : Int32) (S0q : St) (H : Heap) (locs : List Loc), va_P D classes (jn [mcells cI cZ ad 0 S0q]) H → va_D (cOf (jn [mcells cI cZ ad 0 S0])) (jn [mcells cI cZ ad 0 S0q]) → va_S (cOf (jn [mcells cI cZ ad 0 S0])) s.heap H locs → ∀ ls : Array Slot, lv_has ls 3 [(0, .ref (ad 0)), (1, .int x1), (2, .int y2)] → wl_X7_days_2 x1 kx N2 y2 S0q → W p l e { frames := 1, cells := 0, slots := 0, locals := 21 } s m ([.ref (ad 0), .int x1] : List Value).toArray below meth c H locs 0 0 (MQ below (QW (fun v (u : St) => v = none ∧ k u) D (fun u : St => [mcells cI cZ ad 0 u]) [mcells cI cZ ad 0 S0]) ([.ref (ad 0), .int x1] : List Value).toArray s 0 0 (cOf (jn [mcells cI cZ ad 0 S0]))) (F0 m 2 ls []) := by
    intro  kx hxt N2
    induction N2 with
    | zero => intro y2 S0q H locs hP hD hS ls hl hw; exact False.elim hw
    | succ N2 ih =>
      intro y2 S0q H locs hP hD hS ls hl hw
      have hw : (if x1 ≤ y2 then (kx S0q) else (if ((S0q.1 16) + 1) = (S0q.1 1) then (wp_X7_equinox (sI (sI S0q 14 ((S0q.1 14) + 1)) 16 ((S0q.1 16) + 1)) (fun (Z3 : St) => (wl_X7_days_2 x1 kx N2 (y2 + 1) Z3))) else (wl_X7_days_2 x1 kx N2 (y2 + 1) (sI (sI S0q 14 ((S0q.1 14) + 1)) 16 ((S0q.1 16) + 1))))) := hw
      refine lv_iload_n hx hb dX7_days_2 rfl (lv_at hl 2 rfl) ?_
      refine lv_iload_n hx hb dX7_days_3 rfl (lv_at hl 1 rfl) ?_
      refine lv_icmp_ge (tgt := 48) hx hb dX7_days_4 (by decide) (fun c1 => ?_) (fun c1 => ?_)
      · have hw := Eq.mp (if_pos c1) hw
        exact hxt S0q _ _ hP hD hS _ (lv_sub hl [] rfl) hw
      · have hw := Eq.mp (if_neg c1) hw
        refine lv_aload_n hx hb dX7_days_7 rfl (lv_at hl 0 rfl) ?_
        refine lv_dup hx hb dX7_days_8 rfl ?_
        refine va_get (D := D) (ci := 7) (v := .int (S0q.1 14)) (C := RX7) (T := TX7) (N := 27) hx hb hW inW_X7 hown hK hP 0 rfl rfl 14 (by decide) (hW _ fl_X7_96) (fun _ h9 => h9) rfl dX7_days_9 ?_
        refine lv_iconst (v := 1) hx hb dX7_days_12 (by decide) ?_
        refine lv_iadd hx hb dX7_days_13 ?_
        refine va_put (D := D) (ci := 7) (v := .int ((S0q.1 14) + 1)) (ty := .int) (C := RX7) (T := TX7) (N := 27) hx hb hW inW_X7 tyX7 tyX7_ok nmX7 hown hK hP hD hS 0 rfl rfl 14 (by decide) (hW _ fl_X7_96) (fun _ h9 => h9) rfl (by decide +kernel) rfl rfl (Nat.le_of_ble_eq_true rfl) dX7_days_14 (fun H locs hP hD hS => ?_)
        have hP : va_P D classes (jn [mcells cI cZ ad 0 (sI S0q 14 ((S0q.1 14) + 1))]) H := ms_i14 (Φ := fun w => va_P D classes w H) (S := S0q) (v := ((S0q.1 14) + 1)) hP
        have hD : va_D (cOf (jn [mcells cI cZ ad 0 S0])) (jn [mcells cI cZ ad 0 (sI S0q 14 ((S0q.1 14) + 1))]) := ms_i14 (Φ := fun w => va_D (cOf (jn [mcells cI cZ ad 0 S0])) w) (S := S0q) (v := ((S0q.1 14) + 1)) hD
        refine lv_aload_n hx hb dX7_days_17 rfl (lv_at hl 0 rfl) ?_
        refine lv_dup hx hb dX7_days_18 rfl ?_
        refine va_get (D := D) (ci := 7) (v := .int (S0q.1 16)) (C := RX7) (T := TX7) (N := 27) hx hb hW inW_X7 hown hK hP 0 rfl rfl 16 (by decide) (hW _ fl_X7_102) (fun _ h9 => h9) rfl dX7_days_19 ?_
        refine lv_iconst (v := 1) hx hb dX7_days_22 (by decide) ?_
        refine lv_iadd hx hb dX7_days_23 ?_
        refine va_put (D := D) (ci := 7) (v := .int ((S0q.1 16) + 1)) (ty := .int) (C := RX7) (T := TX7) (N := 27) hx hb hW inW_X7 tyX7 tyX7_ok nmX7 hown hK hP hD hS 0 rfl rfl 16 (by decide) (hW _ fl_X7_102) (fun _ h9 => h9) rfl (by decide +kernel) rfl rfl (Nat.le_of_ble_eq_true rfl) dX7_days_24 (fun H locs hP hD hS => ?_)
        have hP : va_P D classes (jn [mcells cI cZ ad 0 (sI (sI S0q 14 ((S0q.1 14) + 1)) 16 ((S0q.1 16) + 1))]) H := ms_i16 (Φ := fun w => va_P D classes w H) (S := (sI S0q 14 ((S0q.1 14) + 1))) (v := ((S0q.1 16) + 1)) hP
        have hD : va_D (cOf (jn [mcells cI cZ ad 0 S0])) (jn [mcells cI cZ ad 0 (sI (sI S0q 14 ((S0q.1 14) + 1)) 16 ((S0q.1 16) + 1))]) := ms_i16 (Φ := fun w => va_D (cOf (jn [mcells cI cZ ad 0 S0])) w) (S := (sI S0q 14 ((S0q.1 14) + 1))) (v := ((S0q.1 16) + 1)) hD
        refine lv_aload_n hx hb dX7_days_27 rfl (lv_at hl 0 rfl) ?_
        refine va_get (D := D) (ci := 7) (v := .int ((S0q.1 16) + 1)) (C := RX7) (T := TX7) (N := 27) hx hb hW inW_X7 hown hK hP 0 rfl rfl 16 (by decide) (hW _ fl_X7_102) (fun _ h9 => h9) rfl dX7_days_28 ?_
        refine lv_aload_n hx hb dX7_days_31 rfl (lv_at hl 0 rfl) ?_
        refine va_get (D := D) (ci := 7) (v := .int (S0q.1 1)) (C := RX7) (T := TX7) (N := 27) hx hb hW inW_X7 hown hK hP 0 rfl rfl 1 (by decide) (hW _ fl_X7_13) (fun _ h9 => h9) rfl dX7_days_32 ?_
        refine lv_icmp_ne (tgt := 42) hx hb dX7_days_35 (by decide) (fun c2 => ?_) (fun c2 => ?_)
        · have hw := Eq.mp (if_neg c2) hw
          refine lv_iinc (v := (y2 + 1)) (lv' := [(2, .int (y2 + 1)), (0, .ref (ad 0)), (1, .int x1)]) hx hb dX7_days_42 hl (k := 2) rfl rfl (by decide) rfl (fun ls hl => ?_)
          refine lv_goto (tgt := 2) hx hb dX7_days_45 (by decide) ?_
          exact ih (y2 + 1) (sI (sI S0q 14 ((S0q.1 14) + 1)) 16 ((S0q.1 16) + 1)) _ _ hP hD hS _ (lv_sub hl [1, 2, 0] rfl) hw
        · have hw := Eq.mp (if_pos c2) hw
          refine lv_aload_n hx hb dX7_days_38 rfl (lv_at hl 0 rfl) ?_
          refine callW (va_runV (As := []) (rest := []) ⟨hx, hb, hml, hown, hW⟩ (c_X7_equinox l D cI cZ ad  (sI (sI S0q 14 ((S0q.1 14) + 1)) 16 ((S0q.1 16) + 1)) _ hw) (cwV0 hW mV_X7_equinox ml_X7_105 ⟨Nat.le_of_ble_eq_true rfl, Nat.le_of_ble_eq_true rfl⟩) (preV0 0 rfl rfl hK hN hP hD [0] rfl rfl) rfl rfl hl.1 rfl (lv_room (Nat.le_of_ble_eq_true rfl)) dX7_days_39 ⟨Nat.le_refl _, Nat.le_refl _⟩) hP hD hS [0] rfl rfl (fun _ => rfl) (fun v9 u9 H locs hq hP hD hS => ?_)
          obtain ⟨rfl, hw⟩ := hq
          obtain ⟨Z3, rfl⟩ : ∃ z, z = u9 := ⟨_, rfl⟩
          have hP : va_P D classes (jn [mcells cI cZ ad 0 Z3]) H := hP
          have hD : va_D (cOf (jn [mcells cI cZ ad 0 S0])) (jn [mcells cI cZ ad 0 Z3]) := hD
          refine W.eq (g2 := F0 m 42 ls []) rfl ?_
          refine lv_iinc (v := (y2 + 1)) (lv' := [(2, .int (y2 + 1)), (0, .ref (ad 0)), (1, .int x1)]) hx hb dX7_days_42 hl (k := 2) rfl rfl (by decide) rfl (fun ls hl => ?_)
          refine lv_goto (tgt := 2) hx hb dX7_days_45 (by decide) ?_
          exact ih (y2 + 1) Z3 _ _ hP hD hS _ (lv_sub hl [1, 2, 0] rfl) hw
  have hw : (∃ M5, wl_X7_days_2 x1 (fun (Z4 : St) => (k Z4)) M5 0 S0) := hw
  refine lv_iconst (v := 0) hx hb dX7_days_0 (by decide) ?_
  refine lv_istore_n (lv' := [(2, .int 0), (0, .ref (ad 0)), (1, .int x1)]) hx hb dX7_days_1 rfl hl (by decide) rfl (fun ls hl => ?_)
  obtain ⟨N6, hw⟩ := hw
  refine L2  _ (fun Z4 H locs hP hD hS ls hl hw => ?_) N6 0 S0 _ _ hP hD hS _ (lv_sub hl [1, 2, 0] rfl) hw
  exact W.vret hx hb hr (fun t ht _ => ⟨⟨_, (Z4), rfl, ⟨rfl, hw⟩, by rw [ht]; exact hP⟩, hS.F ht⟩) hS.2.2 dX7_days_48
set_option maxHeartbeats 4000000 in
set_option maxRecDepth 100000 in
theorem c_X7_whyNoHats (l : Launch) (D : va_G) (cI cZ : ClassId) (ad : Nat → Nat) (S0 : St) (x1 : Int32) (x2 : Int32) (k : Int32 → Prop) (hw : wp_X7_whyNoHats S0 x1 x2 k) : KR l yX7_whyNoHats cX7_whyNoHats 3 (some .int) 0 0 D cI cZ [.ref (ad 0), .int x1, .int x2] [mcells cI cZ ad 0 S0] (fun v => ∃ r, v = some (.int r) ∧ k r) := by
  refine Met.ofE (by decide +kernel) (Nat.le_of_ble_eq_true rfl) ?_
  intro p e s m below meth c E ls hl
  obtain ⟨hx, hb, hr, hml, hW, hown, hlocks, hP, hK, hD, hN⟩ := E
  have hl : lv_has ls 3 [(0, .ref (ad 0)), (1, .int x1), (2, .int x2)] := hl
  have hw : (vp_in x1 6 ∧ (if ((S0.2 17) (x1 : Int32).toNatClampNeg) < 0 then (k 1) else (vp_in x2 6 ∧ (if 0 ≤ ((S0.2 17) (x2 : Int32).toNatClampNeg) then (if x1 = x2 then (k 2) else (if (S0.1 16) = 0 then (k 0) else (k 3))) else (k 1))))) := hw
  refine lv_aload_n hx hb dX7_whyNoHats_0 rfl (lv_at hl 0 rfl) ?_
  refine va_get (D := D) (ci := 7) (v := .ref (ad (0 + 8))) (C := RX7) (T := TX7) (N := 27) hx hb hW inW_X7 hown hK hP 0 rfl rfl 17 (by decide) (hW _ fl_X7_38) (fun _ h9 => h9) rfl dX7_whyNoHats_1 ?_
  refine lv_iload_n hx hb dX7_whyNoHats_4 rfl (lv_at hl 1 rfl) ?_
  refine va_iald (f := (S0.2 17)) hx hb hK hP 8 0 rfl rfl hw.1 dX7_whyNoHats_5 ?_
  have hw := hw.2
  refine lv_if_lt (tgt := 18) hx hb dX7_whyNoHats_6 (by decide) (fun c1 => ?_) (fun c1 => ?_)
  · have hw := Eq.mp (if_pos c1) hw
    refine lv_iconst (v := 1) hx hb dX7_whyNoHats_18 (by decide) ?_
    exact W.iret (v := 1) hx hb hr (fun t ht _ => ⟨⟨_, rfl, ⟨_, rfl, hw⟩⟩, ht⟩) (fun _ h => by cases h) dX7_whyNoHats_19
  · have hw := Eq.mp (if_neg c1) hw
    refine lv_aload_n hx hb dX7_whyNoHats_9 rfl (lv_at hl 0 rfl) ?_
    refine va_get (D := D) (ci := 7) (v := .ref (ad (0 + 8))) (C := RX7) (T := TX7) (N := 27) hx hb hW inW_X7 hown hK hP 0 rfl rfl 17 (by decide) (hW _ fl_X7_38) (fun _ h9 => h9) rfl dX7_whyNoHats_10 ?_
    refine lv_iload_n hx hb dX7_whyNoHats_13 rfl (lv_at hl 2 rfl) ?_
    refine va_iald (f := (S0.2 17)) hx hb hK hP 8 0 rfl rfl hw.1 dX7_whyNoHats_14 ?_
    have hw := hw.2
    refine lv_if_ge (tgt := 20) hx hb dX7_whyNoHats_15 (by decide) (fun c2 => ?_) (fun c2 => ?_)
    · have hw := Eq.mp (if_pos c2) hw
      refine lv_iload_n hx hb dX7_whyNoHats_20 rfl (lv_at hl 1 rfl) ?_
      refine lv_iload_n hx hb dX7_whyNoHats_21 rfl (lv_at hl 2 rfl) ?_
      refine lv_icmp_ne (tgt := 29) hx hb dX7_whyNoHats_22 (by decide) (fun c3 => ?_) (fun c3 => ?_)
      · have hw := Eq.mp (if_neg c3) hw
        refine lv_aload_n hx hb dX7_whyNoHats_29 rfl (lv_at hl 0 rfl) ?_
        refine va_get (D := D) (ci := 7) (v := .int (S0.1 16)) (C := RX7) (T := TX7) (N := 27) hx hb hW inW_X7 hown hK hP 0 rfl rfl 16 (by decide) (hW _ fl_X7_102) (fun _ h9 => h9) rfl dX7_whyNoHats_30 ?_
        refine lv_if_eq (tgt := 40) hx hb dX7_whyNoHats_33 (by decide) (fun c4 => ?_) (fun c4 => ?_)
        · have hw := Eq.mp (if_pos c4) hw
          refine lv_iconst (v := 0) hx hb dX7_whyNoHats_40 (by decide) ?_
          exact W.iret (v := 0) hx hb hr (fun t ht _ => ⟨⟨_, rfl, ⟨_, rfl, hw⟩⟩, ht⟩) (fun _ h => by cases h) dX7_whyNoHats_41
        · have hw := Eq.mp (if_neg c4) hw
          refine lv_iconst (v := 3) hx hb dX7_whyNoHats_36 (by decide) ?_
          refine lv_goto (tgt := 41) hx hb dX7_whyNoHats_37 (by decide) ?_
          exact W.iret (v := 3) hx hb hr (fun t ht _ => ⟨⟨_, rfl, ⟨_, rfl, hw⟩⟩, ht⟩) (fun _ h => by cases h) dX7_whyNoHats_41
      · have hw := Eq.mp (if_pos c3) hw
        refine lv_iconst (v := 2) hx hb dX7_whyNoHats_25 (by decide) ?_
        refine lv_goto (tgt := 41) hx hb dX7_whyNoHats_26 (by decide) ?_
        exact W.iret (v := 2) hx hb hr (fun t ht _ => ⟨⟨_, rfl, ⟨_, rfl, hw⟩⟩, ht⟩) (fun _ h => by cases h) dX7_whyNoHats_41
    · have hw := Eq.mp (if_neg c2) hw
      refine lv_iconst (v := 1) hx hb dX7_whyNoHats_18 (by decide) ?_
      exact W.iret (v := 1) hx hb hr (fun t ht _ => ⟨⟨_, rfl, ⟨_, rfl, hw⟩⟩, ht⟩) (fun _ h => by cases h) dX7_whyNoHats_19
set_option maxHeartbeats 4000000 in
set_option maxRecDepth 100000 in
theorem c_X7_hats (l : Launch) (D : va_G) (cI cZ : ClassId) (ad : Nat → Nat) (S0 : St) (x1 : Int32) (x2 : Int32) (k : St → Prop) (hw : wp_X7_hats S0 x1 x2 k) : KW l yX7_hats cX7_hats 4 none 0 0 D cI cZ [.ref (ad 0), .int x1, .int x2] [mcells cI cZ ad 0 S0] (fun v (u : St) => v = none ∧ k u) (fun u : St => [mcells cI cZ ad 0 u]) := by
  refine Met.ofE (by decide +kernel) (Nat.le_of_ble_eq_true rfl) ?_
  intro p e s m below meth c E ls hl
  obtain ⟨hx, hb, hr, hml, hW, hown, hlocks, hP, hK, hD, hN⟩ := E
  have hl : lv_has ls 4 [(0, .ref (ad 0)), (1, .int x1), (2, .int x2)] := hl
  have hS : va_S (cOf (jn [mcells cI cZ ad 0 S0])) s.heap s.heap [] := va_S.rf
  have hw : (vp_in x1 6 ∧ (vp_in x2 6 ∧ (vp_in x1 6 ∧ (vp_in x2 6 ∧ (k (sA (sA S0 18 (upd (S0.2 18) (x1 : Int32).toNatClampNeg ((S0.2 18) (x2 : Int32).toNatClampNeg))) 18 (upd (upd (S0.2 18) (x1 : Int32).toNatClampNeg ((S0.2 18) (x2 : Int32).toNatClampNeg)) (x2 : Int32).toNatClampNeg ((S0.2 18) (x1 : Int32).toNatClampNeg)))))))) := hw
  refine lv_aload_n hx hb dX7_hats_0 rfl (lv_at hl 0 rfl) ?_
  refine va_get (D := D) (ci := 7) (v := .ref (ad (0 + 9))) (C := RX7) (T := TX7) (N := 27) hx hb hW inW_X7 hown hK hP 0 rfl rfl 18 (by decide) (hW _ fl_X7_41) (fun _ h9 => h9) rfl dX7_hats_1 ?_
  refine lv_iload_n hx hb dX7_hats_4 rfl (lv_at hl 1 rfl) ?_
  refine va_iald (f := (S0.2 18)) hx hb hK hP 9 0 rfl rfl hw.1 dX7_hats_5 ?_
  have hw := hw.2
  refine lv_istore_n (lv' := [(3, .int ((S0.2 18) (x1 : Int32).toNatClampNeg)), (0, .ref (ad 0)), (1, .int x1), (2, .int x2)]) hx hb dX7_hats_6 rfl hl (by decide) rfl (fun ls hl => ?_)
  refine lv_aload_n hx hb dX7_hats_7 rfl (lv_at hl 1 rfl) ?_
  refine va_get (D := D) (ci := 7) (v := .ref (ad (0 + 9))) (C := RX7) (T := TX7) (N := 27) hx hb hW inW_X7 hown hK hP 0 rfl rfl 18 (by decide) (hW _ fl_X7_41) (fun _ h9 => h9) rfl dX7_hats_8 ?_
  refine lv_iload_n hx hb dX7_hats_11 rfl (lv_at hl 2 rfl) ?_
  refine lv_aload_n hx hb dX7_hats_12 rfl (lv_at hl 1 rfl) ?_
  refine va_get (D := D) (ci := 7) (v := .ref (ad (0 + 9))) (C := RX7) (T := TX7) (N := 27) hx hb hW inW_X7 hown hK hP 0 rfl rfl 18 (by decide) (hW _ fl_X7_41) (fun _ h9 => h9) rfl dX7_hats_13 ?_
  refine lv_iload_n hx hb dX7_hats_16 rfl (lv_at hl 3 rfl) ?_
  refine va_iald (f := (S0.2 18)) hx hb hK hP 9 0 rfl rfl hw.1 dX7_hats_17 ?_
  have hw := hw.2
  refine va_iast (f := (S0.2 18)) hx hb hK hP hD hS 9 0 rfl rfl hw.1 dX7_hats_18 (fun H locs hP hD hS => ?_)
  have hw := hw.2
  revert hw; revert hD; revert hP
  generalize (upd (S0.2 18) (x1 : Int32).toNatClampNeg ((S0.2 18) (x2 : Int32).toNatClampNeg)) = Z1
  intro hP hD hw
  have hP : va_P D classes (jn [mcells cI cZ ad 0 (sA S0 18 Z1)]) H := ms_a18 (Φ := fun w => va_P D classes w H) (S := S0) (v := Z1) hP
  have hD : va_D (cOf (jn [mcells cI cZ ad 0 S0])) (jn [mcells cI cZ ad 0 (sA S0 18 Z1)]) := ms_a18 (Φ := fun w => va_D (cOf (jn [mcells cI cZ ad 0 S0])) w) (S := S0) (v := Z1) hD
  refine lv_aload_n hx hb dX7_hats_19 rfl (lv_at hl 1 rfl) ?_
  refine va_get (D := D) (ci := 7) (v := .ref (ad (0 + 9))) (C := RX7) (T := TX7) (N := 27) hx hb hW inW_X7 hown hK hP 0 rfl rfl 18 (by decide) (hW _ fl_X7_41) (fun _ h9 => h9) rfl dX7_hats_20 ?_
  refine lv_iload_n hx hb dX7_hats_23 rfl (lv_at hl 3 rfl) ?_
  refine lv_iload_n hx hb dX7_hats_24 rfl (lv_at hl 0 rfl) ?_
  refine va_iast (f := Z1) hx hb hK hP hD hS 9 0 rfl rfl hw.1 dX7_hats_25 (fun H locs hP hD hS => ?_)
  have hw := hw.2
  revert hw; revert hD; revert hP
  generalize (upd Z1 (x2 : Int32).toNatClampNeg ((S0.2 18) (x1 : Int32).toNatClampNeg)) = Z2
  intro hP hD hw
  have hP : va_P D classes (jn [mcells cI cZ ad 0 (sA (sA S0 18 Z1) 18 Z2)]) H := ms_a18 (Φ := fun w => va_P D classes w H) (S := (sA S0 18 Z1)) (v := Z2) hP
  have hD : va_D (cOf (jn [mcells cI cZ ad 0 S0])) (jn [mcells cI cZ ad 0 (sA (sA S0 18 Z1) 18 Z2)]) := ms_a18 (Φ := fun w => va_D (cOf (jn [mcells cI cZ ad 0 S0])) w) (S := (sA S0 18 Z1)) (v := Z2) hD
  exact W.vret hx hb hr (fun t ht _ => ⟨⟨_, ((sA (sA S0 18 Z1) 18 Z2)), rfl, ⟨rfl, hw⟩, by rw [ht]; exact hP⟩, hS.F ht⟩) hS.2.2 dX7_hats_26
set_option maxHeartbeats 4000000 in
set_option maxRecDepth 100000 in
theorem c_X7_whyNot (l : Launch) (D : va_G) (cI cZ : ClassId) (ad : Nat → Nat) (S0 : St) (x1 : Int32) (x2 : Int32) (k : Int32 → Prop) (hw : wp_X7_whyNot S0 x1 x2 k) : KR l yX7_whyNot cX7_whyNot 3 (some .int) 0 0 D cI cZ [.ref (ad 0), .int x1, .int x2] [mcells cI cZ ad 0 S0] (fun v => ∃ r, v = some (.int r) ∧ k r) := by
  refine Met.ofE (by decide +kernel) (Nat.le_of_ble_eq_true rfl) ?_
  intro p e s m below meth c E ls hl
  obtain ⟨hx, hb, hr, hml, hW, hown, hlocks, hP, hK, hD, hN⟩ := E
  have hl : lv_has ls 3 [(0, .ref (ad 0)), (1, .int x1), (2, .int x2)] := hl
  have hw : (vp_in x1 6 ∧ (if 0 ≤ ((S0.2 17) (x1 : Int32).toNatClampNeg) then (if x2 = 100 then (k 0) else (vp_in x1 6 ∧ (if ((S0.2 19) (x1 : Int32).toNatClampNeg) = 0 then (k 0) else (k 4)))) else (k 1))) := hw
  refine lv_aload_n hx hb dX7_whyNot_0 rfl (lv_at hl 0 rfl) ?_
  refine va_get (D := D) (ci := 7) (v := .ref (ad (0 + 8))) (C := RX7) (T := TX7) (N := 27) hx hb hW inW_X7 hown hK hP 0 rfl rfl 17 (by decide) (hW _ fl_X7_38) (fun _ h9 => h9) rfl dX7_whyNot_1 ?_
  refine lv_iload_n hx hb dX7_whyNot_4 rfl (lv_at hl 1 rfl) ?_
  refine va_iald (f := (S0.2 17)) hx hb hK hP 8 0 rfl rfl hw.1 dX7_whyNot_5 ?_
  have hw := hw.2
  refine lv_if_ge (tgt := 13) hx hb dX7_whyNot_6 (by decide) (fun c1 => ?_) (fun c1 => ?_)
  · have hw := Eq.mp (if_pos c1) hw
    refine lv_iload_n hx hb dX7_whyNot_13 rfl (lv_at hl 2 rfl) ?_
    refine lv_bipush (v := 100) hx hb dX7_whyNot_14 (by decide) ?_
    refine lv_icmp_eq (tgt := 32) hx hb dX7_whyNot_16 (by decide) (fun c2 => ?_) (fun c2 => ?_)
    · have hw := Eq.mp (if_pos c2) hw
      refine lv_iconst (v := 0) hx hb dX7_whyNot_32 (by decide) ?_
      exact W.iret (v := 0) hx hb hr (fun t ht _ => ⟨⟨_, rfl, ⟨_, rfl, hw⟩⟩, ht⟩) (fun _ h => by cases h) dX7_whyNot_33
    · have hw := Eq.mp (if_neg c2) hw
      refine lv_aload_n hx hb dX7_whyNot_19 rfl (lv_at hl 0 rfl) ?_
      refine va_get (D := D) (ci := 7) (v := .ref (ad (0 + 10))) (C := RX7) (T := TX7) (N := 27) hx hb hW inW_X7 hown hK hP 0 rfl rfl 19 (by decide) (hW _ fl_X7_44) (fun _ h9 => h9) rfl dX7_whyNot_20 ?_
      refine lv_iload_n hx hb dX7_whyNot_23 rfl (lv_at hl 1 rfl) ?_
      refine va_iald (f := (S0.2 19)) hx hb hK hP 10 0 rfl rfl hw.1 dX7_whyNot_24 ?_
      have hw := hw.2
      refine lv_if_eq (tgt := 32) hx hb dX7_whyNot_25 (by decide) (fun c3 => ?_) (fun c3 => ?_)
      · have hw := Eq.mp (if_pos c3) hw
        refine lv_iconst (v := 0) hx hb dX7_whyNot_32 (by decide) ?_
        exact W.iret (v := 0) hx hb hr (fun t ht _ => ⟨⟨_, rfl, ⟨_, rfl, hw⟩⟩, ht⟩) (fun _ h => by cases h) dX7_whyNot_33
      · have hw := Eq.mp (if_neg c3) hw
        refine lv_iconst (v := 4) hx hb dX7_whyNot_28 (by decide) ?_
        refine lv_goto (tgt := 33) hx hb dX7_whyNot_29 (by decide) ?_
        exact W.iret (v := 4) hx hb hr (fun t ht _ => ⟨⟨_, rfl, ⟨_, rfl, hw⟩⟩, ht⟩) (fun _ h => by cases h) dX7_whyNot_33
  · have hw := Eq.mp (if_neg c1) hw
    refine lv_iconst (v := 1) hx hb dX7_whyNot_9 (by decide) ?_
    refine lv_goto (tgt := 33) hx hb dX7_whyNot_10 (by decide) ?_
    exact W.iret (v := 1) hx hb hr (fun t ht _ => ⟨⟨_, rfl, ⟨_, rfl, hw⟩⟩, ht⟩) (fun _ h => by cases h) dX7_whyNot_33
set_option maxHeartbeats 4000000 in
set_option maxRecDepth 100000 in
theorem c_X7_goYears (l : Launch) (D : va_G) (cI cZ : ClassId) (ad : Nat → Nat) (S0 : St) (k : Int32 → St → Prop) (hw : wp_X7_goYears S0 k) : KW l yX7_goYears cX7_goYears 5 (some .int) 3 64 D cI cZ [.ref (ad 0)] [mcells cI cZ ad 0 S0] (fun v (u : St) => ∃ r, v = some (.int r) ∧ k r u) (fun u : St => [mcells cI cZ ad 0 u]) := by
  refine Met.ofE (by decide +kernel) (Nat.le_of_ble_eq_true rfl) ?_
  intro p e s m below meth c E ls hl
  obtain ⟨hx, hb, hr, hml, hW, hown, hlocks, hP, hK, hD, hN⟩ := E
  have hl : lv_has ls 5 [(0, .ref (ad 0))] := hl
  have hS : va_S (cOf (jn [mcells cI cZ ad 0 S0])) s.heap s.heap [] := va_S.rf
  have L11 : ∀  (kx : St → Prop), (∀ (S0q : St) (H : Heap) (locs : List Loc), va_P D classes (jn [mcells cI cZ ad 0 S0q]) H → va_D (cOf (jn [mcells cI cZ ad 0 S0])) (jn [mcells cI cZ ad 0 S0q]) → va_S (cOf (jn [mcells cI cZ ad 0 S0])) s.heap H locs → ∀ ls : Array Slot, lv_has ls 5 [] → kx S0q → W p l e { frames := 3, cells := 0, slots := 0, locals := 64 } s m ([.ref (ad 0)] : List Value).toArray below meth c H locs 0 0 (MQ below (QW (fun v (u : St) => ∃ r, v = some (.int r) ∧ k r u) D (fun u : St => [mcells cI cZ ad 0 u]) [mcells cI cZ ad 0 S0]) ([.ref (ad 0)] : List Value).toArray s 0 0 (cOf (jn [mcells cI cZ ad 0 S0]))) (F0 m 248 ls [])) → ∀ (N11 : Nat) (y1 : Int32) (S0q : St) (H : Heap) (locs : List Loc), va_P D classes (jn [mcells cI cZ ad 0 S0q]) H → va_D (cOf (jn [mcells cI cZ ad 0 S0])) (jn [mcells cI cZ ad 0 S0q]) → va_S (cOf (jn [mcells cI cZ ad 0 S0])) s.heap H locs → ∀ ls : Array Slot, lv_has ls 5 [(0, .ref (ad 0)), (1, .int y1)] → wl_X7_goYears_11 kx k N11 y1 S0q → W p l e { frames := 3, cells := 0, slots := 0, locals := 64 } s m ([.ref (ad 0)] : List Value).toArray below meth c H locs 0 0 (MQ below (QW (fun v (u : St) => ∃ r, v = some (.int r) ∧ k r u) D (fun u : St => [mcells cI cZ ad 0 u]) [mcells cI cZ ad 0 S0]) ([.ref (ad 0)] : List Value).toArray s 0 0 (cOf (jn [mcells cI cZ ad 0 S0]))) (F0 m 11 ls []) := by
    intro  kx hxt N11
    induction N11 with
    | zero => intro y1 S0q H locs hP hD hS ls hl hw; exact False.elim hw
    | succ N11 ih =>
      intro y1 S0q H locs hP hD hS ls hl hw
      have hw : (if (S0q.1 12) ≤ y1 then (kx S0q) else (vp_in y1 60 ∧ (if (F_X7_isChild (sI S0q 21 0) ((S0q.2 13) (y1 : Int32).toNatClampNeg)) = 0 then (if ((S0q.2 13) (y1 : Int32).toNatClampNeg) = 46 then (wp_X7_days (sI S0q 21 0) 1 (fun (Z5 : St) => (if (Z5.1 21) ≤ 0 then (wl_X7_goYears_11 kx k N11 (y1 + 1) (sI Z5 22 ((Z5.1 22) + 1))) else (k (Z5.1 22) Z5)))) else (if ((S0q.2 13) (y1 : Int32).toNatClampNeg) = 58 then (wp_X7_days (sI S0q 21 0) 10 (fun (Z8 : St) => (if (Z8.1 21) ≤ 0 then (wl_X7_goYears_11 kx k N11 (y1 + 1) (sI Z8 22 ((Z8.1 22) + 1))) else (k (Z8.1 22) Z8)))) else (wp_X7_days (sI S0q 21 0) ((S0q.1 1) - (S0q.1 16)) (fun (Z10 : St) => (if (Z10.1 21) ≤ 0 then (wl_X7_goYears_11 kx k N11 (y1 + 1) (sI Z10 22 ((Z10.1 22) + 1))) else (k (Z10.1 22) Z10)))))) else (vp_in (y1 + 1) 60 ∧ (if (F_X7_isChild (sI S0q 21 0) ((S0q.2 13) ((y1 + 1) : Int32).toNatClampNeg)) = 0 then (wp_X7_whyNot (sI S0q 21 0) (((S0q.2 13) (y1 : Int32).toNatClampNeg) - 65) ((S0q.2 13) ((y1 + 1) : Int32).toNatClampNeg) (fun (v13 : Int32) => (if v13 = 0 then (if ((S0q.2 13) ((y1 + 1) : Int32).toNatClampNeg) = 100 then (vp_in (((S0q.2 13) (y1 : Int32).toNatClampNeg) - 65) 6 ∧ (if 0 < v13 then (vp_in (((S0q.2 13) (y1 : Int32).toNatClampNeg) - 65) 6 ∧ (vp_in (((S0q.2 13) (y1 : Int32).toNatClampNeg) - 65) 6 ∧ (if v13 ≤ 0 then (wl_X7_goYears_11 kx k N11 (y1 + 2) (sI (sA (sA (sI (sI S0q 21 0) 21 v13) 17 (upd (S0q.2 17) ((((S0q.2 13) (y1 : Int32).toNatClampNeg) - 65) : Int32).toNatClampNeg (-6))) 19 (upd (S0q.2 19) ((((S0q.2 13) (y1 : Int32).toNatClampNeg) - 65) : Int32).toNatClampNeg ((S0q.2 19) ((((S0q.2 13) (y1 : Int32).toNatClampNeg) - 65) : Int32).toNatClampNeg))) 22 ((S0q.1 22) + 1))) else (k (S0q.1 22) (sA (sA (sI (sI S0q 21 0) 21 v13) 17 (upd (S0q.2 17) ((((S0q.2 13) (y1 : Int32).toNatClampNeg) - 65) : Int32).toNatClampNeg (-6))) 19 (upd (S0q.2 19) ((((S0q.2 13) (y1 : Int32).toNatClampNeg) - 65) : Int32).toNatClampNeg ((S0q.2 19) ((((S0q.2 13) (y1 : Int32).toNatClampNeg) - 65) : Int32).toNatClampNeg))))))) else (vp_in (((S0q.2 13) (y1 : Int32).toNatClampNeg) - 65) 6 ∧ (vp_in (((S0q.2 13) (y1 : Int32).toNatClampNeg) - 65) 6 ∧ (if v13 ≤ 0 then (wl_X7_goYears_11 kx k N11 (y1 + 2) (sI (sA (sA (sI (sI S0q 21 0) 21 v13) 17 (upd (S0q.2 17) ((((S0q.2 13) (y1 : Int32).toNatClampNeg) - 65) : Int32).toNatClampNeg (-6))) 19 (upd (S0q.2 19) ((((S0q.2 13) (y1 : Int32).toNatClampNeg) - 65) : Int32).toNatClampNeg ((S0q.2 19) ((((S0q.2 13) (y1 : Int32).toNatClampNeg) - 65) : Int32).toNatClampNeg))) 22 ((S0q.1 22) + 1))) else (k (S0q.1 22) (sA (sA (sI (sI S0q 21 0) 21 v13) 17 (upd (S0q.2 17) ((((S0q.2 13) (y1 : Int32).toNatClampNeg) - 65) : Int32).toNatClampNeg (-6))) 19 (upd (S0q.2 19) ((((S0q.2 13) (y1 : Int32).toNatClampNeg) - 65) : Int32).toNatClampNeg ((S0q.2 19) ((((S0q.2 13) (y1 : Int32).toNatClampNeg) - 65) : Int32).toNatClampNeg))))))))) else (vp_in (((S0q.2 13) (y1 : Int32).toNatClampNeg) - 65) 6 ∧ (vp_in (((S0q.2 13) (y1 : Int32).toNatClampNeg) - 65) 6 ∧ (if 0 < v13 then (vp_in (((S0q.2 13) (y1 : Int32).toNatClampNeg) - 65) 6 ∧ (vp_in (((S0q.2 13) (y1 : Int32).toNatClampNeg) - 65) 6 ∧ (if v13 ≤ 0 then (wl_X7_goYears_11 kx k N11 (y1 + 2) (sI (sA (sA (sI (sI S0q 21 0) 21 v13) 17 (upd (S0q.2 17) ((((S0q.2 13) (y1 : Int32).toNatClampNeg) - 65) : Int32).toNatClampNeg ((S0q.2 17) ((((S0q.2 13) (y1 : Int32).toNatClampNeg) - 65) : Int32).toNatClampNeg))) 19 (upd (S0q.2 19) ((((S0q.2 13) (y1 : Int32).toNatClampNeg) - 65) : Int32).toNatClampNeg ((S0q.2 19) ((((S0q.2 13) (y1 : Int32).toNatClampNeg) - 65) : Int32).toNatClampNeg))) 22 ((S0q.1 22) + 1))) else (k (S0q.1 22) (sA (sA (sI (sI S0q 21 0) 21 v13) 17 (upd (S0q.2 17) ((((S0q.2 13) (y1 : Int32).toNatClampNeg) - 65) : Int32).toNatClampNeg ((S0q.2 17) ((((S0q.2 13) (y1 : Int32).toNatClampNeg) - 65) : Int32).toNatClampNeg))) 19 (upd (S0q.2 19) ((((S0q.2 13) (y1 : Int32).toNatClampNeg) - 65) : Int32).toNatClampNeg ((S0q.2 19) ((((S0q.2 13) (y1 : Int32).toNatClampNeg) - 65) : Int32).toNatClampNeg))))))) else (if ((S0q.2 13) ((y1 + 1) : Int32).toNatClampNeg) = 115 then (vp_in (((S0q.2 13) (y1 : Int32).toNatClampNeg) - 65) 6 ∧ (if v13 ≤ 0 then (wl_X7_goYears_11 kx k N11 (y1 + 2) (sI (sA (sA (sI (sI S0q 21 0) 21 v13) 17 (upd (S0q.2 17) ((((S0q.2 13) (y1 : Int32).toNatClampNeg) - 65) : Int32).toNatClampNeg ((S0q.2 17) ((((S0q.2 13) (y1 : Int32).toNatClampNeg) - 65) : Int32).toNatClampNeg))) 19 (upd (S0q.2 19) ((((S0q.2 13) (y1 : Int32).toNatClampNeg) - 65) : Int32).toNatClampNeg 1)) 22 ((S0q.1 22) + 1))) else (k (S0q.1 22) (sA (sA (sI (sI S0q 21 0) 21 v13) 17 (upd (S0q.2 17) ((((S0q.2 13) (y1 : Int32).toNatClampNeg) - 65) : Int32).toNatClampNeg ((S0q.2 17) ((((S0q.2 13) (y1 : Int32).toNatClampNeg) - 65) : Int32).toNatClampNeg))) 19 (upd (S0q.2 19) ((((S0q.2 13) (y1 : Int32).toNatClampNeg) - 65) : Int32).toNatClampNeg 1))))) else (vp_in (((S0q.2 13) (y1 : Int32).toNatClampNeg) - 65) 6 ∧ (if v13 ≤ 0 then (wl_X7_goYears_11 kx k N11 (y1 + 2) (sI (sA (sA (sI (sI S0q 21 0) 21 v13) 17 (upd (S0q.2 17) ((((S0q.2 13) (y1 : Int32).toNatClampNeg) - 65) : Int32).toNatClampNeg ((S0q.2 17) ((((S0q.2 13) (y1 : Int32).toNatClampNeg) - 65) : Int32).toNatClampNeg))) 19 (upd (S0q.2 19) ((((S0q.2 13) (y1 : Int32).toNatClampNeg) - 65) : Int32).toNatClampNeg 2)) 22 ((S0q.1 22) + 1))) else (k (S0q.1 22) (sA (sA (sI (sI S0q 21 0) 21 v13) 17 (upd (S0q.2 17) ((((S0q.2 13) (y1 : Int32).toNatClampNeg) - 65) : Int32).toNatClampNeg ((S0q.2 17) ((((S0q.2 13) (y1 : Int32).toNatClampNeg) - 65) : Int32).toNatClampNeg))) 19 (upd (S0q.2 19) ((((S0q.2 13) (y1 : Int32).toNatClampNeg) - 65) : Int32).toNatClampNeg 2)))))))))) else (vp_in (((S0q.2 13) (y1 : Int32).toNatClampNeg) - 65) 6 ∧ (vp_in (((S0q.2 13) (y1 : Int32).toNatClampNeg) - 65) 6 ∧ (if 0 < v13 then (vp_in (((S0q.2 13) (y1 : Int32).toNatClampNeg) - 65) 6 ∧ (vp_in (((S0q.2 13) (y1 : Int32).toNatClampNeg) - 65) 6 ∧ (if v13 ≤ 0 then (wl_X7_goYears_11 kx k N11 (y1 + 2) (sI (sA (sA (sI (sI S0q 21 0) 21 v13) 17 (upd (S0q.2 17) ((((S0q.2 13) (y1 : Int32).toNatClampNeg) - 65) : Int32).toNatClampNeg ((S0q.2 17) ((((S0q.2 13) (y1 : Int32).toNatClampNeg) - 65) : Int32).toNatClampNeg))) 19 (upd (S0q.2 19) ((((S0q.2 13) (y1 : Int32).toNatClampNeg) - 65) : Int32).toNatClampNeg ((S0q.2 19) ((((S0q.2 13) (y1 : Int32).toNatClampNeg) - 65) : Int32).toNatClampNeg))) 22 ((S0q.1 22) + 1))) else (k (S0q.1 22) (sA (sA (sI (sI S0q 21 0) 21 v13) 17 (upd (S0q.2 17) ((((S0q.2 13) (y1 : Int32).toNatClampNeg) - 65) : Int32).toNatClampNeg ((S0q.2 17) ((((S0q.2 13) (y1 : Int32).toNatClampNeg) - 65) : Int32).toNatClampNeg))) 19 (upd (S0q.2 19) ((((S0q.2 13) (y1 : Int32).toNatClampNeg) - 65) : Int32).toNatClampNeg ((S0q.2 19) ((((S0q.2 13) (y1 : Int32).toNatClampNeg) - 65) : Int32).toNatClampNeg))))))) else (if ((S0q.2 13) ((y1 + 1) : Int32).toNatClampNeg) = 100 then (vp_in (((S0q.2 13) (y1 : Int32).toNatClampNeg) - 65) 6 ∧ (vp_in (((S0q.2 13) (y1 : Int32).toNatClampNeg) - 65) 6 ∧ (if v13 ≤ 0 then (wl_X7_goYears_11 kx k N11 (y1 + 2) (sI (sA (sA (sI (sI S0q 21 0) 21 v13) 17 (upd (S0q.2 17) ((((S0q.2 13) (y1 : Int32).toNatClampNeg) - 65) : Int32).toNatClampNeg ((S0q.2 17) ((((S0q.2 13) (y1 : Int32).toNatClampNeg) - 65) : Int32).toNatClampNeg))) 19 (upd (S0q.2 19) ((((S0q.2 13) (y1 : Int32).toNatClampNeg) - 65) : Int32).toNatClampNeg ((S0q.2 19) ((((S0q.2 13) (y1 : Int32).toNatClampNeg) - 65) : Int32).toNatClampNeg))) 22 ((S0q.1 22) + 1))) else (k (S0q.1 22) (sA (sA (sI (sI S0q 21 0) 21 v13) 17 (upd (S0q.2 17) ((((S0q.2 13) (y1 : Int32).toNatClampNeg) - 65) : Int32).toNatClampNeg ((S0q.2 17) ((((S0q.2 13) (y1 : Int32).toNatClampNeg) - 65) : Int32).toNatClampNeg))) 19 (upd (S0q.2 19) ((((S0q.2 13) (y1 : Int32).toNatClampNeg) - 65) : Int32).toNatClampNeg ((S0q.2 19) ((((S0q.2 13) (y1 : Int32).toNatClampNeg) - 65) : Int32).toNatClampNeg))))))) else (if ((S0q.2 13) ((y1 + 1) : Int32).toNatClampNeg) = 115 then (vp_in (((S0q.2 13) (y1 : Int32).toNatClampNeg) - 65) 6 ∧ (if v13 ≤ 0 then (wl_X7_goYears_11 kx k N11 (y1 + 2) (sI (sA (sA (sI (sI S0q 21 0) 21 v13) 17 (upd (S0q.2 17) ((((S0q.2 13) (y1 : Int32).toNatClampNeg) - 65) : Int32).toNatClampNeg ((S0q.2 17) ((((S0q.2 13) (y1 : Int32).toNatClampNeg) - 65) : Int32).toNatClampNeg))) 19 (upd (S0q.2 19) ((((S0q.2 13) (y1 : Int32).toNatClampNeg) - 65) : Int32).toNatClampNeg 1)) 22 ((S0q.1 22) + 1))) else (k (S0q.1 22) (sA (sA (sI (sI S0q 21 0) 21 v13) 17 (upd (S0q.2 17) ((((S0q.2 13) (y1 : Int32).toNatClampNeg) - 65) : Int32).toNatClampNeg ((S0q.2 17) ((((S0q.2 13) (y1 : Int32).toNatClampNeg) - 65) : Int32).toNatClampNeg))) 19 (upd (S0q.2 19) ((((S0q.2 13) (y1 : Int32).toNatClampNeg) - 65) : Int32).toNatClampNeg 1))))) else (vp_in (((S0q.2 13) (y1 : Int32).toNatClampNeg) - 65) 6 ∧ (if v13 ≤ 0 then (wl_X7_goYears_11 kx k N11 (y1 + 2) (sI (sA (sA (sI (sI S0q 21 0) 21 v13) 17 (upd (S0q.2 17) ((((S0q.2 13) (y1 : Int32).toNatClampNeg) - 65) : Int32).toNatClampNeg ((S0q.2 17) ((((S0q.2 13) (y1 : Int32).toNatClampNeg) - 65) : Int32).toNatClampNeg))) 19 (upd (S0q.2 19) ((((S0q.2 13) (y1 : Int32).toNatClampNeg) - 65) : Int32).toNatClampNeg 2)) 22 ((S0q.1 22) + 1))) else (k (S0q.1 22) (sA (sA (sI (sI S0q 21 0) 21 v13) 17 (upd (S0q.2 17) ((((S0q.2 13) (y1 : Int32).toNatClampNeg) - 65) : Int32).toNatClampNeg ((S0q.2 17) ((((S0q.2 13) (y1 : Int32).toNatClampNeg) - 65) : Int32).toNatClampNeg))) 19 (upd (S0q.2 19) ((((S0q.2 13) (y1 : Int32).toNatClampNeg) - 65) : Int32).toNatClampNeg 2))))))))))))) else (wp_X7_whyNoHats (sI S0q 21 0) (((S0q.2 13) (y1 : Int32).toNatClampNeg) - 65) (((S0q.2 13) ((y1 + 1) : Int32).toNatClampNeg) - 65) (fun (v43 : Int32) => (if v43 = 0 then (wp_X7_hats (sI (sI S0q 21 0) 21 v43) (((S0q.2 13) (y1 : Int32).toNatClampNeg) - 65) (((S0q.2 13) ((y1 + 1) : Int32).toNatClampNeg) - 65) (fun (Z45 : St) => (if (Z45.1 21) ≤ 0 then (wl_X7_goYears_11 kx k N11 (y1 + 2) (sI Z45 22 ((Z45.1 22) + 1))) else (k (Z45.1 22) Z45)))) else (if v43 ≤ 0 then (wl_X7_goYears_11 kx k N11 (y1 + 2) (sI (sI (sI S0q 21 0) 21 v43) 22 ((S0q.1 22) + 1))) else (k (S0q.1 22) (sI (sI S0q 21 0) 21 v43))))))))))) := hw
      refine lv_iload_n hx hb dX7_goYears_11 rfl (lv_at hl 1 rfl) ?_
      refine lv_aload_n hx hb dX7_goYears_12 rfl (lv_at hl 0 rfl) ?_
      refine va_get (D := D) (ci := 7) (v := .int (S0q.1 12)) (C := RX7) (T := TX7) (N := 27) hx hb hW inW_X7 hown hK hP 0 rfl rfl 12 (by decide) (hW _ fl_X7_86) (fun _ h9 => h9) rfl dX7_goYears_13 ?_
      refine lv_icmp_ge (tgt := 248) hx hb dX7_goYears_16 (by decide) (fun c2 => ?_) (fun c2 => ?_)
      · have hw := Eq.mp (if_pos c2) hw
        exact hxt S0q _ _ hP hD hS _ (lv_sub hl [] rfl) hw
      · have hw := Eq.mp (if_neg c2) hw
        refine lv_aload_n hx hb dX7_goYears_19 rfl (lv_at hl 0 rfl) ?_
        refine va_get (D := D) (ci := 7) (v := .ref (ad (0 + 7))) (C := RX7) (T := TX7) (N := 27) hx hb hW inW_X7 hown hK hP 0 rfl rfl 13 (by decide) (hW _ fl_X7_35) (fun _ h9 => h9) rfl dX7_goYears_20 ?_
        refine lv_iload_n hx hb dX7_goYears_23 rfl (lv_at hl 1 rfl) ?_
        refine va_iald (f := (S0q.2 13)) hx hb hK hP 7 0 rfl rfl hw.1 dX7_goYears_24 ?_
        have hw := hw.2
        refine lv_istore_n (lv' := [(2, .int ((S0q.2 13) (y1 : Int32).toNatClampNeg)), (0, .ref (ad 0)), (1, .int y1)]) hx hb dX7_goYears_25 rfl hl (by decide) rfl (fun ls hl => ?_)
        refine lv_aload_n hx hb dX7_goYears_26 rfl (lv_at hl 1 rfl) ?_
        refine lv_iconst (v := 0) hx hb dX7_goYears_27 (by decide) ?_
        refine va_put (D := D) (ci := 7) (v := .int 0) (ty := .int) (C := RX7) (T := TX7) (N := 27) hx hb hW inW_X7 tyX7 tyX7_ok nmX7 hown hK hP hD hS 0 rfl rfl 21 (by decide) (hW _ fl_X7_114) (fun _ h9 => h9) rfl (by decide +kernel) rfl rfl (Nat.le_of_ble_eq_true rfl) dX7_goYears_28 (fun H locs hP hD hS => ?_)
        have hP : va_P D classes (jn [mcells cI cZ ad 0 (sI S0q 21 0)]) H := ms_i21 (Φ := fun w => va_P D classes w H) (S := S0q) (v := 0) hP
        have hD : va_D (cOf (jn [mcells cI cZ ad 0 S0])) (jn [mcells cI cZ ad 0 (sI S0q 21 0)]) := ms_i21 (Φ := fun w => va_D (cOf (jn [mcells cI cZ ad 0 S0])) w) (S := S0q) (v := 0) hD
        refine lv_aload_n hx hb dX7_goYears_31 rfl (lv_at hl 1 rfl) ?_
        refine lv_iload_n hx hb dX7_goYears_32 rfl (lv_at hl 0 rfl) ?_
        refine callF (va_runV (As := [.int ((S0q.2 13) (y1 : Int32).toNatClampNeg)]) (rest := []) ⟨hx, hb, hml, hown, hW⟩ (c_X7_isChild l D cI cZ ad  (sI S0q 21 0) ((S0q.2 13) (y1 : Int32).toNatClampNeg) _ rfl) (cwV0 hW mV_X7_isChild ml_X7_89 ⟨Nat.le_of_ble_eq_true rfl, Nat.le_of_ble_eq_true rfl⟩) (preV0 0 rfl rfl hK hN hP hD [0] rfl rfl) rfl rfl hl.1 rfl (lv_room (Nat.le_of_ble_eq_true rfl)) dX7_goYears_33 ⟨Nat.le_refl _, Nat.le_refl _⟩) ?_
        refine W.eq (g2 := F0 m 36 ls [.int (F_X7_isChild (sI S0q 21 0) ((S0q.2 13) (y1 : Int32).toNatClampNeg))]) rfl ?_
        refine lv_if_ne (tgt := 79) hx hb dX7_goYears_36 (by decide) (fun c3 => ?_) (fun c3 => ?_)
        · have hw := Eq.mp (if_neg c3) hw
          refine lv_iload_n hx hb dX7_goYears_79 rfl (lv_at hl 0 rfl) ?_
          refine lv_bipush (v := 65) hx hb dX7_goYears_80 (by decide) ?_
          refine lv_isub hx hb dX7_goYears_82 ?_
          refine lv_istore_n (lv' := [(3, .int (((S0q.2 13) (y1 : Int32).toNatClampNeg) - 65)), (2, .int ((S0q.2 13) (y1 : Int32).toNatClampNeg)), (0, .ref (ad 0)), (1, .int y1)]) hx hb dX7_goYears_83 rfl hl (by decide) rfl (fun ls hl => ?_)
          refine lv_aload_n hx hb dX7_goYears_84 rfl (lv_at hl 2 rfl) ?_
          refine va_get (D := D) (ci := 7) (v := .ref (ad (0 + 7))) (C := RX7) (T := TX7) (N := 27) hx hb hW inW_X7 hown hK hP 0 rfl rfl 13 (by decide) (hW _ fl_X7_35) (fun _ h9 => h9) rfl dX7_goYears_85 ?_
          refine lv_iload_n hx hb dX7_goYears_88 rfl (lv_at hl 3 rfl) ?_
          refine lv_iconst (v := 1) hx hb dX7_goYears_89 (by decide) ?_
          refine lv_iadd hx hb dX7_goYears_90 ?_
          refine va_iald (f := (S0q.2 13)) hx hb hK hP 7 0 rfl rfl hw.1 dX7_goYears_91 ?_
          have hw := hw.2
          refine lv_istore (lv' := [(4, .int ((S0q.2 13) ((y1 + 1) : Int32).toNatClampNeg)), (3, .int (((S0q.2 13) (y1 : Int32).toNatClampNeg) - 65)), (2, .int ((S0q.2 13) (y1 : Int32).toNatClampNeg)), (0, .ref (ad 0)), (1, .int y1)]) hx hb dX7_goYears_92 hl (by decide) rfl (fun ls hl => ?_)
          refine lv_aload_n hx hb dX7_goYears_94 rfl (lv_at hl 3 rfl) ?_
          refine lv_iload hx hb dX7_goYears_95 (lv_at hl 0 rfl) ?_
          refine callF (va_runV (As := [.int ((S0q.2 13) ((y1 + 1) : Int32).toNatClampNeg)]) (rest := []) ⟨hx, hb, hml, hown, hW⟩ (c_X7_isChild l D cI cZ ad  (sI S0q 21 0) ((S0q.2 13) ((y1 + 1) : Int32).toNatClampNeg) _ rfl) (cwV0 hW mV_X7_isChild ml_X7_89 ⟨Nat.le_of_ble_eq_true rfl, Nat.le_of_ble_eq_true rfl⟩) (preV0 0 rfl rfl hK hN hP hD [0] rfl rfl) rfl rfl hl.1 rfl (lv_room (Nat.le_of_ble_eq_true rfl)) dX7_goYears_97 ⟨Nat.le_refl _, Nat.le_refl _⟩) ?_
          refine W.eq (g2 := F0 m 100 ls [.int (F_X7_isChild (sI S0q 21 0) ((S0q.2 13) ((y1 + 1) : Int32).toNatClampNeg))]) rfl ?_
          refine lv_if_eq (tgt := 137) hx hb dX7_goYears_100 (by decide) (fun c12 => ?_) (fun c12 => ?_)
          · have hw := Eq.mp (if_pos c12) hw
            refine lv_aload_n hx hb dX7_goYears_137 rfl (lv_at hl 3 rfl) ?_
            refine lv_aload_n hx hb dX7_goYears_138 rfl (lv_at hl 3 rfl) ?_
            refine lv_iload_n hx hb dX7_goYears_139 rfl (lv_at hl 1 rfl) ?_
            refine lv_iload hx hb dX7_goYears_140 (lv_at hl 0 rfl) ?_
            refine callR (va_runV (As := [.int (((S0q.2 13) (y1 : Int32).toNatClampNeg) - 65), .int ((S0q.2 13) ((y1 + 1) : Int32).toNatClampNeg)]) (rest := [.ref (ad 0)]) ⟨hx, hb, hml, hown, hW⟩ (c_X7_whyNot l D cI cZ ad  (sI S0q 21 0) (((S0q.2 13) (y1 : Int32).toNatClampNeg) - 65) ((S0q.2 13) ((y1 + 1) : Int32).toNatClampNeg) _ hw) (cwV0 hW mV_X7_whyNot ml_X7_129 ⟨Nat.le_of_ble_eq_true rfl, Nat.le_of_ble_eq_true rfl⟩) (preV0 0 rfl rfl hK hN hP hD [0] rfl rfl) rfl rfl hl.1 rfl (lv_room (Nat.le_of_ble_eq_true rfl)) dX7_goYears_142 ⟨Nat.le_refl _, Nat.le_refl _⟩) (fun v9 hq => ?_)
            obtain ⟨v13, rfl, hw⟩ := hq
            refine W.eq (g2 := F0 m 145 ls [.int v13, .ref (ad 0)]) rfl ?_
            refine va_put (D := D) (ci := 7) (v := .int v13) (ty := .int) (C := RX7) (T := TX7) (N := 27) hx hb hW inW_X7 tyX7 tyX7_ok nmX7 hown hK hP hD hS 0 rfl rfl 21 (by decide) (hW _ fl_X7_114) (fun _ h9 => h9) rfl (by decide +kernel) rfl rfl (Nat.le_of_ble_eq_true rfl) dX7_goYears_145 (fun H locs hP hD hS => ?_)
            have hP : va_P D classes (jn [mcells cI cZ ad 0 (sI (sI S0q 21 0) 21 v13)]) H := ms_i21 (Φ := fun w => va_P D classes w H) (S := (sI S0q 21 0)) (v := v13) hP
            have hD : va_D (cOf (jn [mcells cI cZ ad 0 S0])) (jn [mcells cI cZ ad 0 (sI (sI S0q 21 0) 21 v13)]) := ms_i21 (Φ := fun w => va_D (cOf (jn [mcells cI cZ ad 0 S0])) w) (S := (sI S0q 21 0)) (v := v13) hD
            refine lv_aload_n hx hb dX7_goYears_148 rfl (lv_at hl 3 rfl) ?_
            refine va_get (D := D) (ci := 7) (v := .ref (ad (0 + 8))) (C := RX7) (T := TX7) (N := 27) hx hb hW inW_X7 hown hK hP 0 rfl rfl 17 (by decide) (hW _ fl_X7_38) (fun _ h9 => h9) rfl dX7_goYears_149 ?_
            refine lv_iload_n hx hb dX7_goYears_152 rfl (lv_at hl 1 rfl) ?_
            refine lv_aload_n hx hb dX7_goYears_153 rfl (lv_at hl 3 rfl) ?_
            refine va_get (D := D) (ci := 7) (v := .int v13) (C := RX7) (T := TX7) (N := 27) hx hb hW inW_X7 hown hK hP 0 rfl rfl 21 (by decide) (hW _ fl_X7_114) (fun _ h9 => h9) rfl dX7_goYears_154 ?_
            refine lv_if_ne (tgt := 172) hx hb dX7_goYears_157 (by decide) (fun c14 => ?_) (fun c14 => ?_)
            · have hw := Eq.mp (if_neg c14) hw
              refine lv_aload_n hx hb dX7_goYears_172 rfl (lv_at hl 3 rfl) ?_
              refine va_get (D := D) (ci := 7) (v := .ref (ad (0 + 8))) (C := RX7) (T := TX7) (N := 27) hx hb hW inW_X7 hown hK hP 0 rfl rfl 17 (by decide) (hW _ fl_X7_38) (fun _ h9 => h9) rfl dX7_goYears_173 ?_
              refine lv_iload_n hx hb dX7_goYears_176 rfl (lv_at hl 1 rfl) ?_
              refine va_iald (f := (S0q.2 17)) hx hb hK hP 8 0 rfl rfl hw.1 dX7_goYears_177 ?_
              have hw := hw.2
              refine va_iast (f := (S0q.2 17)) hx hb hK hP hD hS 8 0 rfl rfl hw.1 dX7_goYears_178 (fun H locs hP hD hS => ?_)
              have hw := hw.2
              revert hw; revert hD; revert hP
              generalize (upd (S0q.2 17) ((((S0q.2 13) (y1 : Int32).toNatClampNeg) - 65) : Int32).toNatClampNeg ((S0q.2 17) ((((S0q.2 13) (y1 : Int32).toNatClampNeg) - 65) : Int32).toNatClampNeg)) = Z31
              intro hP hD hw
              have hP : va_P D classes (jn [mcells cI cZ ad 0 (sA (sI (sI S0q 21 0) 21 v13) 17 Z31)]) H := ms_a17 (Φ := fun w => va_P D classes w H) (S := (sI (sI S0q 21 0) 21 v13)) (v := Z31) hP
              have hD : va_D (cOf (jn [mcells cI cZ ad 0 S0])) (jn [mcells cI cZ ad 0 (sA (sI (sI S0q 21 0) 21 v13) 17 Z31)]) := ms_a17 (Φ := fun w => va_D (cOf (jn [mcells cI cZ ad 0 S0])) w) (S := (sI (sI S0q 21 0) 21 v13)) (v := Z31) hD
              refine lv_aload_n hx hb dX7_goYears_179 rfl (lv_at hl 3 rfl) ?_
              refine va_get (D := D) (ci := 7) (v := .ref (ad (0 + 10))) (C := RX7) (T := TX7) (N := 27) hx hb hW inW_X7 hown hK hP 0 rfl rfl 19 (by decide) (hW _ fl_X7_44) (fun _ h9 => h9) rfl dX7_goYears_180 ?_
              refine lv_iload_n hx hb dX7_goYears_183 rfl (lv_at hl 1 rfl) ?_
              refine lv_aload_n hx hb dX7_goYears_184 rfl (lv_at hl 3 rfl) ?_
              refine va_get (D := D) (ci := 7) (v := .int v13) (C := RX7) (T := TX7) (N := 27) hx hb hW inW_X7 hown hK hP 0 rfl rfl 21 (by decide) (hW _ fl_X7_114) (fun _ h9 => h9) rfl dX7_goYears_185 ?_
              refine lv_if_gt (tgt := 198) hx hb dX7_goYears_188 (by decide) (fun c32 => ?_) (fun c32 => ?_)
              · have hw := Eq.mp (if_pos c32) hw
                refine lv_aload_n hx hb dX7_goYears_198 rfl (lv_at hl 3 rfl) ?_
                refine va_get (D := D) (ci := 7) (v := .ref (ad (0 + 10))) (C := RX7) (T := TX7) (N := 27) hx hb hW inW_X7 hown hK hP 0 rfl rfl 19 (by decide) (hW _ fl_X7_44) (fun _ h9 => h9) rfl dX7_goYears_199 ?_
                refine lv_iload_n hx hb dX7_goYears_202 rfl (lv_at hl 1 rfl) ?_
                refine va_iald (f := (S0q.2 19)) hx hb hK hP 10 0 rfl rfl hw.1 dX7_goYears_203 ?_
                have hw := hw.2
                refine lv_goto (tgt := 219) hx hb dX7_goYears_204 (by decide) ?_
                refine va_iast (f := (S0q.2 19)) hx hb hK hP hD hS 10 0 rfl rfl hw.1 dX7_goYears_219 (fun H locs hP hD hS => ?_)
                have hw := hw.2
                revert hw; revert hD; revert hP
                generalize (upd (S0q.2 19) ((((S0q.2 13) (y1 : Int32).toNatClampNeg) - 65) : Int32).toNatClampNeg ((S0q.2 19) ((((S0q.2 13) (y1 : Int32).toNatClampNeg) - 65) : Int32).toNatClampNeg)) = Z33
                intro hP hD hw
                have hP : va_P D classes (jn [mcells cI cZ ad 0 (sA (sA (sI (sI S0q 21 0) 21 v13) 17 Z31) 19 Z33)]) H := ms_a19 (Φ := fun w => va_P D classes w H) (S := (sA (sI (sI S0q 21 0) 21 v13) 17 Z31)) (v := Z33) hP
                have hD : va_D (cOf (jn [mcells cI cZ ad 0 S0])) (jn [mcells cI cZ ad 0 (sA (sA (sI (sI S0q 21 0) 21 v13) 17 Z31) 19 Z33)]) := ms_a19 (Φ := fun w => va_D (cOf (jn [mcells cI cZ ad 0 S0])) w) (S := (sA (sI (sI S0q 21 0) 21 v13) 17 Z31)) (v := Z33) hD
                refine lv_iinc (v := (y1 + 2)) (lv' := [(1, .int (y1 + 2)), (4, .int ((S0q.2 13) ((y1 + 1) : Int32).toNatClampNeg)), (3, .int (((S0q.2 13) (y1 : Int32).toNatClampNeg) - 65)), (2, .int ((S0q.2 13) (y1 : Int32).toNatClampNeg)), (0, .ref (ad 0))]) hx hb dX7_goYears_220 hl (k := 4) rfl rfl (by decide) rfl (fun ls hl => ?_)
                refine lv_aload_n hx hb dX7_goYears_223 rfl (lv_at hl 4 rfl) ?_
                refine va_get (D := D) (ci := 7) (v := .int v13) (C := RX7) (T := TX7) (N := 27) hx hb hW inW_X7 hown hK hP 0 rfl rfl 21 (by decide) (hW _ fl_X7_114) (fun _ h9 => h9) rfl dX7_goYears_224 ?_
                refine lv_if_le (tgt := 235) hx hb dX7_goYears_227 (by decide) (fun c34 => ?_) (fun c34 => ?_)
                · have hw := Eq.mp (if_pos c34) hw
                  refine lv_aload_n hx hb dX7_goYears_235 rfl (lv_at hl 4 rfl) ?_
                  refine lv_dup hx hb dX7_goYears_236 rfl ?_
                  refine va_get (D := D) (ci := 7) (v := .int (S0q.1 22)) (C := RX7) (T := TX7) (N := 27) hx hb hW inW_X7 hown hK hP 0 rfl rfl 22 (by decide) (hW _ fl_X7_111) (fun _ h9 => h9) rfl dX7_goYears_237 ?_
                  refine lv_iconst (v := 1) hx hb dX7_goYears_240 (by decide) ?_
                  refine lv_iadd hx hb dX7_goYears_241 ?_
                  refine va_put (D := D) (ci := 7) (v := .int ((S0q.1 22) + 1)) (ty := .int) (C := RX7) (T := TX7) (N := 27) hx hb hW inW_X7 tyX7 tyX7_ok nmX7 hown hK hP hD hS 0 rfl rfl 22 (by decide) (hW _ fl_X7_111) (fun _ h9 => h9) rfl (by decide +kernel) rfl rfl (Nat.le_of_ble_eq_true rfl) dX7_goYears_242 (fun H locs hP hD hS => ?_)
                  have hP : va_P D classes (jn [mcells cI cZ ad 0 (sI (sA (sA (sI (sI S0q 21 0) 21 v13) 17 Z31) 19 Z33) 22 ((S0q.1 22) + 1))]) H := ms_i22 (Φ := fun w => va_P D classes w H) (S := (sA (sA (sI (sI S0q 21 0) 21 v13) 17 Z31) 19 Z33)) (v := ((S0q.1 22) + 1)) hP
                  have hD : va_D (cOf (jn [mcells cI cZ ad 0 S0])) (jn [mcells cI cZ ad 0 (sI (sA (sA (sI (sI S0q 21 0) 21 v13) 17 Z31) 19 Z33) 22 ((S0q.1 22) + 1))]) := ms_i22 (Φ := fun w => va_D (cOf (jn [mcells cI cZ ad 0 S0])) w) (S := (sA (sA (sI (sI S0q 21 0) 21 v13) 17 Z31) 19 Z33)) (v := ((S0q.1 22) + 1)) hD
                  refine lv_goto (tgt := 11) hx hb dX7_goYears_245 (by decide) ?_
                  exact ih (y1 + 2) (sI (sA (sA (sI (sI S0q 21 0) 21 v13) 17 Z31) 19 Z33) 22 ((S0q.1 22) + 1)) _ _ hP hD hS _ (lv_sub hl [4, 0] rfl) hw
                · have hw := Eq.mp (if_neg c34) hw
                  refine lv_aload_n hx hb dX7_goYears_230 rfl (lv_at hl 4 rfl) ?_
                  refine va_get (D := D) (ci := 7) (v := .int (S0q.1 22)) (C := RX7) (T := TX7) (N := 27) hx hb hW inW_X7 hown hK hP 0 rfl rfl 22 (by decide) (hW _ fl_X7_111) (fun _ h9 => h9) rfl dX7_goYears_231 ?_
                  exact W.iret (v := (S0q.1 22)) hx hb hr (fun t ht _ => ⟨⟨_, ((sA (sA (sI (sI S0q 21 0) 21 v13) 17 Z31) 19 Z33)), rfl, ⟨_, rfl, hw⟩, by rw [ht]; exact hP⟩, hS.F ht⟩) hS.2.2 dX7_goYears_234
              · have hw := Eq.mp (if_neg c32) hw
                refine lv_iload hx hb dX7_goYears_191 (lv_at hl 0 rfl) ?_
                refine lv_bipush (v := 100) hx hb dX7_goYears_193 (by decide) ?_
                refine lv_icmp_ne (tgt := 207) hx hb dX7_goYears_195 (by decide) (fun c35 => ?_) (fun c35 => ?_)
                · have hw := Eq.mp (if_neg c35) hw
                  refine lv_iload hx hb dX7_goYears_207 (lv_at hl 0 rfl) ?_
                  refine lv_bipush (v := 115) hx hb dX7_goYears_209 (by decide) ?_
                  refine lv_icmp_ne (tgt := 218) hx hb dX7_goYears_211 (by decide) (fun c38 => ?_) (fun c38 => ?_)
                  · have hw := Eq.mp (if_neg c38) hw
                    refine lv_iconst (v := 2) hx hb dX7_goYears_218 (by decide) ?_
                    refine va_iast (f := (S0q.2 19)) hx hb hK hP hD hS 10 0 rfl rfl hw.1 dX7_goYears_219 (fun H locs hP hD hS => ?_)
                    have hw := hw.2
                    revert hw; revert hD; revert hP
                    generalize (upd (S0q.2 19) ((((S0q.2 13) (y1 : Int32).toNatClampNeg) - 65) : Int32).toNatClampNeg 2) = Z41
                    intro hP hD hw
                    have hP : va_P D classes (jn [mcells cI cZ ad 0 (sA (sA (sI (sI S0q 21 0) 21 v13) 17 Z31) 19 Z41)]) H := ms_a19 (Φ := fun w => va_P D classes w H) (S := (sA (sI (sI S0q 21 0) 21 v13) 17 Z31)) (v := Z41) hP
                    have hD : va_D (cOf (jn [mcells cI cZ ad 0 S0])) (jn [mcells cI cZ ad 0 (sA (sA (sI (sI S0q 21 0) 21 v13) 17 Z31) 19 Z41)]) := ms_a19 (Φ := fun w => va_D (cOf (jn [mcells cI cZ ad 0 S0])) w) (S := (sA (sI (sI S0q 21 0) 21 v13) 17 Z31)) (v := Z41) hD
                    refine lv_iinc (v := (y1 + 2)) (lv' := [(1, .int (y1 + 2)), (4, .int ((S0q.2 13) ((y1 + 1) : Int32).toNatClampNeg)), (3, .int (((S0q.2 13) (y1 : Int32).toNatClampNeg) - 65)), (2, .int ((S0q.2 13) (y1 : Int32).toNatClampNeg)), (0, .ref (ad 0))]) hx hb dX7_goYears_220 hl (k := 4) rfl rfl (by decide) rfl (fun ls hl => ?_)
                    refine lv_aload_n hx hb dX7_goYears_223 rfl (lv_at hl 4 rfl) ?_
                    refine va_get (D := D) (ci := 7) (v := .int v13) (C := RX7) (T := TX7) (N := 27) hx hb hW inW_X7 hown hK hP 0 rfl rfl 21 (by decide) (hW _ fl_X7_114) (fun _ h9 => h9) rfl dX7_goYears_224 ?_
                    refine lv_if_le (tgt := 235) hx hb dX7_goYears_227 (by decide) (fun c42 => ?_) (fun c42 => ?_)
                    · have hw := Eq.mp (if_pos c42) hw
                      refine lv_aload_n hx hb dX7_goYears_235 rfl (lv_at hl 4 rfl) ?_
                      refine lv_dup hx hb dX7_goYears_236 rfl ?_
                      refine va_get (D := D) (ci := 7) (v := .int (S0q.1 22)) (C := RX7) (T := TX7) (N := 27) hx hb hW inW_X7 hown hK hP 0 rfl rfl 22 (by decide) (hW _ fl_X7_111) (fun _ h9 => h9) rfl dX7_goYears_237 ?_
                      refine lv_iconst (v := 1) hx hb dX7_goYears_240 (by decide) ?_
                      refine lv_iadd hx hb dX7_goYears_241 ?_
                      refine va_put (D := D) (ci := 7) (v := .int ((S0q.1 22) + 1)) (ty := .int) (C := RX7) (T := TX7) (N := 27) hx hb hW inW_X7 tyX7 tyX7_ok nmX7 hown hK hP hD hS 0 rfl rfl 22 (by decide) (hW _ fl_X7_111) (fun _ h9 => h9) rfl (by decide +kernel) rfl rfl (Nat.le_of_ble_eq_true rfl) dX7_goYears_242 (fun H locs hP hD hS => ?_)
                      have hP : va_P D classes (jn [mcells cI cZ ad 0 (sI (sA (sA (sI (sI S0q 21 0) 21 v13) 17 Z31) 19 Z41) 22 ((S0q.1 22) + 1))]) H := ms_i22 (Φ := fun w => va_P D classes w H) (S := (sA (sA (sI (sI S0q 21 0) 21 v13) 17 Z31) 19 Z41)) (v := ((S0q.1 22) + 1)) hP
                      have hD : va_D (cOf (jn [mcells cI cZ ad 0 S0])) (jn [mcells cI cZ ad 0 (sI (sA (sA (sI (sI S0q 21 0) 21 v13) 17 Z31) 19 Z41) 22 ((S0q.1 22) + 1))]) := ms_i22 (Φ := fun w => va_D (cOf (jn [mcells cI cZ ad 0 S0])) w) (S := (sA (sA (sI (sI S0q 21 0) 21 v13) 17 Z31) 19 Z41)) (v := ((S0q.1 22) + 1)) hD
                      refine lv_goto (tgt := 11) hx hb dX7_goYears_245 (by decide) ?_
                      exact ih (y1 + 2) (sI (sA (sA (sI (sI S0q 21 0) 21 v13) 17 Z31) 19 Z41) 22 ((S0q.1 22) + 1)) _ _ hP hD hS _ (lv_sub hl [4, 0] rfl) hw
                    · have hw := Eq.mp (if_neg c42) hw
                      refine lv_aload_n hx hb dX7_goYears_230 rfl (lv_at hl 4 rfl) ?_
                      refine va_get (D := D) (ci := 7) (v := .int (S0q.1 22)) (C := RX7) (T := TX7) (N := 27) hx hb hW inW_X7 hown hK hP 0 rfl rfl 22 (by decide) (hW _ fl_X7_111) (fun _ h9 => h9) rfl dX7_goYears_231 ?_
                      exact W.iret (v := (S0q.1 22)) hx hb hr (fun t ht _ => ⟨⟨_, ((sA (sA (sI (sI S0q 21 0) 21 v13) 17 Z31) 19 Z41)), rfl, ⟨_, rfl, hw⟩, by rw [ht]; exact hP⟩, hS.F ht⟩) hS.2.2 dX7_goYears_234
                  · have hw := Eq.mp (if_pos c38) hw
                    refine lv_iconst (v := 1) hx hb dX7_goYears_214 (by decide) ?_
                    refine lv_goto (tgt := 219) hx hb dX7_goYears_215 (by decide) ?_
                    refine va_iast (f := (S0q.2 19)) hx hb hK hP hD hS 10 0 rfl rfl hw.1 dX7_goYears_219 (fun H locs hP hD hS => ?_)
                    have hw := hw.2
                    revert hw; revert hD; revert hP
                    generalize (upd (S0q.2 19) ((((S0q.2 13) (y1 : Int32).toNatClampNeg) - 65) : Int32).toNatClampNeg 1) = Z39
                    intro hP hD hw
                    have hP : va_P D classes (jn [mcells cI cZ ad 0 (sA (sA (sI (sI S0q 21 0) 21 v13) 17 Z31) 19 Z39)]) H := ms_a19 (Φ := fun w => va_P D classes w H) (S := (sA (sI (sI S0q 21 0) 21 v13) 17 Z31)) (v := Z39) hP
                    have hD : va_D (cOf (jn [mcells cI cZ ad 0 S0])) (jn [mcells cI cZ ad 0 (sA (sA (sI (sI S0q 21 0) 21 v13) 17 Z31) 19 Z39)]) := ms_a19 (Φ := fun w => va_D (cOf (jn [mcells cI cZ ad 0 S0])) w) (S := (sA (sI (sI S0q 21 0) 21 v13) 17 Z31)) (v := Z39) hD
                    refine lv_iinc (v := (y1 + 2)) (lv' := [(1, .int (y1 + 2)), (4, .int ((S0q.2 13) ((y1 + 1) : Int32).toNatClampNeg)), (3, .int (((S0q.2 13) (y1 : Int32).toNatClampNeg) - 65)), (2, .int ((S0q.2 13) (y1 : Int32).toNatClampNeg)), (0, .ref (ad 0))]) hx hb dX7_goYears_220 hl (k := 4) rfl rfl (by decide) rfl (fun ls hl => ?_)
                    refine lv_aload_n hx hb dX7_goYears_223 rfl (lv_at hl 4 rfl) ?_
                    refine va_get (D := D) (ci := 7) (v := .int v13) (C := RX7) (T := TX7) (N := 27) hx hb hW inW_X7 hown hK hP 0 rfl rfl 21 (by decide) (hW _ fl_X7_114) (fun _ h9 => h9) rfl dX7_goYears_224 ?_
                    refine lv_if_le (tgt := 235) hx hb dX7_goYears_227 (by decide) (fun c40 => ?_) (fun c40 => ?_)
                    · have hw := Eq.mp (if_pos c40) hw
                      refine lv_aload_n hx hb dX7_goYears_235 rfl (lv_at hl 4 rfl) ?_
                      refine lv_dup hx hb dX7_goYears_236 rfl ?_
                      refine va_get (D := D) (ci := 7) (v := .int (S0q.1 22)) (C := RX7) (T := TX7) (N := 27) hx hb hW inW_X7 hown hK hP 0 rfl rfl 22 (by decide) (hW _ fl_X7_111) (fun _ h9 => h9) rfl dX7_goYears_237 ?_
                      refine lv_iconst (v := 1) hx hb dX7_goYears_240 (by decide) ?_
                      refine lv_iadd hx hb dX7_goYears_241 ?_
                      refine va_put (D := D) (ci := 7) (v := .int ((S0q.1 22) + 1)) (ty := .int) (C := RX7) (T := TX7) (N := 27) hx hb hW inW_X7 tyX7 tyX7_ok nmX7 hown hK hP hD hS 0 rfl rfl 22 (by decide) (hW _ fl_X7_111) (fun _ h9 => h9) rfl (by decide +kernel) rfl rfl (Nat.le_of_ble_eq_true rfl) dX7_goYears_242 (fun H locs hP hD hS => ?_)
                      have hP : va_P D classes (jn [mcells cI cZ ad 0 (sI (sA (sA (sI (sI S0q 21 0) 21 v13) 17 Z31) 19 Z39) 22 ((S0q.1 22) + 1))]) H := ms_i22 (Φ := fun w => va_P D classes w H) (S := (sA (sA (sI (sI S0q 21 0) 21 v13) 17 Z31) 19 Z39)) (v := ((S0q.1 22) + 1)) hP
                      have hD : va_D (cOf (jn [mcells cI cZ ad 0 S0])) (jn [mcells cI cZ ad 0 (sI (sA (sA (sI (sI S0q 21 0) 21 v13) 17 Z31) 19 Z39) 22 ((S0q.1 22) + 1))]) := ms_i22 (Φ := fun w => va_D (cOf (jn [mcells cI cZ ad 0 S0])) w) (S := (sA (sA (sI (sI S0q 21 0) 21 v13) 17 Z31) 19 Z39)) (v := ((S0q.1 22) + 1)) hD
                      refine lv_goto (tgt := 11) hx hb dX7_goYears_245 (by decide) ?_
                      exact ih (y1 + 2) (sI (sA (sA (sI (sI S0q 21 0) 21 v13) 17 Z31) 19 Z39) 22 ((S0q.1 22) + 1)) _ _ hP hD hS _ (lv_sub hl [4, 0] rfl) hw
                    · have hw := Eq.mp (if_neg c40) hw
                      refine lv_aload_n hx hb dX7_goYears_230 rfl (lv_at hl 4 rfl) ?_
                      refine va_get (D := D) (ci := 7) (v := .int (S0q.1 22)) (C := RX7) (T := TX7) (N := 27) hx hb hW inW_X7 hown hK hP 0 rfl rfl 22 (by decide) (hW _ fl_X7_111) (fun _ h9 => h9) rfl dX7_goYears_231 ?_
                      exact W.iret (v := (S0q.1 22)) hx hb hr (fun t ht _ => ⟨⟨_, ((sA (sA (sI (sI S0q 21 0) 21 v13) 17 Z31) 19 Z39)), rfl, ⟨_, rfl, hw⟩, by rw [ht]; exact hP⟩, hS.F ht⟩) hS.2.2 dX7_goYears_234
                · have hw := Eq.mp (if_pos c35) hw
                  refine lv_aload_n hx hb dX7_goYears_198 rfl (lv_at hl 3 rfl) ?_
                  refine va_get (D := D) (ci := 7) (v := .ref (ad (0 + 10))) (C := RX7) (T := TX7) (N := 27) hx hb hW inW_X7 hown hK hP 0 rfl rfl 19 (by decide) (hW _ fl_X7_44) (fun _ h9 => h9) rfl dX7_goYears_199 ?_
                  refine lv_iload_n hx hb dX7_goYears_202 rfl (lv_at hl 1 rfl) ?_
                  refine va_iald (f := (S0q.2 19)) hx hb hK hP 10 0 rfl rfl hw.1 dX7_goYears_203 ?_
                  have hw := hw.2
                  refine lv_goto (tgt := 219) hx hb dX7_goYears_204 (by decide) ?_
                  refine va_iast (f := (S0q.2 19)) hx hb hK hP hD hS 10 0 rfl rfl hw.1 dX7_goYears_219 (fun H locs hP hD hS => ?_)
                  have hw := hw.2
                  revert hw; revert hD; revert hP
                  generalize (upd (S0q.2 19) ((((S0q.2 13) (y1 : Int32).toNatClampNeg) - 65) : Int32).toNatClampNeg ((S0q.2 19) ((((S0q.2 13) (y1 : Int32).toNatClampNeg) - 65) : Int32).toNatClampNeg)) = Z36
                  intro hP hD hw
                  have hP : va_P D classes (jn [mcells cI cZ ad 0 (sA (sA (sI (sI S0q 21 0) 21 v13) 17 Z31) 19 Z36)]) H := ms_a19 (Φ := fun w => va_P D classes w H) (S := (sA (sI (sI S0q 21 0) 21 v13) 17 Z31)) (v := Z36) hP
                  have hD : va_D (cOf (jn [mcells cI cZ ad 0 S0])) (jn [mcells cI cZ ad 0 (sA (sA (sI (sI S0q 21 0) 21 v13) 17 Z31) 19 Z36)]) := ms_a19 (Φ := fun w => va_D (cOf (jn [mcells cI cZ ad 0 S0])) w) (S := (sA (sI (sI S0q 21 0) 21 v13) 17 Z31)) (v := Z36) hD
                  refine lv_iinc (v := (y1 + 2)) (lv' := [(1, .int (y1 + 2)), (4, .int ((S0q.2 13) ((y1 + 1) : Int32).toNatClampNeg)), (3, .int (((S0q.2 13) (y1 : Int32).toNatClampNeg) - 65)), (2, .int ((S0q.2 13) (y1 : Int32).toNatClampNeg)), (0, .ref (ad 0))]) hx hb dX7_goYears_220 hl (k := 4) rfl rfl (by decide) rfl (fun ls hl => ?_)
                  refine lv_aload_n hx hb dX7_goYears_223 rfl (lv_at hl 4 rfl) ?_
                  refine va_get (D := D) (ci := 7) (v := .int v13) (C := RX7) (T := TX7) (N := 27) hx hb hW inW_X7 hown hK hP 0 rfl rfl 21 (by decide) (hW _ fl_X7_114) (fun _ h9 => h9) rfl dX7_goYears_224 ?_
                  refine lv_if_le (tgt := 235) hx hb dX7_goYears_227 (by decide) (fun c37 => ?_) (fun c37 => ?_)
                  · have hw := Eq.mp (if_pos c37) hw
                    refine lv_aload_n hx hb dX7_goYears_235 rfl (lv_at hl 4 rfl) ?_
                    refine lv_dup hx hb dX7_goYears_236 rfl ?_
                    refine va_get (D := D) (ci := 7) (v := .int (S0q.1 22)) (C := RX7) (T := TX7) (N := 27) hx hb hW inW_X7 hown hK hP 0 rfl rfl 22 (by decide) (hW _ fl_X7_111) (fun _ h9 => h9) rfl dX7_goYears_237 ?_
                    refine lv_iconst (v := 1) hx hb dX7_goYears_240 (by decide) ?_
                    refine lv_iadd hx hb dX7_goYears_241 ?_
                    refine va_put (D := D) (ci := 7) (v := .int ((S0q.1 22) + 1)) (ty := .int) (C := RX7) (T := TX7) (N := 27) hx hb hW inW_X7 tyX7 tyX7_ok nmX7 hown hK hP hD hS 0 rfl rfl 22 (by decide) (hW _ fl_X7_111) (fun _ h9 => h9) rfl (by decide +kernel) rfl rfl (Nat.le_of_ble_eq_true rfl) dX7_goYears_242 (fun H locs hP hD hS => ?_)
                    have hP : va_P D classes (jn [mcells cI cZ ad 0 (sI (sA (sA (sI (sI S0q 21 0) 21 v13) 17 Z31) 19 Z36) 22 ((S0q.1 22) + 1))]) H := ms_i22 (Φ := fun w => va_P D classes w H) (S := (sA (sA (sI (sI S0q 21 0) 21 v13) 17 Z31) 19 Z36)) (v := ((S0q.1 22) + 1)) hP
                    have hD : va_D (cOf (jn [mcells cI cZ ad 0 S0])) (jn [mcells cI cZ ad 0 (sI (sA (sA (sI (sI S0q 21 0) 21 v13) 17 Z31) 19 Z36) 22 ((S0q.1 22) + 1))]) := ms_i22 (Φ := fun w => va_D (cOf (jn [mcells cI cZ ad 0 S0])) w) (S := (sA (sA (sI (sI S0q 21 0) 21 v13) 17 Z31) 19 Z36)) (v := ((S0q.1 22) + 1)) hD
                    refine lv_goto (tgt := 11) hx hb dX7_goYears_245 (by decide) ?_
                    exact ih (y1 + 2) (sI (sA (sA (sI (sI S0q 21 0) 21 v13) 17 Z31) 19 Z36) 22 ((S0q.1 22) + 1)) _ _ hP hD hS _ (lv_sub hl [4, 0] rfl) hw
                  · have hw := Eq.mp (if_neg c37) hw
                    refine lv_aload_n hx hb dX7_goYears_230 rfl (lv_at hl 4 rfl) ?_
                    refine va_get (D := D) (ci := 7) (v := .int (S0q.1 22)) (C := RX7) (T := TX7) (N := 27) hx hb hW inW_X7 hown hK hP 0 rfl rfl 22 (by decide) (hW _ fl_X7_111) (fun _ h9 => h9) rfl dX7_goYears_231 ?_
                    exact W.iret (v := (S0q.1 22)) hx hb hr (fun t ht _ => ⟨⟨_, ((sA (sA (sI (sI S0q 21 0) 21 v13) 17 Z31) 19 Z36)), rfl, ⟨_, rfl, hw⟩, by rw [ht]; exact hP⟩, hS.F ht⟩) hS.2.2 dX7_goYears_234
            · have hw := Eq.mp (if_pos c14) hw
              refine lv_iload hx hb dX7_goYears_160 (lv_at hl 0 rfl) ?_
              refine lv_bipush (v := 100) hx hb dX7_goYears_162 (by decide) ?_
              refine lv_icmp_ne (tgt := 172) hx hb dX7_goYears_164 (by decide) (fun c15 => ?_) (fun c15 => ?_)
              · have hw := Eq.mp (if_neg c15) hw
                refine lv_aload_n hx hb dX7_goYears_172 rfl (lv_at hl 3 rfl) ?_
                refine va_get (D := D) (ci := 7) (v := .ref (ad (0 + 8))) (C := RX7) (T := TX7) (N := 27) hx hb hW inW_X7 hown hK hP 0 rfl rfl 17 (by decide) (hW _ fl_X7_38) (fun _ h9 => h9) rfl dX7_goYears_173 ?_
                refine lv_iload_n hx hb dX7_goYears_176 rfl (lv_at hl 1 rfl) ?_
                refine va_iald (f := (S0q.2 17)) hx hb hK hP 8 0 rfl rfl hw.1 dX7_goYears_177 ?_
                have hw := hw.2
                refine va_iast (f := (S0q.2 17)) hx hb hK hP hD hS 8 0 rfl rfl hw.1 dX7_goYears_178 (fun H locs hP hD hS => ?_)
                have hw := hw.2
                revert hw; revert hD; revert hP
                generalize (upd (S0q.2 17) ((((S0q.2 13) (y1 : Int32).toNatClampNeg) - 65) : Int32).toNatClampNeg ((S0q.2 17) ((((S0q.2 13) (y1 : Int32).toNatClampNeg) - 65) : Int32).toNatClampNeg)) = Z22
                intro hP hD hw
                have hP : va_P D classes (jn [mcells cI cZ ad 0 (sA (sI (sI S0q 21 0) 21 v13) 17 Z22)]) H := ms_a17 (Φ := fun w => va_P D classes w H) (S := (sI (sI S0q 21 0) 21 v13)) (v := Z22) hP
                have hD : va_D (cOf (jn [mcells cI cZ ad 0 S0])) (jn [mcells cI cZ ad 0 (sA (sI (sI S0q 21 0) 21 v13) 17 Z22)]) := ms_a17 (Φ := fun w => va_D (cOf (jn [mcells cI cZ ad 0 S0])) w) (S := (sI (sI S0q 21 0) 21 v13)) (v := Z22) hD
                refine lv_aload_n hx hb dX7_goYears_179 rfl (lv_at hl 3 rfl) ?_
                refine va_get (D := D) (ci := 7) (v := .ref (ad (0 + 10))) (C := RX7) (T := TX7) (N := 27) hx hb hW inW_X7 hown hK hP 0 rfl rfl 19 (by decide) (hW _ fl_X7_44) (fun _ h9 => h9) rfl dX7_goYears_180 ?_
                refine lv_iload_n hx hb dX7_goYears_183 rfl (lv_at hl 1 rfl) ?_
                refine lv_aload_n hx hb dX7_goYears_184 rfl (lv_at hl 3 rfl) ?_
                refine va_get (D := D) (ci := 7) (v := .int v13) (C := RX7) (T := TX7) (N := 27) hx hb hW inW_X7 hown hK hP 0 rfl rfl 21 (by decide) (hW _ fl_X7_114) (fun _ h9 => h9) rfl dX7_goYears_185 ?_
                refine lv_if_gt (tgt := 198) hx hb dX7_goYears_188 (by decide) (fun c23 => ?_) (fun c23 => ?_)
                · have hw := Eq.mp (if_pos c23) hw
                  refine lv_aload_n hx hb dX7_goYears_198 rfl (lv_at hl 3 rfl) ?_
                  refine va_get (D := D) (ci := 7) (v := .ref (ad (0 + 10))) (C := RX7) (T := TX7) (N := 27) hx hb hW inW_X7 hown hK hP 0 rfl rfl 19 (by decide) (hW _ fl_X7_44) (fun _ h9 => h9) rfl dX7_goYears_199 ?_
                  refine lv_iload_n hx hb dX7_goYears_202 rfl (lv_at hl 1 rfl) ?_
                  refine va_iald (f := (S0q.2 19)) hx hb hK hP 10 0 rfl rfl hw.1 dX7_goYears_203 ?_
                  have hw := hw.2
                  refine lv_goto (tgt := 219) hx hb dX7_goYears_204 (by decide) ?_
                  refine va_iast (f := (S0q.2 19)) hx hb hK hP hD hS 10 0 rfl rfl hw.1 dX7_goYears_219 (fun H locs hP hD hS => ?_)
                  have hw := hw.2
                  revert hw; revert hD; revert hP
                  generalize (upd (S0q.2 19) ((((S0q.2 13) (y1 : Int32).toNatClampNeg) - 65) : Int32).toNatClampNeg ((S0q.2 19) ((((S0q.2 13) (y1 : Int32).toNatClampNeg) - 65) : Int32).toNatClampNeg)) = Z24
                  intro hP hD hw
                  have hP : va_P D classes (jn [mcells cI cZ ad 0 (sA (sA (sI (sI S0q 21 0) 21 v13) 17 Z22) 19 Z24)]) H := ms_a19 (Φ := fun w => va_P D classes w H) (S := (sA (sI (sI S0q 21 0) 21 v13) 17 Z22)) (v := Z24) hP
                  have hD : va_D (cOf (jn [mcells cI cZ ad 0 S0])) (jn [mcells cI cZ ad 0 (sA (sA (sI (sI S0q 21 0) 21 v13) 17 Z22) 19 Z24)]) := ms_a19 (Φ := fun w => va_D (cOf (jn [mcells cI cZ ad 0 S0])) w) (S := (sA (sI (sI S0q 21 0) 21 v13) 17 Z22)) (v := Z24) hD
                  refine lv_iinc (v := (y1 + 2)) (lv' := [(1, .int (y1 + 2)), (4, .int ((S0q.2 13) ((y1 + 1) : Int32).toNatClampNeg)), (3, .int (((S0q.2 13) (y1 : Int32).toNatClampNeg) - 65)), (2, .int ((S0q.2 13) (y1 : Int32).toNatClampNeg)), (0, .ref (ad 0))]) hx hb dX7_goYears_220 hl (k := 4) rfl rfl (by decide) rfl (fun ls hl => ?_)
                  refine lv_aload_n hx hb dX7_goYears_223 rfl (lv_at hl 4 rfl) ?_
                  refine va_get (D := D) (ci := 7) (v := .int v13) (C := RX7) (T := TX7) (N := 27) hx hb hW inW_X7 hown hK hP 0 rfl rfl 21 (by decide) (hW _ fl_X7_114) (fun _ h9 => h9) rfl dX7_goYears_224 ?_
                  refine lv_if_le (tgt := 235) hx hb dX7_goYears_227 (by decide) (fun c25 => ?_) (fun c25 => ?_)
                  · have hw := Eq.mp (if_pos c25) hw
                    refine lv_aload_n hx hb dX7_goYears_235 rfl (lv_at hl 4 rfl) ?_
                    refine lv_dup hx hb dX7_goYears_236 rfl ?_
                    refine va_get (D := D) (ci := 7) (v := .int (S0q.1 22)) (C := RX7) (T := TX7) (N := 27) hx hb hW inW_X7 hown hK hP 0 rfl rfl 22 (by decide) (hW _ fl_X7_111) (fun _ h9 => h9) rfl dX7_goYears_237 ?_
                    refine lv_iconst (v := 1) hx hb dX7_goYears_240 (by decide) ?_
                    refine lv_iadd hx hb dX7_goYears_241 ?_
                    refine va_put (D := D) (ci := 7) (v := .int ((S0q.1 22) + 1)) (ty := .int) (C := RX7) (T := TX7) (N := 27) hx hb hW inW_X7 tyX7 tyX7_ok nmX7 hown hK hP hD hS 0 rfl rfl 22 (by decide) (hW _ fl_X7_111) (fun _ h9 => h9) rfl (by decide +kernel) rfl rfl (Nat.le_of_ble_eq_true rfl) dX7_goYears_242 (fun H locs hP hD hS => ?_)
                    have hP : va_P D classes (jn [mcells cI cZ ad 0 (sI (sA (sA (sI (sI S0q 21 0) 21 v13) 17 Z22) 19 Z24) 22 ((S0q.1 22) + 1))]) H := ms_i22 (Φ := fun w => va_P D classes w H) (S := (sA (sA (sI (sI S0q 21 0) 21 v13) 17 Z22) 19 Z24)) (v := ((S0q.1 22) + 1)) hP
                    have hD : va_D (cOf (jn [mcells cI cZ ad 0 S0])) (jn [mcells cI cZ ad 0 (sI (sA (sA (sI (sI S0q 21 0) 21 v13) 17 Z22) 19 Z24) 22 ((S0q.1 22) + 1))]) := ms_i22 (Φ := fun w => va_D (cOf (jn [mcells cI cZ ad 0 S0])) w) (S := (sA (sA (sI (sI S0q 21 0) 21 v13) 17 Z22) 19 Z24)) (v := ((S0q.1 22) + 1)) hD
                    refine lv_goto (tgt := 11) hx hb dX7_goYears_245 (by decide) ?_
                    exact ih (y1 + 2) (sI (sA (sA (sI (sI S0q 21 0) 21 v13) 17 Z22) 19 Z24) 22 ((S0q.1 22) + 1)) _ _ hP hD hS _ (lv_sub hl [4, 0] rfl) hw
                  · have hw := Eq.mp (if_neg c25) hw
                    refine lv_aload_n hx hb dX7_goYears_230 rfl (lv_at hl 4 rfl) ?_
                    refine va_get (D := D) (ci := 7) (v := .int (S0q.1 22)) (C := RX7) (T := TX7) (N := 27) hx hb hW inW_X7 hown hK hP 0 rfl rfl 22 (by decide) (hW _ fl_X7_111) (fun _ h9 => h9) rfl dX7_goYears_231 ?_
                    exact W.iret (v := (S0q.1 22)) hx hb hr (fun t ht _ => ⟨⟨_, ((sA (sA (sI (sI S0q 21 0) 21 v13) 17 Z22) 19 Z24)), rfl, ⟨_, rfl, hw⟩, by rw [ht]; exact hP⟩, hS.F ht⟩) hS.2.2 dX7_goYears_234
                · have hw := Eq.mp (if_neg c23) hw
                  refine lv_iload hx hb dX7_goYears_191 (lv_at hl 0 rfl) ?_
                  refine lv_bipush (v := 100) hx hb dX7_goYears_193 (by decide) ?_
                  refine lv_icmp_ne (tgt := 207) hx hb dX7_goYears_195 (by decide) (fun _ => ?_) (fun c9 => absurd c9 c15)
                  refine lv_iload hx hb dX7_goYears_207 (lv_at hl 0 rfl) ?_
                  refine lv_bipush (v := 115) hx hb dX7_goYears_209 (by decide) ?_
                  refine lv_icmp_ne (tgt := 218) hx hb dX7_goYears_211 (by decide) (fun c26 => ?_) (fun c26 => ?_)
                  · have hw := Eq.mp (if_neg c26) hw
                    refine lv_iconst (v := 2) hx hb dX7_goYears_218 (by decide) ?_
                    refine va_iast (f := (S0q.2 19)) hx hb hK hP hD hS 10 0 rfl rfl hw.1 dX7_goYears_219 (fun H locs hP hD hS => ?_)
                    have hw := hw.2
                    revert hw; revert hD; revert hP
                    generalize (upd (S0q.2 19) ((((S0q.2 13) (y1 : Int32).toNatClampNeg) - 65) : Int32).toNatClampNeg 2) = Z29
                    intro hP hD hw
                    have hP : va_P D classes (jn [mcells cI cZ ad 0 (sA (sA (sI (sI S0q 21 0) 21 v13) 17 Z22) 19 Z29)]) H := ms_a19 (Φ := fun w => va_P D classes w H) (S := (sA (sI (sI S0q 21 0) 21 v13) 17 Z22)) (v := Z29) hP
                    have hD : va_D (cOf (jn [mcells cI cZ ad 0 S0])) (jn [mcells cI cZ ad 0 (sA (sA (sI (sI S0q 21 0) 21 v13) 17 Z22) 19 Z29)]) := ms_a19 (Φ := fun w => va_D (cOf (jn [mcells cI cZ ad 0 S0])) w) (S := (sA (sI (sI S0q 21 0) 21 v13) 17 Z22)) (v := Z29) hD
                    refine lv_iinc (v := (y1 + 2)) (lv' := [(1, .int (y1 + 2)), (4, .int ((S0q.2 13) ((y1 + 1) : Int32).toNatClampNeg)), (3, .int (((S0q.2 13) (y1 : Int32).toNatClampNeg) - 65)), (2, .int ((S0q.2 13) (y1 : Int32).toNatClampNeg)), (0, .ref (ad 0))]) hx hb dX7_goYears_220 hl (k := 4) rfl rfl (by decide) rfl (fun ls hl => ?_)
                    refine lv_aload_n hx hb dX7_goYears_223 rfl (lv_at hl 4 rfl) ?_
                    refine va_get (D := D) (ci := 7) (v := .int v13) (C := RX7) (T := TX7) (N := 27) hx hb hW inW_X7 hown hK hP 0 rfl rfl 21 (by decide) (hW _ fl_X7_114) (fun _ h9 => h9) rfl dX7_goYears_224 ?_
                    refine lv_if_le (tgt := 235) hx hb dX7_goYears_227 (by decide) (fun c30 => ?_) (fun c30 => ?_)
                    · have hw := Eq.mp (if_pos c30) hw
                      refine lv_aload_n hx hb dX7_goYears_235 rfl (lv_at hl 4 rfl) ?_
                      refine lv_dup hx hb dX7_goYears_236 rfl ?_
                      refine va_get (D := D) (ci := 7) (v := .int (S0q.1 22)) (C := RX7) (T := TX7) (N := 27) hx hb hW inW_X7 hown hK hP 0 rfl rfl 22 (by decide) (hW _ fl_X7_111) (fun _ h9 => h9) rfl dX7_goYears_237 ?_
                      refine lv_iconst (v := 1) hx hb dX7_goYears_240 (by decide) ?_
                      refine lv_iadd hx hb dX7_goYears_241 ?_
                      refine va_put (D := D) (ci := 7) (v := .int ((S0q.1 22) + 1)) (ty := .int) (C := RX7) (T := TX7) (N := 27) hx hb hW inW_X7 tyX7 tyX7_ok nmX7 hown hK hP hD hS 0 rfl rfl 22 (by decide) (hW _ fl_X7_111) (fun _ h9 => h9) rfl (by decide +kernel) rfl rfl (Nat.le_of_ble_eq_true rfl) dX7_goYears_242 (fun H locs hP hD hS => ?_)
                      have hP : va_P D classes (jn [mcells cI cZ ad 0 (sI (sA (sA (sI (sI S0q 21 0) 21 v13) 17 Z22) 19 Z29) 22 ((S0q.1 22) + 1))]) H := ms_i22 (Φ := fun w => va_P D classes w H) (S := (sA (sA (sI (sI S0q 21 0) 21 v13) 17 Z22) 19 Z29)) (v := ((S0q.1 22) + 1)) hP
                      have hD : va_D (cOf (jn [mcells cI cZ ad 0 S0])) (jn [mcells cI cZ ad 0 (sI (sA (sA (sI (sI S0q 21 0) 21 v13) 17 Z22) 19 Z29) 22 ((S0q.1 22) + 1))]) := ms_i22 (Φ := fun w => va_D (cOf (jn [mcells cI cZ ad 0 S0])) w) (S := (sA (sA (sI (sI S0q 21 0) 21 v13) 17 Z22) 19 Z29)) (v := ((S0q.1 22) + 1)) hD
                      refine lv_goto (tgt := 11) hx hb dX7_goYears_245 (by decide) ?_
                      exact ih (y1 + 2) (sI (sA (sA (sI (sI S0q 21 0) 21 v13) 17 Z22) 19 Z29) 22 ((S0q.1 22) + 1)) _ _ hP hD hS _ (lv_sub hl [4, 0] rfl) hw
                    · have hw := Eq.mp (if_neg c30) hw
                      refine lv_aload_n hx hb dX7_goYears_230 rfl (lv_at hl 4 rfl) ?_
                      refine va_get (D := D) (ci := 7) (v := .int (S0q.1 22)) (C := RX7) (T := TX7) (N := 27) hx hb hW inW_X7 hown hK hP 0 rfl rfl 22 (by decide) (hW _ fl_X7_111) (fun _ h9 => h9) rfl dX7_goYears_231 ?_
                      exact W.iret (v := (S0q.1 22)) hx hb hr (fun t ht _ => ⟨⟨_, ((sA (sA (sI (sI S0q 21 0) 21 v13) 17 Z22) 19 Z29)), rfl, ⟨_, rfl, hw⟩, by rw [ht]; exact hP⟩, hS.F ht⟩) hS.2.2 dX7_goYears_234
                  · have hw := Eq.mp (if_pos c26) hw
                    refine lv_iconst (v := 1) hx hb dX7_goYears_214 (by decide) ?_
                    refine lv_goto (tgt := 219) hx hb dX7_goYears_215 (by decide) ?_
                    refine va_iast (f := (S0q.2 19)) hx hb hK hP hD hS 10 0 rfl rfl hw.1 dX7_goYears_219 (fun H locs hP hD hS => ?_)
                    have hw := hw.2
                    revert hw; revert hD; revert hP
                    generalize (upd (S0q.2 19) ((((S0q.2 13) (y1 : Int32).toNatClampNeg) - 65) : Int32).toNatClampNeg 1) = Z27
                    intro hP hD hw
                    have hP : va_P D classes (jn [mcells cI cZ ad 0 (sA (sA (sI (sI S0q 21 0) 21 v13) 17 Z22) 19 Z27)]) H := ms_a19 (Φ := fun w => va_P D classes w H) (S := (sA (sI (sI S0q 21 0) 21 v13) 17 Z22)) (v := Z27) hP
                    have hD : va_D (cOf (jn [mcells cI cZ ad 0 S0])) (jn [mcells cI cZ ad 0 (sA (sA (sI (sI S0q 21 0) 21 v13) 17 Z22) 19 Z27)]) := ms_a19 (Φ := fun w => va_D (cOf (jn [mcells cI cZ ad 0 S0])) w) (S := (sA (sI (sI S0q 21 0) 21 v13) 17 Z22)) (v := Z27) hD
                    refine lv_iinc (v := (y1 + 2)) (lv' := [(1, .int (y1 + 2)), (4, .int ((S0q.2 13) ((y1 + 1) : Int32).toNatClampNeg)), (3, .int (((S0q.2 13) (y1 : Int32).toNatClampNeg) - 65)), (2, .int ((S0q.2 13) (y1 : Int32).toNatClampNeg)), (0, .ref (ad 0))]) hx hb dX7_goYears_220 hl (k := 4) rfl rfl (by decide) rfl (fun ls hl => ?_)
                    refine lv_aload_n hx hb dX7_goYears_223 rfl (lv_at hl 4 rfl) ?_
                    refine va_get (D := D) (ci := 7) (v := .int v13) (C := RX7) (T := TX7) (N := 27) hx hb hW inW_X7 hown hK hP 0 rfl rfl 21 (by decide) (hW _ fl_X7_114) (fun _ h9 => h9) rfl dX7_goYears_224 ?_
                    refine lv_if_le (tgt := 235) hx hb dX7_goYears_227 (by decide) (fun c28 => ?_) (fun c28 => ?_)
                    · have hw := Eq.mp (if_pos c28) hw
                      refine lv_aload_n hx hb dX7_goYears_235 rfl (lv_at hl 4 rfl) ?_
                      refine lv_dup hx hb dX7_goYears_236 rfl ?_
                      refine va_get (D := D) (ci := 7) (v := .int (S0q.1 22)) (C := RX7) (T := TX7) (N := 27) hx hb hW inW_X7 hown hK hP 0 rfl rfl 22 (by decide) (hW _ fl_X7_111) (fun _ h9 => h9) rfl dX7_goYears_237 ?_
                      refine lv_iconst (v := 1) hx hb dX7_goYears_240 (by decide) ?_
                      refine lv_iadd hx hb dX7_goYears_241 ?_
                      refine va_put (D := D) (ci := 7) (v := .int ((S0q.1 22) + 1)) (ty := .int) (C := RX7) (T := TX7) (N := 27) hx hb hW inW_X7 tyX7 tyX7_ok nmX7 hown hK hP hD hS 0 rfl rfl 22 (by decide) (hW _ fl_X7_111) (fun _ h9 => h9) rfl (by decide +kernel) rfl rfl (Nat.le_of_ble_eq_true rfl) dX7_goYears_242 (fun H locs hP hD hS => ?_)
                      have hP : va_P D classes (jn [mcells cI cZ ad 0 (sI (sA (sA (sI (sI S0q 21 0) 21 v13) 17 Z22) 19 Z27) 22 ((S0q.1 22) + 1))]) H := ms_i22 (Φ := fun w => va_P D classes w H) (S := (sA (sA (sI (sI S0q 21 0) 21 v13) 17 Z22) 19 Z27)) (v := ((S0q.1 22) + 1)) hP
                      have hD : va_D (cOf (jn [mcells cI cZ ad 0 S0])) (jn [mcells cI cZ ad 0 (sI (sA (sA (sI (sI S0q 21 0) 21 v13) 17 Z22) 19 Z27) 22 ((S0q.1 22) + 1))]) := ms_i22 (Φ := fun w => va_D (cOf (jn [mcells cI cZ ad 0 S0])) w) (S := (sA (sA (sI (sI S0q 21 0) 21 v13) 17 Z22) 19 Z27)) (v := ((S0q.1 22) + 1)) hD
                      refine lv_goto (tgt := 11) hx hb dX7_goYears_245 (by decide) ?_
                      exact ih (y1 + 2) (sI (sA (sA (sI (sI S0q 21 0) 21 v13) 17 Z22) 19 Z27) 22 ((S0q.1 22) + 1)) _ _ hP hD hS _ (lv_sub hl [4, 0] rfl) hw
                    · have hw := Eq.mp (if_neg c28) hw
                      refine lv_aload_n hx hb dX7_goYears_230 rfl (lv_at hl 4 rfl) ?_
                      refine va_get (D := D) (ci := 7) (v := .int (S0q.1 22)) (C := RX7) (T := TX7) (N := 27) hx hb hW inW_X7 hown hK hP 0 rfl rfl 22 (by decide) (hW _ fl_X7_111) (fun _ h9 => h9) rfl dX7_goYears_231 ?_
                      exact W.iret (v := (S0q.1 22)) hx hb hr (fun t ht _ => ⟨⟨_, ((sA (sA (sI (sI S0q 21 0) 21 v13) 17 Z22) 19 Z27)), rfl, ⟨_, rfl, hw⟩, by rw [ht]; exact hP⟩, hS.F ht⟩) hS.2.2 dX7_goYears_234
              · have hw := Eq.mp (if_pos c15) hw
                refine lv_bipush (v := (-6)) hx hb dX7_goYears_167 (by decide) ?_
                refine lv_goto (tgt := 178) hx hb dX7_goYears_169 (by decide) ?_
                refine va_iast (f := (S0q.2 17)) hx hb hK hP hD hS 8 0 rfl rfl hw.1 dX7_goYears_178 (fun H locs hP hD hS => ?_)
                have hw := hw.2
                revert hw; revert hD; revert hP
                generalize (upd (S0q.2 17) ((((S0q.2 13) (y1 : Int32).toNatClampNeg) - 65) : Int32).toNatClampNeg (-6)) = Z16
                intro hP hD hw
                have hP : va_P D classes (jn [mcells cI cZ ad 0 (sA (sI (sI S0q 21 0) 21 v13) 17 Z16)]) H := ms_a17 (Φ := fun w => va_P D classes w H) (S := (sI (sI S0q 21 0) 21 v13)) (v := Z16) hP
                have hD : va_D (cOf (jn [mcells cI cZ ad 0 S0])) (jn [mcells cI cZ ad 0 (sA (sI (sI S0q 21 0) 21 v13) 17 Z16)]) := ms_a17 (Φ := fun w => va_D (cOf (jn [mcells cI cZ ad 0 S0])) w) (S := (sI (sI S0q 21 0) 21 v13)) (v := Z16) hD
                refine lv_aload_n hx hb dX7_goYears_179 rfl (lv_at hl 3 rfl) ?_
                refine va_get (D := D) (ci := 7) (v := .ref (ad (0 + 10))) (C := RX7) (T := TX7) (N := 27) hx hb hW inW_X7 hown hK hP 0 rfl rfl 19 (by decide) (hW _ fl_X7_44) (fun _ h9 => h9) rfl dX7_goYears_180 ?_
                refine lv_iload_n hx hb dX7_goYears_183 rfl (lv_at hl 1 rfl) ?_
                refine lv_aload_n hx hb dX7_goYears_184 rfl (lv_at hl 3 rfl) ?_
                refine va_get (D := D) (ci := 7) (v := .int v13) (C := RX7) (T := TX7) (N := 27) hx hb hW inW_X7 hown hK hP 0 rfl rfl 21 (by decide) (hW _ fl_X7_114) (fun _ h9 => h9) rfl dX7_goYears_185 ?_
                refine lv_if_gt (tgt := 198) hx hb dX7_goYears_188 (by decide) (fun c17 => ?_) (fun c17 => ?_)
                · have hw := Eq.mp (if_pos c17) hw
                  refine lv_aload_n hx hb dX7_goYears_198 rfl (lv_at hl 3 rfl) ?_
                  refine va_get (D := D) (ci := 7) (v := .ref (ad (0 + 10))) (C := RX7) (T := TX7) (N := 27) hx hb hW inW_X7 hown hK hP 0 rfl rfl 19 (by decide) (hW _ fl_X7_44) (fun _ h9 => h9) rfl dX7_goYears_199 ?_
                  refine lv_iload_n hx hb dX7_goYears_202 rfl (lv_at hl 1 rfl) ?_
                  refine va_iald (f := (S0q.2 19)) hx hb hK hP 10 0 rfl rfl hw.1 dX7_goYears_203 ?_
                  have hw := hw.2
                  refine lv_goto (tgt := 219) hx hb dX7_goYears_204 (by decide) ?_
                  refine va_iast (f := (S0q.2 19)) hx hb hK hP hD hS 10 0 rfl rfl hw.1 dX7_goYears_219 (fun H locs hP hD hS => ?_)
                  have hw := hw.2
                  revert hw; revert hD; revert hP
                  generalize (upd (S0q.2 19) ((((S0q.2 13) (y1 : Int32).toNatClampNeg) - 65) : Int32).toNatClampNeg ((S0q.2 19) ((((S0q.2 13) (y1 : Int32).toNatClampNeg) - 65) : Int32).toNatClampNeg)) = Z18
                  intro hP hD hw
                  have hP : va_P D classes (jn [mcells cI cZ ad 0 (sA (sA (sI (sI S0q 21 0) 21 v13) 17 Z16) 19 Z18)]) H := ms_a19 (Φ := fun w => va_P D classes w H) (S := (sA (sI (sI S0q 21 0) 21 v13) 17 Z16)) (v := Z18) hP
                  have hD : va_D (cOf (jn [mcells cI cZ ad 0 S0])) (jn [mcells cI cZ ad 0 (sA (sA (sI (sI S0q 21 0) 21 v13) 17 Z16) 19 Z18)]) := ms_a19 (Φ := fun w => va_D (cOf (jn [mcells cI cZ ad 0 S0])) w) (S := (sA (sI (sI S0q 21 0) 21 v13) 17 Z16)) (v := Z18) hD
                  refine lv_iinc (v := (y1 + 2)) (lv' := [(1, .int (y1 + 2)), (4, .int ((S0q.2 13) ((y1 + 1) : Int32).toNatClampNeg)), (3, .int (((S0q.2 13) (y1 : Int32).toNatClampNeg) - 65)), (2, .int ((S0q.2 13) (y1 : Int32).toNatClampNeg)), (0, .ref (ad 0))]) hx hb dX7_goYears_220 hl (k := 4) rfl rfl (by decide) rfl (fun ls hl => ?_)
                  refine lv_aload_n hx hb dX7_goYears_223 rfl (lv_at hl 4 rfl) ?_
                  refine va_get (D := D) (ci := 7) (v := .int v13) (C := RX7) (T := TX7) (N := 27) hx hb hW inW_X7 hown hK hP 0 rfl rfl 21 (by decide) (hW _ fl_X7_114) (fun _ h9 => h9) rfl dX7_goYears_224 ?_
                  refine lv_if_le (tgt := 235) hx hb dX7_goYears_227 (by decide) (fun c19 => ?_) (fun c19 => ?_)
                  · have hw := Eq.mp (if_pos c19) hw
                    refine lv_aload_n hx hb dX7_goYears_235 rfl (lv_at hl 4 rfl) ?_
                    refine lv_dup hx hb dX7_goYears_236 rfl ?_
                    refine va_get (D := D) (ci := 7) (v := .int (S0q.1 22)) (C := RX7) (T := TX7) (N := 27) hx hb hW inW_X7 hown hK hP 0 rfl rfl 22 (by decide) (hW _ fl_X7_111) (fun _ h9 => h9) rfl dX7_goYears_237 ?_
                    refine lv_iconst (v := 1) hx hb dX7_goYears_240 (by decide) ?_
                    refine lv_iadd hx hb dX7_goYears_241 ?_
                    refine va_put (D := D) (ci := 7) (v := .int ((S0q.1 22) + 1)) (ty := .int) (C := RX7) (T := TX7) (N := 27) hx hb hW inW_X7 tyX7 tyX7_ok nmX7 hown hK hP hD hS 0 rfl rfl 22 (by decide) (hW _ fl_X7_111) (fun _ h9 => h9) rfl (by decide +kernel) rfl rfl (Nat.le_of_ble_eq_true rfl) dX7_goYears_242 (fun H locs hP hD hS => ?_)
                    have hP : va_P D classes (jn [mcells cI cZ ad 0 (sI (sA (sA (sI (sI S0q 21 0) 21 v13) 17 Z16) 19 Z18) 22 ((S0q.1 22) + 1))]) H := ms_i22 (Φ := fun w => va_P D classes w H) (S := (sA (sA (sI (sI S0q 21 0) 21 v13) 17 Z16) 19 Z18)) (v := ((S0q.1 22) + 1)) hP
                    have hD : va_D (cOf (jn [mcells cI cZ ad 0 S0])) (jn [mcells cI cZ ad 0 (sI (sA (sA (sI (sI S0q 21 0) 21 v13) 17 Z16) 19 Z18) 22 ((S0q.1 22) + 1))]) := ms_i22 (Φ := fun w => va_D (cOf (jn [mcells cI cZ ad 0 S0])) w) (S := (sA (sA (sI (sI S0q 21 0) 21 v13) 17 Z16) 19 Z18)) (v := ((S0q.1 22) + 1)) hD
                    refine lv_goto (tgt := 11) hx hb dX7_goYears_245 (by decide) ?_
                    exact ih (y1 + 2) (sI (sA (sA (sI (sI S0q 21 0) 21 v13) 17 Z16) 19 Z18) 22 ((S0q.1 22) + 1)) _ _ hP hD hS _ (lv_sub hl [4, 0] rfl) hw
                  · have hw := Eq.mp (if_neg c19) hw
                    refine lv_aload_n hx hb dX7_goYears_230 rfl (lv_at hl 4 rfl) ?_
                    refine va_get (D := D) (ci := 7) (v := .int (S0q.1 22)) (C := RX7) (T := TX7) (N := 27) hx hb hW inW_X7 hown hK hP 0 rfl rfl 22 (by decide) (hW _ fl_X7_111) (fun _ h9 => h9) rfl dX7_goYears_231 ?_
                    exact W.iret (v := (S0q.1 22)) hx hb hr (fun t ht _ => ⟨⟨_, ((sA (sA (sI (sI S0q 21 0) 21 v13) 17 Z16) 19 Z18)), rfl, ⟨_, rfl, hw⟩, by rw [ht]; exact hP⟩, hS.F ht⟩) hS.2.2 dX7_goYears_234
                · have hw := Eq.mp (if_neg c17) hw
                  refine lv_iload hx hb dX7_goYears_191 (lv_at hl 0 rfl) ?_
                  refine lv_bipush (v := 100) hx hb dX7_goYears_193 (by decide) ?_
                  refine lv_icmp_ne (tgt := 207) hx hb dX7_goYears_195 (by decide) (fun c9 => absurd c15 c9) (fun _ => ?_)
                  refine lv_aload_n hx hb dX7_goYears_198 rfl (lv_at hl 3 rfl) ?_
                  refine va_get (D := D) (ci := 7) (v := .ref (ad (0 + 10))) (C := RX7) (T := TX7) (N := 27) hx hb hW inW_X7 hown hK hP 0 rfl rfl 19 (by decide) (hW _ fl_X7_44) (fun _ h9 => h9) rfl dX7_goYears_199 ?_
                  refine lv_iload_n hx hb dX7_goYears_202 rfl (lv_at hl 1 rfl) ?_
                  refine va_iald (f := (S0q.2 19)) hx hb hK hP 10 0 rfl rfl hw.1 dX7_goYears_203 ?_
                  have hw := hw.2
                  refine lv_goto (tgt := 219) hx hb dX7_goYears_204 (by decide) ?_
                  refine va_iast (f := (S0q.2 19)) hx hb hK hP hD hS 10 0 rfl rfl hw.1 dX7_goYears_219 (fun H locs hP hD hS => ?_)
                  have hw := hw.2
                  revert hw; revert hD; revert hP
                  generalize (upd (S0q.2 19) ((((S0q.2 13) (y1 : Int32).toNatClampNeg) - 65) : Int32).toNatClampNeg ((S0q.2 19) ((((S0q.2 13) (y1 : Int32).toNatClampNeg) - 65) : Int32).toNatClampNeg)) = Z20
                  intro hP hD hw
                  have hP : va_P D classes (jn [mcells cI cZ ad 0 (sA (sA (sI (sI S0q 21 0) 21 v13) 17 Z16) 19 Z20)]) H := ms_a19 (Φ := fun w => va_P D classes w H) (S := (sA (sI (sI S0q 21 0) 21 v13) 17 Z16)) (v := Z20) hP
                  have hD : va_D (cOf (jn [mcells cI cZ ad 0 S0])) (jn [mcells cI cZ ad 0 (sA (sA (sI (sI S0q 21 0) 21 v13) 17 Z16) 19 Z20)]) := ms_a19 (Φ := fun w => va_D (cOf (jn [mcells cI cZ ad 0 S0])) w) (S := (sA (sI (sI S0q 21 0) 21 v13) 17 Z16)) (v := Z20) hD
                  refine lv_iinc (v := (y1 + 2)) (lv' := [(1, .int (y1 + 2)), (4, .int ((S0q.2 13) ((y1 + 1) : Int32).toNatClampNeg)), (3, .int (((S0q.2 13) (y1 : Int32).toNatClampNeg) - 65)), (2, .int ((S0q.2 13) (y1 : Int32).toNatClampNeg)), (0, .ref (ad 0))]) hx hb dX7_goYears_220 hl (k := 4) rfl rfl (by decide) rfl (fun ls hl => ?_)
                  refine lv_aload_n hx hb dX7_goYears_223 rfl (lv_at hl 4 rfl) ?_
                  refine va_get (D := D) (ci := 7) (v := .int v13) (C := RX7) (T := TX7) (N := 27) hx hb hW inW_X7 hown hK hP 0 rfl rfl 21 (by decide) (hW _ fl_X7_114) (fun _ h9 => h9) rfl dX7_goYears_224 ?_
                  refine lv_if_le (tgt := 235) hx hb dX7_goYears_227 (by decide) (fun c21 => ?_) (fun c21 => ?_)
                  · have hw := Eq.mp (if_pos c21) hw
                    refine lv_aload_n hx hb dX7_goYears_235 rfl (lv_at hl 4 rfl) ?_
                    refine lv_dup hx hb dX7_goYears_236 rfl ?_
                    refine va_get (D := D) (ci := 7) (v := .int (S0q.1 22)) (C := RX7) (T := TX7) (N := 27) hx hb hW inW_X7 hown hK hP 0 rfl rfl 22 (by decide) (hW _ fl_X7_111) (fun _ h9 => h9) rfl dX7_goYears_237 ?_
                    refine lv_iconst (v := 1) hx hb dX7_goYears_240 (by decide) ?_
                    refine lv_iadd hx hb dX7_goYears_241 ?_
                    refine va_put (D := D) (ci := 7) (v := .int ((S0q.1 22) + 1)) (ty := .int) (C := RX7) (T := TX7) (N := 27) hx hb hW inW_X7 tyX7 tyX7_ok nmX7 hown hK hP hD hS 0 rfl rfl 22 (by decide) (hW _ fl_X7_111) (fun _ h9 => h9) rfl (by decide +kernel) rfl rfl (Nat.le_of_ble_eq_true rfl) dX7_goYears_242 (fun H locs hP hD hS => ?_)
                    have hP : va_P D classes (jn [mcells cI cZ ad 0 (sI (sA (sA (sI (sI S0q 21 0) 21 v13) 17 Z16) 19 Z20) 22 ((S0q.1 22) + 1))]) H := ms_i22 (Φ := fun w => va_P D classes w H) (S := (sA (sA (sI (sI S0q 21 0) 21 v13) 17 Z16) 19 Z20)) (v := ((S0q.1 22) + 1)) hP
                    have hD : va_D (cOf (jn [mcells cI cZ ad 0 S0])) (jn [mcells cI cZ ad 0 (sI (sA (sA (sI (sI S0q 21 0) 21 v13) 17 Z16) 19 Z20) 22 ((S0q.1 22) + 1))]) := ms_i22 (Φ := fun w => va_D (cOf (jn [mcells cI cZ ad 0 S0])) w) (S := (sA (sA (sI (sI S0q 21 0) 21 v13) 17 Z16) 19 Z20)) (v := ((S0q.1 22) + 1)) hD
                    refine lv_goto (tgt := 11) hx hb dX7_goYears_245 (by decide) ?_
                    exact ih (y1 + 2) (sI (sA (sA (sI (sI S0q 21 0) 21 v13) 17 Z16) 19 Z20) 22 ((S0q.1 22) + 1)) _ _ hP hD hS _ (lv_sub hl [4, 0] rfl) hw
                  · have hw := Eq.mp (if_neg c21) hw
                    refine lv_aload_n hx hb dX7_goYears_230 rfl (lv_at hl 4 rfl) ?_
                    refine va_get (D := D) (ci := 7) (v := .int (S0q.1 22)) (C := RX7) (T := TX7) (N := 27) hx hb hW inW_X7 hown hK hP 0 rfl rfl 22 (by decide) (hW _ fl_X7_111) (fun _ h9 => h9) rfl dX7_goYears_231 ?_
                    exact W.iret (v := (S0q.1 22)) hx hb hr (fun t ht _ => ⟨⟨_, ((sA (sA (sI (sI S0q 21 0) 21 v13) 17 Z16) 19 Z20)), rfl, ⟨_, rfl, hw⟩, by rw [ht]; exact hP⟩, hS.F ht⟩) hS.2.2 dX7_goYears_234
          · have hw := Eq.mp (if_neg c12) hw
            refine lv_aload_n hx hb dX7_goYears_103 rfl (lv_at hl 3 rfl) ?_
            refine lv_aload_n hx hb dX7_goYears_104 rfl (lv_at hl 3 rfl) ?_
            refine lv_iload_n hx hb dX7_goYears_105 rfl (lv_at hl 1 rfl) ?_
            refine lv_iload hx hb dX7_goYears_106 (lv_at hl 0 rfl) ?_
            refine lv_bipush (v := 65) hx hb dX7_goYears_108 (by decide) ?_
            refine lv_isub hx hb dX7_goYears_110 ?_
            refine callR (va_runV (As := [.int (((S0q.2 13) (y1 : Int32).toNatClampNeg) - 65), .int (((S0q.2 13) ((y1 + 1) : Int32).toNatClampNeg) - 65)]) (rest := [.ref (ad 0)]) ⟨hx, hb, hml, hown, hW⟩ (c_X7_whyNoHats l D cI cZ ad  (sI S0q 21 0) (((S0q.2 13) (y1 : Int32).toNatClampNeg) - 65) (((S0q.2 13) ((y1 + 1) : Int32).toNatClampNeg) - 65) _ hw) (cwV0 hW mV_X7_whyNoHats ml_X7_121 ⟨Nat.le_of_ble_eq_true rfl, Nat.le_of_ble_eq_true rfl⟩) (preV0 0 rfl rfl hK hN hP hD [0] rfl rfl) rfl rfl hl.1 rfl (lv_room (Nat.le_of_ble_eq_true rfl)) dX7_goYears_111 ⟨Nat.le_refl _, Nat.le_refl _⟩) (fun v9 hq => ?_)
            obtain ⟨v43, rfl, hw⟩ := hq
            refine W.eq (g2 := F0 m 114 ls [.int v43, .ref (ad 0)]) rfl ?_
            refine va_put (D := D) (ci := 7) (v := .int v43) (ty := .int) (C := RX7) (T := TX7) (N := 27) hx hb hW inW_X7 tyX7 tyX7_ok nmX7 hown hK hP hD hS 0 rfl rfl 21 (by decide) (hW _ fl_X7_114) (fun _ h9 => h9) rfl (by decide +kernel) rfl rfl (Nat.le_of_ble_eq_true rfl) dX7_goYears_114 (fun H locs hP hD hS => ?_)
            have hP : va_P D classes (jn [mcells cI cZ ad 0 (sI (sI S0q 21 0) 21 v43)]) H := ms_i21 (Φ := fun w => va_P D classes w H) (S := (sI S0q 21 0)) (v := v43) hP
            have hD : va_D (cOf (jn [mcells cI cZ ad 0 S0])) (jn [mcells cI cZ ad 0 (sI (sI S0q 21 0) 21 v43)]) := ms_i21 (Φ := fun w => va_D (cOf (jn [mcells cI cZ ad 0 S0])) w) (S := (sI S0q 21 0)) (v := v43) hD
            refine lv_aload_n hx hb dX7_goYears_117 rfl (lv_at hl 3 rfl) ?_
            refine va_get (D := D) (ci := 7) (v := .int v43) (C := RX7) (T := TX7) (N := 27) hx hb hW inW_X7 hown hK hP 0 rfl rfl 21 (by decide) (hW _ fl_X7_114) (fun _ h9 => h9) rfl dX7_goYears_118 ?_
            refine lv_if_ne (tgt := 220) hx hb dX7_goYears_121 (by decide) (fun c44 => ?_) (fun c44 => ?_)
            · have hw := Eq.mp (if_neg c44) hw
              refine lv_iinc (v := (y1 + 2)) (lv' := [(1, .int (y1 + 2)), (4, .int ((S0q.2 13) ((y1 + 1) : Int32).toNatClampNeg)), (3, .int (((S0q.2 13) (y1 : Int32).toNatClampNeg) - 65)), (2, .int ((S0q.2 13) (y1 : Int32).toNatClampNeg)), (0, .ref (ad 0))]) hx hb dX7_goYears_220 hl (k := 4) rfl rfl (by decide) rfl (fun ls hl => ?_)
              refine lv_aload_n hx hb dX7_goYears_223 rfl (lv_at hl 4 rfl) ?_
              refine va_get (D := D) (ci := 7) (v := .int v43) (C := RX7) (T := TX7) (N := 27) hx hb hW inW_X7 hown hK hP 0 rfl rfl 21 (by decide) (hW _ fl_X7_114) (fun _ h9 => h9) rfl dX7_goYears_224 ?_
              refine lv_if_le (tgt := 235) hx hb dX7_goYears_227 (by decide) (fun c47 => ?_) (fun c47 => ?_)
              · have hw := Eq.mp (if_pos c47) hw
                refine lv_aload_n hx hb dX7_goYears_235 rfl (lv_at hl 4 rfl) ?_
                refine lv_dup hx hb dX7_goYears_236 rfl ?_
                refine va_get (D := D) (ci := 7) (v := .int (S0q.1 22)) (C := RX7) (T := TX7) (N := 27) hx hb hW inW_X7 hown hK hP 0 rfl rfl 22 (by decide) (hW _ fl_X7_111) (fun _ h9 => h9) rfl dX7_goYears_237 ?_
                refine lv_iconst (v := 1) hx hb dX7_goYears_240 (by decide) ?_
                refine lv_iadd hx hb dX7_goYears_241 ?_
                refine va_put (D := D) (ci := 7) (v := .int ((S0q.1 22) + 1)) (ty := .int) (C := RX7) (T := TX7) (N := 27) hx hb hW inW_X7 tyX7 tyX7_ok nmX7 hown hK hP hD hS 0 rfl rfl 22 (by decide) (hW _ fl_X7_111) (fun _ h9 => h9) rfl (by decide +kernel) rfl rfl (Nat.le_of_ble_eq_true rfl) dX7_goYears_242 (fun H locs hP hD hS => ?_)
                have hP : va_P D classes (jn [mcells cI cZ ad 0 (sI (sI (sI S0q 21 0) 21 v43) 22 ((S0q.1 22) + 1))]) H := ms_i22 (Φ := fun w => va_P D classes w H) (S := (sI (sI S0q 21 0) 21 v43)) (v := ((S0q.1 22) + 1)) hP
                have hD : va_D (cOf (jn [mcells cI cZ ad 0 S0])) (jn [mcells cI cZ ad 0 (sI (sI (sI S0q 21 0) 21 v43) 22 ((S0q.1 22) + 1))]) := ms_i22 (Φ := fun w => va_D (cOf (jn [mcells cI cZ ad 0 S0])) w) (S := (sI (sI S0q 21 0) 21 v43)) (v := ((S0q.1 22) + 1)) hD
                refine lv_goto (tgt := 11) hx hb dX7_goYears_245 (by decide) ?_
                exact ih (y1 + 2) (sI (sI (sI S0q 21 0) 21 v43) 22 ((S0q.1 22) + 1)) _ _ hP hD hS _ (lv_sub hl [4, 0] rfl) hw
              · have hw := Eq.mp (if_neg c47) hw
                refine lv_aload_n hx hb dX7_goYears_230 rfl (lv_at hl 4 rfl) ?_
                refine va_get (D := D) (ci := 7) (v := .int (S0q.1 22)) (C := RX7) (T := TX7) (N := 27) hx hb hW inW_X7 hown hK hP 0 rfl rfl 22 (by decide) (hW _ fl_X7_111) (fun _ h9 => h9) rfl dX7_goYears_231 ?_
                exact W.iret (v := (S0q.1 22)) hx hb hr (fun t ht _ => ⟨⟨_, ((sI (sI S0q 21 0) 21 v43)), rfl, ⟨_, rfl, hw⟩, by rw [ht]; exact hP⟩, hS.F ht⟩) hS.2.2 dX7_goYears_234
            · have hw := Eq.mp (if_pos c44) hw
              refine lv_aload_n hx hb dX7_goYears_124 rfl (lv_at hl 3 rfl) ?_
              refine lv_iload_n hx hb dX7_goYears_125 rfl (lv_at hl 1 rfl) ?_
              refine lv_iload hx hb dX7_goYears_126 (lv_at hl 0 rfl) ?_
              refine lv_bipush (v := 65) hx hb dX7_goYears_128 (by decide) ?_
              refine lv_isub hx hb dX7_goYears_130 ?_
              refine callW (va_runV (As := [.int (((S0q.2 13) (y1 : Int32).toNatClampNeg) - 65), .int (((S0q.2 13) ((y1 + 1) : Int32).toNatClampNeg) - 65)]) (rest := []) ⟨hx, hb, hml, hown, hW⟩ (c_X7_hats l D cI cZ ad  (sI (sI S0q 21 0) 21 v43) (((S0q.2 13) (y1 : Int32).toNatClampNeg) - 65) (((S0q.2 13) ((y1 + 1) : Int32).toNatClampNeg) - 65) _ hw) (cwV0 hW mV_X7_hats ml_X7_125 ⟨Nat.le_of_ble_eq_true rfl, Nat.le_of_ble_eq_true rfl⟩) (preV0 0 rfl rfl hK hN hP hD [0] rfl rfl) rfl rfl hl.1 rfl (lv_room (Nat.le_of_ble_eq_true rfl)) dX7_goYears_131 ⟨Nat.le_refl _, Nat.le_refl _⟩) hP hD hS [0] rfl rfl (fun _ => rfl) (fun v9 u9 H locs hq hP hD hS => ?_)
              obtain ⟨rfl, hw⟩ := hq
              obtain ⟨Z45, rfl⟩ : ∃ z, z = u9 := ⟨_, rfl⟩
              have hP : va_P D classes (jn [mcells cI cZ ad 0 Z45]) H := hP
              have hD : va_D (cOf (jn [mcells cI cZ ad 0 S0])) (jn [mcells cI cZ ad 0 Z45]) := hD
              refine W.eq (g2 := F0 m 134 ls []) rfl ?_
              refine lv_goto (tgt := 220) hx hb dX7_goYears_134 (by decide) ?_
              refine lv_iinc (v := (y1 + 2)) (lv' := [(1, .int (y1 + 2)), (4, .int ((S0q.2 13) ((y1 + 1) : Int32).toNatClampNeg)), (3, .int (((S0q.2 13) (y1 : Int32).toNatClampNeg) - 65)), (2, .int ((S0q.2 13) (y1 : Int32).toNatClampNeg)), (0, .ref (ad 0))]) hx hb dX7_goYears_220 hl (k := 4) rfl rfl (by decide) rfl (fun ls hl => ?_)
              refine lv_aload_n hx hb dX7_goYears_223 rfl (lv_at hl 4 rfl) ?_
              refine va_get (D := D) (ci := 7) (v := .int (Z45.1 21)) (C := RX7) (T := TX7) (N := 27) hx hb hW inW_X7 hown hK hP 0 rfl rfl 21 (by decide) (hW _ fl_X7_114) (fun _ h9 => h9) rfl dX7_goYears_224 ?_
              refine lv_if_le (tgt := 235) hx hb dX7_goYears_227 (by decide) (fun c46 => ?_) (fun c46 => ?_)
              · have hw := Eq.mp (if_pos c46) hw
                refine lv_aload_n hx hb dX7_goYears_235 rfl (lv_at hl 4 rfl) ?_
                refine lv_dup hx hb dX7_goYears_236 rfl ?_
                refine va_get (D := D) (ci := 7) (v := .int (Z45.1 22)) (C := RX7) (T := TX7) (N := 27) hx hb hW inW_X7 hown hK hP 0 rfl rfl 22 (by decide) (hW _ fl_X7_111) (fun _ h9 => h9) rfl dX7_goYears_237 ?_
                refine lv_iconst (v := 1) hx hb dX7_goYears_240 (by decide) ?_
                refine lv_iadd hx hb dX7_goYears_241 ?_
                refine va_put (D := D) (ci := 7) (v := .int ((Z45.1 22) + 1)) (ty := .int) (C := RX7) (T := TX7) (N := 27) hx hb hW inW_X7 tyX7 tyX7_ok nmX7 hown hK hP hD hS 0 rfl rfl 22 (by decide) (hW _ fl_X7_111) (fun _ h9 => h9) rfl (by decide +kernel) rfl rfl (Nat.le_of_ble_eq_true rfl) dX7_goYears_242 (fun H locs hP hD hS => ?_)
                have hP : va_P D classes (jn [mcells cI cZ ad 0 (sI Z45 22 ((Z45.1 22) + 1))]) H := ms_i22 (Φ := fun w => va_P D classes w H) (S := Z45) (v := ((Z45.1 22) + 1)) hP
                have hD : va_D (cOf (jn [mcells cI cZ ad 0 S0])) (jn [mcells cI cZ ad 0 (sI Z45 22 ((Z45.1 22) + 1))]) := ms_i22 (Φ := fun w => va_D (cOf (jn [mcells cI cZ ad 0 S0])) w) (S := Z45) (v := ((Z45.1 22) + 1)) hD
                refine lv_goto (tgt := 11) hx hb dX7_goYears_245 (by decide) ?_
                exact ih (y1 + 2) (sI Z45 22 ((Z45.1 22) + 1)) _ _ hP hD hS _ (lv_sub hl [4, 0] rfl) hw
              · have hw := Eq.mp (if_neg c46) hw
                refine lv_aload_n hx hb dX7_goYears_230 rfl (lv_at hl 4 rfl) ?_
                refine va_get (D := D) (ci := 7) (v := .int (Z45.1 22)) (C := RX7) (T := TX7) (N := 27) hx hb hW inW_X7 hown hK hP 0 rfl rfl 22 (by decide) (hW _ fl_X7_111) (fun _ h9 => h9) rfl dX7_goYears_231 ?_
                exact W.iret (v := (Z45.1 22)) hx hb hr (fun t ht _ => ⟨⟨_, (Z45), rfl, ⟨_, rfl, hw⟩, by rw [ht]; exact hP⟩, hS.F ht⟩) hS.2.2 dX7_goYears_234
        · have hw := Eq.mp (if_pos c3) hw
          refine lv_aload_n hx hb dX7_goYears_39 rfl (lv_at hl 1 rfl) ?_
          refine lv_iload_n hx hb dX7_goYears_40 rfl (lv_at hl 0 rfl) ?_
          refine lv_bipush (v := 46) hx hb dX7_goYears_41 (by decide) ?_
          refine lv_icmp_ne (tgt := 50) hx hb dX7_goYears_43 (by decide) (fun c4 => ?_) (fun c4 => ?_)
          · have hw := Eq.mp (if_neg c4) hw
            refine lv_iload_n hx hb dX7_goYears_50 rfl (lv_at hl 0 rfl) ?_
            refine lv_bipush (v := 58) hx hb dX7_goYears_51 (by decide) ?_
            refine lv_icmp_ne (tgt := 61) hx hb dX7_goYears_53 (by decide) (fun c7 => ?_) (fun c7 => ?_)
            · have hw := Eq.mp (if_neg c7) hw
              refine lv_aload_n hx hb dX7_goYears_61 rfl (lv_at hl 1 rfl) ?_
              refine va_get (D := D) (ci := 7) (v := .int (S0q.1 1)) (C := RX7) (T := TX7) (N := 27) hx hb hW inW_X7 hown hK hP 0 rfl rfl 1 (by decide) (hW _ fl_X7_13) (fun _ h9 => h9) rfl dX7_goYears_62 ?_
              refine lv_aload_n hx hb dX7_goYears_65 rfl (lv_at hl 1 rfl) ?_
              refine va_get (D := D) (ci := 7) (v := .int (S0q.1 16)) (C := RX7) (T := TX7) (N := 27) hx hb hW inW_X7 hown hK hP 0 rfl rfl 16 (by decide) (hW _ fl_X7_102) (fun _ h9 => h9) rfl dX7_goYears_66 ?_
              refine lv_isub hx hb dX7_goYears_69 ?_
              refine callW (va_runV (As := [.int ((S0q.1 1) - (S0q.1 16))]) (rest := []) ⟨hx, hb, hml, hown, hW⟩ (c_X7_days l D cI cZ ad  (sI S0q 21 0) ((S0q.1 1) - (S0q.1 16)) _ hw) (cwV0 hW mV_X7_days ml_X7_117 ⟨Nat.le_of_ble_eq_true rfl, Nat.le_of_ble_eq_true rfl⟩) (preV0 0 rfl rfl hK hN hP hD [0] rfl rfl) rfl rfl hl.1 rfl (lv_room (Nat.le_of_ble_eq_true rfl)) dX7_goYears_70 ⟨Nat.le_refl _, Nat.le_refl _⟩) hP hD hS [0] rfl rfl (fun _ => rfl) (fun v9 u9 H locs hq hP hD hS => ?_)
              obtain ⟨rfl, hw⟩ := hq
              obtain ⟨Z10, rfl⟩ : ∃ z, z = u9 := ⟨_, rfl⟩
              have hP : va_P D classes (jn [mcells cI cZ ad 0 Z10]) H := hP
              have hD : va_D (cOf (jn [mcells cI cZ ad 0 S0])) (jn [mcells cI cZ ad 0 Z10]) := hD
              refine W.eq (g2 := F0 m 73 ls []) rfl ?_
              refine lv_iinc (v := (y1 + 1)) (lv' := [(1, .int (y1 + 1)), (2, .int ((S0q.2 13) (y1 : Int32).toNatClampNeg)), (0, .ref (ad 0))]) hx hb dX7_goYears_73 hl (k := 2) rfl rfl (by decide) rfl (fun ls hl => ?_)
              refine lv_goto (tgt := 223) hx hb dX7_goYears_76 (by decide) ?_
              refine lv_aload_n hx hb dX7_goYears_223 rfl (lv_at hl 2 rfl) ?_
              refine va_get (D := D) (ci := 7) (v := .int (Z10.1 21)) (C := RX7) (T := TX7) (N := 27) hx hb hW inW_X7 hown hK hP 0 rfl rfl 21 (by decide) (hW _ fl_X7_114) (fun _ h9 => h9) rfl dX7_goYears_224 ?_
              refine lv_if_le (tgt := 235) hx hb dX7_goYears_227 (by decide) (fun c11 => ?_) (fun c11 => ?_)
              · have hw := Eq.mp (if_pos c11) hw
                refine lv_aload_n hx hb dX7_goYears_235 rfl (lv_at hl 2 rfl) ?_
                refine lv_dup hx hb dX7_goYears_236 rfl ?_
                refine va_get (D := D) (ci := 7) (v := .int (Z10.1 22)) (C := RX7) (T := TX7) (N := 27) hx hb hW inW_X7 hown hK hP 0 rfl rfl 22 (by decide) (hW _ fl_X7_111) (fun _ h9 => h9) rfl dX7_goYears_237 ?_
                refine lv_iconst (v := 1) hx hb dX7_goYears_240 (by decide) ?_
                refine lv_iadd hx hb dX7_goYears_241 ?_
                refine va_put (D := D) (ci := 7) (v := .int ((Z10.1 22) + 1)) (ty := .int) (C := RX7) (T := TX7) (N := 27) hx hb hW inW_X7 tyX7 tyX7_ok nmX7 hown hK hP hD hS 0 rfl rfl 22 (by decide) (hW _ fl_X7_111) (fun _ h9 => h9) rfl (by decide +kernel) rfl rfl (Nat.le_of_ble_eq_true rfl) dX7_goYears_242 (fun H locs hP hD hS => ?_)
                have hP : va_P D classes (jn [mcells cI cZ ad 0 (sI Z10 22 ((Z10.1 22) + 1))]) H := ms_i22 (Φ := fun w => va_P D classes w H) (S := Z10) (v := ((Z10.1 22) + 1)) hP
                have hD : va_D (cOf (jn [mcells cI cZ ad 0 S0])) (jn [mcells cI cZ ad 0 (sI Z10 22 ((Z10.1 22) + 1))]) := ms_i22 (Φ := fun w => va_D (cOf (jn [mcells cI cZ ad 0 S0])) w) (S := Z10) (v := ((Z10.1 22) + 1)) hD
                refine lv_goto (tgt := 11) hx hb dX7_goYears_245 (by decide) ?_
                exact ih (y1 + 1) (sI Z10 22 ((Z10.1 22) + 1)) _ _ hP hD hS _ (lv_sub hl [2, 0] rfl) hw
              · have hw := Eq.mp (if_neg c11) hw
                refine lv_aload_n hx hb dX7_goYears_230 rfl (lv_at hl 2 rfl) ?_
                refine va_get (D := D) (ci := 7) (v := .int (Z10.1 22)) (C := RX7) (T := TX7) (N := 27) hx hb hW inW_X7 hown hK hP 0 rfl rfl 22 (by decide) (hW _ fl_X7_111) (fun _ h9 => h9) rfl dX7_goYears_231 ?_
                exact W.iret (v := (Z10.1 22)) hx hb hr (fun t ht _ => ⟨⟨_, (Z10), rfl, ⟨_, rfl, hw⟩, by rw [ht]; exact hP⟩, hS.F ht⟩) hS.2.2 dX7_goYears_234
            · have hw := Eq.mp (if_pos c7) hw
              refine lv_bipush (v := 10) hx hb dX7_goYears_56 (by decide) ?_
              refine lv_goto (tgt := 70) hx hb dX7_goYears_58 (by decide) ?_
              refine callW (va_runV (As := [.int 10]) (rest := []) ⟨hx, hb, hml, hown, hW⟩ (c_X7_days l D cI cZ ad  (sI S0q 21 0) 10 _ hw) (cwV0 hW mV_X7_days ml_X7_117 ⟨Nat.le_of_ble_eq_true rfl, Nat.le_of_ble_eq_true rfl⟩) (preV0 0 rfl rfl hK hN hP hD [0] rfl rfl) rfl rfl hl.1 rfl (lv_room (Nat.le_of_ble_eq_true rfl)) dX7_goYears_70 ⟨Nat.le_refl _, Nat.le_refl _⟩) hP hD hS [0] rfl rfl (fun _ => rfl) (fun v9 u9 H locs hq hP hD hS => ?_)
              obtain ⟨rfl, hw⟩ := hq
              obtain ⟨Z8, rfl⟩ : ∃ z, z = u9 := ⟨_, rfl⟩
              have hP : va_P D classes (jn [mcells cI cZ ad 0 Z8]) H := hP
              have hD : va_D (cOf (jn [mcells cI cZ ad 0 S0])) (jn [mcells cI cZ ad 0 Z8]) := hD
              refine W.eq (g2 := F0 m 73 ls []) rfl ?_
              refine lv_iinc (v := (y1 + 1)) (lv' := [(1, .int (y1 + 1)), (2, .int ((S0q.2 13) (y1 : Int32).toNatClampNeg)), (0, .ref (ad 0))]) hx hb dX7_goYears_73 hl (k := 2) rfl rfl (by decide) rfl (fun ls hl => ?_)
              refine lv_goto (tgt := 223) hx hb dX7_goYears_76 (by decide) ?_
              refine lv_aload_n hx hb dX7_goYears_223 rfl (lv_at hl 2 rfl) ?_
              refine va_get (D := D) (ci := 7) (v := .int (Z8.1 21)) (C := RX7) (T := TX7) (N := 27) hx hb hW inW_X7 hown hK hP 0 rfl rfl 21 (by decide) (hW _ fl_X7_114) (fun _ h9 => h9) rfl dX7_goYears_224 ?_
              refine lv_if_le (tgt := 235) hx hb dX7_goYears_227 (by decide) (fun c9 => ?_) (fun c9 => ?_)
              · have hw := Eq.mp (if_pos c9) hw
                refine lv_aload_n hx hb dX7_goYears_235 rfl (lv_at hl 2 rfl) ?_
                refine lv_dup hx hb dX7_goYears_236 rfl ?_
                refine va_get (D := D) (ci := 7) (v := .int (Z8.1 22)) (C := RX7) (T := TX7) (N := 27) hx hb hW inW_X7 hown hK hP 0 rfl rfl 22 (by decide) (hW _ fl_X7_111) (fun _ h9 => h9) rfl dX7_goYears_237 ?_
                refine lv_iconst (v := 1) hx hb dX7_goYears_240 (by decide) ?_
                refine lv_iadd hx hb dX7_goYears_241 ?_
                refine va_put (D := D) (ci := 7) (v := .int ((Z8.1 22) + 1)) (ty := .int) (C := RX7) (T := TX7) (N := 27) hx hb hW inW_X7 tyX7 tyX7_ok nmX7 hown hK hP hD hS 0 rfl rfl 22 (by decide) (hW _ fl_X7_111) (fun _ h9 => h9) rfl (by decide +kernel) rfl rfl (Nat.le_of_ble_eq_true rfl) dX7_goYears_242 (fun H locs hP hD hS => ?_)
                have hP : va_P D classes (jn [mcells cI cZ ad 0 (sI Z8 22 ((Z8.1 22) + 1))]) H := ms_i22 (Φ := fun w => va_P D classes w H) (S := Z8) (v := ((Z8.1 22) + 1)) hP
                have hD : va_D (cOf (jn [mcells cI cZ ad 0 S0])) (jn [mcells cI cZ ad 0 (sI Z8 22 ((Z8.1 22) + 1))]) := ms_i22 (Φ := fun w => va_D (cOf (jn [mcells cI cZ ad 0 S0])) w) (S := Z8) (v := ((Z8.1 22) + 1)) hD
                refine lv_goto (tgt := 11) hx hb dX7_goYears_245 (by decide) ?_
                exact ih (y1 + 1) (sI Z8 22 ((Z8.1 22) + 1)) _ _ hP hD hS _ (lv_sub hl [2, 0] rfl) hw
              · have hw := Eq.mp (if_neg c9) hw
                refine lv_aload_n hx hb dX7_goYears_230 rfl (lv_at hl 2 rfl) ?_
                refine va_get (D := D) (ci := 7) (v := .int (Z8.1 22)) (C := RX7) (T := TX7) (N := 27) hx hb hW inW_X7 hown hK hP 0 rfl rfl 22 (by decide) (hW _ fl_X7_111) (fun _ h9 => h9) rfl dX7_goYears_231 ?_
                exact W.iret (v := (Z8.1 22)) hx hb hr (fun t ht _ => ⟨⟨_, (Z8), rfl, ⟨_, rfl, hw⟩, by rw [ht]; exact hP⟩, hS.F ht⟩) hS.2.2 dX7_goYears_234
          · have hw := Eq.mp (if_pos c4) hw
            refine lv_iconst (v := 1) hx hb dX7_goYears_46 (by decide) ?_
            refine lv_goto (tgt := 70) hx hb dX7_goYears_47 (by decide) ?_
            refine callW (va_runV (As := [.int 1]) (rest := []) ⟨hx, hb, hml, hown, hW⟩ (c_X7_days l D cI cZ ad  (sI S0q 21 0) 1 _ hw) (cwV0 hW mV_X7_days ml_X7_117 ⟨Nat.le_of_ble_eq_true rfl, Nat.le_of_ble_eq_true rfl⟩) (preV0 0 rfl rfl hK hN hP hD [0] rfl rfl) rfl rfl hl.1 rfl (lv_room (Nat.le_of_ble_eq_true rfl)) dX7_goYears_70 ⟨Nat.le_refl _, Nat.le_refl _⟩) hP hD hS [0] rfl rfl (fun _ => rfl) (fun v9 u9 H locs hq hP hD hS => ?_)
            obtain ⟨rfl, hw⟩ := hq
            obtain ⟨Z5, rfl⟩ : ∃ z, z = u9 := ⟨_, rfl⟩
            have hP : va_P D classes (jn [mcells cI cZ ad 0 Z5]) H := hP
            have hD : va_D (cOf (jn [mcells cI cZ ad 0 S0])) (jn [mcells cI cZ ad 0 Z5]) := hD
            refine W.eq (g2 := F0 m 73 ls []) rfl ?_
            refine lv_iinc (v := (y1 + 1)) (lv' := [(1, .int (y1 + 1)), (2, .int ((S0q.2 13) (y1 : Int32).toNatClampNeg)), (0, .ref (ad 0))]) hx hb dX7_goYears_73 hl (k := 2) rfl rfl (by decide) rfl (fun ls hl => ?_)
            refine lv_goto (tgt := 223) hx hb dX7_goYears_76 (by decide) ?_
            refine lv_aload_n hx hb dX7_goYears_223 rfl (lv_at hl 2 rfl) ?_
            refine va_get (D := D) (ci := 7) (v := .int (Z5.1 21)) (C := RX7) (T := TX7) (N := 27) hx hb hW inW_X7 hown hK hP 0 rfl rfl 21 (by decide) (hW _ fl_X7_114) (fun _ h9 => h9) rfl dX7_goYears_224 ?_
            refine lv_if_le (tgt := 235) hx hb dX7_goYears_227 (by decide) (fun c6 => ?_) (fun c6 => ?_)
            · have hw := Eq.mp (if_pos c6) hw
              refine lv_aload_n hx hb dX7_goYears_235 rfl (lv_at hl 2 rfl) ?_
              refine lv_dup hx hb dX7_goYears_236 rfl ?_
              refine va_get (D := D) (ci := 7) (v := .int (Z5.1 22)) (C := RX7) (T := TX7) (N := 27) hx hb hW inW_X7 hown hK hP 0 rfl rfl 22 (by decide) (hW _ fl_X7_111) (fun _ h9 => h9) rfl dX7_goYears_237 ?_
              refine lv_iconst (v := 1) hx hb dX7_goYears_240 (by decide) ?_
              refine lv_iadd hx hb dX7_goYears_241 ?_
              refine va_put (D := D) (ci := 7) (v := .int ((Z5.1 22) + 1)) (ty := .int) (C := RX7) (T := TX7) (N := 27) hx hb hW inW_X7 tyX7 tyX7_ok nmX7 hown hK hP hD hS 0 rfl rfl 22 (by decide) (hW _ fl_X7_111) (fun _ h9 => h9) rfl (by decide +kernel) rfl rfl (Nat.le_of_ble_eq_true rfl) dX7_goYears_242 (fun H locs hP hD hS => ?_)
              have hP : va_P D classes (jn [mcells cI cZ ad 0 (sI Z5 22 ((Z5.1 22) + 1))]) H := ms_i22 (Φ := fun w => va_P D classes w H) (S := Z5) (v := ((Z5.1 22) + 1)) hP
              have hD : va_D (cOf (jn [mcells cI cZ ad 0 S0])) (jn [mcells cI cZ ad 0 (sI Z5 22 ((Z5.1 22) + 1))]) := ms_i22 (Φ := fun w => va_D (cOf (jn [mcells cI cZ ad 0 S0])) w) (S := Z5) (v := ((Z5.1 22) + 1)) hD
              refine lv_goto (tgt := 11) hx hb dX7_goYears_245 (by decide) ?_
              exact ih (y1 + 1) (sI Z5 22 ((Z5.1 22) + 1)) _ _ hP hD hS _ (lv_sub hl [2, 0] rfl) hw
            · have hw := Eq.mp (if_neg c6) hw
              refine lv_aload_n hx hb dX7_goYears_230 rfl (lv_at hl 2 rfl) ?_
              refine va_get (D := D) (ci := 7) (v := .int (Z5.1 22)) (C := RX7) (T := TX7) (N := 27) hx hb hW inW_X7 hown hK hP 0 rfl rfl 22 (by decide) (hW _ fl_X7_111) (fun _ h9 => h9) rfl dX7_goYears_231 ?_
              exact W.iret (v := (Z5.1 22)) hx hb hr (fun t ht _ => ⟨⟨_, (Z5), rfl, ⟨_, rfl, hw⟩, by rw [ht]; exact hP⟩, hS.F ht⟩) hS.2.2 dX7_goYears_234
  have hw : (wp_X7_asNow S0 (fun (Z1 : St) => (∃ M49, wl_X7_goYears_11 (fun (Z48 : St) => (k (-6) Z48)) k M49 0 (sI Z1 22 0)))) := hw
  refine lv_aload_n hx hb dX7_goYears_0 rfl (lv_at hl 0 rfl) ?_
  refine callW (va_runV (As := []) (rest := []) ⟨hx, hb, hml, hown, hW⟩ (c_X7_asNow l D cI cZ ad  S0 _ hw) (cwV0 hW mV_X7_asNow ml_X7_108 ⟨Nat.le_of_ble_eq_true rfl, Nat.le_of_ble_eq_true rfl⟩) (preV0 0 rfl rfl hK hN hP hD [0] rfl rfl) rfl rfl hl.1 rfl (lv_room (Nat.le_of_ble_eq_true rfl)) dX7_goYears_1 ⟨Nat.le_refl _, Nat.le_refl _⟩) hP hD hS [0] rfl rfl (fun _ => rfl) (fun v9 u9 H locs hq hP hD hS => ?_)
  obtain ⟨rfl, hw⟩ := hq
  obtain ⟨Z1, rfl⟩ : ∃ z, z = u9 := ⟨_, rfl⟩
  have hP : va_P D classes (jn [mcells cI cZ ad 0 Z1]) H := hP
  have hD : va_D (cOf (jn [mcells cI cZ ad 0 S0])) (jn [mcells cI cZ ad 0 Z1]) := hD
  refine W.eq (g2 := F0 m 4 ls []) rfl ?_
  refine lv_aload_n hx hb dX7_goYears_4 rfl (lv_at hl 0 rfl) ?_
  refine lv_iconst (v := 0) hx hb dX7_goYears_5 (by decide) ?_
  refine va_put (D := D) (ci := 7) (v := .int 0) (ty := .int) (C := RX7) (T := TX7) (N := 27) hx hb hW inW_X7 tyX7 tyX7_ok nmX7 hown hK hP hD hS 0 rfl rfl 22 (by decide) (hW _ fl_X7_111) (fun _ h9 => h9) rfl (by decide +kernel) rfl rfl (Nat.le_of_ble_eq_true rfl) dX7_goYears_6 (fun H locs hP hD hS => ?_)
  have hP : va_P D classes (jn [mcells cI cZ ad 0 (sI Z1 22 0)]) H := ms_i22 (Φ := fun w => va_P D classes w H) (S := Z1) (v := 0) hP
  have hD : va_D (cOf (jn [mcells cI cZ ad 0 S0])) (jn [mcells cI cZ ad 0 (sI Z1 22 0)]) := ms_i22 (Φ := fun w => va_D (cOf (jn [mcells cI cZ ad 0 S0])) w) (S := Z1) (v := 0) hD
  refine lv_iconst (v := 0) hx hb dX7_goYears_9 (by decide) ?_
  refine lv_istore_n (lv' := [(1, .int 0), (0, .ref (ad 0))]) hx hb dX7_goYears_10 rfl hl (by decide) rfl (fun ls hl => ?_)
  obtain ⟨N50, hw⟩ := hw
  refine L11  _ (fun Z48 H locs hP hD hS ls hl hw => ?_) N50 0 (sI Z1 22 0) _ _ hP hD hS _ (lv_sub hl [1, 0] rfl) hw
  refine lv_bipush (v := (-6)) hx hb dX7_goYears_248 (by decide) ?_
  exact W.iret (v := (-6)) hx hb hr (fun t ht _ => ⟨⟨_, (Z48), rfl, ⟨_, rfl, hw⟩, by rw [ht]; exact hP⟩, hS.F ht⟩) hS.2.2 dX7_goYears_250
set_option maxHeartbeats 4000000 in
set_option maxRecDepth 100000 in
theorem c_X7_judge (l : Launch) (D : va_G) (cI cZ : ClassId) (ad : Nat → Nat) (S0 : St) (x1 : Int32) (k : Int32 → St → Prop) (hw : wp_X7_judge S0 x1 k) : KW l yX7_judge cX7_judge 3 (some .int) 4 88 D cI cZ [.ref (ad 0), .int x1] [mcells cI cZ ad 0 S0] (fun v (u : St) => ∃ r, v = some (.int r) ∧ k r u) (fun u : St => [mcells cI cZ ad 0 u]) := by
  refine Met.ofE (by decide +kernel) (Nat.le_of_ble_eq_true rfl) ?_
  intro p e s m below meth c E ls hl
  obtain ⟨hx, hb, hr, hml, hW, hown, hlocks, hP, hK, hD, hN⟩ := E
  have hl : lv_has ls 3 [(0, .ref (ad 0)), (1, .int x1)] := hl
  have hS : va_S (cOf (jn [mcells cI cZ ad 0 S0])) s.heap s.heap [] := va_S.rf
  have hw : (if (F_X7_in x1 0 1) = 0 then (k (-2) S0) else (wp_X7_faultOf S0 (fun (v2 : Int32) => (if v2 < 0 then (wp_X7_goYears S0 (fun (v4 : Int32) (Z5 : St) => (if v4 < 0 then (k v4 Z5) else (if x1 = 0 then (k v4 Z5) else (k (Z5.1 21) Z5))))) else (k (-5) S0))))) := hw
  refine lv_iload_n hx hb dX7_judge_0 rfl (lv_at hl 1 rfl) ?_
  refine lv_iconst (v := 0) hx hb dX7_judge_1 (by decide) ?_
  refine lv_iconst (v := 1) hx hb dX7_judge_2 (by decide) ?_
  refine callF (va_runS (As := [.int x1, .int 0, .int 1]) (rest := []) ⟨hx, hb, hml, hown, hW⟩ (c_X7_in l D cI cZ x1 0 1 _ rfl) (cwS0 hW mS_X7_in ml_X7_78 ⟨Nat.le_of_ble_eq_true rfl, Nat.le_of_ble_eq_true rfl⟩) (preS0 hK hN hP hD [] rfl rfl) rfl rfl hl.1 rfl (lv_room (Nat.le_of_ble_eq_true rfl)) dX7_judge_3 ⟨Nat.le_refl _, Nat.le_refl _⟩) ?_
  refine W.eq (g2 := F0 m 6 ls [.int (F_X7_in x1 0 1)]) rfl ?_
  refine lv_if_ne (tgt := 12) hx hb dX7_judge_6 (by decide) (fun c1 => ?_) (fun c1 => ?_)
  · have hw := Eq.mp (if_neg c1) hw
    refine lv_aload_n hx hb dX7_judge_12 rfl (lv_at hl 0 rfl) ?_
    refine callR (va_runV (As := []) (rest := []) ⟨hx, hb, hml, hown, hW⟩ (c_X7_faultOf l D cI cZ ad  S0 _ hw) (cwV0 hW mV_X7_faultOf ml_X7_92 ⟨Nat.le_of_ble_eq_true rfl, Nat.le_of_ble_eq_true rfl⟩) (preV0 0 rfl rfl hK hN hP hD [0] rfl rfl) rfl rfl hl.1 rfl (lv_room (Nat.le_of_ble_eq_true rfl)) dX7_judge_13 ⟨Nat.le_refl _, Nat.le_refl _⟩) (fun v9 hq => ?_)
    obtain ⟨v2, rfl, hw⟩ := hq
    refine W.eq (g2 := F0 m 16 ls [.int v2]) rfl ?_
    refine lv_if_lt (tgt := 22) hx hb dX7_judge_16 (by decide) (fun c3 => ?_) (fun c3 => ?_)
    · have hw := Eq.mp (if_pos c3) hw
      refine lv_aload_n hx hb dX7_judge_22 rfl (lv_at hl 0 rfl) ?_
      refine callW (va_runV (As := []) (rest := []) ⟨hx, hb, hml, hown, hW⟩ (c_X7_goYears l D cI cZ ad  S0 _ hw) (cwV0 hW mV_X7_goYears ml_X7_132 ⟨Nat.le_of_ble_eq_true rfl, Nat.le_of_ble_eq_true rfl⟩) (preV0 0 rfl rfl hK hN hP hD [0] rfl rfl) rfl rfl hl.1 rfl (lv_room (Nat.le_of_ble_eq_true rfl)) dX7_judge_23 ⟨Nat.le_refl _, Nat.le_refl _⟩) hP hD hS [0] rfl rfl (fun _ => rfl) (fun v9 u9 H locs hq hP hD hS => ?_)
      obtain ⟨v4, rfl, hw⟩ := hq
      obtain ⟨Z5, rfl⟩ : ∃ z, z = u9 := ⟨_, rfl⟩
      have hP : va_P D classes (jn [mcells cI cZ ad 0 Z5]) H := hP
      have hD : va_D (cOf (jn [mcells cI cZ ad 0 S0])) (jn [mcells cI cZ ad 0 Z5]) := hD
      refine W.eq (g2 := F0 m 26 ls [.int v4]) rfl ?_
      refine lv_istore_n (lv' := [(2, .int v4), (0, .ref (ad 0)), (1, .int x1)]) hx hb dX7_judge_26 rfl hl (by decide) rfl (fun ls hl => ?_)
      refine lv_iload_n hx hb dX7_judge_27 rfl (lv_at hl 0 rfl) ?_
      refine lv_if_lt (tgt := 35) hx hb dX7_judge_28 (by decide) (fun c6 => ?_) (fun c6 => ?_)
      · have hw := Eq.mp (if_pos c6) hw
        refine lv_iload_n hx hb dX7_judge_35 rfl (lv_at hl 0 rfl) ?_
        refine lv_goto (tgt := 43) hx hb dX7_judge_36 (by decide) ?_
        exact W.iret (v := v4) hx hb hr (fun t ht _ => ⟨⟨_, (Z5), rfl, ⟨_, rfl, hw⟩, by rw [ht]; exact hP⟩, hS.F ht⟩) hS.2.2 dX7_judge_43
      · have hw := Eq.mp (if_neg c6) hw
        refine lv_iload_n hx hb dX7_judge_31 rfl (lv_at hl 2 rfl) ?_
        refine lv_if_ne (tgt := 39) hx hb dX7_judge_32 (by decide) (fun c7 => ?_) (fun c7 => ?_)
        · have hw := Eq.mp (if_neg c7) hw
          refine lv_aload_n hx hb dX7_judge_39 rfl (lv_at hl 1 rfl) ?_
          refine va_get (D := D) (ci := 7) (v := .int (Z5.1 21)) (C := RX7) (T := TX7) (N := 27) hx hb hW inW_X7 hown hK hP 0 rfl rfl 21 (by decide) (hW _ fl_X7_114) (fun _ h9 => h9) rfl dX7_judge_40 ?_
          exact W.iret (v := (Z5.1 21)) hx hb hr (fun t ht _ => ⟨⟨_, (Z5), rfl, ⟨_, rfl, hw⟩, by rw [ht]; exact hP⟩, hS.F ht⟩) hS.2.2 dX7_judge_43
        · have hw := Eq.mp (if_pos c7) hw
          refine lv_iload_n hx hb dX7_judge_35 rfl (lv_at hl 0 rfl) ?_
          refine lv_goto (tgt := 43) hx hb dX7_judge_36 (by decide) ?_
          exact W.iret (v := v4) hx hb hr (fun t ht _ => ⟨⟨_, (Z5), rfl, ⟨_, rfl, hw⟩, by rw [ht]; exact hP⟩, hS.F ht⟩) hS.2.2 dX7_judge_43
    · have hw := Eq.mp (if_neg c3) hw
      refine lv_bipush (v := (-5)) hx hb dX7_judge_19 (by decide) ?_
      exact W.iret (v := (-5)) hx hb hr (fun t ht _ => ⟨⟨_, (S0), rfl, ⟨_, rfl, hw⟩, by rw [ht]; exact hP⟩, hS.F ht⟩) hS.2.2 dX7_judge_21
  · have hw := Eq.mp (if_pos c1) hw
    refine lv_bipush (v := (-2)) hx hb dX7_judge_9 (by decide) ?_
    exact W.iret (v := (-2)) hx hb hr (fun t ht _ => ⟨⟨_, (S0), rfl, ⟨_, rfl, hw⟩, by rw [ht]; exact hP⟩, hS.F ht⟩) hS.2.2 dX7_judge_11
set_option maxHeartbeats 4000000 in
set_option maxRecDepth 100000 in
theorem c_X7_barOfYears (l : Launch) (D : va_G) (cI cZ : ClassId) (ad : Nat → Nat) (S0 : St) (k : Int32 → St → Prop) (hw : wp_X7_barOfYears S0 k) : KW l yX7_barOfYears cX7_barOfYears 1 (some .int) 4 88 D cI cZ [.ref (ad 0)] [mcells cI cZ ad 0 S0] (fun v (u : St) => ∃ r, v = some (.int r) ∧ k r u) (fun u : St => [mcells cI cZ ad 0 u]) := by
  refine Met.ofE (by decide +kernel) (Nat.le_of_ble_eq_true rfl) ?_
  intro p e s m below meth c E ls hl
  obtain ⟨hx, hb, hr, hml, hW, hown, hlocks, hP, hK, hD, hN⟩ := E
  have hl : lv_has ls 1 [(0, .ref (ad 0))] := hl
  have hS : va_S (cOf (jn [mcells cI cZ ad 0 S0])) s.heap s.heap [] := va_S.rf
  have hw : (wp_X7_faultOf S0 (fun (v1 : Int32) => (if 0 ≤ v1 then (k (-5) S0) else (wp_X7_goYears S0 (fun (v3 : Int32) (Z4 : St) => (if v3 < 0 then (k 0 Z4) else (k (-5) Z4))))))) := hw
  refine lv_aload_n hx hb dX7_barOfYears_0 rfl (lv_at hl 0 rfl) ?_
  refine callR (va_runV (As := []) (rest := []) ⟨hx, hb, hml, hown, hW⟩ (c_X7_faultOf l D cI cZ ad  S0 _ hw) (cwV0 hW mV_X7_faultOf ml_X7_92 ⟨Nat.le_of_ble_eq_true rfl, Nat.le_of_ble_eq_true rfl⟩) (preV0 0 rfl rfl hK hN hP hD [0] rfl rfl) rfl rfl hl.1 rfl (lv_room (Nat.le_of_ble_eq_true rfl)) dX7_barOfYears_1 ⟨Nat.le_refl _, Nat.le_refl _⟩) (fun v9 hq => ?_)
  obtain ⟨v1, rfl, hw⟩ := hq
  refine W.eq (g2 := F0 m 4 ls [.int v1]) rfl ?_
  refine lv_if_ge (tgt := 14) hx hb dX7_barOfYears_4 (by decide) (fun c2 => ?_) (fun c2 => ?_)
  · have hw := Eq.mp (if_pos c2) hw
    refine lv_bipush (v := (-5)) hx hb dX7_barOfYears_14 (by decide) ?_
    refine lv_goto (tgt := 20) hx hb dX7_barOfYears_16 (by decide) ?_
    exact W.iret (v := (-5)) hx hb hr (fun t ht _ => ⟨⟨_, (S0), rfl, ⟨_, rfl, hw⟩, by rw [ht]; exact hP⟩, hS.F ht⟩) hS.2.2 dX7_barOfYears_20
  · have hw := Eq.mp (if_neg c2) hw
    refine lv_aload_n hx hb dX7_barOfYears_7 rfl (lv_at hl 0 rfl) ?_
    refine callW (va_runV (As := []) (rest := []) ⟨hx, hb, hml, hown, hW⟩ (c_X7_goYears l D cI cZ ad  S0 _ hw) (cwV0 hW mV_X7_goYears ml_X7_132 ⟨Nat.le_of_ble_eq_true rfl, Nat.le_of_ble_eq_true rfl⟩) (preV0 0 rfl rfl hK hN hP hD [0] rfl rfl) rfl rfl hl.1 rfl (lv_room (Nat.le_of_ble_eq_true rfl)) dX7_barOfYears_8 ⟨Nat.le_refl _, Nat.le_refl _⟩) hP hD hS [0] rfl rfl (fun _ => rfl) (fun v9 u9 H locs hq hP hD hS => ?_)
    obtain ⟨v3, rfl, hw⟩ := hq
    obtain ⟨Z4, rfl⟩ : ∃ z, z = u9 := ⟨_, rfl⟩
    have hP : va_P D classes (jn [mcells cI cZ ad 0 Z4]) H := hP
    have hD : va_D (cOf (jn [mcells cI cZ ad 0 S0])) (jn [mcells cI cZ ad 0 Z4]) := hD
    refine W.eq (g2 := F0 m 11 ls [.int v3]) rfl ?_
    refine lv_if_lt (tgt := 19) hx hb dX7_barOfYears_11 (by decide) (fun c5 => ?_) (fun c5 => ?_)
    · have hw := Eq.mp (if_pos c5) hw
      refine lv_iconst (v := 0) hx hb dX7_barOfYears_19 (by decide) ?_
      exact W.iret (v := 0) hx hb hr (fun t ht _ => ⟨⟨_, (Z4), rfl, ⟨_, rfl, hw⟩, by rw [ht]; exact hP⟩, hS.F ht⟩) hS.2.2 dX7_barOfYears_20
    · have hw := Eq.mp (if_neg c5) hw
      refine lv_bipush (v := (-5)) hx hb dX7_barOfYears_14 (by decide) ?_
      refine lv_goto (tgt := 20) hx hb dX7_barOfYears_16 (by decide) ?_
      exact W.iret (v := (-5)) hx hb hr (fun t ht _ => ⟨⟨_, (Z4), rfl, ⟨_, rfl, hw⟩, by rw [ht]; exact hP⟩, hS.F ht⟩) hS.2.2 dX7_barOfYears_20
set_option maxHeartbeats 4000000 in
set_option maxRecDepth 100000 in
theorem c_X7_done (l : Launch) (D : va_G) (cI cZ : ClassId) (ad : Nat → Nat) (S0 : St) (k : Int32 → St → Prop) (hw : wp_X7_done S0 k) : KW l yX7_done cX7_done 2 (some .int) 5 108 D cI cZ [.ref (ad 0)] [mcells cI cZ ad 0 S0] (fun v (u : St) => ∃ r, v = some (.int r) ∧ k r u) (fun u : St => [mcells cI cZ ad 0 u]) := by
  refine Met.ofE (by decide +kernel) (Nat.le_of_ble_eq_true rfl) ?_
  intro p e s m below meth c E ls hl
  obtain ⟨hx, hb, hr, hml, hW, hown, hlocks, hP, hK, hD, hN⟩ := E
  have hl : lv_has ls 2 [(0, .ref (ad 0))] := hl
  have hS : va_S (cOf (jn [mcells cI cZ ad 0 S0])) s.heap s.heap [] := va_S.rf
  have L36 : ∀  (kx : St → Prop), (∀ (S0q : St) (H : Heap) (locs : List Loc), va_P D classes (jn [mcells cI cZ ad 0 S0q]) H → va_D (cOf (jn [mcells cI cZ ad 0 S0])) (jn [mcells cI cZ ad 0 S0q]) → va_S (cOf (jn [mcells cI cZ ad 0 S0])) s.heap H locs → ∀ ls : Array Slot, lv_has ls 2 [(0, .ref (ad 0))] → kx S0q → W p l e { frames := 5, cells := 0, slots := 0, locals := 108 } s m ([.ref (ad 0)] : List Value).toArray below meth c H locs 0 0 (MQ below (QW (fun v (u : St) => ∃ r, v = some (.int r) ∧ k r u) D (fun u : St => [mcells cI cZ ad 0 u]) [mcells cI cZ ad 0 S0]) ([.ref (ad 0)] : List Value).toArray s 0 0 (cOf (jn [mcells cI cZ ad 0 S0]))) (F0 m 84 ls [])) → ∀ (N36 : Nat) (y1 : Int32) (S0q : St) (H : Heap) (locs : List Loc), va_P D classes (jn [mcells cI cZ ad 0 S0q]) H → va_D (cOf (jn [mcells cI cZ ad 0 S0])) (jn [mcells cI cZ ad 0 S0q]) → va_S (cOf (jn [mcells cI cZ ad 0 S0])) s.heap H locs → ∀ ls : Array Slot, lv_has ls 2 [(0, .ref (ad 0)), (1, .int y1)] → wl_X7_done_36 kx N36 y1 S0q → W p l e { frames := 5, cells := 0, slots := 0, locals := 108 } s m ([.ref (ad 0)] : List Value).toArray below meth c H locs 0 0 (MQ below (QW (fun v (u : St) => ∃ r, v = some (.int r) ∧ k r u) D (fun u : St => [mcells cI cZ ad 0 u]) [mcells cI cZ ad 0 S0]) ([.ref (ad 0)] : List Value).toArray s 0 0 (cOf (jn [mcells cI cZ ad 0 S0]))) (F0 m 36 ls []) := by
    intro  kx hxt N36
    induction N36 with
    | zero => intro y1 S0q H locs hP hD hS ls hl hw; exact False.elim hw
    | succ N36 ih =>
      intro y1 S0q H locs hP hD hS ls hl hw
      have hw : (if 6 ≤ y1 then (kx S0q) else (vp_in y1 6 ∧ (vp_in y1 6 ∧ (vp_in y1 6 ∧ (vp_in y1 6 ∧ (vp_in y1 6 ∧ (vp_in y1 6 ∧ (wl_X7_done_36 kx N36 (y1 + 1) (sA (sA (sA S0q 5 (upd (S0q.2 5) (y1 : Int32).toNatClampNeg ((S0q.2 17) (y1 : Int32).toNatClampNeg))) 6 (upd (S0q.2 6) (y1 : Int32).toNatClampNeg ((S0q.2 18) (y1 : Int32).toNatClampNeg))) 7 (upd (S0q.2 7) (y1 : Int32).toNatClampNeg ((S0q.2 19) (y1 : Int32).toNatClampNeg))))))))))) := hw
      refine lv_iload_n hx hb dX7_done_36 rfl (lv_at hl 1 rfl) ?_
      refine lv_bipush (v := 6) hx hb dX7_done_37 (by decide) ?_
      refine lv_icmp_ge (tgt := 84) hx hb dX7_done_39 (by decide) (fun c4 => ?_) (fun c4 => ?_)
      · have hw := Eq.mp (if_pos c4) hw
        exact hxt S0q _ _ hP hD hS _ (lv_sub hl [0] rfl) hw
      · have hw := Eq.mp (if_neg c4) hw
        refine lv_aload_n hx hb dX7_done_42 rfl (lv_at hl 0 rfl) ?_
        refine va_get (D := D) (ci := 7) (v := .ref (ad (0 + 1))) (C := RX7) (T := TX7) (N := 27) hx hb hW inW_X7 hown hK hP 0 rfl rfl 5 (by decide) (hW _ fl_X7_16) (fun _ h9 => h9) rfl dX7_done_43 ?_
        refine lv_iload_n hx hb dX7_done_46 rfl (lv_at hl 1 rfl) ?_
        refine lv_aload_n hx hb dX7_done_47 rfl (lv_at hl 0 rfl) ?_
        refine va_get (D := D) (ci := 7) (v := .ref (ad (0 + 8))) (C := RX7) (T := TX7) (N := 27) hx hb hW inW_X7 hown hK hP 0 rfl rfl 17 (by decide) (hW _ fl_X7_38) (fun _ h9 => h9) rfl dX7_done_48 ?_
        refine lv_iload_n hx hb dX7_done_51 rfl (lv_at hl 1 rfl) ?_
        refine va_iald (f := (S0q.2 17)) hx hb hK hP 8 0 rfl rfl hw.1 dX7_done_52 ?_
        have hw := hw.2
        refine va_iast (f := (S0q.2 5)) hx hb hK hP hD hS 1 0 rfl rfl hw.1 dX7_done_53 (fun H locs hP hD hS => ?_)
        have hw := hw.2
        revert hw; revert hD; revert hP
        generalize (upd (S0q.2 5) (y1 : Int32).toNatClampNeg ((S0q.2 17) (y1 : Int32).toNatClampNeg)) = Z5
        intro hP hD hw
        have hP : va_P D classes (jn [mcells cI cZ ad 0 (sA S0q 5 Z5)]) H := ms_a5 (Φ := fun w => va_P D classes w H) (S := S0q) (v := Z5) hP
        have hD : va_D (cOf (jn [mcells cI cZ ad 0 S0])) (jn [mcells cI cZ ad 0 (sA S0q 5 Z5)]) := ms_a5 (Φ := fun w => va_D (cOf (jn [mcells cI cZ ad 0 S0])) w) (S := S0q) (v := Z5) hD
        refine lv_aload_n hx hb dX7_done_54 rfl (lv_at hl 0 rfl) ?_
        refine va_get (D := D) (ci := 7) (v := .ref (ad (0 + 2))) (C := RX7) (T := TX7) (N := 27) hx hb hW inW_X7 hown hK hP 0 rfl rfl 6 (by decide) (hW _ fl_X7_20) (fun _ h9 => h9) rfl dX7_done_55 ?_
        refine lv_iload_n hx hb dX7_done_58 rfl (lv_at hl 1 rfl) ?_
        refine lv_aload_n hx hb dX7_done_59 rfl (lv_at hl 0 rfl) ?_
        refine va_get (D := D) (ci := 7) (v := .ref (ad (0 + 9))) (C := RX7) (T := TX7) (N := 27) hx hb hW inW_X7 hown hK hP 0 rfl rfl 18 (by decide) (hW _ fl_X7_41) (fun _ h9 => h9) rfl dX7_done_60 ?_
        refine lv_iload_n hx hb dX7_done_63 rfl (lv_at hl 1 rfl) ?_
        refine va_iald (f := (S0q.2 18)) hx hb hK hP 9 0 rfl rfl hw.1 dX7_done_64 ?_
        have hw := hw.2
        refine va_iast (f := (S0q.2 6)) hx hb hK hP hD hS 2 0 rfl rfl hw.1 dX7_done_65 (fun H locs hP hD hS => ?_)
        have hw := hw.2
        revert hw; revert hD; revert hP
        generalize (upd (S0q.2 6) (y1 : Int32).toNatClampNeg ((S0q.2 18) (y1 : Int32).toNatClampNeg)) = Z6
        intro hP hD hw
        have hP : va_P D classes (jn [mcells cI cZ ad 0 (sA (sA S0q 5 Z5) 6 Z6)]) H := ms_a6 (Φ := fun w => va_P D classes w H) (S := (sA S0q 5 Z5)) (v := Z6) hP
        have hD : va_D (cOf (jn [mcells cI cZ ad 0 S0])) (jn [mcells cI cZ ad 0 (sA (sA S0q 5 Z5) 6 Z6)]) := ms_a6 (Φ := fun w => va_D (cOf (jn [mcells cI cZ ad 0 S0])) w) (S := (sA S0q 5 Z5)) (v := Z6) hD
        refine lv_aload_n hx hb dX7_done_66 rfl (lv_at hl 0 rfl) ?_
        refine va_get (D := D) (ci := 7) (v := .ref (ad (0 + 3))) (C := RX7) (T := TX7) (N := 27) hx hb hW inW_X7 hown hK hP 0 rfl rfl 7 (by decide) (hW _ fl_X7_23) (fun _ h9 => h9) rfl dX7_done_67 ?_
        refine lv_iload_n hx hb dX7_done_70 rfl (lv_at hl 1 rfl) ?_
        refine lv_aload_n hx hb dX7_done_71 rfl (lv_at hl 0 rfl) ?_
        refine va_get (D := D) (ci := 7) (v := .ref (ad (0 + 10))) (C := RX7) (T := TX7) (N := 27) hx hb hW inW_X7 hown hK hP 0 rfl rfl 19 (by decide) (hW _ fl_X7_44) (fun _ h9 => h9) rfl dX7_done_72 ?_
        refine lv_iload_n hx hb dX7_done_75 rfl (lv_at hl 1 rfl) ?_
        refine va_iald (f := (S0q.2 19)) hx hb hK hP 10 0 rfl rfl hw.1 dX7_done_76 ?_
        have hw := hw.2
        refine va_iast (f := (S0q.2 7)) hx hb hK hP hD hS 3 0 rfl rfl hw.1 dX7_done_77 (fun H locs hP hD hS => ?_)
        have hw := hw.2
        revert hw; revert hD; revert hP
        generalize (upd (S0q.2 7) (y1 : Int32).toNatClampNeg ((S0q.2 19) (y1 : Int32).toNatClampNeg)) = Z7
        intro hP hD hw
        have hP : va_P D classes (jn [mcells cI cZ ad 0 (sA (sA (sA S0q 5 Z5) 6 Z6) 7 Z7)]) H := ms_a7 (Φ := fun w => va_P D classes w H) (S := (sA (sA S0q 5 Z5) 6 Z6)) (v := Z7) hP
        have hD : va_D (cOf (jn [mcells cI cZ ad 0 S0])) (jn [mcells cI cZ ad 0 (sA (sA (sA S0q 5 Z5) 6 Z6) 7 Z7)]) := ms_a7 (Φ := fun w => va_D (cOf (jn [mcells cI cZ ad 0 S0])) w) (S := (sA (sA S0q 5 Z5) 6 Z6)) (v := Z7) hD
        refine lv_iinc (v := (y1 + 1)) (lv' := [(1, .int (y1 + 1)), (0, .ref (ad 0))]) hx hb dX7_done_78 hl (k := 1) rfl rfl (by decide) rfl (fun ls hl => ?_)
        refine lv_goto (tgt := 36) hx hb dX7_done_81 (by decide) ?_
        exact ih (y1 + 1) (sA (sA (sA S0q 5 Z5) 6 Z6) 7 Z7) _ _ hP hD hS _ (lv_sub hl [1, 0] rfl) hw
  have hw : (wp_X7_barOfYears S0 (fun (v1 : Int32) (Z2 : St) => (if 0 ≤ v1 then (∃ M9, wl_X7_done_36 (fun (Z8 : St) => (k (Z8.1 22) (sI Z8 12 0))) M9 0 (sI (sI (sI Z2 2 (Z2.1 14)) 3 (Z2.1 15)) 4 (Z2.1 16))) else (k (-5) Z2)))) := hw
  refine lv_aload_n hx hb dX7_done_0 rfl (lv_at hl 0 rfl) ?_
  refine callW (va_runV (As := []) (rest := []) ⟨hx, hb, hml, hown, hW⟩ (c_X7_barOfYears l D cI cZ ad  S0 _ hw) (cwV0 hW mV_X7_barOfYears ml_X7_135 ⟨Nat.le_of_ble_eq_true rfl, Nat.le_of_ble_eq_true rfl⟩) (preV0 0 rfl rfl hK hN hP hD [0] rfl rfl) rfl rfl hl.1 rfl (lv_room (Nat.le_of_ble_eq_true rfl)) dX7_done_1 ⟨Nat.le_refl _, Nat.le_refl _⟩) hP hD hS [0] rfl rfl (fun _ => rfl) (fun v9 u9 H locs hq hP hD hS => ?_)
  obtain ⟨v1, rfl, hw⟩ := hq
  obtain ⟨Z2, rfl⟩ : ∃ z, z = u9 := ⟨_, rfl⟩
  have hP : va_P D classes (jn [mcells cI cZ ad 0 Z2]) H := hP
  have hD : va_D (cOf (jn [mcells cI cZ ad 0 S0])) (jn [mcells cI cZ ad 0 Z2]) := hD
  refine W.eq (g2 := F0 m 4 ls [.int v1]) rfl ?_
  refine lv_if_ge (tgt := 10) hx hb dX7_done_4 (by decide) (fun c3 => ?_) (fun c3 => ?_)
  · have hw := Eq.mp (if_pos c3) hw
    refine lv_aload_n hx hb dX7_done_10 rfl (lv_at hl 0 rfl) ?_
    refine lv_aload_n hx hb dX7_done_11 rfl (lv_at hl 0 rfl) ?_
    refine va_get (D := D) (ci := 7) (v := .int (Z2.1 14)) (C := RX7) (T := TX7) (N := 27) hx hb hW inW_X7 hown hK hP 0 rfl rfl 14 (by decide) (hW _ fl_X7_96) (fun _ h9 => h9) rfl dX7_done_12 ?_
    refine va_put (D := D) (ci := 7) (v := .int (Z2.1 14)) (ty := .int) (C := RX7) (T := TX7) (N := 27) hx hb hW inW_X7 tyX7 tyX7_ok nmX7 hown hK hP hD hS 0 rfl rfl 2 (by decide) (hW _ fl_X7_66) (fun _ h9 => h9) rfl (by decide +kernel) rfl rfl (Nat.le_of_ble_eq_true rfl) dX7_done_15 (fun H locs hP hD hS => ?_)
    have hP : va_P D classes (jn [mcells cI cZ ad 0 (sI Z2 2 (Z2.1 14))]) H := ms_i2 (Φ := fun w => va_P D classes w H) (S := Z2) (v := (Z2.1 14)) hP
    have hD : va_D (cOf (jn [mcells cI cZ ad 0 S0])) (jn [mcells cI cZ ad 0 (sI Z2 2 (Z2.1 14))]) := ms_i2 (Φ := fun w => va_D (cOf (jn [mcells cI cZ ad 0 S0])) w) (S := Z2) (v := (Z2.1 14)) hD
    refine lv_aload_n hx hb dX7_done_18 rfl (lv_at hl 0 rfl) ?_
    refine lv_aload_n hx hb dX7_done_19 rfl (lv_at hl 0 rfl) ?_
    refine va_get (D := D) (ci := 7) (v := .int (Z2.1 15)) (C := RX7) (T := TX7) (N := 27) hx hb hW inW_X7 hown hK hP 0 rfl rfl 15 (by decide) (hW _ fl_X7_99) (fun _ h9 => h9) rfl dX7_done_20 ?_
    refine va_put (D := D) (ci := 7) (v := .int (Z2.1 15)) (ty := .int) (C := RX7) (T := TX7) (N := 27) hx hb hW inW_X7 tyX7 tyX7_ok nmX7 hown hK hP hD hS 0 rfl rfl 3 (by decide) (hW _ fl_X7_69) (fun _ h9 => h9) rfl (by decide +kernel) rfl rfl (Nat.le_of_ble_eq_true rfl) dX7_done_23 (fun H locs hP hD hS => ?_)
    have hP : va_P D classes (jn [mcells cI cZ ad 0 (sI (sI Z2 2 (Z2.1 14)) 3 (Z2.1 15))]) H := ms_i3 (Φ := fun w => va_P D classes w H) (S := (sI Z2 2 (Z2.1 14))) (v := (Z2.1 15)) hP
    have hD : va_D (cOf (jn [mcells cI cZ ad 0 S0])) (jn [mcells cI cZ ad 0 (sI (sI Z2 2 (Z2.1 14)) 3 (Z2.1 15))]) := ms_i3 (Φ := fun w => va_D (cOf (jn [mcells cI cZ ad 0 S0])) w) (S := (sI Z2 2 (Z2.1 14))) (v := (Z2.1 15)) hD
    refine lv_aload_n hx hb dX7_done_26 rfl (lv_at hl 0 rfl) ?_
    refine lv_aload_n hx hb dX7_done_27 rfl (lv_at hl 0 rfl) ?_
    refine va_get (D := D) (ci := 7) (v := .int (Z2.1 16)) (C := RX7) (T := TX7) (N := 27) hx hb hW inW_X7 hown hK hP 0 rfl rfl 16 (by decide) (hW _ fl_X7_102) (fun _ h9 => h9) rfl dX7_done_28 ?_
    refine va_put (D := D) (ci := 7) (v := .int (Z2.1 16)) (ty := .int) (C := RX7) (T := TX7) (N := 27) hx hb hW inW_X7 tyX7 tyX7_ok nmX7 hown hK hP hD hS 0 rfl rfl 4 (by decide) (hW _ fl_X7_72) (fun _ h9 => h9) rfl (by decide +kernel) rfl rfl (Nat.le_of_ble_eq_true rfl) dX7_done_31 (fun H locs hP hD hS => ?_)
    have hP : va_P D classes (jn [mcells cI cZ ad 0 (sI (sI (sI Z2 2 (Z2.1 14)) 3 (Z2.1 15)) 4 (Z2.1 16))]) H := ms_i4 (Φ := fun w => va_P D classes w H) (S := (sI (sI Z2 2 (Z2.1 14)) 3 (Z2.1 15))) (v := (Z2.1 16)) hP
    have hD : va_D (cOf (jn [mcells cI cZ ad 0 S0])) (jn [mcells cI cZ ad 0 (sI (sI (sI Z2 2 (Z2.1 14)) 3 (Z2.1 15)) 4 (Z2.1 16))]) := ms_i4 (Φ := fun w => va_D (cOf (jn [mcells cI cZ ad 0 S0])) w) (S := (sI (sI Z2 2 (Z2.1 14)) 3 (Z2.1 15))) (v := (Z2.1 16)) hD
    refine lv_iconst (v := 0) hx hb dX7_done_34 (by decide) ?_
    refine lv_istore_n (lv' := [(1, .int 0), (0, .ref (ad 0))]) hx hb dX7_done_35 rfl hl (by decide) rfl (fun ls hl => ?_)
    obtain ⟨N10, hw⟩ := hw
    refine L36  _ (fun Z8 H locs hP hD hS ls hl hw => ?_) N10 0 (sI (sI (sI Z2 2 (Z2.1 14)) 3 (Z2.1 15)) 4 (Z2.1 16)) _ _ hP hD hS _ (lv_sub hl [1, 0] rfl) hw
    refine lv_aload_n hx hb dX7_done_84 rfl (lv_at hl 0 rfl) ?_
    refine lv_iconst (v := 0) hx hb dX7_done_85 (by decide) ?_
    refine va_put (D := D) (ci := 7) (v := .int 0) (ty := .int) (C := RX7) (T := TX7) (N := 27) hx hb hW inW_X7 tyX7 tyX7_ok nmX7 hown hK hP hD hS 0 rfl rfl 12 (by decide) (hW _ fl_X7_86) (fun _ h9 => h9) rfl (by decide +kernel) rfl rfl (Nat.le_of_ble_eq_true rfl) dX7_done_86 (fun H locs hP hD hS => ?_)
    have hP : va_P D classes (jn [mcells cI cZ ad 0 (sI Z8 12 0)]) H := ms_i12 (Φ := fun w => va_P D classes w H) (S := Z8) (v := 0) hP
    have hD : va_D (cOf (jn [mcells cI cZ ad 0 S0])) (jn [mcells cI cZ ad 0 (sI Z8 12 0)]) := ms_i12 (Φ := fun w => va_D (cOf (jn [mcells cI cZ ad 0 S0])) w) (S := Z8) (v := 0) hD
    refine lv_aload_n hx hb dX7_done_89 rfl (lv_at hl 0 rfl) ?_
    refine va_get (D := D) (ci := 7) (v := .int (Z8.1 22)) (C := RX7) (T := TX7) (N := 27) hx hb hW inW_X7 hown hK hP 0 rfl rfl 22 (by decide) (hW _ fl_X7_111) (fun _ h9 => h9) rfl dX7_done_90 ?_
    exact W.iret (v := (Z8.1 22)) hx hb hr (fun t ht _ => ⟨⟨_, ((sI Z8 12 0)), rfl, ⟨_, rfl, hw⟩, by rw [ht]; exact hP⟩, hS.F ht⟩) hS.2.2 dX7_done_93
  · have hw := Eq.mp (if_neg c3) hw
    refine lv_bipush (v := (-5)) hx hb dX7_done_7 (by decide) ?_
    exact W.iret (v := (-5)) hx hb hr (fun t ht _ => ⟨⟨_, (Z2), rfl, ⟨_, rfl, hw⟩, by rw [ht]; exact hP⟩, hS.F ht⟩) hS.2.2 dX7_done_9
set_option maxHeartbeats 4000000 in
set_option maxRecDepth 100000 in
theorem c_X7_state (l : Launch) (D : va_G) (cI cZ : ClassId) (ad : Nat → Nat) (S0 : St) (x1 : Int32) (x2 : Int32) (k : Int32 → Prop) (hw : wp_X7_state S0 x1 x2 k) : KR l yX7_state cX7_state 3 (some .int) 2 43 D cI cZ [.ref (ad 0), .int x1, .int x2] [mcells cI cZ ad 0 S0] (fun v => ∃ r, v = some (.int r) ∧ k r) := by
  refine Met.ofE (by decide +kernel) (Nat.le_of_ble_eq_true rfl) ?_
  intro p e s m below meth c E ls hl
  obtain ⟨hx, hb, hr, hml, hW, hown, hlocks, hP, hK, hD, hN⟩ := E
  have hl : lv_has ls 3 [(0, .ref (ad 0)), (1, .int x1), (2, .int x2)] := hl
  have hw : (if (F_X7_isOne S0 x1) = 0 then (k (-1)) else (if x2 = 0 then (vp_in x1 6 ∧ (k ((S0.2 5) (x1 : Int32).toNatClampNeg))) else (if x2 = 1 then (vp_in x1 6 ∧ (k ((S0.2 6) (x1 : Int32).toNatClampNeg))) else (if x2 = 2 then (vp_in x1 6 ∧ (k ((S0.2 7) (x1 : Int32).toNatClampNeg))) else (k (-2)))))) := hw
  refine lv_aload_n hx hb dX7_state_0 rfl (lv_at hl 0 rfl) ?_
  refine lv_iload_n hx hb dX7_state_1 rfl (lv_at hl 1 rfl) ?_
  refine callF (va_runV (As := [.int x1]) (rest := []) ⟨hx, hb, hml, hown, hW⟩ (c_X7_isOne l D cI cZ ad  S0 x1 _ rfl) (cwV0 hW mV_X7_isOne ml_X7_82 ⟨Nat.le_of_ble_eq_true rfl, Nat.le_of_ble_eq_true rfl⟩) (preV0 0 rfl rfl hK hN hP hD [0] rfl rfl) rfl rfl hl.1 rfl (lv_room (Nat.le_of_ble_eq_true rfl)) dX7_state_2 ⟨Nat.le_refl _, Nat.le_refl _⟩) ?_
  refine W.eq (g2 := F0 m 5 ls [.int (F_X7_isOne S0 x1)]) rfl ?_
  refine lv_if_ne (tgt := 10) hx hb dX7_state_5 (by decide) (fun c1 => ?_) (fun c1 => ?_)
  · have hw := Eq.mp (if_neg c1) hw
    refine lv_iload_n hx hb dX7_state_10 rfl (lv_at hl 2 rfl) ?_
    refine lv_if_ne (tgt := 23) hx hb dX7_state_11 (by decide) (fun c2 => ?_) (fun c2 => ?_)
    · have hw := Eq.mp (if_neg c2) hw
      refine lv_iload_n hx hb dX7_state_23 rfl (lv_at hl 2 rfl) ?_
      refine lv_iconst (v := 1) hx hb dX7_state_24 (by decide) ?_
      refine lv_icmp_ne (tgt := 37) hx hb dX7_state_25 (by decide) (fun c3 => ?_) (fun c3 => ?_)
      · have hw := Eq.mp (if_neg c3) hw
        refine lv_iload_n hx hb dX7_state_37 rfl (lv_at hl 2 rfl) ?_
        refine lv_iconst (v := 2) hx hb dX7_state_38 (by decide) ?_
        refine lv_icmp_ne (tgt := 51) hx hb dX7_state_39 (by decide) (fun c4 => ?_) (fun c4 => ?_)
        · have hw := Eq.mp (if_neg c4) hw
          refine lv_bipush (v := (-2)) hx hb dX7_state_51 (by decide) ?_
          exact W.iret (v := (-2)) hx hb hr (fun t ht _ => ⟨⟨_, rfl, ⟨_, rfl, hw⟩⟩, ht⟩) (fun _ h => by cases h) dX7_state_53
        · have hw := Eq.mp (if_pos c4) hw
          refine lv_aload_n hx hb dX7_state_42 rfl (lv_at hl 0 rfl) ?_
          refine va_get (D := D) (ci := 7) (v := .ref (ad (0 + 3))) (C := RX7) (T := TX7) (N := 27) hx hb hW inW_X7 hown hK hP 0 rfl rfl 7 (by decide) (hW _ fl_X7_23) (fun _ h9 => h9) rfl dX7_state_43 ?_
          refine lv_iload_n hx hb dX7_state_46 rfl (lv_at hl 1 rfl) ?_
          refine va_iald (f := (S0.2 7)) hx hb hK hP 3 0 rfl rfl hw.1 dX7_state_47 ?_
          have hw := hw.2
          refine lv_goto (tgt := 53) hx hb dX7_state_48 (by decide) ?_
          exact W.iret (v := ((S0.2 7) (x1 : Int32).toNatClampNeg)) hx hb hr (fun t ht _ => ⟨⟨_, rfl, ⟨_, rfl, hw⟩⟩, ht⟩) (fun _ h => by cases h) dX7_state_53
      · have hw := Eq.mp (if_pos c3) hw
        refine lv_aload_n hx hb dX7_state_28 rfl (lv_at hl 0 rfl) ?_
        refine va_get (D := D) (ci := 7) (v := .ref (ad (0 + 2))) (C := RX7) (T := TX7) (N := 27) hx hb hW inW_X7 hown hK hP 0 rfl rfl 6 (by decide) (hW _ fl_X7_20) (fun _ h9 => h9) rfl dX7_state_29 ?_
        refine lv_iload_n hx hb dX7_state_32 rfl (lv_at hl 1 rfl) ?_
        refine va_iald (f := (S0.2 6)) hx hb hK hP 2 0 rfl rfl hw.1 dX7_state_33 ?_
        have hw := hw.2
        refine lv_goto (tgt := 53) hx hb dX7_state_34 (by decide) ?_
        exact W.iret (v := ((S0.2 6) (x1 : Int32).toNatClampNeg)) hx hb hr (fun t ht _ => ⟨⟨_, rfl, ⟨_, rfl, hw⟩⟩, ht⟩) (fun _ h => by cases h) dX7_state_53
    · have hw := Eq.mp (if_pos c2) hw
      refine lv_aload_n hx hb dX7_state_14 rfl (lv_at hl 0 rfl) ?_
      refine va_get (D := D) (ci := 7) (v := .ref (ad (0 + 1))) (C := RX7) (T := TX7) (N := 27) hx hb hW inW_X7 hown hK hP 0 rfl rfl 5 (by decide) (hW _ fl_X7_16) (fun _ h9 => h9) rfl dX7_state_15 ?_
      refine lv_iload_n hx hb dX7_state_18 rfl (lv_at hl 1 rfl) ?_
      refine va_iald (f := (S0.2 5)) hx hb hK hP 1 0 rfl rfl hw.1 dX7_state_19 ?_
      have hw := hw.2
      refine lv_goto (tgt := 53) hx hb dX7_state_20 (by decide) ?_
      exact W.iret (v := ((S0.2 5) (x1 : Int32).toNatClampNeg)) hx hb hr (fun t ht _ => ⟨⟨_, rfl, ⟨_, rfl, hw⟩⟩, ht⟩) (fun _ h => by cases h) dX7_state_53
  · have hw := Eq.mp (if_pos c1) hw
    refine lv_iconst (v := (-1)) hx hb dX7_state_8 (by decide) ?_
    exact W.iret (v := (-1)) hx hb hr (fun t ht _ => ⟨⟨_, rfl, ⟨_, rfl, hw⟩⟩, ht⟩) (fun _ h => by cases h) dX7_state_9
set_option maxHeartbeats 4000000 in
set_option maxRecDepth 100000 in
theorem c_X7_behind (l : Launch) (D : va_G) (cI cZ : ClassId) (ad : Nat → Nat) (S0 : St) (x1 : Int32) (x2 : Int32) (k : Int32 → St → Prop) (hw : wp_X7_behind S0 x1 x2 k) : KW l yX7_behind cX7_behind 3 (some .int) 5 108 D cI cZ [.ref (ad 0), .int x1, .int x2] [mcells cI cZ ad 0 S0] (fun v (u : St) => ∃ r, v = some (.int r) ∧ k r u) (fun u : St => [mcells cI cZ ad 0 u]) := by
  refine Met.ofE (by decide +kernel) (Nat.le_of_ble_eq_true rfl) ?_
  intro p e s m below meth c E ls hl
  obtain ⟨hx, hb, hr, hml, hW, hown, hlocks, hP, hK, hD, hN⟩ := E
  have hl : lv_has ls 3 [(0, .ref (ad 0)), (1, .int x1), (2, .int x2)] := hl
  have hS : va_S (cOf (jn [mcells cI cZ ad 0 S0])) s.heap s.heap [] := va_S.rf
  have hw : (if (F_X7_isOne S0 x1) = 0 then (k (-1) S0) else (if (F_X7_in x2 0 2) = 0 then (k (-2) S0) else (wp_X7_barOfYears S0 (fun (v3 : Int32) (Z4 : St) => (if 0 ≤ v3 then (if x2 = 0 then (vp_in x1 6 ∧ (k ((Z4.2 17) (x1 : Int32).toNatClampNeg) Z4)) else (if x2 = 1 then (vp_in x1 6 ∧ (k ((Z4.2 18) (x1 : Int32).toNatClampNeg) Z4)) else (vp_in x1 6 ∧ (k ((Z4.2 20) (x1 : Int32).toNatClampNeg) Z4)))) else (k (-5) Z4)))))) := hw
  refine lv_aload_n hx hb dX7_behind_0 rfl (lv_at hl 0 rfl) ?_
  refine lv_iload_n hx hb dX7_behind_1 rfl (lv_at hl 1 rfl) ?_
  refine callF (va_runV (As := [.int x1]) (rest := []) ⟨hx, hb, hml, hown, hW⟩ (c_X7_isOne l D cI cZ ad  S0 x1 _ rfl) (cwV0 hW mV_X7_isOne ml_X7_82 ⟨Nat.le_of_ble_eq_true rfl, Nat.le_of_ble_eq_true rfl⟩) (preV0 0 rfl rfl hK hN hP hD [0] rfl rfl) rfl rfl hl.1 rfl (lv_room (Nat.le_of_ble_eq_true rfl)) dX7_behind_2 ⟨Nat.le_refl _, Nat.le_refl _⟩) ?_
  refine W.eq (g2 := F0 m 5 ls [.int (F_X7_isOne S0 x1)]) rfl ?_
  refine lv_if_ne (tgt := 10) hx hb dX7_behind_5 (by decide) (fun c1 => ?_) (fun c1 => ?_)
  · have hw := Eq.mp (if_neg c1) hw
    refine lv_iload_n hx hb dX7_behind_10 rfl (lv_at hl 2 rfl) ?_
    refine lv_iconst (v := 0) hx hb dX7_behind_11 (by decide) ?_
    refine lv_iconst (v := 2) hx hb dX7_behind_12 (by decide) ?_
    refine callF (va_runS (As := [.int x2, .int 0, .int 2]) (rest := []) ⟨hx, hb, hml, hown, hW⟩ (c_X7_in l D cI cZ x2 0 2 _ rfl) (cwS0 hW mS_X7_in ml_X7_78 ⟨Nat.le_of_ble_eq_true rfl, Nat.le_of_ble_eq_true rfl⟩) (preS0 hK hN hP hD [] rfl rfl) rfl rfl hl.1 rfl (lv_room (Nat.le_of_ble_eq_true rfl)) dX7_behind_13 ⟨Nat.le_refl _, Nat.le_refl _⟩) ?_
    refine W.eq (g2 := F0 m 16 ls [.int (F_X7_in x2 0 2)]) rfl ?_
    refine lv_if_ne (tgt := 22) hx hb dX7_behind_16 (by decide) (fun c2 => ?_) (fun c2 => ?_)
    · have hw := Eq.mp (if_neg c2) hw
      refine lv_aload_n hx hb dX7_behind_22 rfl (lv_at hl 0 rfl) ?_
      refine callW (va_runV (As := []) (rest := []) ⟨hx, hb, hml, hown, hW⟩ (c_X7_barOfYears l D cI cZ ad  S0 _ hw) (cwV0 hW mV_X7_barOfYears ml_X7_135 ⟨Nat.le_of_ble_eq_true rfl, Nat.le_of_ble_eq_true rfl⟩) (preV0 0 rfl rfl hK hN hP hD [0] rfl rfl) rfl rfl hl.1 rfl (lv_room (Nat.le_of_ble_eq_true rfl)) dX7_behind_23 ⟨Nat.le_refl _, Nat.le_refl _⟩) hP hD hS [0] rfl rfl (fun _ => rfl) (fun v9 u9 H locs hq hP hD hS => ?_)
      obtain ⟨v3, rfl, hw⟩ := hq
      obtain ⟨Z4, rfl⟩ : ∃ z, z = u9 := ⟨_, rfl⟩
      have hP : va_P D classes (jn [mcells cI cZ ad 0 Z4]) H := hP
      have hD : va_D (cOf (jn [mcells cI cZ ad 0 S0])) (jn [mcells cI cZ ad 0 Z4]) := hD
      refine W.eq (g2 := F0 m 26 ls [.int v3]) rfl ?_
      refine lv_if_ge (tgt := 32) hx hb dX7_behind_26 (by decide) (fun c5 => ?_) (fun c5 => ?_)
      · have hw := Eq.mp (if_pos c5) hw
        refine lv_iload_n hx hb dX7_behind_32 rfl (lv_at hl 2 rfl) ?_
        refine lv_if_ne (tgt := 45) hx hb dX7_behind_33 (by decide) (fun c6 => ?_) (fun c6 => ?_)
        · have hw := Eq.mp (if_neg c6) hw
          refine lv_iload_n hx hb dX7_behind_45 rfl (lv_at hl 2 rfl) ?_
          refine lv_iconst (v := 1) hx hb dX7_behind_46 (by decide) ?_
          refine lv_icmp_ne (tgt := 59) hx hb dX7_behind_47 (by decide) (fun c7 => ?_) (fun c7 => ?_)
          · have hw := Eq.mp (if_neg c7) hw
            refine lv_aload_n hx hb dX7_behind_59 rfl (lv_at hl 0 rfl) ?_
            refine va_get (D := D) (ci := 7) (v := .ref (ad (0 + 11))) (C := RX7) (T := TX7) (N := 27) hx hb hW inW_X7 hown hK hP 0 rfl rfl 20 (by decide) (hW _ fl_X7_47) (fun _ h9 => h9) rfl dX7_behind_60 ?_
            refine lv_iload_n hx hb dX7_behind_63 rfl (lv_at hl 1 rfl) ?_
            refine va_iald (f := (Z4.2 20)) hx hb hK hP 11 0 rfl rfl hw.1 dX7_behind_64 ?_
            have hw := hw.2
            exact W.iret (v := ((Z4.2 20) (x1 : Int32).toNatClampNeg)) hx hb hr (fun t ht _ => ⟨⟨_, (Z4), rfl, ⟨_, rfl, hw⟩, by rw [ht]; exact hP⟩, hS.F ht⟩) hS.2.2 dX7_behind_65
          · have hw := Eq.mp (if_pos c7) hw
            refine lv_aload_n hx hb dX7_behind_50 rfl (lv_at hl 0 rfl) ?_
            refine va_get (D := D) (ci := 7) (v := .ref (ad (0 + 9))) (C := RX7) (T := TX7) (N := 27) hx hb hW inW_X7 hown hK hP 0 rfl rfl 18 (by decide) (hW _ fl_X7_41) (fun _ h9 => h9) rfl dX7_behind_51 ?_
            refine lv_iload_n hx hb dX7_behind_54 rfl (lv_at hl 1 rfl) ?_
            refine va_iald (f := (Z4.2 18)) hx hb hK hP 9 0 rfl rfl hw.1 dX7_behind_55 ?_
            have hw := hw.2
            refine lv_goto (tgt := 65) hx hb dX7_behind_56 (by decide) ?_
            exact W.iret (v := ((Z4.2 18) (x1 : Int32).toNatClampNeg)) hx hb hr (fun t ht _ => ⟨⟨_, (Z4), rfl, ⟨_, rfl, hw⟩, by rw [ht]; exact hP⟩, hS.F ht⟩) hS.2.2 dX7_behind_65
        · have hw := Eq.mp (if_pos c6) hw
          refine lv_aload_n hx hb dX7_behind_36 rfl (lv_at hl 0 rfl) ?_
          refine va_get (D := D) (ci := 7) (v := .ref (ad (0 + 8))) (C := RX7) (T := TX7) (N := 27) hx hb hW inW_X7 hown hK hP 0 rfl rfl 17 (by decide) (hW _ fl_X7_38) (fun _ h9 => h9) rfl dX7_behind_37 ?_
          refine lv_iload_n hx hb dX7_behind_40 rfl (lv_at hl 1 rfl) ?_
          refine va_iald (f := (Z4.2 17)) hx hb hK hP 8 0 rfl rfl hw.1 dX7_behind_41 ?_
          have hw := hw.2
          refine lv_goto (tgt := 65) hx hb dX7_behind_42 (by decide) ?_
          exact W.iret (v := ((Z4.2 17) (x1 : Int32).toNatClampNeg)) hx hb hr (fun t ht _ => ⟨⟨_, (Z4), rfl, ⟨_, rfl, hw⟩, by rw [ht]; exact hP⟩, hS.F ht⟩) hS.2.2 dX7_behind_65
      · have hw := Eq.mp (if_neg c5) hw
        refine lv_bipush (v := (-5)) hx hb dX7_behind_29 (by decide) ?_
        exact W.iret (v := (-5)) hx hb hr (fun t ht _ => ⟨⟨_, (Z4), rfl, ⟨_, rfl, hw⟩, by rw [ht]; exact hP⟩, hS.F ht⟩) hS.2.2 dX7_behind_31
    · have hw := Eq.mp (if_pos c2) hw
      refine lv_bipush (v := (-2)) hx hb dX7_behind_19 (by decide) ?_
      exact W.iret (v := (-2)) hx hb hr (fun t ht _ => ⟨⟨_, (S0), rfl, ⟨_, rfl, hw⟩, by rw [ht]; exact hP⟩, hS.F ht⟩) hS.2.2 dX7_behind_21
  · have hw := Eq.mp (if_pos c1) hw
    refine lv_iconst (v := (-1)) hx hb dX7_behind_8 (by decide) ?_
    exact W.iret (v := (-1)) hx hb hr (fun t ht _ => ⟨⟨_, (S0), rfl, ⟨_, rfl, hw⟩, by rw [ht]; exact hP⟩, hS.F ht⟩) hS.2.2 dX7_behind_9
set_option maxHeartbeats 4000000 in
set_option maxRecDepth 100000 in
theorem c_X7_day (l : Launch) (D : va_G) (cI cZ : ClassId) (ad : Nat → Nat) (S0 : St) (k : Int32 → St → Prop) (hw : wp_X7_day S0 k) : KW l yX7_day cX7_day 1 (some .int) 5 108 D cI cZ [.ref (ad 0)] [mcells cI cZ ad 0 S0] (fun v (u : St) => ∃ r, v = some (.int r) ∧ k r u) (fun u : St => [mcells cI cZ ad 0 u]) := by
  refine Met.ofE (by decide +kernel) (Nat.le_of_ble_eq_true rfl) ?_
  intro p e s m below meth c E ls hl
  obtain ⟨hx, hb, hr, hml, hW, hown, hlocks, hP, hK, hD, hN⟩ := E
  have hl : lv_has ls 1 [(0, .ref (ad 0))] := hl
  have hS : va_S (cOf (jn [mcells cI cZ ad 0 S0])) s.heap s.heap [] := va_S.rf
  have hw : (wp_X7_barOfYears S0 (fun (v1 : Int32) (Z2 : St) => (if 0 ≤ v1 then (k (Z2.1 14) Z2) else (k (-5) Z2)))) := hw
  refine lv_aload_n hx hb dX7_day_0 rfl (lv_at hl 0 rfl) ?_
  refine callW (va_runV (As := []) (rest := []) ⟨hx, hb, hml, hown, hW⟩ (c_X7_barOfYears l D cI cZ ad  S0 _ hw) (cwV0 hW mV_X7_barOfYears ml_X7_135 ⟨Nat.le_of_ble_eq_true rfl, Nat.le_of_ble_eq_true rfl⟩) (preV0 0 rfl rfl hK hN hP hD [0] rfl rfl) rfl rfl hl.1 rfl (lv_room (Nat.le_of_ble_eq_true rfl)) dX7_day_1 ⟨Nat.le_refl _, Nat.le_refl _⟩) hP hD hS [0] rfl rfl (fun _ => rfl) (fun v9 u9 H locs hq hP hD hS => ?_)
  obtain ⟨v1, rfl, hw⟩ := hq
  obtain ⟨Z2, rfl⟩ : ∃ z, z = u9 := ⟨_, rfl⟩
  have hP : va_P D classes (jn [mcells cI cZ ad 0 Z2]) H := hP
  have hD : va_D (cOf (jn [mcells cI cZ ad 0 S0])) (jn [mcells cI cZ ad 0 Z2]) := hD
  refine W.eq (g2 := F0 m 4 ls [.int v1]) rfl ?_
  refine lv_if_ge (tgt := 12) hx hb dX7_day_4 (by decide) (fun c3 => ?_) (fun c3 => ?_)
  · have hw := Eq.mp (if_pos c3) hw
    refine lv_aload_n hx hb dX7_day_12 rfl (lv_at hl 0 rfl) ?_
    refine va_get (D := D) (ci := 7) (v := .int (Z2.1 14)) (C := RX7) (T := TX7) (N := 27) hx hb hW inW_X7 hown hK hP 0 rfl rfl 14 (by decide) (hW _ fl_X7_96) (fun _ h9 => h9) rfl dX7_day_13 ?_
    exact W.iret (v := (Z2.1 14)) hx hb hr (fun t ht _ => ⟨⟨_, (Z2), rfl, ⟨_, rfl, hw⟩, by rw [ht]; exact hP⟩, hS.F ht⟩) hS.2.2 dX7_day_16
  · have hw := Eq.mp (if_neg c3) hw
    refine lv_bipush (v := (-5)) hx hb dX7_day_7 (by decide) ?_
    refine lv_goto (tgt := 16) hx hb dX7_day_9 (by decide) ?_
    exact W.iret (v := (-5)) hx hb hr (fun t ht _ => ⟨⟨_, (Z2), rfl, ⟨_, rfl, hw⟩, by rw [ht]; exact hP⟩, hS.F ht⟩) hS.2.2 dX7_day_16
set_option maxHeartbeats 4000000 in
set_option maxRecDepth 100000 in
theorem c_X7_whereBehind (l : Launch) (D : va_G) (cI cZ : ClassId) (ad : Nat → Nat) (S0 : St) (x1 : Int32) (x2 : Int32) (k : Int32 → Prop) (hw : wp_X7_whereBehind S0 x1 x2 k) : KR l yX7_whereBehind cX7_whereBehind 5 (some .int) 0 0 D cI cZ [.ref (ad 0), .int x1, .int x2] [mcells cI cZ ad 0 S0] (fun v => ∃ r, v = some (.int r) ∧ k r) := by
  refine Met.ofE (by decide +kernel) (Nat.le_of_ble_eq_true rfl) ?_
  intro p e s m below meth c E ls hl
  obtain ⟨hx, hb, hr, hml, hW, hown, hlocks, hP, hK, hD, hN⟩ := E
  have hl : lv_has ls 5 [(0, .ref (ad 0)), (1, .int x1), (2, .int x2)] := hl
  have hw : (vp_in x1 6 ∧ (if 0 ≤ ((S0.2 5) (x1 : Int32).toNatClampNeg) then (vp_in x1 6 ∧ (if ((S0.2 7) (x1 : Int32).toNatClampNeg) = 2 then (vp_in x1 6 ∧ (¬ (S0.1 0) = 0 ∧ (¬ ((S0.1 0) - 1) = 0 ∧ (¬ (S0.1 0) = 0 ∧ (k (((x1 + 1) + ((((((((S0.2 5) (x1 : Int32).toNatClampNeg) - x1) + (S0.1 0)) - ((((S0.2 5) (x1 : Int32).toNatClampNeg) - x1) + (S0.1 0)) / (S0.1 0) * (S0.1 0)) - 1) + 0) - (((((((S0.2 5) (x1 : Int32).toNatClampNeg) - x1) + (S0.1 0)) - ((((S0.2 5) (x1 : Int32).toNatClampNeg) - x1) + (S0.1 0)) / (S0.1 0) * (S0.1 0)) - 1) + 0) / ((S0.1 0) - 1) * ((S0.1 0) - 1))) - ((x1 + 1) + ((((((((S0.2 5) (x1 : Int32).toNatClampNeg) - x1) + (S0.1 0)) - ((((S0.2 5) (x1 : Int32).toNatClampNeg) - x1) + (S0.1 0)) / (S0.1 0) * (S0.1 0)) - 1) + 0) - (((((((S0.2 5) (x1 : Int32).toNatClampNeg) - x1) + (S0.1 0)) - ((((S0.2 5) (x1 : Int32).toNatClampNeg) - x1) + (S0.1 0)) / (S0.1 0) * (S0.1 0)) - 1) + 0) / ((S0.1 0) - 1) * ((S0.1 0) - 1))) / (S0.1 0) * (S0.1 0))))))) else (vp_in x1 6 ∧ (if ((S0.2 7) (x1 : Int32).toNatClampNeg) = 1 then (if x2 ≤ 0 then (vp_in x1 6 ∧ (¬ (S0.1 0) = 0 ∧ (¬ ((S0.1 0) - 1) = 0 ∧ (¬ (S0.1 0) = 0 ∧ (k (((x1 + 1) + ((((((((S0.2 5) (x1 : Int32).toNatClampNeg) - x1) + (S0.1 0)) - ((((S0.2 5) (x1 : Int32).toNatClampNeg) - x1) + (S0.1 0)) / (S0.1 0) * (S0.1 0)) - 1) + x2) - (((((((S0.2 5) (x1 : Int32).toNatClampNeg) - x1) + (S0.1 0)) - ((((S0.2 5) (x1 : Int32).toNatClampNeg) - x1) + (S0.1 0)) / (S0.1 0) * (S0.1 0)) - 1) + x2) / ((S0.1 0) - 1) * ((S0.1 0) - 1))) - ((x1 + 1) + ((((((((S0.2 5) (x1 : Int32).toNatClampNeg) - x1) + (S0.1 0)) - ((((S0.2 5) (x1 : Int32).toNatClampNeg) - x1) + (S0.1 0)) / (S0.1 0) * (S0.1 0)) - 1) + x2) - (((((((S0.2 5) (x1 : Int32).toNatClampNeg) - x1) + (S0.1 0)) - ((((S0.2 5) (x1 : Int32).toNatClampNeg) - x1) + (S0.1 0)) / (S0.1 0) * (S0.1 0)) - 1) + x2) / ((S0.1 0) - 1) * ((S0.1 0) - 1))) / (S0.1 0) * (S0.1 0))))))) else (vp_in x1 6 ∧ (¬ (S0.1 0) = 0 ∧ (¬ ((S0.1 0) - 1) = 0 ∧ (¬ (S0.1 0) = 0 ∧ (k (((x1 + 1) + ((((((((S0.2 5) (x1 : Int32).toNatClampNeg) - x1) + (S0.1 0)) - ((((S0.2 5) (x1 : Int32).toNatClampNeg) - x1) + (S0.1 0)) / (S0.1 0) * (S0.1 0)) - 1) + (x2 - 1)) - (((((((S0.2 5) (x1 : Int32).toNatClampNeg) - x1) + (S0.1 0)) - ((((S0.2 5) (x1 : Int32).toNatClampNeg) - x1) + (S0.1 0)) / (S0.1 0) * (S0.1 0)) - 1) + (x2 - 1)) / ((S0.1 0) - 1) * ((S0.1 0) - 1))) - ((x1 + 1) + ((((((((S0.2 5) (x1 : Int32).toNatClampNeg) - x1) + (S0.1 0)) - ((((S0.2 5) (x1 : Int32).toNatClampNeg) - x1) + (S0.1 0)) / (S0.1 0) * (S0.1 0)) - 1) + (x2 - 1)) - (((((((S0.2 5) (x1 : Int32).toNatClampNeg) - x1) + (S0.1 0)) - ((((S0.2 5) (x1 : Int32).toNatClampNeg) - x1) + (S0.1 0)) / (S0.1 0) * (S0.1 0)) - 1) + (x2 - 1)) / ((S0.1 0) - 1) * ((S0.1 0) - 1))) / (S0.1 0) * (S0.1 0)))))))) else (vp_in x1 6 ∧ (¬ (S0.1 0) = 0 ∧ (¬ ((S0.1 0) - 1) = 0 ∧ (¬ (S0.1 0) = 0 ∧ (k (((x1 + 1) + ((((((((S0.2 5) (x1 : Int32).toNatClampNeg) - x1) + (S0.1 0)) - ((((S0.2 5) (x1 : Int32).toNatClampNeg) - x1) + (S0.1 0)) / (S0.1 0) * (S0.1 0)) - 1) + x2) - (((((((S0.2 5) (x1 : Int32).toNatClampNeg) - x1) + (S0.1 0)) - ((((S0.2 5) (x1 : Int32).toNatClampNeg) - x1) + (S0.1 0)) / (S0.1 0) * (S0.1 0)) - 1) + x2) / ((S0.1 0) - 1) * ((S0.1 0) - 1))) - ((x1 + 1) + ((((((((S0.2 5) (x1 : Int32).toNatClampNeg) - x1) + (S0.1 0)) - ((((S0.2 5) (x1 : Int32).toNatClampNeg) - x1) + (S0.1 0)) / (S0.1 0) * (S0.1 0)) - 1) + x2) - (((((((S0.2 5) (x1 : Int32).toNatClampNeg) - x1) + (S0.1 0)) - ((((S0.2 5) (x1 : Int32).toNatClampNeg) - x1) + (S0.1 0)) / (S0.1 0) * (S0.1 0)) - 1) + x2) / ((S0.1 0) - 1) * ((S0.1 0) - 1))) / (S0.1 0) * (S0.1 0))))))))))) else (k (-6)))) := hw
  refine lv_aload_n hx hb dX7_whereBehind_0 rfl (lv_at hl 0 rfl) ?_
  refine va_get (D := D) (ci := 7) (v := .ref (ad (0 + 1))) (C := RX7) (T := TX7) (N := 27) hx hb hW inW_X7 hown hK hP 0 rfl rfl 5 (by decide) (hW _ fl_X7_16) (fun _ h9 => h9) rfl dX7_whereBehind_1 ?_
  refine lv_iload_n hx hb dX7_whereBehind_4 rfl (lv_at hl 1 rfl) ?_
  refine va_iald (f := (S0.2 5)) hx hb hK hP 1 0 rfl rfl hw.1 dX7_whereBehind_5 ?_
  have hw := hw.2
  refine lv_if_ge (tgt := 12) hx hb dX7_whereBehind_6 (by decide) (fun c1 => ?_) (fun c1 => ?_)
  · have hw := Eq.mp (if_pos c1) hw
    refine lv_aload_n hx hb dX7_whereBehind_12 rfl (lv_at hl 0 rfl) ?_
    refine va_get (D := D) (ci := 7) (v := .ref (ad (0 + 3))) (C := RX7) (T := TX7) (N := 27) hx hb hW inW_X7 hown hK hP 0 rfl rfl 7 (by decide) (hW _ fl_X7_23) (fun _ h9 => h9) rfl dX7_whereBehind_13 ?_
    refine lv_iload_n hx hb dX7_whereBehind_16 rfl (lv_at hl 1 rfl) ?_
    refine va_iald (f := (S0.2 7)) hx hb hK hP 3 0 rfl rfl hw.1 dX7_whereBehind_17 ?_
    have hw := hw.2
    refine lv_iconst (v := 2) hx hb dX7_whereBehind_18 (by decide) ?_
    refine lv_icmp_ne (tgt := 26) hx hb dX7_whereBehind_19 (by decide) (fun c2 => ?_) (fun c2 => ?_)
    · have hw := Eq.mp (if_neg c2) hw
      refine lv_aload_n hx hb dX7_whereBehind_26 rfl (lv_at hl 0 rfl) ?_
      refine va_get (D := D) (ci := 7) (v := .ref (ad (0 + 3))) (C := RX7) (T := TX7) (N := 27) hx hb hW inW_X7 hown hK hP 0 rfl rfl 7 (by decide) (hW _ fl_X7_23) (fun _ h9 => h9) rfl dX7_whereBehind_27 ?_
      refine lv_iload_n hx hb dX7_whereBehind_30 rfl (lv_at hl 1 rfl) ?_
      refine va_iald (f := (S0.2 7)) hx hb hK hP 3 0 rfl rfl hw.1 dX7_whereBehind_31 ?_
      have hw := hw.2
      refine lv_iconst (v := 1) hx hb dX7_whereBehind_32 (by decide) ?_
      refine lv_icmp_ne (tgt := 46) hx hb dX7_whereBehind_33 (by decide) (fun c3 => ?_) (fun c3 => ?_)
      · have hw := Eq.mp (if_neg c3) hw
        refine lv_iload_n hx hb dX7_whereBehind_46 rfl (lv_at hl 2 rfl) ?_
        refine lv_istore_n (lv' := [(3, .int x2), (0, .ref (ad 0)), (1, .int x1), (2, .int x2)]) hx hb dX7_whereBehind_47 rfl hl (by decide) rfl (fun ls hl => ?_)
        refine lv_aload_n hx hb dX7_whereBehind_48 rfl (lv_at hl 1 rfl) ?_
        refine va_get (D := D) (ci := 7) (v := .ref (ad (0 + 1))) (C := RX7) (T := TX7) (N := 27) hx hb hW inW_X7 hown hK hP 0 rfl rfl 5 (by decide) (hW _ fl_X7_16) (fun _ h9 => h9) rfl dX7_whereBehind_49 ?_
        refine lv_iload_n hx hb dX7_whereBehind_52 rfl (lv_at hl 2 rfl) ?_
        refine va_iald (f := (S0.2 5)) hx hb hK hP 1 0 rfl rfl hw.1 dX7_whereBehind_53 ?_
        have hw := hw.2
        refine lv_iload_n hx hb dX7_whereBehind_54 rfl (lv_at hl 2 rfl) ?_
        refine lv_isub hx hb dX7_whereBehind_55 ?_
        refine lv_aload_n hx hb dX7_whereBehind_56 rfl (lv_at hl 1 rfl) ?_
        refine va_get (D := D) (ci := 7) (v := .int (S0.1 0)) (C := RX7) (T := TX7) (N := 27) hx hb hW inW_X7 hown hK hP 0 rfl rfl 0 (by decide) (hW _ fl_X7_7) (fun _ h9 => h9) rfl dX7_whereBehind_57 ?_
        refine lv_iadd hx hb dX7_whereBehind_60 ?_
        refine lv_aload_n hx hb dX7_whereBehind_61 rfl (lv_at hl 1 rfl) ?_
        refine va_get (D := D) (ci := 7) (v := .int (S0.1 0)) (C := RX7) (T := TX7) (N := 27) hx hb hW inW_X7 hown hK hP 0 rfl rfl 0 (by decide) (hW _ fl_X7_7) (fun _ h9 => h9) rfl dX7_whereBehind_62 ?_
        refine lv_irem hx hb dX7_whereBehind_65 hw.1 ?_
        have hw := hw.2
        refine lv_istore (lv' := [(4, .int (((((S0.2 5) (x1 : Int32).toNatClampNeg) - x1) + (S0.1 0)) - ((((S0.2 5) (x1 : Int32).toNatClampNeg) - x1) + (S0.1 0)) / (S0.1 0) * (S0.1 0))), (3, .int x2), (0, .ref (ad 0)), (1, .int x1), (2, .int x2)]) hx hb dX7_whereBehind_66 hl (by decide) rfl (fun ls hl => ?_)
        refine lv_iload_n hx hb dX7_whereBehind_68 rfl (lv_at hl 3 rfl) ?_
        refine lv_iconst (v := 1) hx hb dX7_whereBehind_69 (by decide) ?_
        refine lv_iadd hx hb dX7_whereBehind_70 ?_
        refine lv_iload hx hb dX7_whereBehind_71 (lv_at hl 0 rfl) ?_
        refine lv_iconst (v := 1) hx hb dX7_whereBehind_73 (by decide) ?_
        refine lv_isub hx hb dX7_whereBehind_74 ?_
        refine lv_iload_n hx hb dX7_whereBehind_75 rfl (lv_at hl 1 rfl) ?_
        refine lv_iadd hx hb dX7_whereBehind_76 ?_
        refine lv_aload_n hx hb dX7_whereBehind_77 rfl (lv_at hl 2 rfl) ?_
        refine va_get (D := D) (ci := 7) (v := .int (S0.1 0)) (C := RX7) (T := TX7) (N := 27) hx hb hW inW_X7 hown hK hP 0 rfl rfl 0 (by decide) (hW _ fl_X7_7) (fun _ h9 => h9) rfl dX7_whereBehind_78 ?_
        refine lv_iconst (v := 1) hx hb dX7_whereBehind_81 (by decide) ?_
        refine lv_isub hx hb dX7_whereBehind_82 ?_
        refine lv_irem hx hb dX7_whereBehind_83 hw.1 ?_
        have hw := hw.2
        refine lv_iadd hx hb dX7_whereBehind_84 ?_
        refine lv_aload_n hx hb dX7_whereBehind_85 rfl (lv_at hl 2 rfl) ?_
        refine va_get (D := D) (ci := 7) (v := .int (S0.1 0)) (C := RX7) (T := TX7) (N := 27) hx hb hW inW_X7 hown hK hP 0 rfl rfl 0 (by decide) (hW _ fl_X7_7) (fun _ h9 => h9) rfl dX7_whereBehind_86 ?_
        refine lv_irem hx hb dX7_whereBehind_89 hw.1 ?_
        have hw := hw.2
        exact W.iret (v := (((x1 + 1) + ((((((((S0.2 5) (x1 : Int32).toNatClampNeg) - x1) + (S0.1 0)) - ((((S0.2 5) (x1 : Int32).toNatClampNeg) - x1) + (S0.1 0)) / (S0.1 0) * (S0.1 0)) - 1) + x2) - (((((((S0.2 5) (x1 : Int32).toNatClampNeg) - x1) + (S0.1 0)) - ((((S0.2 5) (x1 : Int32).toNatClampNeg) - x1) + (S0.1 0)) / (S0.1 0) * (S0.1 0)) - 1) + x2) / ((S0.1 0) - 1) * ((S0.1 0) - 1))) - ((x1 + 1) + ((((((((S0.2 5) (x1 : Int32).toNatClampNeg) - x1) + (S0.1 0)) - ((((S0.2 5) (x1 : Int32).toNatClampNeg) - x1) + (S0.1 0)) / (S0.1 0) * (S0.1 0)) - 1) + x2) - (((((((S0.2 5) (x1 : Int32).toNatClampNeg) - x1) + (S0.1 0)) - ((((S0.2 5) (x1 : Int32).toNatClampNeg) - x1) + (S0.1 0)) / (S0.1 0) * (S0.1 0)) - 1) + x2) / ((S0.1 0) - 1) * ((S0.1 0) - 1))) / (S0.1 0) * (S0.1 0))) hx hb hr (fun t ht _ => ⟨⟨_, rfl, ⟨_, rfl, hw⟩⟩, ht⟩) (fun _ h => by cases h) dX7_whereBehind_90
      · have hw := Eq.mp (if_pos c3) hw
        refine lv_iload_n hx hb dX7_whereBehind_36 rfl (lv_at hl 2 rfl) ?_
        refine lv_if_le (tgt := 46) hx hb dX7_whereBehind_37 (by decide) (fun c4 => ?_) (fun c4 => ?_)
        · have hw := Eq.mp (if_pos c4) hw
          refine lv_iload_n hx hb dX7_whereBehind_46 rfl (lv_at hl 2 rfl) ?_
          refine lv_istore_n (lv' := [(3, .int x2), (0, .ref (ad 0)), (1, .int x1), (2, .int x2)]) hx hb dX7_whereBehind_47 rfl hl (by decide) rfl (fun ls hl => ?_)
          refine lv_aload_n hx hb dX7_whereBehind_48 rfl (lv_at hl 1 rfl) ?_
          refine va_get (D := D) (ci := 7) (v := .ref (ad (0 + 1))) (C := RX7) (T := TX7) (N := 27) hx hb hW inW_X7 hown hK hP 0 rfl rfl 5 (by decide) (hW _ fl_X7_16) (fun _ h9 => h9) rfl dX7_whereBehind_49 ?_
          refine lv_iload_n hx hb dX7_whereBehind_52 rfl (lv_at hl 2 rfl) ?_
          refine va_iald (f := (S0.2 5)) hx hb hK hP 1 0 rfl rfl hw.1 dX7_whereBehind_53 ?_
          have hw := hw.2
          refine lv_iload_n hx hb dX7_whereBehind_54 rfl (lv_at hl 2 rfl) ?_
          refine lv_isub hx hb dX7_whereBehind_55 ?_
          refine lv_aload_n hx hb dX7_whereBehind_56 rfl (lv_at hl 1 rfl) ?_
          refine va_get (D := D) (ci := 7) (v := .int (S0.1 0)) (C := RX7) (T := TX7) (N := 27) hx hb hW inW_X7 hown hK hP 0 rfl rfl 0 (by decide) (hW _ fl_X7_7) (fun _ h9 => h9) rfl dX7_whereBehind_57 ?_
          refine lv_iadd hx hb dX7_whereBehind_60 ?_
          refine lv_aload_n hx hb dX7_whereBehind_61 rfl (lv_at hl 1 rfl) ?_
          refine va_get (D := D) (ci := 7) (v := .int (S0.1 0)) (C := RX7) (T := TX7) (N := 27) hx hb hW inW_X7 hown hK hP 0 rfl rfl 0 (by decide) (hW _ fl_X7_7) (fun _ h9 => h9) rfl dX7_whereBehind_62 ?_
          refine lv_irem hx hb dX7_whereBehind_65 hw.1 ?_
          have hw := hw.2
          refine lv_istore (lv' := [(4, .int (((((S0.2 5) (x1 : Int32).toNatClampNeg) - x1) + (S0.1 0)) - ((((S0.2 5) (x1 : Int32).toNatClampNeg) - x1) + (S0.1 0)) / (S0.1 0) * (S0.1 0))), (3, .int x2), (0, .ref (ad 0)), (1, .int x1), (2, .int x2)]) hx hb dX7_whereBehind_66 hl (by decide) rfl (fun ls hl => ?_)
          refine lv_iload_n hx hb dX7_whereBehind_68 rfl (lv_at hl 3 rfl) ?_
          refine lv_iconst (v := 1) hx hb dX7_whereBehind_69 (by decide) ?_
          refine lv_iadd hx hb dX7_whereBehind_70 ?_
          refine lv_iload hx hb dX7_whereBehind_71 (lv_at hl 0 rfl) ?_
          refine lv_iconst (v := 1) hx hb dX7_whereBehind_73 (by decide) ?_
          refine lv_isub hx hb dX7_whereBehind_74 ?_
          refine lv_iload_n hx hb dX7_whereBehind_75 rfl (lv_at hl 1 rfl) ?_
          refine lv_iadd hx hb dX7_whereBehind_76 ?_
          refine lv_aload_n hx hb dX7_whereBehind_77 rfl (lv_at hl 2 rfl) ?_
          refine va_get (D := D) (ci := 7) (v := .int (S0.1 0)) (C := RX7) (T := TX7) (N := 27) hx hb hW inW_X7 hown hK hP 0 rfl rfl 0 (by decide) (hW _ fl_X7_7) (fun _ h9 => h9) rfl dX7_whereBehind_78 ?_
          refine lv_iconst (v := 1) hx hb dX7_whereBehind_81 (by decide) ?_
          refine lv_isub hx hb dX7_whereBehind_82 ?_
          refine lv_irem hx hb dX7_whereBehind_83 hw.1 ?_
          have hw := hw.2
          refine lv_iadd hx hb dX7_whereBehind_84 ?_
          refine lv_aload_n hx hb dX7_whereBehind_85 rfl (lv_at hl 2 rfl) ?_
          refine va_get (D := D) (ci := 7) (v := .int (S0.1 0)) (C := RX7) (T := TX7) (N := 27) hx hb hW inW_X7 hown hK hP 0 rfl rfl 0 (by decide) (hW _ fl_X7_7) (fun _ h9 => h9) rfl dX7_whereBehind_86 ?_
          refine lv_irem hx hb dX7_whereBehind_89 hw.1 ?_
          have hw := hw.2
          exact W.iret (v := (((x1 + 1) + ((((((((S0.2 5) (x1 : Int32).toNatClampNeg) - x1) + (S0.1 0)) - ((((S0.2 5) (x1 : Int32).toNatClampNeg) - x1) + (S0.1 0)) / (S0.1 0) * (S0.1 0)) - 1) + x2) - (((((((S0.2 5) (x1 : Int32).toNatClampNeg) - x1) + (S0.1 0)) - ((((S0.2 5) (x1 : Int32).toNatClampNeg) - x1) + (S0.1 0)) / (S0.1 0) * (S0.1 0)) - 1) + x2) / ((S0.1 0) - 1) * ((S0.1 0) - 1))) - ((x1 + 1) + ((((((((S0.2 5) (x1 : Int32).toNatClampNeg) - x1) + (S0.1 0)) - ((((S0.2 5) (x1 : Int32).toNatClampNeg) - x1) + (S0.1 0)) / (S0.1 0) * (S0.1 0)) - 1) + x2) - (((((((S0.2 5) (x1 : Int32).toNatClampNeg) - x1) + (S0.1 0)) - ((((S0.2 5) (x1 : Int32).toNatClampNeg) - x1) + (S0.1 0)) / (S0.1 0) * (S0.1 0)) - 1) + x2) / ((S0.1 0) - 1) * ((S0.1 0) - 1))) / (S0.1 0) * (S0.1 0))) hx hb hr (fun t ht _ => ⟨⟨_, rfl, ⟨_, rfl, hw⟩⟩, ht⟩) (fun _ h => by cases h) dX7_whereBehind_90
        · have hw := Eq.mp (if_neg c4) hw
          refine lv_iload_n hx hb dX7_whereBehind_40 rfl (lv_at hl 2 rfl) ?_
          refine lv_iconst (v := 1) hx hb dX7_whereBehind_41 (by decide) ?_
          refine lv_isub hx hb dX7_whereBehind_42 ?_
          refine lv_goto (tgt := 47) hx hb dX7_whereBehind_43 (by decide) ?_
          refine lv_istore_n (lv' := [(3, .int (x2 - 1)), (0, .ref (ad 0)), (1, .int x1), (2, .int x2)]) hx hb dX7_whereBehind_47 rfl hl (by decide) rfl (fun ls hl => ?_)
          refine lv_aload_n hx hb dX7_whereBehind_48 rfl (lv_at hl 1 rfl) ?_
          refine va_get (D := D) (ci := 7) (v := .ref (ad (0 + 1))) (C := RX7) (T := TX7) (N := 27) hx hb hW inW_X7 hown hK hP 0 rfl rfl 5 (by decide) (hW _ fl_X7_16) (fun _ h9 => h9) rfl dX7_whereBehind_49 ?_
          refine lv_iload_n hx hb dX7_whereBehind_52 rfl (lv_at hl 2 rfl) ?_
          refine va_iald (f := (S0.2 5)) hx hb hK hP 1 0 rfl rfl hw.1 dX7_whereBehind_53 ?_
          have hw := hw.2
          refine lv_iload_n hx hb dX7_whereBehind_54 rfl (lv_at hl 2 rfl) ?_
          refine lv_isub hx hb dX7_whereBehind_55 ?_
          refine lv_aload_n hx hb dX7_whereBehind_56 rfl (lv_at hl 1 rfl) ?_
          refine va_get (D := D) (ci := 7) (v := .int (S0.1 0)) (C := RX7) (T := TX7) (N := 27) hx hb hW inW_X7 hown hK hP 0 rfl rfl 0 (by decide) (hW _ fl_X7_7) (fun _ h9 => h9) rfl dX7_whereBehind_57 ?_
          refine lv_iadd hx hb dX7_whereBehind_60 ?_
          refine lv_aload_n hx hb dX7_whereBehind_61 rfl (lv_at hl 1 rfl) ?_
          refine va_get (D := D) (ci := 7) (v := .int (S0.1 0)) (C := RX7) (T := TX7) (N := 27) hx hb hW inW_X7 hown hK hP 0 rfl rfl 0 (by decide) (hW _ fl_X7_7) (fun _ h9 => h9) rfl dX7_whereBehind_62 ?_
          refine lv_irem hx hb dX7_whereBehind_65 hw.1 ?_
          have hw := hw.2
          refine lv_istore (lv' := [(4, .int (((((S0.2 5) (x1 : Int32).toNatClampNeg) - x1) + (S0.1 0)) - ((((S0.2 5) (x1 : Int32).toNatClampNeg) - x1) + (S0.1 0)) / (S0.1 0) * (S0.1 0))), (3, .int (x2 - 1)), (0, .ref (ad 0)), (1, .int x1), (2, .int x2)]) hx hb dX7_whereBehind_66 hl (by decide) rfl (fun ls hl => ?_)
          refine lv_iload_n hx hb dX7_whereBehind_68 rfl (lv_at hl 3 rfl) ?_
          refine lv_iconst (v := 1) hx hb dX7_whereBehind_69 (by decide) ?_
          refine lv_iadd hx hb dX7_whereBehind_70 ?_
          refine lv_iload hx hb dX7_whereBehind_71 (lv_at hl 0 rfl) ?_
          refine lv_iconst (v := 1) hx hb dX7_whereBehind_73 (by decide) ?_
          refine lv_isub hx hb dX7_whereBehind_74 ?_
          refine lv_iload_n hx hb dX7_whereBehind_75 rfl (lv_at hl 1 rfl) ?_
          refine lv_iadd hx hb dX7_whereBehind_76 ?_
          refine lv_aload_n hx hb dX7_whereBehind_77 rfl (lv_at hl 2 rfl) ?_
          refine va_get (D := D) (ci := 7) (v := .int (S0.1 0)) (C := RX7) (T := TX7) (N := 27) hx hb hW inW_X7 hown hK hP 0 rfl rfl 0 (by decide) (hW _ fl_X7_7) (fun _ h9 => h9) rfl dX7_whereBehind_78 ?_
          refine lv_iconst (v := 1) hx hb dX7_whereBehind_81 (by decide) ?_
          refine lv_isub hx hb dX7_whereBehind_82 ?_
          refine lv_irem hx hb dX7_whereBehind_83 hw.1 ?_
          have hw := hw.2
          refine lv_iadd hx hb dX7_whereBehind_84 ?_
          refine lv_aload_n hx hb dX7_whereBehind_85 rfl (lv_at hl 2 rfl) ?_
          refine va_get (D := D) (ci := 7) (v := .int (S0.1 0)) (C := RX7) (T := TX7) (N := 27) hx hb hW inW_X7 hown hK hP 0 rfl rfl 0 (by decide) (hW _ fl_X7_7) (fun _ h9 => h9) rfl dX7_whereBehind_86 ?_
          refine lv_irem hx hb dX7_whereBehind_89 hw.1 ?_
          have hw := hw.2
          exact W.iret (v := (((x1 + 1) + ((((((((S0.2 5) (x1 : Int32).toNatClampNeg) - x1) + (S0.1 0)) - ((((S0.2 5) (x1 : Int32).toNatClampNeg) - x1) + (S0.1 0)) / (S0.1 0) * (S0.1 0)) - 1) + (x2 - 1)) - (((((((S0.2 5) (x1 : Int32).toNatClampNeg) - x1) + (S0.1 0)) - ((((S0.2 5) (x1 : Int32).toNatClampNeg) - x1) + (S0.1 0)) / (S0.1 0) * (S0.1 0)) - 1) + (x2 - 1)) / ((S0.1 0) - 1) * ((S0.1 0) - 1))) - ((x1 + 1) + ((((((((S0.2 5) (x1 : Int32).toNatClampNeg) - x1) + (S0.1 0)) - ((((S0.2 5) (x1 : Int32).toNatClampNeg) - x1) + (S0.1 0)) / (S0.1 0) * (S0.1 0)) - 1) + (x2 - 1)) - (((((((S0.2 5) (x1 : Int32).toNatClampNeg) - x1) + (S0.1 0)) - ((((S0.2 5) (x1 : Int32).toNatClampNeg) - x1) + (S0.1 0)) / (S0.1 0) * (S0.1 0)) - 1) + (x2 - 1)) / ((S0.1 0) - 1) * ((S0.1 0) - 1))) / (S0.1 0) * (S0.1 0))) hx hb hr (fun t ht _ => ⟨⟨_, rfl, ⟨_, rfl, hw⟩⟩, ht⟩) (fun _ h => by cases h) dX7_whereBehind_90
    · have hw := Eq.mp (if_pos c2) hw
      refine lv_iconst (v := 0) hx hb dX7_whereBehind_22 (by decide) ?_
      refine lv_goto (tgt := 47) hx hb dX7_whereBehind_23 (by decide) ?_
      refine lv_istore_n (lv' := [(3, .int 0), (0, .ref (ad 0)), (1, .int x1), (2, .int x2)]) hx hb dX7_whereBehind_47 rfl hl (by decide) rfl (fun ls hl => ?_)
      refine lv_aload_n hx hb dX7_whereBehind_48 rfl (lv_at hl 1 rfl) ?_
      refine va_get (D := D) (ci := 7) (v := .ref (ad (0 + 1))) (C := RX7) (T := TX7) (N := 27) hx hb hW inW_X7 hown hK hP 0 rfl rfl 5 (by decide) (hW _ fl_X7_16) (fun _ h9 => h9) rfl dX7_whereBehind_49 ?_
      refine lv_iload_n hx hb dX7_whereBehind_52 rfl (lv_at hl 2 rfl) ?_
      refine va_iald (f := (S0.2 5)) hx hb hK hP 1 0 rfl rfl hw.1 dX7_whereBehind_53 ?_
      have hw := hw.2
      refine lv_iload_n hx hb dX7_whereBehind_54 rfl (lv_at hl 2 rfl) ?_
      refine lv_isub hx hb dX7_whereBehind_55 ?_
      refine lv_aload_n hx hb dX7_whereBehind_56 rfl (lv_at hl 1 rfl) ?_
      refine va_get (D := D) (ci := 7) (v := .int (S0.1 0)) (C := RX7) (T := TX7) (N := 27) hx hb hW inW_X7 hown hK hP 0 rfl rfl 0 (by decide) (hW _ fl_X7_7) (fun _ h9 => h9) rfl dX7_whereBehind_57 ?_
      refine lv_iadd hx hb dX7_whereBehind_60 ?_
      refine lv_aload_n hx hb dX7_whereBehind_61 rfl (lv_at hl 1 rfl) ?_
      refine va_get (D := D) (ci := 7) (v := .int (S0.1 0)) (C := RX7) (T := TX7) (N := 27) hx hb hW inW_X7 hown hK hP 0 rfl rfl 0 (by decide) (hW _ fl_X7_7) (fun _ h9 => h9) rfl dX7_whereBehind_62 ?_
      refine lv_irem hx hb dX7_whereBehind_65 hw.1 ?_
      have hw := hw.2
      refine lv_istore (lv' := [(4, .int (((((S0.2 5) (x1 : Int32).toNatClampNeg) - x1) + (S0.1 0)) - ((((S0.2 5) (x1 : Int32).toNatClampNeg) - x1) + (S0.1 0)) / (S0.1 0) * (S0.1 0))), (3, .int 0), (0, .ref (ad 0)), (1, .int x1), (2, .int x2)]) hx hb dX7_whereBehind_66 hl (by decide) rfl (fun ls hl => ?_)
      refine lv_iload_n hx hb dX7_whereBehind_68 rfl (lv_at hl 3 rfl) ?_
      refine lv_iconst (v := 1) hx hb dX7_whereBehind_69 (by decide) ?_
      refine lv_iadd hx hb dX7_whereBehind_70 ?_
      refine lv_iload hx hb dX7_whereBehind_71 (lv_at hl 0 rfl) ?_
      refine lv_iconst (v := 1) hx hb dX7_whereBehind_73 (by decide) ?_
      refine lv_isub hx hb dX7_whereBehind_74 ?_
      refine lv_iload_n hx hb dX7_whereBehind_75 rfl (lv_at hl 1 rfl) ?_
      refine lv_iadd hx hb dX7_whereBehind_76 ?_
      refine lv_aload_n hx hb dX7_whereBehind_77 rfl (lv_at hl 2 rfl) ?_
      refine va_get (D := D) (ci := 7) (v := .int (S0.1 0)) (C := RX7) (T := TX7) (N := 27) hx hb hW inW_X7 hown hK hP 0 rfl rfl 0 (by decide) (hW _ fl_X7_7) (fun _ h9 => h9) rfl dX7_whereBehind_78 ?_
      refine lv_iconst (v := 1) hx hb dX7_whereBehind_81 (by decide) ?_
      refine lv_isub hx hb dX7_whereBehind_82 ?_
      refine lv_irem hx hb dX7_whereBehind_83 hw.1 ?_
      have hw := hw.2
      refine lv_iadd hx hb dX7_whereBehind_84 ?_
      refine lv_aload_n hx hb dX7_whereBehind_85 rfl (lv_at hl 2 rfl) ?_
      refine va_get (D := D) (ci := 7) (v := .int (S0.1 0)) (C := RX7) (T := TX7) (N := 27) hx hb hW inW_X7 hown hK hP 0 rfl rfl 0 (by decide) (hW _ fl_X7_7) (fun _ h9 => h9) rfl dX7_whereBehind_86 ?_
      refine lv_irem hx hb dX7_whereBehind_89 hw.1 ?_
      have hw := hw.2
      exact W.iret (v := (((x1 + 1) + ((((((((S0.2 5) (x1 : Int32).toNatClampNeg) - x1) + (S0.1 0)) - ((((S0.2 5) (x1 : Int32).toNatClampNeg) - x1) + (S0.1 0)) / (S0.1 0) * (S0.1 0)) - 1) + 0) - (((((((S0.2 5) (x1 : Int32).toNatClampNeg) - x1) + (S0.1 0)) - ((((S0.2 5) (x1 : Int32).toNatClampNeg) - x1) + (S0.1 0)) / (S0.1 0) * (S0.1 0)) - 1) + 0) / ((S0.1 0) - 1) * ((S0.1 0) - 1))) - ((x1 + 1) + ((((((((S0.2 5) (x1 : Int32).toNatClampNeg) - x1) + (S0.1 0)) - ((((S0.2 5) (x1 : Int32).toNatClampNeg) - x1) + (S0.1 0)) / (S0.1 0) * (S0.1 0)) - 1) + 0) - (((((((S0.2 5) (x1 : Int32).toNatClampNeg) - x1) + (S0.1 0)) - ((((S0.2 5) (x1 : Int32).toNatClampNeg) - x1) + (S0.1 0)) / (S0.1 0) * (S0.1 0)) - 1) + 0) / ((S0.1 0) - 1) * ((S0.1 0) - 1))) / (S0.1 0) * (S0.1 0))) hx hb hr (fun t ht _ => ⟨⟨_, rfl, ⟨_, rfl, hw⟩⟩, ht⟩) (fun _ h => by cases h) dX7_whereBehind_90
  · have hw := Eq.mp (if_neg c1) hw
    refine lv_bipush (v := (-6)) hx hb dX7_whereBehind_9 (by decide) ?_
    exact W.iret (v := (-6)) hx hb hr (fun t ht _ => ⟨⟨_, rfl, ⟨_, rfl, hw⟩⟩, ht⟩) (fun _ h => by cases h) dX7_whereBehind_11
set_option maxHeartbeats 4000000 in
set_option maxRecDepth 100000 in
theorem c_X7_equinoxes (l : Launch) (D : va_G) (cI cZ : ClassId) (ad : Nat → Nat) (S0 : St) (x1 : Int32) (k : Int32 → Prop) (hw : wp_X7_equinoxes S0 x1 k) : KR l yX7_equinoxes cX7_equinoxes 2 (some .int) 0 0 D cI cZ [.ref (ad 0), .int x1] [mcells cI cZ ad 0 S0] (fun v => ∃ r, v = some (.int r) ∧ k r) := by
  refine Met.ofE (by decide +kernel) (Nat.le_of_ble_eq_true rfl) ?_
  intro p e s m below meth c E ls hl
  obtain ⟨hx, hb, hr, hml, hW, hown, hlocks, hP, hK, hD, hN⟩ := E
  have hl : lv_has ls 2 [(0, .ref (ad 0)), (1, .int x1)] := hl
  have hw : (¬ (S0.1 1) = 0 ∧ (k (((S0.1 4) + x1) / (S0.1 1)))) := hw
  refine lv_aload_n hx hb dX7_equinoxes_0 rfl (lv_at hl 0 rfl) ?_
  refine va_get (D := D) (ci := 7) (v := .int (S0.1 4)) (C := RX7) (T := TX7) (N := 27) hx hb hW inW_X7 hown hK hP 0 rfl rfl 4 (by decide) (hW _ fl_X7_72) (fun _ h9 => h9) rfl dX7_equinoxes_1 ?_
  refine lv_iload_n hx hb dX7_equinoxes_4 rfl (lv_at hl 1 rfl) ?_
  refine lv_iadd hx hb dX7_equinoxes_5 ?_
  refine lv_aload_n hx hb dX7_equinoxes_6 rfl (lv_at hl 0 rfl) ?_
  refine va_get (D := D) (ci := 7) (v := .int (S0.1 1)) (C := RX7) (T := TX7) (N := 27) hx hb hW inW_X7 hown hK hP 0 rfl rfl 1 (by decide) (hW _ fl_X7_13) (fun _ h9 => h9) rfl dX7_equinoxes_7 ?_
  refine lv_idiv hx hb dX7_equinoxes_10 hw.1 ?_
  have hw := hw.2
  exact W.iret (v := (((S0.1 4) + x1) / (S0.1 1))) hx hb hr (fun t ht _ => ⟨⟨_, rfl, ⟨_, rfl, hw⟩⟩, ht⟩) (fun _ h => by cases h) dX7_equinoxes_11
set_option maxHeartbeats 4000000 in
set_option maxRecDepth 100000 in
theorem c_X7_firstDay (l : Launch) (D : va_G) (cI cZ : ClassId) (ad : Nat → Nat) (S0 : St) (x1 : Int32) (r9 : Int32) (hw : F_X7_firstDay S0 x1 = r9) : KF l yX7_firstDay cX7_firstDay 2 (some .int) 0 0 D cI cZ [.ref (ad 0), .int x1] [mcells cI cZ ad 0 S0] (some (.int r9)) := by
  refine Met.ofE (by decide +kernel) (Nat.le_of_ble_eq_true rfl) ?_
  intro p e s m below meth c E ls hl
  obtain ⟨hx, hb, hr, hml, hW, hown, hlocks, hP, hK, hD, hN⟩ := E
  have hl : lv_has ls 2 [(0, .ref (ad 0)), (1, .int x1)] := hl
  have hw : (if x1 = 0 then 0 else ((x1 * (S0.1 1)) - (S0.1 4))) = r9 := hw
  refine lv_iload_n hx hb dX7_firstDay_0 rfl (lv_at hl 1 rfl) ?_
  refine lv_if_ne (tgt := 8) hx hb dX7_firstDay_1 (by decide) (fun c1 => ?_) (fun c1 => ?_)
  · have hw := (if_neg c1).symm.trans hw
    refine lv_iload_n hx hb dX7_firstDay_8 rfl (lv_at hl 1 rfl) ?_
    refine lv_aload_n hx hb dX7_firstDay_9 rfl (lv_at hl 0 rfl) ?_
    refine va_get (D := D) (ci := 7) (v := .int (S0.1 1)) (C := RX7) (T := TX7) (N := 27) hx hb hW inW_X7 hown hK hP 0 rfl rfl 1 (by decide) (hW _ fl_X7_13) (fun _ h9 => h9) rfl dX7_firstDay_10 ?_
    refine lv_imul hx hb dX7_firstDay_13 ?_
    refine lv_aload_n hx hb dX7_firstDay_14 rfl (lv_at hl 0 rfl) ?_
    refine va_get (D := D) (ci := 7) (v := .int (S0.1 4)) (C := RX7) (T := TX7) (N := 27) hx hb hW inW_X7 hown hK hP 0 rfl rfl 4 (by decide) (hW _ fl_X7_72) (fun _ h9 => h9) rfl dX7_firstDay_15 ?_
    refine lv_isub hx hb dX7_firstDay_18 ?_
    subst hw
    exact W.iret (v := ((x1 * (S0.1 1)) - (S0.1 4))) hx hb hr (fun t ht _ => ⟨rfl, ht⟩) (fun _ h => by cases h) dX7_firstDay_19
  · have hw := (if_pos c1).symm.trans hw
    refine lv_iconst (v := 0) hx hb dX7_firstDay_4 (by decide) ?_
    refine lv_goto (tgt := 19) hx hb dX7_firstDay_5 (by decide) ?_
    subst hw
    exact W.iret (v := 0) hx hb hr (fun t ht _ => ⟨rfl, ht⟩) (fun _ h => by cases h) dX7_firstDay_19
set_option maxHeartbeats 4000000 in
set_option maxRecDepth 100000 in
theorem c_X7_where (l : Launch) (D : va_G) (cI cZ : ClassId) (ad : Nat → Nat) (S0 : St) (x1 : Int32) (x2 : Int32) (k : Int32 → Prop) (hw : wp_X7_where S0 x1 x2 k) : KR l yX7_where cX7_where 3 (some .int) 2 43 D cI cZ [.ref (ad 0), .int x1, .int x2] [mcells cI cZ ad 0 S0] (fun v => ∃ r, v = some (.int r) ∧ k r) := by
  refine Met.ofE (by decide +kernel) (Nat.le_of_ble_eq_true rfl) ?_
  intro p e s m below meth c E ls hl
  obtain ⟨hx, hb, hr, hml, hW, hown, hlocks, hP, hK, hD, hN⟩ := E
  have hl : lv_has ls 3 [(0, .ref (ad 0)), (1, .int x1), (2, .int x2)] := hl
  have hw : (if (F_X7_isOne S0 x1) = 0 then (k (-1)) else (if (F_X7_in x2 0 9999) = 0 then (k (-2)) else (wp_X7_equinoxes S0 x2 (fun (v3 : Int32) => (wp_X7_whereBehind S0 x1 v3 (fun (v4 : Int32) => (k v4))))))) := hw
  refine lv_aload_n hx hb dX7_where_0 rfl (lv_at hl 0 rfl) ?_
  refine lv_iload_n hx hb dX7_where_1 rfl (lv_at hl 1 rfl) ?_
  refine callF (va_runV (As := [.int x1]) (rest := []) ⟨hx, hb, hml, hown, hW⟩ (c_X7_isOne l D cI cZ ad  S0 x1 _ rfl) (cwV0 hW mV_X7_isOne ml_X7_82 ⟨Nat.le_of_ble_eq_true rfl, Nat.le_of_ble_eq_true rfl⟩) (preV0 0 rfl rfl hK hN hP hD [0] rfl rfl) rfl rfl hl.1 rfl (lv_room (Nat.le_of_ble_eq_true rfl)) dX7_where_2 ⟨Nat.le_refl _, Nat.le_refl _⟩) ?_
  refine W.eq (g2 := F0 m 5 ls [.int (F_X7_isOne S0 x1)]) rfl ?_
  refine lv_if_ne (tgt := 10) hx hb dX7_where_5 (by decide) (fun c1 => ?_) (fun c1 => ?_)
  · have hw := Eq.mp (if_neg c1) hw
    refine lv_iload_n hx hb dX7_where_10 rfl (lv_at hl 2 rfl) ?_
    refine lv_iconst (v := 0) hx hb dX7_where_11 (by decide) ?_
    refine lv_sipush (v := 9999) hx hb dX7_where_12 (by decide) ?_
    refine callF (va_runS (As := [.int x2, .int 0, .int 9999]) (rest := []) ⟨hx, hb, hml, hown, hW⟩ (c_X7_in l D cI cZ x2 0 9999 _ rfl) (cwS0 hW mS_X7_in ml_X7_78 ⟨Nat.le_of_ble_eq_true rfl, Nat.le_of_ble_eq_true rfl⟩) (preS0 hK hN hP hD [] rfl rfl) rfl rfl hl.1 rfl (lv_room (Nat.le_of_ble_eq_true rfl)) dX7_where_15 ⟨Nat.le_refl _, Nat.le_refl _⟩) ?_
    refine W.eq (g2 := F0 m 18 ls [.int (F_X7_in x2 0 9999)]) rfl ?_
    refine lv_if_eq (tgt := 34) hx hb dX7_where_18 (by decide) (fun c2 => ?_) (fun c2 => ?_)
    · have hw := Eq.mp (if_pos c2) hw
      refine lv_bipush (v := (-2)) hx hb dX7_where_34 (by decide) ?_
      exact W.iret (v := (-2)) hx hb hr (fun t ht _ => ⟨⟨_, rfl, ⟨_, rfl, hw⟩⟩, ht⟩) (fun _ h => by cases h) dX7_where_36
    · have hw := Eq.mp (if_neg c2) hw
      refine lv_aload_n hx hb dX7_where_21 rfl (lv_at hl 0 rfl) ?_
      refine lv_iload_n hx hb dX7_where_22 rfl (lv_at hl 1 rfl) ?_
      refine lv_aload_n hx hb dX7_where_23 rfl (lv_at hl 0 rfl) ?_
      refine lv_iload_n hx hb dX7_where_24 rfl (lv_at hl 2 rfl) ?_
      refine callR (va_runV (As := [.int x2]) (rest := [.int x1, .ref (ad 0)]) ⟨hx, hb, hml, hown, hW⟩ (c_X7_equinoxes l D cI cZ ad  S0 x2 _ hw) (cwV0 hW mV_X7_equinoxes ml_X7_138 ⟨Nat.le_of_ble_eq_true rfl, Nat.le_of_ble_eq_true rfl⟩) (preV0 0 rfl rfl hK hN hP hD [0] rfl rfl) rfl rfl hl.1 rfl (lv_room (Nat.le_of_ble_eq_true rfl)) dX7_where_25 ⟨Nat.le_refl _, Nat.le_refl _⟩) (fun v9 hq => ?_)
      obtain ⟨v3, rfl, hw⟩ := hq
      refine W.eq (g2 := F0 m 28 ls [.int v3, .int x1, .ref (ad 0)]) rfl ?_
      refine callR (va_runV (As := [.int x1, .int v3]) (rest := []) ⟨hx, hb, hml, hown, hW⟩ (c_X7_whereBehind l D cI cZ ad  S0 x1 v3 _ hw) (cwV0 hW mV_X7_whereBehind ml_X7_142 ⟨Nat.le_of_ble_eq_true rfl, Nat.le_of_ble_eq_true rfl⟩) (preV0 0 rfl rfl hK hN hP hD [0] rfl rfl) rfl rfl hl.1 rfl (lv_room (Nat.le_of_ble_eq_true rfl)) dX7_where_28 ⟨Nat.le_refl _, Nat.le_refl _⟩) (fun v9 hq => ?_)
      obtain ⟨v4, rfl, hw⟩ := hq
      refine W.eq (g2 := F0 m 31 ls [.int v4]) rfl ?_
      refine lv_goto (tgt := 36) hx hb dX7_where_31 (by decide) ?_
      exact W.iret (v := v4) hx hb hr (fun t ht _ => ⟨⟨_, rfl, ⟨_, rfl, hw⟩⟩, ht⟩) (fun _ h => by cases h) dX7_where_36
  · have hw := Eq.mp (if_pos c1) hw
    refine lv_iconst (v := (-1)) hx hb dX7_where_8 (by decide) ?_
    exact W.iret (v := (-1)) hx hb hr (fun t ht _ => ⟨⟨_, rfl, ⟨_, rfl, hw⟩⟩, ht⟩) (fun _ h => by cases h) dX7_where_9
set_option maxHeartbeats 4000000 in
set_option maxRecDepth 100000 in
theorem c_X7_who (l : Launch) (D : va_G) (cI cZ : ClassId) (ad : Nat → Nat) (S0 : St) (x1 : Int32) (x2 : Int32) (k : Int32 → Prop) (hw : wp_X7_who S0 x1 x2 k) : KR l yX7_who cX7_who 5 (some .int) 2 43 D cI cZ [.ref (ad 0), .int x1, .int x2] [mcells cI cZ ad 0 S0] (fun v => ∃ r, v = some (.int r) ∧ k r) := by
  refine Met.ofE (by decide +kernel) (Nat.le_of_ble_eq_true rfl) ?_
  intro p e s m below meth c E ls hl
  obtain ⟨hx, hb, hr, hml, hW, hown, hlocks, hP, hK, hD, hN⟩ := E
  have hl : lv_has ls 5 [(0, .ref (ad 0)), (1, .int x1), (2, .int x2)] := hl
  have L29 : ∀  (kx : Int32 → Prop), (∀ (y3 : Int32), ∀ ls : Array Slot, lv_has ls 5 [(3, .int y3)] → kx y3 → W p l e { frames := 2, cells := 0, slots := 0, locals := 43 } s m ([.ref (ad 0), .int x1, .int x2] : List Value).toArray below meth c s.heap [] 0 0 (MQ below (QR (fun v => ∃ r, v = some (.int r) ∧ k r)) ([.ref (ad 0), .int x1, .int x2] : List Value).toArray s 0 0 (fun _ => False)) (F0 m 70 ls [])) → ∀ (N29 : Nat) (y3 : Int32) (y4 : Int32), ∀ ls : Array Slot, lv_has ls 5 [(0, .ref (ad 0)), (1, .int x1), (2, .int x2), (3, .int y3), (4, .int y4)] → wl_X7_who_29 S0 x1 x2 kx N29 y3 y4 → W p l e { frames := 2, cells := 0, slots := 0, locals := 43 } s m ([.ref (ad 0), .int x1, .int x2] : List Value).toArray below meth c s.heap [] 0 0 (MQ below (QR (fun v => ∃ r, v = some (.int r) ∧ k r)) ([.ref (ad 0), .int x1, .int x2] : List Value).toArray s 0 0 (fun _ => False)) (F0 m 29 ls []) := by
    intro  kx hxt N29
    induction N29 with
    | zero => intro y3 y4 ls hl hw; exact False.elim hw
    | succ N29 ih =>
      intro y3 y4 ls hl hw
      have hw : (if (S0.1 0) ≤ y4 then (kx y3) else (wp_X7_equinoxes S0 x2 (fun (v4 : Int32) => (wp_X7_whereBehind S0 y4 v4 (fun (v5 : Int32) => (if v5 = x1 then (wl_X7_who_29 S0 x1 x2 kx N29 (y3 ||| ((1 : Int32) <<< (y4 &&& 31))) (y4 + 1)) else (wl_X7_who_29 S0 x1 x2 kx N29 (y3 ||| 0) (y4 + 1)))))))) := hw
      refine lv_iload hx hb dX7_who_29 (lv_at hl 4 rfl) ?_
      refine lv_aload_n hx hb dX7_who_31 rfl (lv_at hl 0 rfl) ?_
      refine va_get (D := D) (ci := 7) (v := .int (S0.1 0)) (C := RX7) (T := TX7) (N := 27) hx hb hW inW_X7 hown hK hP 0 rfl rfl 0 (by decide) (hW _ fl_X7_7) (fun _ h9 => h9) rfl dX7_who_32 ?_
      refine lv_icmp_ge (tgt := 70) hx hb dX7_who_35 (by decide) (fun c3 => ?_) (fun c3 => ?_)
      · have hw := Eq.mp (if_pos c3) hw
        exact hxt y3 _ (lv_sub hl [3] rfl) hw
      · have hw := Eq.mp (if_neg c3) hw
        refine lv_iload_n hx hb dX7_who_38 rfl (lv_at hl 3 rfl) ?_
        refine lv_aload_n hx hb dX7_who_39 rfl (lv_at hl 0 rfl) ?_
        refine lv_iload hx hb dX7_who_40 (lv_at hl 4 rfl) ?_
        refine lv_aload_n hx hb dX7_who_42 rfl (lv_at hl 0 rfl) ?_
        refine lv_iload_n hx hb dX7_who_43 rfl (lv_at hl 2 rfl) ?_
        refine callR (va_runV (As := [.int x2]) (rest := [.int y4, .ref (ad 0), .int y3]) ⟨hx, hb, hml, hown, hW⟩ (c_X7_equinoxes l D cI cZ ad  S0 x2 _ hw) (cwV0 hW mV_X7_equinoxes ml_X7_138 ⟨Nat.le_of_ble_eq_true rfl, Nat.le_of_ble_eq_true rfl⟩) (preV0 0 rfl rfl hK hN hP hD [0] rfl rfl) rfl rfl hl.1 rfl (lv_room (Nat.le_of_ble_eq_true rfl)) dX7_who_44 ⟨Nat.le_refl _, Nat.le_refl _⟩) (fun v9 hq => ?_)
        obtain ⟨v4, rfl, hw⟩ := hq
        refine W.eq (g2 := F0 m 47 ls [.int v4, .int y4, .ref (ad 0), .int y3]) rfl ?_
        refine callR (va_runV (As := [.int y4, .int v4]) (rest := [.int y3]) ⟨hx, hb, hml, hown, hW⟩ (c_X7_whereBehind l D cI cZ ad  S0 y4 v4 _ hw) (cwV0 hW mV_X7_whereBehind ml_X7_142 ⟨Nat.le_of_ble_eq_true rfl, Nat.le_of_ble_eq_true rfl⟩) (preV0 0 rfl rfl hK hN hP hD [0] rfl rfl) rfl rfl hl.1 rfl (lv_room (Nat.le_of_ble_eq_true rfl)) dX7_who_47 ⟨Nat.le_refl _, Nat.le_refl _⟩) (fun v9 hq => ?_)
        obtain ⟨v5, rfl, hw⟩ := hq
        refine W.eq (g2 := F0 m 50 ls [.int v5, .int y3]) rfl ?_
        refine lv_iload_n hx hb dX7_who_50 rfl (lv_at hl 1 rfl) ?_
        refine lv_icmp_ne (tgt := 61) hx hb dX7_who_51 (by decide) (fun c6 => ?_) (fun c6 => ?_)
        · have hw := Eq.mp (if_neg c6) hw
          refine lv_iconst (v := 0) hx hb dX7_who_61 (by decide) ?_
          refine lv_ior hx hb dX7_who_62 ?_
          refine lv_istore_n (lv' := [(3, .int (y3 ||| 0)), (0, .ref (ad 0)), (1, .int x1), (2, .int x2), (4, .int y4)]) hx hb dX7_who_63 rfl hl (by decide) rfl (fun ls hl => ?_)
          refine lv_iinc (v := (y4 + 1)) (lv' := [(4, .int (y4 + 1)), (3, .int (y3 ||| 0)), (0, .ref (ad 0)), (1, .int x1), (2, .int x2)]) hx hb dX7_who_64 hl (k := 4) rfl rfl (by decide) rfl (fun ls hl => ?_)
          refine lv_goto (tgt := 29) hx hb dX7_who_67 (by decide) ?_
          exact ih (y3 ||| 0) (y4 + 1) _ (lv_sub hl [2, 3, 4, 1, 0] rfl) hw
        · have hw := Eq.mp (if_pos c6) hw
          refine lv_iconst (v := 1) hx hb dX7_who_54 (by decide) ?_
          refine lv_iload hx hb dX7_who_55 (lv_at hl 4 rfl) ?_
          refine lv_ishl hx hb dX7_who_57 ?_
          refine lv_goto (tgt := 62) hx hb dX7_who_58 (by decide) ?_
          refine lv_ior hx hb dX7_who_62 ?_
          refine lv_istore_n (lv' := [(3, .int (y3 ||| ((1 : Int32) <<< (y4 &&& 31)))), (0, .ref (ad 0)), (1, .int x1), (2, .int x2), (4, .int y4)]) hx hb dX7_who_63 rfl hl (by decide) rfl (fun ls hl => ?_)
          refine lv_iinc (v := (y4 + 1)) (lv' := [(4, .int (y4 + 1)), (3, .int (y3 ||| ((1 : Int32) <<< (y4 &&& 31)))), (0, .ref (ad 0)), (1, .int x1), (2, .int x2)]) hx hb dX7_who_64 hl (k := 4) rfl rfl (by decide) rfl (fun ls hl => ?_)
          refine lv_goto (tgt := 29) hx hb dX7_who_67 (by decide) ?_
          exact ih (y3 ||| ((1 : Int32) <<< (y4 &&& 31))) (y4 + 1) _ (lv_sub hl [2, 3, 4, 1, 0] rfl) hw
  have hw : (if (F_X7_isOne S0 x1) = 0 then (k (-1)) else (if (F_X7_in x2 0 9999) = 0 then (k (-2)) else (∃ M8, wl_X7_who_29 S0 x1 x2 (fun (v7 : Int32) => (k v7)) M8 0 0))) := hw
  refine lv_aload_n hx hb dX7_who_0 rfl (lv_at hl 0 rfl) ?_
  refine lv_iload_n hx hb dX7_who_1 rfl (lv_at hl 1 rfl) ?_
  refine callF (va_runV (As := [.int x1]) (rest := []) ⟨hx, hb, hml, hown, hW⟩ (c_X7_isOne l D cI cZ ad  S0 x1 _ rfl) (cwV0 hW mV_X7_isOne ml_X7_82 ⟨Nat.le_of_ble_eq_true rfl, Nat.le_of_ble_eq_true rfl⟩) (preV0 0 rfl rfl hK hN hP hD [0] rfl rfl) rfl rfl hl.1 rfl (lv_room (Nat.le_of_ble_eq_true rfl)) dX7_who_2 ⟨Nat.le_refl _, Nat.le_refl _⟩) ?_
  refine W.eq (g2 := F0 m 5 ls [.int (F_X7_isOne S0 x1)]) rfl ?_
  refine lv_if_ne (tgt := 10) hx hb dX7_who_5 (by decide) (fun c1 => ?_) (fun c1 => ?_)
  · have hw := Eq.mp (if_neg c1) hw
    refine lv_iload_n hx hb dX7_who_10 rfl (lv_at hl 2 rfl) ?_
    refine lv_iconst (v := 0) hx hb dX7_who_11 (by decide) ?_
    refine lv_sipush (v := 9999) hx hb dX7_who_12 (by decide) ?_
    refine callF (va_runS (As := [.int x2, .int 0, .int 9999]) (rest := []) ⟨hx, hb, hml, hown, hW⟩ (c_X7_in l D cI cZ x2 0 9999 _ rfl) (cwS0 hW mS_X7_in ml_X7_78 ⟨Nat.le_of_ble_eq_true rfl, Nat.le_of_ble_eq_true rfl⟩) (preS0 hK hN hP hD [] rfl rfl) rfl rfl hl.1 rfl (lv_room (Nat.le_of_ble_eq_true rfl)) dX7_who_15 ⟨Nat.le_refl _, Nat.le_refl _⟩) ?_
    refine W.eq (g2 := F0 m 18 ls [.int (F_X7_in x2 0 9999)]) rfl ?_
    refine lv_if_ne (tgt := 24) hx hb dX7_who_18 (by decide) (fun c2 => ?_) (fun c2 => ?_)
    · have hw := Eq.mp (if_neg c2) hw
      refine lv_iconst (v := 0) hx hb dX7_who_24 (by decide) ?_
      refine lv_istore_n (lv' := [(3, .int 0), (0, .ref (ad 0)), (1, .int x1), (2, .int x2)]) hx hb dX7_who_25 rfl hl (by decide) rfl (fun ls hl => ?_)
      refine lv_iconst (v := 0) hx hb dX7_who_26 (by decide) ?_
      refine lv_istore (lv' := [(4, .int 0), (3, .int 0), (0, .ref (ad 0)), (1, .int x1), (2, .int x2)]) hx hb dX7_who_27 hl (by decide) rfl (fun ls hl => ?_)
      obtain ⟨N9, hw⟩ := hw
      refine L29  _ (fun v7 ls hl hw => ?_) N9 0 0 _ (lv_sub hl [2, 3, 4, 1, 0] rfl) hw
      refine lv_iload_n hx hb dX7_who_70 rfl (lv_at hl 0 rfl) ?_
      exact W.iret (v := v7) hx hb hr (fun t ht _ => ⟨⟨_, rfl, ⟨_, rfl, hw⟩⟩, ht⟩) (fun _ h => by cases h) dX7_who_71
    · have hw := Eq.mp (if_pos c2) hw
      refine lv_bipush (v := (-2)) hx hb dX7_who_21 (by decide) ?_
      exact W.iret (v := (-2)) hx hb hr (fun t ht _ => ⟨⟨_, rfl, ⟨_, rfl, hw⟩⟩, ht⟩) (fun _ h => by cases h) dX7_who_23
  · have hw := Eq.mp (if_pos c1) hw
    refine lv_iconst (v := (-1)) hx hb dX7_who_8 (by decide) ?_
    exact W.iret (v := (-1)) hx hb hr (fun t ht _ => ⟨⟨_, rfl, ⟨_, rfl, hw⟩⟩, ht⟩) (fun _ h => by cases h) dX7_who_9
set_option maxHeartbeats 4000000 in
set_option maxRecDepth 100000 in
theorem c_X7_areIn (l : Launch) (D : va_G) (cI cZ : ClassId) (ad : Nat → Nat) (S0 : St) (x1 : Int32) (x2 : Int32) (x3 : Int32) (k : Int32 → Prop) (hw : wp_X7_areIn S0 x1 x2 x3 k) : KR l yX7_areIn cX7_areIn 4 (some .boolean) 1 24 D cI cZ [.ref (ad 0), .int x1, .int x2, .int x3] [mcells cI cZ ad 0 S0] (fun v => ∃ r, v = some (.int r) ∧ k r) := by
  refine Met.ofE (by decide +kernel) (Nat.le_of_ble_eq_true rfl) ?_
  intro p e s m below meth c E ls hl
  obtain ⟨hx, hb, hr, hml, hW, hown, hlocks, hP, hK, hD, hN⟩ := E
  have hl : lv_has ls 4 [(0, .ref (ad 0)), (1, .int x1), (2, .int x2), (3, .int x3)] := hl
  have hw : (vp_in x1 6 ∧ (if ((S0.2 5) (x1 : Int32).toNatClampNeg) < 0 then (k 0) else (vp_in x2 6 ∧ (if ((S0.2 5) (x2 : Int32).toNatClampNeg) < 0 then (k 0) else (wp_X7_whereBehind S0 x1 x3 (fun (v3 : Int32) => (wp_X7_whereBehind S0 x2 x3 (fun (v4 : Int32) => (if v3 = v4 then (k 1) else (k 0)))))))))) := hw
  refine lv_aload_n hx hb dX7_areIn_0 rfl (lv_at hl 0 rfl) ?_
  refine va_get (D := D) (ci := 7) (v := .ref (ad (0 + 1))) (C := RX7) (T := TX7) (N := 27) hx hb hW inW_X7 hown hK hP 0 rfl rfl 5 (by decide) (hW _ fl_X7_16) (fun _ h9 => h9) rfl dX7_areIn_1 ?_
  refine lv_iload_n hx hb dX7_areIn_4 rfl (lv_at hl 1 rfl) ?_
  refine va_iald (f := (S0.2 5)) hx hb hK hP 1 0 rfl rfl hw.1 dX7_areIn_5 ?_
  have hw := hw.2
  refine lv_if_lt (tgt := 37) hx hb dX7_areIn_6 (by decide) (fun c1 => ?_) (fun c1 => ?_)
  · have hw := Eq.mp (if_pos c1) hw
    refine lv_iconst (v := 0) hx hb dX7_areIn_37 (by decide) ?_
    exact W.zret (v := 0) hx hb hr rfl (fun t ht _ => ⟨⟨_, rfl, ⟨_, rfl, hw⟩⟩, ht⟩) (fun _ h => by cases h) dX7_areIn_38
  · have hw := Eq.mp (if_neg c1) hw
    refine lv_aload_n hx hb dX7_areIn_9 rfl (lv_at hl 0 rfl) ?_
    refine va_get (D := D) (ci := 7) (v := .ref (ad (0 + 1))) (C := RX7) (T := TX7) (N := 27) hx hb hW inW_X7 hown hK hP 0 rfl rfl 5 (by decide) (hW _ fl_X7_16) (fun _ h9 => h9) rfl dX7_areIn_10 ?_
    refine lv_iload_n hx hb dX7_areIn_13 rfl (lv_at hl 2 rfl) ?_
    refine va_iald (f := (S0.2 5)) hx hb hK hP 1 0 rfl rfl hw.1 dX7_areIn_14 ?_
    have hw := hw.2
    refine lv_if_lt (tgt := 37) hx hb dX7_areIn_15 (by decide) (fun c2 => ?_) (fun c2 => ?_)
    · have hw := Eq.mp (if_pos c2) hw
      refine lv_iconst (v := 0) hx hb dX7_areIn_37 (by decide) ?_
      exact W.zret (v := 0) hx hb hr rfl (fun t ht _ => ⟨⟨_, rfl, ⟨_, rfl, hw⟩⟩, ht⟩) (fun _ h => by cases h) dX7_areIn_38
    · have hw := Eq.mp (if_neg c2) hw
      refine lv_aload_n hx hb dX7_areIn_18 rfl (lv_at hl 0 rfl) ?_
      refine lv_iload_n hx hb dX7_areIn_19 rfl (lv_at hl 1 rfl) ?_
      refine lv_iload_n hx hb dX7_areIn_20 rfl (lv_at hl 3 rfl) ?_
      refine callR (va_runV (As := [.int x1, .int x3]) (rest := []) ⟨hx, hb, hml, hown, hW⟩ (c_X7_whereBehind l D cI cZ ad  S0 x1 x3 _ hw) (cwV0 hW mV_X7_whereBehind ml_X7_142 ⟨Nat.le_of_ble_eq_true rfl, Nat.le_of_ble_eq_true rfl⟩) (preV0 0 rfl rfl hK hN hP hD [0] rfl rfl) rfl rfl hl.1 rfl (lv_room (Nat.le_of_ble_eq_true rfl)) dX7_areIn_21 ⟨Nat.le_refl _, Nat.le_refl _⟩) (fun v9 hq => ?_)
      obtain ⟨v3, rfl, hw⟩ := hq
      refine W.eq (g2 := F0 m 24 ls [.int v3]) rfl ?_
      refine lv_aload_n hx hb dX7_areIn_24 rfl (lv_at hl 0 rfl) ?_
      refine lv_iload_n hx hb dX7_areIn_25 rfl (lv_at hl 2 rfl) ?_
      refine lv_iload_n hx hb dX7_areIn_26 rfl (lv_at hl 3 rfl) ?_
      refine callR (va_runV (As := [.int x2, .int x3]) (rest := [.int v3]) ⟨hx, hb, hml, hown, hW⟩ (c_X7_whereBehind l D cI cZ ad  S0 x2 x3 _ hw) (cwV0 hW mV_X7_whereBehind ml_X7_142 ⟨Nat.le_of_ble_eq_true rfl, Nat.le_of_ble_eq_true rfl⟩) (preV0 0 rfl rfl hK hN hP hD [0] rfl rfl) rfl rfl hl.1 rfl (lv_room (Nat.le_of_ble_eq_true rfl)) dX7_areIn_27 ⟨Nat.le_refl _, Nat.le_refl _⟩) (fun v9 hq => ?_)
      obtain ⟨v4, rfl, hw⟩ := hq
      refine W.eq (g2 := F0 m 30 ls [.int v4, .int v3]) rfl ?_
      refine lv_icmp_ne (tgt := 37) hx hb dX7_areIn_30 (by decide) (fun c5 => ?_) (fun c5 => ?_)
      · have hw := Eq.mp (if_neg c5) hw
        refine lv_iconst (v := 0) hx hb dX7_areIn_37 (by decide) ?_
        exact W.zret (v := 0) hx hb hr rfl (fun t ht _ => ⟨⟨_, rfl, ⟨_, rfl, hw⟩⟩, ht⟩) (fun _ h => by cases h) dX7_areIn_38
      · have hw := Eq.mp (if_pos c5) hw
        refine lv_iconst (v := 1) hx hb dX7_areIn_33 (by decide) ?_
        refine lv_goto (tgt := 38) hx hb dX7_areIn_34 (by decide) ?_
        exact W.zret (v := 1) hx hb hr rfl (fun t ht _ => ⟨⟨_, rfl, ⟨_, rfl, hw⟩⟩, ht⟩) (fun _ h => by cases h) dX7_areIn_38
set_option maxHeartbeats 4000000 in
set_option maxRecDepth 100000 in
theorem c_X7_meet (l : Launch) (D : va_G) (cI cZ : ClassId) (ad : Nat → Nat) (S0 : St) (x1 : Int32) (x2 : Int32) (k : Int32 → Prop) (hw : wp_X7_meet S0 x1 x2 k) : KR l yX7_meet cX7_meet 4 (some .int) 3 65 D cI cZ [.ref (ad 0), .int x1, .int x2] [mcells cI cZ ad 0 S0] (fun v => ∃ r, v = some (.int r) ∧ k r) := by
  refine Met.ofE (by decide +kernel) (Nat.le_of_ble_eq_true rfl) ?_
  intro p e s m below meth c E ls hl
  obtain ⟨hx, hb, hr, hml, hW, hown, hlocks, hP, hK, hD, hN⟩ := E
  have hl : lv_has ls 4 [(0, .ref (ad 0)), (1, .int x1), (2, .int x2)] := hl
  have L13 : ∀  (kx : Prop), (∀ ls : Array Slot, lv_has ls 4 [] → kx → W p l e { frames := 3, cells := 0, slots := 0, locals := 65 } s m ([.ref (ad 0), .int x1, .int x2] : List Value).toArray below meth c s.heap [] 0 0 (MQ below (QR (fun v => ∃ r, v = some (.int r) ∧ k r)) ([.ref (ad 0), .int x1, .int x2] : List Value).toArray s 0 0 (fun _ => False)) (F0 m 41 ls [])) → ∀ (N13 : Nat) (y3 : Int32), ∀ ls : Array Slot, lv_has ls 4 [(0, .ref (ad 0)), (1, .int x1), (2, .int x2), (3, .int y3)] → wl_X7_meet_13 S0 x1 x2 kx k N13 y3 → W p l e { frames := 3, cells := 0, slots := 0, locals := 65 } s m ([.ref (ad 0), .int x1, .int x2] : List Value).toArray below meth c s.heap [] 0 0 (MQ below (QR (fun v => ∃ r, v = some (.int r) ∧ k r)) ([.ref (ad 0), .int x1, .int x2] : List Value).toArray s 0 0 (fun _ => False)) (F0 m 13 ls []) := by
    intro  kx hxt N13
    induction N13 with
    | zero => intro y3 ls hl hw; exact False.elim hw
    | succ N13 ih =>
      intro y3 ls hl hw
      have hw : (if 40 ≤ y3 then kx else (wp_X7_areIn S0 x1 x2 y3 (fun (v3 : Int32) => (if v3 = 0 then (wl_X7_meet_13 S0 x1 x2 kx k N13 (y3 + 1)) else (k (F_X7_firstDay S0 y3)))))) := hw
      refine lv_iload_n hx hb dX7_meet_13 rfl (lv_at hl 3 rfl) ?_
      refine lv_bipush (v := 40) hx hb dX7_meet_14 (by decide) ?_
      refine lv_icmp_ge (tgt := 41) hx hb dX7_meet_16 (by decide) (fun c2 => ?_) (fun c2 => ?_)
      · have hw := Eq.mp (if_pos c2) hw
        exact hxt  _ (lv_sub hl [] rfl) hw
      · have hw := Eq.mp (if_neg c2) hw
        refine lv_aload_n hx hb dX7_meet_19 rfl (lv_at hl 0 rfl) ?_
        refine lv_iload_n hx hb dX7_meet_20 rfl (lv_at hl 1 rfl) ?_
        refine lv_iload_n hx hb dX7_meet_21 rfl (lv_at hl 2 rfl) ?_
        refine lv_iload_n hx hb dX7_meet_22 rfl (lv_at hl 3 rfl) ?_
        refine callR (va_runV (As := [.int x1, .int x2, .int y3]) (rest := []) ⟨hx, hb, hml, hown, hW⟩ (c_X7_areIn l D cI cZ ad  S0 x1 x2 y3 _ hw) (cwV0 hW mV_X7_areIn ml_X7_149 ⟨Nat.le_of_ble_eq_true rfl, Nat.le_of_ble_eq_true rfl⟩) (preV0 0 rfl rfl hK hN hP hD [0] rfl rfl) rfl rfl hl.1 rfl (lv_room (Nat.le_of_ble_eq_true rfl)) dX7_meet_23 ⟨Nat.le_refl _, Nat.le_refl _⟩) (fun v9 hq => ?_)
        obtain ⟨v3, rfl, hw⟩ := hq
        refine W.eq (g2 := F0 m 26 ls [.int v3]) rfl ?_
        refine lv_if_eq (tgt := 35) hx hb dX7_meet_26 (by decide) (fun c4 => ?_) (fun c4 => ?_)
        · have hw := Eq.mp (if_pos c4) hw
          refine lv_iinc (v := (y3 + 1)) (lv' := [(3, .int (y3 + 1)), (0, .ref (ad 0)), (1, .int x1), (2, .int x2)]) hx hb dX7_meet_35 hl (k := 3) rfl rfl (by decide) rfl (fun ls hl => ?_)
          refine lv_goto (tgt := 13) hx hb dX7_meet_38 (by decide) ?_
          exact ih (y3 + 1) _ (lv_sub hl [1, 2, 3, 0] rfl) hw
        · have hw := Eq.mp (if_neg c4) hw
          refine lv_aload_n hx hb dX7_meet_29 rfl (lv_at hl 0 rfl) ?_
          refine lv_iload_n hx hb dX7_meet_30 rfl (lv_at hl 3 rfl) ?_
          refine callF (va_runV (As := [.int y3]) (rest := []) ⟨hx, hb, hml, hown, hW⟩ (c_X7_firstDay l D cI cZ ad  S0 y3 _ rfl) (cwV0 hW mV_X7_firstDay ml_X7_152 ⟨Nat.le_of_ble_eq_true rfl, Nat.le_of_ble_eq_true rfl⟩) (preV0 0 rfl rfl hK hN hP hD [0] rfl rfl) rfl rfl hl.1 rfl (lv_room (Nat.le_of_ble_eq_true rfl)) dX7_meet_31 ⟨Nat.le_refl _, Nat.le_refl _⟩) ?_
          refine W.eq (g2 := F0 m 34 ls [.int (F_X7_firstDay S0 y3)]) rfl ?_
          exact W.iret (v := (F_X7_firstDay S0 y3)) hx hb hr (fun t ht _ => ⟨⟨_, rfl, ⟨_, rfl, hw⟩⟩, ht⟩) (fun _ h => by cases h) dX7_meet_34
  have hw : (if (F_X7_areTwo S0 x1 x2) = 0 then (k (-1)) else (∃ M5, wl_X7_meet_13 S0 x1 x2 (k (-6)) k M5 0)) := hw
  refine lv_aload_n hx hb dX7_meet_0 rfl (lv_at hl 0 rfl) ?_
  refine lv_iload_n hx hb dX7_meet_1 rfl (lv_at hl 1 rfl) ?_
  refine lv_iload_n hx hb dX7_meet_2 rfl (lv_at hl 2 rfl) ?_
  refine callF (va_runV (As := [.int x1, .int x2]) (rest := []) ⟨hx, hb, hml, hown, hW⟩ (c_X7_areTwo l D cI cZ ad  S0 x1 x2 _ rfl) (cwV0 hW mV_X7_areTwo ml_X7_145 ⟨Nat.le_of_ble_eq_true rfl, Nat.le_of_ble_eq_true rfl⟩) (preV0 0 rfl rfl hK hN hP hD [0] rfl rfl) rfl rfl hl.1 rfl (lv_room (Nat.le_of_ble_eq_true rfl)) dX7_meet_3 ⟨Nat.le_refl _, Nat.le_refl _⟩) ?_
  refine W.eq (g2 := F0 m 6 ls [.int (F_X7_areTwo S0 x1 x2)]) rfl ?_
  refine lv_if_ne (tgt := 11) hx hb dX7_meet_6 (by decide) (fun c1 => ?_) (fun c1 => ?_)
  · have hw := Eq.mp (if_neg c1) hw
    refine lv_iconst (v := 0) hx hb dX7_meet_11 (by decide) ?_
    refine lv_istore_n (lv' := [(3, .int 0), (0, .ref (ad 0)), (1, .int x1), (2, .int x2)]) hx hb dX7_meet_12 rfl hl (by decide) rfl (fun ls hl => ?_)
    obtain ⟨N6, hw⟩ := hw
    refine L13  _ (fun  ls hl hw => ?_) N6 0 _ (lv_sub hl [1, 2, 3, 0] rfl) hw
    refine lv_bipush (v := (-6)) hx hb dX7_meet_41 (by decide) ?_
    exact W.iret (v := (-6)) hx hb hr (fun t ht _ => ⟨⟨_, rfl, ⟨_, rfl, hw⟩⟩, ht⟩) (fun _ h => by cases h) dX7_meet_43
  · have hw := Eq.mp (if_pos c1) hw
    refine lv_iconst (v := (-1)) hx hb dX7_meet_9 (by decide) ?_
    exact W.iret (v := (-1)) hx hb hr (fun t ht _ => ⟨⟨_, rfl, ⟨_, rfl, hw⟩⟩, ht⟩) (fun _ h => by cases h) dX7_meet_10
set_option maxHeartbeats 4000000 in
set_option maxRecDepth 100000 in
theorem c_X7_together (l : Launch) (D : va_G) (cI cZ : ClassId) (ad : Nat → Nat) (S0 : St) (x1 : Int32) (x2 : Int32) (x3 : Int32) (k : Int32 → Prop) (hw : wp_X7_together S0 x1 x2 x3 k) : KR l yX7_together cX7_together 6 (some .int) 3 65 D cI cZ [.ref (ad 0), .int x1, .int x2, .int x3] [mcells cI cZ ad 0 S0] (fun v => ∃ r, v = some (.int r) ∧ k r) := by
  refine Met.ofE (by decide +kernel) (Nat.le_of_ble_eq_true rfl) ?_
  intro p e s m below meth c E ls hl
  obtain ⟨hx, hb, hr, hml, hW, hown, hlocks, hP, hK, hD, hN⟩ := E
  have hl : lv_has ls 6 [(0, .ref (ad 0)), (1, .int x1), (2, .int x2), (3, .int x3)] := hl
  have L31 : ∀  (kx : Int32 → Prop), (∀ (y4 : Int32), ∀ ls : Array Slot, lv_has ls 6 [(4, .int y4)] → kx y4 → W p l e { frames := 3, cells := 0, slots := 0, locals := 65 } s m ([.ref (ad 0), .int x1, .int x2, .int x3] : List Value).toArray below meth c s.heap [] 0 0 (MQ below (QR (fun v => ∃ r, v = some (.int r) ∧ k r)) ([.ref (ad 0), .int x1, .int x2, .int x3] : List Value).toArray s 0 0 (fun _ => False)) (F0 m 68 ls [])) → ∀ (N31 : Nat) (y4 : Int32) (y5 : Int32), ∀ ls : Array Slot, lv_has ls 6 [(0, .ref (ad 0)), (1, .int x1), (2, .int x2), (3, .int x3), (4, .int y4), (5, .int y5)] → wl_X7_together_31 S0 x1 x2 x3 kx N31 y4 y5 → W p l e { frames := 3, cells := 0, slots := 0, locals := 65 } s m ([.ref (ad 0), .int x1, .int x2, .int x3] : List Value).toArray below meth c s.heap [] 0 0 (MQ below (QR (fun v => ∃ r, v = some (.int r) ∧ k r)) ([.ref (ad 0), .int x1, .int x2, .int x3] : List Value).toArray s 0 0 (fun _ => False)) (F0 m 31 ls []) := by
    intro  kx hxt N31
    induction N31 with
    | zero => intro y4 y5 ls hl hw; exact False.elim hw
    | succ N31 ih =>
      intro y4 y5 ls hl hw
      have hw : (if x3 ≤ y5 then (kx y4) else (wp_X7_equinoxes S0 y5 (fun (v4 : Int32) => (wp_X7_areIn S0 x1 x2 v4 (fun (v5 : Int32) => (if v5 = 0 then (wl_X7_together_31 S0 x1 x2 x3 kx N31 (y4 + 0) (y5 + 1)) else (wl_X7_together_31 S0 x1 x2 x3 kx N31 (y4 + 1) (y5 + 1)))))))) := hw
      refine lv_iload hx hb dX7_together_31 (lv_at hl 5 rfl) ?_
      refine lv_iload_n hx hb dX7_together_33 rfl (lv_at hl 3 rfl) ?_
      refine lv_icmp_ge (tgt := 68) hx hb dX7_together_34 (by decide) (fun c3 => ?_) (fun c3 => ?_)
      · have hw := Eq.mp (if_pos c3) hw
        exact hxt y4 _ (lv_sub hl [4] rfl) hw
      · have hw := Eq.mp (if_neg c3) hw
        refine lv_iload hx hb dX7_together_37 (lv_at hl 4 rfl) ?_
        refine lv_aload_n hx hb dX7_together_39 rfl (lv_at hl 0 rfl) ?_
        refine lv_iload_n hx hb dX7_together_40 rfl (lv_at hl 1 rfl) ?_
        refine lv_iload_n hx hb dX7_together_41 rfl (lv_at hl 2 rfl) ?_
        refine lv_aload_n hx hb dX7_together_42 rfl (lv_at hl 0 rfl) ?_
        refine lv_iload hx hb dX7_together_43 (lv_at hl 5 rfl) ?_
        refine callR (va_runV (As := [.int y5]) (rest := [.int x2, .int x1, .ref (ad 0), .int y4]) ⟨hx, hb, hml, hown, hW⟩ (c_X7_equinoxes l D cI cZ ad  S0 y5 _ hw) (cwV0 hW mV_X7_equinoxes ml_X7_138 ⟨Nat.le_of_ble_eq_true rfl, Nat.le_of_ble_eq_true rfl⟩) (preV0 0 rfl rfl hK hN hP hD [0] rfl rfl) rfl rfl hl.1 rfl (lv_room (Nat.le_of_ble_eq_true rfl)) dX7_together_45 ⟨Nat.le_refl _, Nat.le_refl _⟩) (fun v9 hq => ?_)
        obtain ⟨v4, rfl, hw⟩ := hq
        refine W.eq (g2 := F0 m 48 ls [.int v4, .int x2, .int x1, .ref (ad 0), .int y4]) rfl ?_
        refine callR (va_runV (As := [.int x1, .int x2, .int v4]) (rest := [.int y4]) ⟨hx, hb, hml, hown, hW⟩ (c_X7_areIn l D cI cZ ad  S0 x1 x2 v4 _ hw) (cwV0 hW mV_X7_areIn ml_X7_149 ⟨Nat.le_of_ble_eq_true rfl, Nat.le_of_ble_eq_true rfl⟩) (preV0 0 rfl rfl hK hN hP hD [0] rfl rfl) rfl rfl hl.1 rfl (lv_room (Nat.le_of_ble_eq_true rfl)) dX7_together_48 ⟨Nat.le_refl _, Nat.le_refl _⟩) (fun v9 hq => ?_)
        obtain ⟨v5, rfl, hw⟩ := hq
        refine W.eq (g2 := F0 m 51 ls [.int v5, .int y4]) rfl ?_
        refine lv_if_eq (tgt := 58) hx hb dX7_together_51 (by decide) (fun c6 => ?_) (fun c6 => ?_)
        · have hw := Eq.mp (if_pos c6) hw
          refine lv_iconst (v := 0) hx hb dX7_together_58 (by decide) ?_
          refine lv_iadd hx hb dX7_together_59 ?_
          refine lv_istore (lv' := [(4, .int (y4 + 0)), (0, .ref (ad 0)), (1, .int x1), (2, .int x2), (3, .int x3), (5, .int y5)]) hx hb dX7_together_60 hl (by decide) rfl (fun ls hl => ?_)
          refine lv_iinc (v := (y5 + 1)) (lv' := [(5, .int (y5 + 1)), (4, .int (y4 + 0)), (0, .ref (ad 0)), (1, .int x1), (2, .int x2), (3, .int x3)]) hx hb dX7_together_62 hl (k := 5) rfl rfl (by decide) rfl (fun ls hl => ?_)
          refine lv_goto (tgt := 31) hx hb dX7_together_65 (by decide) ?_
          exact ih (y4 + 0) (y5 + 1) _ (lv_sub hl [2, 3, 4, 5, 1, 0] rfl) hw
        · have hw := Eq.mp (if_neg c6) hw
          refine lv_iconst (v := 1) hx hb dX7_together_54 (by decide) ?_
          refine lv_goto (tgt := 59) hx hb dX7_together_55 (by decide) ?_
          refine lv_iadd hx hb dX7_together_59 ?_
          refine lv_istore (lv' := [(4, .int (y4 + 1)), (0, .ref (ad 0)), (1, .int x1), (2, .int x2), (3, .int x3), (5, .int y5)]) hx hb dX7_together_60 hl (by decide) rfl (fun ls hl => ?_)
          refine lv_iinc (v := (y5 + 1)) (lv' := [(5, .int (y5 + 1)), (4, .int (y4 + 1)), (0, .ref (ad 0)), (1, .int x1), (2, .int x2), (3, .int x3)]) hx hb dX7_together_62 hl (k := 5) rfl rfl (by decide) rfl (fun ls hl => ?_)
          refine lv_goto (tgt := 31) hx hb dX7_together_65 (by decide) ?_
          exact ih (y4 + 1) (y5 + 1) _ (lv_sub hl [2, 3, 4, 5, 1, 0] rfl) hw
  have hw : (if (F_X7_areTwo S0 x1 x2) = 0 then (k (-1)) else (if (F_X7_in x3 0 9999) = 0 then (k (-2)) else (∃ M8, wl_X7_together_31 S0 x1 x2 x3 (fun (v7 : Int32) => (k v7)) M8 0 0))) := hw
  refine lv_aload_n hx hb dX7_together_0 rfl (lv_at hl 0 rfl) ?_
  refine lv_iload_n hx hb dX7_together_1 rfl (lv_at hl 1 rfl) ?_
  refine lv_iload_n hx hb dX7_together_2 rfl (lv_at hl 2 rfl) ?_
  refine callF (va_runV (As := [.int x1, .int x2]) (rest := []) ⟨hx, hb, hml, hown, hW⟩ (c_X7_areTwo l D cI cZ ad  S0 x1 x2 _ rfl) (cwV0 hW mV_X7_areTwo ml_X7_145 ⟨Nat.le_of_ble_eq_true rfl, Nat.le_of_ble_eq_true rfl⟩) (preV0 0 rfl rfl hK hN hP hD [0] rfl rfl) rfl rfl hl.1 rfl (lv_room (Nat.le_of_ble_eq_true rfl)) dX7_together_3 ⟨Nat.le_refl _, Nat.le_refl _⟩) ?_
  refine W.eq (g2 := F0 m 6 ls [.int (F_X7_areTwo S0 x1 x2)]) rfl ?_
  refine lv_if_ne (tgt := 11) hx hb dX7_together_6 (by decide) (fun c1 => ?_) (fun c1 => ?_)
  · have hw := Eq.mp (if_neg c1) hw
    refine lv_iload_n hx hb dX7_together_11 rfl (lv_at hl 3 rfl) ?_
    refine lv_iconst (v := 0) hx hb dX7_together_12 (by decide) ?_
    refine lv_sipush (v := 9999) hx hb dX7_together_13 (by decide) ?_
    refine callF (va_runS (As := [.int x3, .int 0, .int 9999]) (rest := []) ⟨hx, hb, hml, hown, hW⟩ (c_X7_in l D cI cZ x3 0 9999 _ rfl) (cwS0 hW mS_X7_in ml_X7_78 ⟨Nat.le_of_ble_eq_true rfl, Nat.le_of_ble_eq_true rfl⟩) (preS0 hK hN hP hD [] rfl rfl) rfl rfl hl.1 rfl (lv_room (Nat.le_of_ble_eq_true rfl)) dX7_together_16 ⟨Nat.le_refl _, Nat.le_refl _⟩) ?_
    refine W.eq (g2 := F0 m 19 ls [.int (F_X7_in x3 0 9999)]) rfl ?_
    refine lv_if_ne (tgt := 25) hx hb dX7_together_19 (by decide) (fun c2 => ?_) (fun c2 => ?_)
    · have hw := Eq.mp (if_neg c2) hw
      refine lv_iconst (v := 0) hx hb dX7_together_25 (by decide) ?_
      refine lv_istore (lv' := [(4, .int 0), (0, .ref (ad 0)), (1, .int x1), (2, .int x2), (3, .int x3)]) hx hb dX7_together_26 hl (by decide) rfl (fun ls hl => ?_)
      refine lv_iconst (v := 0) hx hb dX7_together_28 (by decide) ?_
      refine lv_istore (lv' := [(5, .int 0), (4, .int 0), (0, .ref (ad 0)), (1, .int x1), (2, .int x2), (3, .int x3)]) hx hb dX7_together_29 hl (by decide) rfl (fun ls hl => ?_)
      obtain ⟨N9, hw⟩ := hw
      refine L31  _ (fun v7 ls hl hw => ?_) N9 0 0 _ (lv_sub hl [2, 3, 4, 5, 1, 0] rfl) hw
      refine lv_iload hx hb dX7_together_68 (lv_at hl 0 rfl) ?_
      exact W.iret (v := v7) hx hb hr (fun t ht _ => ⟨⟨_, rfl, ⟨_, rfl, hw⟩⟩, ht⟩) (fun _ h => by cases h) dX7_together_70
    · have hw := Eq.mp (if_pos c2) hw
      refine lv_bipush (v := (-2)) hx hb dX7_together_22 (by decide) ?_
      exact W.iret (v := (-2)) hx hb hr (fun t ht _ => ⟨⟨_, rfl, ⟨_, rfl, hw⟩⟩, ht⟩) (fun _ h => by cases h) dX7_together_24
  · have hw := Eq.mp (if_pos c1) hw
    refine lv_iconst (v := (-1)) hx hb dX7_together_9 (by decide) ?_
    exact W.iret (v := (-1)) hx hb hr (fun t ht _ => ⟨⟨_, rfl, ⟨_, rfl, hw⟩⟩, ht⟩) (fun _ h => by cases h) dX7_together_10
set_option maxHeartbeats 4000000 in
set_option maxRecDepth 100000 in
theorem c_X7_isThere (l : Launch) (D : va_G) (cI cZ : ClassId) (ad : Nat → Nat) (S0 : St) (x1 : Int32) (x2 : Int32) (x3 : Int32) (x4 : Int32) (k : Int32 → Prop) (hw : wp_X7_isThere S0 x1 x2 x3 x4 k) : KR l yX7_isThere cX7_isThere 7 (some .boolean) 1 24 D cI cZ [.ref (ad 0), .int x1, .int x2, .int x3, .int x4] [mcells cI cZ ad 0 S0] (fun v => ∃ r, v = some (.int r) ∧ k r) := by
  refine Met.ofE (by decide +kernel) (Nat.le_of_ble_eq_true rfl) ?_
  intro p e s m below meth c E ls hl
  obtain ⟨hx, hb, hr, hml, hW, hown, hlocks, hP, hK, hD, hN⟩ := E
  have hl : lv_has ls 7 [(0, .ref (ad 0)), (1, .int x1), (2, .int x2), (3, .int x3), (4, .int x4)] := hl
  have L10 : ∀  (kx : Int32 → Prop), (∀ (y5 : Int32), ∀ ls : Array Slot, lv_has ls 7 [(5, .int y5)] → kx y5 → W p l e { frames := 1, cells := 0, slots := 0, locals := 24 } s m ([.ref (ad 0), .int x1, .int x2, .int x3, .int x4] : List Value).toArray below meth c s.heap [] 0 0 (MQ below (QR (fun v => ∃ r, v = some (.int r) ∧ k r)) ([.ref (ad 0), .int x1, .int x2, .int x3, .int x4] : List Value).toArray s 0 0 (fun _ => False)) (F0 m 54 ls [])) → ∀ (N10 : Nat) (y5 : Int32) (y6 : Int32), ∀ ls : Array Slot, lv_has ls 7 [(0, .ref (ad 0)), (1, .int x1), (2, .int x2), (3, .int x3), (4, .int x4), (5, .int y5), (6, .int y6)] → wl_X7_isThere_10 S0 x1 x2 x3 x4 kx N10 y5 y6 → W p l e { frames := 1, cells := 0, slots := 0, locals := 24 } s m ([.ref (ad 0), .int x1, .int x2, .int x3, .int x4] : List Value).toArray below meth c s.heap [] 0 0 (MQ below (QR (fun v => ∃ r, v = some (.int r) ∧ k r)) ([.ref (ad 0), .int x1, .int x2, .int x3, .int x4] : List Value).toArray s 0 0 (fun _ => False)) (F0 m 10 ls []) := by
    intro  kx hxt N10
    induction N10 with
    | zero => intro y5 y6 ls hl hw; exact False.elim hw
    | succ N10 ih =>
      intro y5 y6 ls hl hw
      have hw : (wp_X7_equinoxes S0 ((x3 + x4) - 1) (fun (v2 : Int32) => (if v2 < y6 then (kx y5) else (if y5 = 0 then (wp_X7_whereBehind S0 x1 y6 (fun (v5 : Int32) => (if v5 = x2 then (wl_X7_isThere_10 S0 x1 x2 x3 x4 kx N10 1 (y6 + 1)) else (wl_X7_isThere_10 S0 x1 x2 x3 x4 kx N10 0 (y6 + 1))))) else (kx y5))))) := hw
      refine lv_iload hx hb dX7_isThere_10 (lv_at hl 6 rfl) ?_
      refine lv_aload_n hx hb dX7_isThere_12 rfl (lv_at hl 0 rfl) ?_
      refine lv_iload_n hx hb dX7_isThere_13 rfl (lv_at hl 3 rfl) ?_
      refine lv_iload hx hb dX7_isThere_14 (lv_at hl 4 rfl) ?_
      refine lv_iadd hx hb dX7_isThere_16 ?_
      refine lv_iconst (v := 1) hx hb dX7_isThere_17 (by decide) ?_
      refine lv_isub hx hb dX7_isThere_18 ?_
      refine callR (va_runV (As := [.int ((x3 + x4) - 1)]) (rest := [.int y6]) ⟨hx, hb, hml, hown, hW⟩ (c_X7_equinoxes l D cI cZ ad  S0 ((x3 + x4) - 1) _ hw) (cwV0 hW mV_X7_equinoxes ml_X7_138 ⟨Nat.le_of_ble_eq_true rfl, Nat.le_of_ble_eq_true rfl⟩) (preV0 0 rfl rfl hK hN hP hD [0] rfl rfl) rfl rfl hl.1 rfl (lv_room (Nat.le_of_ble_eq_true rfl)) dX7_isThere_19 ⟨Nat.le_refl _, Nat.le_refl _⟩) (fun v9 hq => ?_)
      obtain ⟨v2, rfl, hw⟩ := hq
      refine W.eq (g2 := F0 m 22 ls [.int v2, .int y6]) rfl ?_
      refine lv_icmp_gt (tgt := 54) hx hb dX7_isThere_22 (by decide) (fun c3 => ?_) (fun c3 => ?_)
      · have hw := Eq.mp (if_pos c3) hw
        exact hxt y5 _ (lv_sub hl [5] rfl) hw
      · have hw := Eq.mp (if_neg c3) hw
        refine lv_iload hx hb dX7_isThere_25 (lv_at hl 5 rfl) ?_
        refine lv_if_ne (tgt := 54) hx hb dX7_isThere_27 (by decide) (fun c4 => ?_) (fun c4 => ?_)
        · have hw := Eq.mp (if_neg c4) hw
          exact hxt y5 _ (lv_sub hl [5] rfl) hw
        · have hw := Eq.mp (if_pos c4) hw
          refine lv_aload_n hx hb dX7_isThere_30 rfl (lv_at hl 0 rfl) ?_
          refine lv_iload_n hx hb dX7_isThere_31 rfl (lv_at hl 1 rfl) ?_
          refine lv_iload hx hb dX7_isThere_32 (lv_at hl 6 rfl) ?_
          refine callR (va_runV (As := [.int x1, .int y6]) (rest := []) ⟨hx, hb, hml, hown, hW⟩ (c_X7_whereBehind l D cI cZ ad  S0 x1 y6 _ hw) (cwV0 hW mV_X7_whereBehind ml_X7_142 ⟨Nat.le_of_ble_eq_true rfl, Nat.le_of_ble_eq_true rfl⟩) (preV0 0 rfl rfl hK hN hP hD [0] rfl rfl) rfl rfl hl.1 rfl (lv_room (Nat.le_of_ble_eq_true rfl)) dX7_isThere_34 ⟨Nat.le_refl _, Nat.le_refl _⟩) (fun v9 hq => ?_)
          obtain ⟨v5, rfl, hw⟩ := hq
          refine W.eq (g2 := F0 m 37 ls [.int v5]) rfl ?_
          refine lv_iload_n hx hb dX7_isThere_37 rfl (lv_at hl 2 rfl) ?_
          refine lv_icmp_ne (tgt := 45) hx hb dX7_isThere_38 (by decide) (fun c6 => ?_) (fun c6 => ?_)
          · have hw := Eq.mp (if_neg c6) hw
            refine lv_iconst (v := 0) hx hb dX7_isThere_45 (by decide) ?_
            refine lv_istore (lv' := [(5, .int 0), (0, .ref (ad 0)), (1, .int x1), (2, .int x2), (3, .int x3), (4, .int x4), (6, .int y6)]) hx hb dX7_isThere_46 hl (by decide) rfl (fun ls hl => ?_)
            refine lv_iinc (v := (y6 + 1)) (lv' := [(6, .int (y6 + 1)), (5, .int 0), (0, .ref (ad 0)), (1, .int x1), (2, .int x2), (3, .int x3), (4, .int x4)]) hx hb dX7_isThere_48 hl (k := 6) rfl rfl (by decide) rfl (fun ls hl => ?_)
            refine lv_goto (tgt := 10) hx hb dX7_isThere_51 (by decide) ?_
            exact ih 0 (y6 + 1) _ (lv_sub hl [2, 3, 4, 5, 6, 1, 0] rfl) hw
          · have hw := Eq.mp (if_pos c6) hw
            refine lv_iconst (v := 1) hx hb dX7_isThere_41 (by decide) ?_
            refine lv_goto (tgt := 46) hx hb dX7_isThere_42 (by decide) ?_
            refine lv_istore (lv' := [(5, .int 1), (0, .ref (ad 0)), (1, .int x1), (2, .int x2), (3, .int x3), (4, .int x4), (6, .int y6)]) hx hb dX7_isThere_46 hl (by decide) rfl (fun ls hl => ?_)
            refine lv_iinc (v := (y6 + 1)) (lv' := [(6, .int (y6 + 1)), (5, .int 1), (0, .ref (ad 0)), (1, .int x1), (2, .int x2), (3, .int x3), (4, .int x4)]) hx hb dX7_isThere_48 hl (k := 6) rfl rfl (by decide) rfl (fun ls hl => ?_)
            refine lv_goto (tgt := 10) hx hb dX7_isThere_51 (by decide) ?_
            exact ih 1 (y6 + 1) _ (lv_sub hl [2, 3, 4, 5, 6, 1, 0] rfl) hw
  have hw : (wp_X7_equinoxes S0 x3 (fun (v1 : Int32) => (∃ M8, wl_X7_isThere_10 S0 x1 x2 x3 x4 (fun (v7 : Int32) => ((v7 = 0 ∨ v7 = 1) ∧ (k v7))) M8 0 v1))) := hw
  refine lv_iconst (v := 0) hx hb dX7_isThere_0 (by decide) ?_
  refine lv_istore (lv' := [(5, .int 0), (0, .ref (ad 0)), (1, .int x1), (2, .int x2), (3, .int x3), (4, .int x4)]) hx hb dX7_isThere_1 hl (by decide) rfl (fun ls hl => ?_)
  refine lv_aload_n hx hb dX7_isThere_3 rfl (lv_at hl 1 rfl) ?_
  refine lv_iload_n hx hb dX7_isThere_4 rfl (lv_at hl 4 rfl) ?_
  refine callR (va_runV (As := [.int x3]) (rest := []) ⟨hx, hb, hml, hown, hW⟩ (c_X7_equinoxes l D cI cZ ad  S0 x3 _ hw) (cwV0 hW mV_X7_equinoxes ml_X7_138 ⟨Nat.le_of_ble_eq_true rfl, Nat.le_of_ble_eq_true rfl⟩) (preV0 0 rfl rfl hK hN hP hD [0] rfl rfl) rfl rfl hl.1 rfl (lv_room (Nat.le_of_ble_eq_true rfl)) dX7_isThere_5 ⟨Nat.le_refl _, Nat.le_refl _⟩) (fun v9 hq => ?_)
  obtain ⟨v1, rfl, hw⟩ := hq
  refine W.eq (g2 := F0 m 8 ls [.int v1]) rfl ?_
  refine lv_istore (lv' := [(6, .int v1), (5, .int 0), (0, .ref (ad 0)), (1, .int x1), (2, .int x2), (3, .int x3), (4, .int x4)]) hx hb dX7_isThere_8 hl (by decide) rfl (fun ls hl => ?_)
  obtain ⟨N9, hw⟩ := hw
  refine L10  _ (fun v7 ls hl hw => ?_) N9 0 v1 _ (lv_sub hl [2, 3, 4, 5, 6, 1, 0] rfl) hw
  refine lv_iload hx hb dX7_isThere_54 (lv_at hl 0 rfl) ?_
  exact W.zret (v := v7) hx hb hr (nb_of hw.1) (fun t ht _ => ⟨⟨_, rfl, ⟨_, rfl, hw.2⟩⟩, ht⟩) (fun _ h => by cases h) dX7_isThere_56
set_option maxHeartbeats 4000000 in
set_option maxRecDepth 100000 in
theorem c_X7_begin (l : Launch) (D : va_G) (cI cZ : ClassId) (ad : Nat → Nat) (S0 : St) (x1 : Int32) (x2 : Int32) (x3 : Int32) (k : Int32 → Prop) (hw : wp_X7_begin S0 x1 x2 x3 k) : KR l yX7_begin cX7_begin 5 (some .int) 3 65 D cI cZ [.ref (ad 0), .int x1, .int x2, .int x3] [mcells cI cZ ad 0 S0] (fun v => ∃ r, v = some (.int r) ∧ k r) := by
  refine Met.ofE (by decide +kernel) (Nat.le_of_ble_eq_true rfl) ?_
  intro p e s m below meth c E ls hl
  obtain ⟨hx, hb, hr, hml, hW, hown, hlocks, hP, hK, hD, hN⟩ := E
  have hl : lv_has ls 5 [(0, .ref (ad 0)), (1, .int x1), (2, .int x2), (3, .int x3)] := hl
  have L28 : ∀  (kx : Prop), (∀ ls : Array Slot, lv_has ls 5 [] → kx → W p l e { frames := 3, cells := 0, slots := 0, locals := 65 } s m ([.ref (ad 0), .int x1, .int x2, .int x3] : List Value).toArray below meth c s.heap [] 0 0 (MQ below (QR (fun v => ∃ r, v = some (.int r) ∧ k r)) ([.ref (ad 0), .int x1, .int x2, .int x3] : List Value).toArray s 0 0 (fun _ => False)) (F0 m 57 ls [])) → ∀ (N28 : Nat) (y4 : Int32), ∀ ls : Array Slot, lv_has ls 5 [(0, .ref (ad 0)), (1, .int x1), (2, .int x2), (3, .int x3), (4, .int y4)] → wl_X7_begin_28 S0 x1 x2 x3 kx k N28 y4 → W p l e { frames := 3, cells := 0, slots := 0, locals := 65 } s m ([.ref (ad 0), .int x1, .int x2, .int x3] : List Value).toArray below meth c s.heap [] 0 0 (MQ below (QR (fun v => ∃ r, v = some (.int r) ∧ k r)) ([.ref (ad 0), .int x1, .int x2, .int x3] : List Value).toArray s 0 0 (fun _ => False)) (F0 m 28 ls []) := by
    intro  kx hxt N28
    induction N28 with
    | zero => intro y4 ls hl hw; exact False.elim hw
    | succ N28 ih =>
      intro y4 ls hl hw
      have hw : (if 9999 < y4 then kx else (wp_X7_isThere S0 x1 x2 y4 x3 (fun (v4 : Int32) => (if v4 = 0 then (k y4) else (wl_X7_begin_28 S0 x1 x2 x3 kx k N28 (y4 + 1)))))) := hw
      refine lv_iload hx hb dX7_begin_28 (lv_at hl 4 rfl) ?_
      refine lv_sipush (v := 9999) hx hb dX7_begin_30 (by decide) ?_
      refine lv_icmp_gt (tgt := 57) hx hb dX7_begin_33 (by decide) (fun c3 => ?_) (fun c3 => ?_)
      · have hw := Eq.mp (if_pos c3) hw
        exact hxt  _ (lv_sub hl [] rfl) hw
      · have hw := Eq.mp (if_neg c3) hw
        refine lv_aload_n hx hb dX7_begin_36 rfl (lv_at hl 0 rfl) ?_
        refine lv_iload_n hx hb dX7_begin_37 rfl (lv_at hl 1 rfl) ?_
        refine lv_iload_n hx hb dX7_begin_38 rfl (lv_at hl 2 rfl) ?_
        refine lv_iload hx hb dX7_begin_39 (lv_at hl 4 rfl) ?_
        refine lv_iload_n hx hb dX7_begin_41 rfl (lv_at hl 3 rfl) ?_
        refine callR (va_runV (As := [.int x1, .int x2, .int y4, .int x3]) (rest := []) ⟨hx, hb, hml, hown, hW⟩ (c_X7_isThere l D cI cZ ad  S0 x1 x2 y4 x3 _ hw) (cwV0 hW mV_X7_isThere ml_X7_155 ⟨Nat.le_of_ble_eq_true rfl, Nat.le_of_ble_eq_true rfl⟩) (preV0 0 rfl rfl hK hN hP hD [0] rfl rfl) rfl rfl hl.1 rfl (lv_room (Nat.le_of_ble_eq_true rfl)) dX7_begin_42 ⟨Nat.le_refl _, Nat.le_refl _⟩) (fun v9 hq => ?_)
        obtain ⟨v4, rfl, hw⟩ := hq
        refine W.eq (g2 := F0 m 45 ls [.int v4]) rfl ?_
        refine lv_if_ne (tgt := 51) hx hb dX7_begin_45 (by decide) (fun c5 => ?_) (fun c5 => ?_)
        · have hw := Eq.mp (if_neg c5) hw
          refine lv_iinc (v := (y4 + 1)) (lv' := [(4, .int (y4 + 1)), (0, .ref (ad 0)), (1, .int x1), (2, .int x2), (3, .int x3)]) hx hb dX7_begin_51 hl (k := 4) rfl rfl (by decide) rfl (fun ls hl => ?_)
          refine lv_goto (tgt := 28) hx hb dX7_begin_54 (by decide) ?_
          exact ih (y4 + 1) _ (lv_sub hl [1, 2, 3, 4, 0] rfl) hw
        · have hw := Eq.mp (if_pos c5) hw
          refine lv_iload hx hb dX7_begin_48 (lv_at hl 4 rfl) ?_
          exact W.iret (v := y4) hx hb hr (fun t ht _ => ⟨⟨_, rfl, ⟨_, rfl, hw⟩⟩, ht⟩) (fun _ h => by cases h) dX7_begin_50
  have hw : (if (F_X7_areTwo S0 x1 x2) = 0 then (k (-1)) else (if (F_X7_in x3 1 400) = 0 then (k (-2)) else (∃ M6, wl_X7_begin_28 S0 x1 x2 x3 (k (-6)) k M6 0))) := hw
  refine lv_aload_n hx hb dX7_begin_0 rfl (lv_at hl 0 rfl) ?_
  refine lv_iload_n hx hb dX7_begin_1 rfl (lv_at hl 1 rfl) ?_
  refine lv_iload_n hx hb dX7_begin_2 rfl (lv_at hl 2 rfl) ?_
  refine callF (va_runV (As := [.int x1, .int x2]) (rest := []) ⟨hx, hb, hml, hown, hW⟩ (c_X7_areTwo l D cI cZ ad  S0 x1 x2 _ rfl) (cwV0 hW mV_X7_areTwo ml_X7_145 ⟨Nat.le_of_ble_eq_true rfl, Nat.le_of_ble_eq_true rfl⟩) (preV0 0 rfl rfl hK hN hP hD [0] rfl rfl) rfl rfl hl.1 rfl (lv_room (Nat.le_of_ble_eq_true rfl)) dX7_begin_3 ⟨Nat.le_refl _, Nat.le_refl _⟩) ?_
  refine W.eq (g2 := F0 m 6 ls [.int (F_X7_areTwo S0 x1 x2)]) rfl ?_
  refine lv_if_ne (tgt := 11) hx hb dX7_begin_6 (by decide) (fun c1 => ?_) (fun c1 => ?_)
  · have hw := Eq.mp (if_neg c1) hw
    refine lv_iload_n hx hb dX7_begin_11 rfl (lv_at hl 3 rfl) ?_
    refine lv_iconst (v := 1) hx hb dX7_begin_12 (by decide) ?_
    refine lv_sipush (v := 400) hx hb dX7_begin_13 (by decide) ?_
    refine callF (va_runS (As := [.int x3, .int 1, .int 400]) (rest := []) ⟨hx, hb, hml, hown, hW⟩ (c_X7_in l D cI cZ x3 1 400 _ rfl) (cwS0 hW mS_X7_in ml_X7_78 ⟨Nat.le_of_ble_eq_true rfl, Nat.le_of_ble_eq_true rfl⟩) (preS0 hK hN hP hD [] rfl rfl) rfl rfl hl.1 rfl (lv_room (Nat.le_of_ble_eq_true rfl)) dX7_begin_16 ⟨Nat.le_refl _, Nat.le_refl _⟩) ?_
    refine W.eq (g2 := F0 m 19 ls [.int (F_X7_in x3 1 400)]) rfl ?_
    refine lv_if_ne (tgt := 25) hx hb dX7_begin_19 (by decide) (fun c2 => ?_) (fun c2 => ?_)
    · have hw := Eq.mp (if_neg c2) hw
      refine lv_iconst (v := 0) hx hb dX7_begin_25 (by decide) ?_
      refine lv_istore (lv' := [(4, .int 0), (0, .ref (ad 0)), (1, .int x1), (2, .int x2), (3, .int x3)]) hx hb dX7_begin_26 hl (by decide) rfl (fun ls hl => ?_)
      obtain ⟨N7, hw⟩ := hw
      refine L28  _ (fun  ls hl hw => ?_) N7 0 _ (lv_sub hl [1, 2, 3, 4, 0] rfl) hw
      refine lv_bipush (v := (-6)) hx hb dX7_begin_57 (by decide) ?_
      exact W.iret (v := (-6)) hx hb hr (fun t ht _ => ⟨⟨_, rfl, ⟨_, rfl, hw⟩⟩, ht⟩) (fun _ h => by cases h) dX7_begin_59
    · have hw := Eq.mp (if_pos c2) hw
      refine lv_bipush (v := (-2)) hx hb dX7_begin_22 (by decide) ?_
      exact W.iret (v := (-2)) hx hb hr (fun t ht _ => ⟨⟨_, rfl, ⟨_, rfl, hw⟩⟩, ht⟩) (fun _ h => by cases h) dX7_begin_24
  · have hw := Eq.mp (if_pos c1) hw
    refine lv_iconst (v := (-1)) hx hb dX7_begin_9 (by decide) ?_
    exact W.iret (v := (-1)) hx hb hr (fun t ht _ => ⟨⟨_, rfl, ⟨_, rfl, hw⟩⟩, ht⟩) (fun _ h => by cases h) dX7_begin_10
set_option maxHeartbeats 4000000 in
set_option maxRecDepth 100000 in
theorem c_X7_longest (l : Launch) (D : va_G) (cI cZ : ClassId) (ad : Nat → Nat) (S0 : St) (x1 : Int32) (x2 : Int32) (x3 : Int32) (k : Int32 → Prop) (hw : wp_X7_longest S0 x1 x2 x3 k) : KR l yX7_longest cX7_longest 5 (some .int) 3 65 D cI cZ [.ref (ad 0), .int x1, .int x2, .int x3] [mcells cI cZ ad 0 S0] (fun v => ∃ r, v = some (.int r) ∧ k r) := by
  refine Met.ofE (by decide +kernel) (Nat.le_of_ble_eq_true rfl) ?_
  intro p e s m below meth c E ls hl
  obtain ⟨hx, hb, hr, hml, hW, hown, hlocks, hP, hK, hD, hN⟩ := E
  have hl : lv_has ls 5 [(0, .ref (ad 0)), (1, .int x1), (2, .int x2), (3, .int x3)] := hl
  have L50 : ∀  (kx : Prop), (∀ ls : Array Slot, lv_has ls 5 [] → kx → W p l e { frames := 3, cells := 0, slots := 0, locals := 65 } s m ([.ref (ad 0), .int x1, .int x2, .int x3] : List Value).toArray below meth c s.heap [] 0 0 (MQ below (QR (fun v => ∃ r, v = some (.int r) ∧ k r)) ([.ref (ad 0), .int x1, .int x2, .int x3] : List Value).toArray s 0 0 (fun _ => False)) (F0 m 90 ls [])) → ∀ (N50 : Nat) (y4 : Int32), ∀ ls : Array Slot, lv_has ls 5 [(0, .ref (ad 0)), (1, .int x1), (2, .int x2), (3, .int x3), (4, .int y4)] → wl_X7_longest_50 S0 x1 x2 x3 kx k N50 y4 → W p l e { frames := 3, cells := 0, slots := 0, locals := 65 } s m ([.ref (ad 0), .int x1, .int x2, .int x3] : List Value).toArray below meth c s.heap [] 0 0 (MQ below (QR (fun v => ∃ r, v = some (.int r) ∧ k r)) ([.ref (ad 0), .int x1, .int x2, .int x3] : List Value).toArray s 0 0 (fun _ => False)) (F0 m 50 ls []) := by
    intro  kx hxt N50
    induction N50 with
    | zero => intro y4 ls hl hw; exact False.elim hw
    | succ N50 ih =>
      intro y4 ls hl hw
      have hw : (if 9999 ≤ ((F_X7_firstDay S0 y4) - x3) then kx else (wp_X7_whereBehind S0 x1 y4 (fun (v8 : Int32) => (if v8 = x2 then (k ((F_X7_firstDay S0 y4) - x3)) else (wl_X7_longest_50 S0 x1 x2 x3 kx k N50 (y4 + 1)))))) := hw
      refine lv_aload_n hx hb dX7_longest_50 rfl (lv_at hl 0 rfl) ?_
      refine lv_iload hx hb dX7_longest_51 (lv_at hl 4 rfl) ?_
      refine callF (va_runV (As := [.int y4]) (rest := []) ⟨hx, hb, hml, hown, hW⟩ (c_X7_firstDay l D cI cZ ad  S0 y4 _ rfl) (cwV0 hW mV_X7_firstDay ml_X7_152 ⟨Nat.le_of_ble_eq_true rfl, Nat.le_of_ble_eq_true rfl⟩) (preV0 0 rfl rfl hK hN hP hD [0] rfl rfl) rfl rfl hl.1 rfl (lv_room (Nat.le_of_ble_eq_true rfl)) dX7_longest_53 ⟨Nat.le_refl _, Nat.le_refl _⟩) ?_
      refine W.eq (g2 := F0 m 56 ls [.int (F_X7_firstDay S0 y4)]) rfl ?_
      refine lv_iload_n hx hb dX7_longest_56 rfl (lv_at hl 3 rfl) ?_
      refine lv_isub hx hb dX7_longest_57 ?_
      refine lv_sipush (v := 9999) hx hb dX7_longest_58 (by decide) ?_
      refine lv_icmp_ge (tgt := 90) hx hb dX7_longest_61 (by decide) (fun c7 => ?_) (fun c7 => ?_)
      · have hw := Eq.mp (if_pos c7) hw
        exact hxt  _ (lv_sub hl [] rfl) hw
      · have hw := Eq.mp (if_neg c7) hw
        refine lv_aload_n hx hb dX7_longest_64 rfl (lv_at hl 0 rfl) ?_
        refine lv_iload_n hx hb dX7_longest_65 rfl (lv_at hl 1 rfl) ?_
        refine lv_iload hx hb dX7_longest_66 (lv_at hl 4 rfl) ?_
        refine callR (va_runV (As := [.int x1, .int y4]) (rest := []) ⟨hx, hb, hml, hown, hW⟩ (c_X7_whereBehind l D cI cZ ad  S0 x1 y4 _ hw) (cwV0 hW mV_X7_whereBehind ml_X7_142 ⟨Nat.le_of_ble_eq_true rfl, Nat.le_of_ble_eq_true rfl⟩) (preV0 0 rfl rfl hK hN hP hD [0] rfl rfl) rfl rfl hl.1 rfl (lv_room (Nat.le_of_ble_eq_true rfl)) dX7_longest_68 ⟨Nat.le_refl _, Nat.le_refl _⟩) (fun v9 hq => ?_)
        obtain ⟨v8, rfl, hw⟩ := hq
        refine W.eq (g2 := F0 m 71 ls [.int v8]) rfl ?_
        refine lv_iload_n hx hb dX7_longest_71 rfl (lv_at hl 2 rfl) ?_
        refine lv_icmp_ne (tgt := 84) hx hb dX7_longest_72 (by decide) (fun c9 => ?_) (fun c9 => ?_)
        · have hw := Eq.mp (if_neg c9) hw
          refine lv_iinc (v := (y4 + 1)) (lv' := [(4, .int (y4 + 1)), (0, .ref (ad 0)), (1, .int x1), (2, .int x2), (3, .int x3)]) hx hb dX7_longest_84 hl (k := 4) rfl rfl (by decide) rfl (fun ls hl => ?_)
          refine lv_goto (tgt := 50) hx hb dX7_longest_87 (by decide) ?_
          exact ih (y4 + 1) _ (lv_sub hl [1, 2, 3, 4, 0] rfl) hw
        · have hw := Eq.mp (if_pos c9) hw
          refine lv_aload_n hx hb dX7_longest_75 rfl (lv_at hl 0 rfl) ?_
          refine lv_iload hx hb dX7_longest_76 (lv_at hl 4 rfl) ?_
          refine callF (va_runV (As := [.int y4]) (rest := []) ⟨hx, hb, hml, hown, hW⟩ (c_X7_firstDay l D cI cZ ad  S0 y4 _ rfl) (cwV0 hW mV_X7_firstDay ml_X7_152 ⟨Nat.le_of_ble_eq_true rfl, Nat.le_of_ble_eq_true rfl⟩) (preV0 0 rfl rfl hK hN hP hD [0] rfl rfl) rfl rfl hl.1 rfl (lv_room (Nat.le_of_ble_eq_true rfl)) dX7_longest_78 ⟨Nat.le_refl _, Nat.le_refl _⟩) ?_
          refine W.eq (g2 := F0 m 81 ls [.int (F_X7_firstDay S0 y4)]) rfl ?_
          refine lv_iload_n hx hb dX7_longest_81 rfl (lv_at hl 3 rfl) ?_
          refine lv_isub hx hb dX7_longest_82 ?_
          exact W.iret (v := ((F_X7_firstDay S0 y4) - x3)) hx hb hr (fun t ht _ => ⟨⟨_, rfl, ⟨_, rfl, hw⟩⟩, ht⟩) (fun _ h => by cases h) dX7_longest_83
  have hw : (if (F_X7_areTwo S0 x1 x2) = 0 then (k (-1)) else (if (F_X7_in x3 0 9999) = 0 then (k (-2)) else (wp_X7_equinoxes S0 x3 (fun (v3 : Int32) => (wp_X7_whereBehind S0 x1 v3 (fun (v4 : Int32) => (if v4 = x2 then (k 0) else (wp_X7_equinoxes S0 x3 (fun (v6 : Int32) => (∃ M10, wl_X7_longest_50 S0 x1 x2 x3 (k 9999) k M10 (v6 + 1))))))))))) := hw
  refine lv_aload_n hx hb dX7_longest_0 rfl (lv_at hl 0 rfl) ?_
  refine lv_iload_n hx hb dX7_longest_1 rfl (lv_at hl 1 rfl) ?_
  refine lv_iload_n hx hb dX7_longest_2 rfl (lv_at hl 2 rfl) ?_
  refine callF (va_runV (As := [.int x1, .int x2]) (rest := []) ⟨hx, hb, hml, hown, hW⟩ (c_X7_areTwo l D cI cZ ad  S0 x1 x2 _ rfl) (cwV0 hW mV_X7_areTwo ml_X7_145 ⟨Nat.le_of_ble_eq_true rfl, Nat.le_of_ble_eq_true rfl⟩) (preV0 0 rfl rfl hK hN hP hD [0] rfl rfl) rfl rfl hl.1 rfl (lv_room (Nat.le_of_ble_eq_true rfl)) dX7_longest_3 ⟨Nat.le_refl _, Nat.le_refl _⟩) ?_
  refine W.eq (g2 := F0 m 6 ls [.int (F_X7_areTwo S0 x1 x2)]) rfl ?_
  refine lv_if_ne (tgt := 11) hx hb dX7_longest_6 (by decide) (fun c1 => ?_) (fun c1 => ?_)
  · have hw := Eq.mp (if_neg c1) hw
    refine lv_iload_n hx hb dX7_longest_11 rfl (lv_at hl 3 rfl) ?_
    refine lv_iconst (v := 0) hx hb dX7_longest_12 (by decide) ?_
    refine lv_sipush (v := 9999) hx hb dX7_longest_13 (by decide) ?_
    refine callF (va_runS (As := [.int x3, .int 0, .int 9999]) (rest := []) ⟨hx, hb, hml, hown, hW⟩ (c_X7_in l D cI cZ x3 0 9999 _ rfl) (cwS0 hW mS_X7_in ml_X7_78 ⟨Nat.le_of_ble_eq_true rfl, Nat.le_of_ble_eq_true rfl⟩) (preS0 hK hN hP hD [] rfl rfl) rfl rfl hl.1 rfl (lv_room (Nat.le_of_ble_eq_true rfl)) dX7_longest_16 ⟨Nat.le_refl _, Nat.le_refl _⟩) ?_
    refine W.eq (g2 := F0 m 19 ls [.int (F_X7_in x3 0 9999)]) rfl ?_
    refine lv_if_ne (tgt := 25) hx hb dX7_longest_19 (by decide) (fun c2 => ?_) (fun c2 => ?_)
    · have hw := Eq.mp (if_neg c2) hw
      refine lv_aload_n hx hb dX7_longest_25 rfl (lv_at hl 0 rfl) ?_
      refine lv_iload_n hx hb dX7_longest_26 rfl (lv_at hl 1 rfl) ?_
      refine lv_aload_n hx hb dX7_longest_27 rfl (lv_at hl 0 rfl) ?_
      refine lv_iload_n hx hb dX7_longest_28 rfl (lv_at hl 3 rfl) ?_
      refine callR (va_runV (As := [.int x3]) (rest := [.int x1, .ref (ad 0)]) ⟨hx, hb, hml, hown, hW⟩ (c_X7_equinoxes l D cI cZ ad  S0 x3 _ hw) (cwV0 hW mV_X7_equinoxes ml_X7_138 ⟨Nat.le_of_ble_eq_true rfl, Nat.le_of_ble_eq_true rfl⟩) (preV0 0 rfl rfl hK hN hP hD [0] rfl rfl) rfl rfl hl.1 rfl (lv_room (Nat.le_of_ble_eq_true rfl)) dX7_longest_29 ⟨Nat.le_refl _, Nat.le_refl _⟩) (fun v9 hq => ?_)
      obtain ⟨v3, rfl, hw⟩ := hq
      refine W.eq (g2 := F0 m 32 ls [.int v3, .int x1, .ref (ad 0)]) rfl ?_
      refine callR (va_runV (As := [.int x1, .int v3]) (rest := []) ⟨hx, hb, hml, hown, hW⟩ (c_X7_whereBehind l D cI cZ ad  S0 x1 v3 _ hw) (cwV0 hW mV_X7_whereBehind ml_X7_142 ⟨Nat.le_of_ble_eq_true rfl, Nat.le_of_ble_eq_true rfl⟩) (preV0 0 rfl rfl hK hN hP hD [0] rfl rfl) rfl rfl hl.1 rfl (lv_room (Nat.le_of_ble_eq_true rfl)) dX7_longest_32 ⟨Nat.le_refl _, Nat.le_refl _⟩) (fun v9 hq => ?_)
      obtain ⟨v4, rfl, hw⟩ := hq
      refine W.eq (g2 := F0 m 35 ls [.int v4]) rfl ?_
      refine lv_iload_n hx hb dX7_longest_35 rfl (lv_at hl 2 rfl) ?_
      refine lv_icmp_ne (tgt := 41) hx hb dX7_longest_36 (by decide) (fun c5 => ?_) (fun c5 => ?_)
      · have hw := Eq.mp (if_neg c5) hw
        refine lv_aload_n hx hb dX7_longest_41 rfl (lv_at hl 0 rfl) ?_
        refine lv_iload_n hx hb dX7_longest_42 rfl (lv_at hl 3 rfl) ?_
        refine callR (va_runV (As := [.int x3]) (rest := []) ⟨hx, hb, hml, hown, hW⟩ (c_X7_equinoxes l D cI cZ ad  S0 x3 _ hw) (cwV0 hW mV_X7_equinoxes ml_X7_138 ⟨Nat.le_of_ble_eq_true rfl, Nat.le_of_ble_eq_true rfl⟩) (preV0 0 rfl rfl hK hN hP hD [0] rfl rfl) rfl rfl hl.1 rfl (lv_room (Nat.le_of_ble_eq_true rfl)) dX7_longest_43 ⟨Nat.le_refl _, Nat.le_refl _⟩) (fun v9 hq => ?_)
        obtain ⟨v6, rfl, hw⟩ := hq
        refine W.eq (g2 := F0 m 46 ls [.int v6]) rfl ?_
        refine lv_iconst (v := 1) hx hb dX7_longest_46 (by decide) ?_
        refine lv_iadd hx hb dX7_longest_47 ?_
        refine lv_istore (lv' := [(4, .int (v6 + 1)), (0, .ref (ad 0)), (1, .int x1), (2, .int x2), (3, .int x3)]) hx hb dX7_longest_48 hl (by decide) rfl (fun ls hl => ?_)
        obtain ⟨N11, hw⟩ := hw
        refine L50  _ (fun  ls hl hw => ?_) N11 (v6 + 1) _ (lv_sub hl [1, 2, 3, 4, 0] rfl) hw
        refine lv_sipush (v := 9999) hx hb dX7_longest_90 (by decide) ?_
        exact W.iret (v := 9999) hx hb hr (fun t ht _ => ⟨⟨_, rfl, ⟨_, rfl, hw⟩⟩, ht⟩) (fun _ h => by cases h) dX7_longest_93
      · have hw := Eq.mp (if_pos c5) hw
        refine lv_iconst (v := 0) hx hb dX7_longest_39 (by decide) ?_
        exact W.iret (v := 0) hx hb hr (fun t ht _ => ⟨⟨_, rfl, ⟨_, rfl, hw⟩⟩, ht⟩) (fun _ h => by cases h) dX7_longest_40
    · have hw := Eq.mp (if_pos c2) hw
      refine lv_bipush (v := (-2)) hx hb dX7_longest_22 (by decide) ?_
      exact W.iret (v := (-2)) hx hb hr (fun t ht _ => ⟨⟨_, rfl, ⟨_, rfl, hw⟩⟩, ht⟩) (fun _ h => by cases h) dX7_longest_24
  · have hw := Eq.mp (if_pos c1) hw
    refine lv_iconst (v := (-1)) hx hb dX7_longest_9 (by decide) ?_
    exact W.iret (v := (-1)) hx hb hr (fun t ht _ => ⟨⟨_, rfl, ⟨_, rfl, hw⟩⟩, ht⟩) (fun _ h => by cases h) dX7_longest_10
set_option maxHeartbeats 4000000 in
set_option maxRecDepth 100000 in
theorem c_X7_isWar (l : Launch) (D : va_G) (cI cZ : ClassId) (ad : Nat → Nat) (S0 : St) (x1 : Int32) (x2 : Int32) (r9 : Int32) (hw : F_X7_isWar S0 x1 x2 = r9) : KF l yX7_isWar cX7_isWar 3 (some .boolean) 1 22 D cI cZ [.ref (ad 0), .int x1, .int x2] [mcells cI cZ ad 0 S0] (some (.int r9)) := by
  refine Met.ofE (by decide +kernel) (Nat.le_of_ble_eq_true rfl) ?_
  intro p e s m below meth c E ls hl
  obtain ⟨hx, hb, hr, hml, hW, hown, hlocks, hP, hK, hD, hN⟩ := E
  have hl : lv_has ls 3 [(0, .ref (ad 0)), (1, .int x1), (2, .int x2)] := hl
  have hw : (if (F_X7_in x1 0 9999) = 0 then 0 else (if (F_X7_in x2 1 400) = 0 then 0 else 1)) = r9 := hw
  refine lv_iload_n hx hb dX7_isWar_0 rfl (lv_at hl 1 rfl) ?_
  refine lv_iconst (v := 0) hx hb dX7_isWar_1 (by decide) ?_
  refine lv_sipush (v := 9999) hx hb dX7_isWar_2 (by decide) ?_
  refine callF (va_runS (As := [.int x1, .int 0, .int 9999]) (rest := []) ⟨hx, hb, hml, hown, hW⟩ (c_X7_in l D cI cZ x1 0 9999 _ rfl) (cwS0 hW mS_X7_in ml_X7_78 ⟨Nat.le_of_ble_eq_true rfl, Nat.le_of_ble_eq_true rfl⟩) (preS0 hK hN hP hD [] rfl rfl) rfl rfl hl.1 rfl (lv_room (Nat.le_of_ble_eq_true rfl)) dX7_isWar_5 ⟨Nat.le_refl _, Nat.le_refl _⟩) ?_
  refine W.eq (g2 := F0 m 8 ls [.int (F_X7_in x1 0 9999)]) rfl ?_
  refine lv_if_eq (tgt := 26) hx hb dX7_isWar_8 (by decide) (fun c1 => ?_) (fun c1 => ?_)
  · have hw := (if_pos c1).symm.trans hw
    refine lv_iconst (v := 0) hx hb dX7_isWar_26 (by decide) ?_
    subst hw
    exact W.zret (v := 0) hx hb hr rfl (fun t ht _ => ⟨rfl, ht⟩) (fun _ h => by cases h) dX7_isWar_27
  · have hw := (if_neg c1).symm.trans hw
    refine lv_iload_n hx hb dX7_isWar_11 rfl (lv_at hl 2 rfl) ?_
    refine lv_iconst (v := 1) hx hb dX7_isWar_12 (by decide) ?_
    refine lv_sipush (v := 400) hx hb dX7_isWar_13 (by decide) ?_
    refine callF (va_runS (As := [.int x2, .int 1, .int 400]) (rest := []) ⟨hx, hb, hml, hown, hW⟩ (c_X7_in l D cI cZ x2 1 400 _ rfl) (cwS0 hW mS_X7_in ml_X7_78 ⟨Nat.le_of_ble_eq_true rfl, Nat.le_of_ble_eq_true rfl⟩) (preS0 hK hN hP hD [] rfl rfl) rfl rfl hl.1 rfl (lv_room (Nat.le_of_ble_eq_true rfl)) dX7_isWar_16 ⟨Nat.le_refl _, Nat.le_refl _⟩) ?_
    refine W.eq (g2 := F0 m 19 ls [.int (F_X7_in x2 1 400)]) rfl ?_
    refine lv_if_eq (tgt := 26) hx hb dX7_isWar_19 (by decide) (fun c2 => ?_) (fun c2 => ?_)
    · have hw := (if_pos c2).symm.trans hw
      refine lv_iconst (v := 0) hx hb dX7_isWar_26 (by decide) ?_
      subst hw
      exact W.zret (v := 0) hx hb hr rfl (fun t ht _ => ⟨rfl, ht⟩) (fun _ h => by cases h) dX7_isWar_27
    · have hw := (if_neg c2).symm.trans hw
      refine lv_iconst (v := 1) hx hb dX7_isWar_22 (by decide) ?_
      refine lv_goto (tgt := 27) hx hb dX7_isWar_23 (by decide) ?_
      subst hw
      exact W.zret (v := 1) hx hb hr rfl (fun t ht _ => ⟨rfl, ht⟩) (fun _ h => by cases h) dX7_isWar_27
set_option maxHeartbeats 4000000 in
set_option maxRecDepth 100000 in
theorem c_X7_struck (l : Launch) (D : va_G) (cI cZ : ClassId) (ad : Nat → Nat) (S0 : St) (x1 : Int32) (x2 : Int32) (x3 : Int32) (k : Int32 → Prop) (hw : wp_X7_struck S0 x1 x2 x3 k) : KR l yX7_struck cX7_struck 6 (some .int) 2 50 D cI cZ [.ref (ad 0), .int x1, .int x2, .int x3] [mcells cI cZ ad 0 S0] (fun v => ∃ r, v = some (.int r) ∧ k r) := by
  refine Met.ofE (by decide +kernel) (Nat.le_of_ble_eq_true rfl) ?_
  intro p e s m below meth c E ls hl
  obtain ⟨hx, hb, hr, hml, hW, hown, hlocks, hP, hK, hD, hN⟩ := E
  have hl : lv_has ls 6 [(0, .ref (ad 0)), (1, .int x1), (2, .int x2), (3, .int x3)] := hl
  have L28 : ∀  (kx : Int32 → Prop), (∀ (y4 : Int32), ∀ ls : Array Slot, lv_has ls 6 [(4, .int y4)] → kx y4 → W p l e { frames := 2, cells := 0, slots := 0, locals := 50 } s m ([.ref (ad 0), .int x1, .int x2, .int x3] : List Value).toArray below meth c s.heap [] 0 0 (MQ below (QR (fun v => ∃ r, v = some (.int r) ∧ k r)) ([.ref (ad 0), .int x1, .int x2, .int x3] : List Value).toArray s 0 0 (fun _ => False)) (F0 m 74 ls [])) → ∀ (N28 : Nat) (y4 : Int32) (y5 : Int32), ∀ ls : Array Slot, lv_has ls 6 [(0, .ref (ad 0)), (1, .int x1), (2, .int x2), (3, .int x3), (4, .int y4), (5, .int y5)] → wl_X7_struck_28 S0 x1 x2 x3 kx N28 y4 y5 → W p l e { frames := 2, cells := 0, slots := 0, locals := 50 } s m ([.ref (ad 0), .int x1, .int x2, .int x3] : List Value).toArray below meth c s.heap [] 0 0 (MQ below (QR (fun v => ∃ r, v = some (.int r) ∧ k r)) ([.ref (ad 0), .int x1, .int x2, .int x3] : List Value).toArray s 0 0 (fun _ => False)) (F0 m 28 ls []) := by
    intro  kx hxt N28
    induction N28 with
    | zero => intro y4 y5 ls hl hw; exact False.elim hw
    | succ N28 ih =>
      intro y4 y5 ls hl hw
      have hw : (if (S0.1 0) ≤ y5 then (kx y4) else (if y5 = x1 then (wl_X7_struck_28 S0 x1 x2 x3 kx N28 (y4 ||| 0) (y5 + 1)) else (wp_X7_isThere S0 y5 x1 x2 x3 (fun (v5 : Int32) => (if v5 = 0 then (wl_X7_struck_28 S0 x1 x2 x3 kx N28 (y4 ||| ((1 : Int32) <<< (y5 &&& 31))) (y5 + 1)) else (wl_X7_struck_28 S0 x1 x2 x3 kx N28 (y4 ||| 0) (y5 + 1))))))) := hw
      refine lv_iload hx hb dX7_struck_28 (lv_at hl 5 rfl) ?_
      refine lv_aload_n hx hb dX7_struck_30 rfl (lv_at hl 0 rfl) ?_
      refine va_get (D := D) (ci := 7) (v := .int (S0.1 0)) (C := RX7) (T := TX7) (N := 27) hx hb hW inW_X7 hown hK hP 0 rfl rfl 0 (by decide) (hW _ fl_X7_7) (fun _ h9 => h9) rfl dX7_struck_31 ?_
      refine lv_icmp_ge (tgt := 74) hx hb dX7_struck_34 (by decide) (fun c3 => ?_) (fun c3 => ?_)
      · have hw := Eq.mp (if_pos c3) hw
        exact hxt y4 _ (lv_sub hl [4] rfl) hw
      · have hw := Eq.mp (if_neg c3) hw
        refine lv_iload hx hb dX7_struck_37 (lv_at hl 4 rfl) ?_
        refine lv_iload hx hb dX7_struck_39 (lv_at hl 5 rfl) ?_
        refine lv_iload_n hx hb dX7_struck_41 rfl (lv_at hl 1 rfl) ?_
        refine lv_icmp_eq (tgt := 64) hx hb dX7_struck_42 (by decide) (fun c4 => ?_) (fun c4 => ?_)
        · have hw := Eq.mp (if_pos c4) hw
          refine lv_iconst (v := 0) hx hb dX7_struck_64 (by decide) ?_
          refine lv_ior hx hb dX7_struck_65 ?_
          refine lv_istore (lv' := [(4, .int (y4 ||| 0)), (0, .ref (ad 0)), (1, .int x1), (2, .int x2), (3, .int x3), (5, .int y5)]) hx hb dX7_struck_66 hl (by decide) rfl (fun ls hl => ?_)
          refine lv_iinc (v := (y5 + 1)) (lv' := [(5, .int (y5 + 1)), (4, .int (y4 ||| 0)), (0, .ref (ad 0)), (1, .int x1), (2, .int x2), (3, .int x3)]) hx hb dX7_struck_68 hl (k := 5) rfl rfl (by decide) rfl (fun ls hl => ?_)
          refine lv_goto (tgt := 28) hx hb dX7_struck_71 (by decide) ?_
          exact ih (y4 ||| 0) (y5 + 1) _ (lv_sub hl [2, 3, 4, 5, 1, 0] rfl) hw
        · have hw := Eq.mp (if_neg c4) hw
          refine lv_aload_n hx hb dX7_struck_45 rfl (lv_at hl 0 rfl) ?_
          refine lv_iload hx hb dX7_struck_46 (lv_at hl 5 rfl) ?_
          refine lv_iload_n hx hb dX7_struck_48 rfl (lv_at hl 1 rfl) ?_
          refine lv_iload_n hx hb dX7_struck_49 rfl (lv_at hl 2 rfl) ?_
          refine lv_iload_n hx hb dX7_struck_50 rfl (lv_at hl 3 rfl) ?_
          refine callR (va_runV (As := [.int y5, .int x1, .int x2, .int x3]) (rest := [.int y4]) ⟨hx, hb, hml, hown, hW⟩ (c_X7_isThere l D cI cZ ad  S0 y5 x1 x2 x3 _ hw) (cwV0 hW mV_X7_isThere ml_X7_155 ⟨Nat.le_of_ble_eq_true rfl, Nat.le_of_ble_eq_true rfl⟩) (preV0 0 rfl rfl hK hN hP hD [0] rfl rfl) rfl rfl hl.1 rfl (lv_room (Nat.le_of_ble_eq_true rfl)) dX7_struck_51 ⟨Nat.le_refl _, Nat.le_refl _⟩) (fun v9 hq => ?_)
          obtain ⟨v5, rfl, hw⟩ := hq
          refine W.eq (g2 := F0 m 54 ls [.int v5, .int y4]) rfl ?_
          refine lv_if_ne (tgt := 64) hx hb dX7_struck_54 (by decide) (fun c6 => ?_) (fun c6 => ?_)
          · have hw := Eq.mp (if_neg c6) hw
            refine lv_iconst (v := 0) hx hb dX7_struck_64 (by decide) ?_
            refine lv_ior hx hb dX7_struck_65 ?_
            refine lv_istore (lv' := [(4, .int (y4 ||| 0)), (0, .ref (ad 0)), (1, .int x1), (2, .int x2), (3, .int x3), (5, .int y5)]) hx hb dX7_struck_66 hl (by decide) rfl (fun ls hl => ?_)
            refine lv_iinc (v := (y5 + 1)) (lv' := [(5, .int (y5 + 1)), (4, .int (y4 ||| 0)), (0, .ref (ad 0)), (1, .int x1), (2, .int x2), (3, .int x3)]) hx hb dX7_struck_68 hl (k := 5) rfl rfl (by decide) rfl (fun ls hl => ?_)
            refine lv_goto (tgt := 28) hx hb dX7_struck_71 (by decide) ?_
            exact ih (y4 ||| 0) (y5 + 1) _ (lv_sub hl [2, 3, 4, 5, 1, 0] rfl) hw
          · have hw := Eq.mp (if_pos c6) hw
            refine lv_iconst (v := 1) hx hb dX7_struck_57 (by decide) ?_
            refine lv_iload hx hb dX7_struck_58 (lv_at hl 5 rfl) ?_
            refine lv_ishl hx hb dX7_struck_60 ?_
            refine lv_goto (tgt := 65) hx hb dX7_struck_61 (by decide) ?_
            refine lv_ior hx hb dX7_struck_65 ?_
            refine lv_istore (lv' := [(4, .int (y4 ||| ((1 : Int32) <<< (y5 &&& 31)))), (0, .ref (ad 0)), (1, .int x1), (2, .int x2), (3, .int x3), (5, .int y5)]) hx hb dX7_struck_66 hl (by decide) rfl (fun ls hl => ?_)
            refine lv_iinc (v := (y5 + 1)) (lv' := [(5, .int (y5 + 1)), (4, .int (y4 ||| ((1 : Int32) <<< (y5 &&& 31)))), (0, .ref (ad 0)), (1, .int x1), (2, .int x2), (3, .int x3)]) hx hb dX7_struck_68 hl (k := 5) rfl rfl (by decide) rfl (fun ls hl => ?_)
            refine lv_goto (tgt := 28) hx hb dX7_struck_71 (by decide) ?_
            exact ih (y4 ||| ((1 : Int32) <<< (y5 &&& 31))) (y5 + 1) _ (lv_sub hl [2, 3, 4, 5, 1, 0] rfl) hw
  have hw : (if (F_X7_isOne S0 x1) = 0 then (k (-1)) else (if (F_X7_isWar S0 x2 x3) = 0 then (k (-2)) else (∃ M8, wl_X7_struck_28 S0 x1 x2 x3 (fun (v7 : Int32) => (k v7)) M8 0 0))) := hw
  refine lv_aload_n hx hb dX7_struck_0 rfl (lv_at hl 0 rfl) ?_
  refine lv_iload_n hx hb dX7_struck_1 rfl (lv_at hl 1 rfl) ?_
  refine callF (va_runV (As := [.int x1]) (rest := []) ⟨hx, hb, hml, hown, hW⟩ (c_X7_isOne l D cI cZ ad  S0 x1 _ rfl) (cwV0 hW mV_X7_isOne ml_X7_82 ⟨Nat.le_of_ble_eq_true rfl, Nat.le_of_ble_eq_true rfl⟩) (preV0 0 rfl rfl hK hN hP hD [0] rfl rfl) rfl rfl hl.1 rfl (lv_room (Nat.le_of_ble_eq_true rfl)) dX7_struck_2 ⟨Nat.le_refl _, Nat.le_refl _⟩) ?_
  refine W.eq (g2 := F0 m 5 ls [.int (F_X7_isOne S0 x1)]) rfl ?_
  refine lv_if_ne (tgt := 10) hx hb dX7_struck_5 (by decide) (fun c1 => ?_) (fun c1 => ?_)
  · have hw := Eq.mp (if_neg c1) hw
    refine lv_aload_n hx hb dX7_struck_10 rfl (lv_at hl 0 rfl) ?_
    refine lv_iload_n hx hb dX7_struck_11 rfl (lv_at hl 2 rfl) ?_
    refine lv_iload_n hx hb dX7_struck_12 rfl (lv_at hl 3 rfl) ?_
    refine callF (va_runV (As := [.int x2, .int x3]) (rest := []) ⟨hx, hb, hml, hown, hW⟩ (c_X7_isWar l D cI cZ ad  S0 x2 x3 _ rfl) (cwV0 hW mV_X7_isWar ml_X7_159 ⟨Nat.le_of_ble_eq_true rfl, Nat.le_of_ble_eq_true rfl⟩) (preV0 0 rfl rfl hK hN hP hD [0] rfl rfl) rfl rfl hl.1 rfl (lv_room (Nat.le_of_ble_eq_true rfl)) dX7_struck_13 ⟨Nat.le_refl _, Nat.le_refl _⟩) ?_
    refine W.eq (g2 := F0 m 16 ls [.int (F_X7_isWar S0 x2 x3)]) rfl ?_
    refine lv_if_ne (tgt := 22) hx hb dX7_struck_16 (by decide) (fun c2 => ?_) (fun c2 => ?_)
    · have hw := Eq.mp (if_neg c2) hw
      refine lv_iconst (v := 0) hx hb dX7_struck_22 (by decide) ?_
      refine lv_istore (lv' := [(4, .int 0), (0, .ref (ad 0)), (1, .int x1), (2, .int x2), (3, .int x3)]) hx hb dX7_struck_23 hl (by decide) rfl (fun ls hl => ?_)
      refine lv_iconst (v := 0) hx hb dX7_struck_25 (by decide) ?_
      refine lv_istore (lv' := [(5, .int 0), (4, .int 0), (0, .ref (ad 0)), (1, .int x1), (2, .int x2), (3, .int x3)]) hx hb dX7_struck_26 hl (by decide) rfl (fun ls hl => ?_)
      obtain ⟨N9, hw⟩ := hw
      refine L28  _ (fun v7 ls hl hw => ?_) N9 0 0 _ (lv_sub hl [2, 3, 4, 5, 1, 0] rfl) hw
      refine lv_iload hx hb dX7_struck_74 (lv_at hl 0 rfl) ?_
      exact W.iret (v := v7) hx hb hr (fun t ht _ => ⟨⟨_, rfl, ⟨_, rfl, hw⟩⟩, ht⟩) (fun _ h => by cases h) dX7_struck_76
    · have hw := Eq.mp (if_pos c2) hw
      refine lv_bipush (v := (-2)) hx hb dX7_struck_19 (by decide) ?_
      exact W.iret (v := (-2)) hx hb hr (fun t ht _ => ⟨⟨_, rfl, ⟨_, rfl, hw⟩⟩, ht⟩) (fun _ h => by cases h) dX7_struck_21
  · have hw := Eq.mp (if_pos c1) hw
    refine lv_iconst (v := (-1)) hx hb dX7_struck_8 (by decide) ?_
    exact W.iret (v := (-1)) hx hb hr (fun t ht _ => ⟨⟨_, rfl, ⟨_, rfl, hw⟩⟩, ht⟩) (fun _ h => by cases h) dX7_struck_9
set_option maxHeartbeats 4000000 in
set_option maxRecDepth 100000 in
theorem c_X7_sure (l : Launch) (D : va_G) (cI cZ : ClassId) (ad : Nat → Nat) (S0 : St) (x1 : Int32) (k : Int32 → Prop) (hw : wp_X7_sure S0 x1 k) : KR l yX7_sure cX7_sure 6 (some .int) 4 89 D cI cZ [.ref (ad 0), .int x1] [mcells cI cZ ad 0 S0] (fun v => ∃ r, v = some (.int r) ∧ k r) := by
  refine Met.ofE (by decide +kernel) (Nat.le_of_ble_eq_true rfl) ?_
  intro p e s m below meth c E ls hl
  obtain ⟨hx, hb, hr, hml, hW, hown, hlocks, hP, hK, hD, hN⟩ := E
  have hl : lv_has ls 6 [(0, .ref (ad 0)), (1, .int x1)] := hl
  have L32 : ∀ (y2 : Int32) (y3 : Int32) (kx : Int32 → Prop), (∀ (y4 : Int32), ∀ ls : Array Slot, lv_has ls 6 [(0, .ref (ad 0)), (1, .int x1), (2, .int y2), (3, .int y3), (4, .int y4)] → kx y4 → W p l e { frames := 4, cells := 0, slots := 0, locals := 89 } s m ([.ref (ad 0), .int x1] : List Value).toArray below meth c s.heap [] 0 0 (MQ below (QR (fun v => ∃ r, v = some (.int r) ∧ k r)) ([.ref (ad 0), .int x1] : List Value).toArray s 0 0 (fun _ => False)) (F0 m 76 ls [])) → ∀ (N32 : Nat) (y4 : Int32) (y5 : Int32), ∀ ls : Array Slot, lv_has ls 6 [(0, .ref (ad 0)), (1, .int x1), (2, .int y2), (3, .int y3), (4, .int y4), (5, .int y5)] → wl_X7_sure_32 S0 x1 y3 kx N32 y4 y5 → W p l e { frames := 4, cells := 0, slots := 0, locals := 89 } s m ([.ref (ad 0), .int x1] : List Value).toArray below meth c s.heap [] 0 0 (MQ below (QR (fun v => ∃ r, v = some (.int r) ∧ k r)) ([.ref (ad 0), .int x1] : List Value).toArray s 0 0 (fun _ => False)) (F0 m 32 ls []) := by
    intro y2 y3 kx hxt N32
    induction N32 with
    | zero => intro y4 y5 ls hl hw; exact False.elim hw
    | succ N32 ih =>
      intro y4 y5 ls hl hw
      have hw : (if (S0.1 0) ≤ y5 then (kx y4) else (if y4 = 0 then (kx y4) else (if y5 = y3 then (wl_X7_sure_32 S0 x1 y3 kx N32 1 (y5 + 1)) else (wp_X7_begin S0 y5 y3 x1 (fun (v6 : Int32) => (if 0 ≤ v6 then (wl_X7_sure_32 S0 x1 y3 kx N32 0 (y5 + 1)) else (wl_X7_sure_32 S0 x1 y3 kx N32 1 (y5 + 1)))))))) := hw
      refine lv_iload hx hb dX7_sure_32 (lv_at hl 5 rfl) ?_
      refine lv_aload_n hx hb dX7_sure_34 rfl (lv_at hl 0 rfl) ?_
      refine va_get (D := D) (ci := 7) (v := .int (S0.1 0)) (C := RX7) (T := TX7) (N := 27) hx hb hW inW_X7 hown hK hP 0 rfl rfl 0 (by decide) (hW _ fl_X7_7) (fun _ h9 => h9) rfl dX7_sure_35 ?_
      refine lv_icmp_ge (tgt := 76) hx hb dX7_sure_38 (by decide) (fun c3 => ?_) (fun c3 => ?_)
      · have hw := Eq.mp (if_pos c3) hw
        exact hxt y4 _ (lv_sub hl [0, 1, 2, 3, 4] rfl) hw
      · have hw := Eq.mp (if_neg c3) hw
        refine lv_iload hx hb dX7_sure_41 (lv_at hl 4 rfl) ?_
        refine lv_if_eq (tgt := 76) hx hb dX7_sure_43 (by decide) (fun c4 => ?_) (fun c4 => ?_)
        · have hw := Eq.mp (if_pos c4) hw
          exact hxt y4 _ (lv_sub hl [0, 1, 2, 3, 4] rfl) hw
        · have hw := Eq.mp (if_neg c4) hw
          refine lv_iload hx hb dX7_sure_46 (lv_at hl 5 rfl) ?_
          refine lv_iload_n hx hb dX7_sure_48 rfl (lv_at hl 3 rfl) ?_
          refine lv_icmp_eq (tgt := 63) hx hb dX7_sure_49 (by decide) (fun c5 => ?_) (fun c5 => ?_)
          · have hw := Eq.mp (if_pos c5) hw
            refine lv_iconst (v := 1) hx hb dX7_sure_63 (by decide) ?_
            refine lv_goto (tgt := 68) hx hb dX7_sure_64 (by decide) ?_
            refine lv_istore (lv' := [(4, .int 1), (0, .ref (ad 0)), (1, .int x1), (2, .int y2), (3, .int y3), (5, .int y5)]) hx hb dX7_sure_68 hl (by decide) rfl (fun ls hl => ?_)
            refine lv_iinc (v := (y5 + 1)) (lv' := [(5, .int (y5 + 1)), (4, .int 1), (0, .ref (ad 0)), (1, .int x1), (2, .int y2), (3, .int y3)]) hx hb dX7_sure_70 hl (k := 5) rfl rfl (by decide) rfl (fun ls hl => ?_)
            refine lv_goto (tgt := 32) hx hb dX7_sure_73 (by decide) ?_
            exact ih 1 (y5 + 1) _ (lv_sub hl [2, 3, 4, 5, 1, 0] rfl) hw
          · have hw := Eq.mp (if_neg c5) hw
            refine lv_aload_n hx hb dX7_sure_52 rfl (lv_at hl 0 rfl) ?_
            refine lv_iload hx hb dX7_sure_53 (lv_at hl 5 rfl) ?_
            refine lv_iload_n hx hb dX7_sure_55 rfl (lv_at hl 3 rfl) ?_
            refine lv_iload_n hx hb dX7_sure_56 rfl (lv_at hl 1 rfl) ?_
            refine callR (va_runV (As := [.int y5, .int y3, .int x1]) (rest := []) ⟨hx, hb, hml, hown, hW⟩ (c_X7_begin l D cI cZ ad  S0 y5 y3 x1 _ hw) (cwV0 hW mV_X7_begin ml_X7_162 ⟨Nat.le_of_ble_eq_true rfl, Nat.le_of_ble_eq_true rfl⟩) (preV0 0 rfl rfl hK hN hP hD [0] rfl rfl) rfl rfl hl.1 rfl (lv_room (Nat.le_of_ble_eq_true rfl)) dX7_sure_57 ⟨Nat.le_refl _, Nat.le_refl _⟩) (fun v9 hq => ?_)
            obtain ⟨v6, rfl, hw⟩ := hq
            refine W.eq (g2 := F0 m 60 ls [.int v6]) rfl ?_
            refine lv_if_ge (tgt := 67) hx hb dX7_sure_60 (by decide) (fun c7 => ?_) (fun c7 => ?_)
            · have hw := Eq.mp (if_pos c7) hw
              refine lv_iconst (v := 0) hx hb dX7_sure_67 (by decide) ?_
              refine lv_istore (lv' := [(4, .int 0), (0, .ref (ad 0)), (1, .int x1), (2, .int y2), (3, .int y3), (5, .int y5)]) hx hb dX7_sure_68 hl (by decide) rfl (fun ls hl => ?_)
              refine lv_iinc (v := (y5 + 1)) (lv' := [(5, .int (y5 + 1)), (4, .int 0), (0, .ref (ad 0)), (1, .int x1), (2, .int y2), (3, .int y3)]) hx hb dX7_sure_70 hl (k := 5) rfl rfl (by decide) rfl (fun ls hl => ?_)
              refine lv_goto (tgt := 32) hx hb dX7_sure_73 (by decide) ?_
              exact ih 0 (y5 + 1) _ (lv_sub hl [2, 3, 4, 5, 1, 0] rfl) hw
            · have hw := Eq.mp (if_neg c7) hw
              refine lv_iconst (v := 1) hx hb dX7_sure_63 (by decide) ?_
              refine lv_goto (tgt := 68) hx hb dX7_sure_64 (by decide) ?_
              refine lv_istore (lv' := [(4, .int 1), (0, .ref (ad 0)), (1, .int x1), (2, .int y2), (3, .int y3), (5, .int y5)]) hx hb dX7_sure_68 hl (by decide) rfl (fun ls hl => ?_)
              refine lv_iinc (v := (y5 + 1)) (lv' := [(5, .int (y5 + 1)), (4, .int 1), (0, .ref (ad 0)), (1, .int x1), (2, .int y2), (3, .int y3)]) hx hb dX7_sure_70 hl (k := 5) rfl rfl (by decide) rfl (fun ls hl => ?_)
              refine lv_goto (tgt := 32) hx hb dX7_sure_73 (by decide) ?_
              exact ih 1 (y5 + 1) _ (lv_sub hl [2, 3, 4, 5, 1, 0] rfl) hw
  have L18 : ∀  (kx : Int32 → Prop), (∀ (y2 : Int32), ∀ ls : Array Slot, lv_has ls 6 [(2, .int y2)] → kx y2 → W p l e { frames := 4, cells := 0, slots := 0, locals := 89 } s m ([.ref (ad 0), .int x1] : List Value).toArray below meth c s.heap [] 0 0 (MQ below (QR (fun v => ∃ r, v = some (.int r) ∧ k r)) ([.ref (ad 0), .int x1] : List Value).toArray s 0 0 (fun _ => False)) (F0 m 97 ls [])) → ∀ (N18 : Nat) (y2 : Int32) (y3 : Int32), ∀ ls : Array Slot, lv_has ls 6 [(0, .ref (ad 0)), (1, .int x1), (2, .int y2), (3, .int y3)] → wl_X7_sure_18 S0 x1 kx N18 y2 y3 → W p l e { frames := 4, cells := 0, slots := 0, locals := 89 } s m ([.ref (ad 0), .int x1] : List Value).toArray below meth c s.heap [] 0 0 (MQ below (QR (fun v => ∃ r, v = some (.int r) ∧ k r)) ([.ref (ad 0), .int x1] : List Value).toArray s 0 0 (fun _ => False)) (F0 m 18 ls []) := by
    intro  kx hxt N18
    induction N18 with
    | zero => intro y2 y3 ls hl hw; exact False.elim hw
    | succ N18 ih =>
      intro y2 y3 ls hl hw
      have hw : (if (S0.1 0) ≤ y3 then (kx y2) else (∃ M10, wl_X7_sure_32 S0 x1 y3 (fun (v8 : Int32) => (if v8 = 0 then (wl_X7_sure_18 S0 x1 kx N18 (y2 ||| 0) (y3 + 1)) else (wl_X7_sure_18 S0 x1 kx N18 (y2 ||| ((1 : Int32) <<< (y3 &&& 31))) (y3 + 1)))) M10 1 0)) := hw
      refine lv_iload_n hx hb dX7_sure_18 rfl (lv_at hl 3 rfl) ?_
      refine lv_aload_n hx hb dX7_sure_19 rfl (lv_at hl 0 rfl) ?_
      refine va_get (D := D) (ci := 7) (v := .int (S0.1 0)) (C := RX7) (T := TX7) (N := 27) hx hb hW inW_X7 hown hK hP 0 rfl rfl 0 (by decide) (hW _ fl_X7_7) (fun _ h9 => h9) rfl dX7_sure_20 ?_
      refine lv_icmp_ge (tgt := 97) hx hb dX7_sure_23 (by decide) (fun c2 => ?_) (fun c2 => ?_)
      · have hw := Eq.mp (if_pos c2) hw
        exact hxt y2 _ (lv_sub hl [2] rfl) hw
      · have hw := Eq.mp (if_neg c2) hw
        refine lv_iconst (v := 1) hx hb dX7_sure_26 (by decide) ?_
        refine lv_istore (lv' := [(4, .int 1), (0, .ref (ad 0)), (1, .int x1), (2, .int y2), (3, .int y3)]) hx hb dX7_sure_27 hl (by decide) rfl (fun ls hl => ?_)
        refine lv_iconst (v := 0) hx hb dX7_sure_29 (by decide) ?_
        refine lv_istore (lv' := [(5, .int 0), (4, .int 1), (0, .ref (ad 0)), (1, .int x1), (2, .int y2), (3, .int y3)]) hx hb dX7_sure_30 hl (by decide) rfl (fun ls hl => ?_)
        obtain ⟨N11, hw⟩ := hw
        refine L32 y2 y3 _ (fun v8 ls hl hw => ?_) N11 1 0 _ (lv_sub hl [2, 3, 4, 5, 1, 0] rfl) hw
        refine lv_iload_n hx hb dX7_sure_76 rfl (lv_at hl 2 rfl) ?_
        refine lv_iload hx hb dX7_sure_77 (lv_at hl 4 rfl) ?_
        refine lv_if_eq (tgt := 88) hx hb dX7_sure_79 (by decide) (fun c9 => ?_) (fun c9 => ?_)
        · have hw := Eq.mp (if_pos c9) hw
          refine lv_iconst (v := 0) hx hb dX7_sure_88 (by decide) ?_
          refine lv_ior hx hb dX7_sure_89 ?_
          refine lv_istore_n (lv' := [(2, .int (y2 ||| 0)), (0, .ref (ad 0)), (1, .int x1), (3, .int y3), (4, .int v8)]) hx hb dX7_sure_90 rfl hl (by decide) rfl (fun ls hl => ?_)
          refine lv_iinc (v := (y3 + 1)) (lv' := [(3, .int (y3 + 1)), (2, .int (y2 ||| 0)), (0, .ref (ad 0)), (1, .int x1), (4, .int v8)]) hx hb dX7_sure_91 hl (k := 3) rfl rfl (by decide) rfl (fun ls hl => ?_)
          refine lv_goto (tgt := 18) hx hb dX7_sure_94 (by decide) ?_
          exact ih (y2 ||| 0) (y3 + 1) _ (lv_sub hl [2, 3, 1, 0] rfl) hw
        · have hw := Eq.mp (if_neg c9) hw
          refine lv_iconst (v := 1) hx hb dX7_sure_82 (by decide) ?_
          refine lv_iload_n hx hb dX7_sure_83 rfl (lv_at hl 3 rfl) ?_
          refine lv_ishl hx hb dX7_sure_84 ?_
          refine lv_goto (tgt := 89) hx hb dX7_sure_85 (by decide) ?_
          refine lv_ior hx hb dX7_sure_89 ?_
          refine lv_istore_n (lv' := [(2, .int (y2 ||| ((1 : Int32) <<< (y3 &&& 31)))), (0, .ref (ad 0)), (1, .int x1), (3, .int y3), (4, .int v8)]) hx hb dX7_sure_90 rfl hl (by decide) rfl (fun ls hl => ?_)
          refine lv_iinc (v := (y3 + 1)) (lv' := [(3, .int (y3 + 1)), (2, .int (y2 ||| ((1 : Int32) <<< (y3 &&& 31)))), (0, .ref (ad 0)), (1, .int x1), (4, .int v8)]) hx hb dX7_sure_91 hl (k := 3) rfl rfl (by decide) rfl (fun ls hl => ?_)
          refine lv_goto (tgt := 18) hx hb dX7_sure_94 (by decide) ?_
          exact ih (y2 ||| ((1 : Int32) <<< (y3 &&& 31))) (y3 + 1) _ (lv_sub hl [2, 3, 1, 0] rfl) hw
  have hw : (if (F_X7_in x1 1 400) = 0 then (k (-2)) else (∃ M13, wl_X7_sure_18 S0 x1 (fun (v12 : Int32) => (k v12)) M13 0 0)) := hw
  refine lv_iload_n hx hb dX7_sure_0 rfl (lv_at hl 1 rfl) ?_
  refine lv_iconst (v := 1) hx hb dX7_sure_1 (by decide) ?_
  refine lv_sipush (v := 400) hx hb dX7_sure_2 (by decide) ?_
  refine callF (va_runS (As := [.int x1, .int 1, .int 400]) (rest := []) ⟨hx, hb, hml, hown, hW⟩ (c_X7_in l D cI cZ x1 1 400 _ rfl) (cwS0 hW mS_X7_in ml_X7_78 ⟨Nat.le_of_ble_eq_true rfl, Nat.le_of_ble_eq_true rfl⟩) (preS0 hK hN hP hD [] rfl rfl) rfl rfl hl.1 rfl (lv_room (Nat.le_of_ble_eq_true rfl)) dX7_sure_5 ⟨Nat.le_refl _, Nat.le_refl _⟩) ?_
  refine W.eq (g2 := F0 m 8 ls [.int (F_X7_in x1 1 400)]) rfl ?_
  refine lv_if_ne (tgt := 14) hx hb dX7_sure_8 (by decide) (fun c1 => ?_) (fun c1 => ?_)
  · have hw := Eq.mp (if_neg c1) hw
    refine lv_iconst (v := 0) hx hb dX7_sure_14 (by decide) ?_
    refine lv_istore_n (lv' := [(2, .int 0), (0, .ref (ad 0)), (1, .int x1)]) hx hb dX7_sure_15 rfl hl (by decide) rfl (fun ls hl => ?_)
    refine lv_iconst (v := 0) hx hb dX7_sure_16 (by decide) ?_
    refine lv_istore_n (lv' := [(3, .int 0), (2, .int 0), (0, .ref (ad 0)), (1, .int x1)]) hx hb dX7_sure_17 rfl hl (by decide) rfl (fun ls hl => ?_)
    obtain ⟨N14, hw⟩ := hw
    refine L18  _ (fun v12 ls hl hw => ?_) N14 0 0 _ (lv_sub hl [2, 3, 1, 0] rfl) hw
    refine lv_iload_n hx hb dX7_sure_97 rfl (lv_at hl 0 rfl) ?_
    exact W.iret (v := v12) hx hb hr (fun t ht _ => ⟨⟨_, rfl, ⟨_, rfl, hw⟩⟩, ht⟩) (fun _ h => by cases h) dX7_sure_98
  · have hw := Eq.mp (if_pos c1) hw
    refine lv_bipush (v := (-2)) hx hb dX7_sure_11 (by decide) ?_
    exact W.iret (v := (-2)) hx hb hr (fun t ht _ => ⟨⟨_, rfl, ⟨_, rfl, hw⟩⟩, ht⟩) (fun _ h => by cases h) dX7_sure_13
set_option maxHeartbeats 4000000 in
set_option maxRecDepth 100000 in
theorem c_X7_fooled (l : Launch) (D : va_G) (cI cZ : ClassId) (ad : Nat → Nat) (S0 : St) (x1 : Int32) (x2 : Int32) (x3 : Int32) (k : Int32 → Prop) (hw : wp_X7_fooled S0 x1 x2 x3 k) : KR l yX7_fooled cX7_fooled 8 (some .int) 2 50 D cI cZ [.ref (ad 0), .int x1, .int x2, .int x3] [mcells cI cZ ad 0 S0] (fun v => ∃ r, v = some (.int r) ∧ k r) := by
  refine Met.ofE (by decide +kernel) (Nat.le_of_ble_eq_true rfl) ?_
  intro p e s m below meth c E ls hl
  obtain ⟨hx, hb, hr, hml, hW, hown, hlocks, hP, hK, hD, hN⟩ := E
  have hl : lv_has ls 8 [(0, .ref (ad 0)), (1, .int x1), (2, .int x2), (3, .int x3)] := hl
  have L44 : ∀ (y4 : Int32) (y5 : Int32) (kx : Int32 → Prop), (∀ (y6 : Int32), ∀ ls : Array Slot, lv_has ls 8 [(0, .ref (ad 0)), (1, .int x1), (2, .int x2), (3, .int x3), (4, .int y4), (5, .int y5), (6, .int y6)] → kx y6 → W p l e { frames := 2, cells := 0, slots := 0, locals := 50 } s m ([.ref (ad 0), .int x1, .int x2, .int x3] : List Value).toArray below meth c s.heap [] 0 0 (MQ below (QR (fun v => ∃ r, v = some (.int r) ∧ k r)) ([.ref (ad 0), .int x1, .int x2, .int x3] : List Value).toArray s 0 0 (fun _ => False)) (F0 m 80 ls [])) → ∀ (N44 : Nat) (y6 : Int32) (y7 : Int32), ∀ ls : Array Slot, lv_has ls 8 [(0, .ref (ad 0)), (1, .int x1), (2, .int x2), (3, .int x3), (4, .int y4), (5, .int y5), (6, .int y6), (7, .int y7)] → wl_X7_fooled_44 S0 y5 kx N44 y6 y7 → W p l e { frames := 2, cells := 0, slots := 0, locals := 50 } s m ([.ref (ad 0), .int x1, .int x2, .int x3] : List Value).toArray below meth c s.heap [] 0 0 (MQ below (QR (fun v => ∃ r, v = some (.int r) ∧ k r)) ([.ref (ad 0), .int x1, .int x2, .int x3] : List Value).toArray s 0 0 (fun _ => False)) (F0 m 44 ls []) := by
    intro y4 y5 kx hxt N44
    induction N44 with
    | zero => intro y6 y7 ls hl hw; exact False.elim hw
    | succ N44 ih =>
      intro y6 y7 ls hl hw
      have hw : (if (S0.1 0) ≤ y7 then (kx y6) else (vp_in y7 6 ∧ (if ((S0.2 6) (y7 : Int32).toNatClampNeg) = y5 then (wl_X7_fooled_44 S0 y5 kx N44 y7 (y7 + 1)) else (wl_X7_fooled_44 S0 y5 kx N44 y6 (y7 + 1))))) := hw
      refine lv_iload hx hb dX7_fooled_44 (lv_at hl 7 rfl) ?_
      refine lv_aload_n hx hb dX7_fooled_46 rfl (lv_at hl 0 rfl) ?_
      refine va_get (D := D) (ci := 7) (v := .int (S0.1 0)) (C := RX7) (T := TX7) (N := 27) hx hb hW inW_X7 hown hK hP 0 rfl rfl 0 (by decide) (hW _ fl_X7_7) (fun _ h9 => h9) rfl dX7_fooled_47 ?_
      refine lv_icmp_ge (tgt := 80) hx hb dX7_fooled_50 (by decide) (fun c4 => ?_) (fun c4 => ?_)
      · have hw := Eq.mp (if_pos c4) hw
        exact hxt y6 _ (lv_sub hl [0, 1, 2, 3, 4, 5, 6] rfl) hw
      · have hw := Eq.mp (if_neg c4) hw
        refine lv_aload_n hx hb dX7_fooled_53 rfl (lv_at hl 0 rfl) ?_
        refine va_get (D := D) (ci := 7) (v := .ref (ad (0 + 2))) (C := RX7) (T := TX7) (N := 27) hx hb hW inW_X7 hown hK hP 0 rfl rfl 6 (by decide) (hW _ fl_X7_20) (fun _ h9 => h9) rfl dX7_fooled_54 ?_
        refine lv_iload hx hb dX7_fooled_57 (lv_at hl 7 rfl) ?_
        refine va_iald (f := (S0.2 6)) hx hb hK hP 2 0 rfl rfl hw.1 dX7_fooled_59 ?_
        have hw := hw.2
        refine lv_iload hx hb dX7_fooled_60 (lv_at hl 5 rfl) ?_
        refine lv_icmp_ne (tgt := 70) hx hb dX7_fooled_62 (by decide) (fun c5 => ?_) (fun c5 => ?_)
        · have hw := Eq.mp (if_neg c5) hw
          refine lv_iload hx hb dX7_fooled_70 (lv_at hl 6 rfl) ?_
          refine lv_istore (lv' := [(6, .int y6), (0, .ref (ad 0)), (1, .int x1), (2, .int x2), (3, .int x3), (4, .int y4), (5, .int y5), (7, .int y7)]) hx hb dX7_fooled_72 hl (by decide) rfl (fun ls hl => ?_)
          refine lv_iinc (v := (y7 + 1)) (lv' := [(7, .int (y7 + 1)), (6, .int y6), (0, .ref (ad 0)), (1, .int x1), (2, .int x2), (3, .int x3), (4, .int y4), (5, .int y5)]) hx hb dX7_fooled_74 hl (k := 7) rfl rfl (by decide) rfl (fun ls hl => ?_)
          refine lv_goto (tgt := 44) hx hb dX7_fooled_77 (by decide) ?_
          exact ih y6 (y7 + 1) _ (lv_sub hl [2, 3, 4, 5, 6, 7, 1, 0] rfl) hw
        · have hw := Eq.mp (if_pos c5) hw
          refine lv_iload hx hb dX7_fooled_65 (lv_at hl 7 rfl) ?_
          refine lv_goto (tgt := 72) hx hb dX7_fooled_67 (by decide) ?_
          refine lv_istore (lv' := [(6, .int y7), (0, .ref (ad 0)), (1, .int x1), (2, .int x2), (3, .int x3), (4, .int y4), (5, .int y5), (7, .int y7)]) hx hb dX7_fooled_72 hl (by decide) rfl (fun ls hl => ?_)
          refine lv_iinc (v := (y7 + 1)) (lv' := [(7, .int (y7 + 1)), (6, .int y7), (0, .ref (ad 0)), (1, .int x1), (2, .int x2), (3, .int x3), (4, .int y4), (5, .int y5)]) hx hb dX7_fooled_74 hl (k := 7) rfl rfl (by decide) rfl (fun ls hl => ?_)
          refine lv_goto (tgt := 44) hx hb dX7_fooled_77 (by decide) ?_
          exact ih y7 (y7 + 1) _ (lv_sub hl [2, 3, 4, 5, 6, 7, 1, 0] rfl) hw
  have L28 : ∀  (kx : Int32 → Prop), (∀ (y4 : Int32), ∀ ls : Array Slot, lv_has ls 8 [(4, .int y4)] → kx y4 → W p l e { frames := 2, cells := 0, slots := 0, locals := 50 } s m ([.ref (ad 0), .int x1, .int x2, .int x3] : List Value).toArray below meth c s.heap [] 0 0 (MQ below (QR (fun v => ∃ r, v = some (.int r) ∧ k r)) ([.ref (ad 0), .int x1, .int x2, .int x3] : List Value).toArray s 0 0 (fun _ => False)) (F0 m 129 ls [])) → ∀ (N28 : Nat) (y4 : Int32) (y5 : Int32), ∀ ls : Array Slot, lv_has ls 8 [(0, .ref (ad 0)), (1, .int x1), (2, .int x2), (3, .int x3), (4, .int y4), (5, .int y5)] → wl_X7_fooled_28 S0 x1 x2 x3 kx N28 y4 y5 → W p l e { frames := 2, cells := 0, slots := 0, locals := 50 } s m ([.ref (ad 0), .int x1, .int x2, .int x3] : List Value).toArray below meth c s.heap [] 0 0 (MQ below (QR (fun v => ∃ r, v = some (.int r) ∧ k r)) ([.ref (ad 0), .int x1, .int x2, .int x3] : List Value).toArray s 0 0 (fun _ => False)) (F0 m 28 ls []) := by
    intro  kx hxt N28
    induction N28 with
    | zero => intro y4 y5 ls hl hw; exact False.elim hw
    | succ N28 ih =>
      intro y4 y5 ls hl hw
      have hw : (if (S0.1 0) ≤ y5 then (kx y4) else (∃ M12, wl_X7_fooled_44 S0 y5 (fun (v6 : Int32) => (if y5 = x1 then (wl_X7_fooled_28 S0 x1 x2 x3 kx N28 (y4 ||| 0) (y5 + 1)) else (wp_X7_isThere S0 v6 x1 x2 x3 (fun (v8 : Int32) => (if v8 = 0 then (wp_X7_isThere S0 y5 x1 x2 x3 (fun (v10 : Int32) => (if v10 = 0 then (wl_X7_fooled_28 S0 x1 x2 x3 kx N28 (y4 ||| 0) (y5 + 1)) else (wl_X7_fooled_28 S0 x1 x2 x3 kx N28 (y4 ||| ((1 : Int32) <<< (y5 &&& 31))) (y5 + 1))))) else (wl_X7_fooled_28 S0 x1 x2 x3 kx N28 (y4 ||| 0) (y5 + 1))))))) M12 y5 0)) := hw
      refine lv_iload hx hb dX7_fooled_28 (lv_at hl 5 rfl) ?_
      refine lv_aload_n hx hb dX7_fooled_30 rfl (lv_at hl 0 rfl) ?_
      refine va_get (D := D) (ci := 7) (v := .int (S0.1 0)) (C := RX7) (T := TX7) (N := 27) hx hb hW inW_X7 hown hK hP 0 rfl rfl 0 (by decide) (hW _ fl_X7_7) (fun _ h9 => h9) rfl dX7_fooled_31 ?_
      refine lv_icmp_ge (tgt := 129) hx hb dX7_fooled_34 (by decide) (fun c3 => ?_) (fun c3 => ?_)
      · have hw := Eq.mp (if_pos c3) hw
        exact hxt y4 _ (lv_sub hl [4] rfl) hw
      · have hw := Eq.mp (if_neg c3) hw
        refine lv_iload hx hb dX7_fooled_37 (lv_at hl 5 rfl) ?_
        refine lv_istore (lv' := [(6, .int y5), (0, .ref (ad 0)), (1, .int x1), (2, .int x2), (3, .int x3), (4, .int y4), (5, .int y5)]) hx hb dX7_fooled_39 hl (by decide) rfl (fun ls hl => ?_)
        refine lv_iconst (v := 0) hx hb dX7_fooled_41 (by decide) ?_
        refine lv_istore (lv' := [(7, .int 0), (6, .int y5), (0, .ref (ad 0)), (1, .int x1), (2, .int x2), (3, .int x3), (4, .int y4), (5, .int y5)]) hx hb dX7_fooled_42 hl (by decide) rfl (fun ls hl => ?_)
        obtain ⟨N13, hw⟩ := hw
        refine L44 y4 y5 _ (fun v6 ls hl hw => ?_) N13 y5 0 _ (lv_sub hl [2, 3, 4, 5, 6, 7, 1, 0] rfl) hw
        refine lv_iload hx hb dX7_fooled_80 (lv_at hl 4 rfl) ?_
        refine lv_iload hx hb dX7_fooled_82 (lv_at hl 5 rfl) ?_
        refine lv_iload_n hx hb dX7_fooled_84 rfl (lv_at hl 1 rfl) ?_
        refine lv_icmp_eq (tgt := 119) hx hb dX7_fooled_85 (by decide) (fun c7 => ?_) (fun c7 => ?_)
        · have hw := Eq.mp (if_pos c7) hw
          refine lv_iconst (v := 0) hx hb dX7_fooled_119 (by decide) ?_
          refine lv_ior hx hb dX7_fooled_120 ?_
          refine lv_istore (lv' := [(4, .int (y4 ||| 0)), (0, .ref (ad 0)), (1, .int x1), (2, .int x2), (3, .int x3), (5, .int y5), (6, .int v6)]) hx hb dX7_fooled_121 hl (by decide) rfl (fun ls hl => ?_)
          refine lv_iinc (v := (y5 + 1)) (lv' := [(5, .int (y5 + 1)), (4, .int (y4 ||| 0)), (0, .ref (ad 0)), (1, .int x1), (2, .int x2), (3, .int x3), (6, .int v6)]) hx hb dX7_fooled_123 hl (k := 5) rfl rfl (by decide) rfl (fun ls hl => ?_)
          refine lv_goto (tgt := 28) hx hb dX7_fooled_126 (by decide) ?_
          exact ih (y4 ||| 0) (y5 + 1) _ (lv_sub hl [2, 3, 4, 5, 1, 0] rfl) hw
        · have hw := Eq.mp (if_neg c7) hw
          refine lv_aload_n hx hb dX7_fooled_88 rfl (lv_at hl 0 rfl) ?_
          refine lv_iload hx hb dX7_fooled_89 (lv_at hl 6 rfl) ?_
          refine lv_iload_n hx hb dX7_fooled_91 rfl (lv_at hl 1 rfl) ?_
          refine lv_iload_n hx hb dX7_fooled_92 rfl (lv_at hl 2 rfl) ?_
          refine lv_iload_n hx hb dX7_fooled_93 rfl (lv_at hl 3 rfl) ?_
          refine callR (va_runV (As := [.int v6, .int x1, .int x2, .int x3]) (rest := [.int y4]) ⟨hx, hb, hml, hown, hW⟩ (c_X7_isThere l D cI cZ ad  S0 v6 x1 x2 x3 _ hw) (cwV0 hW mV_X7_isThere ml_X7_155 ⟨Nat.le_of_ble_eq_true rfl, Nat.le_of_ble_eq_true rfl⟩) (preV0 0 rfl rfl hK hN hP hD [0] rfl rfl) rfl rfl hl.1 rfl (lv_room (Nat.le_of_ble_eq_true rfl)) dX7_fooled_94 ⟨Nat.le_refl _, Nat.le_refl _⟩) (fun v9 hq => ?_)
          obtain ⟨v8, rfl, hw⟩ := hq
          refine W.eq (g2 := F0 m 97 ls [.int v8, .int y4]) rfl ?_
          refine lv_if_ne (tgt := 119) hx hb dX7_fooled_97 (by decide) (fun c9 => ?_) (fun c9 => ?_)
          · have hw := Eq.mp (if_neg c9) hw
            refine lv_iconst (v := 0) hx hb dX7_fooled_119 (by decide) ?_
            refine lv_ior hx hb dX7_fooled_120 ?_
            refine lv_istore (lv' := [(4, .int (y4 ||| 0)), (0, .ref (ad 0)), (1, .int x1), (2, .int x2), (3, .int x3), (5, .int y5), (6, .int v6)]) hx hb dX7_fooled_121 hl (by decide) rfl (fun ls hl => ?_)
            refine lv_iinc (v := (y5 + 1)) (lv' := [(5, .int (y5 + 1)), (4, .int (y4 ||| 0)), (0, .ref (ad 0)), (1, .int x1), (2, .int x2), (3, .int x3), (6, .int v6)]) hx hb dX7_fooled_123 hl (k := 5) rfl rfl (by decide) rfl (fun ls hl => ?_)
            refine lv_goto (tgt := 28) hx hb dX7_fooled_126 (by decide) ?_
            exact ih (y4 ||| 0) (y5 + 1) _ (lv_sub hl [2, 3, 4, 5, 1, 0] rfl) hw
          · have hw := Eq.mp (if_pos c9) hw
            refine lv_aload_n hx hb dX7_fooled_100 rfl (lv_at hl 0 rfl) ?_
            refine lv_iload hx hb dX7_fooled_101 (lv_at hl 5 rfl) ?_
            refine lv_iload_n hx hb dX7_fooled_103 rfl (lv_at hl 1 rfl) ?_
            refine lv_iload_n hx hb dX7_fooled_104 rfl (lv_at hl 2 rfl) ?_
            refine lv_iload_n hx hb dX7_fooled_105 rfl (lv_at hl 3 rfl) ?_
            refine callR (va_runV (As := [.int y5, .int x1, .int x2, .int x3]) (rest := [.int y4]) ⟨hx, hb, hml, hown, hW⟩ (c_X7_isThere l D cI cZ ad  S0 y5 x1 x2 x3 _ hw) (cwV0 hW mV_X7_isThere ml_X7_155 ⟨Nat.le_of_ble_eq_true rfl, Nat.le_of_ble_eq_true rfl⟩) (preV0 0 rfl rfl hK hN hP hD [0] rfl rfl) rfl rfl hl.1 rfl (lv_room (Nat.le_of_ble_eq_true rfl)) dX7_fooled_106 ⟨Nat.le_refl _, Nat.le_refl _⟩) (fun v9 hq => ?_)
            obtain ⟨v10, rfl, hw⟩ := hq
            refine W.eq (g2 := F0 m 109 ls [.int v10, .int y4]) rfl ?_
            refine lv_if_eq (tgt := 119) hx hb dX7_fooled_109 (by decide) (fun c11 => ?_) (fun c11 => ?_)
            · have hw := Eq.mp (if_pos c11) hw
              refine lv_iconst (v := 0) hx hb dX7_fooled_119 (by decide) ?_
              refine lv_ior hx hb dX7_fooled_120 ?_
              refine lv_istore (lv' := [(4, .int (y4 ||| 0)), (0, .ref (ad 0)), (1, .int x1), (2, .int x2), (3, .int x3), (5, .int y5), (6, .int v6)]) hx hb dX7_fooled_121 hl (by decide) rfl (fun ls hl => ?_)
              refine lv_iinc (v := (y5 + 1)) (lv' := [(5, .int (y5 + 1)), (4, .int (y4 ||| 0)), (0, .ref (ad 0)), (1, .int x1), (2, .int x2), (3, .int x3), (6, .int v6)]) hx hb dX7_fooled_123 hl (k := 5) rfl rfl (by decide) rfl (fun ls hl => ?_)
              refine lv_goto (tgt := 28) hx hb dX7_fooled_126 (by decide) ?_
              exact ih (y4 ||| 0) (y5 + 1) _ (lv_sub hl [2, 3, 4, 5, 1, 0] rfl) hw
            · have hw := Eq.mp (if_neg c11) hw
              refine lv_iconst (v := 1) hx hb dX7_fooled_112 (by decide) ?_
              refine lv_iload hx hb dX7_fooled_113 (lv_at hl 5 rfl) ?_
              refine lv_ishl hx hb dX7_fooled_115 ?_
              refine lv_goto (tgt := 120) hx hb dX7_fooled_116 (by decide) ?_
              refine lv_ior hx hb dX7_fooled_120 ?_
              refine lv_istore (lv' := [(4, .int (y4 ||| ((1 : Int32) <<< (y5 &&& 31)))), (0, .ref (ad 0)), (1, .int x1), (2, .int x2), (3, .int x3), (5, .int y5), (6, .int v6)]) hx hb dX7_fooled_121 hl (by decide) rfl (fun ls hl => ?_)
              refine lv_iinc (v := (y5 + 1)) (lv' := [(5, .int (y5 + 1)), (4, .int (y4 ||| ((1 : Int32) <<< (y5 &&& 31)))), (0, .ref (ad 0)), (1, .int x1), (2, .int x2), (3, .int x3), (6, .int v6)]) hx hb dX7_fooled_123 hl (k := 5) rfl rfl (by decide) rfl (fun ls hl => ?_)
              refine lv_goto (tgt := 28) hx hb dX7_fooled_126 (by decide) ?_
              exact ih (y4 ||| ((1 : Int32) <<< (y5 &&& 31))) (y5 + 1) _ (lv_sub hl [2, 3, 4, 5, 1, 0] rfl) hw
  have hw : (if (F_X7_isOne S0 x1) = 0 then (k (-1)) else (if (F_X7_isWar S0 x2 x3) = 0 then (k (-2)) else (∃ M15, wl_X7_fooled_28 S0 x1 x2 x3 (fun (v14 : Int32) => (k v14)) M15 0 0))) := hw
  refine lv_aload_n hx hb dX7_fooled_0 rfl (lv_at hl 0 rfl) ?_
  refine lv_iload_n hx hb dX7_fooled_1 rfl (lv_at hl 1 rfl) ?_
  refine callF (va_runV (As := [.int x1]) (rest := []) ⟨hx, hb, hml, hown, hW⟩ (c_X7_isOne l D cI cZ ad  S0 x1 _ rfl) (cwV0 hW mV_X7_isOne ml_X7_82 ⟨Nat.le_of_ble_eq_true rfl, Nat.le_of_ble_eq_true rfl⟩) (preV0 0 rfl rfl hK hN hP hD [0] rfl rfl) rfl rfl hl.1 rfl (lv_room (Nat.le_of_ble_eq_true rfl)) dX7_fooled_2 ⟨Nat.le_refl _, Nat.le_refl _⟩) ?_
  refine W.eq (g2 := F0 m 5 ls [.int (F_X7_isOne S0 x1)]) rfl ?_
  refine lv_if_ne (tgt := 10) hx hb dX7_fooled_5 (by decide) (fun c1 => ?_) (fun c1 => ?_)
  · have hw := Eq.mp (if_neg c1) hw
    refine lv_aload_n hx hb dX7_fooled_10 rfl (lv_at hl 0 rfl) ?_
    refine lv_iload_n hx hb dX7_fooled_11 rfl (lv_at hl 2 rfl) ?_
    refine lv_iload_n hx hb dX7_fooled_12 rfl (lv_at hl 3 rfl) ?_
    refine callF (va_runV (As := [.int x2, .int x3]) (rest := []) ⟨hx, hb, hml, hown, hW⟩ (c_X7_isWar l D cI cZ ad  S0 x2 x3 _ rfl) (cwV0 hW mV_X7_isWar ml_X7_159 ⟨Nat.le_of_ble_eq_true rfl, Nat.le_of_ble_eq_true rfl⟩) (preV0 0 rfl rfl hK hN hP hD [0] rfl rfl) rfl rfl hl.1 rfl (lv_room (Nat.le_of_ble_eq_true rfl)) dX7_fooled_13 ⟨Nat.le_refl _, Nat.le_refl _⟩) ?_
    refine W.eq (g2 := F0 m 16 ls [.int (F_X7_isWar S0 x2 x3)]) rfl ?_
    refine lv_if_ne (tgt := 22) hx hb dX7_fooled_16 (by decide) (fun c2 => ?_) (fun c2 => ?_)
    · have hw := Eq.mp (if_neg c2) hw
      refine lv_iconst (v := 0) hx hb dX7_fooled_22 (by decide) ?_
      refine lv_istore (lv' := [(4, .int 0), (0, .ref (ad 0)), (1, .int x1), (2, .int x2), (3, .int x3)]) hx hb dX7_fooled_23 hl (by decide) rfl (fun ls hl => ?_)
      refine lv_iconst (v := 0) hx hb dX7_fooled_25 (by decide) ?_
      refine lv_istore (lv' := [(5, .int 0), (4, .int 0), (0, .ref (ad 0)), (1, .int x1), (2, .int x2), (3, .int x3)]) hx hb dX7_fooled_26 hl (by decide) rfl (fun ls hl => ?_)
      obtain ⟨N16, hw⟩ := hw
      refine L28  _ (fun v14 ls hl hw => ?_) N16 0 0 _ (lv_sub hl [2, 3, 4, 5, 1, 0] rfl) hw
      refine lv_iload hx hb dX7_fooled_129 (lv_at hl 0 rfl) ?_
      exact W.iret (v := v14) hx hb hr (fun t ht _ => ⟨⟨_, rfl, ⟨_, rfl, hw⟩⟩, ht⟩) (fun _ h => by cases h) dX7_fooled_131
    · have hw := Eq.mp (if_pos c2) hw
      refine lv_bipush (v := (-2)) hx hb dX7_fooled_19 (by decide) ?_
      exact W.iret (v := (-2)) hx hb hr (fun t ht _ => ⟨⟨_, rfl, ⟨_, rfl, hw⟩⟩, ht⟩) (fun _ h => by cases h) dX7_fooled_21
  · have hw := Eq.mp (if_pos c1) hw
    refine lv_iconst (v := (-1)) hx hb dX7_fooled_8 (by decide) ?_
    exact W.iret (v := (-1)) hx hb hr (fun t ht _ => ⟨⟨_, rfl, ⟨_, rfl, hw⟩⟩, ht⟩) (fun _ h => by cases h) dX7_fooled_9
set_option maxHeartbeats 4000000 in
set_option maxRecDepth 100000 in
theorem c_X7_letter (l : Launch) (D : va_G) (cI cZ : ClassId) (ad : Nat → Nat) (S0 : St) (x1 : Int32) (x2 : Int32) (k : Int32 → Prop) (hw : wp_X7_letter S0 x1 x2 k) : KR l yX7_letter cX7_letter 3 (some .int) 2 43 D cI cZ [.ref (ad 0), .int x1, .int x2] [mcells cI cZ ad 0 S0] (fun v => ∃ r, v = some (.int r) ∧ k r) := by
  refine Met.ofE (by decide +kernel) (Nat.le_of_ble_eq_true rfl) ?_
  intro p e s m below meth c E ls hl
  obtain ⟨hx, hb, hr, hml, hW, hown, hlocks, hP, hK, hD, hN⟩ := E
  have hl : lv_has ls 3 [(0, .ref (ad 0)), (1, .int x1), (2, .int x2)] := hl
  have hw : (if (F_X7_isOne S0 x1) = 0 then (k (-1)) else (if (F_X7_isOne S0 x2) = 0 then (k (-1)) else (¬ (S0.1 0) = 0 ∧ (k (F_X7_firstDay S0 (((x1 - x2) + (S0.1 0)) - ((x1 - x2) + (S0.1 0)) / (S0.1 0) * (S0.1 0))))))) := hw
  refine lv_aload_n hx hb dX7_letter_0 rfl (lv_at hl 0 rfl) ?_
  refine lv_iload_n hx hb dX7_letter_1 rfl (lv_at hl 1 rfl) ?_
  refine callF (va_runV (As := [.int x1]) (rest := []) ⟨hx, hb, hml, hown, hW⟩ (c_X7_isOne l D cI cZ ad  S0 x1 _ rfl) (cwV0 hW mV_X7_isOne ml_X7_82 ⟨Nat.le_of_ble_eq_true rfl, Nat.le_of_ble_eq_true rfl⟩) (preV0 0 rfl rfl hK hN hP hD [0] rfl rfl) rfl rfl hl.1 rfl (lv_room (Nat.le_of_ble_eq_true rfl)) dX7_letter_2 ⟨Nat.le_refl _, Nat.le_refl _⟩) ?_
  refine W.eq (g2 := F0 m 5 ls [.int (F_X7_isOne S0 x1)]) rfl ?_
  refine lv_if_eq (tgt := 16) hx hb dX7_letter_5 (by decide) (fun c1 => ?_) (fun c1 => ?_)
  · have hw := Eq.mp (if_pos c1) hw
    refine lv_iconst (v := (-1)) hx hb dX7_letter_16 (by decide) ?_
    exact W.iret (v := (-1)) hx hb hr (fun t ht _ => ⟨⟨_, rfl, ⟨_, rfl, hw⟩⟩, ht⟩) (fun _ h => by cases h) dX7_letter_17
  · have hw := Eq.mp (if_neg c1) hw
    refine lv_aload_n hx hb dX7_letter_8 rfl (lv_at hl 0 rfl) ?_
    refine lv_iload_n hx hb dX7_letter_9 rfl (lv_at hl 2 rfl) ?_
    refine callF (va_runV (As := [.int x2]) (rest := []) ⟨hx, hb, hml, hown, hW⟩ (c_X7_isOne l D cI cZ ad  S0 x2 _ rfl) (cwV0 hW mV_X7_isOne ml_X7_82 ⟨Nat.le_of_ble_eq_true rfl, Nat.le_of_ble_eq_true rfl⟩) (preV0 0 rfl rfl hK hN hP hD [0] rfl rfl) rfl rfl hl.1 rfl (lv_room (Nat.le_of_ble_eq_true rfl)) dX7_letter_10 ⟨Nat.le_refl _, Nat.le_refl _⟩) ?_
    refine W.eq (g2 := F0 m 13 ls [.int (F_X7_isOne S0 x2)]) rfl ?_
    refine lv_if_ne (tgt := 18) hx hb dX7_letter_13 (by decide) (fun c2 => ?_) (fun c2 => ?_)
    · have hw := Eq.mp (if_neg c2) hw
      refine lv_aload_n hx hb dX7_letter_18 rfl (lv_at hl 0 rfl) ?_
      refine lv_iload_n hx hb dX7_letter_19 rfl (lv_at hl 1 rfl) ?_
      refine lv_iload_n hx hb dX7_letter_20 rfl (lv_at hl 2 rfl) ?_
      refine lv_isub hx hb dX7_letter_21 ?_
      refine lv_aload_n hx hb dX7_letter_22 rfl (lv_at hl 0 rfl) ?_
      refine va_get (D := D) (ci := 7) (v := .int (S0.1 0)) (C := RX7) (T := TX7) (N := 27) hx hb hW inW_X7 hown hK hP 0 rfl rfl 0 (by decide) (hW _ fl_X7_7) (fun _ h9 => h9) rfl dX7_letter_23 ?_
      refine lv_iadd hx hb dX7_letter_26 ?_
      refine lv_aload_n hx hb dX7_letter_27 rfl (lv_at hl 0 rfl) ?_
      refine va_get (D := D) (ci := 7) (v := .int (S0.1 0)) (C := RX7) (T := TX7) (N := 27) hx hb hW inW_X7 hown hK hP 0 rfl rfl 0 (by decide) (hW _ fl_X7_7) (fun _ h9 => h9) rfl dX7_letter_28 ?_
      refine lv_irem hx hb dX7_letter_31 hw.1 ?_
      have hw := hw.2
      refine callF (va_runV (As := [.int (((x1 - x2) + (S0.1 0)) - ((x1 - x2) + (S0.1 0)) / (S0.1 0) * (S0.1 0))]) (rest := []) ⟨hx, hb, hml, hown, hW⟩ (c_X7_firstDay l D cI cZ ad  S0 (((x1 - x2) + (S0.1 0)) - ((x1 - x2) + (S0.1 0)) / (S0.1 0) * (S0.1 0)) _ rfl) (cwV0 hW mV_X7_firstDay ml_X7_152 ⟨Nat.le_of_ble_eq_true rfl, Nat.le_of_ble_eq_true rfl⟩) (preV0 0 rfl rfl hK hN hP hD [0] rfl rfl) rfl rfl hl.1 rfl (lv_room (Nat.le_of_ble_eq_true rfl)) dX7_letter_32 ⟨Nat.le_refl _, Nat.le_refl _⟩) ?_
      refine W.eq (g2 := F0 m 35 ls [.int (F_X7_firstDay S0 (((x1 - x2) + (S0.1 0)) - ((x1 - x2) + (S0.1 0)) / (S0.1 0) * (S0.1 0)))]) rfl ?_
      exact W.iret (v := (F_X7_firstDay S0 (((x1 - x2) + (S0.1 0)) - ((x1 - x2) + (S0.1 0)) / (S0.1 0) * (S0.1 0)))) hx hb hr (fun t ht _ => ⟨⟨_, rfl, ⟨_, rfl, hw⟩⟩, ht⟩) (fun _ h => by cases h) dX7_letter_35
    · have hw := Eq.mp (if_pos c2) hw
      refine lv_iconst (v := (-1)) hx hb dX7_letter_16 (by decide) ?_
      exact W.iret (v := (-1)) hx hb hr (fun t ht _ => ⟨⟨_, rfl, ⟨_, rfl, hw⟩⟩, ht⟩) (fun _ h => by cases h) dX7_letter_17
set_option maxHeartbeats 4000000 in
set_option maxRecDepth 100000 in
theorem c_X7_copy (l : Launch) (D : va_G) (cI cZ : ClassId) (ad : Nat → Nat) (S0 : St) (x1 : Int32) (k : Int32 → Prop) (hw : wp_X7_copy S0 x1 k) : KR l yX7_copy cX7_copy 3 (some .int) 2 43 D cI cZ [.ref (ad 0), .int x1] [mcells cI cZ ad 0 S0] (fun v => ∃ r, v = some (.int r) ∧ k r) := by
  refine Met.ofE (by decide +kernel) (Nat.le_of_ble_eq_true rfl) ?_
  intro p e s m below meth c E ls hl
  obtain ⟨hx, hb, hr, hml, hW, hown, hlocks, hP, hK, hD, hN⟩ := E
  have hl : lv_has ls 3 [(0, .ref (ad 0)), (1, .int x1)] := hl
  have L12 : ∀  (kx : Prop), (∀ ls : Array Slot, lv_has ls 3 [] → kx → W p l e { frames := 2, cells := 0, slots := 0, locals := 43 } s m ([.ref (ad 0), .int x1] : List Value).toArray below meth c s.heap [] 0 0 (MQ below (QR (fun v => ∃ r, v = some (.int r) ∧ k r)) ([.ref (ad 0), .int x1] : List Value).toArray s 0 0 (fun _ => False)) (F0 m 70 ls [])) → ∀ (N12 : Nat) (y2 : Int32), ∀ ls : Array Slot, lv_has ls 3 [(0, .ref (ad 0)), (1, .int x1), (2, .int y2)] → wl_X7_copy_12 S0 x1 kx k N12 y2 → W p l e { frames := 2, cells := 0, slots := 0, locals := 43 } s m ([.ref (ad 0), .int x1] : List Value).toArray below meth c s.heap [] 0 0 (MQ below (QR (fun v => ∃ r, v = some (.int r) ∧ k r)) ([.ref (ad 0), .int x1] : List Value).toArray s 0 0 (fun _ => False)) (F0 m 12 ls []) := by
    intro  kx hxt N12
    induction N12 with
    | zero => intro y2 ls hl hw; exact False.elim hw
    | succ N12 ih =>
      intro y2 ls hl hw
      have hw : (if 9999 < (F_X7_firstDay S0 y2) then kx else (vp_in x1 6 ∧ (if ((S0.2 5) (x1 : Int32).toNatClampNeg) < 0 then (wl_X7_copy_12 S0 x1 kx k N12 (y2 + 1)) else (wp_X7_whereBehind S0 x1 y2 (fun (v4 : Int32) => (¬ (S0.1 0) = 0 ∧ (if v4 = (((x1 + ((S0.1 0) * 9999)) - y2) - ((x1 + ((S0.1 0) * 9999)) - y2) / (S0.1 0) * (S0.1 0)) then (k (F_X7_firstDay S0 y2)) else (wl_X7_copy_12 S0 x1 kx k N12 (y2 + 1))))))))) := hw
      refine lv_aload_n hx hb dX7_copy_12 rfl (lv_at hl 0 rfl) ?_
      refine lv_iload_n hx hb dX7_copy_13 rfl (lv_at hl 2 rfl) ?_
      refine callF (va_runV (As := [.int y2]) (rest := []) ⟨hx, hb, hml, hown, hW⟩ (c_X7_firstDay l D cI cZ ad  S0 y2 _ rfl) (cwV0 hW mV_X7_firstDay ml_X7_152 ⟨Nat.le_of_ble_eq_true rfl, Nat.le_of_ble_eq_true rfl⟩) (preV0 0 rfl rfl hK hN hP hD [0] rfl rfl) rfl rfl hl.1 rfl (lv_room (Nat.le_of_ble_eq_true rfl)) dX7_copy_14 ⟨Nat.le_refl _, Nat.le_refl _⟩) ?_
      refine W.eq (g2 := F0 m 17 ls [.int (F_X7_firstDay S0 y2)]) rfl ?_
      refine lv_sipush (v := 9999) hx hb dX7_copy_17 (by decide) ?_
      refine lv_icmp_gt (tgt := 70) hx hb dX7_copy_20 (by decide) (fun c2 => ?_) (fun c2 => ?_)
      · have hw := Eq.mp (if_pos c2) hw
        exact hxt  _ (lv_sub hl [] rfl) hw
      · have hw := Eq.mp (if_neg c2) hw
        refine lv_aload_n hx hb dX7_copy_23 rfl (lv_at hl 0 rfl) ?_
        refine va_get (D := D) (ci := 7) (v := .ref (ad (0 + 1))) (C := RX7) (T := TX7) (N := 27) hx hb hW inW_X7 hown hK hP 0 rfl rfl 5 (by decide) (hW _ fl_X7_16) (fun _ h9 => h9) rfl dX7_copy_24 ?_
        refine lv_iload_n hx hb dX7_copy_27 rfl (lv_at hl 1 rfl) ?_
        refine va_iald (f := (S0.2 5)) hx hb hK hP 1 0 rfl rfl hw.1 dX7_copy_28 ?_
        have hw := hw.2
        refine lv_if_lt (tgt := 64) hx hb dX7_copy_29 (by decide) (fun c3 => ?_) (fun c3 => ?_)
        · have hw := Eq.mp (if_pos c3) hw
          refine lv_iinc (v := (y2 + 1)) (lv' := [(2, .int (y2 + 1)), (0, .ref (ad 0)), (1, .int x1)]) hx hb dX7_copy_64 hl (k := 2) rfl rfl (by decide) rfl (fun ls hl => ?_)
          refine lv_goto (tgt := 12) hx hb dX7_copy_67 (by decide) ?_
          exact ih (y2 + 1) _ (lv_sub hl [1, 2, 0] rfl) hw
        · have hw := Eq.mp (if_neg c3) hw
          refine lv_aload_n hx hb dX7_copy_32 rfl (lv_at hl 0 rfl) ?_
          refine lv_iload_n hx hb dX7_copy_33 rfl (lv_at hl 1 rfl) ?_
          refine lv_iload_n hx hb dX7_copy_34 rfl (lv_at hl 2 rfl) ?_
          refine callR (va_runV (As := [.int x1, .int y2]) (rest := []) ⟨hx, hb, hml, hown, hW⟩ (c_X7_whereBehind l D cI cZ ad  S0 x1 y2 _ hw) (cwV0 hW mV_X7_whereBehind ml_X7_142 ⟨Nat.le_of_ble_eq_true rfl, Nat.le_of_ble_eq_true rfl⟩) (preV0 0 rfl rfl hK hN hP hD [0] rfl rfl) rfl rfl hl.1 rfl (lv_room (Nat.le_of_ble_eq_true rfl)) dX7_copy_35 ⟨Nat.le_refl _, Nat.le_refl _⟩) (fun v9 hq => ?_)
          obtain ⟨v4, rfl, hw⟩ := hq
          refine W.eq (g2 := F0 m 38 ls [.int v4]) rfl ?_
          refine lv_iload_n hx hb dX7_copy_38 rfl (lv_at hl 1 rfl) ?_
          refine lv_aload_n hx hb dX7_copy_39 rfl (lv_at hl 0 rfl) ?_
          refine va_get (D := D) (ci := 7) (v := .int (S0.1 0)) (C := RX7) (T := TX7) (N := 27) hx hb hW inW_X7 hown hK hP 0 rfl rfl 0 (by decide) (hW _ fl_X7_7) (fun _ h9 => h9) rfl dX7_copy_40 ?_
          refine lv_sipush (v := 9999) hx hb dX7_copy_43 (by decide) ?_
          refine lv_imul hx hb dX7_copy_46 ?_
          refine lv_iadd hx hb dX7_copy_47 ?_
          refine lv_iload_n hx hb dX7_copy_48 rfl (lv_at hl 2 rfl) ?_
          refine lv_isub hx hb dX7_copy_49 ?_
          refine lv_aload_n hx hb dX7_copy_50 rfl (lv_at hl 0 rfl) ?_
          refine va_get (D := D) (ci := 7) (v := .int (S0.1 0)) (C := RX7) (T := TX7) (N := 27) hx hb hW inW_X7 hown hK hP 0 rfl rfl 0 (by decide) (hW _ fl_X7_7) (fun _ h9 => h9) rfl dX7_copy_51 ?_
          refine lv_irem hx hb dX7_copy_54 hw.1 ?_
          have hw := hw.2
          refine lv_icmp_ne (tgt := 64) hx hb dX7_copy_55 (by decide) (fun c5 => ?_) (fun c5 => ?_)
          · have hw := Eq.mp (if_neg c5) hw
            refine lv_iinc (v := (y2 + 1)) (lv' := [(2, .int (y2 + 1)), (0, .ref (ad 0)), (1, .int x1)]) hx hb dX7_copy_64 hl (k := 2) rfl rfl (by decide) rfl (fun ls hl => ?_)
            refine lv_goto (tgt := 12) hx hb dX7_copy_67 (by decide) ?_
            exact ih (y2 + 1) _ (lv_sub hl [1, 2, 0] rfl) hw
          · have hw := Eq.mp (if_pos c5) hw
            refine lv_aload_n hx hb dX7_copy_58 rfl (lv_at hl 0 rfl) ?_
            refine lv_iload_n hx hb dX7_copy_59 rfl (lv_at hl 2 rfl) ?_
            refine callF (va_runV (As := [.int y2]) (rest := []) ⟨hx, hb, hml, hown, hW⟩ (c_X7_firstDay l D cI cZ ad  S0 y2 _ rfl) (cwV0 hW mV_X7_firstDay ml_X7_152 ⟨Nat.le_of_ble_eq_true rfl, Nat.le_of_ble_eq_true rfl⟩) (preV0 0 rfl rfl hK hN hP hD [0] rfl rfl) rfl rfl hl.1 rfl (lv_room (Nat.le_of_ble_eq_true rfl)) dX7_copy_60 ⟨Nat.le_refl _, Nat.le_refl _⟩) ?_
            refine W.eq (g2 := F0 m 63 ls [.int (F_X7_firstDay S0 y2)]) rfl ?_
            exact W.iret (v := (F_X7_firstDay S0 y2)) hx hb hr (fun t ht _ => ⟨⟨_, rfl, ⟨_, rfl, hw⟩⟩, ht⟩) (fun _ h => by cases h) dX7_copy_63
  have hw : (if (F_X7_isOne S0 x1) = 0 then (k (-1)) else (∃ M6, wl_X7_copy_12 S0 x1 (k (-6)) k M6 1)) := hw
  refine lv_aload_n hx hb dX7_copy_0 rfl (lv_at hl 0 rfl) ?_
  refine lv_iload_n hx hb dX7_copy_1 rfl (lv_at hl 1 rfl) ?_
  refine callF (va_runV (As := [.int x1]) (rest := []) ⟨hx, hb, hml, hown, hW⟩ (c_X7_isOne l D cI cZ ad  S0 x1 _ rfl) (cwV0 hW mV_X7_isOne ml_X7_82 ⟨Nat.le_of_ble_eq_true rfl, Nat.le_of_ble_eq_true rfl⟩) (preV0 0 rfl rfl hK hN hP hD [0] rfl rfl) rfl rfl hl.1 rfl (lv_room (Nat.le_of_ble_eq_true rfl)) dX7_copy_2 ⟨Nat.le_refl _, Nat.le_refl _⟩) ?_
  refine W.eq (g2 := F0 m 5 ls [.int (F_X7_isOne S0 x1)]) rfl ?_
  refine lv_if_ne (tgt := 10) hx hb dX7_copy_5 (by decide) (fun c1 => ?_) (fun c1 => ?_)
  · have hw := Eq.mp (if_neg c1) hw
    refine lv_iconst (v := 1) hx hb dX7_copy_10 (by decide) ?_
    refine lv_istore_n (lv' := [(2, .int 1), (0, .ref (ad 0)), (1, .int x1)]) hx hb dX7_copy_11 rfl hl (by decide) rfl (fun ls hl => ?_)
    obtain ⟨N7, hw⟩ := hw
    refine L12  _ (fun  ls hl hw => ?_) N7 1 _ (lv_sub hl [1, 2, 0] rfl) hw
    refine lv_bipush (v := (-6)) hx hb dX7_copy_70 (by decide) ?_
    exact W.iret (v := (-6)) hx hb hr (fun t ht _ => ⟨⟨_, rfl, ⟨_, rfl, hw⟩⟩, ht⟩) (fun _ h => by cases h) dX7_copy_72
  · have hw := Eq.mp (if_pos c1) hw
    refine lv_iconst (v := (-1)) hx hb dX7_copy_8 (by decide) ?_
    exact W.iret (v := (-1)) hx hb hr (fun t ht _ => ⟨⟨_, rfl, ⟨_, rfl, hw⟩⟩, ht⟩) (fun _ h => by cases h) dX7_copy_9
set_option maxHeartbeats 4000000 in
set_option maxRecDepth 100000 in
theorem c_X7_furs (l : Launch) (D : va_G) (cI cZ : ClassId) (ad : Nat → Nat) (S0 : St) (x1 : Int32) (x2 : Int32) (k : Int32 → Prop) (hw : wp_X7_furs S0 x1 x2 k) : KR l yX7_furs cX7_furs 8 (some .int) 1 24 D cI cZ [.ref (ad 0), .int x1, .int x2] [mcells cI cZ ad 0 S0] (fun v => ∃ r, v = some (.int r) ∧ k r) := by
  refine Met.ofE (by decide +kernel) (Nat.le_of_ble_eq_true rfl) ?_
  intro p e s m below meth c E ls hl
  obtain ⟨hx, hb, hr, hml, hW, hown, hlocks, hP, hK, hD, hN⟩ := E
  have hl : lv_has ls 8 [(0, .ref (ad 0)), (1, .int x1), (2, .int x2)] := hl
  have L42 : ∀ (y3 : Int32) (y4 : Int32) (y5 : Int32) (kx : Int32 → Prop), (∀ (y6 : Int32), ∀ ls : Array Slot, lv_has ls 8 [(0, .ref (ad 0)), (1, .int x1), (2, .int x2), (3, .int y3), (4, .int y4), (5, .int y5), (6, .int y6)] → kx y6 → W p l e { frames := 1, cells := 0, slots := 0, locals := 24 } s m ([.ref (ad 0), .int x1, .int x2] : List Value).toArray below meth c s.heap [] 0 0 (MQ below (QR (fun v => ∃ r, v = some (.int r) ∧ k r)) ([.ref (ad 0), .int x1, .int x2] : List Value).toArray s 0 0 (fun _ => False)) (F0 m 89 ls [])) → ∀ (N42 : Nat) (y6 : Int32) (y7 : Int32), ∀ ls : Array Slot, lv_has ls 8 [(0, .ref (ad 0)), (1, .int x1), (2, .int x2), (3, .int y3), (4, .int y4), (5, .int y5), (6, .int y6), (7, .int y7)] → wl_X7_furs_42 S0 y5 kx N42 y6 y7 → W p l e { frames := 1, cells := 0, slots := 0, locals := 24 } s m ([.ref (ad 0), .int x1, .int x2] : List Value).toArray below meth c s.heap [] 0 0 (MQ below (QR (fun v => ∃ r, v = some (.int r) ∧ k r)) ([.ref (ad 0), .int x1, .int x2] : List Value).toArray s 0 0 (fun _ => False)) (F0 m 42 ls []) := by
    intro y3 y4 y5 kx hxt N42
    induction N42 with
    | zero => intro y6 y7 ls hl hw; exact False.elim hw
    | succ N42 ih =>
      intro y6 y7 ls hl hw
      have hw : (if (S0.1 0) ≤ y7 then (kx y6) else (vp_in y7 6 ∧ (if 0 ≤ ((S0.2 5) (y7 : Int32).toNatClampNeg) then (wp_X7_whereBehind S0 y7 y5 (fun (v6 : Int32) => (vp_in v6 6 ∧ (wl_X7_furs_42 S0 y5 kx N42 (y6 + ((S0.2 8) (v6 : Int32).toNatClampNeg)) (y7 + 1))))) else (wl_X7_furs_42 S0 y5 kx N42 (y6 + 0) (y7 + 1))))) := hw
      refine lv_iload hx hb dX7_furs_42 (lv_at hl 7 rfl) ?_
      refine lv_aload_n hx hb dX7_furs_44 rfl (lv_at hl 0 rfl) ?_
      refine va_get (D := D) (ci := 7) (v := .int (S0.1 0)) (C := RX7) (T := TX7) (N := 27) hx hb hW inW_X7 hown hK hP 0 rfl rfl 0 (by decide) (hW _ fl_X7_7) (fun _ h9 => h9) rfl dX7_furs_45 ?_
      refine lv_icmp_ge (tgt := 89) hx hb dX7_furs_48 (by decide) (fun c4 => ?_) (fun c4 => ?_)
      · have hw := Eq.mp (if_pos c4) hw
        exact hxt y6 _ (lv_sub hl [0, 1, 2, 3, 4, 5, 6] rfl) hw
      · have hw := Eq.mp (if_neg c4) hw
        refine lv_iload hx hb dX7_furs_51 (lv_at hl 6 rfl) ?_
        refine lv_aload_n hx hb dX7_furs_53 rfl (lv_at hl 0 rfl) ?_
        refine va_get (D := D) (ci := 7) (v := .ref (ad (0 + 1))) (C := RX7) (T := TX7) (N := 27) hx hb hW inW_X7 hown hK hP 0 rfl rfl 5 (by decide) (hW _ fl_X7_16) (fun _ h9 => h9) rfl dX7_furs_54 ?_
        refine lv_iload hx hb dX7_furs_57 (lv_at hl 7 rfl) ?_
        refine va_iald (f := (S0.2 5)) hx hb hK hP 1 0 rfl rfl hw.1 dX7_furs_59 ?_
        have hw := hw.2
        refine lv_if_ge (tgt := 67) hx hb dX7_furs_60 (by decide) (fun c5 => ?_) (fun c5 => ?_)
        · have hw := Eq.mp (if_pos c5) hw
          refine lv_aload_n hx hb dX7_furs_67 rfl (lv_at hl 0 rfl) ?_
          refine va_get (D := D) (ci := 7) (v := .ref (ad (0 + 4))) (C := RX7) (T := TX7) (N := 27) hx hb hW inW_X7 hown hK hP 0 rfl rfl 8 (by decide) (hW _ fl_X7_26) (fun _ h9 => h9) rfl dX7_furs_68 ?_
          refine lv_aload_n hx hb dX7_furs_71 rfl (lv_at hl 0 rfl) ?_
          refine lv_iload hx hb dX7_furs_72 (lv_at hl 7 rfl) ?_
          refine lv_iload hx hb dX7_furs_74 (lv_at hl 5 rfl) ?_
          refine callR (va_runV (As := [.int y7, .int y5]) (rest := [.ref (ad (0 + 4)), .int y6]) ⟨hx, hb, hml, hown, hW⟩ (c_X7_whereBehind l D cI cZ ad  S0 y7 y5 _ hw) (cwV0 hW mV_X7_whereBehind ml_X7_142 ⟨Nat.le_of_ble_eq_true rfl, Nat.le_of_ble_eq_true rfl⟩) (preV0 0 rfl rfl hK hN hP hD [0] rfl rfl) rfl rfl hl.1 rfl (lv_room (Nat.le_of_ble_eq_true rfl)) dX7_furs_76 ⟨Nat.le_refl _, Nat.le_refl _⟩) (fun v9 hq => ?_)
          obtain ⟨v6, rfl, hw⟩ := hq
          refine W.eq (g2 := F0 m 79 ls [.int v6, .ref (ad (0 + 4)), .int y6]) rfl ?_
          refine va_iald (f := (S0.2 8)) hx hb hK hP 4 0 rfl rfl hw.1 dX7_furs_79 ?_
          have hw := hw.2
          refine lv_iadd hx hb dX7_furs_80 ?_
          refine lv_istore (lv' := [(6, .int (y6 + ((S0.2 8) (v6 : Int32).toNatClampNeg))), (0, .ref (ad 0)), (1, .int x1), (2, .int x2), (3, .int y3), (4, .int y4), (5, .int y5), (7, .int y7)]) hx hb dX7_furs_81 hl (by decide) rfl (fun ls hl => ?_)
          refine lv_iinc (v := (y7 + 1)) (lv' := [(7, .int (y7 + 1)), (6, .int (y6 + ((S0.2 8) (v6 : Int32).toNatClampNeg))), (0, .ref (ad 0)), (1, .int x1), (2, .int x2), (3, .int y3), (4, .int y4), (5, .int y5)]) hx hb dX7_furs_83 hl (k := 7) rfl rfl (by decide) rfl (fun ls hl => ?_)
          refine lv_goto (tgt := 42) hx hb dX7_furs_86 (by decide) ?_
          exact ih (y6 + ((S0.2 8) (v6 : Int32).toNatClampNeg)) (y7 + 1) _ (lv_sub hl [2, 3, 4, 5, 6, 7, 1, 0] rfl) hw
        · have hw := Eq.mp (if_neg c5) hw
          refine lv_iconst (v := 0) hx hb dX7_furs_63 (by decide) ?_
          refine lv_goto (tgt := 80) hx hb dX7_furs_64 (by decide) ?_
          refine lv_iadd hx hb dX7_furs_80 ?_
          refine lv_istore (lv' := [(6, .int (y6 + 0)), (0, .ref (ad 0)), (1, .int x1), (2, .int x2), (3, .int y3), (4, .int y4), (5, .int y5), (7, .int y7)]) hx hb dX7_furs_81 hl (by decide) rfl (fun ls hl => ?_)
          refine lv_iinc (v := (y7 + 1)) (lv' := [(7, .int (y7 + 1)), (6, .int (y6 + 0)), (0, .ref (ad 0)), (1, .int x1), (2, .int x2), (3, .int y3), (4, .int y4), (5, .int y5)]) hx hb dX7_furs_83 hl (k := 7) rfl rfl (by decide) rfl (fun ls hl => ?_)
          refine lv_goto (tgt := 42) hx hb dX7_furs_86 (by decide) ?_
          exact ih (y6 + 0) (y7 + 1) _ (lv_sub hl [2, 3, 4, 5, 6, 7, 1, 0] rfl) hw
  have L30 : ∀  (kx : Int32 → Int32 → Prop), (∀ (y3 : Int32) (y4 : Int32), ∀ ls : Array Slot, lv_has ls 8 [(2, .int x2), (3, .int y3), (4, .int y4)] → kx y3 y4 → W p l e { frames := 1, cells := 0, slots := 0, locals := 24 } s m ([.ref (ad 0), .int x1, .int x2] : List Value).toArray below meth c s.heap [] 0 0 (MQ below (QR (fun v => ∃ r, v = some (.int r) ∧ k r)) ([.ref (ad 0), .int x1, .int x2] : List Value).toArray s 0 0 (fun _ => False)) (F0 m 123 ls [])) → ∀ (N30 : Nat) (y3 : Int32) (y4 : Int32) (y5 : Int32), ∀ ls : Array Slot, lv_has ls 8 [(0, .ref (ad 0)), (1, .int x1), (2, .int x2), (3, .int y3), (4, .int y4), (5, .int y5)] → wl_X7_furs_30 S0 x1 kx N30 y3 y4 y5 → W p l e { frames := 1, cells := 0, slots := 0, locals := 24 } s m ([.ref (ad 0), .int x1, .int x2] : List Value).toArray below meth c s.heap [] 0 0 (MQ below (QR (fun v => ∃ r, v = some (.int r) ∧ k r)) ([.ref (ad 0), .int x1, .int x2] : List Value).toArray s 0 0 (fun _ => False)) (F0 m 30 ls []) := by
    intro  kx hxt N30
    induction N30 with
    | zero => intro y3 y4 y5 ls hl hw; exact False.elim hw
    | succ N30 ih =>
      intro y3 y4 y5 ls hl hw
      have hw : (if x1 ≤ y5 then (kx y3 y4) else (∃ M9, wl_X7_furs_42 S0 y5 (fun (v7 : Int32) => (if v7 ≤ y3 then (wl_X7_furs_30 S0 x1 kx N30 y3 y4 (y5 + 1)) else (wl_X7_furs_30 S0 x1 kx N30 v7 y5 (y5 + 1)))) M9 0 0)) := hw
      refine lv_iload hx hb dX7_furs_30 (lv_at hl 5 rfl) ?_
      refine lv_iload_n hx hb dX7_furs_32 rfl (lv_at hl 1 rfl) ?_
      refine lv_icmp_ge (tgt := 123) hx hb dX7_furs_33 (by decide) (fun c3 => ?_) (fun c3 => ?_)
      · have hw := Eq.mp (if_pos c3) hw
        exact hxt y3 y4 _ (lv_sub hl [2, 3, 4] rfl) hw
      · have hw := Eq.mp (if_neg c3) hw
        refine lv_iconst (v := 0) hx hb dX7_furs_36 (by decide) ?_
        refine lv_istore (lv' := [(6, .int 0), (0, .ref (ad 0)), (1, .int x1), (2, .int x2), (3, .int y3), (4, .int y4), (5, .int y5)]) hx hb dX7_furs_37 hl (by decide) rfl (fun ls hl => ?_)
        refine lv_iconst (v := 0) hx hb dX7_furs_39 (by decide) ?_
        refine lv_istore (lv' := [(7, .int 0), (6, .int 0), (0, .ref (ad 0)), (1, .int x1), (2, .int x2), (3, .int y3), (4, .int y4), (5, .int y5)]) hx hb dX7_furs_40 hl (by decide) rfl (fun ls hl => ?_)
        obtain ⟨N10, hw⟩ := hw
        refine L42 y3 y4 y5 _ (fun v7 ls hl hw => ?_) N10 0 0 _ (lv_sub hl [2, 3, 4, 5, 6, 7, 1, 0] rfl) hw
        refine lv_iload hx hb dX7_furs_89 (lv_at hl 6 rfl) ?_
        refine lv_iload_n hx hb dX7_furs_91 rfl (lv_at hl 3 rfl) ?_
        refine lv_icmp_le (tgt := 100) hx hb dX7_furs_92 (by decide) (fun c8 => ?_) (fun c8 => ?_)
        · have hw := Eq.mp (if_pos c8) hw
          refine lv_iload hx hb dX7_furs_100 (lv_at hl 4 rfl) ?_
          refine lv_istore (lv' := [(4, .int y4), (0, .ref (ad 0)), (1, .int x1), (2, .int x2), (3, .int y3), (5, .int y5), (6, .int v7)]) hx hb dX7_furs_102 hl (by decide) rfl (fun ls hl => ?_)
          refine lv_iload hx hb dX7_furs_104 (lv_at hl 6 rfl) ?_
          refine lv_iload_n hx hb dX7_furs_106 rfl (lv_at hl 4 rfl) ?_
          refine lv_icmp_le (tgt := 115) hx hb dX7_furs_107 (by decide) (fun _ => ?_) (fun c9 => absurd c8 c9)
          refine lv_iload_n hx hb dX7_furs_115 rfl (lv_at hl 4 rfl) ?_
          refine lv_istore_n (lv' := [(3, .int y3), (4, .int y4), (0, .ref (ad 0)), (1, .int x1), (2, .int x2), (5, .int y5), (6, .int v7)]) hx hb dX7_furs_116 rfl hl (by decide) rfl (fun ls hl => ?_)
          refine lv_iinc (v := (y5 + 1)) (lv' := [(5, .int (y5 + 1)), (3, .int y3), (4, .int y4), (0, .ref (ad 0)), (1, .int x1), (2, .int x2), (6, .int v7)]) hx hb dX7_furs_117 hl (k := 5) rfl rfl (by decide) rfl (fun ls hl => ?_)
          refine lv_goto (tgt := 30) hx hb dX7_furs_120 (by decide) ?_
          exact ih y3 y4 (y5 + 1) _ (lv_sub hl [3, 4, 5, 1, 2, 0] rfl) hw
        · have hw := Eq.mp (if_neg c8) hw
          refine lv_iload hx hb dX7_furs_95 (lv_at hl 5 rfl) ?_
          refine lv_goto (tgt := 102) hx hb dX7_furs_97 (by decide) ?_
          refine lv_istore (lv' := [(4, .int y5), (0, .ref (ad 0)), (1, .int x1), (2, .int x2), (3, .int y3), (5, .int y5), (6, .int v7)]) hx hb dX7_furs_102 hl (by decide) rfl (fun ls hl => ?_)
          refine lv_iload hx hb dX7_furs_104 (lv_at hl 6 rfl) ?_
          refine lv_iload_n hx hb dX7_furs_106 rfl (lv_at hl 4 rfl) ?_
          refine lv_icmp_le (tgt := 115) hx hb dX7_furs_107 (by decide) (fun c9 => absurd c9 c8) (fun _ => ?_)
          refine lv_iload hx hb dX7_furs_110 (lv_at hl 6 rfl) ?_
          refine lv_goto (tgt := 116) hx hb dX7_furs_112 (by decide) ?_
          refine lv_istore_n (lv' := [(3, .int v7), (4, .int y5), (0, .ref (ad 0)), (1, .int x1), (2, .int x2), (5, .int y5), (6, .int v7)]) hx hb dX7_furs_116 rfl hl (by decide) rfl (fun ls hl => ?_)
          refine lv_iinc (v := (y5 + 1)) (lv' := [(5, .int (y5 + 1)), (3, .int v7), (4, .int y5), (0, .ref (ad 0)), (1, .int x1), (2, .int x2), (6, .int v7)]) hx hb dX7_furs_117 hl (k := 5) rfl rfl (by decide) rfl (fun ls hl => ?_)
          refine lv_goto (tgt := 30) hx hb dX7_furs_120 (by decide) ?_
          exact ih v7 y5 (y5 + 1) _ (lv_sub hl [3, 4, 5, 1, 2, 0] rfl) hw
  have hw : (if (F_X7_in x1 1 24) = 0 then (k (-2)) else (if (F_X7_in x2 0 1) = 0 then (k (-2)) else (∃ M14, wl_X7_furs_30 S0 x1 (fun (v11 : Int32) (v12 : Int32) => (if x2 = 0 then (k v11) else (k v12))) M14 (-1) 0 0))) := hw
  refine lv_iload_n hx hb dX7_furs_0 rfl (lv_at hl 1 rfl) ?_
  refine lv_iconst (v := 1) hx hb dX7_furs_1 (by decide) ?_
  refine lv_bipush (v := 24) hx hb dX7_furs_2 (by decide) ?_
  refine callF (va_runS (As := [.int x1, .int 1, .int 24]) (rest := []) ⟨hx, hb, hml, hown, hW⟩ (c_X7_in l D cI cZ x1 1 24 _ rfl) (cwS0 hW mS_X7_in ml_X7_78 ⟨Nat.le_of_ble_eq_true rfl, Nat.le_of_ble_eq_true rfl⟩) (preS0 hK hN hP hD [] rfl rfl) rfl rfl hl.1 rfl (lv_room (Nat.le_of_ble_eq_true rfl)) dX7_furs_4 ⟨Nat.le_refl _, Nat.le_refl _⟩) ?_
  refine W.eq (g2 := F0 m 7 ls [.int (F_X7_in x1 1 24)]) rfl ?_
  refine lv_if_eq (tgt := 19) hx hb dX7_furs_7 (by decide) (fun c1 => ?_) (fun c1 => ?_)
  · have hw := Eq.mp (if_pos c1) hw
    refine lv_bipush (v := (-2)) hx hb dX7_furs_19 (by decide) ?_
    exact W.iret (v := (-2)) hx hb hr (fun t ht _ => ⟨⟨_, rfl, ⟨_, rfl, hw⟩⟩, ht⟩) (fun _ h => by cases h) dX7_furs_21
  · have hw := Eq.mp (if_neg c1) hw
    refine lv_iload_n hx hb dX7_furs_10 rfl (lv_at hl 2 rfl) ?_
    refine lv_iconst (v := 0) hx hb dX7_furs_11 (by decide) ?_
    refine lv_iconst (v := 1) hx hb dX7_furs_12 (by decide) ?_
    refine callF (va_runS (As := [.int x2, .int 0, .int 1]) (rest := []) ⟨hx, hb, hml, hown, hW⟩ (c_X7_in l D cI cZ x2 0 1 _ rfl) (cwS0 hW mS_X7_in ml_X7_78 ⟨Nat.le_of_ble_eq_true rfl, Nat.le_of_ble_eq_true rfl⟩) (preS0 hK hN hP hD [] rfl rfl) rfl rfl hl.1 rfl (lv_room (Nat.le_of_ble_eq_true rfl)) dX7_furs_13 ⟨Nat.le_refl _, Nat.le_refl _⟩) ?_
    refine W.eq (g2 := F0 m 16 ls [.int (F_X7_in x2 0 1)]) rfl ?_
    refine lv_if_ne (tgt := 22) hx hb dX7_furs_16 (by decide) (fun c2 => ?_) (fun c2 => ?_)
    · have hw := Eq.mp (if_neg c2) hw
      refine lv_iconst (v := (-1)) hx hb dX7_furs_22 (by decide) ?_
      refine lv_istore_n (lv' := [(3, .int (-1)), (0, .ref (ad 0)), (1, .int x1), (2, .int x2)]) hx hb dX7_furs_23 rfl hl (by decide) rfl (fun ls hl => ?_)
      refine lv_iconst (v := 0) hx hb dX7_furs_24 (by decide) ?_
      refine lv_istore (lv' := [(4, .int 0), (3, .int (-1)), (0, .ref (ad 0)), (1, .int x1), (2, .int x2)]) hx hb dX7_furs_25 hl (by decide) rfl (fun ls hl => ?_)
      refine lv_iconst (v := 0) hx hb dX7_furs_27 (by decide) ?_
      refine lv_istore (lv' := [(5, .int 0), (4, .int 0), (3, .int (-1)), (0, .ref (ad 0)), (1, .int x1), (2, .int x2)]) hx hb dX7_furs_28 hl (by decide) rfl (fun ls hl => ?_)
      obtain ⟨N15, hw⟩ := hw
      refine L30  _ (fun v11 v12 ls hl hw => ?_) N15 (-1) 0 0 _ (lv_sub hl [3, 4, 5, 2, 1, 0] rfl) hw
      refine lv_iload_n hx hb dX7_furs_123 rfl (lv_at hl 0 rfl) ?_
      refine lv_if_ne (tgt := 131) hx hb dX7_furs_124 (by decide) (fun c13 => ?_) (fun c13 => ?_)
      · have hw := Eq.mp (if_neg c13) hw
        refine lv_iload hx hb dX7_furs_131 (lv_at hl 2 rfl) ?_
        exact W.iret (v := v12) hx hb hr (fun t ht _ => ⟨⟨_, rfl, ⟨_, rfl, hw⟩⟩, ht⟩) (fun _ h => by cases h) dX7_furs_133
      · have hw := Eq.mp (if_pos c13) hw
        refine lv_iload_n hx hb dX7_furs_127 rfl (lv_at hl 1 rfl) ?_
        refine lv_goto (tgt := 133) hx hb dX7_furs_128 (by decide) ?_
        exact W.iret (v := v11) hx hb hr (fun t ht _ => ⟨⟨_, rfl, ⟨_, rfl, hw⟩⟩, ht⟩) (fun _ h => by cases h) dX7_furs_133
    · have hw := Eq.mp (if_pos c2) hw
      refine lv_bipush (v := (-2)) hx hb dX7_furs_19 (by decide) ?_
      exact W.iret (v := (-2)) hx hb hr (fun t ht _ => ⟨⟨_, rfl, ⟨_, rfl, hw⟩⟩, ht⟩) (fun _ h => by cases h) dX7_furs_21
set_option maxHeartbeats 4000000 in
set_option maxRecDepth 100000 in
theorem c_X7_seen (l : Launch) (D : va_G) (cI cZ : ClassId) (ad : Nat → Nat) (S0 : St) (x1 : Int32) (x2 : Int32) (k : Int32 → St → Prop) (hw : wp_X7_seen S0 x1 x2 k) : KW l yX7_seen cX7_seen 3 (some .int) 2 43 D cI cZ [.ref (ad 0), .int x1, .int x2] [mcells cI cZ ad 0 S0] (fun v (u : St) => ∃ r, v = some (.int r) ∧ k r u) (fun u : St => [mcells cI cZ ad 0 u]) := by
  refine Met.ofE (by decide +kernel) (Nat.le_of_ble_eq_true rfl) ?_
  intro p e s m below meth c E ls hl
  obtain ⟨hx, hb, hr, hml, hW, hown, hlocks, hP, hK, hD, hN⟩ := E
  have hl : lv_has ls 3 [(0, .ref (ad 0)), (1, .int x1), (2, .int x2)] := hl
  have hS : va_S (cOf (jn [mcells cI cZ ad 0 S0])) s.heap s.heap [] := va_S.rf
  have hw : (if (F_X7_isOne S0 x1) = 0 then (k (-1) S0) else (if (S0.1 10) = 8 then (k (-4) S0) else (vp_in ((2 : Int32) * (S0.1 10)) 16 ∧ (if x2 = 0 then (vp_in (((2 : Int32) * (S0.1 10)) + 1) 16 ∧ (k ((S0.1 10) + 1) (sI (sA (sA S0 11 (upd (S0.2 11) (((2 : Int32) * (S0.1 10)) : Int32).toNatClampNeg x1)) 11 (upd (upd (S0.2 11) (((2 : Int32) * (S0.1 10)) : Int32).toNatClampNeg x1) ((((2 : Int32) * (S0.1 10)) + 1) : Int32).toNatClampNeg 0)) 10 ((S0.1 10) + 1)))) else (vp_in (((2 : Int32) * (S0.1 10)) + 1) 16 ∧ (k ((S0.1 10) + 1) (sI (sA (sA S0 11 (upd (S0.2 11) (((2 : Int32) * (S0.1 10)) : Int32).toNatClampNeg x1)) 11 (upd (upd (S0.2 11) (((2 : Int32) * (S0.1 10)) : Int32).toNatClampNeg x1) ((((2 : Int32) * (S0.1 10)) + 1) : Int32).toNatClampNeg 1)) 10 ((S0.1 10) + 1)))))))) := hw
  refine lv_aload_n hx hb dX7_seen_0 rfl (lv_at hl 0 rfl) ?_
  refine lv_iload_n hx hb dX7_seen_1 rfl (lv_at hl 1 rfl) ?_
  refine callF (va_runV (As := [.int x1]) (rest := []) ⟨hx, hb, hml, hown, hW⟩ (c_X7_isOne l D cI cZ ad  S0 x1 _ rfl) (cwV0 hW mV_X7_isOne ml_X7_82 ⟨Nat.le_of_ble_eq_true rfl, Nat.le_of_ble_eq_true rfl⟩) (preV0 0 rfl rfl hK hN hP hD [0] rfl rfl) rfl rfl hl.1 rfl (lv_room (Nat.le_of_ble_eq_true rfl)) dX7_seen_2 ⟨Nat.le_refl _, Nat.le_refl _⟩) ?_
  refine W.eq (g2 := F0 m 5 ls [.int (F_X7_isOne S0 x1)]) rfl ?_
  refine lv_if_ne (tgt := 10) hx hb dX7_seen_5 (by decide) (fun c1 => ?_) (fun c1 => ?_)
  · have hw := Eq.mp (if_neg c1) hw
    refine lv_aload_n hx hb dX7_seen_10 rfl (lv_at hl 0 rfl) ?_
    refine va_get (D := D) (ci := 7) (v := .int (S0.1 10)) (C := RX7) (T := TX7) (N := 27) hx hb hW inW_X7 hown hK hP 0 rfl rfl 10 (by decide) (hW _ fl_X7_75) (fun _ h9 => h9) rfl dX7_seen_11 ?_
    refine lv_bipush (v := 8) hx hb dX7_seen_14 (by decide) ?_
    refine lv_icmp_ne (tgt := 22) hx hb dX7_seen_16 (by decide) (fun c2 => ?_) (fun c2 => ?_)
    · have hw := Eq.mp (if_neg c2) hw
      refine lv_aload_n hx hb dX7_seen_22 rfl (lv_at hl 0 rfl) ?_
      refine va_get (D := D) (ci := 7) (v := .ref (ad (0 + 6))) (C := RX7) (T := TX7) (N := 27) hx hb hW inW_X7 hown hK hP 0 rfl rfl 11 (by decide) (hW _ fl_X7_32) (fun _ h9 => h9) rfl dX7_seen_23 ?_
      refine lv_iconst (v := 2) hx hb dX7_seen_26 (by decide) ?_
      refine lv_aload_n hx hb dX7_seen_27 rfl (lv_at hl 0 rfl) ?_
      refine va_get (D := D) (ci := 7) (v := .int (S0.1 10)) (C := RX7) (T := TX7) (N := 27) hx hb hW inW_X7 hown hK hP 0 rfl rfl 10 (by decide) (hW _ fl_X7_75) (fun _ h9 => h9) rfl dX7_seen_28 ?_
      refine lv_imul hx hb dX7_seen_31 ?_
      refine lv_iload_n hx hb dX7_seen_32 rfl (lv_at hl 1 rfl) ?_
      refine va_iast (f := (S0.2 11)) hx hb hK hP hD hS 6 0 rfl rfl hw.1 dX7_seen_33 (fun H locs hP hD hS => ?_)
      have hw := hw.2
      revert hw; revert hD; revert hP
      generalize (upd (S0.2 11) (((2 : Int32) * (S0.1 10)) : Int32).toNatClampNeg x1) = Z3
      intro hP hD hw
      have hP : va_P D classes (jn [mcells cI cZ ad 0 (sA S0 11 Z3)]) H := ms_a11 (Φ := fun w => va_P D classes w H) (S := S0) (v := Z3) hP
      have hD : va_D (cOf (jn [mcells cI cZ ad 0 S0])) (jn [mcells cI cZ ad 0 (sA S0 11 Z3)]) := ms_a11 (Φ := fun w => va_D (cOf (jn [mcells cI cZ ad 0 S0])) w) (S := S0) (v := Z3) hD
      refine lv_aload_n hx hb dX7_seen_34 rfl (lv_at hl 0 rfl) ?_
      refine va_get (D := D) (ci := 7) (v := .ref (ad (0 + 6))) (C := RX7) (T := TX7) (N := 27) hx hb hW inW_X7 hown hK hP 0 rfl rfl 11 (by decide) (hW _ fl_X7_32) (fun _ h9 => h9) rfl dX7_seen_35 ?_
      refine lv_iconst (v := 2) hx hb dX7_seen_38 (by decide) ?_
      refine lv_aload_n hx hb dX7_seen_39 rfl (lv_at hl 0 rfl) ?_
      refine va_get (D := D) (ci := 7) (v := .int (S0.1 10)) (C := RX7) (T := TX7) (N := 27) hx hb hW inW_X7 hown hK hP 0 rfl rfl 10 (by decide) (hW _ fl_X7_75) (fun _ h9 => h9) rfl dX7_seen_40 ?_
      refine lv_imul hx hb dX7_seen_43 ?_
      refine lv_iconst (v := 1) hx hb dX7_seen_44 (by decide) ?_
      refine lv_iadd hx hb dX7_seen_45 ?_
      refine lv_iload_n hx hb dX7_seen_46 rfl (lv_at hl 2 rfl) ?_
      refine lv_if_eq (tgt := 54) hx hb dX7_seen_47 (by decide) (fun c4 => ?_) (fun c4 => ?_)
      · have hw := Eq.mp (if_pos c4) hw
        refine lv_iconst (v := 0) hx hb dX7_seen_54 (by decide) ?_
        refine va_iast (f := Z3) hx hb hK hP hD hS 6 0 rfl rfl hw.1 dX7_seen_55 (fun H locs hP hD hS => ?_)
        have hw := hw.2
        revert hw; revert hD; revert hP
        generalize (upd Z3 ((((2 : Int32) * (S0.1 10)) + 1) : Int32).toNatClampNeg 0) = Z5
        intro hP hD hw
        have hP : va_P D classes (jn [mcells cI cZ ad 0 (sA (sA S0 11 Z3) 11 Z5)]) H := ms_a11 (Φ := fun w => va_P D classes w H) (S := (sA S0 11 Z3)) (v := Z5) hP
        have hD : va_D (cOf (jn [mcells cI cZ ad 0 S0])) (jn [mcells cI cZ ad 0 (sA (sA S0 11 Z3) 11 Z5)]) := ms_a11 (Φ := fun w => va_D (cOf (jn [mcells cI cZ ad 0 S0])) w) (S := (sA S0 11 Z3)) (v := Z5) hD
        refine lv_aload_n hx hb dX7_seen_56 rfl (lv_at hl 0 rfl) ?_
        refine lv_dup hx hb dX7_seen_57 rfl ?_
        refine va_get (D := D) (ci := 7) (v := .int (S0.1 10)) (C := RX7) (T := TX7) (N := 27) hx hb hW inW_X7 hown hK hP 0 rfl rfl 10 (by decide) (hW _ fl_X7_75) (fun _ h9 => h9) rfl dX7_seen_58 ?_
        refine lv_iconst (v := 1) hx hb dX7_seen_61 (by decide) ?_
        refine lv_iadd hx hb dX7_seen_62 ?_
        refine va_put (D := D) (ci := 7) (v := .int ((S0.1 10) + 1)) (ty := .int) (C := RX7) (T := TX7) (N := 27) hx hb hW inW_X7 tyX7 tyX7_ok nmX7 hown hK hP hD hS 0 rfl rfl 10 (by decide) (hW _ fl_X7_75) (fun _ h9 => h9) rfl (by decide +kernel) rfl rfl (Nat.le_of_ble_eq_true rfl) dX7_seen_63 (fun H locs hP hD hS => ?_)
        have hP : va_P D classes (jn [mcells cI cZ ad 0 (sI (sA (sA S0 11 Z3) 11 Z5) 10 ((S0.1 10) + 1))]) H := ms_i10 (Φ := fun w => va_P D classes w H) (S := (sA (sA S0 11 Z3) 11 Z5)) (v := ((S0.1 10) + 1)) hP
        have hD : va_D (cOf (jn [mcells cI cZ ad 0 S0])) (jn [mcells cI cZ ad 0 (sI (sA (sA S0 11 Z3) 11 Z5) 10 ((S0.1 10) + 1))]) := ms_i10 (Φ := fun w => va_D (cOf (jn [mcells cI cZ ad 0 S0])) w) (S := (sA (sA S0 11 Z3) 11 Z5)) (v := ((S0.1 10) + 1)) hD
        refine lv_aload_n hx hb dX7_seen_66 rfl (lv_at hl 0 rfl) ?_
        refine va_get (D := D) (ci := 7) (v := .int ((S0.1 10) + 1)) (C := RX7) (T := TX7) (N := 27) hx hb hW inW_X7 hown hK hP 0 rfl rfl 10 (by decide) (hW _ fl_X7_75) (fun _ h9 => h9) rfl dX7_seen_67 ?_
        exact W.iret (v := ((S0.1 10) + 1)) hx hb hr (fun t ht _ => ⟨⟨_, ((sI (sA (sA S0 11 Z3) 11 Z5) 10 ((S0.1 10) + 1))), rfl, ⟨_, rfl, hw⟩, by rw [ht]; exact hP⟩, hS.F ht⟩) hS.2.2 dX7_seen_70
      · have hw := Eq.mp (if_neg c4) hw
        refine lv_iconst (v := 1) hx hb dX7_seen_50 (by decide) ?_
        refine lv_goto (tgt := 55) hx hb dX7_seen_51 (by decide) ?_
        refine va_iast (f := Z3) hx hb hK hP hD hS 6 0 rfl rfl hw.1 dX7_seen_55 (fun H locs hP hD hS => ?_)
        have hw := hw.2
        revert hw; revert hD; revert hP
        generalize (upd Z3 ((((2 : Int32) * (S0.1 10)) + 1) : Int32).toNatClampNeg 1) = Z6
        intro hP hD hw
        have hP : va_P D classes (jn [mcells cI cZ ad 0 (sA (sA S0 11 Z3) 11 Z6)]) H := ms_a11 (Φ := fun w => va_P D classes w H) (S := (sA S0 11 Z3)) (v := Z6) hP
        have hD : va_D (cOf (jn [mcells cI cZ ad 0 S0])) (jn [mcells cI cZ ad 0 (sA (sA S0 11 Z3) 11 Z6)]) := ms_a11 (Φ := fun w => va_D (cOf (jn [mcells cI cZ ad 0 S0])) w) (S := (sA S0 11 Z3)) (v := Z6) hD
        refine lv_aload_n hx hb dX7_seen_56 rfl (lv_at hl 0 rfl) ?_
        refine lv_dup hx hb dX7_seen_57 rfl ?_
        refine va_get (D := D) (ci := 7) (v := .int (S0.1 10)) (C := RX7) (T := TX7) (N := 27) hx hb hW inW_X7 hown hK hP 0 rfl rfl 10 (by decide) (hW _ fl_X7_75) (fun _ h9 => h9) rfl dX7_seen_58 ?_
        refine lv_iconst (v := 1) hx hb dX7_seen_61 (by decide) ?_
        refine lv_iadd hx hb dX7_seen_62 ?_
        refine va_put (D := D) (ci := 7) (v := .int ((S0.1 10) + 1)) (ty := .int) (C := RX7) (T := TX7) (N := 27) hx hb hW inW_X7 tyX7 tyX7_ok nmX7 hown hK hP hD hS 0 rfl rfl 10 (by decide) (hW _ fl_X7_75) (fun _ h9 => h9) rfl (by decide +kernel) rfl rfl (Nat.le_of_ble_eq_true rfl) dX7_seen_63 (fun H locs hP hD hS => ?_)
        have hP : va_P D classes (jn [mcells cI cZ ad 0 (sI (sA (sA S0 11 Z3) 11 Z6) 10 ((S0.1 10) + 1))]) H := ms_i10 (Φ := fun w => va_P D classes w H) (S := (sA (sA S0 11 Z3) 11 Z6)) (v := ((S0.1 10) + 1)) hP
        have hD : va_D (cOf (jn [mcells cI cZ ad 0 S0])) (jn [mcells cI cZ ad 0 (sI (sA (sA S0 11 Z3) 11 Z6) 10 ((S0.1 10) + 1))]) := ms_i10 (Φ := fun w => va_D (cOf (jn [mcells cI cZ ad 0 S0])) w) (S := (sA (sA S0 11 Z3) 11 Z6)) (v := ((S0.1 10) + 1)) hD
        refine lv_aload_n hx hb dX7_seen_66 rfl (lv_at hl 0 rfl) ?_
        refine va_get (D := D) (ci := 7) (v := .int ((S0.1 10) + 1)) (C := RX7) (T := TX7) (N := 27) hx hb hW inW_X7 hown hK hP 0 rfl rfl 10 (by decide) (hW _ fl_X7_75) (fun _ h9 => h9) rfl dX7_seen_67 ?_
        exact W.iret (v := ((S0.1 10) + 1)) hx hb hr (fun t ht _ => ⟨⟨_, ((sI (sA (sA S0 11 Z3) 11 Z6) 10 ((S0.1 10) + 1))), rfl, ⟨_, rfl, hw⟩, by rw [ht]; exact hP⟩, hS.F ht⟩) hS.2.2 dX7_seen_70
    · have hw := Eq.mp (if_pos c2) hw
      refine lv_bipush (v := (-4)) hx hb dX7_seen_19 (by decide) ?_
      exact W.iret (v := (-4)) hx hb hr (fun t ht _ => ⟨⟨_, (S0), rfl, ⟨_, rfl, hw⟩, by rw [ht]; exact hP⟩, hS.F ht⟩) hS.2.2 dX7_seen_21
  · have hw := Eq.mp (if_pos c1) hw
    refine lv_iconst (v := (-1)) hx hb dX7_seen_8 (by decide) ?_
    exact W.iret (v := (-1)) hx hb hr (fun t ht _ => ⟨⟨_, (S0), rfl, ⟨_, rfl, hw⟩, by rw [ht]; exact hP⟩, hS.F ht⟩) hS.2.2 dX7_seen_9
set_option maxHeartbeats 4000000 in
set_option maxRecDepth 100000 in
theorem c_X7_forget (l : Launch) (D : va_G) (cI cZ : ClassId) (ad : Nat → Nat) (S0 : St) (k : Int32 → St → Prop) (hw : wp_X7_forget S0 k) : KW l yX7_forget cX7_forget 2 (some .int) 0 0 D cI cZ [.ref (ad 0)] [mcells cI cZ ad 0 S0] (fun v (u : St) => ∃ r, v = some (.int r) ∧ k r u) (fun u : St => [mcells cI cZ ad 0 u]) := by
  refine Met.ofE (by decide +kernel) (Nat.le_of_ble_eq_true rfl) ?_
  intro p e s m below meth c E ls hl
  obtain ⟨hx, hb, hr, hml, hW, hown, hlocks, hP, hK, hD, hN⟩ := E
  have hl : lv_has ls 2 [(0, .ref (ad 0))] := hl
  have hS : va_S (cOf (jn [mcells cI cZ ad 0 S0])) s.heap s.heap [] := va_S.rf
  have hw : (k (S0.1 10) (sI S0 10 0)) := hw
  refine lv_aload_n hx hb dX7_forget_0 rfl (lv_at hl 0 rfl) ?_
  refine va_get (D := D) (ci := 7) (v := .int (S0.1 10)) (C := RX7) (T := TX7) (N := 27) hx hb hW inW_X7 hown hK hP 0 rfl rfl 10 (by decide) (hW _ fl_X7_75) (fun _ h9 => h9) rfl dX7_forget_1 ?_
  refine lv_istore_n (lv' := [(1, .int (S0.1 10)), (0, .ref (ad 0))]) hx hb dX7_forget_4 rfl hl (by decide) rfl (fun ls hl => ?_)
  refine lv_aload_n hx hb dX7_forget_5 rfl (lv_at hl 1 rfl) ?_
  refine lv_iconst (v := 0) hx hb dX7_forget_6 (by decide) ?_
  refine va_put (D := D) (ci := 7) (v := .int 0) (ty := .int) (C := RX7) (T := TX7) (N := 27) hx hb hW inW_X7 tyX7 tyX7_ok nmX7 hown hK hP hD hS 0 rfl rfl 10 (by decide) (hW _ fl_X7_75) (fun _ h9 => h9) rfl (by decide +kernel) rfl rfl (Nat.le_of_ble_eq_true rfl) dX7_forget_7 (fun H locs hP hD hS => ?_)
  have hP : va_P D classes (jn [mcells cI cZ ad 0 (sI S0 10 0)]) H := ms_i10 (Φ := fun w => va_P D classes w H) (S := S0) (v := 0) hP
  have hD : va_D (cOf (jn [mcells cI cZ ad 0 S0])) (jn [mcells cI cZ ad 0 (sI S0 10 0)]) := ms_i10 (Φ := fun w => va_D (cOf (jn [mcells cI cZ ad 0 S0])) w) (S := S0) (v := 0) hD
  refine lv_iload_n hx hb dX7_forget_10 rfl (lv_at hl 0 rfl) ?_
  exact W.iret (v := (S0.1 10)) hx hb hr (fun t ht _ => ⟨⟨_, ((sI S0 10 0)), rfl, ⟨_, rfl, hw⟩, by rw [ht]; exact hP⟩, hS.F ht⟩) hS.2.2 dX7_forget_11
set_option maxHeartbeats 4000000 in
set_option maxRecDepth 100000 in
theorem c_X7_living (l : Launch) (D : va_G) (cI cZ : ClassId) (ad : Nat → Nat) (S0 : St) (k : Int32 → Prop) (hw : wp_X7_living S0 k) : KR l yX7_living cX7_living 3 (some .int) 0 0 D cI cZ [.ref (ad 0)] [mcells cI cZ ad 0 S0] (fun v => ∃ r, v = some (.int r) ∧ k r) := by
  refine Met.ofE (by decide +kernel) (Nat.le_of_ble_eq_true rfl) ?_
  intro p e s m below meth c E ls hl
  obtain ⟨hx, hb, hr, hml, hW, hown, hlocks, hP, hK, hD, hN⟩ := E
  have hl : lv_has ls 3 [(0, .ref (ad 0))] := hl
  have L4 : ∀  (kx : Int32 → Prop), (∀ (y1 : Int32), ∀ ls : Array Slot, lv_has ls 3 [(1, .int y1)] → kx y1 → W p l e { frames := 0, cells := 0, slots := 0, locals := 0 } s m ([.ref (ad 0)] : List Value).toArray below meth c s.heap [] 0 0 (MQ below (QR (fun v => ∃ r, v = some (.int r) ∧ k r)) ([.ref (ad 0)] : List Value).toArray s 0 0 (fun _ => False)) (F0 m 42 ls [])) → ∀ (N4 : Nat) (y1 : Int32) (y2 : Int32), ∀ ls : Array Slot, lv_has ls 3 [(0, .ref (ad 0)), (1, .int y1), (2, .int y2)] → wl_X7_living_4 S0 kx N4 y1 y2 → W p l e { frames := 0, cells := 0, slots := 0, locals := 0 } s m ([.ref (ad 0)] : List Value).toArray below meth c s.heap [] 0 0 (MQ below (QR (fun v => ∃ r, v = some (.int r) ∧ k r)) ([.ref (ad 0)] : List Value).toArray s 0 0 (fun _ => False)) (F0 m 4 ls []) := by
    intro  kx hxt N4
    induction N4 with
    | zero => intro y1 y2 ls hl hw; exact False.elim hw
    | succ N4 ih =>
      intro y1 y2 ls hl hw
      have hw : (if (S0.1 0) ≤ y2 then (kx y1) else (vp_in y2 6 ∧ (if ((S0.2 5) (y2 : Int32).toNatClampNeg) < 0 then (wl_X7_living_4 S0 kx N4 (y1 ||| 0) (y2 + 1)) else (vp_in y2 6 ∧ (wl_X7_living_4 S0 kx N4 (y1 ||| ((1 : Int32) <<< (((S0.2 6) (y2 : Int32).toNatClampNeg) &&& 31))) (y2 + 1)))))) := hw
      refine lv_iload_n hx hb dX7_living_4 rfl (lv_at hl 2 rfl) ?_
      refine lv_aload_n hx hb dX7_living_5 rfl (lv_at hl 0 rfl) ?_
      refine va_get (D := D) (ci := 7) (v := .int (S0.1 0)) (C := RX7) (T := TX7) (N := 27) hx hb hW inW_X7 hown hK hP 0 rfl rfl 0 (by decide) (hW _ fl_X7_7) (fun _ h9 => h9) rfl dX7_living_6 ?_
      refine lv_icmp_ge (tgt := 42) hx hb dX7_living_9 (by decide) (fun c1 => ?_) (fun c1 => ?_)
      · have hw := Eq.mp (if_pos c1) hw
        exact hxt y1 _ (lv_sub hl [1] rfl) hw
      · have hw := Eq.mp (if_neg c1) hw
        refine lv_iload_n hx hb dX7_living_12 rfl (lv_at hl 1 rfl) ?_
        refine lv_aload_n hx hb dX7_living_13 rfl (lv_at hl 0 rfl) ?_
        refine va_get (D := D) (ci := 7) (v := .ref (ad (0 + 1))) (C := RX7) (T := TX7) (N := 27) hx hb hW inW_X7 hown hK hP 0 rfl rfl 5 (by decide) (hW _ fl_X7_16) (fun _ h9 => h9) rfl dX7_living_14 ?_
        refine lv_iload_n hx hb dX7_living_17 rfl (lv_at hl 2 rfl) ?_
        refine va_iald (f := (S0.2 5)) hx hb hK hP 1 0 rfl rfl hw.1 dX7_living_18 ?_
        have hw := hw.2
        refine lv_if_lt (tgt := 33) hx hb dX7_living_19 (by decide) (fun c2 => ?_) (fun c2 => ?_)
        · have hw := Eq.mp (if_pos c2) hw
          refine lv_iconst (v := 0) hx hb dX7_living_33 (by decide) ?_
          refine lv_ior hx hb dX7_living_34 ?_
          refine lv_istore_n (lv' := [(1, .int (y1 ||| 0)), (0, .ref (ad 0)), (2, .int y2)]) hx hb dX7_living_35 rfl hl (by decide) rfl (fun ls hl => ?_)
          refine lv_iinc (v := (y2 + 1)) (lv' := [(2, .int (y2 + 1)), (1, .int (y1 ||| 0)), (0, .ref (ad 0))]) hx hb dX7_living_36 hl (k := 2) rfl rfl (by decide) rfl (fun ls hl => ?_)
          refine lv_goto (tgt := 4) hx hb dX7_living_39 (by decide) ?_
          exact ih (y1 ||| 0) (y2 + 1) _ (lv_sub hl [2, 1, 0] rfl) hw
        · have hw := Eq.mp (if_neg c2) hw
          refine lv_iconst (v := 1) hx hb dX7_living_22 (by decide) ?_
          refine lv_aload_n hx hb dX7_living_23 rfl (lv_at hl 0 rfl) ?_
          refine va_get (D := D) (ci := 7) (v := .ref (ad (0 + 2))) (C := RX7) (T := TX7) (N := 27) hx hb hW inW_X7 hown hK hP 0 rfl rfl 6 (by decide) (hW _ fl_X7_20) (fun _ h9 => h9) rfl dX7_living_24 ?_
          refine lv_iload_n hx hb dX7_living_27 rfl (lv_at hl 2 rfl) ?_
          refine va_iald (f := (S0.2 6)) hx hb hK hP 2 0 rfl rfl hw.1 dX7_living_28 ?_
          have hw := hw.2
          refine lv_ishl hx hb dX7_living_29 ?_
          refine lv_goto (tgt := 34) hx hb dX7_living_30 (by decide) ?_
          refine lv_ior hx hb dX7_living_34 ?_
          refine lv_istore_n (lv' := [(1, .int (y1 ||| ((1 : Int32) <<< (((S0.2 6) (y2 : Int32).toNatClampNeg) &&& 31)))), (0, .ref (ad 0)), (2, .int y2)]) hx hb dX7_living_35 rfl hl (by decide) rfl (fun ls hl => ?_)
          refine lv_iinc (v := (y2 + 1)) (lv' := [(2, .int (y2 + 1)), (1, .int (y1 ||| ((1 : Int32) <<< (((S0.2 6) (y2 : Int32).toNatClampNeg) &&& 31)))), (0, .ref (ad 0))]) hx hb dX7_living_36 hl (k := 2) rfl rfl (by decide) rfl (fun ls hl => ?_)
          refine lv_goto (tgt := 4) hx hb dX7_living_39 (by decide) ?_
          exact ih (y1 ||| ((1 : Int32) <<< (((S0.2 6) (y2 : Int32).toNatClampNeg) &&& 31))) (y2 + 1) _ (lv_sub hl [2, 1, 0] rfl) hw
  have hw : (∃ M4, wl_X7_living_4 S0 (fun (v3 : Int32) => (k v3)) M4 0 0) := hw
  refine lv_iconst (v := 0) hx hb dX7_living_0 (by decide) ?_
  refine lv_istore_n (lv' := [(1, .int 0), (0, .ref (ad 0))]) hx hb dX7_living_1 rfl hl (by decide) rfl (fun ls hl => ?_)
  refine lv_iconst (v := 0) hx hb dX7_living_2 (by decide) ?_
  refine lv_istore_n (lv' := [(2, .int 0), (1, .int 0), (0, .ref (ad 0))]) hx hb dX7_living_3 rfl hl (by decide) rfl (fun ls hl => ?_)
  obtain ⟨N5, hw⟩ := hw
  refine L4  _ (fun v3 ls hl hw => ?_) N5 0 0 _ (lv_sub hl [2, 1, 0] rfl) hw
  refine lv_iload_n hx hb dX7_living_42 rfl (lv_at hl 0 rfl) ?_
  exact W.iret (v := v3) hx hb hr (fun t ht _ => ⟨⟨_, rfl, ⟨_, rfl, hw⟩⟩, ht⟩) (fun _ h => by cases h) dX7_living_43
set_option maxHeartbeats 4000000 in
set_option maxRecDepth 100000 in
theorem c_X7_deals (l : Launch) (D : va_G) (cI cZ : ClassId) (ad : Nat → Nat) (S0 : St) (x1 : Int32) (k : Int32 → St → Prop) (hw : wp_X7_deals S0 x1 k) : KW l yX7_deals cX7_deals 6 (some .boolean) 1 22 D cI cZ [.ref (ad 0), .int x1] [mcells cI cZ ad 0 S0] (fun v (u : St) => ∃ r, v = some (.int r) ∧ k r u) (fun u : St => [mcells cI cZ ad 0 u]) := by
  refine Met.ofE (by decide +kernel) (Nat.le_of_ble_eq_true rfl) ?_
  intro p e s m below meth c E ls hl
  obtain ⟨hx, hb, hr, hml, hW, hown, hlocks, hP, hK, hD, hN⟩ := E
  have hl : lv_has ls 6 [(0, .ref (ad 0)), (1, .int x1)] := hl
  have hS : va_S (cOf (jn [mcells cI cZ ad 0 S0])) s.heap s.heap [] := va_S.rf
  have L15 : ∀  (kx : Int32 → St → Prop), (∀ (y4 : Int32) (S0q : St) (H : Heap) (locs : List Loc), va_P D classes (jn [mcells cI cZ ad 0 S0q]) H → va_D (cOf (jn [mcells cI cZ ad 0 S0])) (jn [mcells cI cZ ad 0 S0q]) → va_S (cOf (jn [mcells cI cZ ad 0 S0])) s.heap H locs → ∀ ls : Array Slot, lv_has ls 6 [(4, .int y4)] → kx y4 S0q → W p l e { frames := 1, cells := 0, slots := 0, locals := 22 } s m ([.ref (ad 0), .int x1] : List Value).toArray below meth c H locs 0 0 (MQ below (QW (fun v (u : St) => ∃ r, v = some (.int r) ∧ k r u) D (fun u : St => [mcells cI cZ ad 0 u]) [mcells cI cZ ad 0 S0]) ([.ref (ad 0), .int x1] : List Value).toArray s 0 0 (cOf (jn [mcells cI cZ ad 0 S0]))) (F0 m 160 ls [])) → ∀ (N15 : Nat) (y2 : Int32) (y3 : Int32) (y4 : Int32) (y5 : Int32) (S0q : St) (H : Heap) (locs : List Loc), va_P D classes (jn [mcells cI cZ ad 0 S0q]) H → va_D (cOf (jn [mcells cI cZ ad 0 S0])) (jn [mcells cI cZ ad 0 S0q]) → va_S (cOf (jn [mcells cI cZ ad 0 S0])) s.heap H locs → ∀ ls : Array Slot, lv_has ls 6 [(0, .ref (ad 0)), (2, .int y2), (3, .int y3), (4, .int y4), (5, .int y5)] → wl_X7_deals_15 kx N15 y2 y3 y4 y5 S0q → W p l e { frames := 1, cells := 0, slots := 0, locals := 22 } s m ([.ref (ad 0), .int x1] : List Value).toArray below meth c H locs 0 0 (MQ below (QW (fun v (u : St) => ∃ r, v = some (.int r) ∧ k r u) D (fun u : St => [mcells cI cZ ad 0 u]) [mcells cI cZ ad 0 S0]) ([.ref (ad 0), .int x1] : List Value).toArray s 0 0 (cOf (jn [mcells cI cZ ad 0 S0]))) (F0 m 15 ls []) := by
    intro  kx hxt N15
    induction N15 with
    | zero => intro y2 y3 y4 y5 S0q H locs hP hD hS ls hl hw; exact False.elim hw
    | succ N15 ih =>
      intro y2 y3 y4 y5 S0q H locs hP hD hS ls hl hw
      have hw : (if y5 < 0 then (kx y4 S0q) else (if y4 = 0 then (kx y4 S0q) else (vp_in y5 6 ∧ (vp_in y5 6 ∧ (if 0 ≤ ((S0q.2 5) (y5 : Int32).toNatClampNeg) then (vp_in y5 6 ∧ (if 6 ≤ ((upd (S0q.2 23) (y5 : Int32).toNatClampNeg (y2 - y2 / 7 * 7)) (y5 : Int32).toNatClampNeg) then (wl_X7_deals_15 kx N15 (y2 / 7) (y3 ||| 0) 0 (y5 + (-1)) (sA S0q 23 (upd (S0q.2 23) (y5 : Int32).toNatClampNeg (y2 - y2 / 7 * 7)))) else (wp_X7_living (sA S0q 23 (upd (S0q.2 23) (y5 : Int32).toNatClampNeg (y2 - y2 / 7 * 7))) (fun (v6 : Int32) => (vp_in y5 6 ∧ (if (F_X7_has v6 ((upd (S0q.2 23) (y5 : Int32).toNatClampNeg (y2 - y2 / 7 * 7)) (y5 : Int32).toNatClampNeg)) = 0 then (wl_X7_deals_15 kx N15 (y2 / 7) (y3 ||| 0) 0 (y5 + (-1)) (sA S0q 23 (upd (S0q.2 23) (y5 : Int32).toNatClampNeg (y2 - y2 / 7 * 7)))) else (vp_in y5 6 ∧ (if (F_X7_has y3 ((upd (S0q.2 23) (y5 : Int32).toNatClampNeg (y2 - y2 / 7 * 7)) (y5 : Int32).toNatClampNeg)) = 0 then (vp_in y5 6 ∧ (vp_in y5 6 ∧ (wl_X7_deals_15 kx N15 (y2 / 7) (y3 ||| ((1 : Int32) <<< (((upd (S0q.2 23) (y5 : Int32).toNatClampNeg (y2 - y2 / 7 * 7)) (y5 : Int32).toNatClampNeg) &&& 31))) 1 (y5 + (-1)) (sA S0q 23 (upd (S0q.2 23) (y5 : Int32).toNatClampNeg (y2 - y2 / 7 * 7)))))) else (wl_X7_deals_15 kx N15 (y2 / 7) (y3 ||| 0) 0 (y5 + (-1)) (sA S0q 23 (upd (S0q.2 23) (y5 : Int32).toNatClampNeg (y2 - y2 / 7 * 7)))))))))))) else (vp_in y5 6 ∧ (if ((upd (S0q.2 23) (y5 : Int32).toNatClampNeg (y2 - y2 / 7 * 7)) (y5 : Int32).toNatClampNeg) = 6 then (vp_in y5 6 ∧ (if 6 ≤ ((upd (S0q.2 23) (y5 : Int32).toNatClampNeg (y2 - y2 / 7 * 7)) (y5 : Int32).toNatClampNeg) then (wl_X7_deals_15 kx N15 (y2 / 7) (y3 ||| 0) 1 (y5 + (-1)) (sA S0q 23 (upd (S0q.2 23) (y5 : Int32).toNatClampNeg (y2 - y2 / 7 * 7)))) else (vp_in y5 6 ∧ (wl_X7_deals_15 kx N15 (y2 / 7) (y3 ||| ((1 : Int32) <<< (((upd (S0q.2 23) (y5 : Int32).toNatClampNeg (y2 - y2 / 7 * 7)) (y5 : Int32).toNatClampNeg) &&& 31))) 1 (y5 + (-1)) (sA S0q 23 (upd (S0q.2 23) (y5 : Int32).toNatClampNeg (y2 - y2 / 7 * 7))))))) else (wl_X7_deals_15 kx N15 (y2 / 7) (y3 ||| 0) 0 (y5 + (-1)) (sA S0q 23 (upd (S0q.2 23) (y5 : Int32).toNatClampNeg (y2 - y2 / 7 * 7))))))))))) := hw
      refine lv_iload hx hb dX7_deals_15 (lv_at hl 4 rfl) ?_
      refine lv_if_lt (tgt := 160) hx hb dX7_deals_17 (by decide) (fun c1 => ?_) (fun c1 => ?_)
      · have hw := Eq.mp (if_pos c1) hw
        exact hxt y4 S0q _ _ hP hD hS _ (lv_sub hl [3] rfl) hw
      · have hw := Eq.mp (if_neg c1) hw
        refine lv_iload hx hb dX7_deals_20 (lv_at hl 3 rfl) ?_
        refine lv_if_eq (tgt := 160) hx hb dX7_deals_22 (by decide) (fun c2 => ?_) (fun c2 => ?_)
        · have hw := Eq.mp (if_pos c2) hw
          exact hxt y4 S0q _ _ hP hD hS _ (lv_sub hl [3] rfl) hw
        · have hw := Eq.mp (if_neg c2) hw
          refine lv_aload_n hx hb dX7_deals_25 rfl (lv_at hl 0 rfl) ?_
          refine va_get (D := D) (ci := 7) (v := .ref (ad (0 + 12))) (C := RX7) (T := TX7) (N := 27) hx hb hW inW_X7 hown hK hP 0 rfl rfl 23 (by decide) (hW _ fl_X7_50) (fun _ h9 => h9) rfl dX7_deals_26 ?_
          refine lv_iload hx hb dX7_deals_29 (lv_at hl 4 rfl) ?_
          refine lv_iload_n hx hb dX7_deals_31 rfl (lv_at hl 1 rfl) ?_
          refine lv_bipush (v := 7) hx hb dX7_deals_32 (by decide) ?_
          refine lv_irem hx hb dX7_deals_34 (by decide) ?_
          refine va_iast (f := (S0q.2 23)) hx hb hK hP hD hS 12 0 rfl rfl hw.1 dX7_deals_35 (fun H locs hP hD hS => ?_)
          have hw := hw.2
          revert hw; revert hD; revert hP
          generalize (upd (S0q.2 23) (y5 : Int32).toNatClampNeg (y2 - y2 / 7 * 7)) = Z3
          intro hP hD hw
          have hP : va_P D classes (jn [mcells cI cZ ad 0 (sA S0q 23 Z3)]) H := ms_a23 (Φ := fun w => va_P D classes w H) (S := S0q) (v := Z3) hP
          have hD : va_D (cOf (jn [mcells cI cZ ad 0 S0])) (jn [mcells cI cZ ad 0 (sA S0q 23 Z3)]) := ms_a23 (Φ := fun w => va_D (cOf (jn [mcells cI cZ ad 0 S0])) w) (S := S0q) (v := Z3) hD
          refine lv_iload_n hx hb dX7_deals_36 rfl (lv_at hl 1 rfl) ?_
          refine lv_bipush (v := 7) hx hb dX7_deals_37 (by decide) ?_
          refine lv_idiv hx hb dX7_deals_39 (by decide) ?_
          refine lv_istore_n (lv' := [(2, .int (y2 / 7)), (0, .ref (ad 0)), (3, .int y3), (4, .int y4), (5, .int y5)]) hx hb dX7_deals_40 rfl hl (by decide) rfl (fun ls hl => ?_)
          refine lv_aload_n hx hb dX7_deals_41 rfl (lv_at hl 1 rfl) ?_
          refine va_get (D := D) (ci := 7) (v := .ref (ad (0 + 1))) (C := RX7) (T := TX7) (N := 27) hx hb hW inW_X7 hown hK hP 0 rfl rfl 5 (by decide) (hW _ fl_X7_16) (fun _ h9 => h9) rfl dX7_deals_42 ?_
          refine lv_iload hx hb dX7_deals_45 (lv_at hl 4 rfl) ?_
          refine va_iald (f := (S0q.2 5)) hx hb hK hP 1 0 rfl rfl hw.1 dX7_deals_47 ?_
          have hw := hw.2
          refine lv_if_ge (tgt := 71) hx hb dX7_deals_48 (by decide) (fun c4 => ?_) (fun c4 => ?_)
          · have hw := Eq.mp (if_pos c4) hw
            refine lv_aload_n hx hb dX7_deals_71 rfl (lv_at hl 1 rfl) ?_
            refine va_get (D := D) (ci := 7) (v := .ref (ad (0 + 12))) (C := RX7) (T := TX7) (N := 27) hx hb hW inW_X7 hown hK hP 0 rfl rfl 23 (by decide) (hW _ fl_X7_50) (fun _ h9 => h9) rfl dX7_deals_72 ?_
            refine lv_iload hx hb dX7_deals_75 (lv_at hl 4 rfl) ?_
            refine va_iald (f := Z3) hx hb hK hP 12 0 rfl rfl hw.1 dX7_deals_77 ?_
            have hw := hw.2
            refine lv_bipush (v := 6) hx hb dX7_deals_78 (by decide) ?_
            refine lv_icmp_ge (tgt := 118) hx hb dX7_deals_80 (by decide) (fun c5 => ?_) (fun c5 => ?_)
            · have hw := Eq.mp (if_pos c5) hw
              refine lv_iconst (v := 0) hx hb dX7_deals_118 (by decide) ?_
              refine lv_istore (lv' := [(4, .int 0), (2, .int (y2 / 7)), (0, .ref (ad 0)), (3, .int y3), (5, .int y5)]) hx hb dX7_deals_119 hl (by decide) rfl (fun ls hl => ?_)
              refine lv_iload_n hx hb dX7_deals_121 rfl (lv_at hl 3 rfl) ?_
              refine lv_iload hx hb dX7_deals_122 (lv_at hl 0 rfl) ?_
              refine lv_if_eq (tgt := 151) hx hb dX7_deals_124 (by decide) (fun _ => ?_) (fun c9 => absurd (by decide) c9)
              refine lv_iconst (v := 0) hx hb dX7_deals_151 (by decide) ?_
              refine lv_ior hx hb dX7_deals_152 ?_
              refine lv_istore_n (lv' := [(3, .int (y3 ||| 0)), (4, .int 0), (2, .int (y2 / 7)), (0, .ref (ad 0)), (5, .int y5)]) hx hb dX7_deals_153 rfl hl (by decide) rfl (fun ls hl => ?_)
              refine lv_iinc (v := (y5 + (-1))) (lv' := [(5, .int (y5 + (-1))), (3, .int (y3 ||| 0)), (4, .int 0), (2, .int (y2 / 7)), (0, .ref (ad 0))]) hx hb dX7_deals_154 hl (k := 4) rfl (by rfl) (by decide) rfl (fun ls hl => ?_)
              refine lv_goto (tgt := 15) hx hb dX7_deals_157 (by decide) ?_
              exact ih (y2 / 7) (y3 ||| 0) 0 (y5 + (-1)) (sA S0q 23 Z3) _ _ hP hD hS _ (lv_sub hl [4, 3, 1, 2, 0] rfl) hw
            · have hw := Eq.mp (if_neg c5) hw
              refine lv_aload_n hx hb dX7_deals_83 rfl (lv_at hl 1 rfl) ?_
              refine callR (va_runV (As := []) (rest := []) ⟨hx, hb, hml, hown, hW⟩ (c_X7_living l D cI cZ ad  (sA S0q 23 Z3) _ hw) (cwV0 hW mV_X7_living ml_X7_166 ⟨Nat.le_of_ble_eq_true rfl, Nat.le_of_ble_eq_true rfl⟩) (preV0 0 rfl rfl hK hN hP hD [0] rfl rfl) rfl rfl hl.1 rfl (lv_room (Nat.le_of_ble_eq_true rfl)) dX7_deals_84 ⟨Nat.le_refl _, Nat.le_refl _⟩) (fun v9 hq => ?_)
              obtain ⟨v6, rfl, hw⟩ := hq
              refine W.eq (g2 := F0 m 87 ls [.int v6]) rfl ?_
              refine lv_aload_n hx hb dX7_deals_87 rfl (lv_at hl 1 rfl) ?_
              refine va_get (D := D) (ci := 7) (v := .ref (ad (0 + 12))) (C := RX7) (T := TX7) (N := 27) hx hb hW inW_X7 hown hK hP 0 rfl rfl 23 (by decide) (hW _ fl_X7_50) (fun _ h9 => h9) rfl dX7_deals_88 ?_
              refine lv_iload hx hb dX7_deals_91 (lv_at hl 4 rfl) ?_
              refine va_iald (f := Z3) hx hb hK hP 12 0 rfl rfl hw.1 dX7_deals_93 ?_
              have hw := hw.2
              refine callF (va_runS (As := [.int v6, .int (Z3 (y5 : Int32).toNatClampNeg)]) (rest := []) ⟨hx, hb, hml, hown, hW⟩ (c_X7_has l D cI cZ v6 (Z3 (y5 : Int32).toNatClampNeg) _ rfl) (cwS0 hW mS_X7_has ml_X7_169 ⟨Nat.le_of_ble_eq_true rfl, Nat.le_of_ble_eq_true rfl⟩) (preS0 hK hN hP hD [] rfl rfl) rfl rfl hl.1 rfl (lv_room (Nat.le_of_ble_eq_true rfl)) dX7_deals_94 ⟨Nat.le_refl _, Nat.le_refl _⟩) ?_
              refine W.eq (g2 := F0 m 97 ls [.int (F_X7_has v6 (Z3 (y5 : Int32).toNatClampNeg))]) rfl ?_
              refine lv_if_eq (tgt := 118) hx hb dX7_deals_97 (by decide) (fun c7 => ?_) (fun c7 => ?_)
              · have hw := Eq.mp (if_pos c7) hw
                refine lv_iconst (v := 0) hx hb dX7_deals_118 (by decide) ?_
                refine lv_istore (lv' := [(4, .int 0), (2, .int (y2 / 7)), (0, .ref (ad 0)), (3, .int y3), (5, .int y5)]) hx hb dX7_deals_119 hl (by decide) rfl (fun ls hl => ?_)
                refine lv_iload_n hx hb dX7_deals_121 rfl (lv_at hl 3 rfl) ?_
                refine lv_iload hx hb dX7_deals_122 (lv_at hl 0 rfl) ?_
                refine lv_if_eq (tgt := 151) hx hb dX7_deals_124 (by decide) (fun _ => ?_) (fun c9 => absurd (by decide) c9)
                refine lv_iconst (v := 0) hx hb dX7_deals_151 (by decide) ?_
                refine lv_ior hx hb dX7_deals_152 ?_
                refine lv_istore_n (lv' := [(3, .int (y3 ||| 0)), (4, .int 0), (2, .int (y2 / 7)), (0, .ref (ad 0)), (5, .int y5)]) hx hb dX7_deals_153 rfl hl (by decide) rfl (fun ls hl => ?_)
                refine lv_iinc (v := (y5 + (-1))) (lv' := [(5, .int (y5 + (-1))), (3, .int (y3 ||| 0)), (4, .int 0), (2, .int (y2 / 7)), (0, .ref (ad 0))]) hx hb dX7_deals_154 hl (k := 4) rfl (by rfl) (by decide) rfl (fun ls hl => ?_)
                refine lv_goto (tgt := 15) hx hb dX7_deals_157 (by decide) ?_
                exact ih (y2 / 7) (y3 ||| 0) 0 (y5 + (-1)) (sA S0q 23 Z3) _ _ hP hD hS _ (lv_sub hl [4, 3, 1, 2, 0] rfl) hw
              · have hw := Eq.mp (if_neg c7) hw
                refine lv_iload_n hx hb dX7_deals_100 rfl (lv_at hl 2 rfl) ?_
                refine lv_aload_n hx hb dX7_deals_101 rfl (lv_at hl 1 rfl) ?_
                refine va_get (D := D) (ci := 7) (v := .ref (ad (0 + 12))) (C := RX7) (T := TX7) (N := 27) hx hb hW inW_X7 hown hK hP 0 rfl rfl 23 (by decide) (hW _ fl_X7_50) (fun _ h9 => h9) rfl dX7_deals_102 ?_
                refine lv_iload hx hb dX7_deals_105 (lv_at hl 4 rfl) ?_
                refine va_iald (f := Z3) hx hb hK hP 12 0 rfl rfl hw.1 dX7_deals_107 ?_
                have hw := hw.2
                refine callF (va_runS (As := [.int y3, .int (Z3 (y5 : Int32).toNatClampNeg)]) (rest := []) ⟨hx, hb, hml, hown, hW⟩ (c_X7_has l D cI cZ y3 (Z3 (y5 : Int32).toNatClampNeg) _ rfl) (cwS0 hW mS_X7_has ml_X7_169 ⟨Nat.le_of_ble_eq_true rfl, Nat.le_of_ble_eq_true rfl⟩) (preS0 hK hN hP hD [] rfl rfl) rfl rfl hl.1 rfl (lv_room (Nat.le_of_ble_eq_true rfl)) dX7_deals_108 ⟨Nat.le_refl _, Nat.le_refl _⟩) ?_
                refine W.eq (g2 := F0 m 111 ls [.int (F_X7_has y3 (Z3 (y5 : Int32).toNatClampNeg))]) rfl ?_
                refine lv_if_ne (tgt := 118) hx hb dX7_deals_111 (by decide) (fun c8 => ?_) (fun c8 => ?_)
                · have hw := Eq.mp (if_neg c8) hw
                  refine lv_iconst (v := 0) hx hb dX7_deals_118 (by decide) ?_
                  refine lv_istore (lv' := [(4, .int 0), (2, .int (y2 / 7)), (0, .ref (ad 0)), (3, .int y3), (5, .int y5)]) hx hb dX7_deals_119 hl (by decide) rfl (fun ls hl => ?_)
                  refine lv_iload_n hx hb dX7_deals_121 rfl (lv_at hl 3 rfl) ?_
                  refine lv_iload hx hb dX7_deals_122 (lv_at hl 0 rfl) ?_
                  refine lv_if_eq (tgt := 151) hx hb dX7_deals_124 (by decide) (fun _ => ?_) (fun c9 => absurd (by decide) c9)
                  refine lv_iconst (v := 0) hx hb dX7_deals_151 (by decide) ?_
                  refine lv_ior hx hb dX7_deals_152 ?_
                  refine lv_istore_n (lv' := [(3, .int (y3 ||| 0)), (4, .int 0), (2, .int (y2 / 7)), (0, .ref (ad 0)), (5, .int y5)]) hx hb dX7_deals_153 rfl hl (by decide) rfl (fun ls hl => ?_)
                  refine lv_iinc (v := (y5 + (-1))) (lv' := [(5, .int (y5 + (-1))), (3, .int (y3 ||| 0)), (4, .int 0), (2, .int (y2 / 7)), (0, .ref (ad 0))]) hx hb dX7_deals_154 hl (k := 4) rfl (by rfl) (by decide) rfl (fun ls hl => ?_)
                  refine lv_goto (tgt := 15) hx hb dX7_deals_157 (by decide) ?_
                  exact ih (y2 / 7) (y3 ||| 0) 0 (y5 + (-1)) (sA S0q 23 Z3) _ _ hP hD hS _ (lv_sub hl [4, 3, 1, 2, 0] rfl) hw
                · have hw := Eq.mp (if_pos c8) hw
                  refine lv_iconst (v := 1) hx hb dX7_deals_114 (by decide) ?_
                  refine lv_goto (tgt := 119) hx hb dX7_deals_115 (by decide) ?_
                  refine lv_istore (lv' := [(4, .int 1), (2, .int (y2 / 7)), (0, .ref (ad 0)), (3, .int y3), (5, .int y5)]) hx hb dX7_deals_119 hl (by decide) rfl (fun ls hl => ?_)
                  refine lv_iload_n hx hb dX7_deals_121 rfl (lv_at hl 3 rfl) ?_
                  refine lv_iload hx hb dX7_deals_122 (lv_at hl 0 rfl) ?_
                  refine lv_if_eq (tgt := 151) hx hb dX7_deals_124 (by decide) (fun c9 => absurd c9 (by decide)) (fun _ => ?_)
                  refine lv_aload_n hx hb dX7_deals_127 rfl (lv_at hl 2 rfl) ?_
                  refine va_get (D := D) (ci := 7) (v := .ref (ad (0 + 12))) (C := RX7) (T := TX7) (N := 27) hx hb hW inW_X7 hown hK hP 0 rfl rfl 23 (by decide) (hW _ fl_X7_50) (fun _ h9 => h9) rfl dX7_deals_128 ?_
                  refine lv_iload hx hb dX7_deals_131 (lv_at hl 4 rfl) ?_
                  refine va_iald (f := Z3) hx hb hK hP 12 0 rfl rfl hw.1 dX7_deals_133 ?_
                  have hw := hw.2
                  refine lv_bipush (v := 6) hx hb dX7_deals_134 (by decide) ?_
                  refine lv_icmp_ge (tgt := 151) hx hb dX7_deals_136 (by decide) (fun c9 => absurd c9 c5) (fun _ => ?_)
                  refine lv_iconst (v := 1) hx hb dX7_deals_139 (by decide) ?_
                  refine lv_aload_n hx hb dX7_deals_140 rfl (lv_at hl 2 rfl) ?_
                  refine va_get (D := D) (ci := 7) (v := .ref (ad (0 + 12))) (C := RX7) (T := TX7) (N := 27) hx hb hW inW_X7 hown hK hP 0 rfl rfl 23 (by decide) (hW _ fl_X7_50) (fun _ h9 => h9) rfl dX7_deals_141 ?_
                  refine lv_iload hx hb dX7_deals_144 (lv_at hl 4 rfl) ?_
                  refine va_iald (f := Z3) hx hb hK hP 12 0 rfl rfl hw.1 dX7_deals_146 ?_
                  have hw := hw.2
                  refine lv_ishl hx hb dX7_deals_147 ?_
                  refine lv_goto (tgt := 152) hx hb dX7_deals_148 (by decide) ?_
                  refine lv_ior hx hb dX7_deals_152 ?_
                  refine lv_istore_n (lv' := [(3, .int (y3 ||| ((1 : Int32) <<< ((Z3 (y5 : Int32).toNatClampNeg) &&& 31)))), (4, .int 1), (2, .int (y2 / 7)), (0, .ref (ad 0)), (5, .int y5)]) hx hb dX7_deals_153 rfl hl (by decide) rfl (fun ls hl => ?_)
                  refine lv_iinc (v := (y5 + (-1))) (lv' := [(5, .int (y5 + (-1))), (3, .int (y3 ||| ((1 : Int32) <<< ((Z3 (y5 : Int32).toNatClampNeg) &&& 31)))), (4, .int 1), (2, .int (y2 / 7)), (0, .ref (ad 0))]) hx hb dX7_deals_154 hl (k := 4) rfl (by rfl) (by decide) rfl (fun ls hl => ?_)
                  refine lv_goto (tgt := 15) hx hb dX7_deals_157 (by decide) ?_
                  exact ih (y2 / 7) (y3 ||| ((1 : Int32) <<< ((Z3 (y5 : Int32).toNatClampNeg) &&& 31))) 1 (y5 + (-1)) (sA S0q 23 Z3) _ _ hP hD hS _ (lv_sub hl [4, 3, 1, 2, 0] rfl) hw
          · have hw := Eq.mp (if_neg c4) hw
            refine lv_aload_n hx hb dX7_deals_51 rfl (lv_at hl 1 rfl) ?_
            refine va_get (D := D) (ci := 7) (v := .ref (ad (0 + 12))) (C := RX7) (T := TX7) (N := 27) hx hb hW inW_X7 hown hK hP 0 rfl rfl 23 (by decide) (hW _ fl_X7_50) (fun _ h9 => h9) rfl dX7_deals_52 ?_
            refine lv_iload hx hb dX7_deals_55 (lv_at hl 4 rfl) ?_
            refine va_iald (f := Z3) hx hb hK hP 12 0 rfl rfl hw.1 dX7_deals_57 ?_
            have hw := hw.2
            refine lv_bipush (v := 6) hx hb dX7_deals_58 (by decide) ?_
            refine lv_icmp_ne (tgt := 67) hx hb dX7_deals_60 (by decide) (fun c9 => ?_) (fun c9 => ?_)
            · have hw := Eq.mp (if_neg c9) hw
              refine lv_iconst (v := 0) hx hb dX7_deals_67 (by decide) ?_
              refine lv_goto (tgt := 119) hx hb dX7_deals_68 (by decide) ?_
              refine lv_istore (lv' := [(4, .int 0), (2, .int (y2 / 7)), (0, .ref (ad 0)), (3, .int y3), (5, .int y5)]) hx hb dX7_deals_119 hl (by decide) rfl (fun ls hl => ?_)
              refine lv_iload_n hx hb dX7_deals_121 rfl (lv_at hl 3 rfl) ?_
              refine lv_iload hx hb dX7_deals_122 (lv_at hl 0 rfl) ?_
              refine lv_if_eq (tgt := 151) hx hb dX7_deals_124 (by decide) (fun _ => ?_) (fun c9 => absurd (by decide) c9)
              refine lv_iconst (v := 0) hx hb dX7_deals_151 (by decide) ?_
              refine lv_ior hx hb dX7_deals_152 ?_
              refine lv_istore_n (lv' := [(3, .int (y3 ||| 0)), (4, .int 0), (2, .int (y2 / 7)), (0, .ref (ad 0)), (5, .int y5)]) hx hb dX7_deals_153 rfl hl (by decide) rfl (fun ls hl => ?_)
              refine lv_iinc (v := (y5 + (-1))) (lv' := [(5, .int (y5 + (-1))), (3, .int (y3 ||| 0)), (4, .int 0), (2, .int (y2 / 7)), (0, .ref (ad 0))]) hx hb dX7_deals_154 hl (k := 4) rfl (by rfl) (by decide) rfl (fun ls hl => ?_)
              refine lv_goto (tgt := 15) hx hb dX7_deals_157 (by decide) ?_
              exact ih (y2 / 7) (y3 ||| 0) 0 (y5 + (-1)) (sA S0q 23 Z3) _ _ hP hD hS _ (lv_sub hl [4, 3, 1, 2, 0] rfl) hw
            · have hw := Eq.mp (if_pos c9) hw
              refine lv_iconst (v := 1) hx hb dX7_deals_63 (by decide) ?_
              refine lv_goto (tgt := 119) hx hb dX7_deals_64 (by decide) ?_
              refine lv_istore (lv' := [(4, .int 1), (2, .int (y2 / 7)), (0, .ref (ad 0)), (3, .int y3), (5, .int y5)]) hx hb dX7_deals_119 hl (by decide) rfl (fun ls hl => ?_)
              refine lv_iload_n hx hb dX7_deals_121 rfl (lv_at hl 3 rfl) ?_
              refine lv_iload hx hb dX7_deals_122 (lv_at hl 0 rfl) ?_
              refine lv_if_eq (tgt := 151) hx hb dX7_deals_124 (by decide) (fun c9 => absurd c9 (by decide)) (fun _ => ?_)
              refine lv_aload_n hx hb dX7_deals_127 rfl (lv_at hl 2 rfl) ?_
              refine va_get (D := D) (ci := 7) (v := .ref (ad (0 + 12))) (C := RX7) (T := TX7) (N := 27) hx hb hW inW_X7 hown hK hP 0 rfl rfl 23 (by decide) (hW _ fl_X7_50) (fun _ h9 => h9) rfl dX7_deals_128 ?_
              refine lv_iload hx hb dX7_deals_131 (lv_at hl 4 rfl) ?_
              refine va_iald (f := Z3) hx hb hK hP 12 0 rfl rfl hw.1 dX7_deals_133 ?_
              have hw := hw.2
              refine lv_bipush (v := 6) hx hb dX7_deals_134 (by decide) ?_
              refine lv_icmp_ge (tgt := 151) hx hb dX7_deals_136 (by decide) (fun c10 => ?_) (fun c10 => ?_)
              · have hw := Eq.mp (if_pos c10) hw
                refine lv_iconst (v := 0) hx hb dX7_deals_151 (by decide) ?_
                refine lv_ior hx hb dX7_deals_152 ?_
                refine lv_istore_n (lv' := [(3, .int (y3 ||| 0)), (4, .int 1), (2, .int (y2 / 7)), (0, .ref (ad 0)), (5, .int y5)]) hx hb dX7_deals_153 rfl hl (by decide) rfl (fun ls hl => ?_)
                refine lv_iinc (v := (y5 + (-1))) (lv' := [(5, .int (y5 + (-1))), (3, .int (y3 ||| 0)), (4, .int 1), (2, .int (y2 / 7)), (0, .ref (ad 0))]) hx hb dX7_deals_154 hl (k := 4) rfl (by rfl) (by decide) rfl (fun ls hl => ?_)
                refine lv_goto (tgt := 15) hx hb dX7_deals_157 (by decide) ?_
                exact ih (y2 / 7) (y3 ||| 0) 1 (y5 + (-1)) (sA S0q 23 Z3) _ _ hP hD hS _ (lv_sub hl [4, 3, 1, 2, 0] rfl) hw
              · have hw := Eq.mp (if_neg c10) hw
                refine lv_iconst (v := 1) hx hb dX7_deals_139 (by decide) ?_
                refine lv_aload_n hx hb dX7_deals_140 rfl (lv_at hl 2 rfl) ?_
                refine va_get (D := D) (ci := 7) (v := .ref (ad (0 + 12))) (C := RX7) (T := TX7) (N := 27) hx hb hW inW_X7 hown hK hP 0 rfl rfl 23 (by decide) (hW _ fl_X7_50) (fun _ h9 => h9) rfl dX7_deals_141 ?_
                refine lv_iload hx hb dX7_deals_144 (lv_at hl 4 rfl) ?_
                refine va_iald (f := Z3) hx hb hK hP 12 0 rfl rfl hw.1 dX7_deals_146 ?_
                have hw := hw.2
                refine lv_ishl hx hb dX7_deals_147 ?_
                refine lv_goto (tgt := 152) hx hb dX7_deals_148 (by decide) ?_
                refine lv_ior hx hb dX7_deals_152 ?_
                refine lv_istore_n (lv' := [(3, .int (y3 ||| ((1 : Int32) <<< ((Z3 (y5 : Int32).toNatClampNeg) &&& 31)))), (4, .int 1), (2, .int (y2 / 7)), (0, .ref (ad 0)), (5, .int y5)]) hx hb dX7_deals_153 rfl hl (by decide) rfl (fun ls hl => ?_)
                refine lv_iinc (v := (y5 + (-1))) (lv' := [(5, .int (y5 + (-1))), (3, .int (y3 ||| ((1 : Int32) <<< ((Z3 (y5 : Int32).toNatClampNeg) &&& 31)))), (4, .int 1), (2, .int (y2 / 7)), (0, .ref (ad 0))]) hx hb dX7_deals_154 hl (k := 4) rfl (by rfl) (by decide) rfl (fun ls hl => ?_)
                refine lv_goto (tgt := 15) hx hb dX7_deals_157 (by decide) ?_
                exact ih (y2 / 7) (y3 ||| ((1 : Int32) <<< ((Z3 (y5 : Int32).toNatClampNeg) &&& 31))) 1 (y5 + (-1)) (sA S0q 23 Z3) _ _ hP hD hS _ (lv_sub hl [4, 3, 1, 2, 0] rfl) hw
  have hw : (∃ M13, wl_X7_deals_15 (fun (v11 : Int32) (Z12 : St) => ((v11 = 0 ∨ v11 = 1) ∧ (k v11 Z12))) M13 x1 0 1 ((S0.1 0) - 1) S0) := hw
  refine lv_iload_n hx hb dX7_deals_0 rfl (lv_at hl 1 rfl) ?_
  refine lv_istore_n (lv' := [(2, .int x1), (0, .ref (ad 0)), (1, .int x1)]) hx hb dX7_deals_1 rfl hl (by decide) rfl (fun ls hl => ?_)
  refine lv_iconst (v := 0) hx hb dX7_deals_2 (by decide) ?_
  refine lv_istore_n (lv' := [(3, .int 0), (2, .int x1), (0, .ref (ad 0)), (1, .int x1)]) hx hb dX7_deals_3 rfl hl (by decide) rfl (fun ls hl => ?_)
  refine lv_iconst (v := 1) hx hb dX7_deals_4 (by decide) ?_
  refine lv_istore (lv' := [(4, .int 1), (3, .int 0), (2, .int x1), (0, .ref (ad 0)), (1, .int x1)]) hx hb dX7_deals_5 hl (by decide) rfl (fun ls hl => ?_)
  refine lv_aload_n hx hb dX7_deals_7 rfl (lv_at hl 3 rfl) ?_
  refine va_get (D := D) (ci := 7) (v := .int (S0.1 0)) (C := RX7) (T := TX7) (N := 27) hx hb hW inW_X7 hown hK hP 0 rfl rfl 0 (by decide) (hW _ fl_X7_7) (fun _ h9 => h9) rfl dX7_deals_8 ?_
  refine lv_iconst (v := 1) hx hb dX7_deals_11 (by decide) ?_
  refine lv_isub hx hb dX7_deals_12 ?_
  refine lv_istore (lv' := [(5, .int ((S0.1 0) - 1)), (4, .int 1), (3, .int 0), (2, .int x1), (0, .ref (ad 0)), (1, .int x1)]) hx hb dX7_deals_13 hl (by decide) rfl (fun ls hl => ?_)
  obtain ⟨N14, hw⟩ := hw
  refine L15  _ (fun v11 Z12 H locs hP hD hS ls hl hw => ?_) N14 x1 0 1 ((S0.1 0) - 1) S0 _ _ hP hD hS _ (lv_sub hl [4, 3, 2, 1, 0] rfl) hw
  refine lv_iload hx hb dX7_deals_160 (lv_at hl 0 rfl) ?_
  exact W.zret (v := v11) hx hb hr (nb_of hw.1) (fun t ht _ => ⟨⟨_, (Z12), rfl, ⟨_, rfl, hw.2⟩, by rw [ht]; exact hP⟩, hS.F ht⟩) hS.2.2 dX7_deals_162
set_option maxHeartbeats 4000000 in
set_option maxRecDepth 100000 in
theorem c_X7_coughOf (l : Launch) (D : va_G) (cI cZ : ClassId) (ad : Nat → Nat) (S0 : St) (x1 : Int32) (k : Int32 → Prop) (hw : wp_X7_coughOf S0 x1 k) : KR l yX7_coughOf cX7_coughOf 4 (some .int) 0 0 D cI cZ [.ref (ad 0), .int x1] [mcells cI cZ ad 0 S0] (fun v => ∃ r, v = some (.int r) ∧ k r) := by
  refine Met.ofE (by decide +kernel) (Nat.le_of_ble_eq_true rfl) ?_
  intro p e s m below meth c E ls hl
  obtain ⟨hx, hb, hr, hml, hW, hown, hlocks, hP, hK, hD, hN⟩ := E
  have hl : lv_has ls 4 [(0, .ref (ad 0)), (1, .int x1)] := hl
  have L5 : ∀  (kx : Int32 → Prop), (∀ (y2 : Int32), ∀ ls : Array Slot, lv_has ls 4 [(2, .int y2)] → kx y2 → W p l e { frames := 0, cells := 0, slots := 0, locals := 0 } s m ([.ref (ad 0), .int x1] : List Value).toArray below meth c s.heap [] 0 0 (MQ below (QR (fun v => ∃ r, v = some (.int r) ∧ k r)) ([.ref (ad 0), .int x1] : List Value).toArray s 0 0 (fun _ => False)) (F0 m 40 ls [])) → ∀ (N5 : Nat) (y2 : Int32) (y3 : Int32), ∀ ls : Array Slot, lv_has ls 4 [(0, .ref (ad 0)), (1, .int x1), (2, .int y2), (3, .int y3)] → wl_X7_coughOf_5 S0 x1 kx N5 y2 y3 → W p l e { frames := 0, cells := 0, slots := 0, locals := 0 } s m ([.ref (ad 0), .int x1] : List Value).toArray below meth c s.heap [] 0 0 (MQ below (QR (fun v => ∃ r, v = some (.int r) ∧ k r)) ([.ref (ad 0), .int x1] : List Value).toArray s 0 0 (fun _ => False)) (F0 m 5 ls []) := by
    intro  kx hxt N5
    induction N5 with
    | zero => intro y2 y3 ls hl hw; exact False.elim hw
    | succ N5 ih =>
      intro y2 y3 ls hl hw
      have hw : (if (S0.1 0) ≤ y3 then (kx y2) else (vp_in y3 6 ∧ (if ((S0.2 23) (y3 : Int32).toNatClampNeg) = x1 then (vp_in y3 6 ∧ (wl_X7_coughOf_5 S0 x1 kx N5 ((S0.2 9) (y3 : Int32).toNatClampNeg) (y3 + 1))) else (wl_X7_coughOf_5 S0 x1 kx N5 y2 (y3 + 1))))) := hw
      refine lv_iload_n hx hb dX7_coughOf_5 rfl (lv_at hl 3 rfl) ?_
      refine lv_aload_n hx hb dX7_coughOf_6 rfl (lv_at hl 0 rfl) ?_
      refine va_get (D := D) (ci := 7) (v := .int (S0.1 0)) (C := RX7) (T := TX7) (N := 27) hx hb hW inW_X7 hown hK hP 0 rfl rfl 0 (by decide) (hW _ fl_X7_7) (fun _ h9 => h9) rfl dX7_coughOf_7 ?_
      refine lv_icmp_ge (tgt := 40) hx hb dX7_coughOf_10 (by decide) (fun c1 => ?_) (fun c1 => ?_)
      · have hw := Eq.mp (if_pos c1) hw
        exact hxt y2 _ (lv_sub hl [2] rfl) hw
      · have hw := Eq.mp (if_neg c1) hw
        refine lv_aload_n hx hb dX7_coughOf_13 rfl (lv_at hl 0 rfl) ?_
        refine va_get (D := D) (ci := 7) (v := .ref (ad (0 + 12))) (C := RX7) (T := TX7) (N := 27) hx hb hW inW_X7 hown hK hP 0 rfl rfl 23 (by decide) (hW _ fl_X7_50) (fun _ h9 => h9) rfl dX7_coughOf_14 ?_
        refine lv_iload_n hx hb dX7_coughOf_17 rfl (lv_at hl 3 rfl) ?_
        refine va_iald (f := (S0.2 23)) hx hb hK hP 12 0 rfl rfl hw.1 dX7_coughOf_18 ?_
        have hw := hw.2
        refine lv_iload_n hx hb dX7_coughOf_19 rfl (lv_at hl 1 rfl) ?_
        refine lv_icmp_ne (tgt := 32) hx hb dX7_coughOf_20 (by decide) (fun c2 => ?_) (fun c2 => ?_)
        · have hw := Eq.mp (if_neg c2) hw
          refine lv_iload_n hx hb dX7_coughOf_32 rfl (lv_at hl 2 rfl) ?_
          refine lv_istore_n (lv' := [(2, .int y2), (0, .ref (ad 0)), (1, .int x1), (3, .int y3)]) hx hb dX7_coughOf_33 rfl hl (by decide) rfl (fun ls hl => ?_)
          refine lv_iinc (v := (y3 + 1)) (lv' := [(3, .int (y3 + 1)), (2, .int y2), (0, .ref (ad 0)), (1, .int x1)]) hx hb dX7_coughOf_34 hl (k := 3) rfl rfl (by decide) rfl (fun ls hl => ?_)
          refine lv_goto (tgt := 5) hx hb dX7_coughOf_37 (by decide) ?_
          exact ih y2 (y3 + 1) _ (lv_sub hl [2, 3, 1, 0] rfl) hw
        · have hw := Eq.mp (if_pos c2) hw
          refine lv_aload_n hx hb dX7_coughOf_23 rfl (lv_at hl 0 rfl) ?_
          refine va_get (D := D) (ci := 7) (v := .ref (ad (0 + 5))) (C := RX7) (T := TX7) (N := 27) hx hb hW inW_X7 hown hK hP 0 rfl rfl 9 (by decide) (hW _ fl_X7_29) (fun _ h9 => h9) rfl dX7_coughOf_24 ?_
          refine lv_iload_n hx hb dX7_coughOf_27 rfl (lv_at hl 3 rfl) ?_
          refine va_iald (f := (S0.2 9)) hx hb hK hP 5 0 rfl rfl hw.1 dX7_coughOf_28 ?_
          have hw := hw.2
          refine lv_goto (tgt := 33) hx hb dX7_coughOf_29 (by decide) ?_
          refine lv_istore_n (lv' := [(2, .int ((S0.2 9) (y3 : Int32).toNatClampNeg)), (0, .ref (ad 0)), (1, .int x1), (3, .int y3)]) hx hb dX7_coughOf_33 rfl hl (by decide) rfl (fun ls hl => ?_)
          refine lv_iinc (v := (y3 + 1)) (lv' := [(3, .int (y3 + 1)), (2, .int ((S0.2 9) (y3 : Int32).toNatClampNeg)), (0, .ref (ad 0)), (1, .int x1)]) hx hb dX7_coughOf_34 hl (k := 3) rfl rfl (by decide) rfl (fun ls hl => ?_)
          refine lv_goto (tgt := 5) hx hb dX7_coughOf_37 (by decide) ?_
          exact ih ((S0.2 9) (y3 : Int32).toNatClampNeg) (y3 + 1) _ (lv_sub hl [2, 3, 1, 0] rfl) hw
  have hw : (∃ M4, wl_X7_coughOf_5 S0 x1 (fun (v3 : Int32) => (k v3)) M4 (-6) 0) := hw
  refine lv_bipush (v := (-6)) hx hb dX7_coughOf_0 (by decide) ?_
  refine lv_istore_n (lv' := [(2, .int (-6)), (0, .ref (ad 0)), (1, .int x1)]) hx hb dX7_coughOf_2 rfl hl (by decide) rfl (fun ls hl => ?_)
  refine lv_iconst (v := 0) hx hb dX7_coughOf_3 (by decide) ?_
  refine lv_istore_n (lv' := [(3, .int 0), (2, .int (-6)), (0, .ref (ad 0)), (1, .int x1)]) hx hb dX7_coughOf_4 rfl hl (by decide) rfl (fun ls hl => ?_)
  obtain ⟨N5, hw⟩ := hw
  refine L5  _ (fun v3 ls hl hw => ?_) N5 (-6) 0 _ (lv_sub hl [2, 3, 1, 0] rfl) hw
  refine lv_iload_n hx hb dX7_coughOf_40 rfl (lv_at hl 0 rfl) ?_
  exact W.iret (v := v3) hx hb hr (fun t ht _ => ⟨⟨_, rfl, ⟨_, rfl, hw⟩⟩, ht⟩) (fun _ h => by cases h) dX7_coughOf_41
set_option maxHeartbeats 4000000 in
set_option maxRecDepth 100000 in
theorem c_X7_codes (l : Launch) (D : va_G) (cI cZ : ClassId) (ad : Nat → Nat) (S0 : St) (k : Int32 → Prop) (hw : wp_X7_codes S0 k) : KR l yX7_codes cX7_codes 3 (some .int) 0 0 D cI cZ [.ref (ad 0)] [mcells cI cZ ad 0 S0] (fun v => ∃ r, v = some (.int r) ∧ k r) := by
  refine Met.ofE (by decide +kernel) (Nat.le_of_ble_eq_true rfl) ?_
  intro p e s m below meth c E ls hl
  obtain ⟨hx, hb, hr, hml, hW, hown, hlocks, hP, hK, hD, hN⟩ := E
  have hl : lv_has ls 3 [(0, .ref (ad 0))] := hl
  have L4 : ∀  (kx : Int32 → Prop), (∀ (y1 : Int32), ∀ ls : Array Slot, lv_has ls 3 [(1, .int y1)] → kx y1 → W p l e { frames := 0, cells := 0, slots := 0, locals := 0 } s m ([.ref (ad 0)] : List Value).toArray below meth c s.heap [] 0 0 (MQ below (QR (fun v => ∃ r, v = some (.int r) ∧ k r)) ([.ref (ad 0)] : List Value).toArray s 0 0 (fun _ => False)) (F0 m 23 ls [])) → ∀ (N4 : Nat) (y1 : Int32) (y2 : Int32), ∀ ls : Array Slot, lv_has ls 3 [(0, .ref (ad 0)), (1, .int y1), (2, .int y2)] → wl_X7_codes_4 S0 kx N4 y1 y2 → W p l e { frames := 0, cells := 0, slots := 0, locals := 0 } s m ([.ref (ad 0)] : List Value).toArray below meth c s.heap [] 0 0 (MQ below (QR (fun v => ∃ r, v = some (.int r) ∧ k r)) ([.ref (ad 0)] : List Value).toArray s 0 0 (fun _ => False)) (F0 m 4 ls []) := by
    intro  kx hxt N4
    induction N4 with
    | zero => intro y1 y2 ls hl hw; exact False.elim hw
    | succ N4 ih =>
      intro y1 y2 ls hl hw
      have hw : (if (S0.1 0) ≤ y2 then (kx y1) else (wl_X7_codes_4 S0 kx N4 (y1 * 7) (y2 + 1))) := hw
      refine lv_iload_n hx hb dX7_codes_4 rfl (lv_at hl 2 rfl) ?_
      refine lv_aload_n hx hb dX7_codes_5 rfl (lv_at hl 0 rfl) ?_
      refine va_get (D := D) (ci := 7) (v := .int (S0.1 0)) (C := RX7) (T := TX7) (N := 27) hx hb hW inW_X7 hown hK hP 0 rfl rfl 0 (by decide) (hW _ fl_X7_7) (fun _ h9 => h9) rfl dX7_codes_6 ?_
      refine lv_icmp_ge (tgt := 23) hx hb dX7_codes_9 (by decide) (fun c1 => ?_) (fun c1 => ?_)
      · have hw := Eq.mp (if_pos c1) hw
        exact hxt y1 _ (lv_sub hl [1] rfl) hw
      · have hw := Eq.mp (if_neg c1) hw
        refine lv_iload_n hx hb dX7_codes_12 rfl (lv_at hl 1 rfl) ?_
        refine lv_bipush (v := 7) hx hb dX7_codes_13 (by decide) ?_
        refine lv_imul hx hb dX7_codes_15 ?_
        refine lv_istore_n (lv' := [(1, .int (y1 * 7)), (0, .ref (ad 0)), (2, .int y2)]) hx hb dX7_codes_16 rfl hl (by decide) rfl (fun ls hl => ?_)
        refine lv_iinc (v := (y2 + 1)) (lv' := [(2, .int (y2 + 1)), (1, .int (y1 * 7)), (0, .ref (ad 0))]) hx hb dX7_codes_17 hl (k := 2) rfl rfl (by decide) rfl (fun ls hl => ?_)
        refine lv_goto (tgt := 4) hx hb dX7_codes_20 (by decide) ?_
        exact ih (y1 * 7) (y2 + 1) _ (lv_sub hl [2, 1, 0] rfl) hw
  have hw : (∃ M3, wl_X7_codes_4 S0 (fun (v2 : Int32) => (k v2)) M3 1 0) := hw
  refine lv_iconst (v := 1) hx hb dX7_codes_0 (by decide) ?_
  refine lv_istore_n (lv' := [(1, .int 1), (0, .ref (ad 0))]) hx hb dX7_codes_1 rfl hl (by decide) rfl (fun ls hl => ?_)
  refine lv_iconst (v := 0) hx hb dX7_codes_2 (by decide) ?_
  refine lv_istore_n (lv' := [(2, .int 0), (1, .int 1), (0, .ref (ad 0))]) hx hb dX7_codes_3 rfl hl (by decide) rfl (fun ls hl => ?_)
  obtain ⟨N4, hw⟩ := hw
  refine L4  _ (fun v2 ls hl hw => ?_) N4 1 0 _ (lv_sub hl [2, 1, 0] rfl) hw
  refine lv_iload_n hx hb dX7_codes_23 rfl (lv_at hl 0 rfl) ?_
  exact W.iret (v := v2) hx hb hr (fun t ht _ => ⟨⟨_, rfl, ⟨_, rfl, hw⟩⟩, ht⟩) (fun _ h => by cases h) dX7_codes_24
set_option maxHeartbeats 4000000 in
set_option maxRecDepth 100000 in
theorem c_X7_isRow (l : Launch) (D : va_G) (cI cZ : ClassId) (ad : Nat → Nat) (S0 : St) (x1 : Int32) (k : Int32 → St → Prop) (hw : wp_X7_isRow S0 x1 k) : KW l yX7_isRow cX7_isRow 4 (some .boolean) 2 47 D cI cZ [.ref (ad 0), .int x1] [mcells cI cZ ad 0 S0] (fun v (u : St) => ∃ r, v = some (.int r) ∧ k r u) (fun u : St => [mcells cI cZ ad 0 u]) := by
  refine Met.ofE (by decide +kernel) (Nat.le_of_ble_eq_true rfl) ?_
  intro p e s m below meth c E ls hl
  obtain ⟨hx, hb, hr, hml, hW, hown, hlocks, hP, hK, hD, hN⟩ := E
  have hl : lv_has ls 4 [(0, .ref (ad 0)), (1, .int x1)] := hl
  have hS : va_S (cOf (jn [mcells cI cZ ad 0 S0])) s.heap s.heap [] := va_S.rf
  have L8 : ∀ (S0q : St) (kx : Int32 → Prop), (∀ (y2 : Int32) (H : Heap) (locs : List Loc), va_P D classes (jn [mcells cI cZ ad 0 S0q]) H → va_D (cOf (jn [mcells cI cZ ad 0 S0])) (jn [mcells cI cZ ad 0 S0q]) → va_S (cOf (jn [mcells cI cZ ad 0 S0])) s.heap H locs → ∀ ls : Array Slot, lv_has ls 4 [(2, .int y2)] → kx y2 → W p l e { frames := 2, cells := 0, slots := 0, locals := 47 } s m ([.ref (ad 0), .int x1] : List Value).toArray below meth c H locs 0 0 (MQ below (QW (fun v (u : St) => ∃ r, v = some (.int r) ∧ k r u) D (fun u : St => [mcells cI cZ ad 0 u]) [mcells cI cZ ad 0 S0]) ([.ref (ad 0), .int x1] : List Value).toArray s 0 0 (cOf (jn [mcells cI cZ ad 0 S0]))) (F0 m 57 ls [])) → ∀ (N8 : Nat) (y2 : Int32) (y3 : Int32) (H : Heap) (locs : List Loc), va_P D classes (jn [mcells cI cZ ad 0 S0q]) H → va_D (cOf (jn [mcells cI cZ ad 0 S0])) (jn [mcells cI cZ ad 0 S0q]) → va_S (cOf (jn [mcells cI cZ ad 0 S0])) s.heap H locs → ∀ ls : Array Slot, lv_has ls 4 [(0, .ref (ad 0)), (2, .int y2), (3, .int y3)] → wl_X7_isRow_8 S0q kx N8 y2 y3 → W p l e { frames := 2, cells := 0, slots := 0, locals := 47 } s m ([.ref (ad 0), .int x1] : List Value).toArray below meth c H locs 0 0 (MQ below (QW (fun v (u : St) => ∃ r, v = some (.int r) ∧ k r u) D (fun u : St => [mcells cI cZ ad 0 u]) [mcells cI cZ ad 0 S0]) ([.ref (ad 0), .int x1] : List Value).toArray s 0 0 (cOf (jn [mcells cI cZ ad 0 S0]))) (F0 m 8 ls []) := by
    intro S0q kx hxt N8
    induction N8 with
    | zero => intro y2 y3 H locs hP hD hS ls hl hw; exact False.elim hw
    | succ N8 ih =>
      intro y2 y3 H locs hP hD hS ls hl hw
      have hw : (if (S0q.1 10) ≤ y3 then (kx y2) else (if y2 = 0 then (kx y2) else (vp_in ((2 : Int32) * y3) 16 ∧ (wp_X7_coughOf S0q ((S0q.2 11) (((2 : Int32) * y3) : Int32).toNatClampNeg) (fun (v5 : Int32) => (vp_in (((2 : Int32) * y3) + 1) 16 ∧ (if v5 = ((S0q.2 11) ((((2 : Int32) * y3) + 1) : Int32).toNatClampNeg) then (wl_X7_isRow_8 S0q kx N8 1 (y3 + 1)) else (wl_X7_isRow_8 S0q kx N8 0 (y3 + 1))))))))) := hw
      refine lv_iload_n hx hb dX7_isRow_8 rfl (lv_at hl 2 rfl) ?_
      refine lv_aload_n hx hb dX7_isRow_9 rfl (lv_at hl 0 rfl) ?_
      refine va_get (D := D) (ci := 7) (v := .int (S0q.1 10)) (C := RX7) (T := TX7) (N := 27) hx hb hW inW_X7 hown hK hP 0 rfl rfl 10 (by decide) (hW _ fl_X7_75) (fun _ h9 => h9) rfl dX7_isRow_10 ?_
      refine lv_icmp_ge (tgt := 57) hx hb dX7_isRow_13 (by decide) (fun c3 => ?_) (fun c3 => ?_)
      · have hw := Eq.mp (if_pos c3) hw
        exact hxt y2 _ _ hP hD hS _ (lv_sub hl [1] rfl) hw
      · have hw := Eq.mp (if_neg c3) hw
        refine lv_iload_n hx hb dX7_isRow_16 rfl (lv_at hl 1 rfl) ?_
        refine lv_if_eq (tgt := 57) hx hb dX7_isRow_17 (by decide) (fun c4 => ?_) (fun c4 => ?_)
        · have hw := Eq.mp (if_pos c4) hw
          exact hxt y2 _ _ hP hD hS _ (lv_sub hl [1] rfl) hw
        · have hw := Eq.mp (if_neg c4) hw
          refine lv_aload_n hx hb dX7_isRow_20 rfl (lv_at hl 0 rfl) ?_
          refine lv_aload_n hx hb dX7_isRow_21 rfl (lv_at hl 0 rfl) ?_
          refine va_get (D := D) (ci := 7) (v := .ref (ad (0 + 6))) (C := RX7) (T := TX7) (N := 27) hx hb hW inW_X7 hown hK hP 0 rfl rfl 11 (by decide) (hW _ fl_X7_32) (fun _ h9 => h9) rfl dX7_isRow_22 ?_
          refine lv_iconst (v := 2) hx hb dX7_isRow_25 (by decide) ?_
          refine lv_iload_n hx hb dX7_isRow_26 rfl (lv_at hl 2 rfl) ?_
          refine lv_imul hx hb dX7_isRow_27 ?_
          refine va_iald (f := (S0q.2 11)) hx hb hK hP 6 0 rfl rfl hw.1 dX7_isRow_28 ?_
          have hw := hw.2
          refine callR (va_runV (As := [.int ((S0q.2 11) (((2 : Int32) * y3) : Int32).toNatClampNeg)]) (rest := []) ⟨hx, hb, hml, hown, hW⟩ (c_X7_coughOf l D cI cZ ad  S0q ((S0q.2 11) (((2 : Int32) * y3) : Int32).toNatClampNeg) _ hw) (cwV0 hW mV_X7_coughOf ml_X7_175 ⟨Nat.le_of_ble_eq_true rfl, Nat.le_of_ble_eq_true rfl⟩) (preV0 0 rfl rfl hK hN hP hD [0] rfl rfl) rfl rfl hl.1 rfl (lv_room (Nat.le_of_ble_eq_true rfl)) dX7_isRow_29 ⟨Nat.le_refl _, Nat.le_refl _⟩) (fun v9 hq => ?_)
          obtain ⟨v5, rfl, hw⟩ := hq
          refine W.eq (g2 := F0 m 32 ls [.int v5]) rfl ?_
          refine lv_aload_n hx hb dX7_isRow_32 rfl (lv_at hl 0 rfl) ?_
          refine va_get (D := D) (ci := 7) (v := .ref (ad (0 + 6))) (C := RX7) (T := TX7) (N := 27) hx hb hW inW_X7 hown hK hP 0 rfl rfl 11 (by decide) (hW _ fl_X7_32) (fun _ h9 => h9) rfl dX7_isRow_33 ?_
          refine lv_iconst (v := 2) hx hb dX7_isRow_36 (by decide) ?_
          refine lv_iload_n hx hb dX7_isRow_37 rfl (lv_at hl 2 rfl) ?_
          refine lv_imul hx hb dX7_isRow_38 ?_
          refine lv_iconst (v := 1) hx hb dX7_isRow_39 (by decide) ?_
          refine lv_iadd hx hb dX7_isRow_40 ?_
          refine va_iald (f := (S0q.2 11)) hx hb hK hP 6 0 rfl rfl hw.1 dX7_isRow_41 ?_
          have hw := hw.2
          refine lv_icmp_ne (tgt := 49) hx hb dX7_isRow_42 (by decide) (fun c6 => ?_) (fun c6 => ?_)
          · have hw := Eq.mp (if_neg c6) hw
            refine lv_iconst (v := 0) hx hb dX7_isRow_49 (by decide) ?_
            refine lv_istore_n (lv' := [(2, .int 0), (0, .ref (ad 0)), (3, .int y3)]) hx hb dX7_isRow_50 rfl hl (by decide) rfl (fun ls hl => ?_)
            refine lv_iinc (v := (y3 + 1)) (lv' := [(3, .int (y3 + 1)), (2, .int 0), (0, .ref (ad 0))]) hx hb dX7_isRow_51 hl (k := 2) rfl rfl (by decide) rfl (fun ls hl => ?_)
            refine lv_goto (tgt := 8) hx hb dX7_isRow_54 (by decide) ?_
            exact ih 0 (y3 + 1) _ _ hP hD hS _ (lv_sub hl [2, 1, 0] rfl) hw
          · have hw := Eq.mp (if_pos c6) hw
            refine lv_iconst (v := 1) hx hb dX7_isRow_45 (by decide) ?_
            refine lv_goto (tgt := 50) hx hb dX7_isRow_46 (by decide) ?_
            refine lv_istore_n (lv' := [(2, .int 1), (0, .ref (ad 0)), (3, .int y3)]) hx hb dX7_isRow_50 rfl hl (by decide) rfl (fun ls hl => ?_)
            refine lv_iinc (v := (y3 + 1)) (lv' := [(3, .int (y3 + 1)), (2, .int 1), (0, .ref (ad 0))]) hx hb dX7_isRow_51 hl (k := 2) rfl rfl (by decide) rfl (fun ls hl => ?_)
            refine lv_goto (tgt := 8) hx hb dX7_isRow_54 (by decide) ?_
            exact ih 1 (y3 + 1) _ _ hP hD hS _ (lv_sub hl [2, 1, 0] rfl) hw
  have hw : (wp_X7_deals S0 x1 (fun (v1 : Int32) (Z2 : St) => (∃ M8, wl_X7_isRow_8 Z2 (fun (v7 : Int32) => ((v7 = 0 ∨ v7 = 1) ∧ (k v7 Z2))) M8 v1 0))) := hw
  refine lv_aload_n hx hb dX7_isRow_0 rfl (lv_at hl 0 rfl) ?_
  refine lv_iload_n hx hb dX7_isRow_1 rfl (lv_at hl 1 rfl) ?_
  refine callW (va_runV (As := [.int x1]) (rest := []) ⟨hx, hb, hml, hown, hW⟩ (c_X7_deals l D cI cZ ad  S0 x1 _ hw) (cwV0 hW mV_X7_deals ml_X7_172 ⟨Nat.le_of_ble_eq_true rfl, Nat.le_of_ble_eq_true rfl⟩) (preV0 0 rfl rfl hK hN hP hD [0] rfl rfl) rfl rfl hl.1 rfl (lv_room (Nat.le_of_ble_eq_true rfl)) dX7_isRow_2 ⟨Nat.le_refl _, Nat.le_refl _⟩) hP hD hS [0] rfl rfl (fun _ => rfl) (fun v9 u9 H locs hq hP hD hS => ?_)
  obtain ⟨v1, rfl, hw⟩ := hq
  obtain ⟨Z2, rfl⟩ : ∃ z, z = u9 := ⟨_, rfl⟩
  have hP : va_P D classes (jn [mcells cI cZ ad 0 Z2]) H := hP
  have hD : va_D (cOf (jn [mcells cI cZ ad 0 S0])) (jn [mcells cI cZ ad 0 Z2]) := hD
  refine W.eq (g2 := F0 m 5 ls [.int v1]) rfl ?_
  refine lv_istore_n (lv' := [(2, .int v1), (0, .ref (ad 0)), (1, .int x1)]) hx hb dX7_isRow_5 rfl hl (by decide) rfl (fun ls hl => ?_)
  refine lv_iconst (v := 0) hx hb dX7_isRow_6 (by decide) ?_
  refine lv_istore_n (lv' := [(3, .int 0), (2, .int v1), (0, .ref (ad 0)), (1, .int x1)]) hx hb dX7_isRow_7 rfl hl (by decide) rfl (fun ls hl => ?_)
  obtain ⟨N9, hw⟩ := hw
  refine L8 Z2 _ (fun v7 H locs hP hD hS ls hl hw => ?_) N9 v1 0 _ _ hP hD hS _ (lv_sub hl [2, 1, 0] rfl) hw
  refine lv_iload_n hx hb dX7_isRow_57 rfl (lv_at hl 0 rfl) ?_
  exact W.zret (v := v7) hx hb hr (nb_of hw.1) (fun t ht _ => ⟨⟨_, (Z2), rfl, ⟨_, rfl, hw.2⟩, by rw [ht]; exact hP⟩, hS.F ht⟩) hS.2.2 dX7_isRow_58
set_option maxHeartbeats 4000000 in
set_option maxRecDepth 100000 in
theorem c_X7_changed (l : Launch) (D : va_G) (cI cZ : ClassId) (ad : Nat → Nat) (S0 : St) (x1 : Int32) (k : Int32 → St → Prop) (hw : wp_X7_changed S0 x1 k) : KW l yX7_changed cX7_changed 7 (some .int) 3 70 D cI cZ [.ref (ad 0), .int x1] [mcells cI cZ ad 0 S0] (fun v (u : St) => ∃ r, v = some (.int r) ∧ k r u) (fun u : St => [mcells cI cZ ad 0 u]) := by
  refine Met.ofE (by decide +kernel) (Nat.le_of_ble_eq_true rfl) ?_
  intro p e s m below meth c E ls hl
  obtain ⟨hx, hb, hr, hml, hW, hown, hlocks, hP, hK, hD, hN⟩ := E
  have hl : lv_has ls 7 [(0, .ref (ad 0)), (1, .int x1)] := hl
  have hS : va_S (cOf (jn [mcells cI cZ ad 0 S0])) s.heap s.heap [] := va_S.rf
  have L36 : ∀ (S0q : St) (kx : Int32 → Prop), (∀ (y5 : Int32) (H : Heap) (locs : List Loc), va_P D classes (jn [mcells cI cZ ad 0 S0q]) H → va_D (cOf (jn [mcells cI cZ ad 0 S0])) (jn [mcells cI cZ ad 0 S0q]) → va_S (cOf (jn [mcells cI cZ ad 0 S0])) s.heap H locs → ∀ ls : Array Slot, lv_has ls 7 [(5, .int y5)] → kx y5 → W p l e { frames := 3, cells := 0, slots := 0, locals := 70 } s m ([.ref (ad 0), .int x1] : List Value).toArray below meth c H locs 0 0 (MQ below (QW (fun v (u : St) => ∃ r, v = some (.int r) ∧ k r u) D (fun u : St => [mcells cI cZ ad 0 u]) [mcells cI cZ ad 0 S0]) ([.ref (ad 0), .int x1] : List Value).toArray s 0 0 (cOf (jn [mcells cI cZ ad 0 S0]))) (F0 m 66 ls [])) → ∀ (N36 : Nat) (y5 : Int32) (y6 : Int32) (H : Heap) (locs : List Loc), va_P D classes (jn [mcells cI cZ ad 0 S0q]) H → va_D (cOf (jn [mcells cI cZ ad 0 S0])) (jn [mcells cI cZ ad 0 S0q]) → va_S (cOf (jn [mcells cI cZ ad 0 S0])) s.heap H locs → ∀ ls : Array Slot, lv_has ls 7 [(0, .ref (ad 0)), (5, .int y5), (6, .int y6)] → wl_X7_changed_36 S0q kx N36 y5 y6 → W p l e { frames := 3, cells := 0, slots := 0, locals := 70 } s m ([.ref (ad 0), .int x1] : List Value).toArray below meth c H locs 0 0 (MQ below (QW (fun v (u : St) => ∃ r, v = some (.int r) ∧ k r u) D (fun u : St => [mcells cI cZ ad 0 u]) [mcells cI cZ ad 0 S0]) ([.ref (ad 0), .int x1] : List Value).toArray s 0 0 (cOf (jn [mcells cI cZ ad 0 S0]))) (F0 m 36 ls []) := by
    intro S0q kx hxt N36
    induction N36 with
    | zero => intro y5 y6 H locs hP hD hS ls hl hw; exact False.elim hw
    | succ N36 ih =>
      intro y5 y6 H locs hP hD hS ls hl hw
      have hw : (if (S0q.1 0) ≤ y6 then (kx y5) else (vp_in y6 6 ∧ (wl_X7_changed_36 S0q kx N36 (((10 : Int32) * y5) + ((S0q.2 23) (y6 : Int32).toNatClampNeg)) (y6 + 1)))) := hw
      refine lv_iload hx hb dX7_changed_36 (lv_at hl 2 rfl) ?_
      refine lv_aload_n hx hb dX7_changed_38 rfl (lv_at hl 0 rfl) ?_
      refine va_get (D := D) (ci := 7) (v := .int (S0q.1 0)) (C := RX7) (T := TX7) (N := 27) hx hb hW inW_X7 hown hK hP 0 rfl rfl 0 (by decide) (hW _ fl_X7_7) (fun _ h9 => h9) rfl dX7_changed_39 ?_
      refine lv_icmp_ge (tgt := 66) hx hb dX7_changed_42 (by decide) (fun c7 => ?_) (fun c7 => ?_)
      · have hw := Eq.mp (if_pos c7) hw
        exact hxt y5 _ _ hP hD hS _ (lv_sub hl [1] rfl) hw
      · have hw := Eq.mp (if_neg c7) hw
        refine lv_bipush (v := 10) hx hb dX7_changed_45 (by decide) ?_
        refine lv_iload hx hb dX7_changed_47 (lv_at hl 1 rfl) ?_
        refine lv_imul hx hb dX7_changed_49 ?_
        refine lv_aload_n hx hb dX7_changed_50 rfl (lv_at hl 0 rfl) ?_
        refine va_get (D := D) (ci := 7) (v := .ref (ad (0 + 12))) (C := RX7) (T := TX7) (N := 27) hx hb hW inW_X7 hown hK hP 0 rfl rfl 23 (by decide) (hW _ fl_X7_50) (fun _ h9 => h9) rfl dX7_changed_51 ?_
        refine lv_iload hx hb dX7_changed_54 (lv_at hl 2 rfl) ?_
        refine va_iald (f := (S0q.2 23)) hx hb hK hP 12 0 rfl rfl hw.1 dX7_changed_56 ?_
        have hw := hw.2
        refine lv_iadd hx hb dX7_changed_57 ?_
        refine lv_istore (lv' := [(5, .int (((10 : Int32) * y5) + ((S0q.2 23) (y6 : Int32).toNatClampNeg))), (0, .ref (ad 0)), (6, .int y6)]) hx hb dX7_changed_58 hl (by decide) rfl (fun ls hl => ?_)
        refine lv_iinc (v := (y6 + 1)) (lv' := [(6, .int (y6 + 1)), (5, .int (((10 : Int32) * y5) + ((S0q.2 23) (y6 : Int32).toNatClampNeg))), (0, .ref (ad 0))]) hx hb dX7_changed_60 hl (k := 2) rfl rfl (by decide) rfl (fun ls hl => ?_)
        refine lv_goto (tgt := 36) hx hb dX7_changed_63 (by decide) ?_
        exact ih (((10 : Int32) * y5) + ((S0q.2 23) (y6 : Int32).toNatClampNeg)) (y6 + 1) _ _ hP hD hS _ (lv_sub hl [2, 1, 0] rfl) hw
  have L10 : ∀ (y2 : Int32) (kx : Int32 → St → Prop), (∀ (y3 : Int32) (S0q : St) (H : Heap) (locs : List Loc), va_P D classes (jn [mcells cI cZ ad 0 S0q]) H → va_D (cOf (jn [mcells cI cZ ad 0 S0])) (jn [mcells cI cZ ad 0 S0q]) → va_S (cOf (jn [mcells cI cZ ad 0 S0])) s.heap H locs → ∀ ls : Array Slot, lv_has ls 7 [(1, .int x1), (3, .int y3)] → kx y3 S0q → W p l e { frames := 3, cells := 0, slots := 0, locals := 70 } s m ([.ref (ad 0), .int x1] : List Value).toArray below meth c H locs 0 0 (MQ below (QW (fun v (u : St) => ∃ r, v = some (.int r) ∧ k r u) D (fun u : St => [mcells cI cZ ad 0 u]) [mcells cI cZ ad 0 S0]) ([.ref (ad 0), .int x1] : List Value).toArray s 0 0 (cOf (jn [mcells cI cZ ad 0 S0]))) (F0 m 78 ls [])) → ∀ (N10 : Nat) (y3 : Int32) (y4 : Int32) (S0q : St) (H : Heap) (locs : List Loc), va_P D classes (jn [mcells cI cZ ad 0 S0q]) H → va_D (cOf (jn [mcells cI cZ ad 0 S0])) (jn [mcells cI cZ ad 0 S0q]) → va_S (cOf (jn [mcells cI cZ ad 0 S0])) s.heap H locs → ∀ ls : Array Slot, lv_has ls 7 [(0, .ref (ad 0)), (1, .int x1), (2, .int y2), (3, .int y3), (4, .int y4)] → wl_X7_changed_10 x1 y2 kx k N10 y3 y4 S0q → W p l e { frames := 3, cells := 0, slots := 0, locals := 70 } s m ([.ref (ad 0), .int x1] : List Value).toArray below meth c H locs 0 0 (MQ below (QW (fun v (u : St) => ∃ r, v = some (.int r) ∧ k r u) D (fun u : St => [mcells cI cZ ad 0 u]) [mcells cI cZ ad 0 S0]) ([.ref (ad 0), .int x1] : List Value).toArray s 0 0 (cOf (jn [mcells cI cZ ad 0 S0]))) (F0 m 10 ls []) := by
    intro y2 kx hxt N10
    induction N10 with
    | zero => intro y3 y4 S0q H locs hP hD hS ls hl hw; exact False.elim hw
    | succ N10 ih =>
      intro y3 y4 S0q H locs hP hD hS ls hl hw
      have hw : (if y2 ≤ y4 then (kx y3 S0q) else (wp_X7_isRow S0q y4 (fun (v3 : Int32) (Z4 : St) => (if v3 = 0 then (wl_X7_changed_10 x1 y2 kx k N10 y3 (y4 + 1) Z4) else (if y3 = x1 then (∃ M9, wl_X7_changed_36 Z4 (fun (v8 : Int32) => (k v8 Z4)) M9 0 0) else (wl_X7_changed_10 x1 y2 kx k N10 (y3 + 1) (y4 + 1) Z4)))))) := hw
      refine lv_iload hx hb dX7_changed_10 (lv_at hl 4 rfl) ?_
      refine lv_iload_n hx hb dX7_changed_12 rfl (lv_at hl 2 rfl) ?_
      refine lv_icmp_ge (tgt := 78) hx hb dX7_changed_13 (by decide) (fun c2 => ?_) (fun c2 => ?_)
      · have hw := Eq.mp (if_pos c2) hw
        exact hxt y3 S0q _ _ hP hD hS _ (lv_sub hl [1, 3] rfl) hw
      · have hw := Eq.mp (if_neg c2) hw
        refine lv_aload_n hx hb dX7_changed_16 rfl (lv_at hl 0 rfl) ?_
        refine lv_iload hx hb dX7_changed_17 (lv_at hl 4 rfl) ?_
        refine callW (va_runV (As := [.int y4]) (rest := []) ⟨hx, hb, hml, hown, hW⟩ (c_X7_isRow l D cI cZ ad  S0q y4 _ hw) (cwV0 hW mV_X7_isRow ml_X7_181 ⟨Nat.le_of_ble_eq_true rfl, Nat.le_of_ble_eq_true rfl⟩) (preV0 0 rfl rfl hK hN hP hD [0] rfl rfl) rfl rfl hl.1 rfl (lv_room (Nat.le_of_ble_eq_true rfl)) dX7_changed_19 ⟨Nat.le_refl _, Nat.le_refl _⟩) hP hD hS [0] rfl rfl (fun _ => rfl) (fun v9 u9 H locs hq hP hD hS => ?_)
        obtain ⟨v3, rfl, hw⟩ := hq
        obtain ⟨Z4, rfl⟩ : ∃ z, z = u9 := ⟨_, rfl⟩
        have hP : va_P D classes (jn [mcells cI cZ ad 0 Z4]) H := hP
        have hD : va_D (cOf (jn [mcells cI cZ ad 0 S0])) (jn [mcells cI cZ ad 0 Z4]) := hD
        refine W.eq (g2 := F0 m 22 ls [.int v3]) rfl ?_
        refine lv_if_eq (tgt := 72) hx hb dX7_changed_22 (by decide) (fun c5 => ?_) (fun c5 => ?_)
        · have hw := Eq.mp (if_pos c5) hw
          refine lv_iinc (v := (y4 + 1)) (lv' := [(4, .int (y4 + 1)), (0, .ref (ad 0)), (1, .int x1), (2, .int y2), (3, .int y3)]) hx hb dX7_changed_72 hl (k := 4) rfl rfl (by decide) rfl (fun ls hl => ?_)
          refine lv_goto (tgt := 10) hx hb dX7_changed_75 (by decide) ?_
          exact ih y3 (y4 + 1) Z4 _ _ hP hD hS _ (lv_sub hl [1, 2, 3, 4, 0] rfl) hw
        · have hw := Eq.mp (if_neg c5) hw
          refine lv_iload_n hx hb dX7_changed_25 rfl (lv_at hl 3 rfl) ?_
          refine lv_iload_n hx hb dX7_changed_26 rfl (lv_at hl 1 rfl) ?_
          refine lv_icmp_ne (tgt := 69) hx hb dX7_changed_27 (by decide) (fun c6 => ?_) (fun c6 => ?_)
          · have hw := Eq.mp (if_neg c6) hw
            refine lv_iinc (v := (y3 + 1)) (lv' := [(3, .int (y3 + 1)), (0, .ref (ad 0)), (1, .int x1), (2, .int y2), (4, .int y4)]) hx hb dX7_changed_69 hl (k := 3) rfl rfl (by decide) rfl (fun ls hl => ?_)
            refine lv_iinc (v := (y4 + 1)) (lv' := [(4, .int (y4 + 1)), (3, .int (y3 + 1)), (0, .ref (ad 0)), (1, .int x1), (2, .int y2)]) hx hb dX7_changed_72 hl (k := 4) rfl rfl (by decide) rfl (fun ls hl => ?_)
            refine lv_goto (tgt := 10) hx hb dX7_changed_75 (by decide) ?_
            exact ih (y3 + 1) (y4 + 1) Z4 _ _ hP hD hS _ (lv_sub hl [2, 3, 4, 1, 0] rfl) hw
          · have hw := Eq.mp (if_pos c6) hw
            refine lv_iconst (v := 0) hx hb dX7_changed_30 (by decide) ?_
            refine lv_istore (lv' := [(5, .int 0), (0, .ref (ad 0)), (1, .int x1), (2, .int y2), (3, .int y3), (4, .int y4)]) hx hb dX7_changed_31 hl (by decide) rfl (fun ls hl => ?_)
            refine lv_iconst (v := 0) hx hb dX7_changed_33 (by decide) ?_
            refine lv_istore (lv' := [(6, .int 0), (5, .int 0), (0, .ref (ad 0)), (1, .int x1), (2, .int y2), (3, .int y3), (4, .int y4)]) hx hb dX7_changed_34 hl (by decide) rfl (fun ls hl => ?_)
            obtain ⟨N10, hw⟩ := hw
            refine L36 Z4 _ (fun v8 H locs hP hD hS ls hl hw => ?_) N10 0 0 _ _ hP hD hS _ (lv_sub hl [2, 1, 0] rfl) hw
            refine lv_iload hx hb dX7_changed_66 (lv_at hl 0 rfl) ?_
            exact W.iret (v := v8) hx hb hr (fun t ht _ => ⟨⟨_, (Z4), rfl, ⟨_, rfl, hw⟩, by rw [ht]; exact hP⟩, hS.F ht⟩) hS.2.2 dX7_changed_68
  have hw : (wp_X7_codes S0 (fun (v1 : Int32) => (∃ M14, wl_X7_changed_10 x1 v1 (fun (v11 : Int32) (Z12 : St) => (if x1 = (-1) then (k v11 Z12) else (k (-6) Z12))) k M14 0 0 S0))) := hw
  refine lv_aload_n hx hb dX7_changed_0 rfl (lv_at hl 0 rfl) ?_
  refine callR (va_runV (As := []) (rest := []) ⟨hx, hb, hml, hown, hW⟩ (c_X7_codes l D cI cZ ad  S0 _ hw) (cwV0 hW mV_X7_codes ml_X7_178 ⟨Nat.le_of_ble_eq_true rfl, Nat.le_of_ble_eq_true rfl⟩) (preV0 0 rfl rfl hK hN hP hD [0] rfl rfl) rfl rfl hl.1 rfl (lv_room (Nat.le_of_ble_eq_true rfl)) dX7_changed_1 ⟨Nat.le_refl _, Nat.le_refl _⟩) (fun v9 hq => ?_)
  obtain ⟨v1, rfl, hw⟩ := hq
  refine W.eq (g2 := F0 m 4 ls [.int v1]) rfl ?_
  refine lv_istore_n (lv' := [(2, .int v1), (0, .ref (ad 0)), (1, .int x1)]) hx hb dX7_changed_4 rfl hl (by decide) rfl (fun ls hl => ?_)
  refine lv_iconst (v := 0) hx hb dX7_changed_5 (by decide) ?_
  refine lv_istore_n (lv' := [(3, .int 0), (2, .int v1), (0, .ref (ad 0)), (1, .int x1)]) hx hb dX7_changed_6 rfl hl (by decide) rfl (fun ls hl => ?_)
  refine lv_iconst (v := 0) hx hb dX7_changed_7 (by decide) ?_
  refine lv_istore (lv' := [(4, .int 0), (3, .int 0), (2, .int v1), (0, .ref (ad 0)), (1, .int x1)]) hx hb dX7_changed_8 hl (by decide) rfl (fun ls hl => ?_)
  obtain ⟨N15, hw⟩ := hw
  refine L10 v1 _ (fun v11 Z12 H locs hP hD hS ls hl hw => ?_) N15 0 0 S0 _ _ hP hD hS _ (lv_sub hl [3, 4, 2, 1, 0] rfl) hw
  refine lv_iload_n hx hb dX7_changed_78 rfl (lv_at hl 0 rfl) ?_
  refine lv_iconst (v := (-1)) hx hb dX7_changed_79 (by decide) ?_
  refine lv_icmp_ne (tgt := 87) hx hb dX7_changed_80 (by decide) (fun c13 => ?_) (fun c13 => ?_)
  · have hw := Eq.mp (if_neg c13) hw
    refine lv_bipush (v := (-6)) hx hb dX7_changed_87 (by decide) ?_
    exact W.iret (v := (-6)) hx hb hr (fun t ht _ => ⟨⟨_, (Z12), rfl, ⟨_, rfl, hw⟩, by rw [ht]; exact hP⟩, hS.F ht⟩) hS.2.2 dX7_changed_89
  · have hw := Eq.mp (if_pos c13) hw
    refine lv_iload_n hx hb dX7_changed_83 rfl (lv_at hl 1 rfl) ?_
    refine lv_goto (tgt := 89) hx hb dX7_changed_84 (by decide) ?_
    exact W.iret (v := v11) hx hb hr (fun t ht _ => ⟨⟨_, (Z12), rfl, ⟨_, rfl, hw⟩, by rw [ht]; exact hP⟩, hS.F ht⟩) hS.2.2 dX7_changed_89
set_option maxHeartbeats 4000000 in
set_option maxRecDepth 100000 in
theorem c_X7_names (l : Launch) (D : va_G) (cI cZ : ClassId) (ad : Nat → Nat) (S0 : St) (x1 : Int32) (k : Int32 → St → Prop) (hw : wp_X7_names S0 x1 k) : KW l yX7_names cX7_names 5 (some .int) 3 70 D cI cZ [.ref (ad 0), .int x1] [mcells cI cZ ad 0 S0] (fun v (u : St) => ∃ r, v = some (.int r) ∧ k r u) (fun u : St => [mcells cI cZ ad 0 u]) := by
  refine Met.ofE (by decide +kernel) (Nat.le_of_ble_eq_true rfl) ?_
  intro p e s m below meth c E ls hl
  obtain ⟨hx, hb, hr, hml, hW, hown, hlocks, hP, hK, hD, hN⟩ := E
  have hl : lv_has ls 5 [(0, .ref (ad 0)), (1, .int x1)] := hl
  have hS : va_S (cOf (jn [mcells cI cZ ad 0 S0])) s.heap s.heap [] := va_S.rf
  have L29 : ∀ (y2 : Int32) (kx : Int32 → St → Prop), (∀ (y3 : Int32) (S0q : St) (H : Heap) (locs : List Loc), va_P D classes (jn [mcells cI cZ ad 0 S0q]) H → va_D (cOf (jn [mcells cI cZ ad 0 S0])) (jn [mcells cI cZ ad 0 S0q]) → va_S (cOf (jn [mcells cI cZ ad 0 S0])) s.heap H locs → ∀ ls : Array Slot, lv_has ls 5 [(3, .int y3)] → kx y3 S0q → W p l e { frames := 3, cells := 0, slots := 0, locals := 70 } s m ([.ref (ad 0), .int x1] : List Value).toArray below meth c H locs 0 0 (MQ below (QW (fun v (u : St) => ∃ r, v = some (.int r) ∧ k r u) D (fun u : St => [mcells cI cZ ad 0 u]) [mcells cI cZ ad 0 S0]) ([.ref (ad 0), .int x1] : List Value).toArray s 0 0 (cOf (jn [mcells cI cZ ad 0 S0]))) (F0 m 65 ls [])) → ∀ (N29 : Nat) (y3 : Int32) (y4 : Int32) (S0q : St) (H : Heap) (locs : List Loc), va_P D classes (jn [mcells cI cZ ad 0 S0q]) H → va_D (cOf (jn [mcells cI cZ ad 0 S0])) (jn [mcells cI cZ ad 0 S0q]) → va_S (cOf (jn [mcells cI cZ ad 0 S0])) s.heap H locs → ∀ ls : Array Slot, lv_has ls 5 [(0, .ref (ad 0)), (1, .int x1), (2, .int y2), (3, .int y3), (4, .int y4)] → wl_X7_names_29 x1 y2 kx N29 y3 y4 S0q → W p l e { frames := 3, cells := 0, slots := 0, locals := 70 } s m ([.ref (ad 0), .int x1] : List Value).toArray below meth c H locs 0 0 (MQ below (QW (fun v (u : St) => ∃ r, v = some (.int r) ∧ k r u) D (fun u : St => [mcells cI cZ ad 0 u]) [mcells cI cZ ad 0 S0]) ([.ref (ad 0), .int x1] : List Value).toArray s 0 0 (cOf (jn [mcells cI cZ ad 0 S0]))) (F0 m 29 ls []) := by
    intro y2 kx hxt N29
    induction N29 with
    | zero => intro y3 y4 S0q H locs hP hD hS ls hl hw; exact False.elim hw
    | succ N29 ih =>
      intro y3 y4 S0q H locs hP hD hS ls hl hw
      have hw : (if y2 ≤ y4 then (kx y3 S0q) else (wp_X7_isRow S0q y4 (fun (v5 : Int32) (Z6 : St) => (if v5 = 0 then (wl_X7_names_29 x1 y2 kx N29 (y3 ||| 0) (y4 + 1) Z6) else (vp_in x1 6 ∧ (wl_X7_names_29 x1 y2 kx N29 (y3 ||| ((1 : Int32) <<< (((Z6.2 23) (x1 : Int32).toNatClampNeg) &&& 31))) (y4 + 1) Z6)))))) := hw
      refine lv_iload hx hb dX7_names_29 (lv_at hl 4 rfl) ?_
      refine lv_iload_n hx hb dX7_names_31 rfl (lv_at hl 2 rfl) ?_
      refine lv_icmp_ge (tgt := 65) hx hb dX7_names_32 (by decide) (fun c4 => ?_) (fun c4 => ?_)
      · have hw := Eq.mp (if_pos c4) hw
        exact hxt y3 S0q _ _ hP hD hS _ (lv_sub hl [3] rfl) hw
      · have hw := Eq.mp (if_neg c4) hw
        refine lv_iload_n hx hb dX7_names_35 rfl (lv_at hl 3 rfl) ?_
        refine lv_aload_n hx hb dX7_names_36 rfl (lv_at hl 0 rfl) ?_
        refine lv_iload hx hb dX7_names_37 (lv_at hl 4 rfl) ?_
        refine callW (va_runV (As := [.int y4]) (rest := [.int y3]) ⟨hx, hb, hml, hown, hW⟩ (c_X7_isRow l D cI cZ ad  S0q y4 _ hw) (cwV0 hW mV_X7_isRow ml_X7_181 ⟨Nat.le_of_ble_eq_true rfl, Nat.le_of_ble_eq_true rfl⟩) (preV0 0 rfl rfl hK hN hP hD [0] rfl rfl) rfl rfl hl.1 rfl (lv_room (Nat.le_of_ble_eq_true rfl)) dX7_names_39 ⟨Nat.le_refl _, Nat.le_refl _⟩) hP hD hS [0] rfl rfl (fun _ => rfl) (fun v9 u9 H locs hq hP hD hS => ?_)
        obtain ⟨v5, rfl, hw⟩ := hq
        obtain ⟨Z6, rfl⟩ : ∃ z, z = u9 := ⟨_, rfl⟩
        have hP : va_P D classes (jn [mcells cI cZ ad 0 Z6]) H := hP
        have hD : va_D (cOf (jn [mcells cI cZ ad 0 S0])) (jn [mcells cI cZ ad 0 Z6]) := hD
        refine W.eq (g2 := F0 m 42 ls [.int v5, .int y3]) rfl ?_
        refine lv_if_eq (tgt := 56) hx hb dX7_names_42 (by decide) (fun c7 => ?_) (fun c7 => ?_)
        · have hw := Eq.mp (if_pos c7) hw
          refine lv_iconst (v := 0) hx hb dX7_names_56 (by decide) ?_
          refine lv_ior hx hb dX7_names_57 ?_
          refine lv_istore_n (lv' := [(3, .int (y3 ||| 0)), (0, .ref (ad 0)), (1, .int x1), (2, .int y2), (4, .int y4)]) hx hb dX7_names_58 rfl hl (by decide) rfl (fun ls hl => ?_)
          refine lv_iinc (v := (y4 + 1)) (lv' := [(4, .int (y4 + 1)), (3, .int (y3 ||| 0)), (0, .ref (ad 0)), (1, .int x1), (2, .int y2)]) hx hb dX7_names_59 hl (k := 4) rfl rfl (by decide) rfl (fun ls hl => ?_)
          refine lv_goto (tgt := 29) hx hb dX7_names_62 (by decide) ?_
          exact ih (y3 ||| 0) (y4 + 1) Z6 _ _ hP hD hS _ (lv_sub hl [2, 3, 4, 1, 0] rfl) hw
        · have hw := Eq.mp (if_neg c7) hw
          refine lv_iconst (v := 1) hx hb dX7_names_45 (by decide) ?_
          refine lv_aload_n hx hb dX7_names_46 rfl (lv_at hl 0 rfl) ?_
          refine va_get (D := D) (ci := 7) (v := .ref (ad (0 + 12))) (C := RX7) (T := TX7) (N := 27) hx hb hW inW_X7 hown hK hP 0 rfl rfl 23 (by decide) (hW _ fl_X7_50) (fun _ h9 => h9) rfl dX7_names_47 ?_
          refine lv_iload_n hx hb dX7_names_50 rfl (lv_at hl 1 rfl) ?_
          refine va_iald (f := (Z6.2 23)) hx hb hK hP 12 0 rfl rfl hw.1 dX7_names_51 ?_
          have hw := hw.2
          refine lv_ishl hx hb dX7_names_52 ?_
          refine lv_goto (tgt := 57) hx hb dX7_names_53 (by decide) ?_
          refine lv_ior hx hb dX7_names_57 ?_
          refine lv_istore_n (lv' := [(3, .int (y3 ||| ((1 : Int32) <<< (((Z6.2 23) (x1 : Int32).toNatClampNeg) &&& 31)))), (0, .ref (ad 0)), (1, .int x1), (2, .int y2), (4, .int y4)]) hx hb dX7_names_58 rfl hl (by decide) rfl (fun ls hl => ?_)
          refine lv_iinc (v := (y4 + 1)) (lv' := [(4, .int (y4 + 1)), (3, .int (y3 ||| ((1 : Int32) <<< (((Z6.2 23) (x1 : Int32).toNatClampNeg) &&& 31)))), (0, .ref (ad 0)), (1, .int x1), (2, .int y2)]) hx hb dX7_names_59 hl (k := 4) rfl rfl (by decide) rfl (fun ls hl => ?_)
          refine lv_goto (tgt := 29) hx hb dX7_names_62 (by decide) ?_
          exact ih (y3 ||| ((1 : Int32) <<< (((Z6.2 23) (x1 : Int32).toNatClampNeg) &&& 31))) (y4 + 1) Z6 _ _ hP hD hS _ (lv_sub hl [2, 3, 4, 1, 0] rfl) hw
  have hw : (if (F_X7_isOne S0 x1) = 0 then (k (-1) S0) else (vp_in x1 6 ∧ (if 0 ≤ ((S0.2 5) (x1 : Int32).toNatClampNeg) then (wp_X7_codes S0 (fun (v3 : Int32) => (∃ M10, wl_X7_names_29 x1 v3 (fun (v8 : Int32) (Z9 : St) => (k v8 Z9)) M10 0 0 S0))) else (k (-1) S0)))) := hw
  refine lv_aload_n hx hb dX7_names_0 rfl (lv_at hl 0 rfl) ?_
  refine lv_iload_n hx hb dX7_names_1 rfl (lv_at hl 1 rfl) ?_
  refine callF (va_runV (As := [.int x1]) (rest := []) ⟨hx, hb, hml, hown, hW⟩ (c_X7_isOne l D cI cZ ad  S0 x1 _ rfl) (cwV0 hW mV_X7_isOne ml_X7_82 ⟨Nat.le_of_ble_eq_true rfl, Nat.le_of_ble_eq_true rfl⟩) (preV0 0 rfl rfl hK hN hP hD [0] rfl rfl) rfl rfl hl.1 rfl (lv_room (Nat.le_of_ble_eq_true rfl)) dX7_names_2 ⟨Nat.le_refl _, Nat.le_refl _⟩) ?_
  refine W.eq (g2 := F0 m 5 ls [.int (F_X7_isOne S0 x1)]) rfl ?_
  refine lv_if_eq (tgt := 17) hx hb dX7_names_5 (by decide) (fun c1 => ?_) (fun c1 => ?_)
  · have hw := Eq.mp (if_pos c1) hw
    refine lv_iconst (v := (-1)) hx hb dX7_names_17 (by decide) ?_
    exact W.iret (v := (-1)) hx hb hr (fun t ht _ => ⟨⟨_, (S0), rfl, ⟨_, rfl, hw⟩, by rw [ht]; exact hP⟩, hS.F ht⟩) hS.2.2 dX7_names_18
  · have hw := Eq.mp (if_neg c1) hw
    refine lv_aload_n hx hb dX7_names_8 rfl (lv_at hl 0 rfl) ?_
    refine va_get (D := D) (ci := 7) (v := .ref (ad (0 + 1))) (C := RX7) (T := TX7) (N := 27) hx hb hW inW_X7 hown hK hP 0 rfl rfl 5 (by decide) (hW _ fl_X7_16) (fun _ h9 => h9) rfl dX7_names_9 ?_
    refine lv_iload_n hx hb dX7_names_12 rfl (lv_at hl 1 rfl) ?_
    refine va_iald (f := (S0.2 5)) hx hb hK hP 1 0 rfl rfl hw.1 dX7_names_13 ?_
    have hw := hw.2
    refine lv_if_ge (tgt := 19) hx hb dX7_names_14 (by decide) (fun c2 => ?_) (fun c2 => ?_)
    · have hw := Eq.mp (if_pos c2) hw
      refine lv_aload_n hx hb dX7_names_19 rfl (lv_at hl 0 rfl) ?_
      refine callR (va_runV (As := []) (rest := []) ⟨hx, hb, hml, hown, hW⟩ (c_X7_codes l D cI cZ ad  S0 _ hw) (cwV0 hW mV_X7_codes ml_X7_178 ⟨Nat.le_of_ble_eq_true rfl, Nat.le_of_ble_eq_true rfl⟩) (preV0 0 rfl rfl hK hN hP hD [0] rfl rfl) rfl rfl hl.1 rfl (lv_room (Nat.le_of_ble_eq_true rfl)) dX7_names_20 ⟨Nat.le_refl _, Nat.le_refl _⟩) (fun v9 hq => ?_)
      obtain ⟨v3, rfl, hw⟩ := hq
      refine W.eq (g2 := F0 m 23 ls [.int v3]) rfl ?_
      refine lv_istore_n (lv' := [(2, .int v3), (0, .ref (ad 0)), (1, .int x1)]) hx hb dX7_names_23 rfl hl (by decide) rfl (fun ls hl => ?_)
      refine lv_iconst (v := 0) hx hb dX7_names_24 (by decide) ?_
      refine lv_istore_n (lv' := [(3, .int 0), (2, .int v3), (0, .ref (ad 0)), (1, .int x1)]) hx hb dX7_names_25 rfl hl (by decide) rfl (fun ls hl => ?_)
      refine lv_iconst (v := 0) hx hb dX7_names_26 (by decide) ?_
      refine lv_istore (lv' := [(4, .int 0), (3, .int 0), (2, .int v3), (0, .ref (ad 0)), (1, .int x1)]) hx hb dX7_names_27 hl (by decide) rfl (fun ls hl => ?_)
      obtain ⟨N11, hw⟩ := hw
      refine L29 v3 _ (fun v8 Z9 H locs hP hD hS ls hl hw => ?_) N11 0 0 S0 _ _ hP hD hS _ (lv_sub hl [3, 4, 2, 1, 0] rfl) hw
      refine lv_iload_n hx hb dX7_names_65 rfl (lv_at hl 0 rfl) ?_
      exact W.iret (v := v8) hx hb hr (fun t ht _ => ⟨⟨_, (Z9), rfl, ⟨_, rfl, hw⟩, by rw [ht]; exact hP⟩, hS.F ht⟩) hS.2.2 dX7_names_66
    · have hw := Eq.mp (if_neg c2) hw
      refine lv_iconst (v := (-1)) hx hb dX7_names_17 (by decide) ?_
      exact W.iret (v := (-1)) hx hb hr (fun t ht _ => ⟨⟨_, (S0), rfl, ⟨_, rfl, hw⟩, by rw [ht]; exact hP⟩, hS.F ht⟩) hS.2.2 dX7_names_18
set_option maxHeartbeats 4000000 in
set_option maxRecDepth 100000 in
theorem c_X7_hear (l : Launch) (D : va_G) (cI cZ : ClassId) (ad : Nat → Nat) (S0 : St) (x1 : Int32) (k : Int32 → St → Prop) (hw : wp_X7_hear S0 x1 k) : KW l yX7_hear cX7_hear 9 (some .int) 3 70 D cI cZ [.ref (ad 0), .int x1] [mcells cI cZ ad 0 S0] (fun v (u : St) => ∃ r, v = some (.int r) ∧ k r u) (fun u : St => [mcells cI cZ ad 0 u]) := by
  refine Met.ofE (by decide +kernel) (Nat.le_of_ble_eq_true rfl) ?_
  intro p e s m below meth c E ls hl
  obtain ⟨hx, hb, hr, hml, hW, hown, hlocks, hP, hK, hD, hN⟩ := E
  have hl : lv_has ls 9 [(0, .ref (ad 0)), (1, .int x1)] := hl
  have hS : va_S (cOf (jn [mcells cI cZ ad 0 S0])) s.heap s.heap [] := va_S.rf
  have L22 : ∀ (y2 : Int32) (y3 : Int32) (kx : St → Prop), (∀ (S0q : St) (H : Heap) (locs : List Loc), va_P D classes (jn [mcells cI cZ ad 0 S0q]) H → va_D (cOf (jn [mcells cI cZ ad 0 S0])) (jn [mcells cI cZ ad 0 S0q]) → va_S (cOf (jn [mcells cI cZ ad 0 S0])) s.heap H locs → ∀ ls : Array Slot, lv_has ls 9 [(0, .ref (ad 0)), (1, .int x1), (2, .int y2), (3, .int y3)] → kx S0q → W p l e { frames := 3, cells := 0, slots := 0, locals := 70 } s m ([.ref (ad 0), .int x1] : List Value).toArray below meth c H locs 0 0 (MQ below (QW (fun v (u : St) => ∃ r, v = some (.int r) ∧ k r u) D (fun u : St => [mcells cI cZ ad 0 u]) [mcells cI cZ ad 0 S0]) ([.ref (ad 0), .int x1] : List Value).toArray s 0 0 (cOf (jn [mcells cI cZ ad 0 S0]))) (F0 m 43 ls [])) → ∀ (N22 : Nat) (y4 : Int32) (S0q : St) (H : Heap) (locs : List Loc), va_P D classes (jn [mcells cI cZ ad 0 S0q]) H → va_D (cOf (jn [mcells cI cZ ad 0 S0])) (jn [mcells cI cZ ad 0 S0q]) → va_S (cOf (jn [mcells cI cZ ad 0 S0])) s.heap H locs → ∀ ls : Array Slot, lv_has ls 9 [(0, .ref (ad 0)), (1, .int x1), (2, .int y2), (3, .int y3), (4, .int y4)] → wl_X7_hear_22 kx N22 y4 S0q → W p l e { frames := 3, cells := 0, slots := 0, locals := 70 } s m ([.ref (ad 0), .int x1] : List Value).toArray below meth c H locs 0 0 (MQ below (QW (fun v (u : St) => ∃ r, v = some (.int r) ∧ k r u) D (fun u : St => [mcells cI cZ ad 0 u]) [mcells cI cZ ad 0 S0]) ([.ref (ad 0), .int x1] : List Value).toArray s 0 0 (cOf (jn [mcells cI cZ ad 0 S0]))) (F0 m 22 ls []) := by
    intro y2 y3 kx hxt N22
    induction N22 with
    | zero => intro y4 S0q H locs hP hD hS ls hl hw; exact False.elim hw
    | succ N22 ih =>
      intro y4 S0q H locs hP hD hS ls hl hw
      have hw : (if 6 ≤ y4 then (kx S0q) else (vp_in y4 6 ∧ (wl_X7_hear_22 kx N22 (y4 + 1) (sA S0q 24 (upd (S0q.2 24) (y4 : Int32).toNatClampNeg 0))))) := hw
      refine lv_iload hx hb dX7_hear_22 (lv_at hl 4 rfl) ?_
      refine lv_bipush (v := 6) hx hb dX7_hear_24 (by decide) ?_
      refine lv_icmp_ge (tgt := 43) hx hb dX7_hear_26 (by decide) (fun c3 => ?_) (fun c3 => ?_)
      · have hw := Eq.mp (if_pos c3) hw
        exact hxt S0q _ _ hP hD hS _ (lv_sub hl [0, 1, 2, 3] rfl) hw
      · have hw := Eq.mp (if_neg c3) hw
        refine lv_aload_n hx hb dX7_hear_29 rfl (lv_at hl 0 rfl) ?_
        refine va_get (D := D) (ci := 7) (v := .ref (ad (0 + 13))) (C := RX7) (T := TX7) (N := 27) hx hb hW inW_X7 hown hK hP 0 rfl rfl 24 (by decide) (hW _ fl_X7_53) (fun _ h9 => h9) rfl dX7_hear_30 ?_
        refine lv_iload hx hb dX7_hear_33 (lv_at hl 4 rfl) ?_
        refine lv_iconst (v := 0) hx hb dX7_hear_35 (by decide) ?_
        refine va_iast (f := (S0q.2 24)) hx hb hK hP hD hS 13 0 rfl rfl hw.1 dX7_hear_36 (fun H locs hP hD hS => ?_)
        have hw := hw.2
        revert hw; revert hD; revert hP
        generalize (upd (S0q.2 24) (y4 : Int32).toNatClampNeg 0) = Z4
        intro hP hD hw
        have hP : va_P D classes (jn [mcells cI cZ ad 0 (sA S0q 24 Z4)]) H := ms_a24 (Φ := fun w => va_P D classes w H) (S := S0q) (v := Z4) hP
        have hD : va_D (cOf (jn [mcells cI cZ ad 0 S0])) (jn [mcells cI cZ ad 0 (sA S0q 24 Z4)]) := ms_a24 (Φ := fun w => va_D (cOf (jn [mcells cI cZ ad 0 S0])) w) (S := S0q) (v := Z4) hD
        refine lv_iinc (v := (y4 + 1)) (lv' := [(4, .int (y4 + 1)), (0, .ref (ad 0)), (1, .int x1), (2, .int y2), (3, .int y3)]) hx hb dX7_hear_37 hl (k := 4) rfl rfl (by decide) rfl (fun ls hl => ?_)
        refine lv_goto (tgt := 22) hx hb dX7_hear_40 (by decide) ?_
        exact ih (y4 + 1) (sA S0q 24 Z4) _ _ hP hD hS _ (lv_sub hl [1, 2, 3, 4, 0] rfl) hw
  have L67 : ∀ (y2 : Int32) (y3 : Int32) (y4 : Int32) (kx : St → Prop), (∀ (S0q : St) (H : Heap) (locs : List Loc), va_P D classes (jn [mcells cI cZ ad 0 S0q]) H → va_D (cOf (jn [mcells cI cZ ad 0 S0])) (jn [mcells cI cZ ad 0 S0q]) → va_S (cOf (jn [mcells cI cZ ad 0 S0])) s.heap H locs → ∀ ls : Array Slot, lv_has ls 9 [(0, .ref (ad 0)), (1, .int x1), (2, .int y2), (3, .int y3), (4, .int y4)] → kx S0q → W p l e { frames := 3, cells := 0, slots := 0, locals := 70 } s m ([.ref (ad 0), .int x1] : List Value).toArray below meth c H locs 0 0 (MQ below (QW (fun v (u : St) => ∃ r, v = some (.int r) ∧ k r u) D (fun u : St => [mcells cI cZ ad 0 u]) [mcells cI cZ ad 0 S0]) ([.ref (ad 0), .int x1] : List Value).toArray s 0 0 (cOf (jn [mcells cI cZ ad 0 S0]))) (F0 m 107 ls [])) → ∀ (N67 : Nat) (y5 : Int32) (S0q : St) (H : Heap) (locs : List Loc), va_P D classes (jn [mcells cI cZ ad 0 S0q]) H → va_D (cOf (jn [mcells cI cZ ad 0 S0])) (jn [mcells cI cZ ad 0 S0q]) → va_S (cOf (jn [mcells cI cZ ad 0 S0])) s.heap H locs → ∀ ls : Array Slot, lv_has ls 9 [(0, .ref (ad 0)), (1, .int x1), (2, .int y2), (3, .int y3), (4, .int y4), (5, .int y5)] → wl_X7_hear_67 kx N67 y5 S0q → W p l e { frames := 3, cells := 0, slots := 0, locals := 70 } s m ([.ref (ad 0), .int x1] : List Value).toArray below meth c H locs 0 0 (MQ below (QW (fun v (u : St) => ∃ r, v = some (.int r) ∧ k r u) D (fun u : St => [mcells cI cZ ad 0 u]) [mcells cI cZ ad 0 S0]) ([.ref (ad 0), .int x1] : List Value).toArray s 0 0 (cOf (jn [mcells cI cZ ad 0 S0]))) (F0 m 67 ls []) := by
    intro y2 y3 y4 kx hxt N67
    induction N67 with
    | zero => intro y5 S0q H locs hP hD hS ls hl hw; exact False.elim hw
    | succ N67 ih =>
      intro y5 S0q H locs hP hD hS ls hl hw
      have hw : (if (S0q.1 0) ≤ y5 then (kx S0q) else (vp_in y5 6 ∧ (wp_X7_coughOf S0q y5 (fun (v11 : Int32) => (if v11 = 1 then (vp_in y5 6 ∧ (wl_X7_hear_67 kx N67 (y5 + 1) (sA S0q 24 (upd (S0q.2 24) (y5 : Int32).toNatClampNeg (((S0q.2 24) (y5 : Int32).toNatClampNeg) + 1))))) else (vp_in y5 6 ∧ (wl_X7_hear_67 kx N67 (y5 + 1) (sA S0q 24 (upd (S0q.2 24) (y5 : Int32).toNatClampNeg (((S0q.2 24) (y5 : Int32).toNatClampNeg) + 0)))))))))) := hw
      refine lv_iload hx hb dX7_hear_67 (lv_at hl 5 rfl) ?_
      refine lv_aload_n hx hb dX7_hear_69 rfl (lv_at hl 0 rfl) ?_
      refine va_get (D := D) (ci := 7) (v := .int (S0q.1 0)) (C := RX7) (T := TX7) (N := 27) hx hb hW inW_X7 hown hK hP 0 rfl rfl 0 (by decide) (hW _ fl_X7_7) (fun _ h9 => h9) rfl dX7_hear_70 ?_
      refine lv_icmp_ge (tgt := 107) hx hb dX7_hear_73 (by decide) (fun c10 => ?_) (fun c10 => ?_)
      · have hw := Eq.mp (if_pos c10) hw
        exact hxt S0q _ _ hP hD hS _ (lv_sub hl [0, 1, 2, 3, 4] rfl) hw
      · have hw := Eq.mp (if_neg c10) hw
        refine lv_aload_n hx hb dX7_hear_76 rfl (lv_at hl 0 rfl) ?_
        refine va_get (D := D) (ci := 7) (v := .ref (ad (0 + 13))) (C := RX7) (T := TX7) (N := 27) hx hb hW inW_X7 hown hK hP 0 rfl rfl 24 (by decide) (hW _ fl_X7_53) (fun _ h9 => h9) rfl dX7_hear_77 ?_
        refine lv_iload hx hb dX7_hear_80 (lv_at hl 5 rfl) ?_
        refine lv_dup2_11 hx hb dX7_hear_82 rfl rfl ?_
        refine va_iald (f := (S0q.2 24)) hx hb hK hP 13 0 rfl rfl hw.1 dX7_hear_83 ?_
        have hw := hw.2
        refine lv_aload_n hx hb dX7_hear_84 rfl (lv_at hl 0 rfl) ?_
        refine lv_iload hx hb dX7_hear_85 (lv_at hl 5 rfl) ?_
        refine callR (va_runV (As := [.int y5]) (rest := [.int ((S0q.2 24) (y5 : Int32).toNatClampNeg), .int y5, .ref (ad (0 + 13))]) ⟨hx, hb, hml, hown, hW⟩ (c_X7_coughOf l D cI cZ ad  S0q y5 _ hw) (cwV0 hW mV_X7_coughOf ml_X7_175 ⟨Nat.le_of_ble_eq_true rfl, Nat.le_of_ble_eq_true rfl⟩) (preV0 0 rfl rfl hK hN hP hD [0] rfl rfl) rfl rfl hl.1 rfl (lv_room (Nat.le_of_ble_eq_true rfl)) dX7_hear_87 ⟨Nat.le_refl _, Nat.le_refl _⟩) (fun v9 hq => ?_)
        obtain ⟨v11, rfl, hw⟩ := hq
        refine W.eq (g2 := F0 m 90 ls [.int v11, .int ((S0q.2 24) (y5 : Int32).toNatClampNeg), .int y5, .ref (ad (0 + 13))]) rfl ?_
        refine lv_iconst (v := 1) hx hb dX7_hear_90 (by decide) ?_
        refine lv_icmp_ne (tgt := 98) hx hb dX7_hear_91 (by decide) (fun c12 => ?_) (fun c12 => ?_)
        · have hw := Eq.mp (if_neg c12) hw
          refine lv_iconst (v := 0) hx hb dX7_hear_98 (by decide) ?_
          refine lv_iadd hx hb dX7_hear_99 ?_
          refine va_iast (f := (S0q.2 24)) hx hb hK hP hD hS 13 0 rfl rfl hw.1 dX7_hear_100 (fun H locs hP hD hS => ?_)
          have hw := hw.2
          revert hw; revert hD; revert hP
          generalize (upd (S0q.2 24) (y5 : Int32).toNatClampNeg (((S0q.2 24) (y5 : Int32).toNatClampNeg) + 0)) = Z14
          intro hP hD hw
          have hP : va_P D classes (jn [mcells cI cZ ad 0 (sA S0q 24 Z14)]) H := ms_a24 (Φ := fun w => va_P D classes w H) (S := S0q) (v := Z14) hP
          have hD : va_D (cOf (jn [mcells cI cZ ad 0 S0])) (jn [mcells cI cZ ad 0 (sA S0q 24 Z14)]) := ms_a24 (Φ := fun w => va_D (cOf (jn [mcells cI cZ ad 0 S0])) w) (S := S0q) (v := Z14) hD
          refine lv_iinc (v := (y5 + 1)) (lv' := [(5, .int (y5 + 1)), (0, .ref (ad 0)), (1, .int x1), (2, .int y2), (3, .int y3), (4, .int y4)]) hx hb dX7_hear_101 hl (k := 5) rfl rfl (by decide) rfl (fun ls hl => ?_)
          refine lv_goto (tgt := 67) hx hb dX7_hear_104 (by decide) ?_
          exact ih (y5 + 1) (sA S0q 24 Z14) _ _ hP hD hS _ (lv_sub hl [1, 2, 3, 4, 5, 0] rfl) hw
        · have hw := Eq.mp (if_pos c12) hw
          refine lv_iconst (v := 1) hx hb dX7_hear_94 (by decide) ?_
          refine lv_goto (tgt := 99) hx hb dX7_hear_95 (by decide) ?_
          refine lv_iadd hx hb dX7_hear_99 ?_
          refine va_iast (f := (S0q.2 24)) hx hb hK hP hD hS 13 0 rfl rfl hw.1 dX7_hear_100 (fun H locs hP hD hS => ?_)
          have hw := hw.2
          revert hw; revert hD; revert hP
          generalize (upd (S0q.2 24) (y5 : Int32).toNatClampNeg (((S0q.2 24) (y5 : Int32).toNatClampNeg) + 1)) = Z13
          intro hP hD hw
          have hP : va_P D classes (jn [mcells cI cZ ad 0 (sA S0q 24 Z13)]) H := ms_a24 (Φ := fun w => va_P D classes w H) (S := S0q) (v := Z13) hP
          have hD : va_D (cOf (jn [mcells cI cZ ad 0 S0])) (jn [mcells cI cZ ad 0 (sA S0q 24 Z13)]) := ms_a24 (Φ := fun w => va_D (cOf (jn [mcells cI cZ ad 0 S0])) w) (S := S0q) (v := Z13) hD
          refine lv_iinc (v := (y5 + 1)) (lv' := [(5, .int (y5 + 1)), (0, .ref (ad 0)), (1, .int x1), (2, .int y2), (3, .int y3), (4, .int y4)]) hx hb dX7_hear_101 hl (k := 5) rfl rfl (by decide) rfl (fun ls hl => ?_)
          refine lv_goto (tgt := 67) hx hb dX7_hear_104 (by decide) ?_
          exact ih (y5 + 1) (sA S0q 24 Z13) _ _ hP hD hS _ (lv_sub hl [1, 2, 3, 4, 5, 0] rfl) hw
  have L46 : ∀ (y2 : Int32) (kx : Int32 → St → Prop), (∀ (y3 : Int32) (S0q : St) (H : Heap) (locs : List Loc), va_P D classes (jn [mcells cI cZ ad 0 S0q]) H → va_D (cOf (jn [mcells cI cZ ad 0 S0])) (jn [mcells cI cZ ad 0 S0q]) → va_S (cOf (jn [mcells cI cZ ad 0 S0])) s.heap H locs → ∀ ls : Array Slot, lv_has ls 9 [(0, .ref (ad 0)), (1, .int x1), (3, .int y3)] → kx y3 S0q → W p l e { frames := 3, cells := 0, slots := 0, locals := 70 } s m ([.ref (ad 0), .int x1] : List Value).toArray below meth c H locs 0 0 (MQ below (QW (fun v (u : St) => ∃ r, v = some (.int r) ∧ k r u) D (fun u : St => [mcells cI cZ ad 0 u]) [mcells cI cZ ad 0 S0]) ([.ref (ad 0), .int x1] : List Value).toArray s 0 0 (cOf (jn [mcells cI cZ ad 0 S0]))) (F0 m 113 ls [])) → ∀ (N46 : Nat) (y3 : Int32) (y4 : Int32) (S0q : St) (H : Heap) (locs : List Loc), va_P D classes (jn [mcells cI cZ ad 0 S0q]) H → va_D (cOf (jn [mcells cI cZ ad 0 S0])) (jn [mcells cI cZ ad 0 S0q]) → va_S (cOf (jn [mcells cI cZ ad 0 S0])) s.heap H locs → ∀ ls : Array Slot, lv_has ls 9 [(0, .ref (ad 0)), (1, .int x1), (2, .int y2), (3, .int y3), (4, .int y4)] → wl_X7_hear_46 y2 kx N46 y3 y4 S0q → W p l e { frames := 3, cells := 0, slots := 0, locals := 70 } s m ([.ref (ad 0), .int x1] : List Value).toArray below meth c H locs 0 0 (MQ below (QW (fun v (u : St) => ∃ r, v = some (.int r) ∧ k r u) D (fun u : St => [mcells cI cZ ad 0 u]) [mcells cI cZ ad 0 S0]) ([.ref (ad 0), .int x1] : List Value).toArray s 0 0 (cOf (jn [mcells cI cZ ad 0 S0]))) (F0 m 46 ls []) := by
    intro y2 kx hxt N46
    induction N46 with
    | zero => intro y3 y4 S0q H locs hP hD hS ls hl hw; exact False.elim hw
    | succ N46 ih =>
      intro y3 y4 S0q H locs hP hD hS ls hl hw
      have hw : (if y2 ≤ y4 then (kx y3 S0q) else (wp_X7_isRow S0q y4 (fun (v7 : Int32) (Z8 : St) => (if v7 = 0 then (wl_X7_hear_46 y2 kx N46 y3 (y4 + 1) Z8) else (∃ M16, wl_X7_hear_67 (fun (Z15 : St) => (wl_X7_hear_46 y2 kx N46 (y3 + 1) (y4 + 1) Z15)) M16 0 Z8))))) := hw
      refine lv_iload hx hb dX7_hear_46 (lv_at hl 4 rfl) ?_
      refine lv_iload_n hx hb dX7_hear_48 rfl (lv_at hl 2 rfl) ?_
      refine lv_icmp_ge (tgt := 113) hx hb dX7_hear_49 (by decide) (fun c6 => ?_) (fun c6 => ?_)
      · have hw := Eq.mp (if_pos c6) hw
        exact hxt y3 S0q _ _ hP hD hS _ (lv_sub hl [0, 1, 3] rfl) hw
      · have hw := Eq.mp (if_neg c6) hw
        refine lv_aload_n hx hb dX7_hear_52 rfl (lv_at hl 0 rfl) ?_
        refine lv_iload hx hb dX7_hear_53 (lv_at hl 4 rfl) ?_
        refine callW (va_runV (As := [.int y4]) (rest := []) ⟨hx, hb, hml, hown, hW⟩ (c_X7_isRow l D cI cZ ad  S0q y4 _ hw) (cwV0 hW mV_X7_isRow ml_X7_181 ⟨Nat.le_of_ble_eq_true rfl, Nat.le_of_ble_eq_true rfl⟩) (preV0 0 rfl rfl hK hN hP hD [0] rfl rfl) rfl rfl hl.1 rfl (lv_room (Nat.le_of_ble_eq_true rfl)) dX7_hear_55 ⟨Nat.le_refl _, Nat.le_refl _⟩) hP hD hS [0] rfl rfl (fun _ => rfl) (fun v9 u9 H locs hq hP hD hS => ?_)
        obtain ⟨v7, rfl, hw⟩ := hq
        obtain ⟨Z8, rfl⟩ : ∃ z, z = u9 := ⟨_, rfl⟩
        have hP : va_P D classes (jn [mcells cI cZ ad 0 Z8]) H := hP
        have hD : va_D (cOf (jn [mcells cI cZ ad 0 S0])) (jn [mcells cI cZ ad 0 Z8]) := hD
        refine W.eq (g2 := F0 m 58 ls [.int v7]) rfl ?_
        refine lv_if_eq (tgt := 107) hx hb dX7_hear_58 (by decide) (fun c9 => ?_) (fun c9 => ?_)
        · have hw := Eq.mp (if_pos c9) hw
          refine lv_iinc (v := (y4 + 1)) (lv' := [(4, .int (y4 + 1)), (0, .ref (ad 0)), (1, .int x1), (2, .int y2), (3, .int y3)]) hx hb dX7_hear_107 hl (k := 4) rfl rfl (by decide) rfl (fun ls hl => ?_)
          refine lv_goto (tgt := 46) hx hb dX7_hear_110 (by decide) ?_
          exact ih y3 (y4 + 1) Z8 _ _ hP hD hS _ (lv_sub hl [1, 2, 3, 4, 0] rfl) hw
        · have hw := Eq.mp (if_neg c9) hw
          refine lv_iinc (v := (y3 + 1)) (lv' := [(3, .int (y3 + 1)), (0, .ref (ad 0)), (1, .int x1), (2, .int y2), (4, .int y4)]) hx hb dX7_hear_61 hl (k := 3) rfl rfl (by decide) rfl (fun ls hl => ?_)
          refine lv_iconst (v := 0) hx hb dX7_hear_64 (by decide) ?_
          refine lv_istore (lv' := [(5, .int 0), (3, .int (y3 + 1)), (0, .ref (ad 0)), (1, .int x1), (2, .int y2), (4, .int y4)]) hx hb dX7_hear_65 hl (by decide) rfl (fun ls hl => ?_)
          obtain ⟨N17, hw⟩ := hw
          refine L67 y2 (y3 + 1) y4 _ (fun Z15 H locs hP hD hS ls hl hw => ?_) N17 0 Z8 _ _ hP hD hS _ (lv_sub hl [2, 3, 4, 1, 5, 0] rfl) hw
          refine lv_iinc (v := (y4 + 1)) (lv' := [(4, .int (y4 + 1)), (0, .ref (ad 0)), (1, .int x1), (2, .int y2), (3, .int (y3 + 1))]) hx hb dX7_hear_107 hl (k := 4) rfl rfl (by decide) rfl (fun ls hl => ?_)
          refine lv_goto (tgt := 46) hx hb dX7_hear_110 (by decide) ?_
          exact ih (y3 + 1) (y4 + 1) Z15 _ _ hP hD hS _ (lv_sub hl [1, 2, 3, 4, 0] rfl) hw
  have L124 : ∀ (y3 : Int32) (S0q : St) (kx : Int32 → Int32 → Prop), (∀ (y4 : Int32) (y5 : Int32) (H : Heap) (locs : List Loc), va_P D classes (jn [mcells cI cZ ad 0 S0q]) H → va_D (cOf (jn [mcells cI cZ ad 0 S0])) (jn [mcells cI cZ ad 0 S0q]) → va_S (cOf (jn [mcells cI cZ ad 0 S0])) s.heap H locs → ∀ ls : Array Slot, lv_has ls 9 [(1, .int x1), (4, .int y4), (5, .int y5)] → kx y4 y5 → W p l e { frames := 3, cells := 0, slots := 0, locals := 70 } s m ([.ref (ad 0), .int x1] : List Value).toArray below meth c H locs 0 0 (MQ below (QW (fun v (u : St) => ∃ r, v = some (.int r) ∧ k r u) D (fun u : St => [mcells cI cZ ad 0 u]) [mcells cI cZ ad 0 S0]) ([.ref (ad 0), .int x1] : List Value).toArray s 0 0 (cOf (jn [mcells cI cZ ad 0 S0]))) (F0 m 237 ls [])) → ∀ (N124 : Nat) (y4 : Int32) (y5 : Int32) (y6 : Int32) (H : Heap) (locs : List Loc), va_P D classes (jn [mcells cI cZ ad 0 S0q]) H → va_D (cOf (jn [mcells cI cZ ad 0 S0])) (jn [mcells cI cZ ad 0 S0q]) → va_S (cOf (jn [mcells cI cZ ad 0 S0])) s.heap H locs → ∀ ls : Array Slot, lv_has ls 9 [(0, .ref (ad 0)), (1, .int x1), (3, .int y3), (4, .int y4), (5, .int y5), (6, .int y6)] → wl_X7_hear_124 y3 S0q kx N124 y4 y5 y6 → W p l e { frames := 3, cells := 0, slots := 0, locals := 70 } s m ([.ref (ad 0), .int x1] : List Value).toArray below meth c H locs 0 0 (MQ below (QW (fun v (u : St) => ∃ r, v = some (.int r) ∧ k r u) D (fun u : St => [mcells cI cZ ad 0 u]) [mcells cI cZ ad 0 S0]) ([.ref (ad 0), .int x1] : List Value).toArray s 0 0 (cOf (jn [mcells cI cZ ad 0 S0]))) (F0 m 124 ls []) := by
    intro y3 S0q kx hxt N124
    induction N124 with
    | zero => intro y4 y5 y6 H locs hP hD hS ls hl hw; exact False.elim hw
    | succ N124 ih =>
      intro y4 y5 y6 H locs hP hD hS ls hl hw
      have hw : (if (S0q.1 0) ≤ y6 then (kx y4 y5) else (if y3 ≤ 0 then (kx y4 y5) else (vp_in y6 6 ∧ (vp_in y6 6 ∧ (if ((S0q.2 24) (y6 : Int32).toNatClampNeg) ≤ (y3 - ((S0q.2 24) (y6 : Int32).toNatClampNeg)) then (vp_in y6 6 ∧ (wp_X7_living S0q (fun (v23 : Int32) => (if (F_X7_has v23 y6) = 0 then (wl_X7_hear_124 y3 S0q kx N124 y4 y5 (y6 + 1)) else (if y5 ≤ (y3 - ((S0q.2 24) (y6 : Int32).toNatClampNeg)) then (wl_X7_hear_124 y3 S0q kx N124 y4 y5 (y6 + 1)) else (wl_X7_hear_124 y3 S0q kx N124 y6 (y3 - ((S0q.2 24) (y6 : Int32).toNatClampNeg)) (y6 + 1))))))) else (vp_in y6 6 ∧ (wp_X7_living S0q (fun (v26 : Int32) => (if (F_X7_has v26 y6) = 0 then (wl_X7_hear_124 y3 S0q kx N124 y4 y5 (y6 + 1)) else (if y5 ≤ ((S0q.2 24) (y6 : Int32).toNatClampNeg) then (wl_X7_hear_124 y3 S0q kx N124 y4 y5 (y6 + 1)) else (wl_X7_hear_124 y3 S0q kx N124 y6 ((S0q.2 24) (y6 : Int32).toNatClampNeg) (y6 + 1)))))))))))) := hw
      refine lv_iload hx hb dX7_hear_124 (lv_at hl 5 rfl) ?_
      refine lv_aload_n hx hb dX7_hear_126 rfl (lv_at hl 0 rfl) ?_
      refine va_get (D := D) (ci := 7) (v := .int (S0q.1 0)) (C := RX7) (T := TX7) (N := 27) hx hb hW inW_X7 hown hK hP 0 rfl rfl 0 (by decide) (hW _ fl_X7_7) (fun _ h9 => h9) rfl dX7_hear_127 ?_
      refine lv_icmp_ge (tgt := 237) hx hb dX7_hear_130 (by decide) (fun c20 => ?_) (fun c20 => ?_)
      · have hw := Eq.mp (if_pos c20) hw
        exact hxt y4 y5 _ _ hP hD hS _ (lv_sub hl [1, 3, 4] rfl) hw
      · have hw := Eq.mp (if_neg c20) hw
        refine lv_iload_n hx hb dX7_hear_133 rfl (lv_at hl 2 rfl) ?_
        refine lv_if_le (tgt := 237) hx hb dX7_hear_134 (by decide) (fun c21 => ?_) (fun c21 => ?_)
        · have hw := Eq.mp (if_pos c21) hw
          exact hxt y4 y5 _ _ hP hD hS _ (lv_sub hl [1, 3, 4] rfl) hw
        · have hw := Eq.mp (if_neg c21) hw
          refine lv_aload_n hx hb dX7_hear_137 rfl (lv_at hl 0 rfl) ?_
          refine va_get (D := D) (ci := 7) (v := .ref (ad (0 + 13))) (C := RX7) (T := TX7) (N := 27) hx hb hW inW_X7 hown hK hP 0 rfl rfl 24 (by decide) (hW _ fl_X7_53) (fun _ h9 => h9) rfl dX7_hear_138 ?_
          refine lv_iload hx hb dX7_hear_141 (lv_at hl 5 rfl) ?_
          refine va_iald (f := (S0q.2 24)) hx hb hK hP 13 0 rfl rfl hw.1 dX7_hear_143 ?_
          have hw := hw.2
          refine lv_iload_n hx hb dX7_hear_144 rfl (lv_at hl 2 rfl) ?_
          refine lv_aload_n hx hb dX7_hear_145 rfl (lv_at hl 0 rfl) ?_
          refine va_get (D := D) (ci := 7) (v := .ref (ad (0 + 13))) (C := RX7) (T := TX7) (N := 27) hx hb hW inW_X7 hown hK hP 0 rfl rfl 24 (by decide) (hW _ fl_X7_53) (fun _ h9 => h9) rfl dX7_hear_146 ?_
          refine lv_iload hx hb dX7_hear_149 (lv_at hl 5 rfl) ?_
          refine va_iald (f := (S0q.2 24)) hx hb hK hP 13 0 rfl rfl hw.1 dX7_hear_151 ?_
          have hw := hw.2
          refine lv_isub hx hb dX7_hear_152 ?_
          refine lv_icmp_le (tgt := 166) hx hb dX7_hear_153 (by decide) (fun c22 => ?_) (fun c22 => ?_)
          · have hw := Eq.mp (if_pos c22) hw
            refine lv_iload_n hx hb dX7_hear_166 rfl (lv_at hl 2 rfl) ?_
            refine lv_aload_n hx hb dX7_hear_167 rfl (lv_at hl 0 rfl) ?_
            refine va_get (D := D) (ci := 7) (v := .ref (ad (0 + 13))) (C := RX7) (T := TX7) (N := 27) hx hb hW inW_X7 hown hK hP 0 rfl rfl 24 (by decide) (hW _ fl_X7_53) (fun _ h9 => h9) rfl dX7_hear_168 ?_
            refine lv_iload hx hb dX7_hear_171 (lv_at hl 5 rfl) ?_
            refine va_iald (f := (S0q.2 24)) hx hb hK hP 13 0 rfl rfl hw.1 dX7_hear_173 ?_
            have hw := hw.2
            refine lv_isub hx hb dX7_hear_174 ?_
            refine lv_istore (lv' := [(7, .int (y3 - ((S0q.2 24) (y6 : Int32).toNatClampNeg))), (0, .ref (ad 0)), (1, .int x1), (3, .int y3), (4, .int y4), (5, .int y5), (6, .int y6)]) hx hb dX7_hear_175 hl (by decide) rfl (fun ls hl => ?_)
            refine lv_aload_n hx hb dX7_hear_177 rfl (lv_at hl 1 rfl) ?_
            refine callR (va_runV (As := []) (rest := []) ⟨hx, hb, hml, hown, hW⟩ (c_X7_living l D cI cZ ad  S0q _ hw) (cwV0 hW mV_X7_living ml_X7_166 ⟨Nat.le_of_ble_eq_true rfl, Nat.le_of_ble_eq_true rfl⟩) (preV0 0 rfl rfl hK hN hP hD [0] rfl rfl) rfl rfl hl.1 rfl (lv_room (Nat.le_of_ble_eq_true rfl)) dX7_hear_178 ⟨Nat.le_refl _, Nat.le_refl _⟩) (fun v9 hq => ?_)
            obtain ⟨v23, rfl, hw⟩ := hq
            refine W.eq (g2 := F0 m 181 ls [.int v23]) rfl ?_
            refine lv_iload hx hb dX7_hear_181 (lv_at hl 6 rfl) ?_
            refine callF (va_runS (As := [.int v23, .int y6]) (rest := []) ⟨hx, hb, hml, hown, hW⟩ (c_X7_has l D cI cZ v23 y6 _ rfl) (cwS0 hW mS_X7_has ml_X7_169 ⟨Nat.le_of_ble_eq_true rfl, Nat.le_of_ble_eq_true rfl⟩) (preS0 hK hN hP hD [] rfl rfl) rfl rfl hl.1 rfl (lv_room (Nat.le_of_ble_eq_true rfl)) dX7_hear_183 ⟨Nat.le_refl _, Nat.le_refl _⟩) ?_
            refine W.eq (g2 := F0 m 186 ls [.int (F_X7_has v23 y6)]) rfl ?_
            refine lv_if_eq (tgt := 200) hx hb dX7_hear_186 (by decide) (fun c24 => ?_) (fun c24 => ?_)
            · have hw := Eq.mp (if_pos c24) hw
              refine lv_iconst (v := 0) hx hb dX7_hear_200 (by decide) ?_
              refine lv_istore (lv' := [(8, .int 0), (7, .int (y3 - ((S0q.2 24) (y6 : Int32).toNatClampNeg))), (0, .ref (ad 0)), (1, .int x1), (3, .int y3), (4, .int y4), (5, .int y5), (6, .int y6)]) hx hb dX7_hear_201 hl (by decide) rfl (fun ls hl => ?_)
              refine lv_iload hx hb dX7_hear_203 (lv_at hl 0 rfl) ?_
              refine lv_if_eq (tgt := 213) hx hb dX7_hear_205 (by decide) (fun _ => ?_) (fun c9 => absurd (by decide) c9)
              refine lv_iload hx hb dX7_hear_213 (lv_at hl 5 rfl) ?_
              refine lv_istore (lv' := [(4, .int y4), (8, .int 0), (7, .int (y3 - ((S0q.2 24) (y6 : Int32).toNatClampNeg))), (0, .ref (ad 0)), (1, .int x1), (3, .int y3), (5, .int y5), (6, .int y6)]) hx hb dX7_hear_215 hl (by decide) rfl (fun ls hl => ?_)
              refine lv_iload hx hb dX7_hear_217 (lv_at hl 1 rfl) ?_
              refine lv_if_eq (tgt := 227) hx hb dX7_hear_219 (by decide) (fun _ => ?_) (fun c9 => absurd (by decide) c9)
              refine lv_iload hx hb dX7_hear_227 (lv_at hl 6 rfl) ?_
              refine lv_istore (lv' := [(5, .int y5), (4, .int y4), (8, .int 0), (7, .int (y3 - ((S0q.2 24) (y6 : Int32).toNatClampNeg))), (0, .ref (ad 0)), (1, .int x1), (3, .int y3), (6, .int y6)]) hx hb dX7_hear_229 hl (by decide) rfl (fun ls hl => ?_)
              refine lv_iinc (v := (y6 + 1)) (lv' := [(6, .int (y6 + 1)), (5, .int y5), (4, .int y4), (8, .int 0), (7, .int (y3 - ((S0q.2 24) (y6 : Int32).toNatClampNeg))), (0, .ref (ad 0)), (1, .int x1), (3, .int y3)]) hx hb dX7_hear_231 hl (k := 7) rfl rfl (by decide) rfl (fun ls hl => ?_)
              refine lv_goto (tgt := 124) hx hb dX7_hear_234 (by decide) ?_
              exact ih y4 y5 (y6 + 1) _ _ hP hD hS _ (lv_sub hl [5, 6, 7, 2, 1, 0] rfl) hw
            · have hw := Eq.mp (if_neg c24) hw
              refine lv_iload hx hb dX7_hear_189 (lv_at hl 0 rfl) ?_
              refine lv_iload hx hb dX7_hear_191 (lv_at hl 5 rfl) ?_
              refine lv_icmp_ge (tgt := 200) hx hb dX7_hear_193 (by decide) (fun c25 => ?_) (fun c25 => ?_)
              · have hw := Eq.mp (if_pos c25) hw
                refine lv_iconst (v := 0) hx hb dX7_hear_200 (by decide) ?_
                refine lv_istore (lv' := [(8, .int 0), (7, .int (y3 - ((S0q.2 24) (y6 : Int32).toNatClampNeg))), (0, .ref (ad 0)), (1, .int x1), (3, .int y3), (4, .int y4), (5, .int y5), (6, .int y6)]) hx hb dX7_hear_201 hl (by decide) rfl (fun ls hl => ?_)
                refine lv_iload hx hb dX7_hear_203 (lv_at hl 0 rfl) ?_
                refine lv_if_eq (tgt := 213) hx hb dX7_hear_205 (by decide) (fun _ => ?_) (fun c9 => absurd (by decide) c9)
                refine lv_iload hx hb dX7_hear_213 (lv_at hl 5 rfl) ?_
                refine lv_istore (lv' := [(4, .int y4), (8, .int 0), (7, .int (y3 - ((S0q.2 24) (y6 : Int32).toNatClampNeg))), (0, .ref (ad 0)), (1, .int x1), (3, .int y3), (5, .int y5), (6, .int y6)]) hx hb dX7_hear_215 hl (by decide) rfl (fun ls hl => ?_)
                refine lv_iload hx hb dX7_hear_217 (lv_at hl 1 rfl) ?_
                refine lv_if_eq (tgt := 227) hx hb dX7_hear_219 (by decide) (fun _ => ?_) (fun c9 => absurd (by decide) c9)
                refine lv_iload hx hb dX7_hear_227 (lv_at hl 6 rfl) ?_
                refine lv_istore (lv' := [(5, .int y5), (4, .int y4), (8, .int 0), (7, .int (y3 - ((S0q.2 24) (y6 : Int32).toNatClampNeg))), (0, .ref (ad 0)), (1, .int x1), (3, .int y3), (6, .int y6)]) hx hb dX7_hear_229 hl (by decide) rfl (fun ls hl => ?_)
                refine lv_iinc (v := (y6 + 1)) (lv' := [(6, .int (y6 + 1)), (5, .int y5), (4, .int y4), (8, .int 0), (7, .int (y3 - ((S0q.2 24) (y6 : Int32).toNatClampNeg))), (0, .ref (ad 0)), (1, .int x1), (3, .int y3)]) hx hb dX7_hear_231 hl (k := 7) rfl rfl (by decide) rfl (fun ls hl => ?_)
                refine lv_goto (tgt := 124) hx hb dX7_hear_234 (by decide) ?_
                exact ih y4 y5 (y6 + 1) _ _ hP hD hS _ (lv_sub hl [5, 6, 7, 2, 1, 0] rfl) hw
              · have hw := Eq.mp (if_neg c25) hw
                refine lv_iconst (v := 1) hx hb dX7_hear_196 (by decide) ?_
                refine lv_goto (tgt := 201) hx hb dX7_hear_197 (by decide) ?_
                refine lv_istore (lv' := [(8, .int 1), (7, .int (y3 - ((S0q.2 24) (y6 : Int32).toNatClampNeg))), (0, .ref (ad 0)), (1, .int x1), (3, .int y3), (4, .int y4), (5, .int y5), (6, .int y6)]) hx hb dX7_hear_201 hl (by decide) rfl (fun ls hl => ?_)
                refine lv_iload hx hb dX7_hear_203 (lv_at hl 0 rfl) ?_
                refine lv_if_eq (tgt := 213) hx hb dX7_hear_205 (by decide) (fun c9 => absurd c9 (by decide)) (fun _ => ?_)
                refine lv_iload hx hb dX7_hear_208 (lv_at hl 7 rfl) ?_
                refine lv_goto (tgt := 215) hx hb dX7_hear_210 (by decide) ?_
                refine lv_istore (lv' := [(4, .int y6), (8, .int 1), (7, .int (y3 - ((S0q.2 24) (y6 : Int32).toNatClampNeg))), (0, .ref (ad 0)), (1, .int x1), (3, .int y3), (5, .int y5), (6, .int y6)]) hx hb dX7_hear_215 hl (by decide) rfl (fun ls hl => ?_)
                refine lv_iload hx hb dX7_hear_217 (lv_at hl 1 rfl) ?_
                refine lv_if_eq (tgt := 227) hx hb dX7_hear_219 (by decide) (fun c9 => absurd c9 (by decide)) (fun _ => ?_)
                refine lv_iload hx hb dX7_hear_222 (lv_at hl 2 rfl) ?_
                refine lv_goto (tgt := 229) hx hb dX7_hear_224 (by decide) ?_
                refine lv_istore (lv' := [(5, .int (y3 - ((S0q.2 24) (y6 : Int32).toNatClampNeg))), (4, .int y6), (8, .int 1), (7, .int (y3 - ((S0q.2 24) (y6 : Int32).toNatClampNeg))), (0, .ref (ad 0)), (1, .int x1), (3, .int y3), (6, .int y6)]) hx hb dX7_hear_229 hl (by decide) rfl (fun ls hl => ?_)
                refine lv_iinc (v := (y6 + 1)) (lv' := [(6, .int (y6 + 1)), (5, .int (y3 - ((S0q.2 24) (y6 : Int32).toNatClampNeg))), (4, .int y6), (8, .int 1), (7, .int (y3 - ((S0q.2 24) (y6 : Int32).toNatClampNeg))), (0, .ref (ad 0)), (1, .int x1), (3, .int y3)]) hx hb dX7_hear_231 hl (k := 7) rfl rfl (by decide) rfl (fun ls hl => ?_)
                refine lv_goto (tgt := 124) hx hb dX7_hear_234 (by decide) ?_
                exact ih y6 (y3 - ((S0q.2 24) (y6 : Int32).toNatClampNeg)) (y6 + 1) _ _ hP hD hS _ (lv_sub hl [5, 6, 7, 2, 1, 0] rfl) hw
          · have hw := Eq.mp (if_neg c22) hw
            refine lv_aload_n hx hb dX7_hear_156 rfl (lv_at hl 0 rfl) ?_
            refine va_get (D := D) (ci := 7) (v := .ref (ad (0 + 13))) (C := RX7) (T := TX7) (N := 27) hx hb hW inW_X7 hown hK hP 0 rfl rfl 24 (by decide) (hW _ fl_X7_53) (fun _ h9 => h9) rfl dX7_hear_157 ?_
            refine lv_iload hx hb dX7_hear_160 (lv_at hl 5 rfl) ?_
            refine va_iald (f := (S0q.2 24)) hx hb hK hP 13 0 rfl rfl hw.1 dX7_hear_162 ?_
            have hw := hw.2
            refine lv_goto (tgt := 175) hx hb dX7_hear_163 (by decide) ?_
            refine lv_istore (lv' := [(7, .int ((S0q.2 24) (y6 : Int32).toNatClampNeg)), (0, .ref (ad 0)), (1, .int x1), (3, .int y3), (4, .int y4), (5, .int y5), (6, .int y6)]) hx hb dX7_hear_175 hl (by decide) rfl (fun ls hl => ?_)
            refine lv_aload_n hx hb dX7_hear_177 rfl (lv_at hl 1 rfl) ?_
            refine callR (va_runV (As := []) (rest := []) ⟨hx, hb, hml, hown, hW⟩ (c_X7_living l D cI cZ ad  S0q _ hw) (cwV0 hW mV_X7_living ml_X7_166 ⟨Nat.le_of_ble_eq_true rfl, Nat.le_of_ble_eq_true rfl⟩) (preV0 0 rfl rfl hK hN hP hD [0] rfl rfl) rfl rfl hl.1 rfl (lv_room (Nat.le_of_ble_eq_true rfl)) dX7_hear_178 ⟨Nat.le_refl _, Nat.le_refl _⟩) (fun v9 hq => ?_)
            obtain ⟨v26, rfl, hw⟩ := hq
            refine W.eq (g2 := F0 m 181 ls [.int v26]) rfl ?_
            refine lv_iload hx hb dX7_hear_181 (lv_at hl 6 rfl) ?_
            refine callF (va_runS (As := [.int v26, .int y6]) (rest := []) ⟨hx, hb, hml, hown, hW⟩ (c_X7_has l D cI cZ v26 y6 _ rfl) (cwS0 hW mS_X7_has ml_X7_169 ⟨Nat.le_of_ble_eq_true rfl, Nat.le_of_ble_eq_true rfl⟩) (preS0 hK hN hP hD [] rfl rfl) rfl rfl hl.1 rfl (lv_room (Nat.le_of_ble_eq_true rfl)) dX7_hear_183 ⟨Nat.le_refl _, Nat.le_refl _⟩) ?_
            refine W.eq (g2 := F0 m 186 ls [.int (F_X7_has v26 y6)]) rfl ?_
            refine lv_if_eq (tgt := 200) hx hb dX7_hear_186 (by decide) (fun c27 => ?_) (fun c27 => ?_)
            · have hw := Eq.mp (if_pos c27) hw
              refine lv_iconst (v := 0) hx hb dX7_hear_200 (by decide) ?_
              refine lv_istore (lv' := [(8, .int 0), (7, .int ((S0q.2 24) (y6 : Int32).toNatClampNeg)), (0, .ref (ad 0)), (1, .int x1), (3, .int y3), (4, .int y4), (5, .int y5), (6, .int y6)]) hx hb dX7_hear_201 hl (by decide) rfl (fun ls hl => ?_)
              refine lv_iload hx hb dX7_hear_203 (lv_at hl 0 rfl) ?_
              refine lv_if_eq (tgt := 213) hx hb dX7_hear_205 (by decide) (fun _ => ?_) (fun c9 => absurd (by decide) c9)
              refine lv_iload hx hb dX7_hear_213 (lv_at hl 5 rfl) ?_
              refine lv_istore (lv' := [(4, .int y4), (8, .int 0), (7, .int ((S0q.2 24) (y6 : Int32).toNatClampNeg)), (0, .ref (ad 0)), (1, .int x1), (3, .int y3), (5, .int y5), (6, .int y6)]) hx hb dX7_hear_215 hl (by decide) rfl (fun ls hl => ?_)
              refine lv_iload hx hb dX7_hear_217 (lv_at hl 1 rfl) ?_
              refine lv_if_eq (tgt := 227) hx hb dX7_hear_219 (by decide) (fun _ => ?_) (fun c9 => absurd (by decide) c9)
              refine lv_iload hx hb dX7_hear_227 (lv_at hl 6 rfl) ?_
              refine lv_istore (lv' := [(5, .int y5), (4, .int y4), (8, .int 0), (7, .int ((S0q.2 24) (y6 : Int32).toNatClampNeg)), (0, .ref (ad 0)), (1, .int x1), (3, .int y3), (6, .int y6)]) hx hb dX7_hear_229 hl (by decide) rfl (fun ls hl => ?_)
              refine lv_iinc (v := (y6 + 1)) (lv' := [(6, .int (y6 + 1)), (5, .int y5), (4, .int y4), (8, .int 0), (7, .int ((S0q.2 24) (y6 : Int32).toNatClampNeg)), (0, .ref (ad 0)), (1, .int x1), (3, .int y3)]) hx hb dX7_hear_231 hl (k := 7) rfl rfl (by decide) rfl (fun ls hl => ?_)
              refine lv_goto (tgt := 124) hx hb dX7_hear_234 (by decide) ?_
              exact ih y4 y5 (y6 + 1) _ _ hP hD hS _ (lv_sub hl [5, 6, 7, 2, 1, 0] rfl) hw
            · have hw := Eq.mp (if_neg c27) hw
              refine lv_iload hx hb dX7_hear_189 (lv_at hl 0 rfl) ?_
              refine lv_iload hx hb dX7_hear_191 (lv_at hl 5 rfl) ?_
              refine lv_icmp_ge (tgt := 200) hx hb dX7_hear_193 (by decide) (fun c28 => ?_) (fun c28 => ?_)
              · have hw := Eq.mp (if_pos c28) hw
                refine lv_iconst (v := 0) hx hb dX7_hear_200 (by decide) ?_
                refine lv_istore (lv' := [(8, .int 0), (7, .int ((S0q.2 24) (y6 : Int32).toNatClampNeg)), (0, .ref (ad 0)), (1, .int x1), (3, .int y3), (4, .int y4), (5, .int y5), (6, .int y6)]) hx hb dX7_hear_201 hl (by decide) rfl (fun ls hl => ?_)
                refine lv_iload hx hb dX7_hear_203 (lv_at hl 0 rfl) ?_
                refine lv_if_eq (tgt := 213) hx hb dX7_hear_205 (by decide) (fun _ => ?_) (fun c9 => absurd (by decide) c9)
                refine lv_iload hx hb dX7_hear_213 (lv_at hl 5 rfl) ?_
                refine lv_istore (lv' := [(4, .int y4), (8, .int 0), (7, .int ((S0q.2 24) (y6 : Int32).toNatClampNeg)), (0, .ref (ad 0)), (1, .int x1), (3, .int y3), (5, .int y5), (6, .int y6)]) hx hb dX7_hear_215 hl (by decide) rfl (fun ls hl => ?_)
                refine lv_iload hx hb dX7_hear_217 (lv_at hl 1 rfl) ?_
                refine lv_if_eq (tgt := 227) hx hb dX7_hear_219 (by decide) (fun _ => ?_) (fun c9 => absurd (by decide) c9)
                refine lv_iload hx hb dX7_hear_227 (lv_at hl 6 rfl) ?_
                refine lv_istore (lv' := [(5, .int y5), (4, .int y4), (8, .int 0), (7, .int ((S0q.2 24) (y6 : Int32).toNatClampNeg)), (0, .ref (ad 0)), (1, .int x1), (3, .int y3), (6, .int y6)]) hx hb dX7_hear_229 hl (by decide) rfl (fun ls hl => ?_)
                refine lv_iinc (v := (y6 + 1)) (lv' := [(6, .int (y6 + 1)), (5, .int y5), (4, .int y4), (8, .int 0), (7, .int ((S0q.2 24) (y6 : Int32).toNatClampNeg)), (0, .ref (ad 0)), (1, .int x1), (3, .int y3)]) hx hb dX7_hear_231 hl (k := 7) rfl rfl (by decide) rfl (fun ls hl => ?_)
                refine lv_goto (tgt := 124) hx hb dX7_hear_234 (by decide) ?_
                exact ih y4 y5 (y6 + 1) _ _ hP hD hS _ (lv_sub hl [5, 6, 7, 2, 1, 0] rfl) hw
              · have hw := Eq.mp (if_neg c28) hw
                refine lv_iconst (v := 1) hx hb dX7_hear_196 (by decide) ?_
                refine lv_goto (tgt := 201) hx hb dX7_hear_197 (by decide) ?_
                refine lv_istore (lv' := [(8, .int 1), (7, .int ((S0q.2 24) (y6 : Int32).toNatClampNeg)), (0, .ref (ad 0)), (1, .int x1), (3, .int y3), (4, .int y4), (5, .int y5), (6, .int y6)]) hx hb dX7_hear_201 hl (by decide) rfl (fun ls hl => ?_)
                refine lv_iload hx hb dX7_hear_203 (lv_at hl 0 rfl) ?_
                refine lv_if_eq (tgt := 213) hx hb dX7_hear_205 (by decide) (fun c9 => absurd c9 (by decide)) (fun _ => ?_)
                refine lv_iload hx hb dX7_hear_208 (lv_at hl 7 rfl) ?_
                refine lv_goto (tgt := 215) hx hb dX7_hear_210 (by decide) ?_
                refine lv_istore (lv' := [(4, .int y6), (8, .int 1), (7, .int ((S0q.2 24) (y6 : Int32).toNatClampNeg)), (0, .ref (ad 0)), (1, .int x1), (3, .int y3), (5, .int y5), (6, .int y6)]) hx hb dX7_hear_215 hl (by decide) rfl (fun ls hl => ?_)
                refine lv_iload hx hb dX7_hear_217 (lv_at hl 1 rfl) ?_
                refine lv_if_eq (tgt := 227) hx hb dX7_hear_219 (by decide) (fun c9 => absurd c9 (by decide)) (fun _ => ?_)
                refine lv_iload hx hb dX7_hear_222 (lv_at hl 2 rfl) ?_
                refine lv_goto (tgt := 229) hx hb dX7_hear_224 (by decide) ?_
                refine lv_istore (lv' := [(5, .int ((S0q.2 24) (y6 : Int32).toNatClampNeg)), (4, .int y6), (8, .int 1), (7, .int ((S0q.2 24) (y6 : Int32).toNatClampNeg)), (0, .ref (ad 0)), (1, .int x1), (3, .int y3), (6, .int y6)]) hx hb dX7_hear_229 hl (by decide) rfl (fun ls hl => ?_)
                refine lv_iinc (v := (y6 + 1)) (lv' := [(6, .int (y6 + 1)), (5, .int ((S0q.2 24) (y6 : Int32).toNatClampNeg)), (4, .int y6), (8, .int 1), (7, .int ((S0q.2 24) (y6 : Int32).toNatClampNeg)), (0, .ref (ad 0)), (1, .int x1), (3, .int y3)]) hx hb dX7_hear_231 hl (k := 7) rfl rfl (by decide) rfl (fun ls hl => ?_)
                refine lv_goto (tgt := 124) hx hb dX7_hear_234 (by decide) ?_
                exact ih y6 ((S0q.2 24) (y6 : Int32).toNatClampNeg) (y6 + 1) _ _ hP hD hS _ (lv_sub hl [5, 6, 7, 2, 1, 0] rfl) hw
  have hw : (if (F_X7_in x1 0 1) = 0 then (k (-2) S0) else (wp_X7_codes S0 (fun (v2 : Int32) => (∃ M37, wl_X7_hear_22 (fun (Z5 : St) => (∃ M35, wl_X7_hear_46 v2 (fun (v18 : Int32) (Z19 : St) => (∃ M33, wl_X7_hear_124 v18 Z19 (fun (v29 : Int32) (v30 : Int32) => (if v29 < 0 then (k v29 Z19) else (if x1 = 0 then (k v29 Z19) else (k v30 Z19)))) M33 (-6) 1000000 0)) M35 0 0 Z5)) M37 0 S0)))) := hw
  refine lv_iload_n hx hb dX7_hear_0 rfl (lv_at hl 1 rfl) ?_
  refine lv_iconst (v := 0) hx hb dX7_hear_1 (by decide) ?_
  refine lv_iconst (v := 1) hx hb dX7_hear_2 (by decide) ?_
  refine callF (va_runS (As := [.int x1, .int 0, .int 1]) (rest := []) ⟨hx, hb, hml, hown, hW⟩ (c_X7_in l D cI cZ x1 0 1 _ rfl) (cwS0 hW mS_X7_in ml_X7_78 ⟨Nat.le_of_ble_eq_true rfl, Nat.le_of_ble_eq_true rfl⟩) (preS0 hK hN hP hD [] rfl rfl) rfl rfl hl.1 rfl (lv_room (Nat.le_of_ble_eq_true rfl)) dX7_hear_3 ⟨Nat.le_refl _, Nat.le_refl _⟩) ?_
  refine W.eq (g2 := F0 m 6 ls [.int (F_X7_in x1 0 1)]) rfl ?_
  refine lv_if_ne (tgt := 12) hx hb dX7_hear_6 (by decide) (fun c1 => ?_) (fun c1 => ?_)
  · have hw := Eq.mp (if_neg c1) hw
    refine lv_aload_n hx hb dX7_hear_12 rfl (lv_at hl 0 rfl) ?_
    refine callR (va_runV (As := []) (rest := []) ⟨hx, hb, hml, hown, hW⟩ (c_X7_codes l D cI cZ ad  S0 _ hw) (cwV0 hW mV_X7_codes ml_X7_178 ⟨Nat.le_of_ble_eq_true rfl, Nat.le_of_ble_eq_true rfl⟩) (preV0 0 rfl rfl hK hN hP hD [0] rfl rfl) rfl rfl hl.1 rfl (lv_room (Nat.le_of_ble_eq_true rfl)) dX7_hear_13 ⟨Nat.le_refl _, Nat.le_refl _⟩) (fun v9 hq => ?_)
    obtain ⟨v2, rfl, hw⟩ := hq
    refine W.eq (g2 := F0 m 16 ls [.int v2]) rfl ?_
    refine lv_istore_n (lv' := [(2, .int v2), (0, .ref (ad 0)), (1, .int x1)]) hx hb dX7_hear_16 rfl hl (by decide) rfl (fun ls hl => ?_)
    refine lv_iconst (v := 0) hx hb dX7_hear_17 (by decide) ?_
    refine lv_istore_n (lv' := [(3, .int 0), (2, .int v2), (0, .ref (ad 0)), (1, .int x1)]) hx hb dX7_hear_18 rfl hl (by decide) rfl (fun ls hl => ?_)
    refine lv_iconst (v := 0) hx hb dX7_hear_19 (by decide) ?_
    refine lv_istore (lv' := [(4, .int 0), (3, .int 0), (2, .int v2), (0, .ref (ad 0)), (1, .int x1)]) hx hb dX7_hear_20 hl (by decide) rfl (fun ls hl => ?_)
    obtain ⟨N38, hw⟩ := hw
    refine L22 v2 0 _ (fun Z5 H locs hP hD hS ls hl hw => ?_) N38 0 S0 _ _ hP hD hS _ (lv_sub hl [3, 4, 2, 1, 0] rfl) hw
    refine lv_iconst (v := 0) hx hb dX7_hear_43 (by decide) ?_
    refine lv_istore (lv' := [(4, .int 0), (0, .ref (ad 0)), (1, .int x1), (2, .int v2), (3, .int 0)]) hx hb dX7_hear_44 hl (by decide) rfl (fun ls hl => ?_)
    obtain ⟨N36, hw⟩ := hw
    refine L46 v2 _ (fun v18 Z19 H locs hP hD hS ls hl hw => ?_) N36 0 0 Z5 _ _ hP hD hS _ (lv_sub hl [1, 2, 3, 4, 0] rfl) hw
    refine lv_bipush (v := (-6)) hx hb dX7_hear_113 (by decide) ?_
    refine lv_istore (lv' := [(4, .int (-6)), (0, .ref (ad 0)), (1, .int x1), (3, .int v18)]) hx hb dX7_hear_115 hl (by decide) rfl (fun ls hl => ?_)
    refine lv_ldc (v := 1000000) hx hb hown (hW _ kc_X7_184) dX7_hear_117 ?_
    refine lv_istore (lv' := [(5, .int 1000000), (4, .int (-6)), (0, .ref (ad 0)), (1, .int x1), (3, .int v18)]) hx hb dX7_hear_119 hl (by decide) rfl (fun ls hl => ?_)
    refine lv_iconst (v := 0) hx hb dX7_hear_121 (by decide) ?_
    refine lv_istore (lv' := [(6, .int 0), (5, .int 1000000), (4, .int (-6)), (0, .ref (ad 0)), (1, .int x1), (3, .int v18)]) hx hb dX7_hear_122 hl (by decide) rfl (fun ls hl => ?_)
    obtain ⟨N34, hw⟩ := hw
    refine L124 v18 Z19 _ (fun v29 v30 H locs hP hD hS ls hl hw => ?_) N34 (-6) 1000000 0 _ _ hP hD hS _ (lv_sub hl [3, 4, 5, 2, 1, 0] rfl) hw
    refine lv_iload hx hb dX7_hear_237 (lv_at hl 1 rfl) ?_
    refine lv_if_lt (tgt := 246) hx hb dX7_hear_239 (by decide) (fun c31 => ?_) (fun c31 => ?_)
    · have hw := Eq.mp (if_pos c31) hw
      refine lv_iload hx hb dX7_hear_246 (lv_at hl 1 rfl) ?_
      refine lv_goto (tgt := 253) hx hb dX7_hear_248 (by decide) ?_
      exact W.iret (v := v29) hx hb hr (fun t ht _ => ⟨⟨_, (Z19), rfl, ⟨_, rfl, hw⟩, by rw [ht]; exact hP⟩, hS.F ht⟩) hS.2.2 dX7_hear_253
    · have hw := Eq.mp (if_neg c31) hw
      refine lv_iload_n hx hb dX7_hear_242 rfl (lv_at hl 0 rfl) ?_
      refine lv_if_ne (tgt := 251) hx hb dX7_hear_243 (by decide) (fun c32 => ?_) (fun c32 => ?_)
      · have hw := Eq.mp (if_neg c32) hw
        refine lv_iload hx hb dX7_hear_251 (lv_at hl 2 rfl) ?_
        exact W.iret (v := v30) hx hb hr (fun t ht _ => ⟨⟨_, (Z19), rfl, ⟨_, rfl, hw⟩, by rw [ht]; exact hP⟩, hS.F ht⟩) hS.2.2 dX7_hear_253
      · have hw := Eq.mp (if_pos c32) hw
        refine lv_iload hx hb dX7_hear_246 (lv_at hl 1 rfl) ?_
        refine lv_goto (tgt := 253) hx hb dX7_hear_248 (by decide) ?_
        exact W.iret (v := v29) hx hb hr (fun t ht _ => ⟨⟨_, (Z19), rfl, ⟨_, rfl, hw⟩, by rw [ht]; exact hP⟩, hS.F ht⟩) hS.2.2 dX7_hear_253
  · have hw := Eq.mp (if_pos c1) hw
    refine lv_bipush (v := (-2)) hx hb dX7_hear_9 (by decide) ?_
    exact W.iret (v := (-2)) hx hb hr (fun t ht _ => ⟨⟨_, (S0), rfl, ⟨_, rfl, hw⟩, by rw [ht]; exact hP⟩, hS.F ht⟩) hS.2.2 dX7_hear_11
set_option maxHeartbeats 4000000 in
set_option maxRecDepth 100000 in
theorem c_X7_undo (l : Launch) (D : va_G) (cI cZ : ClassId) (ad : Nat → Nat) (S0 : St) (k : Int32 → Prop) (hw : wp_X7_undo S0 k) : KR l yX7_undo cX7_undo 5 (some .int) 1 22 D cI cZ [.ref (ad 0)] [mcells cI cZ ad 0 S0] (fun v => ∃ r, v = some (.int r) ∧ k r) := by
  refine Met.ofE (by decide +kernel) (Nat.le_of_ble_eq_true rfl) ?_
  intro p e s m below meth c E ls hl
  obtain ⟨hx, hb, hr, hml, hW, hown, hlocks, hP, hK, hD, hN⟩ := E
  have hl : lv_has ls 5 [(0, .ref (ad 0))] := hl
  have L6 : ∀ (y1 : Int32) (y2 : Int32) (kx : Prop), (∀ ls : Array Slot, lv_has ls 5 [(0, .ref (ad 0)), (1, .int y1), (2, .int y2)] → kx → W p l e { frames := 1, cells := 0, slots := 0, locals := 22 } s m ([.ref (ad 0)] : List Value).toArray below meth c s.heap [] 0 0 (MQ below (QR (fun v => ∃ r, v = some (.int r) ∧ k r)) ([.ref (ad 0)] : List Value).toArray s 0 0 (fun _ => False)) (F0 m 43 ls [])) → ∀ (N6 : Nat) (y3 : Int32), ∀ ls : Array Slot, lv_has ls 5 [(0, .ref (ad 0)), (1, .int y1), (2, .int y2), (3, .int y3)] → wl_X7_undo_6 S0 kx k N6 y3 → W p l e { frames := 1, cells := 0, slots := 0, locals := 22 } s m ([.ref (ad 0)] : List Value).toArray below meth c s.heap [] 0 0 (MQ below (QR (fun v => ∃ r, v = some (.int r) ∧ k r)) ([.ref (ad 0)] : List Value).toArray s 0 0 (fun _ => False)) (F0 m 6 ls []) := by
    intro y1 y2 kx hxt N6
    induction N6 with
    | zero => intro y3 ls hl hw; exact False.elim hw
    | succ N6 ih =>
      intro y3 ls hl hw
      have hw : (if (S0.1 0) ≤ y3 then kx else (vp_in y3 6 ∧ (if ((S0.2 5) (y3 : Int32).toNatClampNeg) < 0 then (wl_X7_undo_6 S0 kx k N6 (y3 + 1)) else (wp_X7_living S0 (fun (v3 : Int32) => (if (F_X7_has v3 y3) = 0 then (k (-6)) else (wl_X7_undo_6 S0 kx k N6 (y3 + 1)))))))) := hw
      refine lv_iload_n hx hb dX7_undo_6 rfl (lv_at hl 3 rfl) ?_
      refine lv_aload_n hx hb dX7_undo_7 rfl (lv_at hl 0 rfl) ?_
      refine va_get (D := D) (ci := 7) (v := .int (S0.1 0)) (C := RX7) (T := TX7) (N := 27) hx hb hW inW_X7 hown hK hP 0 rfl rfl 0 (by decide) (hW _ fl_X7_7) (fun _ h9 => h9) rfl dX7_undo_8 ?_
      refine lv_icmp_ge (tgt := 43) hx hb dX7_undo_11 (by decide) (fun c1 => ?_) (fun c1 => ?_)
      · have hw := Eq.mp (if_pos c1) hw
        exact hxt  _ (lv_sub hl [0, 1, 2] rfl) hw
      · have hw := Eq.mp (if_neg c1) hw
        refine lv_aload_n hx hb dX7_undo_14 rfl (lv_at hl 0 rfl) ?_
        refine va_get (D := D) (ci := 7) (v := .ref (ad (0 + 1))) (C := RX7) (T := TX7) (N := 27) hx hb hW inW_X7 hown hK hP 0 rfl rfl 5 (by decide) (hW _ fl_X7_16) (fun _ h9 => h9) rfl dX7_undo_15 ?_
        refine lv_iload_n hx hb dX7_undo_18 rfl (lv_at hl 3 rfl) ?_
        refine va_iald (f := (S0.2 5)) hx hb hK hP 1 0 rfl rfl hw.1 dX7_undo_19 ?_
        have hw := hw.2
        refine lv_if_lt (tgt := 37) hx hb dX7_undo_20 (by decide) (fun c2 => ?_) (fun c2 => ?_)
        · have hw := Eq.mp (if_pos c2) hw
          refine lv_iinc (v := (y3 + 1)) (lv' := [(3, .int (y3 + 1)), (0, .ref (ad 0)), (1, .int y1), (2, .int y2)]) hx hb dX7_undo_37 hl (k := 3) rfl rfl (by decide) rfl (fun ls hl => ?_)
          refine lv_goto (tgt := 6) hx hb dX7_undo_40 (by decide) ?_
          exact ih (y3 + 1) _ (lv_sub hl [1, 2, 3, 0] rfl) hw
        · have hw := Eq.mp (if_neg c2) hw
          refine lv_aload_n hx hb dX7_undo_23 rfl (lv_at hl 0 rfl) ?_
          refine callR (va_runV (As := []) (rest := []) ⟨hx, hb, hml, hown, hW⟩ (c_X7_living l D cI cZ ad  S0 _ hw) (cwV0 hW mV_X7_living ml_X7_166 ⟨Nat.le_of_ble_eq_true rfl, Nat.le_of_ble_eq_true rfl⟩) (preV0 0 rfl rfl hK hN hP hD [0] rfl rfl) rfl rfl hl.1 rfl (lv_room (Nat.le_of_ble_eq_true rfl)) dX7_undo_24 ⟨Nat.le_refl _, Nat.le_refl _⟩) (fun v9 hq => ?_)
          obtain ⟨v3, rfl, hw⟩ := hq
          refine W.eq (g2 := F0 m 27 ls [.int v3]) rfl ?_
          refine lv_iload_n hx hb dX7_undo_27 rfl (lv_at hl 3 rfl) ?_
          refine callF (va_runS (As := [.int v3, .int y3]) (rest := []) ⟨hx, hb, hml, hown, hW⟩ (c_X7_has l D cI cZ v3 y3 _ rfl) (cwS0 hW mS_X7_has ml_X7_169 ⟨Nat.le_of_ble_eq_true rfl, Nat.le_of_ble_eq_true rfl⟩) (preS0 hK hN hP hD [] rfl rfl) rfl rfl hl.1 rfl (lv_room (Nat.le_of_ble_eq_true rfl)) dX7_undo_28 ⟨Nat.le_refl _, Nat.le_refl _⟩) ?_
          refine W.eq (g2 := F0 m 31 ls [.int (F_X7_has v3 y3)]) rfl ?_
          refine lv_if_ne (tgt := 37) hx hb dX7_undo_31 (by decide) (fun c4 => ?_) (fun c4 => ?_)
          · have hw := Eq.mp (if_neg c4) hw
            refine lv_iinc (v := (y3 + 1)) (lv' := [(3, .int (y3 + 1)), (0, .ref (ad 0)), (1, .int y1), (2, .int y2)]) hx hb dX7_undo_37 hl (k := 3) rfl rfl (by decide) rfl (fun ls hl => ?_)
            refine lv_goto (tgt := 6) hx hb dX7_undo_40 (by decide) ?_
            exact ih (y3 + 1) _ (lv_sub hl [1, 2, 3, 0] rfl) hw
          · have hw := Eq.mp (if_pos c4) hw
            refine lv_bipush (v := (-6)) hx hb dX7_undo_34 (by decide) ?_
            exact W.iret (v := (-6)) hx hb hr (fun t ht _ => ⟨⟨_, rfl, ⟨_, rfl, hw⟩⟩, ht⟩) (fun _ h => by cases h) dX7_undo_36
  have L73 : ∀ (y3 : Int32) (kx : Int32 → Int32 → Prop), (∀ (y1 : Int32) (y2 : Int32), ∀ ls : Array Slot, lv_has ls 5 [(0, .ref (ad 0)), (1, .int y1), (2, .int y2), (3, .int y3)] → kx y1 y2 → W p l e { frames := 1, cells := 0, slots := 0, locals := 22 } s m ([.ref (ad 0)] : List Value).toArray below meth c s.heap [] 0 0 (MQ below (QR (fun v => ∃ r, v = some (.int r) ∧ k r)) ([.ref (ad 0)] : List Value).toArray s 0 0 (fun _ => False)) (F0 m 120 ls [])) → ∀ (N73 : Nat) (y1 : Int32) (y2 : Int32) (y4 : Int32), ∀ ls : Array Slot, lv_has ls 5 [(0, .ref (ad 0)), (1, .int y1), (2, .int y2), (3, .int y3), (4, .int y4)] → wl_X7_undo_73 S0 y3 kx N73 y1 y2 y4 → W p l e { frames := 1, cells := 0, slots := 0, locals := 22 } s m ([.ref (ad 0)] : List Value).toArray below meth c s.heap [] 0 0 (MQ below (QR (fun v => ∃ r, v = some (.int r) ∧ k r)) ([.ref (ad 0)] : List Value).toArray s 0 0 (fun _ => False)) (F0 m 73 ls []) := by
    intro y3 kx hxt N73
    induction N73 with
    | zero => intro y1 y2 y4 ls hl hw; exact False.elim hw
    | succ N73 ih =>
      intro y1 y2 y4 ls hl hw
      have hw : (if (F_X7_has y2 y4) = 0 then (vp_in y4 6 ∧ (if ((S0.2 6) (y4 : Int32).toNatClampNeg) = y3 then (vp_in y4 6 ∧ (wl_X7_undo_73 S0 y3 kx N73 (y1 + 0) (y2 ||| ((1 : Int32) <<< (y4 &&& 31))) ((S0.2 6) (y4 : Int32).toNatClampNeg))) else (vp_in y4 6 ∧ (wl_X7_undo_73 S0 y3 kx N73 (y1 + 1) (y2 ||| ((1 : Int32) <<< (y4 &&& 31))) ((S0.2 6) (y4 : Int32).toNatClampNeg))))) else (kx y1 y2)) := hw
      refine lv_iload_n hx hb dX7_undo_73 rfl (lv_at hl 2 rfl) ?_
      refine lv_iload hx hb dX7_undo_74 (lv_at hl 4 rfl) ?_
      refine callF (va_runS (As := [.int y2, .int y4]) (rest := []) ⟨hx, hb, hml, hown, hW⟩ (c_X7_has l D cI cZ y2 y4 _ rfl) (cwS0 hW mS_X7_has ml_X7_169 ⟨Nat.le_of_ble_eq_true rfl, Nat.le_of_ble_eq_true rfl⟩) (preS0 hK hN hP hD [] rfl rfl) rfl rfl hl.1 rfl (lv_room (Nat.le_of_ble_eq_true rfl)) dX7_undo_76 ⟨Nat.le_refl _, Nat.le_refl _⟩) ?_
      refine W.eq (g2 := F0 m 79 ls [.int (F_X7_has y2 y4)]) rfl ?_
      refine lv_if_ne (tgt := 120) hx hb dX7_undo_79 (by decide) (fun c8 => ?_) (fun c8 => ?_)
      · have hw := Eq.mp (if_neg c8) hw
        exact hxt y1 y2 _ (lv_sub hl [0, 1, 2, 3] rfl) hw
      · have hw := Eq.mp (if_pos c8) hw
        refine lv_iload_n hx hb dX7_undo_82 rfl (lv_at hl 2 rfl) ?_
        refine lv_iconst (v := 1) hx hb dX7_undo_83 (by decide) ?_
        refine lv_iload hx hb dX7_undo_84 (lv_at hl 4 rfl) ?_
        refine lv_ishl hx hb dX7_undo_86 ?_
        refine lv_ior hx hb dX7_undo_87 ?_
        refine lv_istore_n (lv' := [(2, .int (y2 ||| ((1 : Int32) <<< (y4 &&& 31)))), (0, .ref (ad 0)), (1, .int y1), (3, .int y3), (4, .int y4)]) hx hb dX7_undo_88 rfl hl (by decide) rfl (fun ls hl => ?_)
        refine lv_iload_n hx hb dX7_undo_89 rfl (lv_at hl 2 rfl) ?_
        refine lv_aload_n hx hb dX7_undo_90 rfl (lv_at hl 1 rfl) ?_
        refine va_get (D := D) (ci := 7) (v := .ref (ad (0 + 2))) (C := RX7) (T := TX7) (N := 27) hx hb hW inW_X7 hown hK hP 0 rfl rfl 6 (by decide) (hW _ fl_X7_20) (fun _ h9 => h9) rfl dX7_undo_91 ?_
        refine lv_iload hx hb dX7_undo_94 (lv_at hl 4 rfl) ?_
        refine va_iald (f := (S0.2 6)) hx hb hK hP 2 0 rfl rfl hw.1 dX7_undo_96 ?_
        have hw := hw.2
        refine lv_iload_n hx hb dX7_undo_97 rfl (lv_at hl 3 rfl) ?_
        refine lv_icmp_eq (tgt := 105) hx hb dX7_undo_98 (by decide) (fun c9 => ?_) (fun c9 => ?_)
        · have hw := Eq.mp (if_pos c9) hw
          refine lv_iconst (v := 0) hx hb dX7_undo_105 (by decide) ?_
          refine lv_iadd hx hb dX7_undo_106 ?_
          refine lv_istore_n (lv' := [(1, .int (y1 + 0)), (2, .int (y2 ||| ((1 : Int32) <<< (y4 &&& 31)))), (0, .ref (ad 0)), (3, .int y3), (4, .int y4)]) hx hb dX7_undo_107 rfl hl (by decide) rfl (fun ls hl => ?_)
          refine lv_aload_n hx hb dX7_undo_108 rfl (lv_at hl 2 rfl) ?_
          refine va_get (D := D) (ci := 7) (v := .ref (ad (0 + 2))) (C := RX7) (T := TX7) (N := 27) hx hb hW inW_X7 hown hK hP 0 rfl rfl 6 (by decide) (hW _ fl_X7_20) (fun _ h9 => h9) rfl dX7_undo_109 ?_
          refine lv_iload hx hb dX7_undo_112 (lv_at hl 4 rfl) ?_
          refine va_iald (f := (S0.2 6)) hx hb hK hP 2 0 rfl rfl hw.1 dX7_undo_114 ?_
          have hw := hw.2
          refine lv_istore (lv' := [(4, .int ((S0.2 6) (y4 : Int32).toNatClampNeg)), (1, .int (y1 + 0)), (2, .int (y2 ||| ((1 : Int32) <<< (y4 &&& 31)))), (0, .ref (ad 0)), (3, .int y3)]) hx hb dX7_undo_115 hl (by decide) rfl (fun ls hl => ?_)
          refine lv_goto (tgt := 73) hx hb dX7_undo_117 (by decide) ?_
          exact ih (y1 + 0) (y2 ||| ((1 : Int32) <<< (y4 &&& 31))) ((S0.2 6) (y4 : Int32).toNatClampNeg) _ (lv_sub hl [3, 1, 2, 4, 0] rfl) hw
        · have hw := Eq.mp (if_neg c9) hw
          refine lv_iconst (v := 1) hx hb dX7_undo_101 (by decide) ?_
          refine lv_goto (tgt := 106) hx hb dX7_undo_102 (by decide) ?_
          refine lv_iadd hx hb dX7_undo_106 ?_
          refine lv_istore_n (lv' := [(1, .int (y1 + 1)), (2, .int (y2 ||| ((1 : Int32) <<< (y4 &&& 31)))), (0, .ref (ad 0)), (3, .int y3), (4, .int y4)]) hx hb dX7_undo_107 rfl hl (by decide) rfl (fun ls hl => ?_)
          refine lv_aload_n hx hb dX7_undo_108 rfl (lv_at hl 2 rfl) ?_
          refine va_get (D := D) (ci := 7) (v := .ref (ad (0 + 2))) (C := RX7) (T := TX7) (N := 27) hx hb hW inW_X7 hown hK hP 0 rfl rfl 6 (by decide) (hW _ fl_X7_20) (fun _ h9 => h9) rfl dX7_undo_109 ?_
          refine lv_iload hx hb dX7_undo_112 (lv_at hl 4 rfl) ?_
          refine va_iald (f := (S0.2 6)) hx hb hK hP 2 0 rfl rfl hw.1 dX7_undo_114 ?_
          have hw := hw.2
          refine lv_istore (lv' := [(4, .int ((S0.2 6) (y4 : Int32).toNatClampNeg)), (1, .int (y1 + 1)), (2, .int (y2 ||| ((1 : Int32) <<< (y4 &&& 31)))), (0, .ref (ad 0)), (3, .int y3)]) hx hb dX7_undo_115 hl (by decide) rfl (fun ls hl => ?_)
          refine lv_goto (tgt := 73) hx hb dX7_undo_117 (by decide) ?_
          exact ih (y1 + 1) (y2 ||| ((1 : Int32) <<< (y4 &&& 31))) ((S0.2 6) (y4 : Int32).toNatClampNeg) _ (lv_sub hl [3, 1, 2, 4, 0] rfl) hw
  have L45 : ∀  (kx : Int32 → Prop), (∀ (y1 : Int32), ∀ ls : Array Slot, lv_has ls 5 [(1, .int y1)] → kx y1 → W p l e { frames := 1, cells := 0, slots := 0, locals := 22 } s m ([.ref (ad 0)] : List Value).toArray below meth c s.heap [] 0 0 (MQ below (QR (fun v => ∃ r, v = some (.int r) ∧ k r)) ([.ref (ad 0)] : List Value).toArray s 0 0 (fun _ => False)) (F0 m 126 ls [])) → ∀ (N45 : Nat) (y1 : Int32) (y2 : Int32) (y3 : Int32), ∀ ls : Array Slot, lv_has ls 5 [(0, .ref (ad 0)), (1, .int y1), (2, .int y2), (3, .int y3)] → wl_X7_undo_45 S0 kx N45 y1 y2 y3 → W p l e { frames := 1, cells := 0, slots := 0, locals := 22 } s m ([.ref (ad 0)] : List Value).toArray below meth c s.heap [] 0 0 (MQ below (QR (fun v => ∃ r, v = some (.int r) ∧ k r)) ([.ref (ad 0)] : List Value).toArray s 0 0 (fun _ => False)) (F0 m 45 ls []) := by
    intro  kx hxt N45
    induction N45 with
    | zero => intro y1 y2 y3 ls hl hw; exact False.elim hw
    | succ N45 ih =>
      intro y1 y2 y3 ls hl hw
      have hw : (if (S0.1 0) ≤ y3 then (kx y1) else (vp_in y3 6 ∧ (if ((S0.2 5) (y3 : Int32).toNatClampNeg) < 0 then (wl_X7_undo_45 S0 kx N45 y1 y2 (y3 + 1)) else (if (F_X7_has y2 y3) = 0 then (∃ M12, wl_X7_undo_73 S0 y3 (fun (v10 : Int32) (v11 : Int32) => (wl_X7_undo_45 S0 kx N45 v10 v11 (y3 + 1))) M12 y1 y2 y3) else (wl_X7_undo_45 S0 kx N45 y1 y2 (y3 + 1)))))) := hw
      refine lv_iload_n hx hb dX7_undo_45 rfl (lv_at hl 3 rfl) ?_
      refine lv_aload_n hx hb dX7_undo_46 rfl (lv_at hl 0 rfl) ?_
      refine va_get (D := D) (ci := 7) (v := .int (S0.1 0)) (C := RX7) (T := TX7) (N := 27) hx hb hW inW_X7 hown hK hP 0 rfl rfl 0 (by decide) (hW _ fl_X7_7) (fun _ h9 => h9) rfl dX7_undo_47 ?_
      refine lv_icmp_ge (tgt := 126) hx hb dX7_undo_50 (by decide) (fun c5 => ?_) (fun c5 => ?_)
      · have hw := Eq.mp (if_pos c5) hw
        exact hxt y1 _ (lv_sub hl [1] rfl) hw
      · have hw := Eq.mp (if_neg c5) hw
        refine lv_aload_n hx hb dX7_undo_53 rfl (lv_at hl 0 rfl) ?_
        refine va_get (D := D) (ci := 7) (v := .ref (ad (0 + 1))) (C := RX7) (T := TX7) (N := 27) hx hb hW inW_X7 hown hK hP 0 rfl rfl 5 (by decide) (hW _ fl_X7_16) (fun _ h9 => h9) rfl dX7_undo_54 ?_
        refine lv_iload_n hx hb dX7_undo_57 rfl (lv_at hl 3 rfl) ?_
        refine va_iald (f := (S0.2 5)) hx hb hK hP 1 0 rfl rfl hw.1 dX7_undo_58 ?_
        have hw := hw.2
        refine lv_if_lt (tgt := 120) hx hb dX7_undo_59 (by decide) (fun c6 => ?_) (fun c6 => ?_)
        · have hw := Eq.mp (if_pos c6) hw
          refine lv_iinc (v := (y3 + 1)) (lv' := [(3, .int (y3 + 1)), (0, .ref (ad 0)), (1, .int y1), (2, .int y2)]) hx hb dX7_undo_120 hl (k := 3) rfl rfl (by decide) rfl (fun ls hl => ?_)
          refine lv_goto (tgt := 45) hx hb dX7_undo_123 (by decide) ?_
          exact ih y1 y2 (y3 + 1) _ (lv_sub hl [1, 2, 3, 0] rfl) hw
        · have hw := Eq.mp (if_neg c6) hw
          refine lv_iload_n hx hb dX7_undo_62 rfl (lv_at hl 2 rfl) ?_
          refine lv_iload_n hx hb dX7_undo_63 rfl (lv_at hl 3 rfl) ?_
          refine callF (va_runS (As := [.int y2, .int y3]) (rest := []) ⟨hx, hb, hml, hown, hW⟩ (c_X7_has l D cI cZ y2 y3 _ rfl) (cwS0 hW mS_X7_has ml_X7_169 ⟨Nat.le_of_ble_eq_true rfl, Nat.le_of_ble_eq_true rfl⟩) (preS0 hK hN hP hD [] rfl rfl) rfl rfl hl.1 rfl (lv_room (Nat.le_of_ble_eq_true rfl)) dX7_undo_64 ⟨Nat.le_refl _, Nat.le_refl _⟩) ?_
          refine W.eq (g2 := F0 m 67 ls [.int (F_X7_has y2 y3)]) rfl ?_
          refine lv_if_ne (tgt := 120) hx hb dX7_undo_67 (by decide) (fun c7 => ?_) (fun c7 => ?_)
          · have hw := Eq.mp (if_neg c7) hw
            refine lv_iinc (v := (y3 + 1)) (lv' := [(3, .int (y3 + 1)), (0, .ref (ad 0)), (1, .int y1), (2, .int y2)]) hx hb dX7_undo_120 hl (k := 3) rfl rfl (by decide) rfl (fun ls hl => ?_)
            refine lv_goto (tgt := 45) hx hb dX7_undo_123 (by decide) ?_
            exact ih y1 y2 (y3 + 1) _ (lv_sub hl [1, 2, 3, 0] rfl) hw
          · have hw := Eq.mp (if_pos c7) hw
            refine lv_iload_n hx hb dX7_undo_70 rfl (lv_at hl 3 rfl) ?_
            refine lv_istore (lv' := [(4, .int y3), (0, .ref (ad 0)), (1, .int y1), (2, .int y2), (3, .int y3)]) hx hb dX7_undo_71 hl (by decide) rfl (fun ls hl => ?_)
            obtain ⟨N13, hw⟩ := hw
            refine L73 y3 _ (fun v10 v11 ls hl hw => ?_) N13 y1 y2 y3 _ (lv_sub hl [1, 2, 3, 4, 0] rfl) hw
            refine lv_iinc (v := (y3 + 1)) (lv' := [(3, .int (y3 + 1)), (0, .ref (ad 0)), (1, .int v10), (2, .int v11)]) hx hb dX7_undo_120 hl (k := 3) rfl rfl (by decide) rfl (fun ls hl => ?_)
            refine lv_goto (tgt := 45) hx hb dX7_undo_123 (by decide) ?_
            exact ih v10 v11 (y3 + 1) _ (lv_sub hl [1, 2, 3, 0] rfl) hw
  have hw : (∃ M17, wl_X7_undo_6 S0 (∃ M15, wl_X7_undo_45 S0 (fun (v14 : Int32) => (k v14)) M15 0 0 0) k M17 0) := hw
  refine lv_iconst (v := 0) hx hb dX7_undo_0 (by decide) ?_
  refine lv_istore_n (lv' := [(1, .int 0), (0, .ref (ad 0))]) hx hb dX7_undo_1 rfl hl (by decide) rfl (fun ls hl => ?_)
  refine lv_iconst (v := 0) hx hb dX7_undo_2 (by decide) ?_
  refine lv_istore_n (lv' := [(2, .int 0), (1, .int 0), (0, .ref (ad 0))]) hx hb dX7_undo_3 rfl hl (by decide) rfl (fun ls hl => ?_)
  refine lv_iconst (v := 0) hx hb dX7_undo_4 (by decide) ?_
  refine lv_istore_n (lv' := [(3, .int 0), (2, .int 0), (1, .int 0), (0, .ref (ad 0))]) hx hb dX7_undo_5 rfl hl (by decide) rfl (fun ls hl => ?_)
  obtain ⟨N18, hw⟩ := hw
  refine L6 0 0 _ (fun  ls hl hw => ?_) N18 0 _ (lv_sub hl [3, 2, 1, 0] rfl) hw
  refine lv_iconst (v := 0) hx hb dX7_undo_43 (by decide) ?_
  refine lv_istore_n (lv' := [(3, .int 0), (0, .ref (ad 0)), (1, .int 0), (2, .int 0)]) hx hb dX7_undo_44 rfl hl (by decide) rfl (fun ls hl => ?_)
  obtain ⟨N16, hw⟩ := hw
  refine L45  _ (fun v14 ls hl hw => ?_) N16 0 0 0 _ (lv_sub hl [1, 2, 3, 0] rfl) hw
  refine lv_iload_n hx hb dX7_undo_126 rfl (lv_at hl 0 rfl) ?_
  exact W.iret (v := v14) hx hb hr (fun t ht _ => ⟨⟨_, rfl, ⟨_, rfl, hw⟩⟩, ht⟩) (fun _ h => by cases h) dX7_undo_127
set_option maxHeartbeats 4000000 in
set_option maxRecDepth 100000 in
theorem c_X7_doMeet (l : Launch) (D : va_G) (cI cZ : ClassId) (ad : Nat → Nat) (S0 : St) (x1 : Int32) (x2 : Int32) (x3 : Int32) (k : Int32 → Prop) (hw : wp_X7_doMeet S0 x1 x2 x3 k) : KR l yX7_doMeet cX7_doMeet 6 (some .boolean) 2 47 D cI cZ [.ref (ad 0), .int x1, .int x2, .int x3] [mcells cI cZ ad 0 S0] (fun v => ∃ r, v = some (.int r) ∧ k r) := by
  refine Met.ofE (by decide +kernel) (Nat.le_of_ble_eq_true rfl) ?_
  intro p e s m below meth c E ls hl
  obtain ⟨hx, hb, hr, hml, hW, hown, hlocks, hP, hK, hD, hN⟩ := E
  have hl : lv_has ls 6 [(0, .ref (ad 0)), (1, .int x1), (2, .int x2), (3, .int x3)] := hl
  have L6 : ∀  (kx : Int32 → Prop), (∀ (y4 : Int32), ∀ ls : Array Slot, lv_has ls 6 [(4, .int y4)] → kx y4 → W p l e { frames := 2, cells := 0, slots := 0, locals := 47 } s m ([.ref (ad 0), .int x1, .int x2, .int x3] : List Value).toArray below meth c s.heap [] 0 0 (MQ below (QR (fun v => ∃ r, v = some (.int r) ∧ k r)) ([.ref (ad 0), .int x1, .int x2, .int x3] : List Value).toArray s 0 0 (fun _ => False)) (F0 m 41 ls [])) → ∀ (N6 : Nat) (y4 : Int32) (y5 : Int32), ∀ ls : Array Slot, lv_has ls 6 [(0, .ref (ad 0)), (1, .int x1), (2, .int x2), (3, .int x3), (4, .int y4), (5, .int y5)] → wl_X7_doMeet_6 S0 x1 x2 x3 kx N6 y4 y5 → W p l e { frames := 2, cells := 0, slots := 0, locals := 47 } s m ([.ref (ad 0), .int x1, .int x2, .int x3] : List Value).toArray below meth c s.heap [] 0 0 (MQ below (QR (fun v => ∃ r, v = some (.int r) ∧ k r)) ([.ref (ad 0), .int x1, .int x2, .int x3] : List Value).toArray s 0 0 (fun _ => False)) (F0 m 6 ls []) := by
    intro  kx hxt N6
    induction N6 with
    | zero => intro y4 y5 ls hl hw; exact False.elim hw
    | succ N6 ih =>
      intro y4 y5 ls hl hw
      have hw : (if x3 ≤ y5 then (kx y4) else (if y4 = 0 then (wp_X7_areIn S0 x1 x2 y5 (fun (v3 : Int32) => (if v3 = 0 then (wl_X7_doMeet_6 S0 x1 x2 x3 kx N6 0 (y5 + 1)) else (wl_X7_doMeet_6 S0 x1 x2 x3 kx N6 1 (y5 + 1))))) else (wl_X7_doMeet_6 S0 x1 x2 x3 kx N6 1 (y5 + 1)))) := hw
      refine lv_iload hx hb dX7_doMeet_6 (lv_at hl 5 rfl) ?_
      refine lv_iload_n hx hb dX7_doMeet_8 rfl (lv_at hl 3 rfl) ?_
      refine lv_icmp_ge (tgt := 41) hx hb dX7_doMeet_9 (by decide) (fun c1 => ?_) (fun c1 => ?_)
      · have hw := Eq.mp (if_pos c1) hw
        exact hxt y4 _ (lv_sub hl [4] rfl) hw
      · have hw := Eq.mp (if_neg c1) hw
        refine lv_iload hx hb dX7_doMeet_12 (lv_at hl 4 rfl) ?_
        refine lv_if_ne (tgt := 28) hx hb dX7_doMeet_14 (by decide) (fun c2 => ?_) (fun c2 => ?_)
        · have hw := Eq.mp (if_neg c2) hw
          refine lv_iconst (v := 1) hx hb dX7_doMeet_28 (by decide) ?_
          refine lv_goto (tgt := 33) hx hb dX7_doMeet_29 (by decide) ?_
          refine lv_istore (lv' := [(4, .int 1), (0, .ref (ad 0)), (1, .int x1), (2, .int x2), (3, .int x3), (5, .int y5)]) hx hb dX7_doMeet_33 hl (by decide) rfl (fun ls hl => ?_)
          refine lv_iinc (v := (y5 + 1)) (lv' := [(5, .int (y5 + 1)), (4, .int 1), (0, .ref (ad 0)), (1, .int x1), (2, .int x2), (3, .int x3)]) hx hb dX7_doMeet_35 hl (k := 5) rfl rfl (by decide) rfl (fun ls hl => ?_)
          refine lv_goto (tgt := 6) hx hb dX7_doMeet_38 (by decide) ?_
          exact ih 1 (y5 + 1) _ (lv_sub hl [2, 3, 4, 5, 1, 0] rfl) hw
        · have hw := Eq.mp (if_pos c2) hw
          refine lv_aload_n hx hb dX7_doMeet_17 rfl (lv_at hl 0 rfl) ?_
          refine lv_iload_n hx hb dX7_doMeet_18 rfl (lv_at hl 1 rfl) ?_
          refine lv_iload_n hx hb dX7_doMeet_19 rfl (lv_at hl 2 rfl) ?_
          refine lv_iload hx hb dX7_doMeet_20 (lv_at hl 5 rfl) ?_
          refine callR (va_runV (As := [.int x1, .int x2, .int y5]) (rest := []) ⟨hx, hb, hml, hown, hW⟩ (c_X7_areIn l D cI cZ ad  S0 x1 x2 y5 _ hw) (cwV0 hW mV_X7_areIn ml_X7_149 ⟨Nat.le_of_ble_eq_true rfl, Nat.le_of_ble_eq_true rfl⟩) (preV0 0 rfl rfl hK hN hP hD [0] rfl rfl) rfl rfl hl.1 rfl (lv_room (Nat.le_of_ble_eq_true rfl)) dX7_doMeet_22 ⟨Nat.le_refl _, Nat.le_refl _⟩) (fun v9 hq => ?_)
          obtain ⟨v3, rfl, hw⟩ := hq
          refine W.eq (g2 := F0 m 25 ls [.int v3]) rfl ?_
          refine lv_if_eq (tgt := 32) hx hb dX7_doMeet_25 (by decide) (fun c4 => ?_) (fun c4 => ?_)
          · have hw := Eq.mp (if_pos c4) hw
            refine lv_iconst (v := 0) hx hb dX7_doMeet_32 (by decide) ?_
            refine lv_istore (lv' := [(4, .int 0), (0, .ref (ad 0)), (1, .int x1), (2, .int x2), (3, .int x3), (5, .int y5)]) hx hb dX7_doMeet_33 hl (by decide) rfl (fun ls hl => ?_)
            refine lv_iinc (v := (y5 + 1)) (lv' := [(5, .int (y5 + 1)), (4, .int 0), (0, .ref (ad 0)), (1, .int x1), (2, .int x2), (3, .int x3)]) hx hb dX7_doMeet_35 hl (k := 5) rfl rfl (by decide) rfl (fun ls hl => ?_)
            refine lv_goto (tgt := 6) hx hb dX7_doMeet_38 (by decide) ?_
            exact ih 0 (y5 + 1) _ (lv_sub hl [2, 3, 4, 5, 1, 0] rfl) hw
          · have hw := Eq.mp (if_neg c4) hw
            refine lv_iconst (v := 1) hx hb dX7_doMeet_28 (by decide) ?_
            refine lv_goto (tgt := 33) hx hb dX7_doMeet_29 (by decide) ?_
            refine lv_istore (lv' := [(4, .int 1), (0, .ref (ad 0)), (1, .int x1), (2, .int x2), (3, .int x3), (5, .int y5)]) hx hb dX7_doMeet_33 hl (by decide) rfl (fun ls hl => ?_)
            refine lv_iinc (v := (y5 + 1)) (lv' := [(5, .int (y5 + 1)), (4, .int 1), (0, .ref (ad 0)), (1, .int x1), (2, .int x2), (3, .int x3)]) hx hb dX7_doMeet_35 hl (k := 5) rfl rfl (by decide) rfl (fun ls hl => ?_)
            refine lv_goto (tgt := 6) hx hb dX7_doMeet_38 (by decide) ?_
            exact ih 1 (y5 + 1) _ (lv_sub hl [2, 3, 4, 5, 1, 0] rfl) hw
  have hw : (∃ M6, wl_X7_doMeet_6 S0 x1 x2 x3 (fun (v5 : Int32) => ((v5 = 0 ∨ v5 = 1) ∧ (k v5))) M6 0 0) := hw
  refine lv_iconst (v := 0) hx hb dX7_doMeet_0 (by decide) ?_
  refine lv_istore (lv' := [(4, .int 0), (0, .ref (ad 0)), (1, .int x1), (2, .int x2), (3, .int x3)]) hx hb dX7_doMeet_1 hl (by decide) rfl (fun ls hl => ?_)
  refine lv_iconst (v := 0) hx hb dX7_doMeet_3 (by decide) ?_
  refine lv_istore (lv' := [(5, .int 0), (4, .int 0), (0, .ref (ad 0)), (1, .int x1), (2, .int x2), (3, .int x3)]) hx hb dX7_doMeet_4 hl (by decide) rfl (fun ls hl => ?_)
  obtain ⟨N7, hw⟩ := hw
  refine L6  _ (fun v5 ls hl hw => ?_) N7 0 0 _ (lv_sub hl [2, 3, 4, 5, 1, 0] rfl) hw
  refine lv_iload hx hb dX7_doMeet_41 (lv_at hl 0 rfl) ?_
  exact W.zret (v := v5) hx hb hr (nb_of hw.1) (fun t ht _ => ⟨⟨_, rfl, ⟨_, rfl, hw.2⟩⟩, ht⟩) (fun _ h => by cases h) dX7_doMeet_43
set_option maxHeartbeats 4000000 in
set_option maxRecDepth 100000 in
theorem c_X7_marriages (l : Launch) (D : va_G) (cI cZ : ClassId) (ad : Nat → Nat) (S0 : St) (x1 : Int32) (k : Int32 → Prop) (hw : wp_X7_marriages S0 x1 k) : KR l yX7_marriages cX7_marriages 12 (some .int) 3 72 D cI cZ [.ref (ad 0), .int x1] [mcells cI cZ ad 0 S0] (fun v => ∃ r, v = some (.int r) ∧ k r) := by
  refine Met.ofE (by decide +kernel) (Nat.le_of_ble_eq_true rfl) ?_
  intro p e s m below meth c E ls hl
  obtain ⟨hx, hb, hr, hml, hW, hown, hlocks, hP, hK, hD, hN⟩ := E
  have hl : lv_has ls 12 [(0, .ref (ad 0)), (1, .int x1)] := hl
  have L17 : ∀  (kx : Int32 → Prop), (∀ (y2 : Int32), ∀ ls : Array Slot, lv_has ls 12 [(0, .ref (ad 0)), (1, .int x1), (2, .int y2)] → kx y2 → W p l e { frames := 3, cells := 0, slots := 0, locals := 72 } s m ([.ref (ad 0), .int x1] : List Value).toArray below meth c s.heap [] 0 0 (MQ below (QR (fun v => ∃ r, v = some (.int r) ∧ k r)) ([.ref (ad 0), .int x1] : List Value).toArray s 0 0 (fun _ => False)) (F0 m 60 ls [])) → ∀ (N17 : Nat) (y2 : Int32) (y3 : Int32), ∀ ls : Array Slot, lv_has ls 12 [(0, .ref (ad 0)), (1, .int x1), (2, .int y2), (3, .int y3)] → wl_X7_marriages_17 S0 kx N17 y2 y3 → W p l e { frames := 3, cells := 0, slots := 0, locals := 72 } s m ([.ref (ad 0), .int x1] : List Value).toArray below meth c s.heap [] 0 0 (MQ below (QR (fun v => ∃ r, v = some (.int r) ∧ k r)) ([.ref (ad 0), .int x1] : List Value).toArray s 0 0 (fun _ => False)) (F0 m 17 ls []) := by
    intro  kx hxt N17
    induction N17 with
    | zero => intro y2 y3 ls hl hw; exact False.elim hw
    | succ N17 ih =>
      intro y2 y3 ls hl hw
      have hw : (if (S0.1 0) ≤ y3 then (kx y2) else (vp_in y3 6 ∧ (if ((S0.2 5) (y3 : Int32).toNatClampNeg) < 0 then (wl_X7_marriages_17 S0 kx N17 (y2 ||| 0) (y3 + 1)) else (vp_in y3 6 ∧ (if 2 ≤ ((S0.2 7) (y3 : Int32).toNatClampNeg) then (wl_X7_marriages_17 S0 kx N17 (y2 ||| 0) (y3 + 1)) else (wl_X7_marriages_17 S0 kx N17 (y2 ||| ((1 : Int32) <<< (y3 &&& 31))) (y3 + 1))))))) := hw
      refine lv_iload_n hx hb dX7_marriages_17 rfl (lv_at hl 3 rfl) ?_
      refine lv_aload_n hx hb dX7_marriages_18 rfl (lv_at hl 0 rfl) ?_
      refine va_get (D := D) (ci := 7) (v := .int (S0.1 0)) (C := RX7) (T := TX7) (N := 27) hx hb hW inW_X7 hown hK hP 0 rfl rfl 0 (by decide) (hW _ fl_X7_7) (fun _ h9 => h9) rfl dX7_marriages_19 ?_
      refine lv_icmp_ge (tgt := 60) hx hb dX7_marriages_22 (by decide) (fun c2 => ?_) (fun c2 => ?_)
      · have hw := Eq.mp (if_pos c2) hw
        exact hxt y2 _ (lv_sub hl [0, 1, 2] rfl) hw
      · have hw := Eq.mp (if_neg c2) hw
        refine lv_iload_n hx hb dX7_marriages_25 rfl (lv_at hl 2 rfl) ?_
        refine lv_aload_n hx hb dX7_marriages_26 rfl (lv_at hl 0 rfl) ?_
        refine va_get (D := D) (ci := 7) (v := .ref (ad (0 + 1))) (C := RX7) (T := TX7) (N := 27) hx hb hW inW_X7 hown hK hP 0 rfl rfl 5 (by decide) (hW _ fl_X7_16) (fun _ h9 => h9) rfl dX7_marriages_27 ?_
        refine lv_iload_n hx hb dX7_marriages_30 rfl (lv_at hl 3 rfl) ?_
        refine va_iald (f := (S0.2 5)) hx hb hK hP 1 0 rfl rfl hw.1 dX7_marriages_31 ?_
        have hw := hw.2
        refine lv_if_lt (tgt := 51) hx hb dX7_marriages_32 (by decide) (fun c3 => ?_) (fun c3 => ?_)
        · have hw := Eq.mp (if_pos c3) hw
          refine lv_iconst (v := 0) hx hb dX7_marriages_51 (by decide) ?_
          refine lv_ior hx hb dX7_marriages_52 ?_
          refine lv_istore_n (lv' := [(2, .int (y2 ||| 0)), (0, .ref (ad 0)), (1, .int x1), (3, .int y3)]) hx hb dX7_marriages_53 rfl hl (by decide) rfl (fun ls hl => ?_)
          refine lv_iinc (v := (y3 + 1)) (lv' := [(3, .int (y3 + 1)), (2, .int (y2 ||| 0)), (0, .ref (ad 0)), (1, .int x1)]) hx hb dX7_marriages_54 hl (k := 3) rfl rfl (by decide) rfl (fun ls hl => ?_)
          refine lv_goto (tgt := 17) hx hb dX7_marriages_57 (by decide) ?_
          exact ih (y2 ||| 0) (y3 + 1) _ (lv_sub hl [2, 3, 1, 0] rfl) hw
        · have hw := Eq.mp (if_neg c3) hw
          refine lv_aload_n hx hb dX7_marriages_35 rfl (lv_at hl 0 rfl) ?_
          refine va_get (D := D) (ci := 7) (v := .ref (ad (0 + 3))) (C := RX7) (T := TX7) (N := 27) hx hb hW inW_X7 hown hK hP 0 rfl rfl 7 (by decide) (hW _ fl_X7_23) (fun _ h9 => h9) rfl dX7_marriages_36 ?_
          refine lv_iload_n hx hb dX7_marriages_39 rfl (lv_at hl 3 rfl) ?_
          refine va_iald (f := (S0.2 7)) hx hb hK hP 3 0 rfl rfl hw.1 dX7_marriages_40 ?_
          have hw := hw.2
          refine lv_iconst (v := 2) hx hb dX7_marriages_41 (by decide) ?_
          refine lv_icmp_ge (tgt := 51) hx hb dX7_marriages_42 (by decide) (fun c4 => ?_) (fun c4 => ?_)
          · have hw := Eq.mp (if_pos c4) hw
            refine lv_iconst (v := 0) hx hb dX7_marriages_51 (by decide) ?_
            refine lv_ior hx hb dX7_marriages_52 ?_
            refine lv_istore_n (lv' := [(2, .int (y2 ||| 0)), (0, .ref (ad 0)), (1, .int x1), (3, .int y3)]) hx hb dX7_marriages_53 rfl hl (by decide) rfl (fun ls hl => ?_)
            refine lv_iinc (v := (y3 + 1)) (lv' := [(3, .int (y3 + 1)), (2, .int (y2 ||| 0)), (0, .ref (ad 0)), (1, .int x1)]) hx hb dX7_marriages_54 hl (k := 3) rfl rfl (by decide) rfl (fun ls hl => ?_)
            refine lv_goto (tgt := 17) hx hb dX7_marriages_57 (by decide) ?_
            exact ih (y2 ||| 0) (y3 + 1) _ (lv_sub hl [2, 3, 1, 0] rfl) hw
          · have hw := Eq.mp (if_neg c4) hw
            refine lv_iconst (v := 1) hx hb dX7_marriages_45 (by decide) ?_
            refine lv_iload_n hx hb dX7_marriages_46 rfl (lv_at hl 3 rfl) ?_
            refine lv_ishl hx hb dX7_marriages_47 ?_
            refine lv_goto (tgt := 52) hx hb dX7_marriages_48 (by decide) ?_
            refine lv_ior hx hb dX7_marriages_52 ?_
            refine lv_istore_n (lv' := [(2, .int (y2 ||| ((1 : Int32) <<< (y3 &&& 31)))), (0, .ref (ad 0)), (1, .int x1), (3, .int y3)]) hx hb dX7_marriages_53 rfl hl (by decide) rfl (fun ls hl => ?_)
            refine lv_iinc (v := (y3 + 1)) (lv' := [(3, .int (y3 + 1)), (2, .int (y2 ||| ((1 : Int32) <<< (y3 &&& 31)))), (0, .ref (ad 0)), (1, .int x1)]) hx hb dX7_marriages_54 hl (k := 3) rfl rfl (by decide) rfl (fun ls hl => ?_)
            refine lv_goto (tgt := 17) hx hb dX7_marriages_57 (by decide) ?_
            exact ih (y2 ||| ((1 : Int32) <<< (y3 &&& 31))) (y3 + 1) _ (lv_sub hl [2, 3, 1, 0] rfl) hw
  have L88 : ∀ (y2 : Int32) (y3 : Int32) (y4 : Int32) (kx : Int32 → Int32 → Prop), (∀ (y7 : Int32) (y8 : Int32), ∀ ls : Array Slot, lv_has ls 12 [(0, .ref (ad 0)), (1, .int x1), (2, .int y2), (3, .int y3), (4, .int y4), (7, .int y7), (8, .int y8)] → kx y7 y8 → W p l e { frames := 3, cells := 0, slots := 0, locals := 72 } s m ([.ref (ad 0), .int x1] : List Value).toArray below meth c s.heap [] 0 0 (MQ below (QR (fun v => ∃ r, v = some (.int r) ∧ k r)) ([.ref (ad 0), .int x1] : List Value).toArray s 0 0 (fun _ => False)) (F0 m 220 ls [])) → ∀ (N88 : Nat) (y5 : Int32) (y6 : Int32) (y7 : Int32) (y8 : Int32) (y9 : Int32), ∀ ls : Array Slot, lv_has ls 12 [(0, .ref (ad 0)), (1, .int x1), (2, .int y2), (3, .int y3), (4, .int y4), (5, .int y5), (6, .int y6), (7, .int y7), (8, .int y8), (9, .int y9)] → wl_X7_marriages_88 S0 x1 y2 kx N88 y5 y6 y7 y8 y9 → W p l e { frames := 3, cells := 0, slots := 0, locals := 72 } s m ([.ref (ad 0), .int x1] : List Value).toArray below meth c s.heap [] 0 0 (MQ below (QR (fun v => ∃ r, v = some (.int r) ∧ k r)) ([.ref (ad 0), .int x1] : List Value).toArray s 0 0 (fun _ => False)) (F0 m 88 ls []) := by
    intro y2 y3 y4 kx hxt N88
    induction N88 with
    | zero => intro y5 y6 y7 y8 y9 ls hl hw; exact False.elim hw
    | succ N88 ih =>
      intro y5 y6 y7 y8 y9 ls hl hw
      have hw : (if 3 ≤ y9 then (kx y7 y8) else (if y8 = 0 then (kx y7 y8) else (if (y5 - y5 / 6 * 6) = 0 then (if ((y5 / 6) - (y5 / 6) / 6 * 6) = 0 then (wl_X7_marriages_88 S0 x1 y2 kx N88 (y5 / 36) y6 y7 y8 (y9 + 1)) else (if ((y5 / 6) - (y5 / 6) / 6 * 6) ≤ (y5 - y5 / 6 * 6) then (wl_X7_marriages_88 S0 x1 y2 kx N88 (y5 / 36) (y6 ||| (((1 : Int32) <<< ((y5 - y5 / 6 * 6) &&& 31)) ||| ((1 : Int32) <<< (((y5 / 6) - (y5 / 6) / 6 * 6) &&& 31)))) (y7 + 1) 0 (y9 + 1)) else (if (F_X7_has y2 (y5 - y5 / 6 * 6)) = 0 then (wl_X7_marriages_88 S0 x1 y2 kx N88 (y5 / 36) (y6 ||| (((1 : Int32) <<< ((y5 - y5 / 6 * 6) &&& 31)) ||| ((1 : Int32) <<< (((y5 / 6) - (y5 / 6) / 6 * 6) &&& 31)))) (y7 + 1) 0 (y9 + 1)) else (if (F_X7_has y2 ((y5 / 6) - (y5 / 6) / 6 * 6)) = 0 then (wl_X7_marriages_88 S0 x1 y2 kx N88 (y5 / 36) (y6 ||| (((1 : Int32) <<< ((y5 - y5 / 6 * 6) &&& 31)) ||| ((1 : Int32) <<< (((y5 / 6) - (y5 / 6) / 6 * 6) &&& 31)))) (y7 + 1) 0 (y9 + 1)) else (if (F_X7_has y6 (y5 - y5 / 6 * 6)) = 0 then (if (F_X7_has y6 ((y5 / 6) - (y5 / 6) / 6 * 6)) = 0 then (wp_X7_doMeet S0 (y5 - y5 / 6 * 6) ((y5 / 6) - (y5 / 6) / 6 * 6) x1 (fun (v16 : Int32) => (if v16 = 0 then (wl_X7_marriages_88 S0 x1 y2 kx N88 (y5 / 36) (y6 ||| (((1 : Int32) <<< ((y5 - y5 / 6 * 6) &&& 31)) ||| ((1 : Int32) <<< (((y5 / 6) - (y5 / 6) / 6 * 6) &&& 31)))) (y7 + 1) 1 (y9 + 1)) else (wl_X7_marriages_88 S0 x1 y2 kx N88 (y5 / 36) (y6 ||| (((1 : Int32) <<< ((y5 - y5 / 6 * 6) &&& 31)) ||| ((1 : Int32) <<< (((y5 / 6) - (y5 / 6) / 6 * 6) &&& 31)))) (y7 + 1) 0 (y9 + 1))))) else (wl_X7_marriages_88 S0 x1 y2 kx N88 (y5 / 36) (y6 ||| (((1 : Int32) <<< ((y5 - y5 / 6 * 6) &&& 31)) ||| ((1 : Int32) <<< (((y5 / 6) - (y5 / 6) / 6 * 6) &&& 31)))) (y7 + 1) 0 (y9 + 1))) else (wl_X7_marriages_88 S0 x1 y2 kx N88 (y5 / 36) (y6 ||| (((1 : Int32) <<< ((y5 - y5 / 6 * 6) &&& 31)) ||| ((1 : Int32) <<< (((y5 / 6) - (y5 / 6) / 6 * 6) &&& 31)))) (y7 + 1) 0 (y9 + 1))))))) else (if ((y5 / 6) - (y5 / 6) / 6 * 6) ≤ (y5 - y5 / 6 * 6) then (wl_X7_marriages_88 S0 x1 y2 kx N88 (y5 / 36) (y6 ||| (((1 : Int32) <<< ((y5 - y5 / 6 * 6) &&& 31)) ||| ((1 : Int32) <<< (((y5 / 6) - (y5 / 6) / 6 * 6) &&& 31)))) (y7 + 1) 0 (y9 + 1)) else (if (F_X7_has y2 (y5 - y5 / 6 * 6)) = 0 then (wl_X7_marriages_88 S0 x1 y2 kx N88 (y5 / 36) (y6 ||| (((1 : Int32) <<< ((y5 - y5 / 6 * 6) &&& 31)) ||| ((1 : Int32) <<< (((y5 / 6) - (y5 / 6) / 6 * 6) &&& 31)))) (y7 + 1) 0 (y9 + 1)) else (if (F_X7_has y2 ((y5 / 6) - (y5 / 6) / 6 * 6)) = 0 then (wl_X7_marriages_88 S0 x1 y2 kx N88 (y5 / 36) (y6 ||| (((1 : Int32) <<< ((y5 - y5 / 6 * 6) &&& 31)) ||| ((1 : Int32) <<< (((y5 / 6) - (y5 / 6) / 6 * 6) &&& 31)))) (y7 + 1) 0 (y9 + 1)) else (if (F_X7_has y6 (y5 - y5 / 6 * 6)) = 0 then (if (F_X7_has y6 ((y5 / 6) - (y5 / 6) / 6 * 6)) = 0 then (wp_X7_doMeet S0 (y5 - y5 / 6 * 6) ((y5 / 6) - (y5 / 6) / 6 * 6) x1 (fun (v23 : Int32) => (if v23 = 0 then (wl_X7_marriages_88 S0 x1 y2 kx N88 (y5 / 36) (y6 ||| (((1 : Int32) <<< ((y5 - y5 / 6 * 6) &&& 31)) ||| ((1 : Int32) <<< (((y5 / 6) - (y5 / 6) / 6 * 6) &&& 31)))) (y7 + 1) 1 (y9 + 1)) else (wl_X7_marriages_88 S0 x1 y2 kx N88 (y5 / 36) (y6 ||| (((1 : Int32) <<< ((y5 - y5 / 6 * 6) &&& 31)) ||| ((1 : Int32) <<< (((y5 / 6) - (y5 / 6) / 6 * 6) &&& 31)))) (y7 + 1) 0 (y9 + 1))))) else (wl_X7_marriages_88 S0 x1 y2 kx N88 (y5 / 36) (y6 ||| (((1 : Int32) <<< ((y5 - y5 / 6 * 6) &&& 31)) ||| ((1 : Int32) <<< (((y5 / 6) - (y5 / 6) / 6 * 6) &&& 31)))) (y7 + 1) 0 (y9 + 1))) else (wl_X7_marriages_88 S0 x1 y2 kx N88 (y5 / 36) (y6 ||| (((1 : Int32) <<< ((y5 - y5 / 6 * 6) &&& 31)) ||| ((1 : Int32) <<< (((y5 / 6) - (y5 / 6) / 6 * 6) &&& 31)))) (y7 + 1) 0 (y9 + 1))))))))) := hw
      refine lv_iload hx hb dX7_marriages_88 (lv_at hl 9 rfl) ?_
      refine lv_iconst (v := 3) hx hb dX7_marriages_90 (by decide) ?_
      refine lv_icmp_ge (tgt := 220) hx hb dX7_marriages_91 (by decide) (fun c7 => ?_) (fun c7 => ?_)
      · have hw := Eq.mp (if_pos c7) hw
        exact hxt y7 y8 _ (lv_sub hl [0, 1, 2, 3, 4, 7, 8] rfl) hw
      · have hw := Eq.mp (if_neg c7) hw
        refine lv_iload hx hb dX7_marriages_94 (lv_at hl 8 rfl) ?_
        refine lv_if_eq (tgt := 220) hx hb dX7_marriages_96 (by decide) (fun c8 => ?_) (fun c8 => ?_)
        · have hw := Eq.mp (if_pos c8) hw
          exact hxt y7 y8 _ (lv_sub hl [0, 1, 2, 3, 4, 7, 8] rfl) hw
        · have hw := Eq.mp (if_neg c8) hw
          refine lv_iload hx hb dX7_marriages_99 (lv_at hl 5 rfl) ?_
          refine lv_bipush (v := 6) hx hb dX7_marriages_101 (by decide) ?_
          refine lv_irem hx hb dX7_marriages_103 (by decide) ?_
          refine lv_istore (lv' := [(10, .int (y5 - y5 / 6 * 6)), (0, .ref (ad 0)), (1, .int x1), (2, .int y2), (3, .int y3), (4, .int y4), (5, .int y5), (6, .int y6), (7, .int y7), (8, .int y8), (9, .int y9)]) hx hb dX7_marriages_104 hl (by decide) rfl (fun ls hl => ?_)
          refine lv_iload hx hb dX7_marriages_106 (lv_at hl 6 rfl) ?_
          refine lv_bipush (v := 6) hx hb dX7_marriages_108 (by decide) ?_
          refine lv_idiv hx hb dX7_marriages_110 (by decide) ?_
          refine lv_bipush (v := 6) hx hb dX7_marriages_111 (by decide) ?_
          refine lv_irem hx hb dX7_marriages_113 (by decide) ?_
          refine lv_istore (lv' := [(11, .int ((y5 / 6) - (y5 / 6) / 6 * 6)), (10, .int (y5 - y5 / 6 * 6)), (0, .ref (ad 0)), (1, .int x1), (2, .int y2), (3, .int y3), (4, .int y4), (5, .int y5), (6, .int y6), (7, .int y7), (8, .int y8), (9, .int y9)]) hx hb dX7_marriages_114 hl (by decide) rfl (fun ls hl => ?_)
          refine lv_iload hx hb dX7_marriages_116 (lv_at hl 7 rfl) ?_
          refine lv_bipush (v := 36) hx hb dX7_marriages_118 (by decide) ?_
          refine lv_idiv hx hb dX7_marriages_120 (by decide) ?_
          refine lv_istore (lv' := [(5, .int (y5 / 36)), (11, .int ((y5 / 6) - (y5 / 6) / 6 * 6)), (10, .int (y5 - y5 / 6 * 6)), (0, .ref (ad 0)), (1, .int x1), (2, .int y2), (3, .int y3), (4, .int y4), (6, .int y6), (7, .int y7), (8, .int y8), (9, .int y9)]) hx hb dX7_marriages_121 hl (by decide) rfl (fun ls hl => ?_)
          refine lv_iload hx hb dX7_marriages_123 (lv_at hl 2 rfl) ?_
          refine lv_if_ne (tgt := 133) hx hb dX7_marriages_125 (by decide) (fun c9 => ?_) (fun c9 => ?_)
          · have hw := Eq.mp (if_neg c9) hw
            refine lv_iload hx hb dX7_marriages_133 (lv_at hl 2 rfl) ?_
            refine lv_iload hx hb dX7_marriages_135 (lv_at hl 1 rfl) ?_
            refine lv_icmp_ge (tgt := 194) hx hb dX7_marriages_137 (by decide) (fun c18 => ?_) (fun c18 => ?_)
            · have hw := Eq.mp (if_pos c18) hw
              refine lv_iconst (v := 0) hx hb dX7_marriages_194 (by decide) ?_
              refine lv_istore (lv' := [(8, .int 0), (5, .int (y5 / 36)), (11, .int ((y5 / 6) - (y5 / 6) / 6 * 6)), (10, .int (y5 - y5 / 6 * 6)), (0, .ref (ad 0)), (1, .int x1), (2, .int y2), (3, .int y3), (4, .int y4), (6, .int y6), (7, .int y7), (9, .int y9)]) hx hb dX7_marriages_195 hl (by decide) rfl (fun ls hl => ?_)
              refine lv_iload hx hb dX7_marriages_197 (lv_at hl 9 rfl) ?_
              refine lv_iconst (v := 1) hx hb dX7_marriages_199 (by decide) ?_
              refine lv_iload hx hb dX7_marriages_200 (lv_at hl 3 rfl) ?_
              refine lv_ishl hx hb dX7_marriages_202 ?_
              refine lv_iconst (v := 1) hx hb dX7_marriages_203 (by decide) ?_
              refine lv_iload hx hb dX7_marriages_204 (lv_at hl 2 rfl) ?_
              refine lv_ishl hx hb dX7_marriages_206 ?_
              refine lv_ior hx hb dX7_marriages_207 ?_
              refine lv_ior hx hb dX7_marriages_208 ?_
              refine lv_istore (lv' := [(6, .int (y6 ||| (((1 : Int32) <<< ((y5 - y5 / 6 * 6) &&& 31)) ||| ((1 : Int32) <<< (((y5 / 6) - (y5 / 6) / 6 * 6) &&& 31))))), (8, .int 0), (5, .int (y5 / 36)), (11, .int ((y5 / 6) - (y5 / 6) / 6 * 6)), (10, .int (y5 - y5 / 6 * 6)), (0, .ref (ad 0)), (1, .int x1), (2, .int y2), (3, .int y3), (4, .int y4), (7, .int y7), (9, .int y9)]) hx hb dX7_marriages_209 hl (by decide) rfl (fun ls hl => ?_)
              refine lv_iinc (v := (y7 + 1)) (lv' := [(7, .int (y7 + 1)), (6, .int (y6 ||| (((1 : Int32) <<< ((y5 - y5 / 6 * 6) &&& 31)) ||| ((1 : Int32) <<< (((y5 / 6) - (y5 / 6) / 6 * 6) &&& 31))))), (8, .int 0), (5, .int (y5 / 36)), (11, .int ((y5 / 6) - (y5 / 6) / 6 * 6)), (10, .int (y5 - y5 / 6 * 6)), (0, .ref (ad 0)), (1, .int x1), (2, .int y2), (3, .int y3), (4, .int y4), (9, .int y9)]) hx hb dX7_marriages_211 hl (k := 10) rfl rfl (by decide) rfl (fun ls hl => ?_)
              refine lv_iinc (v := (y9 + 1)) (lv' := [(9, .int (y9 + 1)), (7, .int (y7 + 1)), (6, .int (y6 ||| (((1 : Int32) <<< ((y5 - y5 / 6 * 6) &&& 31)) ||| ((1 : Int32) <<< (((y5 / 6) - (y5 / 6) / 6 * 6) &&& 31))))), (8, .int 0), (5, .int (y5 / 36)), (11, .int ((y5 / 6) - (y5 / 6) / 6 * 6)), (10, .int (y5 - y5 / 6 * 6)), (0, .ref (ad 0)), (1, .int x1), (2, .int y2), (3, .int y3), (4, .int y4)]) hx hb dX7_marriages_214 hl (k := 11) rfl rfl (by decide) rfl (fun ls hl => ?_)
              refine lv_goto (tgt := 88) hx hb dX7_marriages_217 (by decide) ?_
              exact ih (y5 / 36) (y6 ||| (((1 : Int32) <<< ((y5 - y5 / 6 * 6) &&& 31)) ||| ((1 : Int32) <<< (((y5 / 6) - (y5 / 6) / 6 * 6) &&& 31)))) (y7 + 1) 0 (y9 + 1) _ (lv_sub hl [7, 8, 9, 10, 11, 4, 2, 1, 3, 0] rfl) hw
            · have hw := Eq.mp (if_neg c18) hw
              refine lv_iload_n hx hb dX7_marriages_140 rfl (lv_at hl 5 rfl) ?_
              refine lv_iload hx hb dX7_marriages_141 (lv_at hl 2 rfl) ?_
              refine callF (va_runS (As := [.int y2, .int (y5 - y5 / 6 * 6)]) (rest := []) ⟨hx, hb, hml, hown, hW⟩ (c_X7_has l D cI cZ y2 (y5 - y5 / 6 * 6) _ rfl) (cwS0 hW mS_X7_has ml_X7_169 ⟨Nat.le_of_ble_eq_true rfl, Nat.le_of_ble_eq_true rfl⟩) (preS0 hK hN hP hD [] rfl rfl) rfl rfl hl.1 rfl (lv_room (Nat.le_of_ble_eq_true rfl)) dX7_marriages_143 ⟨Nat.le_refl _, Nat.le_refl _⟩) ?_
              refine W.eq (g2 := F0 m 146 ls [.int (F_X7_has y2 (y5 - y5 / 6 * 6))]) rfl ?_
              refine lv_if_eq (tgt := 194) hx hb dX7_marriages_146 (by decide) (fun c19 => ?_) (fun c19 => ?_)
              · have hw := Eq.mp (if_pos c19) hw
                refine lv_iconst (v := 0) hx hb dX7_marriages_194 (by decide) ?_
                refine lv_istore (lv' := [(8, .int 0), (5, .int (y5 / 36)), (11, .int ((y5 / 6) - (y5 / 6) / 6 * 6)), (10, .int (y5 - y5 / 6 * 6)), (0, .ref (ad 0)), (1, .int x1), (2, .int y2), (3, .int y3), (4, .int y4), (6, .int y6), (7, .int y7), (9, .int y9)]) hx hb dX7_marriages_195 hl (by decide) rfl (fun ls hl => ?_)
                refine lv_iload hx hb dX7_marriages_197 (lv_at hl 9 rfl) ?_
                refine lv_iconst (v := 1) hx hb dX7_marriages_199 (by decide) ?_
                refine lv_iload hx hb dX7_marriages_200 (lv_at hl 3 rfl) ?_
                refine lv_ishl hx hb dX7_marriages_202 ?_
                refine lv_iconst (v := 1) hx hb dX7_marriages_203 (by decide) ?_
                refine lv_iload hx hb dX7_marriages_204 (lv_at hl 2 rfl) ?_
                refine lv_ishl hx hb dX7_marriages_206 ?_
                refine lv_ior hx hb dX7_marriages_207 ?_
                refine lv_ior hx hb dX7_marriages_208 ?_
                refine lv_istore (lv' := [(6, .int (y6 ||| (((1 : Int32) <<< ((y5 - y5 / 6 * 6) &&& 31)) ||| ((1 : Int32) <<< (((y5 / 6) - (y5 / 6) / 6 * 6) &&& 31))))), (8, .int 0), (5, .int (y5 / 36)), (11, .int ((y5 / 6) - (y5 / 6) / 6 * 6)), (10, .int (y5 - y5 / 6 * 6)), (0, .ref (ad 0)), (1, .int x1), (2, .int y2), (3, .int y3), (4, .int y4), (7, .int y7), (9, .int y9)]) hx hb dX7_marriages_209 hl (by decide) rfl (fun ls hl => ?_)
                refine lv_iinc (v := (y7 + 1)) (lv' := [(7, .int (y7 + 1)), (6, .int (y6 ||| (((1 : Int32) <<< ((y5 - y5 / 6 * 6) &&& 31)) ||| ((1 : Int32) <<< (((y5 / 6) - (y5 / 6) / 6 * 6) &&& 31))))), (8, .int 0), (5, .int (y5 / 36)), (11, .int ((y5 / 6) - (y5 / 6) / 6 * 6)), (10, .int (y5 - y5 / 6 * 6)), (0, .ref (ad 0)), (1, .int x1), (2, .int y2), (3, .int y3), (4, .int y4), (9, .int y9)]) hx hb dX7_marriages_211 hl (k := 10) rfl rfl (by decide) rfl (fun ls hl => ?_)
                refine lv_iinc (v := (y9 + 1)) (lv' := [(9, .int (y9 + 1)), (7, .int (y7 + 1)), (6, .int (y6 ||| (((1 : Int32) <<< ((y5 - y5 / 6 * 6) &&& 31)) ||| ((1 : Int32) <<< (((y5 / 6) - (y5 / 6) / 6 * 6) &&& 31))))), (8, .int 0), (5, .int (y5 / 36)), (11, .int ((y5 / 6) - (y5 / 6) / 6 * 6)), (10, .int (y5 - y5 / 6 * 6)), (0, .ref (ad 0)), (1, .int x1), (2, .int y2), (3, .int y3), (4, .int y4)]) hx hb dX7_marriages_214 hl (k := 11) rfl rfl (by decide) rfl (fun ls hl => ?_)
                refine lv_goto (tgt := 88) hx hb dX7_marriages_217 (by decide) ?_
                exact ih (y5 / 36) (y6 ||| (((1 : Int32) <<< ((y5 - y5 / 6 * 6) &&& 31)) ||| ((1 : Int32) <<< (((y5 / 6) - (y5 / 6) / 6 * 6) &&& 31)))) (y7 + 1) 0 (y9 + 1) _ (lv_sub hl [7, 8, 9, 10, 11, 4, 2, 1, 3, 0] rfl) hw
              · have hw := Eq.mp (if_neg c19) hw
                refine lv_iload_n hx hb dX7_marriages_149 rfl (lv_at hl 5 rfl) ?_
                refine lv_iload hx hb dX7_marriages_150 (lv_at hl 1 rfl) ?_
                refine callF (va_runS (As := [.int y2, .int ((y5 / 6) - (y5 / 6) / 6 * 6)]) (rest := []) ⟨hx, hb, hml, hown, hW⟩ (c_X7_has l D cI cZ y2 ((y5 / 6) - (y5 / 6) / 6 * 6) _ rfl) (cwS0 hW mS_X7_has ml_X7_169 ⟨Nat.le_of_ble_eq_true rfl, Nat.le_of_ble_eq_true rfl⟩) (preS0 hK hN hP hD [] rfl rfl) rfl rfl hl.1 rfl (lv_room (Nat.le_of_ble_eq_true rfl)) dX7_marriages_152 ⟨Nat.le_refl _, Nat.le_refl _⟩) ?_
                refine W.eq (g2 := F0 m 155 ls [.int (F_X7_has y2 ((y5 / 6) - (y5 / 6) / 6 * 6))]) rfl ?_
                refine lv_if_eq (tgt := 194) hx hb dX7_marriages_155 (by decide) (fun c20 => ?_) (fun c20 => ?_)
                · have hw := Eq.mp (if_pos c20) hw
                  refine lv_iconst (v := 0) hx hb dX7_marriages_194 (by decide) ?_
                  refine lv_istore (lv' := [(8, .int 0), (5, .int (y5 / 36)), (11, .int ((y5 / 6) - (y5 / 6) / 6 * 6)), (10, .int (y5 - y5 / 6 * 6)), (0, .ref (ad 0)), (1, .int x1), (2, .int y2), (3, .int y3), (4, .int y4), (6, .int y6), (7, .int y7), (9, .int y9)]) hx hb dX7_marriages_195 hl (by decide) rfl (fun ls hl => ?_)
                  refine lv_iload hx hb dX7_marriages_197 (lv_at hl 9 rfl) ?_
                  refine lv_iconst (v := 1) hx hb dX7_marriages_199 (by decide) ?_
                  refine lv_iload hx hb dX7_marriages_200 (lv_at hl 3 rfl) ?_
                  refine lv_ishl hx hb dX7_marriages_202 ?_
                  refine lv_iconst (v := 1) hx hb dX7_marriages_203 (by decide) ?_
                  refine lv_iload hx hb dX7_marriages_204 (lv_at hl 2 rfl) ?_
                  refine lv_ishl hx hb dX7_marriages_206 ?_
                  refine lv_ior hx hb dX7_marriages_207 ?_
                  refine lv_ior hx hb dX7_marriages_208 ?_
                  refine lv_istore (lv' := [(6, .int (y6 ||| (((1 : Int32) <<< ((y5 - y5 / 6 * 6) &&& 31)) ||| ((1 : Int32) <<< (((y5 / 6) - (y5 / 6) / 6 * 6) &&& 31))))), (8, .int 0), (5, .int (y5 / 36)), (11, .int ((y5 / 6) - (y5 / 6) / 6 * 6)), (10, .int (y5 - y5 / 6 * 6)), (0, .ref (ad 0)), (1, .int x1), (2, .int y2), (3, .int y3), (4, .int y4), (7, .int y7), (9, .int y9)]) hx hb dX7_marriages_209 hl (by decide) rfl (fun ls hl => ?_)
                  refine lv_iinc (v := (y7 + 1)) (lv' := [(7, .int (y7 + 1)), (6, .int (y6 ||| (((1 : Int32) <<< ((y5 - y5 / 6 * 6) &&& 31)) ||| ((1 : Int32) <<< (((y5 / 6) - (y5 / 6) / 6 * 6) &&& 31))))), (8, .int 0), (5, .int (y5 / 36)), (11, .int ((y5 / 6) - (y5 / 6) / 6 * 6)), (10, .int (y5 - y5 / 6 * 6)), (0, .ref (ad 0)), (1, .int x1), (2, .int y2), (3, .int y3), (4, .int y4), (9, .int y9)]) hx hb dX7_marriages_211 hl (k := 10) rfl rfl (by decide) rfl (fun ls hl => ?_)
                  refine lv_iinc (v := (y9 + 1)) (lv' := [(9, .int (y9 + 1)), (7, .int (y7 + 1)), (6, .int (y6 ||| (((1 : Int32) <<< ((y5 - y5 / 6 * 6) &&& 31)) ||| ((1 : Int32) <<< (((y5 / 6) - (y5 / 6) / 6 * 6) &&& 31))))), (8, .int 0), (5, .int (y5 / 36)), (11, .int ((y5 / 6) - (y5 / 6) / 6 * 6)), (10, .int (y5 - y5 / 6 * 6)), (0, .ref (ad 0)), (1, .int x1), (2, .int y2), (3, .int y3), (4, .int y4)]) hx hb dX7_marriages_214 hl (k := 11) rfl rfl (by decide) rfl (fun ls hl => ?_)
                  refine lv_goto (tgt := 88) hx hb dX7_marriages_217 (by decide) ?_
                  exact ih (y5 / 36) (y6 ||| (((1 : Int32) <<< ((y5 - y5 / 6 * 6) &&& 31)) ||| ((1 : Int32) <<< (((y5 / 6) - (y5 / 6) / 6 * 6) &&& 31)))) (y7 + 1) 0 (y9 + 1) _ (lv_sub hl [7, 8, 9, 10, 11, 4, 2, 1, 3, 0] rfl) hw
                · have hw := Eq.mp (if_neg c20) hw
                  refine lv_iload hx hb dX7_marriages_158 (lv_at hl 8 rfl) ?_
                  refine lv_iload hx hb dX7_marriages_160 (lv_at hl 2 rfl) ?_
                  refine callF (va_runS (As := [.int y6, .int (y5 - y5 / 6 * 6)]) (rest := []) ⟨hx, hb, hml, hown, hW⟩ (c_X7_has l D cI cZ y6 (y5 - y5 / 6 * 6) _ rfl) (cwS0 hW mS_X7_has ml_X7_169 ⟨Nat.le_of_ble_eq_true rfl, Nat.le_of_ble_eq_true rfl⟩) (preS0 hK hN hP hD [] rfl rfl) rfl rfl hl.1 rfl (lv_room (Nat.le_of_ble_eq_true rfl)) dX7_marriages_162 ⟨Nat.le_refl _, Nat.le_refl _⟩) ?_
                  refine W.eq (g2 := F0 m 165 ls [.int (F_X7_has y6 (y5 - y5 / 6 * 6))]) rfl ?_
                  refine lv_if_ne (tgt := 194) hx hb dX7_marriages_165 (by decide) (fun c21 => ?_) (fun c21 => ?_)
                  · have hw := Eq.mp (if_neg c21) hw
                    refine lv_iconst (v := 0) hx hb dX7_marriages_194 (by decide) ?_
                    refine lv_istore (lv' := [(8, .int 0), (5, .int (y5 / 36)), (11, .int ((y5 / 6) - (y5 / 6) / 6 * 6)), (10, .int (y5 - y5 / 6 * 6)), (0, .ref (ad 0)), (1, .int x1), (2, .int y2), (3, .int y3), (4, .int y4), (6, .int y6), (7, .int y7), (9, .int y9)]) hx hb dX7_marriages_195 hl (by decide) rfl (fun ls hl => ?_)
                    refine lv_iload hx hb dX7_marriages_197 (lv_at hl 9 rfl) ?_
                    refine lv_iconst (v := 1) hx hb dX7_marriages_199 (by decide) ?_
                    refine lv_iload hx hb dX7_marriages_200 (lv_at hl 3 rfl) ?_
                    refine lv_ishl hx hb dX7_marriages_202 ?_
                    refine lv_iconst (v := 1) hx hb dX7_marriages_203 (by decide) ?_
                    refine lv_iload hx hb dX7_marriages_204 (lv_at hl 2 rfl) ?_
                    refine lv_ishl hx hb dX7_marriages_206 ?_
                    refine lv_ior hx hb dX7_marriages_207 ?_
                    refine lv_ior hx hb dX7_marriages_208 ?_
                    refine lv_istore (lv' := [(6, .int (y6 ||| (((1 : Int32) <<< ((y5 - y5 / 6 * 6) &&& 31)) ||| ((1 : Int32) <<< (((y5 / 6) - (y5 / 6) / 6 * 6) &&& 31))))), (8, .int 0), (5, .int (y5 / 36)), (11, .int ((y5 / 6) - (y5 / 6) / 6 * 6)), (10, .int (y5 - y5 / 6 * 6)), (0, .ref (ad 0)), (1, .int x1), (2, .int y2), (3, .int y3), (4, .int y4), (7, .int y7), (9, .int y9)]) hx hb dX7_marriages_209 hl (by decide) rfl (fun ls hl => ?_)
                    refine lv_iinc (v := (y7 + 1)) (lv' := [(7, .int (y7 + 1)), (6, .int (y6 ||| (((1 : Int32) <<< ((y5 - y5 / 6 * 6) &&& 31)) ||| ((1 : Int32) <<< (((y5 / 6) - (y5 / 6) / 6 * 6) &&& 31))))), (8, .int 0), (5, .int (y5 / 36)), (11, .int ((y5 / 6) - (y5 / 6) / 6 * 6)), (10, .int (y5 - y5 / 6 * 6)), (0, .ref (ad 0)), (1, .int x1), (2, .int y2), (3, .int y3), (4, .int y4), (9, .int y9)]) hx hb dX7_marriages_211 hl (k := 10) rfl rfl (by decide) rfl (fun ls hl => ?_)
                    refine lv_iinc (v := (y9 + 1)) (lv' := [(9, .int (y9 + 1)), (7, .int (y7 + 1)), (6, .int (y6 ||| (((1 : Int32) <<< ((y5 - y5 / 6 * 6) &&& 31)) ||| ((1 : Int32) <<< (((y5 / 6) - (y5 / 6) / 6 * 6) &&& 31))))), (8, .int 0), (5, .int (y5 / 36)), (11, .int ((y5 / 6) - (y5 / 6) / 6 * 6)), (10, .int (y5 - y5 / 6 * 6)), (0, .ref (ad 0)), (1, .int x1), (2, .int y2), (3, .int y3), (4, .int y4)]) hx hb dX7_marriages_214 hl (k := 11) rfl rfl (by decide) rfl (fun ls hl => ?_)
                    refine lv_goto (tgt := 88) hx hb dX7_marriages_217 (by decide) ?_
                    exact ih (y5 / 36) (y6 ||| (((1 : Int32) <<< ((y5 - y5 / 6 * 6) &&& 31)) ||| ((1 : Int32) <<< (((y5 / 6) - (y5 / 6) / 6 * 6) &&& 31)))) (y7 + 1) 0 (y9 + 1) _ (lv_sub hl [7, 8, 9, 10, 11, 4, 2, 1, 3, 0] rfl) hw
                  · have hw := Eq.mp (if_pos c21) hw
                    refine lv_iload hx hb dX7_marriages_168 (lv_at hl 8 rfl) ?_
                    refine lv_iload hx hb dX7_marriages_170 (lv_at hl 1 rfl) ?_
                    refine callF (va_runS (As := [.int y6, .int ((y5 / 6) - (y5 / 6) / 6 * 6)]) (rest := []) ⟨hx, hb, hml, hown, hW⟩ (c_X7_has l D cI cZ y6 ((y5 / 6) - (y5 / 6) / 6 * 6) _ rfl) (cwS0 hW mS_X7_has ml_X7_169 ⟨Nat.le_of_ble_eq_true rfl, Nat.le_of_ble_eq_true rfl⟩) (preS0 hK hN hP hD [] rfl rfl) rfl rfl hl.1 rfl (lv_room (Nat.le_of_ble_eq_true rfl)) dX7_marriages_172 ⟨Nat.le_refl _, Nat.le_refl _⟩) ?_
                    refine W.eq (g2 := F0 m 175 ls [.int (F_X7_has y6 ((y5 / 6) - (y5 / 6) / 6 * 6))]) rfl ?_
                    refine lv_if_ne (tgt := 194) hx hb dX7_marriages_175 (by decide) (fun c22 => ?_) (fun c22 => ?_)
                    · have hw := Eq.mp (if_neg c22) hw
                      refine lv_iconst (v := 0) hx hb dX7_marriages_194 (by decide) ?_
                      refine lv_istore (lv' := [(8, .int 0), (5, .int (y5 / 36)), (11, .int ((y5 / 6) - (y5 / 6) / 6 * 6)), (10, .int (y5 - y5 / 6 * 6)), (0, .ref (ad 0)), (1, .int x1), (2, .int y2), (3, .int y3), (4, .int y4), (6, .int y6), (7, .int y7), (9, .int y9)]) hx hb dX7_marriages_195 hl (by decide) rfl (fun ls hl => ?_)
                      refine lv_iload hx hb dX7_marriages_197 (lv_at hl 9 rfl) ?_
                      refine lv_iconst (v := 1) hx hb dX7_marriages_199 (by decide) ?_
                      refine lv_iload hx hb dX7_marriages_200 (lv_at hl 3 rfl) ?_
                      refine lv_ishl hx hb dX7_marriages_202 ?_
                      refine lv_iconst (v := 1) hx hb dX7_marriages_203 (by decide) ?_
                      refine lv_iload hx hb dX7_marriages_204 (lv_at hl 2 rfl) ?_
                      refine lv_ishl hx hb dX7_marriages_206 ?_
                      refine lv_ior hx hb dX7_marriages_207 ?_
                      refine lv_ior hx hb dX7_marriages_208 ?_
                      refine lv_istore (lv' := [(6, .int (y6 ||| (((1 : Int32) <<< ((y5 - y5 / 6 * 6) &&& 31)) ||| ((1 : Int32) <<< (((y5 / 6) - (y5 / 6) / 6 * 6) &&& 31))))), (8, .int 0), (5, .int (y5 / 36)), (11, .int ((y5 / 6) - (y5 / 6) / 6 * 6)), (10, .int (y5 - y5 / 6 * 6)), (0, .ref (ad 0)), (1, .int x1), (2, .int y2), (3, .int y3), (4, .int y4), (7, .int y7), (9, .int y9)]) hx hb dX7_marriages_209 hl (by decide) rfl (fun ls hl => ?_)
                      refine lv_iinc (v := (y7 + 1)) (lv' := [(7, .int (y7 + 1)), (6, .int (y6 ||| (((1 : Int32) <<< ((y5 - y5 / 6 * 6) &&& 31)) ||| ((1 : Int32) <<< (((y5 / 6) - (y5 / 6) / 6 * 6) &&& 31))))), (8, .int 0), (5, .int (y5 / 36)), (11, .int ((y5 / 6) - (y5 / 6) / 6 * 6)), (10, .int (y5 - y5 / 6 * 6)), (0, .ref (ad 0)), (1, .int x1), (2, .int y2), (3, .int y3), (4, .int y4), (9, .int y9)]) hx hb dX7_marriages_211 hl (k := 10) rfl rfl (by decide) rfl (fun ls hl => ?_)
                      refine lv_iinc (v := (y9 + 1)) (lv' := [(9, .int (y9 + 1)), (7, .int (y7 + 1)), (6, .int (y6 ||| (((1 : Int32) <<< ((y5 - y5 / 6 * 6) &&& 31)) ||| ((1 : Int32) <<< (((y5 / 6) - (y5 / 6) / 6 * 6) &&& 31))))), (8, .int 0), (5, .int (y5 / 36)), (11, .int ((y5 / 6) - (y5 / 6) / 6 * 6)), (10, .int (y5 - y5 / 6 * 6)), (0, .ref (ad 0)), (1, .int x1), (2, .int y2), (3, .int y3), (4, .int y4)]) hx hb dX7_marriages_214 hl (k := 11) rfl rfl (by decide) rfl (fun ls hl => ?_)
                      refine lv_goto (tgt := 88) hx hb dX7_marriages_217 (by decide) ?_
                      exact ih (y5 / 36) (y6 ||| (((1 : Int32) <<< ((y5 - y5 / 6 * 6) &&& 31)) ||| ((1 : Int32) <<< (((y5 / 6) - (y5 / 6) / 6 * 6) &&& 31)))) (y7 + 1) 0 (y9 + 1) _ (lv_sub hl [7, 8, 9, 10, 11, 4, 2, 1, 3, 0] rfl) hw
                    · have hw := Eq.mp (if_pos c22) hw
                      refine lv_aload_n hx hb dX7_marriages_178 rfl (lv_at hl 3 rfl) ?_
                      refine lv_iload hx hb dX7_marriages_179 (lv_at hl 2 rfl) ?_
                      refine lv_iload hx hb dX7_marriages_181 (lv_at hl 1 rfl) ?_
                      refine lv_iload_n hx hb dX7_marriages_183 rfl (lv_at hl 4 rfl) ?_
                      refine callR (va_runV (As := [.int (y5 - y5 / 6 * 6), .int ((y5 / 6) - (y5 / 6) / 6 * 6), .int x1]) (rest := []) ⟨hx, hb, hml, hown, hW⟩ (c_X7_doMeet l D cI cZ ad  S0 (y5 - y5 / 6 * 6) ((y5 / 6) - (y5 / 6) / 6 * 6) x1 _ hw) (cwV0 hW mV_X7_doMeet ml_X7_186 ⟨Nat.le_of_ble_eq_true rfl, Nat.le_of_ble_eq_true rfl⟩) (preV0 0 rfl rfl hK hN hP hD [0] rfl rfl) rfl rfl hl.1 rfl (lv_room (Nat.le_of_ble_eq_true rfl)) dX7_marriages_184 ⟨Nat.le_refl _, Nat.le_refl _⟩) (fun v9 hq => ?_)
                      obtain ⟨v23, rfl, hw⟩ := hq
                      refine W.eq (g2 := F0 m 187 ls [.int v23]) rfl ?_
                      refine lv_if_ne (tgt := 194) hx hb dX7_marriages_187 (by decide) (fun c24 => ?_) (fun c24 => ?_)
                      · have hw := Eq.mp (if_neg c24) hw
                        refine lv_iconst (v := 0) hx hb dX7_marriages_194 (by decide) ?_
                        refine lv_istore (lv' := [(8, .int 0), (5, .int (y5 / 36)), (11, .int ((y5 / 6) - (y5 / 6) / 6 * 6)), (10, .int (y5 - y5 / 6 * 6)), (0, .ref (ad 0)), (1, .int x1), (2, .int y2), (3, .int y3), (4, .int y4), (6, .int y6), (7, .int y7), (9, .int y9)]) hx hb dX7_marriages_195 hl (by decide) rfl (fun ls hl => ?_)
                        refine lv_iload hx hb dX7_marriages_197 (lv_at hl 9 rfl) ?_
                        refine lv_iconst (v := 1) hx hb dX7_marriages_199 (by decide) ?_
                        refine lv_iload hx hb dX7_marriages_200 (lv_at hl 3 rfl) ?_
                        refine lv_ishl hx hb dX7_marriages_202 ?_
                        refine lv_iconst (v := 1) hx hb dX7_marriages_203 (by decide) ?_
                        refine lv_iload hx hb dX7_marriages_204 (lv_at hl 2 rfl) ?_
                        refine lv_ishl hx hb dX7_marriages_206 ?_
                        refine lv_ior hx hb dX7_marriages_207 ?_
                        refine lv_ior hx hb dX7_marriages_208 ?_
                        refine lv_istore (lv' := [(6, .int (y6 ||| (((1 : Int32) <<< ((y5 - y5 / 6 * 6) &&& 31)) ||| ((1 : Int32) <<< (((y5 / 6) - (y5 / 6) / 6 * 6) &&& 31))))), (8, .int 0), (5, .int (y5 / 36)), (11, .int ((y5 / 6) - (y5 / 6) / 6 * 6)), (10, .int (y5 - y5 / 6 * 6)), (0, .ref (ad 0)), (1, .int x1), (2, .int y2), (3, .int y3), (4, .int y4), (7, .int y7), (9, .int y9)]) hx hb dX7_marriages_209 hl (by decide) rfl (fun ls hl => ?_)
                        refine lv_iinc (v := (y7 + 1)) (lv' := [(7, .int (y7 + 1)), (6, .int (y6 ||| (((1 : Int32) <<< ((y5 - y5 / 6 * 6) &&& 31)) ||| ((1 : Int32) <<< (((y5 / 6) - (y5 / 6) / 6 * 6) &&& 31))))), (8, .int 0), (5, .int (y5 / 36)), (11, .int ((y5 / 6) - (y5 / 6) / 6 * 6)), (10, .int (y5 - y5 / 6 * 6)), (0, .ref (ad 0)), (1, .int x1), (2, .int y2), (3, .int y3), (4, .int y4), (9, .int y9)]) hx hb dX7_marriages_211 hl (k := 10) rfl rfl (by decide) rfl (fun ls hl => ?_)
                        refine lv_iinc (v := (y9 + 1)) (lv' := [(9, .int (y9 + 1)), (7, .int (y7 + 1)), (6, .int (y6 ||| (((1 : Int32) <<< ((y5 - y5 / 6 * 6) &&& 31)) ||| ((1 : Int32) <<< (((y5 / 6) - (y5 / 6) / 6 * 6) &&& 31))))), (8, .int 0), (5, .int (y5 / 36)), (11, .int ((y5 / 6) - (y5 / 6) / 6 * 6)), (10, .int (y5 - y5 / 6 * 6)), (0, .ref (ad 0)), (1, .int x1), (2, .int y2), (3, .int y3), (4, .int y4)]) hx hb dX7_marriages_214 hl (k := 11) rfl rfl (by decide) rfl (fun ls hl => ?_)
                        refine lv_goto (tgt := 88) hx hb dX7_marriages_217 (by decide) ?_
                        exact ih (y5 / 36) (y6 ||| (((1 : Int32) <<< ((y5 - y5 / 6 * 6) &&& 31)) ||| ((1 : Int32) <<< (((y5 / 6) - (y5 / 6) / 6 * 6) &&& 31)))) (y7 + 1) 0 (y9 + 1) _ (lv_sub hl [7, 8, 9, 10, 11, 4, 2, 1, 3, 0] rfl) hw
                      · have hw := Eq.mp (if_pos c24) hw
                        refine lv_iconst (v := 1) hx hb dX7_marriages_190 (by decide) ?_
                        refine lv_goto (tgt := 195) hx hb dX7_marriages_191 (by decide) ?_
                        refine lv_istore (lv' := [(8, .int 1), (5, .int (y5 / 36)), (11, .int ((y5 / 6) - (y5 / 6) / 6 * 6)), (10, .int (y5 - y5 / 6 * 6)), (0, .ref (ad 0)), (1, .int x1), (2, .int y2), (3, .int y3), (4, .int y4), (6, .int y6), (7, .int y7), (9, .int y9)]) hx hb dX7_marriages_195 hl (by decide) rfl (fun ls hl => ?_)
                        refine lv_iload hx hb dX7_marriages_197 (lv_at hl 9 rfl) ?_
                        refine lv_iconst (v := 1) hx hb dX7_marriages_199 (by decide) ?_
                        refine lv_iload hx hb dX7_marriages_200 (lv_at hl 3 rfl) ?_
                        refine lv_ishl hx hb dX7_marriages_202 ?_
                        refine lv_iconst (v := 1) hx hb dX7_marriages_203 (by decide) ?_
                        refine lv_iload hx hb dX7_marriages_204 (lv_at hl 2 rfl) ?_
                        refine lv_ishl hx hb dX7_marriages_206 ?_
                        refine lv_ior hx hb dX7_marriages_207 ?_
                        refine lv_ior hx hb dX7_marriages_208 ?_
                        refine lv_istore (lv' := [(6, .int (y6 ||| (((1 : Int32) <<< ((y5 - y5 / 6 * 6) &&& 31)) ||| ((1 : Int32) <<< (((y5 / 6) - (y5 / 6) / 6 * 6) &&& 31))))), (8, .int 1), (5, .int (y5 / 36)), (11, .int ((y5 / 6) - (y5 / 6) / 6 * 6)), (10, .int (y5 - y5 / 6 * 6)), (0, .ref (ad 0)), (1, .int x1), (2, .int y2), (3, .int y3), (4, .int y4), (7, .int y7), (9, .int y9)]) hx hb dX7_marriages_209 hl (by decide) rfl (fun ls hl => ?_)
                        refine lv_iinc (v := (y7 + 1)) (lv' := [(7, .int (y7 + 1)), (6, .int (y6 ||| (((1 : Int32) <<< ((y5 - y5 / 6 * 6) &&& 31)) ||| ((1 : Int32) <<< (((y5 / 6) - (y5 / 6) / 6 * 6) &&& 31))))), (8, .int 1), (5, .int (y5 / 36)), (11, .int ((y5 / 6) - (y5 / 6) / 6 * 6)), (10, .int (y5 - y5 / 6 * 6)), (0, .ref (ad 0)), (1, .int x1), (2, .int y2), (3, .int y3), (4, .int y4), (9, .int y9)]) hx hb dX7_marriages_211 hl (k := 10) rfl rfl (by decide) rfl (fun ls hl => ?_)
                        refine lv_iinc (v := (y9 + 1)) (lv' := [(9, .int (y9 + 1)), (7, .int (y7 + 1)), (6, .int (y6 ||| (((1 : Int32) <<< ((y5 - y5 / 6 * 6) &&& 31)) ||| ((1 : Int32) <<< (((y5 / 6) - (y5 / 6) / 6 * 6) &&& 31))))), (8, .int 1), (5, .int (y5 / 36)), (11, .int ((y5 / 6) - (y5 / 6) / 6 * 6)), (10, .int (y5 - y5 / 6 * 6)), (0, .ref (ad 0)), (1, .int x1), (2, .int y2), (3, .int y3), (4, .int y4)]) hx hb dX7_marriages_214 hl (k := 11) rfl rfl (by decide) rfl (fun ls hl => ?_)
                        refine lv_goto (tgt := 88) hx hb dX7_marriages_217 (by decide) ?_
                        exact ih (y5 / 36) (y6 ||| (((1 : Int32) <<< ((y5 - y5 / 6 * 6) &&& 31)) ||| ((1 : Int32) <<< (((y5 / 6) - (y5 / 6) / 6 * 6) &&& 31)))) (y7 + 1) 1 (y9 + 1) _ (lv_sub hl [7, 8, 9, 10, 11, 4, 2, 1, 3, 0] rfl) hw
          · have hw := Eq.mp (if_pos c9) hw
            refine lv_iload hx hb dX7_marriages_128 (lv_at hl 1 rfl) ?_
            refine lv_if_eq (tgt := 214) hx hb dX7_marriages_130 (by decide) (fun c10 => ?_) (fun c10 => ?_)
            · have hw := Eq.mp (if_pos c10) hw
              refine lv_iinc (v := (y9 + 1)) (lv' := [(9, .int (y9 + 1)), (5, .int (y5 / 36)), (11, .int ((y5 / 6) - (y5 / 6) / 6 * 6)), (10, .int (y5 - y5 / 6 * 6)), (0, .ref (ad 0)), (1, .int x1), (2, .int y2), (3, .int y3), (4, .int y4), (6, .int y6), (7, .int y7), (8, .int y8)]) hx hb dX7_marriages_214 hl (k := 11) rfl rfl (by decide) rfl (fun ls hl => ?_)
              refine lv_goto (tgt := 88) hx hb dX7_marriages_217 (by decide) ?_
              exact ih (y5 / 36) y6 y7 y8 (y9 + 1) _ (lv_sub hl [4, 5, 6, 7, 8, 1, 9, 10, 11, 0] rfl) hw
            · have hw := Eq.mp (if_neg c10) hw
              refine lv_iload hx hb dX7_marriages_133 (lv_at hl 2 rfl) ?_
              refine lv_iload hx hb dX7_marriages_135 (lv_at hl 1 rfl) ?_
              refine lv_icmp_ge (tgt := 194) hx hb dX7_marriages_137 (by decide) (fun c11 => ?_) (fun c11 => ?_)
              · have hw := Eq.mp (if_pos c11) hw
                refine lv_iconst (v := 0) hx hb dX7_marriages_194 (by decide) ?_
                refine lv_istore (lv' := [(8, .int 0), (5, .int (y5 / 36)), (11, .int ((y5 / 6) - (y5 / 6) / 6 * 6)), (10, .int (y5 - y5 / 6 * 6)), (0, .ref (ad 0)), (1, .int x1), (2, .int y2), (3, .int y3), (4, .int y4), (6, .int y6), (7, .int y7), (9, .int y9)]) hx hb dX7_marriages_195 hl (by decide) rfl (fun ls hl => ?_)
                refine lv_iload hx hb dX7_marriages_197 (lv_at hl 9 rfl) ?_
                refine lv_iconst (v := 1) hx hb dX7_marriages_199 (by decide) ?_
                refine lv_iload hx hb dX7_marriages_200 (lv_at hl 3 rfl) ?_
                refine lv_ishl hx hb dX7_marriages_202 ?_
                refine lv_iconst (v := 1) hx hb dX7_marriages_203 (by decide) ?_
                refine lv_iload hx hb dX7_marriages_204 (lv_at hl 2 rfl) ?_
                refine lv_ishl hx hb dX7_marriages_206 ?_
                refine lv_ior hx hb dX7_marriages_207 ?_
                refine lv_ior hx hb dX7_marriages_208 ?_
                refine lv_istore (lv' := [(6, .int (y6 ||| (((1 : Int32) <<< ((y5 - y5 / 6 * 6) &&& 31)) ||| ((1 : Int32) <<< (((y5 / 6) - (y5 / 6) / 6 * 6) &&& 31))))), (8, .int 0), (5, .int (y5 / 36)), (11, .int ((y5 / 6) - (y5 / 6) / 6 * 6)), (10, .int (y5 - y5 / 6 * 6)), (0, .ref (ad 0)), (1, .int x1), (2, .int y2), (3, .int y3), (4, .int y4), (7, .int y7), (9, .int y9)]) hx hb dX7_marriages_209 hl (by decide) rfl (fun ls hl => ?_)
                refine lv_iinc (v := (y7 + 1)) (lv' := [(7, .int (y7 + 1)), (6, .int (y6 ||| (((1 : Int32) <<< ((y5 - y5 / 6 * 6) &&& 31)) ||| ((1 : Int32) <<< (((y5 / 6) - (y5 / 6) / 6 * 6) &&& 31))))), (8, .int 0), (5, .int (y5 / 36)), (11, .int ((y5 / 6) - (y5 / 6) / 6 * 6)), (10, .int (y5 - y5 / 6 * 6)), (0, .ref (ad 0)), (1, .int x1), (2, .int y2), (3, .int y3), (4, .int y4), (9, .int y9)]) hx hb dX7_marriages_211 hl (k := 10) rfl rfl (by decide) rfl (fun ls hl => ?_)
                refine lv_iinc (v := (y9 + 1)) (lv' := [(9, .int (y9 + 1)), (7, .int (y7 + 1)), (6, .int (y6 ||| (((1 : Int32) <<< ((y5 - y5 / 6 * 6) &&& 31)) ||| ((1 : Int32) <<< (((y5 / 6) - (y5 / 6) / 6 * 6) &&& 31))))), (8, .int 0), (5, .int (y5 / 36)), (11, .int ((y5 / 6) - (y5 / 6) / 6 * 6)), (10, .int (y5 - y5 / 6 * 6)), (0, .ref (ad 0)), (1, .int x1), (2, .int y2), (3, .int y3), (4, .int y4)]) hx hb dX7_marriages_214 hl (k := 11) rfl rfl (by decide) rfl (fun ls hl => ?_)
                refine lv_goto (tgt := 88) hx hb dX7_marriages_217 (by decide) ?_
                exact ih (y5 / 36) (y6 ||| (((1 : Int32) <<< ((y5 - y5 / 6 * 6) &&& 31)) ||| ((1 : Int32) <<< (((y5 / 6) - (y5 / 6) / 6 * 6) &&& 31)))) (y7 + 1) 0 (y9 + 1) _ (lv_sub hl [7, 8, 9, 10, 11, 4, 2, 1, 3, 0] rfl) hw
              · have hw := Eq.mp (if_neg c11) hw
                refine lv_iload_n hx hb dX7_marriages_140 rfl (lv_at hl 5 rfl) ?_
                refine lv_iload hx hb dX7_marriages_141 (lv_at hl 2 rfl) ?_
                refine callF (va_runS (As := [.int y2, .int (y5 - y5 / 6 * 6)]) (rest := []) ⟨hx, hb, hml, hown, hW⟩ (c_X7_has l D cI cZ y2 (y5 - y5 / 6 * 6) _ rfl) (cwS0 hW mS_X7_has ml_X7_169 ⟨Nat.le_of_ble_eq_true rfl, Nat.le_of_ble_eq_true rfl⟩) (preS0 hK hN hP hD [] rfl rfl) rfl rfl hl.1 rfl (lv_room (Nat.le_of_ble_eq_true rfl)) dX7_marriages_143 ⟨Nat.le_refl _, Nat.le_refl _⟩) ?_
                refine W.eq (g2 := F0 m 146 ls [.int (F_X7_has y2 (y5 - y5 / 6 * 6))]) rfl ?_
                refine lv_if_eq (tgt := 194) hx hb dX7_marriages_146 (by decide) (fun c12 => ?_) (fun c12 => ?_)
                · have hw := Eq.mp (if_pos c12) hw
                  refine lv_iconst (v := 0) hx hb dX7_marriages_194 (by decide) ?_
                  refine lv_istore (lv' := [(8, .int 0), (5, .int (y5 / 36)), (11, .int ((y5 / 6) - (y5 / 6) / 6 * 6)), (10, .int (y5 - y5 / 6 * 6)), (0, .ref (ad 0)), (1, .int x1), (2, .int y2), (3, .int y3), (4, .int y4), (6, .int y6), (7, .int y7), (9, .int y9)]) hx hb dX7_marriages_195 hl (by decide) rfl (fun ls hl => ?_)
                  refine lv_iload hx hb dX7_marriages_197 (lv_at hl 9 rfl) ?_
                  refine lv_iconst (v := 1) hx hb dX7_marriages_199 (by decide) ?_
                  refine lv_iload hx hb dX7_marriages_200 (lv_at hl 3 rfl) ?_
                  refine lv_ishl hx hb dX7_marriages_202 ?_
                  refine lv_iconst (v := 1) hx hb dX7_marriages_203 (by decide) ?_
                  refine lv_iload hx hb dX7_marriages_204 (lv_at hl 2 rfl) ?_
                  refine lv_ishl hx hb dX7_marriages_206 ?_
                  refine lv_ior hx hb dX7_marriages_207 ?_
                  refine lv_ior hx hb dX7_marriages_208 ?_
                  refine lv_istore (lv' := [(6, .int (y6 ||| (((1 : Int32) <<< ((y5 - y5 / 6 * 6) &&& 31)) ||| ((1 : Int32) <<< (((y5 / 6) - (y5 / 6) / 6 * 6) &&& 31))))), (8, .int 0), (5, .int (y5 / 36)), (11, .int ((y5 / 6) - (y5 / 6) / 6 * 6)), (10, .int (y5 - y5 / 6 * 6)), (0, .ref (ad 0)), (1, .int x1), (2, .int y2), (3, .int y3), (4, .int y4), (7, .int y7), (9, .int y9)]) hx hb dX7_marriages_209 hl (by decide) rfl (fun ls hl => ?_)
                  refine lv_iinc (v := (y7 + 1)) (lv' := [(7, .int (y7 + 1)), (6, .int (y6 ||| (((1 : Int32) <<< ((y5 - y5 / 6 * 6) &&& 31)) ||| ((1 : Int32) <<< (((y5 / 6) - (y5 / 6) / 6 * 6) &&& 31))))), (8, .int 0), (5, .int (y5 / 36)), (11, .int ((y5 / 6) - (y5 / 6) / 6 * 6)), (10, .int (y5 - y5 / 6 * 6)), (0, .ref (ad 0)), (1, .int x1), (2, .int y2), (3, .int y3), (4, .int y4), (9, .int y9)]) hx hb dX7_marriages_211 hl (k := 10) rfl rfl (by decide) rfl (fun ls hl => ?_)
                  refine lv_iinc (v := (y9 + 1)) (lv' := [(9, .int (y9 + 1)), (7, .int (y7 + 1)), (6, .int (y6 ||| (((1 : Int32) <<< ((y5 - y5 / 6 * 6) &&& 31)) ||| ((1 : Int32) <<< (((y5 / 6) - (y5 / 6) / 6 * 6) &&& 31))))), (8, .int 0), (5, .int (y5 / 36)), (11, .int ((y5 / 6) - (y5 / 6) / 6 * 6)), (10, .int (y5 - y5 / 6 * 6)), (0, .ref (ad 0)), (1, .int x1), (2, .int y2), (3, .int y3), (4, .int y4)]) hx hb dX7_marriages_214 hl (k := 11) rfl rfl (by decide) rfl (fun ls hl => ?_)
                  refine lv_goto (tgt := 88) hx hb dX7_marriages_217 (by decide) ?_
                  exact ih (y5 / 36) (y6 ||| (((1 : Int32) <<< ((y5 - y5 / 6 * 6) &&& 31)) ||| ((1 : Int32) <<< (((y5 / 6) - (y5 / 6) / 6 * 6) &&& 31)))) (y7 + 1) 0 (y9 + 1) _ (lv_sub hl [7, 8, 9, 10, 11, 4, 2, 1, 3, 0] rfl) hw
                · have hw := Eq.mp (if_neg c12) hw
                  refine lv_iload_n hx hb dX7_marriages_149 rfl (lv_at hl 5 rfl) ?_
                  refine lv_iload hx hb dX7_marriages_150 (lv_at hl 1 rfl) ?_
                  refine callF (va_runS (As := [.int y2, .int ((y5 / 6) - (y5 / 6) / 6 * 6)]) (rest := []) ⟨hx, hb, hml, hown, hW⟩ (c_X7_has l D cI cZ y2 ((y5 / 6) - (y5 / 6) / 6 * 6) _ rfl) (cwS0 hW mS_X7_has ml_X7_169 ⟨Nat.le_of_ble_eq_true rfl, Nat.le_of_ble_eq_true rfl⟩) (preS0 hK hN hP hD [] rfl rfl) rfl rfl hl.1 rfl (lv_room (Nat.le_of_ble_eq_true rfl)) dX7_marriages_152 ⟨Nat.le_refl _, Nat.le_refl _⟩) ?_
                  refine W.eq (g2 := F0 m 155 ls [.int (F_X7_has y2 ((y5 / 6) - (y5 / 6) / 6 * 6))]) rfl ?_
                  refine lv_if_eq (tgt := 194) hx hb dX7_marriages_155 (by decide) (fun c13 => ?_) (fun c13 => ?_)
                  · have hw := Eq.mp (if_pos c13) hw
                    refine lv_iconst (v := 0) hx hb dX7_marriages_194 (by decide) ?_
                    refine lv_istore (lv' := [(8, .int 0), (5, .int (y5 / 36)), (11, .int ((y5 / 6) - (y5 / 6) / 6 * 6)), (10, .int (y5 - y5 / 6 * 6)), (0, .ref (ad 0)), (1, .int x1), (2, .int y2), (3, .int y3), (4, .int y4), (6, .int y6), (7, .int y7), (9, .int y9)]) hx hb dX7_marriages_195 hl (by decide) rfl (fun ls hl => ?_)
                    refine lv_iload hx hb dX7_marriages_197 (lv_at hl 9 rfl) ?_
                    refine lv_iconst (v := 1) hx hb dX7_marriages_199 (by decide) ?_
                    refine lv_iload hx hb dX7_marriages_200 (lv_at hl 3 rfl) ?_
                    refine lv_ishl hx hb dX7_marriages_202 ?_
                    refine lv_iconst (v := 1) hx hb dX7_marriages_203 (by decide) ?_
                    refine lv_iload hx hb dX7_marriages_204 (lv_at hl 2 rfl) ?_
                    refine lv_ishl hx hb dX7_marriages_206 ?_
                    refine lv_ior hx hb dX7_marriages_207 ?_
                    refine lv_ior hx hb dX7_marriages_208 ?_
                    refine lv_istore (lv' := [(6, .int (y6 ||| (((1 : Int32) <<< ((y5 - y5 / 6 * 6) &&& 31)) ||| ((1 : Int32) <<< (((y5 / 6) - (y5 / 6) / 6 * 6) &&& 31))))), (8, .int 0), (5, .int (y5 / 36)), (11, .int ((y5 / 6) - (y5 / 6) / 6 * 6)), (10, .int (y5 - y5 / 6 * 6)), (0, .ref (ad 0)), (1, .int x1), (2, .int y2), (3, .int y3), (4, .int y4), (7, .int y7), (9, .int y9)]) hx hb dX7_marriages_209 hl (by decide) rfl (fun ls hl => ?_)
                    refine lv_iinc (v := (y7 + 1)) (lv' := [(7, .int (y7 + 1)), (6, .int (y6 ||| (((1 : Int32) <<< ((y5 - y5 / 6 * 6) &&& 31)) ||| ((1 : Int32) <<< (((y5 / 6) - (y5 / 6) / 6 * 6) &&& 31))))), (8, .int 0), (5, .int (y5 / 36)), (11, .int ((y5 / 6) - (y5 / 6) / 6 * 6)), (10, .int (y5 - y5 / 6 * 6)), (0, .ref (ad 0)), (1, .int x1), (2, .int y2), (3, .int y3), (4, .int y4), (9, .int y9)]) hx hb dX7_marriages_211 hl (k := 10) rfl rfl (by decide) rfl (fun ls hl => ?_)
                    refine lv_iinc (v := (y9 + 1)) (lv' := [(9, .int (y9 + 1)), (7, .int (y7 + 1)), (6, .int (y6 ||| (((1 : Int32) <<< ((y5 - y5 / 6 * 6) &&& 31)) ||| ((1 : Int32) <<< (((y5 / 6) - (y5 / 6) / 6 * 6) &&& 31))))), (8, .int 0), (5, .int (y5 / 36)), (11, .int ((y5 / 6) - (y5 / 6) / 6 * 6)), (10, .int (y5 - y5 / 6 * 6)), (0, .ref (ad 0)), (1, .int x1), (2, .int y2), (3, .int y3), (4, .int y4)]) hx hb dX7_marriages_214 hl (k := 11) rfl rfl (by decide) rfl (fun ls hl => ?_)
                    refine lv_goto (tgt := 88) hx hb dX7_marriages_217 (by decide) ?_
                    exact ih (y5 / 36) (y6 ||| (((1 : Int32) <<< ((y5 - y5 / 6 * 6) &&& 31)) ||| ((1 : Int32) <<< (((y5 / 6) - (y5 / 6) / 6 * 6) &&& 31)))) (y7 + 1) 0 (y9 + 1) _ (lv_sub hl [7, 8, 9, 10, 11, 4, 2, 1, 3, 0] rfl) hw
                  · have hw := Eq.mp (if_neg c13) hw
                    refine lv_iload hx hb dX7_marriages_158 (lv_at hl 8 rfl) ?_
                    refine lv_iload hx hb dX7_marriages_160 (lv_at hl 2 rfl) ?_
                    refine callF (va_runS (As := [.int y6, .int (y5 - y5 / 6 * 6)]) (rest := []) ⟨hx, hb, hml, hown, hW⟩ (c_X7_has l D cI cZ y6 (y5 - y5 / 6 * 6) _ rfl) (cwS0 hW mS_X7_has ml_X7_169 ⟨Nat.le_of_ble_eq_true rfl, Nat.le_of_ble_eq_true rfl⟩) (preS0 hK hN hP hD [] rfl rfl) rfl rfl hl.1 rfl (lv_room (Nat.le_of_ble_eq_true rfl)) dX7_marriages_162 ⟨Nat.le_refl _, Nat.le_refl _⟩) ?_
                    refine W.eq (g2 := F0 m 165 ls [.int (F_X7_has y6 (y5 - y5 / 6 * 6))]) rfl ?_
                    refine lv_if_ne (tgt := 194) hx hb dX7_marriages_165 (by decide) (fun c14 => ?_) (fun c14 => ?_)
                    · have hw := Eq.mp (if_neg c14) hw
                      refine lv_iconst (v := 0) hx hb dX7_marriages_194 (by decide) ?_
                      refine lv_istore (lv' := [(8, .int 0), (5, .int (y5 / 36)), (11, .int ((y5 / 6) - (y5 / 6) / 6 * 6)), (10, .int (y5 - y5 / 6 * 6)), (0, .ref (ad 0)), (1, .int x1), (2, .int y2), (3, .int y3), (4, .int y4), (6, .int y6), (7, .int y7), (9, .int y9)]) hx hb dX7_marriages_195 hl (by decide) rfl (fun ls hl => ?_)
                      refine lv_iload hx hb dX7_marriages_197 (lv_at hl 9 rfl) ?_
                      refine lv_iconst (v := 1) hx hb dX7_marriages_199 (by decide) ?_
                      refine lv_iload hx hb dX7_marriages_200 (lv_at hl 3 rfl) ?_
                      refine lv_ishl hx hb dX7_marriages_202 ?_
                      refine lv_iconst (v := 1) hx hb dX7_marriages_203 (by decide) ?_
                      refine lv_iload hx hb dX7_marriages_204 (lv_at hl 2 rfl) ?_
                      refine lv_ishl hx hb dX7_marriages_206 ?_
                      refine lv_ior hx hb dX7_marriages_207 ?_
                      refine lv_ior hx hb dX7_marriages_208 ?_
                      refine lv_istore (lv' := [(6, .int (y6 ||| (((1 : Int32) <<< ((y5 - y5 / 6 * 6) &&& 31)) ||| ((1 : Int32) <<< (((y5 / 6) - (y5 / 6) / 6 * 6) &&& 31))))), (8, .int 0), (5, .int (y5 / 36)), (11, .int ((y5 / 6) - (y5 / 6) / 6 * 6)), (10, .int (y5 - y5 / 6 * 6)), (0, .ref (ad 0)), (1, .int x1), (2, .int y2), (3, .int y3), (4, .int y4), (7, .int y7), (9, .int y9)]) hx hb dX7_marriages_209 hl (by decide) rfl (fun ls hl => ?_)
                      refine lv_iinc (v := (y7 + 1)) (lv' := [(7, .int (y7 + 1)), (6, .int (y6 ||| (((1 : Int32) <<< ((y5 - y5 / 6 * 6) &&& 31)) ||| ((1 : Int32) <<< (((y5 / 6) - (y5 / 6) / 6 * 6) &&& 31))))), (8, .int 0), (5, .int (y5 / 36)), (11, .int ((y5 / 6) - (y5 / 6) / 6 * 6)), (10, .int (y5 - y5 / 6 * 6)), (0, .ref (ad 0)), (1, .int x1), (2, .int y2), (3, .int y3), (4, .int y4), (9, .int y9)]) hx hb dX7_marriages_211 hl (k := 10) rfl rfl (by decide) rfl (fun ls hl => ?_)
                      refine lv_iinc (v := (y9 + 1)) (lv' := [(9, .int (y9 + 1)), (7, .int (y7 + 1)), (6, .int (y6 ||| (((1 : Int32) <<< ((y5 - y5 / 6 * 6) &&& 31)) ||| ((1 : Int32) <<< (((y5 / 6) - (y5 / 6) / 6 * 6) &&& 31))))), (8, .int 0), (5, .int (y5 / 36)), (11, .int ((y5 / 6) - (y5 / 6) / 6 * 6)), (10, .int (y5 - y5 / 6 * 6)), (0, .ref (ad 0)), (1, .int x1), (2, .int y2), (3, .int y3), (4, .int y4)]) hx hb dX7_marriages_214 hl (k := 11) rfl rfl (by decide) rfl (fun ls hl => ?_)
                      refine lv_goto (tgt := 88) hx hb dX7_marriages_217 (by decide) ?_
                      exact ih (y5 / 36) (y6 ||| (((1 : Int32) <<< ((y5 - y5 / 6 * 6) &&& 31)) ||| ((1 : Int32) <<< (((y5 / 6) - (y5 / 6) / 6 * 6) &&& 31)))) (y7 + 1) 0 (y9 + 1) _ (lv_sub hl [7, 8, 9, 10, 11, 4, 2, 1, 3, 0] rfl) hw
                    · have hw := Eq.mp (if_pos c14) hw
                      refine lv_iload hx hb dX7_marriages_168 (lv_at hl 8 rfl) ?_
                      refine lv_iload hx hb dX7_marriages_170 (lv_at hl 1 rfl) ?_
                      refine callF (va_runS (As := [.int y6, .int ((y5 / 6) - (y5 / 6) / 6 * 6)]) (rest := []) ⟨hx, hb, hml, hown, hW⟩ (c_X7_has l D cI cZ y6 ((y5 / 6) - (y5 / 6) / 6 * 6) _ rfl) (cwS0 hW mS_X7_has ml_X7_169 ⟨Nat.le_of_ble_eq_true rfl, Nat.le_of_ble_eq_true rfl⟩) (preS0 hK hN hP hD [] rfl rfl) rfl rfl hl.1 rfl (lv_room (Nat.le_of_ble_eq_true rfl)) dX7_marriages_172 ⟨Nat.le_refl _, Nat.le_refl _⟩) ?_
                      refine W.eq (g2 := F0 m 175 ls [.int (F_X7_has y6 ((y5 / 6) - (y5 / 6) / 6 * 6))]) rfl ?_
                      refine lv_if_ne (tgt := 194) hx hb dX7_marriages_175 (by decide) (fun c15 => ?_) (fun c15 => ?_)
                      · have hw := Eq.mp (if_neg c15) hw
                        refine lv_iconst (v := 0) hx hb dX7_marriages_194 (by decide) ?_
                        refine lv_istore (lv' := [(8, .int 0), (5, .int (y5 / 36)), (11, .int ((y5 / 6) - (y5 / 6) / 6 * 6)), (10, .int (y5 - y5 / 6 * 6)), (0, .ref (ad 0)), (1, .int x1), (2, .int y2), (3, .int y3), (4, .int y4), (6, .int y6), (7, .int y7), (9, .int y9)]) hx hb dX7_marriages_195 hl (by decide) rfl (fun ls hl => ?_)
                        refine lv_iload hx hb dX7_marriages_197 (lv_at hl 9 rfl) ?_
                        refine lv_iconst (v := 1) hx hb dX7_marriages_199 (by decide) ?_
                        refine lv_iload hx hb dX7_marriages_200 (lv_at hl 3 rfl) ?_
                        refine lv_ishl hx hb dX7_marriages_202 ?_
                        refine lv_iconst (v := 1) hx hb dX7_marriages_203 (by decide) ?_
                        refine lv_iload hx hb dX7_marriages_204 (lv_at hl 2 rfl) ?_
                        refine lv_ishl hx hb dX7_marriages_206 ?_
                        refine lv_ior hx hb dX7_marriages_207 ?_
                        refine lv_ior hx hb dX7_marriages_208 ?_
                        refine lv_istore (lv' := [(6, .int (y6 ||| (((1 : Int32) <<< ((y5 - y5 / 6 * 6) &&& 31)) ||| ((1 : Int32) <<< (((y5 / 6) - (y5 / 6) / 6 * 6) &&& 31))))), (8, .int 0), (5, .int (y5 / 36)), (11, .int ((y5 / 6) - (y5 / 6) / 6 * 6)), (10, .int (y5 - y5 / 6 * 6)), (0, .ref (ad 0)), (1, .int x1), (2, .int y2), (3, .int y3), (4, .int y4), (7, .int y7), (9, .int y9)]) hx hb dX7_marriages_209 hl (by decide) rfl (fun ls hl => ?_)
                        refine lv_iinc (v := (y7 + 1)) (lv' := [(7, .int (y7 + 1)), (6, .int (y6 ||| (((1 : Int32) <<< ((y5 - y5 / 6 * 6) &&& 31)) ||| ((1 : Int32) <<< (((y5 / 6) - (y5 / 6) / 6 * 6) &&& 31))))), (8, .int 0), (5, .int (y5 / 36)), (11, .int ((y5 / 6) - (y5 / 6) / 6 * 6)), (10, .int (y5 - y5 / 6 * 6)), (0, .ref (ad 0)), (1, .int x1), (2, .int y2), (3, .int y3), (4, .int y4), (9, .int y9)]) hx hb dX7_marriages_211 hl (k := 10) rfl rfl (by decide) rfl (fun ls hl => ?_)
                        refine lv_iinc (v := (y9 + 1)) (lv' := [(9, .int (y9 + 1)), (7, .int (y7 + 1)), (6, .int (y6 ||| (((1 : Int32) <<< ((y5 - y5 / 6 * 6) &&& 31)) ||| ((1 : Int32) <<< (((y5 / 6) - (y5 / 6) / 6 * 6) &&& 31))))), (8, .int 0), (5, .int (y5 / 36)), (11, .int ((y5 / 6) - (y5 / 6) / 6 * 6)), (10, .int (y5 - y5 / 6 * 6)), (0, .ref (ad 0)), (1, .int x1), (2, .int y2), (3, .int y3), (4, .int y4)]) hx hb dX7_marriages_214 hl (k := 11) rfl rfl (by decide) rfl (fun ls hl => ?_)
                        refine lv_goto (tgt := 88) hx hb dX7_marriages_217 (by decide) ?_
                        exact ih (y5 / 36) (y6 ||| (((1 : Int32) <<< ((y5 - y5 / 6 * 6) &&& 31)) ||| ((1 : Int32) <<< (((y5 / 6) - (y5 / 6) / 6 * 6) &&& 31)))) (y7 + 1) 0 (y9 + 1) _ (lv_sub hl [7, 8, 9, 10, 11, 4, 2, 1, 3, 0] rfl) hw
                      · have hw := Eq.mp (if_pos c15) hw
                        refine lv_aload_n hx hb dX7_marriages_178 rfl (lv_at hl 3 rfl) ?_
                        refine lv_iload hx hb dX7_marriages_179 (lv_at hl 2 rfl) ?_
                        refine lv_iload hx hb dX7_marriages_181 (lv_at hl 1 rfl) ?_
                        refine lv_iload_n hx hb dX7_marriages_183 rfl (lv_at hl 4 rfl) ?_
                        refine callR (va_runV (As := [.int (y5 - y5 / 6 * 6), .int ((y5 / 6) - (y5 / 6) / 6 * 6), .int x1]) (rest := []) ⟨hx, hb, hml, hown, hW⟩ (c_X7_doMeet l D cI cZ ad  S0 (y5 - y5 / 6 * 6) ((y5 / 6) - (y5 / 6) / 6 * 6) x1 _ hw) (cwV0 hW mV_X7_doMeet ml_X7_186 ⟨Nat.le_of_ble_eq_true rfl, Nat.le_of_ble_eq_true rfl⟩) (preV0 0 rfl rfl hK hN hP hD [0] rfl rfl) rfl rfl hl.1 rfl (lv_room (Nat.le_of_ble_eq_true rfl)) dX7_marriages_184 ⟨Nat.le_refl _, Nat.le_refl _⟩) (fun v9 hq => ?_)
                        obtain ⟨v16, rfl, hw⟩ := hq
                        refine W.eq (g2 := F0 m 187 ls [.int v16]) rfl ?_
                        refine lv_if_ne (tgt := 194) hx hb dX7_marriages_187 (by decide) (fun c17 => ?_) (fun c17 => ?_)
                        · have hw := Eq.mp (if_neg c17) hw
                          refine lv_iconst (v := 0) hx hb dX7_marriages_194 (by decide) ?_
                          refine lv_istore (lv' := [(8, .int 0), (5, .int (y5 / 36)), (11, .int ((y5 / 6) - (y5 / 6) / 6 * 6)), (10, .int (y5 - y5 / 6 * 6)), (0, .ref (ad 0)), (1, .int x1), (2, .int y2), (3, .int y3), (4, .int y4), (6, .int y6), (7, .int y7), (9, .int y9)]) hx hb dX7_marriages_195 hl (by decide) rfl (fun ls hl => ?_)
                          refine lv_iload hx hb dX7_marriages_197 (lv_at hl 9 rfl) ?_
                          refine lv_iconst (v := 1) hx hb dX7_marriages_199 (by decide) ?_
                          refine lv_iload hx hb dX7_marriages_200 (lv_at hl 3 rfl) ?_
                          refine lv_ishl hx hb dX7_marriages_202 ?_
                          refine lv_iconst (v := 1) hx hb dX7_marriages_203 (by decide) ?_
                          refine lv_iload hx hb dX7_marriages_204 (lv_at hl 2 rfl) ?_
                          refine lv_ishl hx hb dX7_marriages_206 ?_
                          refine lv_ior hx hb dX7_marriages_207 ?_
                          refine lv_ior hx hb dX7_marriages_208 ?_
                          refine lv_istore (lv' := [(6, .int (y6 ||| (((1 : Int32) <<< ((y5 - y5 / 6 * 6) &&& 31)) ||| ((1 : Int32) <<< (((y5 / 6) - (y5 / 6) / 6 * 6) &&& 31))))), (8, .int 0), (5, .int (y5 / 36)), (11, .int ((y5 / 6) - (y5 / 6) / 6 * 6)), (10, .int (y5 - y5 / 6 * 6)), (0, .ref (ad 0)), (1, .int x1), (2, .int y2), (3, .int y3), (4, .int y4), (7, .int y7), (9, .int y9)]) hx hb dX7_marriages_209 hl (by decide) rfl (fun ls hl => ?_)
                          refine lv_iinc (v := (y7 + 1)) (lv' := [(7, .int (y7 + 1)), (6, .int (y6 ||| (((1 : Int32) <<< ((y5 - y5 / 6 * 6) &&& 31)) ||| ((1 : Int32) <<< (((y5 / 6) - (y5 / 6) / 6 * 6) &&& 31))))), (8, .int 0), (5, .int (y5 / 36)), (11, .int ((y5 / 6) - (y5 / 6) / 6 * 6)), (10, .int (y5 - y5 / 6 * 6)), (0, .ref (ad 0)), (1, .int x1), (2, .int y2), (3, .int y3), (4, .int y4), (9, .int y9)]) hx hb dX7_marriages_211 hl (k := 10) rfl rfl (by decide) rfl (fun ls hl => ?_)
                          refine lv_iinc (v := (y9 + 1)) (lv' := [(9, .int (y9 + 1)), (7, .int (y7 + 1)), (6, .int (y6 ||| (((1 : Int32) <<< ((y5 - y5 / 6 * 6) &&& 31)) ||| ((1 : Int32) <<< (((y5 / 6) - (y5 / 6) / 6 * 6) &&& 31))))), (8, .int 0), (5, .int (y5 / 36)), (11, .int ((y5 / 6) - (y5 / 6) / 6 * 6)), (10, .int (y5 - y5 / 6 * 6)), (0, .ref (ad 0)), (1, .int x1), (2, .int y2), (3, .int y3), (4, .int y4)]) hx hb dX7_marriages_214 hl (k := 11) rfl rfl (by decide) rfl (fun ls hl => ?_)
                          refine lv_goto (tgt := 88) hx hb dX7_marriages_217 (by decide) ?_
                          exact ih (y5 / 36) (y6 ||| (((1 : Int32) <<< ((y5 - y5 / 6 * 6) &&& 31)) ||| ((1 : Int32) <<< (((y5 / 6) - (y5 / 6) / 6 * 6) &&& 31)))) (y7 + 1) 0 (y9 + 1) _ (lv_sub hl [7, 8, 9, 10, 11, 4, 2, 1, 3, 0] rfl) hw
                        · have hw := Eq.mp (if_pos c17) hw
                          refine lv_iconst (v := 1) hx hb dX7_marriages_190 (by decide) ?_
                          refine lv_goto (tgt := 195) hx hb dX7_marriages_191 (by decide) ?_
                          refine lv_istore (lv' := [(8, .int 1), (5, .int (y5 / 36)), (11, .int ((y5 / 6) - (y5 / 6) / 6 * 6)), (10, .int (y5 - y5 / 6 * 6)), (0, .ref (ad 0)), (1, .int x1), (2, .int y2), (3, .int y3), (4, .int y4), (6, .int y6), (7, .int y7), (9, .int y9)]) hx hb dX7_marriages_195 hl (by decide) rfl (fun ls hl => ?_)
                          refine lv_iload hx hb dX7_marriages_197 (lv_at hl 9 rfl) ?_
                          refine lv_iconst (v := 1) hx hb dX7_marriages_199 (by decide) ?_
                          refine lv_iload hx hb dX7_marriages_200 (lv_at hl 3 rfl) ?_
                          refine lv_ishl hx hb dX7_marriages_202 ?_
                          refine lv_iconst (v := 1) hx hb dX7_marriages_203 (by decide) ?_
                          refine lv_iload hx hb dX7_marriages_204 (lv_at hl 2 rfl) ?_
                          refine lv_ishl hx hb dX7_marriages_206 ?_
                          refine lv_ior hx hb dX7_marriages_207 ?_
                          refine lv_ior hx hb dX7_marriages_208 ?_
                          refine lv_istore (lv' := [(6, .int (y6 ||| (((1 : Int32) <<< ((y5 - y5 / 6 * 6) &&& 31)) ||| ((1 : Int32) <<< (((y5 / 6) - (y5 / 6) / 6 * 6) &&& 31))))), (8, .int 1), (5, .int (y5 / 36)), (11, .int ((y5 / 6) - (y5 / 6) / 6 * 6)), (10, .int (y5 - y5 / 6 * 6)), (0, .ref (ad 0)), (1, .int x1), (2, .int y2), (3, .int y3), (4, .int y4), (7, .int y7), (9, .int y9)]) hx hb dX7_marriages_209 hl (by decide) rfl (fun ls hl => ?_)
                          refine lv_iinc (v := (y7 + 1)) (lv' := [(7, .int (y7 + 1)), (6, .int (y6 ||| (((1 : Int32) <<< ((y5 - y5 / 6 * 6) &&& 31)) ||| ((1 : Int32) <<< (((y5 / 6) - (y5 / 6) / 6 * 6) &&& 31))))), (8, .int 1), (5, .int (y5 / 36)), (11, .int ((y5 / 6) - (y5 / 6) / 6 * 6)), (10, .int (y5 - y5 / 6 * 6)), (0, .ref (ad 0)), (1, .int x1), (2, .int y2), (3, .int y3), (4, .int y4), (9, .int y9)]) hx hb dX7_marriages_211 hl (k := 10) rfl rfl (by decide) rfl (fun ls hl => ?_)
                          refine lv_iinc (v := (y9 + 1)) (lv' := [(9, .int (y9 + 1)), (7, .int (y7 + 1)), (6, .int (y6 ||| (((1 : Int32) <<< ((y5 - y5 / 6 * 6) &&& 31)) ||| ((1 : Int32) <<< (((y5 / 6) - (y5 / 6) / 6 * 6) &&& 31))))), (8, .int 1), (5, .int (y5 / 36)), (11, .int ((y5 / 6) - (y5 / 6) / 6 * 6)), (10, .int (y5 - y5 / 6 * 6)), (0, .ref (ad 0)), (1, .int x1), (2, .int y2), (3, .int y3), (4, .int y4)]) hx hb dX7_marriages_214 hl (k := 11) rfl rfl (by decide) rfl (fun ls hl => ?_)
                          refine lv_goto (tgt := 88) hx hb dX7_marriages_217 (by decide) ?_
                          exact ih (y5 / 36) (y6 ||| (((1 : Int32) <<< ((y5 - y5 / 6 * 6) &&& 31)) ||| ((1 : Int32) <<< (((y5 / 6) - (y5 / 6) / 6 * 6) &&& 31)))) (y7 + 1) 1 (y9 + 1) _ (lv_sub hl [7, 8, 9, 10, 11, 4, 2, 1, 3, 0] rfl) hw
  have L65 : ∀ (y2 : Int32) (kx : Int32 → Prop), (∀ (y3 : Int32), ∀ ls : Array Slot, lv_has ls 12 [(3, .int y3)] → kx y3 → W p l e { frames := 3, cells := 0, slots := 0, locals := 72 } s m ([.ref (ad 0), .int x1] : List Value).toArray below meth c s.heap [] 0 0 (MQ below (QR (fun v => ∃ r, v = some (.int r) ∧ k r)) ([.ref (ad 0), .int x1] : List Value).toArray s 0 0 (fun _ => False)) (F0 m 244 ls [])) → ∀ (N65 : Nat) (y3 : Int32) (y4 : Int32), ∀ ls : Array Slot, lv_has ls 12 [(0, .ref (ad 0)), (1, .int x1), (2, .int y2), (3, .int y3), (4, .int y4)] → wl_X7_marriages_65 S0 x1 y2 kx N65 y3 y4 → W p l e { frames := 3, cells := 0, slots := 0, locals := 72 } s m ([.ref (ad 0), .int x1] : List Value).toArray below meth c s.heap [] 0 0 (MQ below (QR (fun v => ∃ r, v = some (.int r) ∧ k r)) ([.ref (ad 0), .int x1] : List Value).toArray s 0 0 (fun _ => False)) (F0 m 65 ls []) := by
    intro y2 kx hxt N65
    induction N65 with
    | zero => intro y3 y4 ls hl hw; exact False.elim hw
    | succ N65 ih =>
      intro y3 y4 ls hl hw
      have hw : (if 46656 ≤ y4 then (kx y3) else (∃ M29, wl_X7_marriages_88 S0 x1 y2 (fun (v25 : Int32) (v26 : Int32) => (if v26 = 0 then (wl_X7_marriages_65 S0 x1 y2 kx N65 y3 (y4 + 1)) else (if v25 ≤ y3 then (wl_X7_marriages_65 S0 x1 y2 kx N65 y3 (y4 + 1)) else (wl_X7_marriages_65 S0 x1 y2 kx N65 v25 (y4 + 1))))) M29 y4 0 0 1 0)) := hw
      refine lv_iload hx hb dX7_marriages_65 (lv_at hl 4 rfl) ?_
      refine lv_ldc (v := 46656) hx hb hown (hW _ kc_X7_185) dX7_marriages_67 ?_
      refine lv_icmp_ge (tgt := 244) hx hb dX7_marriages_69 (by decide) (fun c6 => ?_) (fun c6 => ?_)
      · have hw := Eq.mp (if_pos c6) hw
        exact hxt y3 _ (lv_sub hl [3] rfl) hw
      · have hw := Eq.mp (if_neg c6) hw
        refine lv_iload hx hb dX7_marriages_72 (lv_at hl 4 rfl) ?_
        refine lv_istore (lv' := [(5, .int y4), (0, .ref (ad 0)), (1, .int x1), (2, .int y2), (3, .int y3), (4, .int y4)]) hx hb dX7_marriages_74 hl (by decide) rfl (fun ls hl => ?_)
        refine lv_iconst (v := 0) hx hb dX7_marriages_76 (by decide) ?_
        refine lv_istore (lv' := [(6, .int 0), (5, .int y4), (0, .ref (ad 0)), (1, .int x1), (2, .int y2), (3, .int y3), (4, .int y4)]) hx hb dX7_marriages_77 hl (by decide) rfl (fun ls hl => ?_)
        refine lv_iconst (v := 0) hx hb dX7_marriages_79 (by decide) ?_
        refine lv_istore (lv' := [(7, .int 0), (6, .int 0), (5, .int y4), (0, .ref (ad 0)), (1, .int x1), (2, .int y2), (3, .int y3), (4, .int y4)]) hx hb dX7_marriages_80 hl (by decide) rfl (fun ls hl => ?_)
        refine lv_iconst (v := 1) hx hb dX7_marriages_82 (by decide) ?_
        refine lv_istore (lv' := [(8, .int 1), (7, .int 0), (6, .int 0), (5, .int y4), (0, .ref (ad 0)), (1, .int x1), (2, .int y2), (3, .int y3), (4, .int y4)]) hx hb dX7_marriages_83 hl (by decide) rfl (fun ls hl => ?_)
        refine lv_iconst (v := 0) hx hb dX7_marriages_85 (by decide) ?_
        refine lv_istore (lv' := [(9, .int 0), (8, .int 1), (7, .int 0), (6, .int 0), (5, .int y4), (0, .ref (ad 0)), (1, .int x1), (2, .int y2), (3, .int y3), (4, .int y4)]) hx hb dX7_marriages_86 hl (by decide) rfl (fun ls hl => ?_)
        obtain ⟨N30, hw⟩ := hw
        refine L88 y2 y3 y4 _ (fun v25 v26 ls hl hw => ?_) N30 y4 0 0 1 0 _ (lv_sub hl [5, 6, 7, 8, 9, 4, 3, 2, 1, 0] rfl) hw
        refine lv_iload hx hb dX7_marriages_220 (lv_at hl 6 rfl) ?_
        refine lv_if_eq (tgt := 236) hx hb dX7_marriages_222 (by decide) (fun c27 => ?_) (fun c27 => ?_)
        · have hw := Eq.mp (if_pos c27) hw
          refine lv_iload_n hx hb dX7_marriages_236 rfl (lv_at hl 3 rfl) ?_
          refine lv_istore_n (lv' := [(3, .int y3), (0, .ref (ad 0)), (1, .int x1), (2, .int y2), (4, .int y4), (7, .int v25), (8, .int v26)]) hx hb dX7_marriages_237 rfl hl (by decide) rfl (fun ls hl => ?_)
          refine lv_iinc (v := (y4 + 1)) (lv' := [(4, .int (y4 + 1)), (3, .int y3), (0, .ref (ad 0)), (1, .int x1), (2, .int y2), (7, .int v25), (8, .int v26)]) hx hb dX7_marriages_238 hl (k := 4) rfl rfl (by decide) rfl (fun ls hl => ?_)
          refine lv_goto (tgt := 65) hx hb dX7_marriages_241 (by decide) ?_
          exact ih y3 (y4 + 1) _ (lv_sub hl [2, 3, 4, 1, 0] rfl) hw
        · have hw := Eq.mp (if_neg c27) hw
          refine lv_iload hx hb dX7_marriages_225 (lv_at hl 5 rfl) ?_
          refine lv_iload_n hx hb dX7_marriages_227 rfl (lv_at hl 3 rfl) ?_
          refine lv_icmp_le (tgt := 236) hx hb dX7_marriages_228 (by decide) (fun c28 => ?_) (fun c28 => ?_)
          · have hw := Eq.mp (if_pos c28) hw
            refine lv_iload_n hx hb dX7_marriages_236 rfl (lv_at hl 3 rfl) ?_
            refine lv_istore_n (lv' := [(3, .int y3), (0, .ref (ad 0)), (1, .int x1), (2, .int y2), (4, .int y4), (7, .int v25), (8, .int v26)]) hx hb dX7_marriages_237 rfl hl (by decide) rfl (fun ls hl => ?_)
            refine lv_iinc (v := (y4 + 1)) (lv' := [(4, .int (y4 + 1)), (3, .int y3), (0, .ref (ad 0)), (1, .int x1), (2, .int y2), (7, .int v25), (8, .int v26)]) hx hb dX7_marriages_238 hl (k := 4) rfl rfl (by decide) rfl (fun ls hl => ?_)
            refine lv_goto (tgt := 65) hx hb dX7_marriages_241 (by decide) ?_
            exact ih y3 (y4 + 1) _ (lv_sub hl [2, 3, 4, 1, 0] rfl) hw
          · have hw := Eq.mp (if_neg c28) hw
            refine lv_iload hx hb dX7_marriages_231 (lv_at hl 5 rfl) ?_
            refine lv_goto (tgt := 237) hx hb dX7_marriages_233 (by decide) ?_
            refine lv_istore_n (lv' := [(3, .int v25), (0, .ref (ad 0)), (1, .int x1), (2, .int y2), (4, .int y4), (7, .int v25), (8, .int v26)]) hx hb dX7_marriages_237 rfl hl (by decide) rfl (fun ls hl => ?_)
            refine lv_iinc (v := (y4 + 1)) (lv' := [(4, .int (y4 + 1)), (3, .int v25), (0, .ref (ad 0)), (1, .int x1), (2, .int y2), (7, .int v25), (8, .int v26)]) hx hb dX7_marriages_238 hl (k := 4) rfl rfl (by decide) rfl (fun ls hl => ?_)
            refine lv_goto (tgt := 65) hx hb dX7_marriages_241 (by decide) ?_
            exact ih v25 (y4 + 1) _ (lv_sub hl [2, 3, 4, 1, 0] rfl) hw
  have hw : (if (F_X7_in x1 1 24) = 0 then (k (-2)) else (∃ M34, wl_X7_marriages_17 S0 (fun (v5 : Int32) => (∃ M32, wl_X7_marriages_65 S0 x1 v5 (fun (v31 : Int32) => (k v31)) M32 0 0)) M34 0 0)) := hw
  refine lv_iload_n hx hb dX7_marriages_0 rfl (lv_at hl 1 rfl) ?_
  refine lv_iconst (v := 1) hx hb dX7_marriages_1 (by decide) ?_
  refine lv_bipush (v := 24) hx hb dX7_marriages_2 (by decide) ?_
  refine callF (va_runS (As := [.int x1, .int 1, .int 24]) (rest := []) ⟨hx, hb, hml, hown, hW⟩ (c_X7_in l D cI cZ x1 1 24 _ rfl) (cwS0 hW mS_X7_in ml_X7_78 ⟨Nat.le_of_ble_eq_true rfl, Nat.le_of_ble_eq_true rfl⟩) (preS0 hK hN hP hD [] rfl rfl) rfl rfl hl.1 rfl (lv_room (Nat.le_of_ble_eq_true rfl)) dX7_marriages_4 ⟨Nat.le_refl _, Nat.le_refl _⟩) ?_
  refine W.eq (g2 := F0 m 7 ls [.int (F_X7_in x1 1 24)]) rfl ?_
  refine lv_if_ne (tgt := 13) hx hb dX7_marriages_7 (by decide) (fun c1 => ?_) (fun c1 => ?_)
  · have hw := Eq.mp (if_neg c1) hw
    refine lv_iconst (v := 0) hx hb dX7_marriages_13 (by decide) ?_
    refine lv_istore_n (lv' := [(2, .int 0), (0, .ref (ad 0)), (1, .int x1)]) hx hb dX7_marriages_14 rfl hl (by decide) rfl (fun ls hl => ?_)
    refine lv_iconst (v := 0) hx hb dX7_marriages_15 (by decide) ?_
    refine lv_istore_n (lv' := [(3, .int 0), (2, .int 0), (0, .ref (ad 0)), (1, .int x1)]) hx hb dX7_marriages_16 rfl hl (by decide) rfl (fun ls hl => ?_)
    obtain ⟨N35, hw⟩ := hw
    refine L17  _ (fun v5 ls hl hw => ?_) N35 0 0 _ (lv_sub hl [2, 3, 1, 0] rfl) hw
    refine lv_iconst (v := 0) hx hb dX7_marriages_60 (by decide) ?_
    refine lv_istore_n (lv' := [(3, .int 0), (0, .ref (ad 0)), (1, .int x1), (2, .int v5)]) hx hb dX7_marriages_61 rfl hl (by decide) rfl (fun ls hl => ?_)
    refine lv_iconst (v := 0) hx hb dX7_marriages_62 (by decide) ?_
    refine lv_istore (lv' := [(4, .int 0), (3, .int 0), (0, .ref (ad 0)), (1, .int x1), (2, .int v5)]) hx hb dX7_marriages_63 hl (by decide) rfl (fun ls hl => ?_)
    obtain ⟨N33, hw⟩ := hw
    refine L65 v5 _ (fun v31 ls hl hw => ?_) N33 0 0 _ (lv_sub hl [2, 3, 4, 1, 0] rfl) hw
    refine lv_iload_n hx hb dX7_marriages_244 rfl (lv_at hl 0 rfl) ?_
    exact W.iret (v := v31) hx hb hr (fun t ht _ => ⟨⟨_, rfl, ⟨_, rfl, hw⟩⟩, ht⟩) (fun _ h => by cases h) dX7_marriages_245
  · have hw := Eq.mp (if_pos c1) hw
    refine lv_bipush (v := (-2)) hx hb dX7_marriages_10 (by decide) ?_
    exact W.iret (v := (-2)) hx hb hr (fun t ht _ => ⟨⟨_, rfl, ⟨_, rfl, hw⟩⟩, ht⟩) (fun _ h => by cases h) dX7_marriages_12
set_option maxHeartbeats 4000000 in
set_option maxRecDepth 100000 in
theorem c_X7_alive (l : Launch) (D : va_G) (cI cZ : ClassId) (ad : Nat → Nat) (S0 : St) (k : Int32 → Prop) (hw : wp_X7_alive S0 k) : KR l yX7_alive cX7_alive 3 (some .int) 0 0 D cI cZ [.ref (ad 0)] [mcells cI cZ ad 0 S0] (fun v => ∃ r, v = some (.int r) ∧ k r) := by
  refine Met.ofE (by decide +kernel) (Nat.le_of_ble_eq_true rfl) ?_
  intro p e s m below meth c E ls hl
  obtain ⟨hx, hb, hr, hml, hW, hown, hlocks, hP, hK, hD, hN⟩ := E
  have hl : lv_has ls 3 [(0, .ref (ad 0))] := hl
  have L4 : ∀  (kx : Int32 → Prop), (∀ (y1 : Int32), ∀ ls : Array Slot, lv_has ls 3 [(1, .int y1)] → kx y1 → W p l e { frames := 0, cells := 0, slots := 0, locals := 0 } s m ([.ref (ad 0)] : List Value).toArray below meth c s.heap [] 0 0 (MQ below (QR (fun v => ∃ r, v = some (.int r) ∧ k r)) ([.ref (ad 0)] : List Value).toArray s 0 0 (fun _ => False)) (F0 m 35 ls [])) → ∀ (N4 : Nat) (y1 : Int32) (y2 : Int32), ∀ ls : Array Slot, lv_has ls 3 [(0, .ref (ad 0)), (1, .int y1), (2, .int y2)] → wl_X7_alive_4 S0 kx N4 y1 y2 → W p l e { frames := 0, cells := 0, slots := 0, locals := 0 } s m ([.ref (ad 0)] : List Value).toArray below meth c s.heap [] 0 0 (MQ below (QR (fun v => ∃ r, v = some (.int r) ∧ k r)) ([.ref (ad 0)] : List Value).toArray s 0 0 (fun _ => False)) (F0 m 4 ls []) := by
    intro  kx hxt N4
    induction N4 with
    | zero => intro y1 y2 ls hl hw; exact False.elim hw
    | succ N4 ih =>
      intro y1 y2 ls hl hw
      have hw : (if (S0.1 0) ≤ y2 then (kx y1) else (vp_in y2 6 ∧ (if ((S0.2 5) (y2 : Int32).toNatClampNeg) < 0 then (wl_X7_alive_4 S0 kx N4 (y1 + 0) (y2 + 1)) else (wl_X7_alive_4 S0 kx N4 (y1 + 1) (y2 + 1))))) := hw
      refine lv_iload_n hx hb dX7_alive_4 rfl (lv_at hl 2 rfl) ?_
      refine lv_aload_n hx hb dX7_alive_5 rfl (lv_at hl 0 rfl) ?_
      refine va_get (D := D) (ci := 7) (v := .int (S0.1 0)) (C := RX7) (T := TX7) (N := 27) hx hb hW inW_X7 hown hK hP 0 rfl rfl 0 (by decide) (hW _ fl_X7_7) (fun _ h9 => h9) rfl dX7_alive_6 ?_
      refine lv_icmp_ge (tgt := 35) hx hb dX7_alive_9 (by decide) (fun c1 => ?_) (fun c1 => ?_)
      · have hw := Eq.mp (if_pos c1) hw
        exact hxt y1 _ (lv_sub hl [1] rfl) hw
      · have hw := Eq.mp (if_neg c1) hw
        refine lv_iload_n hx hb dX7_alive_12 rfl (lv_at hl 1 rfl) ?_
        refine lv_aload_n hx hb dX7_alive_13 rfl (lv_at hl 0 rfl) ?_
        refine va_get (D := D) (ci := 7) (v := .ref (ad (0 + 1))) (C := RX7) (T := TX7) (N := 27) hx hb hW inW_X7 hown hK hP 0 rfl rfl 5 (by decide) (hW _ fl_X7_16) (fun _ h9 => h9) rfl dX7_alive_14 ?_
        refine lv_iload_n hx hb dX7_alive_17 rfl (lv_at hl 2 rfl) ?_
        refine va_iald (f := (S0.2 5)) hx hb hK hP 1 0 rfl rfl hw.1 dX7_alive_18 ?_
        have hw := hw.2
        refine lv_if_lt (tgt := 26) hx hb dX7_alive_19 (by decide) (fun c2 => ?_) (fun c2 => ?_)
        · have hw := Eq.mp (if_pos c2) hw
          refine lv_iconst (v := 0) hx hb dX7_alive_26 (by decide) ?_
          refine lv_iadd hx hb dX7_alive_27 ?_
          refine lv_istore_n (lv' := [(1, .int (y1 + 0)), (0, .ref (ad 0)), (2, .int y2)]) hx hb dX7_alive_28 rfl hl (by decide) rfl (fun ls hl => ?_)
          refine lv_iinc (v := (y2 + 1)) (lv' := [(2, .int (y2 + 1)), (1, .int (y1 + 0)), (0, .ref (ad 0))]) hx hb dX7_alive_29 hl (k := 2) rfl rfl (by decide) rfl (fun ls hl => ?_)
          refine lv_goto (tgt := 4) hx hb dX7_alive_32 (by decide) ?_
          exact ih (y1 + 0) (y2 + 1) _ (lv_sub hl [2, 1, 0] rfl) hw
        · have hw := Eq.mp (if_neg c2) hw
          refine lv_iconst (v := 1) hx hb dX7_alive_22 (by decide) ?_
          refine lv_goto (tgt := 27) hx hb dX7_alive_23 (by decide) ?_
          refine lv_iadd hx hb dX7_alive_27 ?_
          refine lv_istore_n (lv' := [(1, .int (y1 + 1)), (0, .ref (ad 0)), (2, .int y2)]) hx hb dX7_alive_28 rfl hl (by decide) rfl (fun ls hl => ?_)
          refine lv_iinc (v := (y2 + 1)) (lv' := [(2, .int (y2 + 1)), (1, .int (y1 + 1)), (0, .ref (ad 0))]) hx hb dX7_alive_29 hl (k := 2) rfl rfl (by decide) rfl (fun ls hl => ?_)
          refine lv_goto (tgt := 4) hx hb dX7_alive_32 (by decide) ?_
          exact ih (y1 + 1) (y2 + 1) _ (lv_sub hl [2, 1, 0] rfl) hw
  have hw : (∃ M4, wl_X7_alive_4 S0 (fun (v3 : Int32) => (k v3)) M4 0 0) := hw
  refine lv_iconst (v := 0) hx hb dX7_alive_0 (by decide) ?_
  refine lv_istore_n (lv' := [(1, .int 0), (0, .ref (ad 0))]) hx hb dX7_alive_1 rfl hl (by decide) rfl (fun ls hl => ?_)
  refine lv_iconst (v := 0) hx hb dX7_alive_2 (by decide) ?_
  refine lv_istore_n (lv' := [(2, .int 0), (1, .int 0), (0, .ref (ad 0))]) hx hb dX7_alive_3 rfl hl (by decide) rfl (fun ls hl => ?_)
  obtain ⟨N5, hw⟩ := hw
  refine L4  _ (fun v3 ls hl hw => ?_) N5 0 0 _ (lv_sub hl [2, 1, 0] rfl) hw
  refine lv_iload_n hx hb dX7_alive_35 rfl (lv_at hl 0 rfl) ?_
  exact W.iret (v := v3) hx hb hr (fun t ht _ => ⟨⟨_, rfl, ⟨_, rfl, hw⟩⟩, ht⟩) (fun _ h => by cases h) dX7_alive_36
set_option maxHeartbeats 4000000 in
set_option maxRecDepth 100000 in
theorem c_X7_deaths (l : Launch) (D : va_G) (cI cZ : ClassId) (ad : Nat → Nat) (S0 : St) (x1 : Int32) (x2 : Int32) (x3 : Int32) (x4 : Int32) (k : Int64 → Prop) (hw : wp_X7_deaths S0 x1 x2 x3 x4 k) : KR l yX7_deaths cX7_deaths 16 (some .long) 1 22 D cI cZ [.ref (ad 0), .int x1, .int x2, .int x3, .int x4] [mcells cI cZ ad 0 S0] (fun v => ∃ r, v = some (.long r) ∧ k r) := by
  refine Met.ofE (by decide +kernel) (Nat.le_of_ble_eq_true rfl) ?_
  intro p e s m below meth c E ls hl
  obtain ⟨hx, hb, hr, hml, hW, hown, hlocks, hP, hK, hD, hN⟩ := E
  have hl : lv_has ls 16 [(0, .ref (ad 0)), (1, .int x1), (2, .int x2), (3, .int x3), (4, .int x4)] := hl
  have L79 : ∀ (y5 : Int32) (kx : Int64 → Int64 → Prop), (∀ (y6 : Int64) (y8 : Int64), ∀ ls : Array Slot, lv_has ls 16 [(4, .int x4), (6, .long y6), (8, .long y8)] → kx y6 y8 → W p l e { frames := 1, cells := 0, slots := 0, locals := 22 } s m ([.ref (ad 0), .int x1, .int x2, .int x3, .int x4] : List Value).toArray below meth c s.heap [] 0 0 (MQ below (QR (fun v => ∃ r, v = some (.long r) ∧ k r)) ([.ref (ad 0), .int x1, .int x2, .int x3, .int x4] : List Value).toArray s 0 0 (fun _ => False)) (F0 m 110 ls [])) → ∀ (N79 : Nat) (y6 : Int64) (y8 : Int64) (y10 : Int32), ∀ ls : Array Slot, lv_has ls 16 [(2, .int x2), (4, .int x4), (5, .int y5), (6, .long y6), (8, .long y8), (10, .int y10)] → wl_X7_deaths_79 x2 y5 kx N79 y6 y8 y10 → W p l e { frames := 1, cells := 0, slots := 0, locals := 22 } s m ([.ref (ad 0), .int x1, .int x2, .int x3, .int x4] : List Value).toArray below meth c s.heap [] 0 0 (MQ below (QR (fun v => ∃ r, v = some (.long r) ∧ k r)) ([.ref (ad 0), .int x1, .int x2, .int x3, .int x4] : List Value).toArray s 0 0 (fun _ => False)) (F0 m 79 ls []) := by
    intro y5 kx hxt N79
    induction N79 with
    | zero => intro y6 y8 y10 ls hl hw; exact False.elim hw
    | succ N79 ih =>
      intro y6 y8 y10 ls hl hw
      have hw : (if y5 ≤ y10 then (kx y6 y8) else (wl_X7_deaths_79 x2 y5 kx N79 (y6 * (((10 : Int32) - x2).toInt64)) (y8 * 10) (y10 + 1))) := hw
      refine lv_iload hx hb dX7_deaths_79 (lv_at hl 5 rfl) ?_
      refine lv_iload hx hb dX7_deaths_81 (lv_at hl 2 rfl) ?_
      refine lv_icmp_ge (tgt := 110) hx hb dX7_deaths_83 (by decide) (fun c7 => ?_) (fun c7 => ?_)
      · have hw := Eq.mp (if_pos c7) hw
        exact hxt y6 y8 _ (lv_sub hl [1, 3, 4] rfl) hw
      · have hw := Eq.mp (if_neg c7) hw
        refine lv_lload hx hb dX7_deaths_86 (lv_at hl 3 rfl) ?_
        refine lv_bipush (v := 10) hx hb dX7_deaths_88 (by decide) ?_
        refine lv_iload_n hx hb dX7_deaths_90 rfl (lv_at hl 0 rfl) ?_
        refine lv_isub hx hb dX7_deaths_91 ?_
        refine lv_i2l (v := ((10 : Int32) - x2).toInt64) hx hb dX7_deaths_92 rfl ?_
        refine lv_lmul hx hb dX7_deaths_93 ?_
        refine lv_lstore (lv' := [(6, .long (y6 * (((10 : Int32) - x2).toInt64))), (2, .int x2), (4, .int x4), (5, .int y5), (8, .long y8), (10, .int y10)]) hx hb dX7_deaths_94 hl (by decide) rfl (fun ls hl => ?_)
        refine lv_lload hx hb dX7_deaths_96 (lv_at hl 4 rfl) ?_
        refine lv_ldc2 (v := 10) hx hb hown (hW _ kc_X7_194) dX7_deaths_98 ?_
        refine lv_lmul hx hb dX7_deaths_101 ?_
        refine lv_lstore (lv' := [(8, .long (y8 * 10)), (6, .long (y6 * (((10 : Int32) - x2).toInt64))), (2, .int x2), (4, .int x4), (5, .int y5), (10, .int y10)]) hx hb dX7_deaths_102 hl (by decide) rfl (fun ls hl => ?_)
        refine lv_iinc (v := (y10 + 1)) (lv' := [(10, .int (y10 + 1)), (8, .long (y8 * 10)), (6, .long (y6 * (((10 : Int32) - x2).toInt64))), (2, .int x2), (4, .int x4), (5, .int y5)]) hx hb dX7_deaths_104 hl (k := 5) rfl rfl (by decide) rfl (fun ls hl => ?_)
        refine lv_goto (tgt := 79) hx hb dX7_deaths_107 (by decide) ?_
        exact ih (y6 * (((10 : Int32) - x2).toInt64)) (y8 * 10) (y10 + 1) _ (lv_sub hl [3, 4, 5, 2, 1, 0] rfl) hw
  have L118 : ∀ (y6 : Int64) (y8 : Int64) (kx : Int64 → Prop), (∀ (y10 : Int64), ∀ ls : Array Slot, lv_has ls 16 [(4, .int x4), (6, .long y6), (8, .long y8), (10, .long y10)] → kx y10 → W p l e { frames := 1, cells := 0, slots := 0, locals := 22 } s m ([.ref (ad 0), .int x1, .int x2, .int x3, .int x4] : List Value).toArray below meth c s.heap [] 0 0 (MQ below (QR (fun v => ∃ r, v = some (.long r) ∧ k r)) ([.ref (ad 0), .int x1, .int x2, .int x3, .int x4] : List Value).toArray s 0 0 (fun _ => False)) (F0 m 143 ls [])) → ∀ (N118 : Nat) (y10 : Int64) (y12 : Int64), ∀ ls : Array Slot, lv_has ls 16 [(4, .int x4), (6, .long y6), (8, .long y8), (10, .long y10), (12, .long y12)] → wl_X7_deaths_118 kx N118 y10 y12 → W p l e { frames := 1, cells := 0, slots := 0, locals := 22 } s m ([.ref (ad 0), .int x1, .int x2, .int x3, .int x4] : List Value).toArray below meth c s.heap [] 0 0 (MQ below (QR (fun v => ∃ r, v = some (.long r) ∧ k r)) ([.ref (ad 0), .int x1, .int x2, .int x3, .int x4] : List Value).toArray s 0 0 (fun _ => False)) (F0 m 118 ls []) := by
    intro y6 y8 kx hxt N118
    induction N118 with
    | zero => intro y10 y12 ls hl hw; exact False.elim hw
    | succ N118 ih =>
      intro y10 y12 ls hl hw
      have hw : (if (lg_cmp y12 0) = 0 then (kx y10) else (¬ y12 = 0 ∧ (wl_X7_deaths_118 kx N118 y12 (y10 - y10 / y12 * y12)))) := hw
      refine lv_lload hx hb dX7_deaths_118 (lv_at hl 4 rfl) ?_
      refine lv_lconst (v := 0) hx hb dX7_deaths_120 (by decide) ?_
      refine W.lcmp hx hb dX7_deaths_121 ?_
      refine lv_if_eq (tgt := 143) hx hb dX7_deaths_122 (by decide) (fun c10 => ?_) (fun c10 => ?_)
      · have hw := Eq.mp (if_pos c10) hw
        exact hxt y10 _ (lv_sub hl [0, 1, 2, 3] rfl) hw
      · have hw := Eq.mp (if_neg c10) hw
        refine lv_lload hx hb dX7_deaths_125 (lv_at hl 3 rfl) ?_
        refine lv_lload hx hb dX7_deaths_127 (lv_at hl 4 rfl) ?_
        refine lv_lrem hx hb dX7_deaths_129 hw.1 ?_
        have hw := hw.2
        refine lv_lstore (lv' := [(14, .long (y10 - y10 / y12 * y12)), (4, .int x4), (6, .long y6), (8, .long y8), (10, .long y10), (12, .long y12)]) hx hb dX7_deaths_130 hl (by decide) rfl (fun ls hl => ?_)
        refine lv_lload hx hb dX7_deaths_132 (lv_at hl 5 rfl) ?_
        refine lv_lstore (lv' := [(10, .long y12), (14, .long (y10 - y10 / y12 * y12)), (4, .int x4), (6, .long y6), (8, .long y8), (12, .long y12)]) hx hb dX7_deaths_134 hl (by decide) rfl (fun ls hl => ?_)
        refine lv_lload hx hb dX7_deaths_136 (lv_at hl 1 rfl) ?_
        refine lv_lstore (lv' := [(12, .long (y10 - y10 / y12 * y12)), (10, .long y12), (14, .long (y10 - y10 / y12 * y12)), (4, .int x4), (6, .long y6), (8, .long y8)]) hx hb dX7_deaths_138 hl (by decide) rfl (fun ls hl => ?_)
        refine lv_goto (tgt := 118) hx hb dX7_deaths_140 (by decide) ?_
        exact ih y12 (y10 - y10 / y12 * y12) _ (lv_sub hl [3, 4, 5, 1, 0] rfl) hw
  have hw : (if (F_X7_in x1 0 3) = 0 then (k (-1000000000000000002)) else (if (F_X7_in x2 0 10) = 0 then (k (-1000000000000000002)) else (if (F_X7_in x3 0 1) = 0 then (k (-1000000000000000002)) else (if (F_X7_in x4 0 1) = 0 then (k (-1000000000000000002)) else (if x3 = 0 then (wp_X7_alive S0 (fun (v6 : Int32) => (∃ M15, wl_X7_deaths_79 x2 (x1 * v6) (fun (v8 : Int64) (v9 : Int64) => (∃ M13, wl_X7_deaths_118 (fun (v11 : Int64) => (if x4 = 0 then (¬ v11 = 0 ∧ (k (v8 / v11))) else (¬ v11 = 0 ∧ (k (v9 / v11))))) M13 v8 v9)) M15 1 1 0))) else (wp_X7_alive S0 (fun (v17 : Int32) => (∃ M24, wl_X7_deaths_79 x2 x1 (fun (v18 : Int64) (v19 : Int64) => (∃ M22, wl_X7_deaths_118 (fun (v20 : Int64) => (if x4 = 0 then (¬ v20 = 0 ∧ (k (v18 / v20))) else (¬ v20 = 0 ∧ (k (v19 / v20))))) M22 v18 v19)) M24 (v17.toInt64) 1 0)))))))) := hw
  refine lv_iload_n hx hb dX7_deaths_0 rfl (lv_at hl 1 rfl) ?_
  refine lv_iconst (v := 0) hx hb dX7_deaths_1 (by decide) ?_
  refine lv_iconst (v := 3) hx hb dX7_deaths_2 (by decide) ?_
  refine callF (va_runS (As := [.int x1, .int 0, .int 3]) (rest := []) ⟨hx, hb, hml, hown, hW⟩ (c_X7_in l D cI cZ x1 0 3 _ rfl) (cwS0 hW mS_X7_in ml_X7_78 ⟨Nat.le_of_ble_eq_true rfl, Nat.le_of_ble_eq_true rfl⟩) (preS0 hK hN hP hD [] rfl rfl) rfl rfl hl.1 rfl (lv_room (Nat.le_of_ble_eq_true rfl)) dX7_deaths_3 ⟨Nat.le_refl _, Nat.le_refl _⟩) ?_
  refine W.eq (g2 := F0 m 6 ls [.int (F_X7_in x1 0 3)]) rfl ?_
  refine lv_if_eq (tgt := 38) hx hb dX7_deaths_6 (by decide) (fun c1 => ?_) (fun c1 => ?_)
  · have hw := Eq.mp (if_pos c1) hw
    refine lv_ldc2 (v := (-1000000000000000002)) hx hb hown (hW _ kc_X7_189) dX7_deaths_38 ?_
    exact W.lret (v := (-1000000000000000002)) hx hb hr (fun t ht _ => ⟨⟨_, rfl, ⟨_, rfl, hw⟩⟩, ht⟩) (fun _ h => by cases h) dX7_deaths_41
  · have hw := Eq.mp (if_neg c1) hw
    refine lv_iload_n hx hb dX7_deaths_9 rfl (lv_at hl 2 rfl) ?_
    refine lv_iconst (v := 0) hx hb dX7_deaths_10 (by decide) ?_
    refine lv_bipush (v := 10) hx hb dX7_deaths_11 (by decide) ?_
    refine callF (va_runS (As := [.int x2, .int 0, .int 10]) (rest := []) ⟨hx, hb, hml, hown, hW⟩ (c_X7_in l D cI cZ x2 0 10 _ rfl) (cwS0 hW mS_X7_in ml_X7_78 ⟨Nat.le_of_ble_eq_true rfl, Nat.le_of_ble_eq_true rfl⟩) (preS0 hK hN hP hD [] rfl rfl) rfl rfl hl.1 rfl (lv_room (Nat.le_of_ble_eq_true rfl)) dX7_deaths_13 ⟨Nat.le_refl _, Nat.le_refl _⟩) ?_
    refine W.eq (g2 := F0 m 16 ls [.int (F_X7_in x2 0 10)]) rfl ?_
    refine lv_if_eq (tgt := 38) hx hb dX7_deaths_16 (by decide) (fun c2 => ?_) (fun c2 => ?_)
    · have hw := Eq.mp (if_pos c2) hw
      refine lv_ldc2 (v := (-1000000000000000002)) hx hb hown (hW _ kc_X7_189) dX7_deaths_38 ?_
      exact W.lret (v := (-1000000000000000002)) hx hb hr (fun t ht _ => ⟨⟨_, rfl, ⟨_, rfl, hw⟩⟩, ht⟩) (fun _ h => by cases h) dX7_deaths_41
    · have hw := Eq.mp (if_neg c2) hw
      refine lv_iload_n hx hb dX7_deaths_19 rfl (lv_at hl 3 rfl) ?_
      refine lv_iconst (v := 0) hx hb dX7_deaths_20 (by decide) ?_
      refine lv_iconst (v := 1) hx hb dX7_deaths_21 (by decide) ?_
      refine callF (va_runS (As := [.int x3, .int 0, .int 1]) (rest := []) ⟨hx, hb, hml, hown, hW⟩ (c_X7_in l D cI cZ x3 0 1 _ rfl) (cwS0 hW mS_X7_in ml_X7_78 ⟨Nat.le_of_ble_eq_true rfl, Nat.le_of_ble_eq_true rfl⟩) (preS0 hK hN hP hD [] rfl rfl) rfl rfl hl.1 rfl (lv_room (Nat.le_of_ble_eq_true rfl)) dX7_deaths_22 ⟨Nat.le_refl _, Nat.le_refl _⟩) ?_
      refine W.eq (g2 := F0 m 25 ls [.int (F_X7_in x3 0 1)]) rfl ?_
      refine lv_if_eq (tgt := 38) hx hb dX7_deaths_25 (by decide) (fun c3 => ?_) (fun c3 => ?_)
      · have hw := Eq.mp (if_pos c3) hw
        refine lv_ldc2 (v := (-1000000000000000002)) hx hb hown (hW _ kc_X7_189) dX7_deaths_38 ?_
        exact W.lret (v := (-1000000000000000002)) hx hb hr (fun t ht _ => ⟨⟨_, rfl, ⟨_, rfl, hw⟩⟩, ht⟩) (fun _ h => by cases h) dX7_deaths_41
      · have hw := Eq.mp (if_neg c3) hw
        refine lv_iload hx hb dX7_deaths_28 (lv_at hl 4 rfl) ?_
        refine lv_iconst (v := 0) hx hb dX7_deaths_30 (by decide) ?_
        refine lv_iconst (v := 1) hx hb dX7_deaths_31 (by decide) ?_
        refine callF (va_runS (As := [.int x4, .int 0, .int 1]) (rest := []) ⟨hx, hb, hml, hown, hW⟩ (c_X7_in l D cI cZ x4 0 1 _ rfl) (cwS0 hW mS_X7_in ml_X7_78 ⟨Nat.le_of_ble_eq_true rfl, Nat.le_of_ble_eq_true rfl⟩) (preS0 hK hN hP hD [] rfl rfl) rfl rfl hl.1 rfl (lv_room (Nat.le_of_ble_eq_true rfl)) dX7_deaths_32 ⟨Nat.le_refl _, Nat.le_refl _⟩) ?_
        refine W.eq (g2 := F0 m 35 ls [.int (F_X7_in x4 0 1)]) rfl ?_
        refine lv_if_ne (tgt := 42) hx hb dX7_deaths_35 (by decide) (fun c4 => ?_) (fun c4 => ?_)
        · have hw := Eq.mp (if_neg c4) hw
          refine lv_iload_n hx hb dX7_deaths_42 rfl (lv_at hl 3 rfl) ?_
          refine lv_if_ne (tgt := 55) hx hb dX7_deaths_43 (by decide) (fun c5 => ?_) (fun c5 => ?_)
          · have hw := Eq.mp (if_neg c5) hw
            refine lv_iload_n hx hb dX7_deaths_55 rfl (lv_at hl 1 rfl) ?_
            refine lv_istore (lv' := [(5, .int x1), (0, .ref (ad 0)), (1, .int x1), (2, .int x2), (3, .int x3), (4, .int x4)]) hx hb dX7_deaths_56 hl (by decide) rfl (fun ls hl => ?_)
            refine lv_iload_n hx hb dX7_deaths_58 rfl (lv_at hl 4 rfl) ?_
            refine lv_if_ne (tgt := 66) hx hb dX7_deaths_59 (by decide) (fun _ => ?_) (fun c9 => absurd c9 c5)
            refine lv_aload_n hx hb dX7_deaths_66 rfl (lv_at hl 1 rfl) ?_
            refine callR (va_runV (As := []) (rest := []) ⟨hx, hb, hml, hown, hW⟩ (c_X7_alive l D cI cZ ad  S0 _ hw) (cwV0 hW mV_X7_alive ml_X7_191 ⟨Nat.le_of_ble_eq_true rfl, Nat.le_of_ble_eq_true rfl⟩) (preV0 0 rfl rfl hK hN hP hD [0] rfl rfl) rfl rfl hl.1 rfl (lv_room (Nat.le_of_ble_eq_true rfl)) dX7_deaths_67 ⟨Nat.le_refl _, Nat.le_refl _⟩) (fun v9 hq => ?_)
            obtain ⟨v17, rfl, hw⟩ := hq
            refine W.eq (g2 := F0 m 70 ls [.int v17]) rfl ?_
            refine lv_i2l (v := v17.toInt64) hx hb dX7_deaths_70 rfl ?_
            refine lv_lstore (lv' := [(6, .long (v17.toInt64)), (5, .int x1), (0, .ref (ad 0)), (1, .int x1), (2, .int x2), (3, .int x3), (4, .int x4)]) hx hb dX7_deaths_71 hl (by decide) rfl (fun ls hl => ?_)
            refine lv_lconst (v := 1) hx hb dX7_deaths_73 (by decide) ?_
            refine lv_lstore (lv' := [(8, .long 1), (6, .long (v17.toInt64)), (5, .int x1), (0, .ref (ad 0)), (1, .int x1), (2, .int x2), (3, .int x3), (4, .int x4)]) hx hb dX7_deaths_74 hl (by decide) rfl (fun ls hl => ?_)
            refine lv_iconst (v := 0) hx hb dX7_deaths_76 (by decide) ?_
            refine lv_istore (lv' := [(10, .int 0), (8, .long 1), (6, .long (v17.toInt64)), (5, .int x1), (0, .ref (ad 0)), (1, .int x1), (2, .int x2), (3, .int x3), (4, .int x4)]) hx hb dX7_deaths_77 hl (by decide) rfl (fun ls hl => ?_)
            obtain ⟨N25, hw⟩ := hw
            refine L79 x1 _ (fun v18 v19 ls hl hw => ?_) N25 (v17.toInt64) 1 0 _ (lv_sub hl [6, 8, 3, 2, 1, 0] rfl) hw
            refine lv_lload hx hb dX7_deaths_110 (lv_at hl 1 rfl) ?_
            refine lv_lstore (lv' := [(10, .long v18), (4, .int x4), (6, .long v18), (8, .long v19)]) hx hb dX7_deaths_112 hl (by decide) rfl (fun ls hl => ?_)
            refine lv_lload hx hb dX7_deaths_114 (lv_at hl 3 rfl) ?_
            refine lv_lstore (lv' := [(12, .long v19), (10, .long v18), (4, .int x4), (6, .long v18), (8, .long v19)]) hx hb dX7_deaths_116 hl (by decide) rfl (fun ls hl => ?_)
            obtain ⟨N23, hw⟩ := hw
            refine L118 v18 v19 _ (fun v20 ls hl hw => ?_) N23 v18 v19 _ (lv_sub hl [2, 3, 4, 1, 0] rfl) hw
            refine lv_iload hx hb dX7_deaths_143 (lv_at hl 0 rfl) ?_
            refine lv_if_ne (tgt := 156) hx hb dX7_deaths_145 (by decide) (fun c21 => ?_) (fun c21 => ?_)
            · have hw := Eq.mp (if_neg c21) hw
              refine lv_lload hx hb dX7_deaths_156 (lv_at hl 2 rfl) ?_
              refine lv_lload hx hb dX7_deaths_158 (lv_at hl 3 rfl) ?_
              refine lv_ldiv hx hb dX7_deaths_160 hw.1 ?_
              have hw := hw.2
              exact W.lret (v := (v19 / v20)) hx hb hr (fun t ht _ => ⟨⟨_, rfl, ⟨_, rfl, hw⟩⟩, ht⟩) (fun _ h => by cases h) dX7_deaths_161
            · have hw := Eq.mp (if_pos c21) hw
              refine lv_lload hx hb dX7_deaths_148 (lv_at hl 1 rfl) ?_
              refine lv_lload hx hb dX7_deaths_150 (lv_at hl 3 rfl) ?_
              refine lv_ldiv hx hb dX7_deaths_152 hw.1 ?_
              have hw := hw.2
              refine lv_goto (tgt := 161) hx hb dX7_deaths_153 (by decide) ?_
              exact W.lret (v := (v18 / v20)) hx hb hr (fun t ht _ => ⟨⟨_, rfl, ⟨_, rfl, hw⟩⟩, ht⟩) (fun _ h => by cases h) dX7_deaths_161
          · have hw := Eq.mp (if_pos c5) hw
            refine lv_iload_n hx hb dX7_deaths_46 rfl (lv_at hl 1 rfl) ?_
            refine lv_aload_n hx hb dX7_deaths_47 rfl (lv_at hl 0 rfl) ?_
            refine callR (va_runV (As := []) (rest := [.int x1]) ⟨hx, hb, hml, hown, hW⟩ (c_X7_alive l D cI cZ ad  S0 _ hw) (cwV0 hW mV_X7_alive ml_X7_191 ⟨Nat.le_of_ble_eq_true rfl, Nat.le_of_ble_eq_true rfl⟩) (preV0 0 rfl rfl hK hN hP hD [0] rfl rfl) rfl rfl hl.1 rfl (lv_room (Nat.le_of_ble_eq_true rfl)) dX7_deaths_48 ⟨Nat.le_refl _, Nat.le_refl _⟩) (fun v9 hq => ?_)
            obtain ⟨v6, rfl, hw⟩ := hq
            refine W.eq (g2 := F0 m 51 ls [.int v6, .int x1]) rfl ?_
            refine lv_imul hx hb dX7_deaths_51 ?_
            refine lv_goto (tgt := 56) hx hb dX7_deaths_52 (by decide) ?_
            refine lv_istore (lv' := [(5, .int (x1 * v6)), (0, .ref (ad 0)), (1, .int x1), (2, .int x2), (3, .int x3), (4, .int x4)]) hx hb dX7_deaths_56 hl (by decide) rfl (fun ls hl => ?_)
            refine lv_iload_n hx hb dX7_deaths_58 rfl (lv_at hl 4 rfl) ?_
            refine lv_if_ne (tgt := 66) hx hb dX7_deaths_59 (by decide) (fun c9 => absurd c5 c9) (fun _ => ?_)
            refine lv_lconst (v := 1) hx hb dX7_deaths_62 (by decide) ?_
            refine lv_goto (tgt := 71) hx hb dX7_deaths_63 (by decide) ?_
            refine lv_lstore (lv' := [(6, .long 1), (5, .int (x1 * v6)), (0, .ref (ad 0)), (1, .int x1), (2, .int x2), (3, .int x3), (4, .int x4)]) hx hb dX7_deaths_71 hl (by decide) rfl (fun ls hl => ?_)
            refine lv_lconst (v := 1) hx hb dX7_deaths_73 (by decide) ?_
            refine lv_lstore (lv' := [(8, .long 1), (6, .long 1), (5, .int (x1 * v6)), (0, .ref (ad 0)), (1, .int x1), (2, .int x2), (3, .int x3), (4, .int x4)]) hx hb dX7_deaths_74 hl (by decide) rfl (fun ls hl => ?_)
            refine lv_iconst (v := 0) hx hb dX7_deaths_76 (by decide) ?_
            refine lv_istore (lv' := [(10, .int 0), (8, .long 1), (6, .long 1), (5, .int (x1 * v6)), (0, .ref (ad 0)), (1, .int x1), (2, .int x2), (3, .int x3), (4, .int x4)]) hx hb dX7_deaths_77 hl (by decide) rfl (fun ls hl => ?_)
            obtain ⟨N16, hw⟩ := hw
            refine L79 (x1 * v6) _ (fun v8 v9 ls hl hw => ?_) N16 1 1 0 _ (lv_sub hl [6, 8, 3, 2, 1, 0] rfl) hw
            refine lv_lload hx hb dX7_deaths_110 (lv_at hl 1 rfl) ?_
            refine lv_lstore (lv' := [(10, .long v8), (4, .int x4), (6, .long v8), (8, .long v9)]) hx hb dX7_deaths_112 hl (by decide) rfl (fun ls hl => ?_)
            refine lv_lload hx hb dX7_deaths_114 (lv_at hl 3 rfl) ?_
            refine lv_lstore (lv' := [(12, .long v9), (10, .long v8), (4, .int x4), (6, .long v8), (8, .long v9)]) hx hb dX7_deaths_116 hl (by decide) rfl (fun ls hl => ?_)
            obtain ⟨N14, hw⟩ := hw
            refine L118 v8 v9 _ (fun v11 ls hl hw => ?_) N14 v8 v9 _ (lv_sub hl [2, 3, 4, 1, 0] rfl) hw
            refine lv_iload hx hb dX7_deaths_143 (lv_at hl 0 rfl) ?_
            refine lv_if_ne (tgt := 156) hx hb dX7_deaths_145 (by decide) (fun c12 => ?_) (fun c12 => ?_)
            · have hw := Eq.mp (if_neg c12) hw
              refine lv_lload hx hb dX7_deaths_156 (lv_at hl 2 rfl) ?_
              refine lv_lload hx hb dX7_deaths_158 (lv_at hl 3 rfl) ?_
              refine lv_ldiv hx hb dX7_deaths_160 hw.1 ?_
              have hw := hw.2
              exact W.lret (v := (v9 / v11)) hx hb hr (fun t ht _ => ⟨⟨_, rfl, ⟨_, rfl, hw⟩⟩, ht⟩) (fun _ h => by cases h) dX7_deaths_161
            · have hw := Eq.mp (if_pos c12) hw
              refine lv_lload hx hb dX7_deaths_148 (lv_at hl 1 rfl) ?_
              refine lv_lload hx hb dX7_deaths_150 (lv_at hl 3 rfl) ?_
              refine lv_ldiv hx hb dX7_deaths_152 hw.1 ?_
              have hw := hw.2
              refine lv_goto (tgt := 161) hx hb dX7_deaths_153 (by decide) ?_
              exact W.lret (v := (v8 / v11)) hx hb hr (fun t ht _ => ⟨⟨_, rfl, ⟨_, rfl, hw⟩⟩, ht⟩) (fun _ h => by cases h) dX7_deaths_161
        · have hw := Eq.mp (if_pos c4) hw
          refine lv_ldc2 (v := (-1000000000000000002)) hx hb hown (hW _ kc_X7_189) dX7_deaths_38 ?_
          exact W.lret (v := (-1000000000000000002)) hx hb hr (fun t ht _ => ⟨⟨_, rfl, ⟨_, rfl, hw⟩⟩, ht⟩) (fun _ h => by cases h) dX7_deaths_41
set_option maxHeartbeats 4000000 in
set_option maxRecDepth 100000 in
theorem c_X7_year (l : Launch) (D : va_G) (cI cZ : ClassId) (ad : Nat → Nat) (S0 : St) (x1 : Int32) (x2 : Int32) (x3 : Int32) (k : Int32 → St → Prop) (hw : wp_X7_year S0 x1 x2 x3 k) : KW l yX7_year cX7_year 9 (some .int) 2 43 D cI cZ [.ref (ad 0), .int x1, .int x2, .int x3] [mcells cI cZ ad 0 S0] (fun v (u : St) => ∃ r, v = some (.int r) ∧ k r u) (fun u : St => [mcells cI cZ ad 0 u]) := by
  refine Met.ofE (by decide +kernel) (Nat.le_of_ble_eq_true rfl) ?_
  intro p e s m below meth c E ls hl
  obtain ⟨hx, hb, hr, hml, hW, hown, hlocks, hP, hK, hD, hN⟩ := E
  have hl : lv_has ls 9 [(0, .ref (ad 0)), (1, .int x1), (2, .int x2), (3, .int x3)] := hl
  have hS : va_S (cOf (jn [mcells cI cZ ad 0 S0])) s.heap s.heap [] := va_S.rf
  have L43 : ∀  (kx : St → Prop), (∀ (S0q : St) (H : Heap) (locs : List Loc), va_P D classes (jn [mcells cI cZ ad 0 S0q]) H → va_D (cOf (jn [mcells cI cZ ad 0 S0])) (jn [mcells cI cZ ad 0 S0q]) → va_S (cOf (jn [mcells cI cZ ad 0 S0])) s.heap H locs → ∀ ls : Array Slot, lv_has ls 9 [(0, .ref (ad 0)), (3, .int x3)] → kx S0q → W p l e { frames := 2, cells := 0, slots := 0, locals := 43 } s m ([.ref (ad 0), .int x1, .int x2, .int x3] : List Value).toArray below meth c H locs 0 0 (MQ below (QW (fun v (u : St) => ∃ r, v = some (.int r) ∧ k r u) D (fun u : St => [mcells cI cZ ad 0 u]) [mcells cI cZ ad 0 S0]) ([.ref (ad 0), .int x1, .int x2, .int x3] : List Value).toArray s 0 0 (cOf (jn [mcells cI cZ ad 0 S0]))) (F0 m 188 ls [])) → ∀ (N43 : Nat) (y4 : Int32) (y5 : Int32) (S0q : St) (H : Heap) (locs : List Loc), va_P D classes (jn [mcells cI cZ ad 0 S0q]) H → va_D (cOf (jn [mcells cI cZ ad 0 S0])) (jn [mcells cI cZ ad 0 S0q]) → va_S (cOf (jn [mcells cI cZ ad 0 S0])) s.heap H locs → ∀ ls : Array Slot, lv_has ls 9 [(0, .ref (ad 0)), (2, .int x2), (3, .int x3), (4, .int y4), (5, .int y5)] → wl_X7_year_43 x2 kx N43 y4 y5 S0q → W p l e { frames := 2, cells := 0, slots := 0, locals := 43 } s m ([.ref (ad 0), .int x1, .int x2, .int x3] : List Value).toArray below meth c H locs 0 0 (MQ below (QW (fun v (u : St) => ∃ r, v = some (.int r) ∧ k r u) D (fun u : St => [mcells cI cZ ad 0 u]) [mcells cI cZ ad 0 S0]) ([.ref (ad 0), .int x1, .int x2, .int x3] : List Value).toArray s 0 0 (cOf (jn [mcells cI cZ ad 0 S0]))) (F0 m 43 ls []) := by
    intro  kx hxt N43
    induction N43 with
    | zero => intro y4 y5 S0q H locs hP hD hS ls hl hw; exact False.elim hw
    | succ N43 ih =>
      intro y4 y5 S0q H locs hP hD hS ls hl hw
      have hw : (if x2 ≤ y5 then (kx S0q) else (¬ (S0q.1 0) = 0 ∧ (¬ (S0q.1 0) = 0 ∧ (if (((((75 : Int32) * y4) + 74) - (((75 : Int32) * y4) + 74) / 65537 * 65537) - ((((75 : Int32) * y4) + 74) - (((75 : Int32) * y4) + 74) / 65537 * 65537) / 8 * 8) = 0 then (wp_X7_whyNot S0q ((((((75 : Int32) * y4) + 74) - (((75 : Int32) * y4) + 74) / 65537 * 65537) / 8) - (((((75 : Int32) * y4) + 74) - (((75 : Int32) * y4) + 74) / 65537 * 65537) / 8) / (S0q.1 0) * (S0q.1 0)) 115 (fun (v7 : Int32) => (if v7 = 0 then (vp_in ((((((75 : Int32) * y4) + 74) - (((75 : Int32) * y4) + 74) / 65537 * 65537) / 8) - (((((75 : Int32) * y4) + 74) - (((75 : Int32) * y4) + 74) / 65537 * 65537) / 8) / (S0q.1 0) * (S0q.1 0)) 6 ∧ (wl_X7_year_43 x2 kx N43 ((((75 : Int32) * y4) + 74) - (((75 : Int32) * y4) + 74) / 65537 * 65537) (y5 + 1) (sA S0q 19 (upd (S0q.2 19) (((((((75 : Int32) * y4) + 74) - (((75 : Int32) * y4) + 74) / 65537 * 65537) / 8) - (((((75 : Int32) * y4) + 74) - (((75 : Int32) * y4) + 74) / 65537 * 65537) / 8) / (S0q.1 0) * (S0q.1 0)) : Int32).toNatClampNeg 1)))) else (vp_in ((((((75 : Int32) * y4) + 74) - (((75 : Int32) * y4) + 74) / 65537 * 65537) / 8) - (((((75 : Int32) * y4) + 74) - (((75 : Int32) * y4) + 74) / 65537 * 65537) / 8) / (S0q.1 0) * (S0q.1 0)) 6 ∧ (vp_in ((((((75 : Int32) * y4) + 74) - (((75 : Int32) * y4) + 74) / 65537 * 65537) / 8) - (((((75 : Int32) * y4) + 74) - (((75 : Int32) * y4) + 74) / 65537 * 65537) / 8) / (S0q.1 0) * (S0q.1 0)) 6 ∧ (wl_X7_year_43 x2 kx N43 ((((75 : Int32) * y4) + 74) - (((75 : Int32) * y4) + 74) / 65537 * 65537) (y5 + 1) (sA S0q 19 (upd (S0q.2 19) (((((((75 : Int32) * y4) + 74) - (((75 : Int32) * y4) + 74) / 65537 * 65537) / 8) - (((((75 : Int32) * y4) + 74) - (((75 : Int32) * y4) + 74) / 65537 * 65537) / 8) / (S0q.1 0) * (S0q.1 0)) : Int32).toNatClampNeg ((S0q.2 19) (((((((75 : Int32) * y4) + 74) - (((75 : Int32) * y4) + 74) / 65537 * 65537) / 8) - (((((75 : Int32) * y4) + 74) - (((75 : Int32) * y4) + 74) / 65537 * 65537) / 8) / (S0q.1 0) * (S0q.1 0)) : Int32).toNatClampNeg))))))))) else (if (((((75 : Int32) * y4) + 74) - (((75 : Int32) * y4) + 74) / 65537 * 65537) - ((((75 : Int32) * y4) + 74) - (((75 : Int32) * y4) + 74) / 65537 * 65537) / 8 * 8) = 1 then (wp_X7_whyNoHats S0q ((((((75 : Int32) * y4) + 74) - (((75 : Int32) * y4) + 74) / 65537 * 65537) / 8) - (((((75 : Int32) * y4) + 74) - (((75 : Int32) * y4) + 74) / 65537 * 65537) / 8) / (S0q.1 0) * (S0q.1 0)) ((((((75 : Int32) * y4) + 74) - (((75 : Int32) * y4) + 74) / 65537 * 65537) / 64) - (((((75 : Int32) * y4) + 74) - (((75 : Int32) * y4) + 74) / 65537 * 65537) / 64) / (S0q.1 0) * (S0q.1 0)) (fun (v12 : Int32) => (if v12 = 0 then (wp_X7_hats S0q ((((((75 : Int32) * y4) + 74) - (((75 : Int32) * y4) + 74) / 65537 * 65537) / 8) - (((((75 : Int32) * y4) + 74) - (((75 : Int32) * y4) + 74) / 65537 * 65537) / 8) / (S0q.1 0) * (S0q.1 0)) ((((((75 : Int32) * y4) + 74) - (((75 : Int32) * y4) + 74) / 65537 * 65537) / 64) - (((((75 : Int32) * y4) + 74) - (((75 : Int32) * y4) + 74) / 65537 * 65537) / 64) / (S0q.1 0) * (S0q.1 0)) (fun (Z14 : St) => (wl_X7_year_43 x2 kx N43 ((((75 : Int32) * y4) + 74) - (((75 : Int32) * y4) + 74) / 65537 * 65537) (y5 + 1) Z14))) else (wl_X7_year_43 x2 kx N43 ((((75 : Int32) * y4) + 74) - (((75 : Int32) * y4) + 74) / 65537 * 65537) (y5 + 1) S0q)))) else (if 4 ≤ (((((75 : Int32) * y4) + 74) - (((75 : Int32) * y4) + 74) / 65537 * 65537) - ((((75 : Int32) * y4) + 74) - (((75 : Int32) * y4) + 74) / 65537 * 65537) / 8 * 8) then (wp_X7_days S0q ((S0q.1 1) - (S0q.1 16)) (fun (Z16 : St) => (wl_X7_year_43 x2 kx N43 ((((75 : Int32) * y4) + 74) - (((75 : Int32) * y4) + 74) / 65537 * 65537) (y5 + 1) Z16))) else (wp_X7_days S0q 10 (fun (Z17 : St) => (wl_X7_year_43 x2 kx N43 ((((75 : Int32) * y4) + 74) - (((75 : Int32) * y4) + 74) / 65537 * 65537) (y5 + 1) Z17))))))))) := hw
      refine lv_iload hx hb dX7_year_43 (lv_at hl 4 rfl) ?_
      refine lv_iload_n hx hb dX7_year_45 rfl (lv_at hl 1 rfl) ?_
      refine lv_icmp_ge (tgt := 188) hx hb dX7_year_46 (by decide) (fun c5 => ?_) (fun c5 => ?_)
      · have hw := Eq.mp (if_pos c5) hw
        exact hxt S0q _ _ hP hD hS _ (lv_sub hl [0, 2] rfl) hw
      · have hw := Eq.mp (if_neg c5) hw
        refine lv_bipush (v := 75) hx hb dX7_year_49 (by decide) ?_
        refine lv_iload hx hb dX7_year_51 (lv_at hl 3 rfl) ?_
        refine lv_imul hx hb dX7_year_53 ?_
        refine lv_bipush (v := 74) hx hb dX7_year_54 (by decide) ?_
        refine lv_iadd hx hb dX7_year_56 ?_
        refine lv_ldc (v := 65537) hx hb hown (hW _ kc_X7_196) dX7_year_57 ?_
        refine lv_irem hx hb dX7_year_59 (by decide) ?_
        refine lv_istore (lv' := [(4, .int ((((75 : Int32) * y4) + 74) - (((75 : Int32) * y4) + 74) / 65537 * 65537)), (0, .ref (ad 0)), (2, .int x2), (3, .int x3), (5, .int y5)]) hx hb dX7_year_60 hl (by decide) rfl (fun ls hl => ?_)
        refine lv_iload hx hb dX7_year_62 (lv_at hl 0 rfl) ?_
        refine lv_bipush (v := 8) hx hb dX7_year_64 (by decide) ?_
        refine lv_irem hx hb dX7_year_66 (by decide) ?_
        refine lv_istore (lv' := [(6, .int (((((75 : Int32) * y4) + 74) - (((75 : Int32) * y4) + 74) / 65537 * 65537) - ((((75 : Int32) * y4) + 74) - (((75 : Int32) * y4) + 74) / 65537 * 65537) / 8 * 8)), (4, .int ((((75 : Int32) * y4) + 74) - (((75 : Int32) * y4) + 74) / 65537 * 65537)), (0, .ref (ad 0)), (2, .int x2), (3, .int x3), (5, .int y5)]) hx hb dX7_year_67 hl (by decide) rfl (fun ls hl => ?_)
        refine lv_iload hx hb dX7_year_69 (lv_at hl 1 rfl) ?_
        refine lv_bipush (v := 8) hx hb dX7_year_71 (by decide) ?_
        refine lv_idiv hx hb dX7_year_73 (by decide) ?_
        refine lv_aload_n hx hb dX7_year_74 rfl (lv_at hl 2 rfl) ?_
        refine va_get (D := D) (ci := 7) (v := .int (S0q.1 0)) (C := RX7) (T := TX7) (N := 27) hx hb hW inW_X7 hown hK hP 0 rfl rfl 0 (by decide) (hW _ fl_X7_7) (fun _ h9 => h9) rfl dX7_year_75 ?_
        refine lv_irem hx hb dX7_year_78 hw.1 ?_
        have hw := hw.2
        refine lv_istore (lv' := [(7, .int ((((((75 : Int32) * y4) + 74) - (((75 : Int32) * y4) + 74) / 65537 * 65537) / 8) - (((((75 : Int32) * y4) + 74) - (((75 : Int32) * y4) + 74) / 65537 * 65537) / 8) / (S0q.1 0) * (S0q.1 0))), (6, .int (((((75 : Int32) * y4) + 74) - (((75 : Int32) * y4) + 74) / 65537 * 65537) - ((((75 : Int32) * y4) + 74) - (((75 : Int32) * y4) + 74) / 65537 * 65537) / 8 * 8)), (4, .int ((((75 : Int32) * y4) + 74) - (((75 : Int32) * y4) + 74) / 65537 * 65537)), (0, .ref (ad 0)), (2, .int x2), (3, .int x3), (5, .int y5)]) hx hb dX7_year_79 hl (by decide) rfl (fun ls hl => ?_)
        refine lv_iload hx hb dX7_year_81 (lv_at hl 2 rfl) ?_
        refine lv_bipush (v := 64) hx hb dX7_year_83 (by decide) ?_
        refine lv_idiv hx hb dX7_year_85 (by decide) ?_
        refine lv_aload_n hx hb dX7_year_86 rfl (lv_at hl 3 rfl) ?_
        refine va_get (D := D) (ci := 7) (v := .int (S0q.1 0)) (C := RX7) (T := TX7) (N := 27) hx hb hW inW_X7 hown hK hP 0 rfl rfl 0 (by decide) (hW _ fl_X7_7) (fun _ h9 => h9) rfl dX7_year_87 ?_
        refine lv_irem hx hb dX7_year_90 hw.1 ?_
        have hw := hw.2
        refine lv_istore (lv' := [(8, .int ((((((75 : Int32) * y4) + 74) - (((75 : Int32) * y4) + 74) / 65537 * 65537) / 64) - (((((75 : Int32) * y4) + 74) - (((75 : Int32) * y4) + 74) / 65537 * 65537) / 64) / (S0q.1 0) * (S0q.1 0))), (7, .int ((((((75 : Int32) * y4) + 74) - (((75 : Int32) * y4) + 74) / 65537 * 65537) / 8) - (((((75 : Int32) * y4) + 74) - (((75 : Int32) * y4) + 74) / 65537 * 65537) / 8) / (S0q.1 0) * (S0q.1 0))), (6, .int (((((75 : Int32) * y4) + 74) - (((75 : Int32) * y4) + 74) / 65537 * 65537) - ((((75 : Int32) * y4) + 74) - (((75 : Int32) * y4) + 74) / 65537 * 65537) / 8 * 8)), (4, .int ((((75 : Int32) * y4) + 74) - (((75 : Int32) * y4) + 74) / 65537 * 65537)), (0, .ref (ad 0)), (2, .int x2), (3, .int x3), (5, .int y5)]) hx hb dX7_year_91 hl (by decide) rfl (fun ls hl => ?_)
        refine lv_iload hx hb dX7_year_93 (lv_at hl 2 rfl) ?_
        refine lv_if_ne (tgt := 130) hx hb dX7_year_95 (by decide) (fun c6 => ?_) (fun c6 => ?_)
        · have hw := Eq.mp (if_neg c6) hw
          refine lv_iload hx hb dX7_year_130 (lv_at hl 2 rfl) ?_
          refine lv_iconst (v := 1) hx hb dX7_year_132 (by decide) ?_
          refine lv_icmp_ne (tgt := 158) hx hb dX7_year_133 (by decide) (fun c11 => ?_) (fun c11 => ?_)
          · have hw := Eq.mp (if_neg c11) hw
            refine lv_aload_n hx hb dX7_year_158 rfl (lv_at hl 4 rfl) ?_
            refine lv_iload hx hb dX7_year_159 (lv_at hl 2 rfl) ?_
            refine lv_iconst (v := 4) hx hb dX7_year_161 (by decide) ?_
            refine lv_icmp_ge (tgt := 170) hx hb dX7_year_162 (by decide) (fun c15 => ?_) (fun c15 => ?_)
            · have hw := Eq.mp (if_pos c15) hw
              refine lv_aload_n hx hb dX7_year_170 rfl (lv_at hl 4 rfl) ?_
              refine va_get (D := D) (ci := 7) (v := .int (S0q.1 1)) (C := RX7) (T := TX7) (N := 27) hx hb hW inW_X7 hown hK hP 0 rfl rfl 1 (by decide) (hW _ fl_X7_13) (fun _ h9 => h9) rfl dX7_year_171 ?_
              refine lv_aload_n hx hb dX7_year_174 rfl (lv_at hl 4 rfl) ?_
              refine va_get (D := D) (ci := 7) (v := .int (S0q.1 16)) (C := RX7) (T := TX7) (N := 27) hx hb hW inW_X7 hown hK hP 0 rfl rfl 16 (by decide) (hW _ fl_X7_102) (fun _ h9 => h9) rfl dX7_year_175 ?_
              refine lv_isub hx hb dX7_year_178 ?_
              refine callW (va_runV (As := [.int ((S0q.1 1) - (S0q.1 16))]) (rest := []) ⟨hx, hb, hml, hown, hW⟩ (c_X7_days l D cI cZ ad  S0q ((S0q.1 1) - (S0q.1 16)) _ hw) (cwV0 hW mV_X7_days ml_X7_117 ⟨Nat.le_of_ble_eq_true rfl, Nat.le_of_ble_eq_true rfl⟩) (preV0 0 rfl rfl hK hN hP hD [0] rfl rfl) rfl rfl hl.1 rfl (lv_room (Nat.le_of_ble_eq_true rfl)) dX7_year_179 ⟨Nat.le_refl _, Nat.le_refl _⟩) hP hD hS [0] rfl rfl (fun _ => rfl) (fun v9 u9 H locs hq hP hD hS => ?_)
              obtain ⟨rfl, hw⟩ := hq
              obtain ⟨Z16, rfl⟩ : ∃ z, z = u9 := ⟨_, rfl⟩
              have hP : va_P D classes (jn [mcells cI cZ ad 0 Z16]) H := hP
              have hD : va_D (cOf (jn [mcells cI cZ ad 0 S0])) (jn [mcells cI cZ ad 0 Z16]) := hD
              refine W.eq (g2 := F0 m 182 ls []) rfl ?_
              refine lv_iinc (v := (y5 + 1)) (lv' := [(5, .int (y5 + 1)), (8, .int ((((((75 : Int32) * y4) + 74) - (((75 : Int32) * y4) + 74) / 65537 * 65537) / 64) - (((((75 : Int32) * y4) + 74) - (((75 : Int32) * y4) + 74) / 65537 * 65537) / 64) / (S0q.1 0) * (S0q.1 0))), (7, .int ((((((75 : Int32) * y4) + 74) - (((75 : Int32) * y4) + 74) / 65537 * 65537) / 8) - (((((75 : Int32) * y4) + 74) - (((75 : Int32) * y4) + 74) / 65537 * 65537) / 8) / (S0q.1 0) * (S0q.1 0))), (6, .int (((((75 : Int32) * y4) + 74) - (((75 : Int32) * y4) + 74) / 65537 * 65537) - ((((75 : Int32) * y4) + 74) - (((75 : Int32) * y4) + 74) / 65537 * 65537) / 8 * 8)), (4, .int ((((75 : Int32) * y4) + 74) - (((75 : Int32) * y4) + 74) / 65537 * 65537)), (0, .ref (ad 0)), (2, .int x2), (3, .int x3)]) hx hb dX7_year_182 hl (k := 7) rfl rfl (by decide) rfl (fun ls hl => ?_)
              refine lv_goto (tgt := 43) hx hb dX7_year_185 (by decide) ?_
              exact ih ((((75 : Int32) * y4) + 74) - (((75 : Int32) * y4) + 74) / 65537 * 65537) (y5 + 1) Z16 _ _ hP hD hS _ (lv_sub hl [5, 6, 7, 4, 0] rfl) hw
            · have hw := Eq.mp (if_neg c15) hw
              refine lv_bipush (v := 10) hx hb dX7_year_165 (by decide) ?_
              refine lv_goto (tgt := 179) hx hb dX7_year_167 (by decide) ?_
              refine callW (va_runV (As := [.int 10]) (rest := []) ⟨hx, hb, hml, hown, hW⟩ (c_X7_days l D cI cZ ad  S0q 10 _ hw) (cwV0 hW mV_X7_days ml_X7_117 ⟨Nat.le_of_ble_eq_true rfl, Nat.le_of_ble_eq_true rfl⟩) (preV0 0 rfl rfl hK hN hP hD [0] rfl rfl) rfl rfl hl.1 rfl (lv_room (Nat.le_of_ble_eq_true rfl)) dX7_year_179 ⟨Nat.le_refl _, Nat.le_refl _⟩) hP hD hS [0] rfl rfl (fun _ => rfl) (fun v9 u9 H locs hq hP hD hS => ?_)
              obtain ⟨rfl, hw⟩ := hq
              obtain ⟨Z17, rfl⟩ : ∃ z, z = u9 := ⟨_, rfl⟩
              have hP : va_P D classes (jn [mcells cI cZ ad 0 Z17]) H := hP
              have hD : va_D (cOf (jn [mcells cI cZ ad 0 S0])) (jn [mcells cI cZ ad 0 Z17]) := hD
              refine W.eq (g2 := F0 m 182 ls []) rfl ?_
              refine lv_iinc (v := (y5 + 1)) (lv' := [(5, .int (y5 + 1)), (8, .int ((((((75 : Int32) * y4) + 74) - (((75 : Int32) * y4) + 74) / 65537 * 65537) / 64) - (((((75 : Int32) * y4) + 74) - (((75 : Int32) * y4) + 74) / 65537 * 65537) / 64) / (S0q.1 0) * (S0q.1 0))), (7, .int ((((((75 : Int32) * y4) + 74) - (((75 : Int32) * y4) + 74) / 65537 * 65537) / 8) - (((((75 : Int32) * y4) + 74) - (((75 : Int32) * y4) + 74) / 65537 * 65537) / 8) / (S0q.1 0) * (S0q.1 0))), (6, .int (((((75 : Int32) * y4) + 74) - (((75 : Int32) * y4) + 74) / 65537 * 65537) - ((((75 : Int32) * y4) + 74) - (((75 : Int32) * y4) + 74) / 65537 * 65537) / 8 * 8)), (4, .int ((((75 : Int32) * y4) + 74) - (((75 : Int32) * y4) + 74) / 65537 * 65537)), (0, .ref (ad 0)), (2, .int x2), (3, .int x3)]) hx hb dX7_year_182 hl (k := 7) rfl rfl (by decide) rfl (fun ls hl => ?_)
              refine lv_goto (tgt := 43) hx hb dX7_year_185 (by decide) ?_
              exact ih ((((75 : Int32) * y4) + 74) - (((75 : Int32) * y4) + 74) / 65537 * 65537) (y5 + 1) Z17 _ _ hP hD hS _ (lv_sub hl [5, 6, 7, 4, 0] rfl) hw
          · have hw := Eq.mp (if_pos c11) hw
            refine lv_aload_n hx hb dX7_year_136 rfl (lv_at hl 4 rfl) ?_
            refine lv_iload hx hb dX7_year_137 (lv_at hl 1 rfl) ?_
            refine lv_iload hx hb dX7_year_139 (lv_at hl 0 rfl) ?_
            refine callR (va_runV (As := [.int ((((((75 : Int32) * y4) + 74) - (((75 : Int32) * y4) + 74) / 65537 * 65537) / 8) - (((((75 : Int32) * y4) + 74) - (((75 : Int32) * y4) + 74) / 65537 * 65537) / 8) / (S0q.1 0) * (S0q.1 0)), .int ((((((75 : Int32) * y4) + 74) - (((75 : Int32) * y4) + 74) / 65537 * 65537) / 64) - (((((75 : Int32) * y4) + 74) - (((75 : Int32) * y4) + 74) / 65537 * 65537) / 64) / (S0q.1 0) * (S0q.1 0))]) (rest := []) ⟨hx, hb, hml, hown, hW⟩ (c_X7_whyNoHats l D cI cZ ad  S0q ((((((75 : Int32) * y4) + 74) - (((75 : Int32) * y4) + 74) / 65537 * 65537) / 8) - (((((75 : Int32) * y4) + 74) - (((75 : Int32) * y4) + 74) / 65537 * 65537) / 8) / (S0q.1 0) * (S0q.1 0)) ((((((75 : Int32) * y4) + 74) - (((75 : Int32) * y4) + 74) / 65537 * 65537) / 64) - (((((75 : Int32) * y4) + 74) - (((75 : Int32) * y4) + 74) / 65537 * 65537) / 64) / (S0q.1 0) * (S0q.1 0)) _ hw) (cwV0 hW mV_X7_whyNoHats ml_X7_121 ⟨Nat.le_of_ble_eq_true rfl, Nat.le_of_ble_eq_true rfl⟩) (preV0 0 rfl rfl hK hN hP hD [0] rfl rfl) rfl rfl hl.1 rfl (lv_room (Nat.le_of_ble_eq_true rfl)) dX7_year_141 ⟨Nat.le_refl _, Nat.le_refl _⟩) (fun v9 hq => ?_)
            obtain ⟨v12, rfl, hw⟩ := hq
            refine W.eq (g2 := F0 m 144 ls [.int v12]) rfl ?_
            refine lv_if_ne (tgt := 182) hx hb dX7_year_144 (by decide) (fun c13 => ?_) (fun c13 => ?_)
            · have hw := Eq.mp (if_neg c13) hw
              refine lv_iinc (v := (y5 + 1)) (lv' := [(5, .int (y5 + 1)), (8, .int ((((((75 : Int32) * y4) + 74) - (((75 : Int32) * y4) + 74) / 65537 * 65537) / 64) - (((((75 : Int32) * y4) + 74) - (((75 : Int32) * y4) + 74) / 65537 * 65537) / 64) / (S0q.1 0) * (S0q.1 0))), (7, .int ((((((75 : Int32) * y4) + 74) - (((75 : Int32) * y4) + 74) / 65537 * 65537) / 8) - (((((75 : Int32) * y4) + 74) - (((75 : Int32) * y4) + 74) / 65537 * 65537) / 8) / (S0q.1 0) * (S0q.1 0))), (6, .int (((((75 : Int32) * y4) + 74) - (((75 : Int32) * y4) + 74) / 65537 * 65537) - ((((75 : Int32) * y4) + 74) - (((75 : Int32) * y4) + 74) / 65537 * 65537) / 8 * 8)), (4, .int ((((75 : Int32) * y4) + 74) - (((75 : Int32) * y4) + 74) / 65537 * 65537)), (0, .ref (ad 0)), (2, .int x2), (3, .int x3)]) hx hb dX7_year_182 hl (k := 7) rfl rfl (by decide) rfl (fun ls hl => ?_)
              refine lv_goto (tgt := 43) hx hb dX7_year_185 (by decide) ?_
              exact ih ((((75 : Int32) * y4) + 74) - (((75 : Int32) * y4) + 74) / 65537 * 65537) (y5 + 1) S0q _ _ hP hD hS _ (lv_sub hl [5, 6, 7, 4, 0] rfl) hw
            · have hw := Eq.mp (if_pos c13) hw
              refine lv_aload_n hx hb dX7_year_147 rfl (lv_at hl 4 rfl) ?_
              refine lv_iload hx hb dX7_year_148 (lv_at hl 1 rfl) ?_
              refine lv_iload hx hb dX7_year_150 (lv_at hl 0 rfl) ?_
              refine callW (va_runV (As := [.int ((((((75 : Int32) * y4) + 74) - (((75 : Int32) * y4) + 74) / 65537 * 65537) / 8) - (((((75 : Int32) * y4) + 74) - (((75 : Int32) * y4) + 74) / 65537 * 65537) / 8) / (S0q.1 0) * (S0q.1 0)), .int ((((((75 : Int32) * y4) + 74) - (((75 : Int32) * y4) + 74) / 65537 * 65537) / 64) - (((((75 : Int32) * y4) + 74) - (((75 : Int32) * y4) + 74) / 65537 * 65537) / 64) / (S0q.1 0) * (S0q.1 0))]) (rest := []) ⟨hx, hb, hml, hown, hW⟩ (c_X7_hats l D cI cZ ad  S0q ((((((75 : Int32) * y4) + 74) - (((75 : Int32) * y4) + 74) / 65537 * 65537) / 8) - (((((75 : Int32) * y4) + 74) - (((75 : Int32) * y4) + 74) / 65537 * 65537) / 8) / (S0q.1 0) * (S0q.1 0)) ((((((75 : Int32) * y4) + 74) - (((75 : Int32) * y4) + 74) / 65537 * 65537) / 64) - (((((75 : Int32) * y4) + 74) - (((75 : Int32) * y4) + 74) / 65537 * 65537) / 64) / (S0q.1 0) * (S0q.1 0)) _ hw) (cwV0 hW mV_X7_hats ml_X7_125 ⟨Nat.le_of_ble_eq_true rfl, Nat.le_of_ble_eq_true rfl⟩) (preV0 0 rfl rfl hK hN hP hD [0] rfl rfl) rfl rfl hl.1 rfl (lv_room (Nat.le_of_ble_eq_true rfl)) dX7_year_152 ⟨Nat.le_refl _, Nat.le_refl _⟩) hP hD hS [0] rfl rfl (fun _ => rfl) (fun v9 u9 H locs hq hP hD hS => ?_)
              obtain ⟨rfl, hw⟩ := hq
              obtain ⟨Z14, rfl⟩ : ∃ z, z = u9 := ⟨_, rfl⟩
              have hP : va_P D classes (jn [mcells cI cZ ad 0 Z14]) H := hP
              have hD : va_D (cOf (jn [mcells cI cZ ad 0 S0])) (jn [mcells cI cZ ad 0 Z14]) := hD
              refine W.eq (g2 := F0 m 155 ls []) rfl ?_
              refine lv_goto (tgt := 182) hx hb dX7_year_155 (by decide) ?_
              refine lv_iinc (v := (y5 + 1)) (lv' := [(5, .int (y5 + 1)), (8, .int ((((((75 : Int32) * y4) + 74) - (((75 : Int32) * y4) + 74) / 65537 * 65537) / 64) - (((((75 : Int32) * y4) + 74) - (((75 : Int32) * y4) + 74) / 65537 * 65537) / 64) / (S0q.1 0) * (S0q.1 0))), (7, .int ((((((75 : Int32) * y4) + 74) - (((75 : Int32) * y4) + 74) / 65537 * 65537) / 8) - (((((75 : Int32) * y4) + 74) - (((75 : Int32) * y4) + 74) / 65537 * 65537) / 8) / (S0q.1 0) * (S0q.1 0))), (6, .int (((((75 : Int32) * y4) + 74) - (((75 : Int32) * y4) + 74) / 65537 * 65537) - ((((75 : Int32) * y4) + 74) - (((75 : Int32) * y4) + 74) / 65537 * 65537) / 8 * 8)), (4, .int ((((75 : Int32) * y4) + 74) - (((75 : Int32) * y4) + 74) / 65537 * 65537)), (0, .ref (ad 0)), (2, .int x2), (3, .int x3)]) hx hb dX7_year_182 hl (k := 7) rfl rfl (by decide) rfl (fun ls hl => ?_)
              refine lv_goto (tgt := 43) hx hb dX7_year_185 (by decide) ?_
              exact ih ((((75 : Int32) * y4) + 74) - (((75 : Int32) * y4) + 74) / 65537 * 65537) (y5 + 1) Z14 _ _ hP hD hS _ (lv_sub hl [5, 6, 7, 4, 0] rfl) hw
        · have hw := Eq.mp (if_pos c6) hw
          refine lv_aload_n hx hb dX7_year_98 rfl (lv_at hl 4 rfl) ?_
          refine va_get (D := D) (ci := 7) (v := .ref (ad (0 + 10))) (C := RX7) (T := TX7) (N := 27) hx hb hW inW_X7 hown hK hP 0 rfl rfl 19 (by decide) (hW _ fl_X7_44) (fun _ h9 => h9) rfl dX7_year_99 ?_
          refine lv_iload hx hb dX7_year_102 (lv_at hl 1 rfl) ?_
          refine lv_aload_n hx hb dX7_year_104 rfl (lv_at hl 4 rfl) ?_
          refine lv_iload hx hb dX7_year_105 (lv_at hl 1 rfl) ?_
          refine lv_bipush (v := 115) hx hb dX7_year_107 (by decide) ?_
          refine callR (va_runV (As := [.int ((((((75 : Int32) * y4) + 74) - (((75 : Int32) * y4) + 74) / 65537 * 65537) / 8) - (((((75 : Int32) * y4) + 74) - (((75 : Int32) * y4) + 74) / 65537 * 65537) / 8) / (S0q.1 0) * (S0q.1 0)), .int 115]) (rest := [.int ((((((75 : Int32) * y4) + 74) - (((75 : Int32) * y4) + 74) / 65537 * 65537) / 8) - (((((75 : Int32) * y4) + 74) - (((75 : Int32) * y4) + 74) / 65537 * 65537) / 8) / (S0q.1 0) * (S0q.1 0)), .ref (ad (0 + 10))]) ⟨hx, hb, hml, hown, hW⟩ (c_X7_whyNot l D cI cZ ad  S0q ((((((75 : Int32) * y4) + 74) - (((75 : Int32) * y4) + 74) / 65537 * 65537) / 8) - (((((75 : Int32) * y4) + 74) - (((75 : Int32) * y4) + 74) / 65537 * 65537) / 8) / (S0q.1 0) * (S0q.1 0)) 115 _ hw) (cwV0 hW mV_X7_whyNot ml_X7_129 ⟨Nat.le_of_ble_eq_true rfl, Nat.le_of_ble_eq_true rfl⟩) (preV0 0 rfl rfl hK hN hP hD [0] rfl rfl) rfl rfl hl.1 rfl (lv_room (Nat.le_of_ble_eq_true rfl)) dX7_year_109 ⟨Nat.le_refl _, Nat.le_refl _⟩) (fun v9 hq => ?_)
          obtain ⟨v7, rfl, hw⟩ := hq
          refine W.eq (g2 := F0 m 112 ls [.int v7, .int ((((((75 : Int32) * y4) + 74) - (((75 : Int32) * y4) + 74) / 65537 * 65537) / 8) - (((((75 : Int32) * y4) + 74) - (((75 : Int32) * y4) + 74) / 65537 * 65537) / 8) / (S0q.1 0) * (S0q.1 0)), .ref (ad (0 + 10))]) rfl ?_
          refine lv_if_ne (tgt := 119) hx hb dX7_year_112 (by decide) (fun c8 => ?_) (fun c8 => ?_)
          · have hw := Eq.mp (if_neg c8) hw
            refine lv_aload_n hx hb dX7_year_119 rfl (lv_at hl 4 rfl) ?_
            refine va_get (D := D) (ci := 7) (v := .ref (ad (0 + 10))) (C := RX7) (T := TX7) (N := 27) hx hb hW inW_X7 hown hK hP 0 rfl rfl 19 (by decide) (hW _ fl_X7_44) (fun _ h9 => h9) rfl dX7_year_120 ?_
            refine lv_iload hx hb dX7_year_123 (lv_at hl 1 rfl) ?_
            refine va_iald (f := (S0q.2 19)) hx hb hK hP 10 0 rfl rfl hw.1 dX7_year_125 ?_
            have hw := hw.2
            refine va_iast (f := (S0q.2 19)) hx hb hK hP hD hS 10 0 rfl rfl hw.1 dX7_year_126 (fun H locs hP hD hS => ?_)
            have hw := hw.2
            revert hw; revert hD; revert hP
            generalize (upd (S0q.2 19) (((((((75 : Int32) * y4) + 74) - (((75 : Int32) * y4) + 74) / 65537 * 65537) / 8) - (((((75 : Int32) * y4) + 74) - (((75 : Int32) * y4) + 74) / 65537 * 65537) / 8) / (S0q.1 0) * (S0q.1 0)) : Int32).toNatClampNeg ((S0q.2 19) (((((((75 : Int32) * y4) + 74) - (((75 : Int32) * y4) + 74) / 65537 * 65537) / 8) - (((((75 : Int32) * y4) + 74) - (((75 : Int32) * y4) + 74) / 65537 * 65537) / 8) / (S0q.1 0) * (S0q.1 0)) : Int32).toNatClampNeg)) = Z10
            intro hP hD hw
            have hP : va_P D classes (jn [mcells cI cZ ad 0 (sA S0q 19 Z10)]) H := ms_a19 (Φ := fun w => va_P D classes w H) (S := S0q) (v := Z10) hP
            have hD : va_D (cOf (jn [mcells cI cZ ad 0 S0])) (jn [mcells cI cZ ad 0 (sA S0q 19 Z10)]) := ms_a19 (Φ := fun w => va_D (cOf (jn [mcells cI cZ ad 0 S0])) w) (S := S0q) (v := Z10) hD
            refine lv_goto (tgt := 182) hx hb dX7_year_127 (by decide) ?_
            refine lv_iinc (v := (y5 + 1)) (lv' := [(5, .int (y5 + 1)), (8, .int ((((((75 : Int32) * y4) + 74) - (((75 : Int32) * y4) + 74) / 65537 * 65537) / 64) - (((((75 : Int32) * y4) + 74) - (((75 : Int32) * y4) + 74) / 65537 * 65537) / 64) / (S0q.1 0) * (S0q.1 0))), (7, .int ((((((75 : Int32) * y4) + 74) - (((75 : Int32) * y4) + 74) / 65537 * 65537) / 8) - (((((75 : Int32) * y4) + 74) - (((75 : Int32) * y4) + 74) / 65537 * 65537) / 8) / (S0q.1 0) * (S0q.1 0))), (6, .int (((((75 : Int32) * y4) + 74) - (((75 : Int32) * y4) + 74) / 65537 * 65537) - ((((75 : Int32) * y4) + 74) - (((75 : Int32) * y4) + 74) / 65537 * 65537) / 8 * 8)), (4, .int ((((75 : Int32) * y4) + 74) - (((75 : Int32) * y4) + 74) / 65537 * 65537)), (0, .ref (ad 0)), (2, .int x2), (3, .int x3)]) hx hb dX7_year_182 hl (k := 7) rfl rfl (by decide) rfl (fun ls hl => ?_)
            refine lv_goto (tgt := 43) hx hb dX7_year_185 (by decide) ?_
            exact ih ((((75 : Int32) * y4) + 74) - (((75 : Int32) * y4) + 74) / 65537 * 65537) (y5 + 1) (sA S0q 19 Z10) _ _ hP hD hS _ (lv_sub hl [5, 6, 7, 4, 0] rfl) hw
          · have hw := Eq.mp (if_pos c8) hw
            refine lv_iconst (v := 1) hx hb dX7_year_115 (by decide) ?_
            refine lv_goto (tgt := 126) hx hb dX7_year_116 (by decide) ?_
            refine va_iast (f := (S0q.2 19)) hx hb hK hP hD hS 10 0 rfl rfl hw.1 dX7_year_126 (fun H locs hP hD hS => ?_)
            have hw := hw.2
            revert hw; revert hD; revert hP
            generalize (upd (S0q.2 19) (((((((75 : Int32) * y4) + 74) - (((75 : Int32) * y4) + 74) / 65537 * 65537) / 8) - (((((75 : Int32) * y4) + 74) - (((75 : Int32) * y4) + 74) / 65537 * 65537) / 8) / (S0q.1 0) * (S0q.1 0)) : Int32).toNatClampNeg 1) = Z9
            intro hP hD hw
            have hP : va_P D classes (jn [mcells cI cZ ad 0 (sA S0q 19 Z9)]) H := ms_a19 (Φ := fun w => va_P D classes w H) (S := S0q) (v := Z9) hP
            have hD : va_D (cOf (jn [mcells cI cZ ad 0 S0])) (jn [mcells cI cZ ad 0 (sA S0q 19 Z9)]) := ms_a19 (Φ := fun w => va_D (cOf (jn [mcells cI cZ ad 0 S0])) w) (S := S0q) (v := Z9) hD
            refine lv_goto (tgt := 182) hx hb dX7_year_127 (by decide) ?_
            refine lv_iinc (v := (y5 + 1)) (lv' := [(5, .int (y5 + 1)), (8, .int ((((((75 : Int32) * y4) + 74) - (((75 : Int32) * y4) + 74) / 65537 * 65537) / 64) - (((((75 : Int32) * y4) + 74) - (((75 : Int32) * y4) + 74) / 65537 * 65537) / 64) / (S0q.1 0) * (S0q.1 0))), (7, .int ((((((75 : Int32) * y4) + 74) - (((75 : Int32) * y4) + 74) / 65537 * 65537) / 8) - (((((75 : Int32) * y4) + 74) - (((75 : Int32) * y4) + 74) / 65537 * 65537) / 8) / (S0q.1 0) * (S0q.1 0))), (6, .int (((((75 : Int32) * y4) + 74) - (((75 : Int32) * y4) + 74) / 65537 * 65537) - ((((75 : Int32) * y4) + 74) - (((75 : Int32) * y4) + 74) / 65537 * 65537) / 8 * 8)), (4, .int ((((75 : Int32) * y4) + 74) - (((75 : Int32) * y4) + 74) / 65537 * 65537)), (0, .ref (ad 0)), (2, .int x2), (3, .int x3)]) hx hb dX7_year_182 hl (k := 7) rfl rfl (by decide) rfl (fun ls hl => ?_)
            refine lv_goto (tgt := 43) hx hb dX7_year_185 (by decide) ?_
            exact ih ((((75 : Int32) * y4) + 74) - (((75 : Int32) * y4) + 74) / 65537 * 65537) (y5 + 1) (sA S0q 19 Z9) _ _ hP hD hS _ (lv_sub hl [5, 6, 7, 4, 0] rfl) hw
  have L204 : ∀ (S0q : St) (kx : Int32 → Int32 → Prop), (∀ (y5 : Int32) (y6 : Int32) (H : Heap) (locs : List Loc), va_P D classes (jn [mcells cI cZ ad 0 S0q]) H → va_D (cOf (jn [mcells cI cZ ad 0 S0])) (jn [mcells cI cZ ad 0 S0q]) → va_S (cOf (jn [mcells cI cZ ad 0 S0])) s.heap H locs → ∀ ls : Array Slot, lv_has ls 9 [(0, .ref (ad 0)), (3, .int x3), (5, .int y5), (6, .int y6)] → kx y5 y6 → W p l e { frames := 2, cells := 0, slots := 0, locals := 43 } s m ([.ref (ad 0), .int x1, .int x2, .int x3] : List Value).toArray below meth c H locs 0 0 (MQ below (QW (fun v (u : St) => ∃ r, v = some (.int r) ∧ k r u) D (fun u : St => [mcells cI cZ ad 0 u]) [mcells cI cZ ad 0 S0]) ([.ref (ad 0), .int x1, .int x2, .int x3] : List Value).toArray s 0 0 (cOf (jn [mcells cI cZ ad 0 S0]))) (F0 m 281 ls [])) → ∀ (N204 : Nat) (y5 : Int32) (y6 : Int32) (y7 : Int32) (H : Heap) (locs : List Loc), va_P D classes (jn [mcells cI cZ ad 0 S0q]) H → va_D (cOf (jn [mcells cI cZ ad 0 S0])) (jn [mcells cI cZ ad 0 S0q]) → va_S (cOf (jn [mcells cI cZ ad 0 S0])) s.heap H locs → ∀ ls : Array Slot, lv_has ls 9 [(0, .ref (ad 0)), (3, .int x3), (5, .int y5), (6, .int y6), (7, .int y7)] → wl_X7_year_204 S0q kx N204 y5 y6 y7 → W p l e { frames := 2, cells := 0, slots := 0, locals := 43 } s m ([.ref (ad 0), .int x1, .int x2, .int x3] : List Value).toArray below meth c H locs 0 0 (MQ below (QW (fun v (u : St) => ∃ r, v = some (.int r) ∧ k r u) D (fun u : St => [mcells cI cZ ad 0 u]) [mcells cI cZ ad 0 S0]) ([.ref (ad 0), .int x1, .int x2, .int x3] : List Value).toArray s 0 0 (cOf (jn [mcells cI cZ ad 0 S0]))) (F0 m 204 ls []) := by
    intro S0q kx hxt N204
    induction N204 with
    | zero => intro y5 y6 y7 H locs hP hD hS ls hl hw; exact False.elim hw
    | succ N204 ih =>
      intro y5 y6 y7 H locs hP hD hS ls hl hw
      have hw : (if (S0q.1 0) ≤ y7 then (kx y5 y6) else (vp_in y7 6 ∧ (if ((S0q.2 17) (y7 : Int32).toNatClampNeg) < 0 then (vp_in y7 6 ∧ (if 0 ≤ ((S0q.2 17) (y7 : Int32).toNatClampNeg) then (vp_in y7 6 ∧ (wl_X7_year_204 S0q kx N204 (y5 + 0) (y6 &&& (((1 : Int32) <<< (((S0q.2 17) (y7 : Int32).toNatClampNeg) &&& 31)) ^^^ (-1))) (y7 + 1))) else (wl_X7_year_204 S0q kx N204 (y5 + 0) (y6 &&& (-1)) (y7 + 1)))) else (vp_in y7 6 ∧ (if ((S0q.2 18) (y7 : Int32).toNatClampNeg) = y7 then (vp_in y7 6 ∧ (if 0 ≤ ((S0q.2 17) (y7 : Int32).toNatClampNeg) then (vp_in y7 6 ∧ (wl_X7_year_204 S0q kx N204 (y5 + 1) (y6 &&& (((1 : Int32) <<< (((S0q.2 17) (y7 : Int32).toNatClampNeg) &&& 31)) ^^^ (-1))) (y7 + 1))) else (wl_X7_year_204 S0q kx N204 (y5 + 1) (y6 &&& (-1)) (y7 + 1)))) else (vp_in y7 6 ∧ (if 0 ≤ ((S0q.2 17) (y7 : Int32).toNatClampNeg) then (vp_in y7 6 ∧ (wl_X7_year_204 S0q kx N204 (y5 + 0) (y6 &&& (((1 : Int32) <<< (((S0q.2 17) (y7 : Int32).toNatClampNeg) &&& 31)) ^^^ (-1))) (y7 + 1))) else (wl_X7_year_204 S0q kx N204 (y5 + 0) (y6 &&& (-1)) (y7 + 1))))))))) := hw
      refine lv_iload hx hb dX7_year_204 (lv_at hl 4 rfl) ?_
      refine lv_aload_n hx hb dX7_year_206 rfl (lv_at hl 0 rfl) ?_
      refine va_get (D := D) (ci := 7) (v := .int (S0q.1 0)) (C := RX7) (T := TX7) (N := 27) hx hb hW inW_X7 hown hK hP 0 rfl rfl 0 (by decide) (hW _ fl_X7_7) (fun _ h9 => h9) rfl dX7_year_207 ?_
      refine lv_icmp_ge (tgt := 281) hx hb dX7_year_210 (by decide) (fun c19 => ?_) (fun c19 => ?_)
      · have hw := Eq.mp (if_pos c19) hw
        exact hxt y5 y6 _ _ hP hD hS _ (lv_sub hl [0, 1, 2, 3] rfl) hw
      · have hw := Eq.mp (if_neg c19) hw
        refine lv_iload hx hb dX7_year_213 (lv_at hl 2 rfl) ?_
        refine lv_aload_n hx hb dX7_year_215 rfl (lv_at hl 0 rfl) ?_
        refine va_get (D := D) (ci := 7) (v := .ref (ad (0 + 8))) (C := RX7) (T := TX7) (N := 27) hx hb hW inW_X7 hown hK hP 0 rfl rfl 17 (by decide) (hW _ fl_X7_38) (fun _ h9 => h9) rfl dX7_year_216 ?_
        refine lv_iload hx hb dX7_year_219 (lv_at hl 4 rfl) ?_
        refine va_iald (f := (S0q.2 17)) hx hb hK hP 8 0 rfl rfl hw.1 dX7_year_221 ?_
        have hw := hw.2
        refine lv_if_lt (tgt := 241) hx hb dX7_year_222 (by decide) (fun c20 => ?_) (fun c20 => ?_)
        · have hw := Eq.mp (if_pos c20) hw
          refine lv_iconst (v := 0) hx hb dX7_year_241 (by decide) ?_
          refine lv_iadd hx hb dX7_year_242 ?_
          refine lv_istore (lv' := [(5, .int (y5 + 0)), (0, .ref (ad 0)), (3, .int x3), (6, .int y6), (7, .int y7)]) hx hb dX7_year_243 hl (by decide) rfl (fun ls hl => ?_)
          refine lv_iload hx hb dX7_year_245 (lv_at hl 3 rfl) ?_
          refine lv_aload_n hx hb dX7_year_247 rfl (lv_at hl 1 rfl) ?_
          refine va_get (D := D) (ci := 7) (v := .ref (ad (0 + 8))) (C := RX7) (T := TX7) (N := 27) hx hb hW inW_X7 hown hK hP 0 rfl rfl 17 (by decide) (hW _ fl_X7_38) (fun _ h9 => h9) rfl dX7_year_248 ?_
          refine lv_iload hx hb dX7_year_251 (lv_at hl 4 rfl) ?_
          refine va_iald (f := (S0q.2 17)) hx hb hK hP 8 0 rfl rfl hw.1 dX7_year_253 ?_
          have hw := hw.2
          refine lv_if_ge (tgt := 261) hx hb dX7_year_254 (by decide) (fun c21 => ?_) (fun c21 => ?_)
          · have hw := Eq.mp (if_pos c21) hw
            refine lv_iconst (v := 1) hx hb dX7_year_261 (by decide) ?_
            refine lv_aload_n hx hb dX7_year_262 rfl (lv_at hl 1 rfl) ?_
            refine va_get (D := D) (ci := 7) (v := .ref (ad (0 + 8))) (C := RX7) (T := TX7) (N := 27) hx hb hW inW_X7 hown hK hP 0 rfl rfl 17 (by decide) (hW _ fl_X7_38) (fun _ h9 => h9) rfl dX7_year_263 ?_
            refine lv_iload hx hb dX7_year_266 (lv_at hl 4 rfl) ?_
            refine va_iald (f := (S0q.2 17)) hx hb hK hP 8 0 rfl rfl hw.1 dX7_year_268 ?_
            have hw := hw.2
            refine lv_ishl hx hb dX7_year_269 ?_
            refine lv_iconst (v := (-1)) hx hb dX7_year_270 (by decide) ?_
            refine lv_ixor hx hb dX7_year_271 ?_
            refine lv_iand hx hb dX7_year_272 ?_
            refine lv_istore (lv' := [(6, .int (y6 &&& (((1 : Int32) <<< (((S0q.2 17) (y7 : Int32).toNatClampNeg) &&& 31)) ^^^ (-1)))), (5, .int (y5 + 0)), (0, .ref (ad 0)), (3, .int x3), (7, .int y7)]) hx hb dX7_year_273 hl (by decide) rfl (fun ls hl => ?_)
            refine lv_iinc (v := (y7 + 1)) (lv' := [(7, .int (y7 + 1)), (6, .int (y6 &&& (((1 : Int32) <<< (((S0q.2 17) (y7 : Int32).toNatClampNeg) &&& 31)) ^^^ (-1)))), (5, .int (y5 + 0)), (0, .ref (ad 0)), (3, .int x3)]) hx hb dX7_year_275 hl (k := 4) rfl rfl (by decide) rfl (fun ls hl => ?_)
            refine lv_goto (tgt := 204) hx hb dX7_year_278 (by decide) ?_
            exact ih (y5 + 0) (y6 &&& (((1 : Int32) <<< (((S0q.2 17) (y7 : Int32).toNatClampNeg) &&& 31)) ^^^ (-1))) (y7 + 1) _ _ hP hD hS _ (lv_sub hl [3, 4, 2, 1, 0] rfl) hw
          · have hw := Eq.mp (if_neg c21) hw
            refine lv_iconst (v := (-1)) hx hb dX7_year_257 (by decide) ?_
            refine lv_goto (tgt := 272) hx hb dX7_year_258 (by decide) ?_
            refine lv_iand hx hb dX7_year_272 ?_
            refine lv_istore (lv' := [(6, .int (y6 &&& (-1))), (5, .int (y5 + 0)), (0, .ref (ad 0)), (3, .int x3), (7, .int y7)]) hx hb dX7_year_273 hl (by decide) rfl (fun ls hl => ?_)
            refine lv_iinc (v := (y7 + 1)) (lv' := [(7, .int (y7 + 1)), (6, .int (y6 &&& (-1))), (5, .int (y5 + 0)), (0, .ref (ad 0)), (3, .int x3)]) hx hb dX7_year_275 hl (k := 4) rfl rfl (by decide) rfl (fun ls hl => ?_)
            refine lv_goto (tgt := 204) hx hb dX7_year_278 (by decide) ?_
            exact ih (y5 + 0) (y6 &&& (-1)) (y7 + 1) _ _ hP hD hS _ (lv_sub hl [3, 4, 2, 1, 0] rfl) hw
        · have hw := Eq.mp (if_neg c20) hw
          refine lv_aload_n hx hb dX7_year_225 rfl (lv_at hl 0 rfl) ?_
          refine va_get (D := D) (ci := 7) (v := .ref (ad (0 + 9))) (C := RX7) (T := TX7) (N := 27) hx hb hW inW_X7 hown hK hP 0 rfl rfl 18 (by decide) (hW _ fl_X7_41) (fun _ h9 => h9) rfl dX7_year_226 ?_
          refine lv_iload hx hb dX7_year_229 (lv_at hl 4 rfl) ?_
          refine va_iald (f := (S0q.2 18)) hx hb hK hP 9 0 rfl rfl hw.1 dX7_year_231 ?_
          have hw := hw.2
          refine lv_iload hx hb dX7_year_232 (lv_at hl 4 rfl) ?_
          refine lv_icmp_ne (tgt := 241) hx hb dX7_year_234 (by decide) (fun c22 => ?_) (fun c22 => ?_)
          · have hw := Eq.mp (if_neg c22) hw
            refine lv_iconst (v := 0) hx hb dX7_year_241 (by decide) ?_
            refine lv_iadd hx hb dX7_year_242 ?_
            refine lv_istore (lv' := [(5, .int (y5 + 0)), (0, .ref (ad 0)), (3, .int x3), (6, .int y6), (7, .int y7)]) hx hb dX7_year_243 hl (by decide) rfl (fun ls hl => ?_)
            refine lv_iload hx hb dX7_year_245 (lv_at hl 3 rfl) ?_
            refine lv_aload_n hx hb dX7_year_247 rfl (lv_at hl 1 rfl) ?_
            refine va_get (D := D) (ci := 7) (v := .ref (ad (0 + 8))) (C := RX7) (T := TX7) (N := 27) hx hb hW inW_X7 hown hK hP 0 rfl rfl 17 (by decide) (hW _ fl_X7_38) (fun _ h9 => h9) rfl dX7_year_248 ?_
            refine lv_iload hx hb dX7_year_251 (lv_at hl 4 rfl) ?_
            refine va_iald (f := (S0q.2 17)) hx hb hK hP 8 0 rfl rfl hw.1 dX7_year_253 ?_
            have hw := hw.2
            refine lv_if_ge (tgt := 261) hx hb dX7_year_254 (by decide) (fun c24 => ?_) (fun c24 => ?_)
            · have hw := Eq.mp (if_pos c24) hw
              refine lv_iconst (v := 1) hx hb dX7_year_261 (by decide) ?_
              refine lv_aload_n hx hb dX7_year_262 rfl (lv_at hl 1 rfl) ?_
              refine va_get (D := D) (ci := 7) (v := .ref (ad (0 + 8))) (C := RX7) (T := TX7) (N := 27) hx hb hW inW_X7 hown hK hP 0 rfl rfl 17 (by decide) (hW _ fl_X7_38) (fun _ h9 => h9) rfl dX7_year_263 ?_
              refine lv_iload hx hb dX7_year_266 (lv_at hl 4 rfl) ?_
              refine va_iald (f := (S0q.2 17)) hx hb hK hP 8 0 rfl rfl hw.1 dX7_year_268 ?_
              have hw := hw.2
              refine lv_ishl hx hb dX7_year_269 ?_
              refine lv_iconst (v := (-1)) hx hb dX7_year_270 (by decide) ?_
              refine lv_ixor hx hb dX7_year_271 ?_
              refine lv_iand hx hb dX7_year_272 ?_
              refine lv_istore (lv' := [(6, .int (y6 &&& (((1 : Int32) <<< (((S0q.2 17) (y7 : Int32).toNatClampNeg) &&& 31)) ^^^ (-1)))), (5, .int (y5 + 0)), (0, .ref (ad 0)), (3, .int x3), (7, .int y7)]) hx hb dX7_year_273 hl (by decide) rfl (fun ls hl => ?_)
              refine lv_iinc (v := (y7 + 1)) (lv' := [(7, .int (y7 + 1)), (6, .int (y6 &&& (((1 : Int32) <<< (((S0q.2 17) (y7 : Int32).toNatClampNeg) &&& 31)) ^^^ (-1)))), (5, .int (y5 + 0)), (0, .ref (ad 0)), (3, .int x3)]) hx hb dX7_year_275 hl (k := 4) rfl rfl (by decide) rfl (fun ls hl => ?_)
              refine lv_goto (tgt := 204) hx hb dX7_year_278 (by decide) ?_
              exact ih (y5 + 0) (y6 &&& (((1 : Int32) <<< (((S0q.2 17) (y7 : Int32).toNatClampNeg) &&& 31)) ^^^ (-1))) (y7 + 1) _ _ hP hD hS _ (lv_sub hl [3, 4, 2, 1, 0] rfl) hw
            · have hw := Eq.mp (if_neg c24) hw
              refine lv_iconst (v := (-1)) hx hb dX7_year_257 (by decide) ?_
              refine lv_goto (tgt := 272) hx hb dX7_year_258 (by decide) ?_
              refine lv_iand hx hb dX7_year_272 ?_
              refine lv_istore (lv' := [(6, .int (y6 &&& (-1))), (5, .int (y5 + 0)), (0, .ref (ad 0)), (3, .int x3), (7, .int y7)]) hx hb dX7_year_273 hl (by decide) rfl (fun ls hl => ?_)
              refine lv_iinc (v := (y7 + 1)) (lv' := [(7, .int (y7 + 1)), (6, .int (y6 &&& (-1))), (5, .int (y5 + 0)), (0, .ref (ad 0)), (3, .int x3)]) hx hb dX7_year_275 hl (k := 4) rfl rfl (by decide) rfl (fun ls hl => ?_)
              refine lv_goto (tgt := 204) hx hb dX7_year_278 (by decide) ?_
              exact ih (y5 + 0) (y6 &&& (-1)) (y7 + 1) _ _ hP hD hS _ (lv_sub hl [3, 4, 2, 1, 0] rfl) hw
          · have hw := Eq.mp (if_pos c22) hw
            refine lv_iconst (v := 1) hx hb dX7_year_237 (by decide) ?_
            refine lv_goto (tgt := 242) hx hb dX7_year_238 (by decide) ?_
            refine lv_iadd hx hb dX7_year_242 ?_
            refine lv_istore (lv' := [(5, .int (y5 + 1)), (0, .ref (ad 0)), (3, .int x3), (6, .int y6), (7, .int y7)]) hx hb dX7_year_243 hl (by decide) rfl (fun ls hl => ?_)
            refine lv_iload hx hb dX7_year_245 (lv_at hl 3 rfl) ?_
            refine lv_aload_n hx hb dX7_year_247 rfl (lv_at hl 1 rfl) ?_
            refine va_get (D := D) (ci := 7) (v := .ref (ad (0 + 8))) (C := RX7) (T := TX7) (N := 27) hx hb hW inW_X7 hown hK hP 0 rfl rfl 17 (by decide) (hW _ fl_X7_38) (fun _ h9 => h9) rfl dX7_year_248 ?_
            refine lv_iload hx hb dX7_year_251 (lv_at hl 4 rfl) ?_
            refine va_iald (f := (S0q.2 17)) hx hb hK hP 8 0 rfl rfl hw.1 dX7_year_253 ?_
            have hw := hw.2
            refine lv_if_ge (tgt := 261) hx hb dX7_year_254 (by decide) (fun c23 => ?_) (fun c23 => ?_)
            · have hw := Eq.mp (if_pos c23) hw
              refine lv_iconst (v := 1) hx hb dX7_year_261 (by decide) ?_
              refine lv_aload_n hx hb dX7_year_262 rfl (lv_at hl 1 rfl) ?_
              refine va_get (D := D) (ci := 7) (v := .ref (ad (0 + 8))) (C := RX7) (T := TX7) (N := 27) hx hb hW inW_X7 hown hK hP 0 rfl rfl 17 (by decide) (hW _ fl_X7_38) (fun _ h9 => h9) rfl dX7_year_263 ?_
              refine lv_iload hx hb dX7_year_266 (lv_at hl 4 rfl) ?_
              refine va_iald (f := (S0q.2 17)) hx hb hK hP 8 0 rfl rfl hw.1 dX7_year_268 ?_
              have hw := hw.2
              refine lv_ishl hx hb dX7_year_269 ?_
              refine lv_iconst (v := (-1)) hx hb dX7_year_270 (by decide) ?_
              refine lv_ixor hx hb dX7_year_271 ?_
              refine lv_iand hx hb dX7_year_272 ?_
              refine lv_istore (lv' := [(6, .int (y6 &&& (((1 : Int32) <<< (((S0q.2 17) (y7 : Int32).toNatClampNeg) &&& 31)) ^^^ (-1)))), (5, .int (y5 + 1)), (0, .ref (ad 0)), (3, .int x3), (7, .int y7)]) hx hb dX7_year_273 hl (by decide) rfl (fun ls hl => ?_)
              refine lv_iinc (v := (y7 + 1)) (lv' := [(7, .int (y7 + 1)), (6, .int (y6 &&& (((1 : Int32) <<< (((S0q.2 17) (y7 : Int32).toNatClampNeg) &&& 31)) ^^^ (-1)))), (5, .int (y5 + 1)), (0, .ref (ad 0)), (3, .int x3)]) hx hb dX7_year_275 hl (k := 4) rfl rfl (by decide) rfl (fun ls hl => ?_)
              refine lv_goto (tgt := 204) hx hb dX7_year_278 (by decide) ?_
              exact ih (y5 + 1) (y6 &&& (((1 : Int32) <<< (((S0q.2 17) (y7 : Int32).toNatClampNeg) &&& 31)) ^^^ (-1))) (y7 + 1) _ _ hP hD hS _ (lv_sub hl [3, 4, 2, 1, 0] rfl) hw
            · have hw := Eq.mp (if_neg c23) hw
              refine lv_iconst (v := (-1)) hx hb dX7_year_257 (by decide) ?_
              refine lv_goto (tgt := 272) hx hb dX7_year_258 (by decide) ?_
              refine lv_iand hx hb dX7_year_272 ?_
              refine lv_istore (lv' := [(6, .int (y6 &&& (-1))), (5, .int (y5 + 1)), (0, .ref (ad 0)), (3, .int x3), (7, .int y7)]) hx hb dX7_year_273 hl (by decide) rfl (fun ls hl => ?_)
              refine lv_iinc (v := (y7 + 1)) (lv' := [(7, .int (y7 + 1)), (6, .int (y6 &&& (-1))), (5, .int (y5 + 1)), (0, .ref (ad 0)), (3, .int x3)]) hx hb dX7_year_275 hl (k := 4) rfl rfl (by decide) rfl (fun ls hl => ?_)
              refine lv_goto (tgt := 204) hx hb dX7_year_278 (by decide) ?_
              exact ih (y5 + 1) (y6 &&& (-1)) (y7 + 1) _ _ hP hD hS _ (lv_sub hl [3, 4, 2, 1, 0] rfl) hw
  have hw : (if (F_X7_in x1 0 9999) = 0 then (k (-2) S0) else (if (F_X7_in x2 1 99) = 0 then (k (-2) S0) else (if (F_X7_in x3 0 2) = 0 then (k (-2) S0) else (wp_X7_asNow S0 (fun (Z4 : St) => (∃ M31, wl_X7_year_43 x2 (fun (Z18 : St) => (∃ M29, wl_X7_year_204 Z18 (fun (v25 : Int32) (v26 : Int32) => (if x3 = 0 then (k ((Z18.1 14) - (Z18.1 2)) Z18) else (if x3 = 1 then (k v25 Z18) else (k v26 Z18)))) M29 0 (((1 : Int32) <<< ((Z18.1 0) &&& 31)) - 1) 0)) M31 x1 0 Z4)))))) := hw
  refine lv_iload_n hx hb dX7_year_0 rfl (lv_at hl 1 rfl) ?_
  refine lv_iconst (v := 0) hx hb dX7_year_1 (by decide) ?_
  refine lv_sipush (v := 9999) hx hb dX7_year_2 (by decide) ?_
  refine callF (va_runS (As := [.int x1, .int 0, .int 9999]) (rest := []) ⟨hx, hb, hml, hown, hW⟩ (c_X7_in l D cI cZ x1 0 9999 _ rfl) (cwS0 hW mS_X7_in ml_X7_78 ⟨Nat.le_of_ble_eq_true rfl, Nat.le_of_ble_eq_true rfl⟩) (preS0 hK hN hP hD [] rfl rfl) rfl rfl hl.1 rfl (lv_room (Nat.le_of_ble_eq_true rfl)) dX7_year_5 ⟨Nat.le_refl _, Nat.le_refl _⟩) ?_
  refine W.eq (g2 := F0 m 8 ls [.int (F_X7_in x1 0 9999)]) rfl ?_
  refine lv_if_eq (tgt := 30) hx hb dX7_year_8 (by decide) (fun c1 => ?_) (fun c1 => ?_)
  · have hw := Eq.mp (if_pos c1) hw
    refine lv_bipush (v := (-2)) hx hb dX7_year_30 (by decide) ?_
    exact W.iret (v := (-2)) hx hb hr (fun t ht _ => ⟨⟨_, (S0), rfl, ⟨_, rfl, hw⟩, by rw [ht]; exact hP⟩, hS.F ht⟩) hS.2.2 dX7_year_32
  · have hw := Eq.mp (if_neg c1) hw
    refine lv_iload_n hx hb dX7_year_11 rfl (lv_at hl 2 rfl) ?_
    refine lv_iconst (v := 1) hx hb dX7_year_12 (by decide) ?_
    refine lv_bipush (v := 99) hx hb dX7_year_13 (by decide) ?_
    refine callF (va_runS (As := [.int x2, .int 1, .int 99]) (rest := []) ⟨hx, hb, hml, hown, hW⟩ (c_X7_in l D cI cZ x2 1 99 _ rfl) (cwS0 hW mS_X7_in ml_X7_78 ⟨Nat.le_of_ble_eq_true rfl, Nat.le_of_ble_eq_true rfl⟩) (preS0 hK hN hP hD [] rfl rfl) rfl rfl hl.1 rfl (lv_room (Nat.le_of_ble_eq_true rfl)) dX7_year_15 ⟨Nat.le_refl _, Nat.le_refl _⟩) ?_
    refine W.eq (g2 := F0 m 18 ls [.int (F_X7_in x2 1 99)]) rfl ?_
    refine lv_if_eq (tgt := 30) hx hb dX7_year_18 (by decide) (fun c2 => ?_) (fun c2 => ?_)
    · have hw := Eq.mp (if_pos c2) hw
      refine lv_bipush (v := (-2)) hx hb dX7_year_30 (by decide) ?_
      exact W.iret (v := (-2)) hx hb hr (fun t ht _ => ⟨⟨_, (S0), rfl, ⟨_, rfl, hw⟩, by rw [ht]; exact hP⟩, hS.F ht⟩) hS.2.2 dX7_year_32
    · have hw := Eq.mp (if_neg c2) hw
      refine lv_iload_n hx hb dX7_year_21 rfl (lv_at hl 3 rfl) ?_
      refine lv_iconst (v := 0) hx hb dX7_year_22 (by decide) ?_
      refine lv_iconst (v := 2) hx hb dX7_year_23 (by decide) ?_
      refine callF (va_runS (As := [.int x3, .int 0, .int 2]) (rest := []) ⟨hx, hb, hml, hown, hW⟩ (c_X7_in l D cI cZ x3 0 2 _ rfl) (cwS0 hW mS_X7_in ml_X7_78 ⟨Nat.le_of_ble_eq_true rfl, Nat.le_of_ble_eq_true rfl⟩) (preS0 hK hN hP hD [] rfl rfl) rfl rfl hl.1 rfl (lv_room (Nat.le_of_ble_eq_true rfl)) dX7_year_24 ⟨Nat.le_refl _, Nat.le_refl _⟩) ?_
      refine W.eq (g2 := F0 m 27 ls [.int (F_X7_in x3 0 2)]) rfl ?_
      refine lv_if_ne (tgt := 33) hx hb dX7_year_27 (by decide) (fun c3 => ?_) (fun c3 => ?_)
      · have hw := Eq.mp (if_neg c3) hw
        refine lv_aload_n hx hb dX7_year_33 rfl (lv_at hl 0 rfl) ?_
        refine callW (va_runV (As := []) (rest := []) ⟨hx, hb, hml, hown, hW⟩ (c_X7_asNow l D cI cZ ad  S0 _ hw) (cwV0 hW mV_X7_asNow ml_X7_108 ⟨Nat.le_of_ble_eq_true rfl, Nat.le_of_ble_eq_true rfl⟩) (preV0 0 rfl rfl hK hN hP hD [0] rfl rfl) rfl rfl hl.1 rfl (lv_room (Nat.le_of_ble_eq_true rfl)) dX7_year_34 ⟨Nat.le_refl _, Nat.le_refl _⟩) hP hD hS [0] rfl rfl (fun _ => rfl) (fun v9 u9 H locs hq hP hD hS => ?_)
        obtain ⟨rfl, hw⟩ := hq
        obtain ⟨Z4, rfl⟩ : ∃ z, z = u9 := ⟨_, rfl⟩
        have hP : va_P D classes (jn [mcells cI cZ ad 0 Z4]) H := hP
        have hD : va_D (cOf (jn [mcells cI cZ ad 0 S0])) (jn [mcells cI cZ ad 0 Z4]) := hD
        refine W.eq (g2 := F0 m 37 ls []) rfl ?_
        refine lv_iload_n hx hb dX7_year_37 rfl (lv_at hl 1 rfl) ?_
        refine lv_istore (lv' := [(4, .int x1), (0, .ref (ad 0)), (1, .int x1), (2, .int x2), (3, .int x3)]) hx hb dX7_year_38 hl (by decide) rfl (fun ls hl => ?_)
        refine lv_iconst (v := 0) hx hb dX7_year_40 (by decide) ?_
        refine lv_istore (lv' := [(5, .int 0), (4, .int x1), (0, .ref (ad 0)), (1, .int x1), (2, .int x2), (3, .int x3)]) hx hb dX7_year_41 hl (by decide) rfl (fun ls hl => ?_)
        obtain ⟨N32, hw⟩ := hw
        refine L43  _ (fun Z18 H locs hP hD hS ls hl hw => ?_) N32 x1 0 Z4 _ _ hP hD hS _ (lv_sub hl [2, 4, 5, 1, 0] rfl) hw
        refine lv_iconst (v := 0) hx hb dX7_year_188 (by decide) ?_
        refine lv_istore (lv' := [(5, .int 0), (0, .ref (ad 0)), (3, .int x3)]) hx hb dX7_year_189 hl (by decide) rfl (fun ls hl => ?_)
        refine lv_iconst (v := 1) hx hb dX7_year_191 (by decide) ?_
        refine lv_aload_n hx hb dX7_year_192 rfl (lv_at hl 1 rfl) ?_
        refine va_get (D := D) (ci := 7) (v := .int (Z18.1 0)) (C := RX7) (T := TX7) (N := 27) hx hb hW inW_X7 hown hK hP 0 rfl rfl 0 (by decide) (hW _ fl_X7_7) (fun _ h9 => h9) rfl dX7_year_193 ?_
        refine lv_ishl hx hb dX7_year_196 ?_
        refine lv_iconst (v := 1) hx hb dX7_year_197 (by decide) ?_
        refine lv_isub hx hb dX7_year_198 ?_
        refine lv_istore (lv' := [(6, .int (((1 : Int32) <<< ((Z18.1 0) &&& 31)) - 1)), (5, .int 0), (0, .ref (ad 0)), (3, .int x3)]) hx hb dX7_year_199 hl (by decide) rfl (fun ls hl => ?_)
        refine lv_iconst (v := 0) hx hb dX7_year_201 (by decide) ?_
        refine lv_istore (lv' := [(7, .int 0), (6, .int (((1 : Int32) <<< ((Z18.1 0) &&& 31)) - 1)), (5, .int 0), (0, .ref (ad 0)), (3, .int x3)]) hx hb dX7_year_202 hl (by decide) rfl (fun ls hl => ?_)
        obtain ⟨N30, hw⟩ := hw
        refine L204 Z18 _ (fun v25 v26 H locs hP hD hS ls hl hw => ?_) N30 0 (((1 : Int32) <<< ((Z18.1 0) &&& 31)) - 1) 0 _ _ hP hD hS _ (lv_sub hl [3, 4, 2, 1, 0] rfl) hw
        refine lv_iload_n hx hb dX7_year_281 rfl (lv_at hl 1 rfl) ?_
        refine lv_if_ne (tgt := 297) hx hb dX7_year_282 (by decide) (fun c27 => ?_) (fun c27 => ?_)
        · have hw := Eq.mp (if_neg c27) hw
          refine lv_iload_n hx hb dX7_year_297 rfl (lv_at hl 1 rfl) ?_
          refine lv_iconst (v := 1) hx hb dX7_year_298 (by decide) ?_
          refine lv_icmp_ne (tgt := 307) hx hb dX7_year_299 (by decide) (fun c28 => ?_) (fun c28 => ?_)
          · have hw := Eq.mp (if_neg c28) hw
            refine lv_iload hx hb dX7_year_307 (lv_at hl 3 rfl) ?_
            exact W.iret (v := v26) hx hb hr (fun t ht _ => ⟨⟨_, (Z18), rfl, ⟨_, rfl, hw⟩, by rw [ht]; exact hP⟩, hS.F ht⟩) hS.2.2 dX7_year_309
          · have hw := Eq.mp (if_pos c28) hw
            refine lv_iload hx hb dX7_year_302 (lv_at hl 2 rfl) ?_
            refine lv_goto (tgt := 309) hx hb dX7_year_304 (by decide) ?_
            exact W.iret (v := v25) hx hb hr (fun t ht _ => ⟨⟨_, (Z18), rfl, ⟨_, rfl, hw⟩, by rw [ht]; exact hP⟩, hS.F ht⟩) hS.2.2 dX7_year_309
        · have hw := Eq.mp (if_pos c27) hw
          refine lv_aload_n hx hb dX7_year_285 rfl (lv_at hl 0 rfl) ?_
          refine va_get (D := D) (ci := 7) (v := .int (Z18.1 14)) (C := RX7) (T := TX7) (N := 27) hx hb hW inW_X7 hown hK hP 0 rfl rfl 14 (by decide) (hW _ fl_X7_96) (fun _ h9 => h9) rfl dX7_year_286 ?_
          refine lv_aload_n hx hb dX7_year_289 rfl (lv_at hl 0 rfl) ?_
          refine va_get (D := D) (ci := 7) (v := .int (Z18.1 2)) (C := RX7) (T := TX7) (N := 27) hx hb hW inW_X7 hown hK hP 0 rfl rfl 2 (by decide) (hW _ fl_X7_66) (fun _ h9 => h9) rfl dX7_year_290 ?_
          refine lv_isub hx hb dX7_year_293 ?_
          refine lv_goto (tgt := 309) hx hb dX7_year_294 (by decide) ?_
          exact W.iret (v := ((Z18.1 14) - (Z18.1 2))) hx hb hr (fun t ht _ => ⟨⟨_, (Z18), rfl, ⟨_, rfl, hw⟩, by rw [ht]; exact hP⟩, hS.F ht⟩) hS.2.2 dX7_year_309
      · have hw := Eq.mp (if_pos c3) hw
        refine lv_bipush (v := (-2)) hx hb dX7_year_30 (by decide) ?_
        exact W.iret (v := (-2)) hx hb hr (fun t ht _ => ⟨⟨_, (S0), rfl, ⟨_, rfl, hw⟩, by rw [ht]; exact hP⟩, hS.F ht⟩) hS.2.2 dX7_year_32
set_option maxHeartbeats 4000000 in
set_option maxRecDepth 100000 in
theorem c_X7_image (l : Launch) (D : va_G) (cI cZ : ClassId) (ad : Nat → Nat) (S0 : St) (x1 : Int32) (k : Int32 → St → Prop) (hw : wp_X7_image S0 x1 k) : KW l yX7_image cX7_image 4 (some .int) 1 22 D cI cZ [.ref (ad 0), .int x1] [mcells cI cZ ad 0 S0] (fun v (u : St) => ∃ r, v = some (.int r) ∧ k r u) (fun u : St => [mcells cI cZ ad 0 u]) := by
  refine Met.ofE (by decide +kernel) (Nat.le_of_ble_eq_true rfl) ?_
  intro p e s m below meth c E ls hl
  obtain ⟨hx, hb, hr, hml, hW, hown, hlocks, hP, hK, hD, hN⟩ := E
  have hl : lv_has ls 4 [(0, .ref (ad 0)), (1, .int x1)] := hl
  have hS : va_S (cOf (jn [mcells cI cZ ad 0 S0])) s.heap s.heap [] := va_S.rf
  have L19 : ∀ (y2 : Int32) (kx : St → Prop), (∀ (S0q : St) (H : Heap) (locs : List Loc), va_P D classes (jn [mcells cI cZ ad 0 S0q]) H → va_D (cOf (jn [mcells cI cZ ad 0 S0])) (jn [mcells cI cZ ad 0 S0q]) → va_S (cOf (jn [mcells cI cZ ad 0 S0])) s.heap H locs → ∀ ls : Array Slot, lv_has ls 4 [(0, .ref (ad 0)), (1, .int x1), (2, .int y2)] → kx S0q → W p l e { frames := 1, cells := 0, slots := 0, locals := 22 } s m ([.ref (ad 0), .int x1] : List Value).toArray below meth c H locs 0 0 (MQ below (QW (fun v (u : St) => ∃ r, v = some (.int r) ∧ k r u) D (fun u : St => [mcells cI cZ ad 0 u]) [mcells cI cZ ad 0 S0]) ([.ref (ad 0), .int x1] : List Value).toArray s 0 0 (cOf (jn [mcells cI cZ ad 0 S0]))) (F0 m 113 ls [])) → ∀ (N19 : Nat) (y3 : Int32) (S0q : St) (H : Heap) (locs : List Loc), va_P D classes (jn [mcells cI cZ ad 0 S0q]) H → va_D (cOf (jn [mcells cI cZ ad 0 S0])) (jn [mcells cI cZ ad 0 S0q]) → va_S (cOf (jn [mcells cI cZ ad 0 S0])) s.heap H locs → ∀ ls : Array Slot, lv_has ls 4 [(0, .ref (ad 0)), (1, .int x1), (2, .int y2), (3, .int y3)] → wl_X7_image_19 y2 kx N19 y3 S0q → W p l e { frames := 1, cells := 0, slots := 0, locals := 22 } s m ([.ref (ad 0), .int x1] : List Value).toArray below meth c H locs 0 0 (MQ below (QW (fun v (u : St) => ∃ r, v = some (.int r) ∧ k r u) D (fun u : St => [mcells cI cZ ad 0 u]) [mcells cI cZ ad 0 S0]) ([.ref (ad 0), .int x1] : List Value).toArray s 0 0 (cOf (jn [mcells cI cZ ad 0 S0]))) (F0 m 19 ls []) := by
    intro y2 kx hxt N19
    induction N19 with
    | zero => intro y3 S0q H locs hP hD hS ls hl hw; exact False.elim hw
    | succ N19 ih =>
      intro y3 S0q H locs hP hD hS ls hl hw
      have hw : (if 6 ≤ y3 then (kx S0q) else (vp_in y3 6 ∧ (vp_in (y2 + y3) 140 ∧ (vp_in y3 6 ∧ (vp_in ((y2 + 6) + y3) 140 ∧ (vp_in y3 6 ∧ (vp_in ((y2 + 12) + y3) 140 ∧ (vp_in y3 6 ∧ (vp_in ((y2 + 18) + y3) 140 ∧ (vp_in y3 6 ∧ (vp_in ((y2 + 24) + y3) 140 ∧ (wl_X7_image_19 y2 kx N19 (y3 + 1) (sA (sA (sA (sA (sA S0q 25 (upd (S0q.2 25) ((y2 + y3) : Int32).toNatClampNeg ((S0q.2 5) (y3 : Int32).toNatClampNeg))) 25 (upd (upd (S0q.2 25) ((y2 + y3) : Int32).toNatClampNeg ((S0q.2 5) (y3 : Int32).toNatClampNeg)) (((y2 + 6) + y3) : Int32).toNatClampNeg ((S0q.2 6) (y3 : Int32).toNatClampNeg))) 25 (upd (upd (upd (S0q.2 25) ((y2 + y3) : Int32).toNatClampNeg ((S0q.2 5) (y3 : Int32).toNatClampNeg)) (((y2 + 6) + y3) : Int32).toNatClampNeg ((S0q.2 6) (y3 : Int32).toNatClampNeg)) (((y2 + 12) + y3) : Int32).toNatClampNeg ((S0q.2 7) (y3 : Int32).toNatClampNeg))) 25 (upd (upd (upd (upd (S0q.2 25) ((y2 + y3) : Int32).toNatClampNeg ((S0q.2 5) (y3 : Int32).toNatClampNeg)) (((y2 + 6) + y3) : Int32).toNatClampNeg ((S0q.2 6) (y3 : Int32).toNatClampNeg)) (((y2 + 12) + y3) : Int32).toNatClampNeg ((S0q.2 7) (y3 : Int32).toNatClampNeg)) (((y2 + 18) + y3) : Int32).toNatClampNeg ((S0q.2 8) (y3 : Int32).toNatClampNeg))) 25 (upd (upd (upd (upd (upd (S0q.2 25) ((y2 + y3) : Int32).toNatClampNeg ((S0q.2 5) (y3 : Int32).toNatClampNeg)) (((y2 + 6) + y3) : Int32).toNatClampNeg ((S0q.2 6) (y3 : Int32).toNatClampNeg)) (((y2 + 12) + y3) : Int32).toNatClampNeg ((S0q.2 7) (y3 : Int32).toNatClampNeg)) (((y2 + 18) + y3) : Int32).toNatClampNeg ((S0q.2 8) (y3 : Int32).toNatClampNeg)) (((y2 + 24) + y3) : Int32).toNatClampNeg ((S0q.2 9) (y3 : Int32).toNatClampNeg))))))))))))))) := hw
      refine lv_iload_n hx hb dX7_image_19 rfl (lv_at hl 3 rfl) ?_
      refine lv_bipush (v := 6) hx hb dX7_image_20 (by decide) ?_
      refine lv_icmp_ge (tgt := 113) hx hb dX7_image_22 (by decide) (fun c2 => ?_) (fun c2 => ?_)
      · have hw := Eq.mp (if_pos c2) hw
        exact hxt S0q _ _ hP hD hS _ (lv_sub hl [0, 1, 2] rfl) hw
      · have hw := Eq.mp (if_neg c2) hw
        refine lv_aload_n hx hb dX7_image_25 rfl (lv_at hl 0 rfl) ?_
        refine va_get (D := D) (ci := 7) (v := .ref (ad (0 + 14))) (C := RX7) (T := TX7) (N := 27) hx hb hW inW_X7 hown hK hP 0 rfl rfl 25 (by decide) (hW _ fl_X7_56) (fun _ h9 => h9) rfl dX7_image_26 ?_
        refine lv_iload_n hx hb dX7_image_29 rfl (lv_at hl 2 rfl) ?_
        refine lv_iload_n hx hb dX7_image_30 rfl (lv_at hl 3 rfl) ?_
        refine lv_iadd hx hb dX7_image_31 ?_
        refine lv_aload_n hx hb dX7_image_32 rfl (lv_at hl 0 rfl) ?_
        refine va_get (D := D) (ci := 7) (v := .ref (ad (0 + 1))) (C := RX7) (T := TX7) (N := 27) hx hb hW inW_X7 hown hK hP 0 rfl rfl 5 (by decide) (hW _ fl_X7_16) (fun _ h9 => h9) rfl dX7_image_33 ?_
        refine lv_iload_n hx hb dX7_image_36 rfl (lv_at hl 3 rfl) ?_
        refine va_iald (f := (S0q.2 5)) hx hb hK hP 1 0 rfl rfl hw.1 dX7_image_37 ?_
        have hw := hw.2
        refine va_iast (f := (S0q.2 25)) hx hb hK hP hD hS 14 0 rfl rfl hw.1 dX7_image_38 (fun H locs hP hD hS => ?_)
        have hw := hw.2
        revert hw; revert hD; revert hP
        generalize (upd (S0q.2 25) ((y2 + y3) : Int32).toNatClampNeg ((S0q.2 5) (y3 : Int32).toNatClampNeg)) = Z3
        intro hP hD hw
        have hP : va_P D classes (jn [mcells cI cZ ad 0 (sA S0q 25 Z3)]) H := ms_a25 (Φ := fun w => va_P D classes w H) (S := S0q) (v := Z3) hP
        have hD : va_D (cOf (jn [mcells cI cZ ad 0 S0])) (jn [mcells cI cZ ad 0 (sA S0q 25 Z3)]) := ms_a25 (Φ := fun w => va_D (cOf (jn [mcells cI cZ ad 0 S0])) w) (S := S0q) (v := Z3) hD
        refine lv_aload_n hx hb dX7_image_39 rfl (lv_at hl 0 rfl) ?_
        refine va_get (D := D) (ci := 7) (v := .ref (ad (0 + 14))) (C := RX7) (T := TX7) (N := 27) hx hb hW inW_X7 hown hK hP 0 rfl rfl 25 (by decide) (hW _ fl_X7_56) (fun _ h9 => h9) rfl dX7_image_40 ?_
        refine lv_iload_n hx hb dX7_image_43 rfl (lv_at hl 2 rfl) ?_
        refine lv_bipush (v := 6) hx hb dX7_image_44 (by decide) ?_
        refine lv_iadd hx hb dX7_image_46 ?_
        refine lv_iload_n hx hb dX7_image_47 rfl (lv_at hl 3 rfl) ?_
        refine lv_iadd hx hb dX7_image_48 ?_
        refine lv_aload_n hx hb dX7_image_49 rfl (lv_at hl 0 rfl) ?_
        refine va_get (D := D) (ci := 7) (v := .ref (ad (0 + 2))) (C := RX7) (T := TX7) (N := 27) hx hb hW inW_X7 hown hK hP 0 rfl rfl 6 (by decide) (hW _ fl_X7_20) (fun _ h9 => h9) rfl dX7_image_50 ?_
        refine lv_iload_n hx hb dX7_image_53 rfl (lv_at hl 3 rfl) ?_
        refine va_iald (f := (S0q.2 6)) hx hb hK hP 2 0 rfl rfl hw.1 dX7_image_54 ?_
        have hw := hw.2
        refine va_iast (f := Z3) hx hb hK hP hD hS 14 0 rfl rfl hw.1 dX7_image_55 (fun H locs hP hD hS => ?_)
        have hw := hw.2
        revert hw; revert hD; revert hP
        generalize (upd Z3 (((y2 + 6) + y3) : Int32).toNatClampNeg ((S0q.2 6) (y3 : Int32).toNatClampNeg)) = Z4
        intro hP hD hw
        have hP : va_P D classes (jn [mcells cI cZ ad 0 (sA (sA S0q 25 Z3) 25 Z4)]) H := ms_a25 (Φ := fun w => va_P D classes w H) (S := (sA S0q 25 Z3)) (v := Z4) hP
        have hD : va_D (cOf (jn [mcells cI cZ ad 0 S0])) (jn [mcells cI cZ ad 0 (sA (sA S0q 25 Z3) 25 Z4)]) := ms_a25 (Φ := fun w => va_D (cOf (jn [mcells cI cZ ad 0 S0])) w) (S := (sA S0q 25 Z3)) (v := Z4) hD
        refine lv_aload_n hx hb dX7_image_56 rfl (lv_at hl 0 rfl) ?_
        refine va_get (D := D) (ci := 7) (v := .ref (ad (0 + 14))) (C := RX7) (T := TX7) (N := 27) hx hb hW inW_X7 hown hK hP 0 rfl rfl 25 (by decide) (hW _ fl_X7_56) (fun _ h9 => h9) rfl dX7_image_57 ?_
        refine lv_iload_n hx hb dX7_image_60 rfl (lv_at hl 2 rfl) ?_
        refine lv_bipush (v := 12) hx hb dX7_image_61 (by decide) ?_
        refine lv_iadd hx hb dX7_image_63 ?_
        refine lv_iload_n hx hb dX7_image_64 rfl (lv_at hl 3 rfl) ?_
        refine lv_iadd hx hb dX7_image_65 ?_
        refine lv_aload_n hx hb dX7_image_66 rfl (lv_at hl 0 rfl) ?_
        refine va_get (D := D) (ci := 7) (v := .ref (ad (0 + 3))) (C := RX7) (T := TX7) (N := 27) hx hb hW inW_X7 hown hK hP 0 rfl rfl 7 (by decide) (hW _ fl_X7_23) (fun _ h9 => h9) rfl dX7_image_67 ?_
        refine lv_iload_n hx hb dX7_image_70 rfl (lv_at hl 3 rfl) ?_
        refine va_iald (f := (S0q.2 7)) hx hb hK hP 3 0 rfl rfl hw.1 dX7_image_71 ?_
        have hw := hw.2
        refine va_iast (f := Z4) hx hb hK hP hD hS 14 0 rfl rfl hw.1 dX7_image_72 (fun H locs hP hD hS => ?_)
        have hw := hw.2
        revert hw; revert hD; revert hP
        generalize (upd Z4 (((y2 + 12) + y3) : Int32).toNatClampNeg ((S0q.2 7) (y3 : Int32).toNatClampNeg)) = Z5
        intro hP hD hw
        have hP : va_P D classes (jn [mcells cI cZ ad 0 (sA (sA (sA S0q 25 Z3) 25 Z4) 25 Z5)]) H := ms_a25 (Φ := fun w => va_P D classes w H) (S := (sA (sA S0q 25 Z3) 25 Z4)) (v := Z5) hP
        have hD : va_D (cOf (jn [mcells cI cZ ad 0 S0])) (jn [mcells cI cZ ad 0 (sA (sA (sA S0q 25 Z3) 25 Z4) 25 Z5)]) := ms_a25 (Φ := fun w => va_D (cOf (jn [mcells cI cZ ad 0 S0])) w) (S := (sA (sA S0q 25 Z3) 25 Z4)) (v := Z5) hD
        refine lv_aload_n hx hb dX7_image_73 rfl (lv_at hl 0 rfl) ?_
        refine va_get (D := D) (ci := 7) (v := .ref (ad (0 + 14))) (C := RX7) (T := TX7) (N := 27) hx hb hW inW_X7 hown hK hP 0 rfl rfl 25 (by decide) (hW _ fl_X7_56) (fun _ h9 => h9) rfl dX7_image_74 ?_
        refine lv_iload_n hx hb dX7_image_77 rfl (lv_at hl 2 rfl) ?_
        refine lv_bipush (v := 18) hx hb dX7_image_78 (by decide) ?_
        refine lv_iadd hx hb dX7_image_80 ?_
        refine lv_iload_n hx hb dX7_image_81 rfl (lv_at hl 3 rfl) ?_
        refine lv_iadd hx hb dX7_image_82 ?_
        refine lv_aload_n hx hb dX7_image_83 rfl (lv_at hl 0 rfl) ?_
        refine va_get (D := D) (ci := 7) (v := .ref (ad (0 + 4))) (C := RX7) (T := TX7) (N := 27) hx hb hW inW_X7 hown hK hP 0 rfl rfl 8 (by decide) (hW _ fl_X7_26) (fun _ h9 => h9) rfl dX7_image_84 ?_
        refine lv_iload_n hx hb dX7_image_87 rfl (lv_at hl 3 rfl) ?_
        refine va_iald (f := (S0q.2 8)) hx hb hK hP 4 0 rfl rfl hw.1 dX7_image_88 ?_
        have hw := hw.2
        refine va_iast (f := Z5) hx hb hK hP hD hS 14 0 rfl rfl hw.1 dX7_image_89 (fun H locs hP hD hS => ?_)
        have hw := hw.2
        revert hw; revert hD; revert hP
        generalize (upd Z5 (((y2 + 18) + y3) : Int32).toNatClampNeg ((S0q.2 8) (y3 : Int32).toNatClampNeg)) = Z6
        intro hP hD hw
        have hP : va_P D classes (jn [mcells cI cZ ad 0 (sA (sA (sA (sA S0q 25 Z3) 25 Z4) 25 Z5) 25 Z6)]) H := ms_a25 (Φ := fun w => va_P D classes w H) (S := (sA (sA (sA S0q 25 Z3) 25 Z4) 25 Z5)) (v := Z6) hP
        have hD : va_D (cOf (jn [mcells cI cZ ad 0 S0])) (jn [mcells cI cZ ad 0 (sA (sA (sA (sA S0q 25 Z3) 25 Z4) 25 Z5) 25 Z6)]) := ms_a25 (Φ := fun w => va_D (cOf (jn [mcells cI cZ ad 0 S0])) w) (S := (sA (sA (sA S0q 25 Z3) 25 Z4) 25 Z5)) (v := Z6) hD
        refine lv_aload_n hx hb dX7_image_90 rfl (lv_at hl 0 rfl) ?_
        refine va_get (D := D) (ci := 7) (v := .ref (ad (0 + 14))) (C := RX7) (T := TX7) (N := 27) hx hb hW inW_X7 hown hK hP 0 rfl rfl 25 (by decide) (hW _ fl_X7_56) (fun _ h9 => h9) rfl dX7_image_91 ?_
        refine lv_iload_n hx hb dX7_image_94 rfl (lv_at hl 2 rfl) ?_
        refine lv_bipush (v := 24) hx hb dX7_image_95 (by decide) ?_
        refine lv_iadd hx hb dX7_image_97 ?_
        refine lv_iload_n hx hb dX7_image_98 rfl (lv_at hl 3 rfl) ?_
        refine lv_iadd hx hb dX7_image_99 ?_
        refine lv_aload_n hx hb dX7_image_100 rfl (lv_at hl 0 rfl) ?_
        refine va_get (D := D) (ci := 7) (v := .ref (ad (0 + 5))) (C := RX7) (T := TX7) (N := 27) hx hb hW inW_X7 hown hK hP 0 rfl rfl 9 (by decide) (hW _ fl_X7_29) (fun _ h9 => h9) rfl dX7_image_101 ?_
        refine lv_iload_n hx hb dX7_image_104 rfl (lv_at hl 3 rfl) ?_
        refine va_iald (f := (S0q.2 9)) hx hb hK hP 5 0 rfl rfl hw.1 dX7_image_105 ?_
        have hw := hw.2
        refine va_iast (f := Z6) hx hb hK hP hD hS 14 0 rfl rfl hw.1 dX7_image_106 (fun H locs hP hD hS => ?_)
        have hw := hw.2
        revert hw; revert hD; revert hP
        generalize (upd Z6 (((y2 + 24) + y3) : Int32).toNatClampNeg ((S0q.2 9) (y3 : Int32).toNatClampNeg)) = Z7
        intro hP hD hw
        have hP : va_P D classes (jn [mcells cI cZ ad 0 (sA (sA (sA (sA (sA S0q 25 Z3) 25 Z4) 25 Z5) 25 Z6) 25 Z7)]) H := ms_a25 (Φ := fun w => va_P D classes w H) (S := (sA (sA (sA (sA S0q 25 Z3) 25 Z4) 25 Z5) 25 Z6)) (v := Z7) hP
        have hD : va_D (cOf (jn [mcells cI cZ ad 0 S0])) (jn [mcells cI cZ ad 0 (sA (sA (sA (sA (sA S0q 25 Z3) 25 Z4) 25 Z5) 25 Z6) 25 Z7)]) := ms_a25 (Φ := fun w => va_D (cOf (jn [mcells cI cZ ad 0 S0])) w) (S := (sA (sA (sA (sA S0q 25 Z3) 25 Z4) 25 Z5) 25 Z6)) (v := Z7) hD
        refine lv_iinc (v := (y3 + 1)) (lv' := [(3, .int (y3 + 1)), (0, .ref (ad 0)), (1, .int x1), (2, .int y2)]) hx hb dX7_image_107 hl (k := 3) rfl rfl (by decide) rfl (fun ls hl => ?_)
        refine lv_goto (tgt := 19) hx hb dX7_image_110 (by decide) ?_
        exact ih (y3 + 1) (sA (sA (sA (sA (sA S0q 25 Z3) 25 Z4) 25 Z5) 25 Z6) 25 Z7) _ _ hP hD hS _ (lv_sub hl [1, 2, 3, 0] rfl) hw
  have L115 : ∀ (y2 : Int32) (kx : St → Prop), (∀ (S0q : St) (H : Heap) (locs : List Loc), va_P D classes (jn [mcells cI cZ ad 0 S0q]) H → va_D (cOf (jn [mcells cI cZ ad 0 S0])) (jn [mcells cI cZ ad 0 S0q]) → va_S (cOf (jn [mcells cI cZ ad 0 S0])) s.heap H locs → ∀ ls : Array Slot, lv_has ls 4 [(0, .ref (ad 0)), (1, .int x1), (2, .int y2)] → kx S0q → W p l e { frames := 1, cells := 0, slots := 0, locals := 22 } s m ([.ref (ad 0), .int x1] : List Value).toArray below meth c H locs 0 0 (MQ below (QW (fun v (u : St) => ∃ r, v = some (.int r) ∧ k r u) D (fun u : St => [mcells cI cZ ad 0 u]) [mcells cI cZ ad 0 S0]) ([.ref (ad 0), .int x1] : List Value).toArray s 0 0 (cOf (jn [mcells cI cZ ad 0 S0]))) (F0 m 144 ls [])) → ∀ (N115 : Nat) (y3 : Int32) (S0q : St) (H : Heap) (locs : List Loc), va_P D classes (jn [mcells cI cZ ad 0 S0q]) H → va_D (cOf (jn [mcells cI cZ ad 0 S0])) (jn [mcells cI cZ ad 0 S0q]) → va_S (cOf (jn [mcells cI cZ ad 0 S0])) s.heap H locs → ∀ ls : Array Slot, lv_has ls 4 [(0, .ref (ad 0)), (1, .int x1), (2, .int y2), (3, .int y3)] → wl_X7_image_115 y2 kx N115 y3 S0q → W p l e { frames := 1, cells := 0, slots := 0, locals := 22 } s m ([.ref (ad 0), .int x1] : List Value).toArray below meth c H locs 0 0 (MQ below (QW (fun v (u : St) => ∃ r, v = some (.int r) ∧ k r u) D (fun u : St => [mcells cI cZ ad 0 u]) [mcells cI cZ ad 0 S0]) ([.ref (ad 0), .int x1] : List Value).toArray s 0 0 (cOf (jn [mcells cI cZ ad 0 S0]))) (F0 m 115 ls []) := by
    intro y2 kx hxt N115
    induction N115 with
    | zero => intro y3 S0q H locs hP hD hS ls hl hw; exact False.elim hw
    | succ N115 ih =>
      intro y3 S0q H locs hP hD hS ls hl hw
      have hw : (if 16 ≤ y3 then (kx S0q) else (vp_in y3 16 ∧ (vp_in ((y2 + 30) + y3) 140 ∧ (wl_X7_image_115 y2 kx N115 (y3 + 1) (sA S0q 25 (upd (S0q.2 25) (((y2 + 30) + y3) : Int32).toNatClampNeg ((S0q.2 11) (y3 : Int32).toNatClampNeg))))))) := hw
      refine lv_iload_n hx hb dX7_image_115 rfl (lv_at hl 3 rfl) ?_
      refine lv_bipush (v := 16) hx hb dX7_image_116 (by decide) ?_
      refine lv_icmp_ge (tgt := 144) hx hb dX7_image_118 (by decide) (fun c9 => ?_) (fun c9 => ?_)
      · have hw := Eq.mp (if_pos c9) hw
        exact hxt S0q _ _ hP hD hS _ (lv_sub hl [0, 1, 2] rfl) hw
      · have hw := Eq.mp (if_neg c9) hw
        refine lv_aload_n hx hb dX7_image_121 rfl (lv_at hl 0 rfl) ?_
        refine va_get (D := D) (ci := 7) (v := .ref (ad (0 + 14))) (C := RX7) (T := TX7) (N := 27) hx hb hW inW_X7 hown hK hP 0 rfl rfl 25 (by decide) (hW _ fl_X7_56) (fun _ h9 => h9) rfl dX7_image_122 ?_
        refine lv_iload_n hx hb dX7_image_125 rfl (lv_at hl 2 rfl) ?_
        refine lv_bipush (v := 30) hx hb dX7_image_126 (by decide) ?_
        refine lv_iadd hx hb dX7_image_128 ?_
        refine lv_iload_n hx hb dX7_image_129 rfl (lv_at hl 3 rfl) ?_
        refine lv_iadd hx hb dX7_image_130 ?_
        refine lv_aload_n hx hb dX7_image_131 rfl (lv_at hl 0 rfl) ?_
        refine va_get (D := D) (ci := 7) (v := .ref (ad (0 + 6))) (C := RX7) (T := TX7) (N := 27) hx hb hW inW_X7 hown hK hP 0 rfl rfl 11 (by decide) (hW _ fl_X7_32) (fun _ h9 => h9) rfl dX7_image_132 ?_
        refine lv_iload_n hx hb dX7_image_135 rfl (lv_at hl 3 rfl) ?_
        refine va_iald (f := (S0q.2 11)) hx hb hK hP 6 0 rfl rfl hw.1 dX7_image_136 ?_
        have hw := hw.2
        refine va_iast (f := (S0q.2 25)) hx hb hK hP hD hS 14 0 rfl rfl hw.1 dX7_image_137 (fun H locs hP hD hS => ?_)
        have hw := hw.2
        revert hw; revert hD; revert hP
        generalize (upd (S0q.2 25) (((y2 + 30) + y3) : Int32).toNatClampNeg ((S0q.2 11) (y3 : Int32).toNatClampNeg)) = Z10
        intro hP hD hw
        have hP : va_P D classes (jn [mcells cI cZ ad 0 (sA S0q 25 Z10)]) H := ms_a25 (Φ := fun w => va_P D classes w H) (S := S0q) (v := Z10) hP
        have hD : va_D (cOf (jn [mcells cI cZ ad 0 S0])) (jn [mcells cI cZ ad 0 (sA S0q 25 Z10)]) := ms_a25 (Φ := fun w => va_D (cOf (jn [mcells cI cZ ad 0 S0])) w) (S := S0q) (v := Z10) hD
        refine lv_iinc (v := (y3 + 1)) (lv' := [(3, .int (y3 + 1)), (0, .ref (ad 0)), (1, .int x1), (2, .int y2)]) hx hb dX7_image_138 hl (k := 3) rfl rfl (by decide) rfl (fun ls hl => ?_)
        refine lv_goto (tgt := 115) hx hb dX7_image_141 (by decide) ?_
        exact ih (y3 + 1) (sA S0q 25 Z10) _ _ hP hD hS _ (lv_sub hl [1, 2, 3, 0] rfl) hw
  have hw : (if (F_X7_in x1 0 1) = 0 then (k (-2) S0) else (∃ M21, wl_X7_image_19 ((70 : Int32) * x1) (fun (Z8 : St) => (∃ M19, wl_X7_image_115 ((70 : Int32) * x1) (fun (Z11 : St) => (vp_in (((70 : Int32) * x1) + 50) 140 ∧ (vp_in (((70 : Int32) * x1) + 51) 140 ∧ (vp_in (((70 : Int32) * x1) + 52) 140 ∧ (vp_in (((70 : Int32) * x1) + 53) 140 ∧ (vp_in (((70 : Int32) * x1) + 54) 140 ∧ (vp_in (((70 : Int32) * x1) + 55) 140 ∧ (vp_in x1 2 ∧ (k 1 (sA (sA (sA (sA (sA (sA (sA Z11 25 (upd (Z11.2 25) ((((70 : Int32) * x1) + 50) : Int32).toNatClampNeg (Z11.1 0))) 25 (upd (upd (Z11.2 25) ((((70 : Int32) * x1) + 50) : Int32).toNatClampNeg (Z11.1 0)) ((((70 : Int32) * x1) + 51) : Int32).toNatClampNeg (Z11.1 1))) 25 (upd (upd (upd (Z11.2 25) ((((70 : Int32) * x1) + 50) : Int32).toNatClampNeg (Z11.1 0)) ((((70 : Int32) * x1) + 51) : Int32).toNatClampNeg (Z11.1 1)) ((((70 : Int32) * x1) + 52) : Int32).toNatClampNeg (Z11.1 2))) 25 (upd (upd (upd (upd (Z11.2 25) ((((70 : Int32) * x1) + 50) : Int32).toNatClampNeg (Z11.1 0)) ((((70 : Int32) * x1) + 51) : Int32).toNatClampNeg (Z11.1 1)) ((((70 : Int32) * x1) + 52) : Int32).toNatClampNeg (Z11.1 2)) ((((70 : Int32) * x1) + 53) : Int32).toNatClampNeg (Z11.1 3))) 25 (upd (upd (upd (upd (upd (Z11.2 25) ((((70 : Int32) * x1) + 50) : Int32).toNatClampNeg (Z11.1 0)) ((((70 : Int32) * x1) + 51) : Int32).toNatClampNeg (Z11.1 1)) ((((70 : Int32) * x1) + 52) : Int32).toNatClampNeg (Z11.1 2)) ((((70 : Int32) * x1) + 53) : Int32).toNatClampNeg (Z11.1 3)) ((((70 : Int32) * x1) + 54) : Int32).toNatClampNeg (Z11.1 4))) 25 (upd (upd (upd (upd (upd (upd (Z11.2 25) ((((70 : Int32) * x1) + 50) : Int32).toNatClampNeg (Z11.1 0)) ((((70 : Int32) * x1) + 51) : Int32).toNatClampNeg (Z11.1 1)) ((((70 : Int32) * x1) + 52) : Int32).toNatClampNeg (Z11.1 2)) ((((70 : Int32) * x1) + 53) : Int32).toNatClampNeg (Z11.1 3)) ((((70 : Int32) * x1) + 54) : Int32).toNatClampNeg (Z11.1 4)) ((((70 : Int32) * x1) + 55) : Int32).toNatClampNeg (Z11.1 10))) 26 (upd (Z11.2 26) (x1 : Int32).toNatClampNeg (vp_nar .boolean 1)))))))))))) M19 0 Z8)) M21 0 S0)) := hw
  refine lv_iload_n hx hb dX7_image_0 rfl (lv_at hl 1 rfl) ?_
  refine lv_iconst (v := 0) hx hb dX7_image_1 (by decide) ?_
  refine lv_iconst (v := 1) hx hb dX7_image_2 (by decide) ?_
  refine callF (va_runS (As := [.int x1, .int 0, .int 1]) (rest := []) ⟨hx, hb, hml, hown, hW⟩ (c_X7_in l D cI cZ x1 0 1 _ rfl) (cwS0 hW mS_X7_in ml_X7_78 ⟨Nat.le_of_ble_eq_true rfl, Nat.le_of_ble_eq_true rfl⟩) (preS0 hK hN hP hD [] rfl rfl) rfl rfl hl.1 rfl (lv_room (Nat.le_of_ble_eq_true rfl)) dX7_image_3 ⟨Nat.le_refl _, Nat.le_refl _⟩) ?_
  refine W.eq (g2 := F0 m 6 ls [.int (F_X7_in x1 0 1)]) rfl ?_
  refine lv_if_ne (tgt := 12) hx hb dX7_image_6 (by decide) (fun c1 => ?_) (fun c1 => ?_)
  · have hw := Eq.mp (if_neg c1) hw
    refine lv_bipush (v := 70) hx hb dX7_image_12 (by decide) ?_
    refine lv_iload_n hx hb dX7_image_14 rfl (lv_at hl 1 rfl) ?_
    refine lv_imul hx hb dX7_image_15 ?_
    refine lv_istore_n (lv' := [(2, .int ((70 : Int32) * x1)), (0, .ref (ad 0)), (1, .int x1)]) hx hb dX7_image_16 rfl hl (by decide) rfl (fun ls hl => ?_)
    refine lv_iconst (v := 0) hx hb dX7_image_17 (by decide) ?_
    refine lv_istore_n (lv' := [(3, .int 0), (2, .int ((70 : Int32) * x1)), (0, .ref (ad 0)), (1, .int x1)]) hx hb dX7_image_18 rfl hl (by decide) rfl (fun ls hl => ?_)
    obtain ⟨N22, hw⟩ := hw
    refine L19 ((70 : Int32) * x1) _ (fun Z8 H locs hP hD hS ls hl hw => ?_) N22 0 S0 _ _ hP hD hS _ (lv_sub hl [2, 3, 1, 0] rfl) hw
    refine lv_iconst (v := 0) hx hb dX7_image_113 (by decide) ?_
    refine lv_istore_n (lv' := [(3, .int 0), (0, .ref (ad 0)), (1, .int x1), (2, .int ((70 : Int32) * x1))]) hx hb dX7_image_114 rfl hl (by decide) rfl (fun ls hl => ?_)
    obtain ⟨N20, hw⟩ := hw
    refine L115 ((70 : Int32) * x1) _ (fun Z11 H locs hP hD hS ls hl hw => ?_) N20 0 Z8 _ _ hP hD hS _ (lv_sub hl [1, 2, 3, 0] rfl) hw
    refine lv_aload_n hx hb dX7_image_144 rfl (lv_at hl 0 rfl) ?_
    refine va_get (D := D) (ci := 7) (v := .ref (ad (0 + 14))) (C := RX7) (T := TX7) (N := 27) hx hb hW inW_X7 hown hK hP 0 rfl rfl 25 (by decide) (hW _ fl_X7_56) (fun _ h9 => h9) rfl dX7_image_145 ?_
    refine lv_iload_n hx hb dX7_image_148 rfl (lv_at hl 2 rfl) ?_
    refine lv_bipush (v := 50) hx hb dX7_image_149 (by decide) ?_
    refine lv_iadd hx hb dX7_image_151 ?_
    refine lv_aload_n hx hb dX7_image_152 rfl (lv_at hl 0 rfl) ?_
    refine va_get (D := D) (ci := 7) (v := .int (Z11.1 0)) (C := RX7) (T := TX7) (N := 27) hx hb hW inW_X7 hown hK hP 0 rfl rfl 0 (by decide) (hW _ fl_X7_7) (fun _ h9 => h9) rfl dX7_image_153 ?_
    refine va_iast (f := (Z11.2 25)) hx hb hK hP hD hS 14 0 rfl rfl hw.1 dX7_image_156 (fun H locs hP hD hS => ?_)
    have hw := hw.2
    revert hw; revert hD; revert hP
    generalize (upd (Z11.2 25) ((((70 : Int32) * x1) + 50) : Int32).toNatClampNeg (Z11.1 0)) = Z12
    intro hP hD hw
    have hP : va_P D classes (jn [mcells cI cZ ad 0 (sA Z11 25 Z12)]) H := ms_a25 (Φ := fun w => va_P D classes w H) (S := Z11) (v := Z12) hP
    have hD : va_D (cOf (jn [mcells cI cZ ad 0 S0])) (jn [mcells cI cZ ad 0 (sA Z11 25 Z12)]) := ms_a25 (Φ := fun w => va_D (cOf (jn [mcells cI cZ ad 0 S0])) w) (S := Z11) (v := Z12) hD
    refine lv_aload_n hx hb dX7_image_157 rfl (lv_at hl 0 rfl) ?_
    refine va_get (D := D) (ci := 7) (v := .ref (ad (0 + 14))) (C := RX7) (T := TX7) (N := 27) hx hb hW inW_X7 hown hK hP 0 rfl rfl 25 (by decide) (hW _ fl_X7_56) (fun _ h9 => h9) rfl dX7_image_158 ?_
    refine lv_iload_n hx hb dX7_image_161 rfl (lv_at hl 2 rfl) ?_
    refine lv_bipush (v := 51) hx hb dX7_image_162 (by decide) ?_
    refine lv_iadd hx hb dX7_image_164 ?_
    refine lv_aload_n hx hb dX7_image_165 rfl (lv_at hl 0 rfl) ?_
    refine va_get (D := D) (ci := 7) (v := .int (Z11.1 1)) (C := RX7) (T := TX7) (N := 27) hx hb hW inW_X7 hown hK hP 0 rfl rfl 1 (by decide) (hW _ fl_X7_13) (fun _ h9 => h9) rfl dX7_image_166 ?_
    refine va_iast (f := Z12) hx hb hK hP hD hS 14 0 rfl rfl hw.1 dX7_image_169 (fun H locs hP hD hS => ?_)
    have hw := hw.2
    revert hw; revert hD; revert hP
    generalize (upd Z12 ((((70 : Int32) * x1) + 51) : Int32).toNatClampNeg (Z11.1 1)) = Z13
    intro hP hD hw
    have hP : va_P D classes (jn [mcells cI cZ ad 0 (sA (sA Z11 25 Z12) 25 Z13)]) H := ms_a25 (Φ := fun w => va_P D classes w H) (S := (sA Z11 25 Z12)) (v := Z13) hP
    have hD : va_D (cOf (jn [mcells cI cZ ad 0 S0])) (jn [mcells cI cZ ad 0 (sA (sA Z11 25 Z12) 25 Z13)]) := ms_a25 (Φ := fun w => va_D (cOf (jn [mcells cI cZ ad 0 S0])) w) (S := (sA Z11 25 Z12)) (v := Z13) hD
    refine lv_aload_n hx hb dX7_image_170 rfl (lv_at hl 0 rfl) ?_
    refine va_get (D := D) (ci := 7) (v := .ref (ad (0 + 14))) (C := RX7) (T := TX7) (N := 27) hx hb hW inW_X7 hown hK hP 0 rfl rfl 25 (by decide) (hW _ fl_X7_56) (fun _ h9 => h9) rfl dX7_image_171 ?_
    refine lv_iload_n hx hb dX7_image_174 rfl (lv_at hl 2 rfl) ?_
    refine lv_bipush (v := 52) hx hb dX7_image_175 (by decide) ?_
    refine lv_iadd hx hb dX7_image_177 ?_
    refine lv_aload_n hx hb dX7_image_178 rfl (lv_at hl 0 rfl) ?_
    refine va_get (D := D) (ci := 7) (v := .int (Z11.1 2)) (C := RX7) (T := TX7) (N := 27) hx hb hW inW_X7 hown hK hP 0 rfl rfl 2 (by decide) (hW _ fl_X7_66) (fun _ h9 => h9) rfl dX7_image_179 ?_
    refine va_iast (f := Z13) hx hb hK hP hD hS 14 0 rfl rfl hw.1 dX7_image_182 (fun H locs hP hD hS => ?_)
    have hw := hw.2
    revert hw; revert hD; revert hP
    generalize (upd Z13 ((((70 : Int32) * x1) + 52) : Int32).toNatClampNeg (Z11.1 2)) = Z14
    intro hP hD hw
    have hP : va_P D classes (jn [mcells cI cZ ad 0 (sA (sA (sA Z11 25 Z12) 25 Z13) 25 Z14)]) H := ms_a25 (Φ := fun w => va_P D classes w H) (S := (sA (sA Z11 25 Z12) 25 Z13)) (v := Z14) hP
    have hD : va_D (cOf (jn [mcells cI cZ ad 0 S0])) (jn [mcells cI cZ ad 0 (sA (sA (sA Z11 25 Z12) 25 Z13) 25 Z14)]) := ms_a25 (Φ := fun w => va_D (cOf (jn [mcells cI cZ ad 0 S0])) w) (S := (sA (sA Z11 25 Z12) 25 Z13)) (v := Z14) hD
    refine lv_aload_n hx hb dX7_image_183 rfl (lv_at hl 0 rfl) ?_
    refine va_get (D := D) (ci := 7) (v := .ref (ad (0 + 14))) (C := RX7) (T := TX7) (N := 27) hx hb hW inW_X7 hown hK hP 0 rfl rfl 25 (by decide) (hW _ fl_X7_56) (fun _ h9 => h9) rfl dX7_image_184 ?_
    refine lv_iload_n hx hb dX7_image_187 rfl (lv_at hl 2 rfl) ?_
    refine lv_bipush (v := 53) hx hb dX7_image_188 (by decide) ?_
    refine lv_iadd hx hb dX7_image_190 ?_
    refine lv_aload_n hx hb dX7_image_191 rfl (lv_at hl 0 rfl) ?_
    refine va_get (D := D) (ci := 7) (v := .int (Z11.1 3)) (C := RX7) (T := TX7) (N := 27) hx hb hW inW_X7 hown hK hP 0 rfl rfl 3 (by decide) (hW _ fl_X7_69) (fun _ h9 => h9) rfl dX7_image_192 ?_
    refine va_iast (f := Z14) hx hb hK hP hD hS 14 0 rfl rfl hw.1 dX7_image_195 (fun H locs hP hD hS => ?_)
    have hw := hw.2
    revert hw; revert hD; revert hP
    generalize (upd Z14 ((((70 : Int32) * x1) + 53) : Int32).toNatClampNeg (Z11.1 3)) = Z15
    intro hP hD hw
    have hP : va_P D classes (jn [mcells cI cZ ad 0 (sA (sA (sA (sA Z11 25 Z12) 25 Z13) 25 Z14) 25 Z15)]) H := ms_a25 (Φ := fun w => va_P D classes w H) (S := (sA (sA (sA Z11 25 Z12) 25 Z13) 25 Z14)) (v := Z15) hP
    have hD : va_D (cOf (jn [mcells cI cZ ad 0 S0])) (jn [mcells cI cZ ad 0 (sA (sA (sA (sA Z11 25 Z12) 25 Z13) 25 Z14) 25 Z15)]) := ms_a25 (Φ := fun w => va_D (cOf (jn [mcells cI cZ ad 0 S0])) w) (S := (sA (sA (sA Z11 25 Z12) 25 Z13) 25 Z14)) (v := Z15) hD
    refine lv_aload_n hx hb dX7_image_196 rfl (lv_at hl 0 rfl) ?_
    refine va_get (D := D) (ci := 7) (v := .ref (ad (0 + 14))) (C := RX7) (T := TX7) (N := 27) hx hb hW inW_X7 hown hK hP 0 rfl rfl 25 (by decide) (hW _ fl_X7_56) (fun _ h9 => h9) rfl dX7_image_197 ?_
    refine lv_iload_n hx hb dX7_image_200 rfl (lv_at hl 2 rfl) ?_
    refine lv_bipush (v := 54) hx hb dX7_image_201 (by decide) ?_
    refine lv_iadd hx hb dX7_image_203 ?_
    refine lv_aload_n hx hb dX7_image_204 rfl (lv_at hl 0 rfl) ?_
    refine va_get (D := D) (ci := 7) (v := .int (Z11.1 4)) (C := RX7) (T := TX7) (N := 27) hx hb hW inW_X7 hown hK hP 0 rfl rfl 4 (by decide) (hW _ fl_X7_72) (fun _ h9 => h9) rfl dX7_image_205 ?_
    refine va_iast (f := Z15) hx hb hK hP hD hS 14 0 rfl rfl hw.1 dX7_image_208 (fun H locs hP hD hS => ?_)
    have hw := hw.2
    revert hw; revert hD; revert hP
    generalize (upd Z15 ((((70 : Int32) * x1) + 54) : Int32).toNatClampNeg (Z11.1 4)) = Z16
    intro hP hD hw
    have hP : va_P D classes (jn [mcells cI cZ ad 0 (sA (sA (sA (sA (sA Z11 25 Z12) 25 Z13) 25 Z14) 25 Z15) 25 Z16)]) H := ms_a25 (Φ := fun w => va_P D classes w H) (S := (sA (sA (sA (sA Z11 25 Z12) 25 Z13) 25 Z14) 25 Z15)) (v := Z16) hP
    have hD : va_D (cOf (jn [mcells cI cZ ad 0 S0])) (jn [mcells cI cZ ad 0 (sA (sA (sA (sA (sA Z11 25 Z12) 25 Z13) 25 Z14) 25 Z15) 25 Z16)]) := ms_a25 (Φ := fun w => va_D (cOf (jn [mcells cI cZ ad 0 S0])) w) (S := (sA (sA (sA (sA Z11 25 Z12) 25 Z13) 25 Z14) 25 Z15)) (v := Z16) hD
    refine lv_aload_n hx hb dX7_image_209 rfl (lv_at hl 0 rfl) ?_
    refine va_get (D := D) (ci := 7) (v := .ref (ad (0 + 14))) (C := RX7) (T := TX7) (N := 27) hx hb hW inW_X7 hown hK hP 0 rfl rfl 25 (by decide) (hW _ fl_X7_56) (fun _ h9 => h9) rfl dX7_image_210 ?_
    refine lv_iload_n hx hb dX7_image_213 rfl (lv_at hl 2 rfl) ?_
    refine lv_bipush (v := 55) hx hb dX7_image_214 (by decide) ?_
    refine lv_iadd hx hb dX7_image_216 ?_
    refine lv_aload_n hx hb dX7_image_217 rfl (lv_at hl 0 rfl) ?_
    refine va_get (D := D) (ci := 7) (v := .int (Z11.1 10)) (C := RX7) (T := TX7) (N := 27) hx hb hW inW_X7 hown hK hP 0 rfl rfl 10 (by decide) (hW _ fl_X7_75) (fun _ h9 => h9) rfl dX7_image_218 ?_
    refine va_iast (f := Z16) hx hb hK hP hD hS 14 0 rfl rfl hw.1 dX7_image_221 (fun H locs hP hD hS => ?_)
    have hw := hw.2
    revert hw; revert hD; revert hP
    generalize (upd Z16 ((((70 : Int32) * x1) + 55) : Int32).toNatClampNeg (Z11.1 10)) = Z17
    intro hP hD hw
    have hP : va_P D classes (jn [mcells cI cZ ad 0 (sA (sA (sA (sA (sA (sA Z11 25 Z12) 25 Z13) 25 Z14) 25 Z15) 25 Z16) 25 Z17)]) H := ms_a25 (Φ := fun w => va_P D classes w H) (S := (sA (sA (sA (sA (sA Z11 25 Z12) 25 Z13) 25 Z14) 25 Z15) 25 Z16)) (v := Z17) hP
    have hD : va_D (cOf (jn [mcells cI cZ ad 0 S0])) (jn [mcells cI cZ ad 0 (sA (sA (sA (sA (sA (sA Z11 25 Z12) 25 Z13) 25 Z14) 25 Z15) 25 Z16) 25 Z17)]) := ms_a25 (Φ := fun w => va_D (cOf (jn [mcells cI cZ ad 0 S0])) w) (S := (sA (sA (sA (sA (sA Z11 25 Z12) 25 Z13) 25 Z14) 25 Z15) 25 Z16)) (v := Z17) hD
    refine lv_aload_n hx hb dX7_image_222 rfl (lv_at hl 0 rfl) ?_
    refine va_get (D := D) (ci := 7) (v := .ref (ad (0 + 15))) (C := RX7) (T := TX7) (N := 27) hx hb hW inW_X7 hown hK hP 0 rfl rfl 26 (by decide) (hW _ fl_X7_59) (fun _ h9 => h9) rfl dX7_image_223 ?_
    refine lv_iload_n hx hb dX7_image_226 rfl (lv_at hl 1 rfl) ?_
    refine lv_iconst (v := 1) hx hb dX7_image_227 (by decide) ?_
    refine va_zast (f := (Z11.2 26)) hx hb hK hP hD hS 15 1 rfl rfl hw.1 dX7_image_228 (fun H locs hP hD hS => ?_)
    have hw := hw.2
    revert hw; revert hD; revert hP
    generalize (upd (Z11.2 26) (x1 : Int32).toNatClampNeg (vp_nar .boolean 1)) = Z18
    intro hP hD hw
    have hP : va_P D classes (jn [mcells cI cZ ad 0 (sA (sA (sA (sA (sA (sA (sA Z11 25 Z12) 25 Z13) 25 Z14) 25 Z15) 25 Z16) 25 Z17) 26 Z18)]) H := ms_a26 (Φ := fun w => va_P D classes w H) (S := (sA (sA (sA (sA (sA (sA Z11 25 Z12) 25 Z13) 25 Z14) 25 Z15) 25 Z16) 25 Z17)) (v := Z18) hP
    have hD : va_D (cOf (jn [mcells cI cZ ad 0 S0])) (jn [mcells cI cZ ad 0 (sA (sA (sA (sA (sA (sA (sA Z11 25 Z12) 25 Z13) 25 Z14) 25 Z15) 25 Z16) 25 Z17) 26 Z18)]) := ms_a26 (Φ := fun w => va_D (cOf (jn [mcells cI cZ ad 0 S0])) w) (S := (sA (sA (sA (sA (sA (sA Z11 25 Z12) 25 Z13) 25 Z14) 25 Z15) 25 Z16) 25 Z17)) (v := Z18) hD
    refine lv_iconst (v := 1) hx hb dX7_image_229 (by decide) ?_
    exact W.iret (v := 1) hx hb hr (fun t ht _ => ⟨⟨_, ((sA (sA (sA (sA (sA (sA (sA Z11 25 Z12) 25 Z13) 25 Z14) 25 Z15) 25 Z16) 25 Z17) 26 Z18)), rfl, ⟨_, rfl, hw⟩, by rw [ht]; exact hP⟩, hS.F ht⟩) hS.2.2 dX7_image_230
  · have hw := Eq.mp (if_pos c1) hw
    refine lv_bipush (v := (-2)) hx hb dX7_image_9 (by decide) ?_
    exact W.iret (v := (-2)) hx hb hr (fun t ht _ => ⟨⟨_, (S0), rfl, ⟨_, rfl, hw⟩, by rw [ht]; exact hP⟩, hS.F ht⟩) hS.2.2 dX7_image_11
set_option maxHeartbeats 4000000 in
set_option maxRecDepth 100000 in
theorem c_X7_restore (l : Launch) (D : va_G) (cI cZ : ClassId) (ad : Nat → Nat) (S0 : St) (x1 : Int32) (k : Int32 → St → Prop) (hw : wp_X7_restore S0 x1 k) : KW l yX7_restore cX7_restore 4 (some .int) 1 22 D cI cZ [.ref (ad 0), .int x1] [mcells cI cZ ad 0 S0] (fun v (u : St) => ∃ r, v = some (.int r) ∧ k r u) (fun u : St => [mcells cI cZ ad 0 u]) := by
  refine Met.ofE (by decide +kernel) (Nat.le_of_ble_eq_true rfl) ?_
  intro p e s m below meth c E ls hl
  obtain ⟨hx, hb, hr, hml, hW, hown, hlocks, hP, hK, hD, hN⟩ := E
  have hl : lv_has ls 4 [(0, .ref (ad 0)), (1, .int x1)] := hl
  have hS : va_S (cOf (jn [mcells cI cZ ad 0 S0])) s.heap s.heap [] := va_S.rf
  have L31 : ∀ (y2 : Int32) (kx : St → Prop), (∀ (S0q : St) (H : Heap) (locs : List Loc), va_P D classes (jn [mcells cI cZ ad 0 S0q]) H → va_D (cOf (jn [mcells cI cZ ad 0 S0])) (jn [mcells cI cZ ad 0 S0q]) → va_S (cOf (jn [mcells cI cZ ad 0 S0])) s.heap H locs → ∀ ls : Array Slot, lv_has ls 4 [(0, .ref (ad 0)), (2, .int y2)] → kx S0q → W p l e { frames := 1, cells := 0, slots := 0, locals := 22 } s m ([.ref (ad 0), .int x1] : List Value).toArray below meth c H locs 0 0 (MQ below (QW (fun v (u : St) => ∃ r, v = some (.int r) ∧ k r u) D (fun u : St => [mcells cI cZ ad 0 u]) [mcells cI cZ ad 0 S0]) ([.ref (ad 0), .int x1] : List Value).toArray s 0 0 (cOf (jn [mcells cI cZ ad 0 S0]))) (F0 m 125 ls [])) → ∀ (N31 : Nat) (y3 : Int32) (S0q : St) (H : Heap) (locs : List Loc), va_P D classes (jn [mcells cI cZ ad 0 S0q]) H → va_D (cOf (jn [mcells cI cZ ad 0 S0])) (jn [mcells cI cZ ad 0 S0q]) → va_S (cOf (jn [mcells cI cZ ad 0 S0])) s.heap H locs → ∀ ls : Array Slot, lv_has ls 4 [(0, .ref (ad 0)), (2, .int y2), (3, .int y3)] → wl_X7_restore_31 y2 kx N31 y3 S0q → W p l e { frames := 1, cells := 0, slots := 0, locals := 22 } s m ([.ref (ad 0), .int x1] : List Value).toArray below meth c H locs 0 0 (MQ below (QW (fun v (u : St) => ∃ r, v = some (.int r) ∧ k r u) D (fun u : St => [mcells cI cZ ad 0 u]) [mcells cI cZ ad 0 S0]) ([.ref (ad 0), .int x1] : List Value).toArray s 0 0 (cOf (jn [mcells cI cZ ad 0 S0]))) (F0 m 31 ls []) := by
    intro y2 kx hxt N31
    induction N31 with
    | zero => intro y3 S0q H locs hP hD hS ls hl hw; exact False.elim hw
    | succ N31 ih =>
      intro y3 S0q H locs hP hD hS ls hl hw
      have hw : (if 6 ≤ y3 then (kx S0q) else (vp_in (y2 + y3) 140 ∧ (vp_in y3 6 ∧ (vp_in ((y2 + 6) + y3) 140 ∧ (vp_in y3 6 ∧ (vp_in ((y2 + 12) + y3) 140 ∧ (vp_in y3 6 ∧ (vp_in ((y2 + 18) + y3) 140 ∧ (vp_in y3 6 ∧ (vp_in ((y2 + 24) + y3) 140 ∧ (vp_in y3 6 ∧ (wl_X7_restore_31 y2 kx N31 (y3 + 1) (sA (sA (sA (sA (sA S0q 5 (upd (S0q.2 5) (y3 : Int32).toNatClampNeg ((S0q.2 25) ((y2 + y3) : Int32).toNatClampNeg))) 6 (upd (S0q.2 6) (y3 : Int32).toNatClampNeg ((S0q.2 25) (((y2 + 6) + y3) : Int32).toNatClampNeg))) 7 (upd (S0q.2 7) (y3 : Int32).toNatClampNeg ((S0q.2 25) (((y2 + 12) + y3) : Int32).toNatClampNeg))) 8 (upd (S0q.2 8) (y3 : Int32).toNatClampNeg ((S0q.2 25) (((y2 + 18) + y3) : Int32).toNatClampNeg))) 9 (upd (S0q.2 9) (y3 : Int32).toNatClampNeg ((S0q.2 25) (((y2 + 24) + y3) : Int32).toNatClampNeg))))))))))))))) := hw
      refine lv_iload_n hx hb dX7_restore_31 rfl (lv_at hl 2 rfl) ?_
      refine lv_bipush (v := 6) hx hb dX7_restore_32 (by decide) ?_
      refine lv_icmp_ge (tgt := 125) hx hb dX7_restore_34 (by decide) (fun c3 => ?_) (fun c3 => ?_)
      · have hw := Eq.mp (if_pos c3) hw
        exact hxt S0q _ _ hP hD hS _ (lv_sub hl [0, 1] rfl) hw
      · have hw := Eq.mp (if_neg c3) hw
        refine lv_aload_n hx hb dX7_restore_37 rfl (lv_at hl 0 rfl) ?_
        refine va_get (D := D) (ci := 7) (v := .ref (ad (0 + 1))) (C := RX7) (T := TX7) (N := 27) hx hb hW inW_X7 hown hK hP 0 rfl rfl 5 (by decide) (hW _ fl_X7_16) (fun _ h9 => h9) rfl dX7_restore_38 ?_
        refine lv_iload_n hx hb dX7_restore_41 rfl (lv_at hl 2 rfl) ?_
        refine lv_aload_n hx hb dX7_restore_42 rfl (lv_at hl 0 rfl) ?_
        refine va_get (D := D) (ci := 7) (v := .ref (ad (0 + 14))) (C := RX7) (T := TX7) (N := 27) hx hb hW inW_X7 hown hK hP 0 rfl rfl 25 (by decide) (hW _ fl_X7_56) (fun _ h9 => h9) rfl dX7_restore_43 ?_
        refine lv_iload_n hx hb dX7_restore_46 rfl (lv_at hl 1 rfl) ?_
        refine lv_iload_n hx hb dX7_restore_47 rfl (lv_at hl 2 rfl) ?_
        refine lv_iadd hx hb dX7_restore_48 ?_
        refine va_iald (f := (S0q.2 25)) hx hb hK hP 14 0 rfl rfl hw.1 dX7_restore_49 ?_
        have hw := hw.2
        refine va_iast (f := (S0q.2 5)) hx hb hK hP hD hS 1 0 rfl rfl hw.1 dX7_restore_50 (fun H locs hP hD hS => ?_)
        have hw := hw.2
        revert hw; revert hD; revert hP
        generalize (upd (S0q.2 5) (y3 : Int32).toNatClampNeg ((S0q.2 25) ((y2 + y3) : Int32).toNatClampNeg)) = Z4
        intro hP hD hw
        have hP : va_P D classes (jn [mcells cI cZ ad 0 (sA S0q 5 Z4)]) H := ms_a5 (Φ := fun w => va_P D classes w H) (S := S0q) (v := Z4) hP
        have hD : va_D (cOf (jn [mcells cI cZ ad 0 S0])) (jn [mcells cI cZ ad 0 (sA S0q 5 Z4)]) := ms_a5 (Φ := fun w => va_D (cOf (jn [mcells cI cZ ad 0 S0])) w) (S := S0q) (v := Z4) hD
        refine lv_aload_n hx hb dX7_restore_51 rfl (lv_at hl 0 rfl) ?_
        refine va_get (D := D) (ci := 7) (v := .ref (ad (0 + 2))) (C := RX7) (T := TX7) (N := 27) hx hb hW inW_X7 hown hK hP 0 rfl rfl 6 (by decide) (hW _ fl_X7_20) (fun _ h9 => h9) rfl dX7_restore_52 ?_
        refine lv_iload_n hx hb dX7_restore_55 rfl (lv_at hl 2 rfl) ?_
        refine lv_aload_n hx hb dX7_restore_56 rfl (lv_at hl 0 rfl) ?_
        refine va_get (D := D) (ci := 7) (v := .ref (ad (0 + 14))) (C := RX7) (T := TX7) (N := 27) hx hb hW inW_X7 hown hK hP 0 rfl rfl 25 (by decide) (hW _ fl_X7_56) (fun _ h9 => h9) rfl dX7_restore_57 ?_
        refine lv_iload_n hx hb dX7_restore_60 rfl (lv_at hl 1 rfl) ?_
        refine lv_bipush (v := 6) hx hb dX7_restore_61 (by decide) ?_
        refine lv_iadd hx hb dX7_restore_63 ?_
        refine lv_iload_n hx hb dX7_restore_64 rfl (lv_at hl 2 rfl) ?_
        refine lv_iadd hx hb dX7_restore_65 ?_
        refine va_iald (f := (S0q.2 25)) hx hb hK hP 14 0 rfl rfl hw.1 dX7_restore_66 ?_
        have hw := hw.2
        refine va_iast (f := (S0q.2 6)) hx hb hK hP hD hS 2 0 rfl rfl hw.1 dX7_restore_67 (fun H locs hP hD hS => ?_)
        have hw := hw.2
        revert hw; revert hD; revert hP
        generalize (upd (S0q.2 6) (y3 : Int32).toNatClampNeg ((S0q.2 25) (((y2 + 6) + y3) : Int32).toNatClampNeg)) = Z5
        intro hP hD hw
        have hP : va_P D classes (jn [mcells cI cZ ad 0 (sA (sA S0q 5 Z4) 6 Z5)]) H := ms_a6 (Φ := fun w => va_P D classes w H) (S := (sA S0q 5 Z4)) (v := Z5) hP
        have hD : va_D (cOf (jn [mcells cI cZ ad 0 S0])) (jn [mcells cI cZ ad 0 (sA (sA S0q 5 Z4) 6 Z5)]) := ms_a6 (Φ := fun w => va_D (cOf (jn [mcells cI cZ ad 0 S0])) w) (S := (sA S0q 5 Z4)) (v := Z5) hD
        refine lv_aload_n hx hb dX7_restore_68 rfl (lv_at hl 0 rfl) ?_
        refine va_get (D := D) (ci := 7) (v := .ref (ad (0 + 3))) (C := RX7) (T := TX7) (N := 27) hx hb hW inW_X7 hown hK hP 0 rfl rfl 7 (by decide) (hW _ fl_X7_23) (fun _ h9 => h9) rfl dX7_restore_69 ?_
        refine lv_iload_n hx hb dX7_restore_72 rfl (lv_at hl 2 rfl) ?_
        refine lv_aload_n hx hb dX7_restore_73 rfl (lv_at hl 0 rfl) ?_
        refine va_get (D := D) (ci := 7) (v := .ref (ad (0 + 14))) (C := RX7) (T := TX7) (N := 27) hx hb hW inW_X7 hown hK hP 0 rfl rfl 25 (by decide) (hW _ fl_X7_56) (fun _ h9 => h9) rfl dX7_restore_74 ?_
        refine lv_iload_n hx hb dX7_restore_77 rfl (lv_at hl 1 rfl) ?_
        refine lv_bipush (v := 12) hx hb dX7_restore_78 (by decide) ?_
        refine lv_iadd hx hb dX7_restore_80 ?_
        refine lv_iload_n hx hb dX7_restore_81 rfl (lv_at hl 2 rfl) ?_
        refine lv_iadd hx hb dX7_restore_82 ?_
        refine va_iald (f := (S0q.2 25)) hx hb hK hP 14 0 rfl rfl hw.1 dX7_restore_83 ?_
        have hw := hw.2
        refine va_iast (f := (S0q.2 7)) hx hb hK hP hD hS 3 0 rfl rfl hw.1 dX7_restore_84 (fun H locs hP hD hS => ?_)
        have hw := hw.2
        revert hw; revert hD; revert hP
        generalize (upd (S0q.2 7) (y3 : Int32).toNatClampNeg ((S0q.2 25) (((y2 + 12) + y3) : Int32).toNatClampNeg)) = Z6
        intro hP hD hw
        have hP : va_P D classes (jn [mcells cI cZ ad 0 (sA (sA (sA S0q 5 Z4) 6 Z5) 7 Z6)]) H := ms_a7 (Φ := fun w => va_P D classes w H) (S := (sA (sA S0q 5 Z4) 6 Z5)) (v := Z6) hP
        have hD : va_D (cOf (jn [mcells cI cZ ad 0 S0])) (jn [mcells cI cZ ad 0 (sA (sA (sA S0q 5 Z4) 6 Z5) 7 Z6)]) := ms_a7 (Φ := fun w => va_D (cOf (jn [mcells cI cZ ad 0 S0])) w) (S := (sA (sA S0q 5 Z4) 6 Z5)) (v := Z6) hD
        refine lv_aload_n hx hb dX7_restore_85 rfl (lv_at hl 0 rfl) ?_
        refine va_get (D := D) (ci := 7) (v := .ref (ad (0 + 4))) (C := RX7) (T := TX7) (N := 27) hx hb hW inW_X7 hown hK hP 0 rfl rfl 8 (by decide) (hW _ fl_X7_26) (fun _ h9 => h9) rfl dX7_restore_86 ?_
        refine lv_iload_n hx hb dX7_restore_89 rfl (lv_at hl 2 rfl) ?_
        refine lv_aload_n hx hb dX7_restore_90 rfl (lv_at hl 0 rfl) ?_
        refine va_get (D := D) (ci := 7) (v := .ref (ad (0 + 14))) (C := RX7) (T := TX7) (N := 27) hx hb hW inW_X7 hown hK hP 0 rfl rfl 25 (by decide) (hW _ fl_X7_56) (fun _ h9 => h9) rfl dX7_restore_91 ?_
        refine lv_iload_n hx hb dX7_restore_94 rfl (lv_at hl 1 rfl) ?_
        refine lv_bipush (v := 18) hx hb dX7_restore_95 (by decide) ?_
        refine lv_iadd hx hb dX7_restore_97 ?_
        refine lv_iload_n hx hb dX7_restore_98 rfl (lv_at hl 2 rfl) ?_
        refine lv_iadd hx hb dX7_restore_99 ?_
        refine va_iald (f := (S0q.2 25)) hx hb hK hP 14 0 rfl rfl hw.1 dX7_restore_100 ?_
        have hw := hw.2
        refine va_iast (f := (S0q.2 8)) hx hb hK hP hD hS 4 0 rfl rfl hw.1 dX7_restore_101 (fun H locs hP hD hS => ?_)
        have hw := hw.2
        revert hw; revert hD; revert hP
        generalize (upd (S0q.2 8) (y3 : Int32).toNatClampNeg ((S0q.2 25) (((y2 + 18) + y3) : Int32).toNatClampNeg)) = Z7
        intro hP hD hw
        have hP : va_P D classes (jn [mcells cI cZ ad 0 (sA (sA (sA (sA S0q 5 Z4) 6 Z5) 7 Z6) 8 Z7)]) H := ms_a8 (Φ := fun w => va_P D classes w H) (S := (sA (sA (sA S0q 5 Z4) 6 Z5) 7 Z6)) (v := Z7) hP
        have hD : va_D (cOf (jn [mcells cI cZ ad 0 S0])) (jn [mcells cI cZ ad 0 (sA (sA (sA (sA S0q 5 Z4) 6 Z5) 7 Z6) 8 Z7)]) := ms_a8 (Φ := fun w => va_D (cOf (jn [mcells cI cZ ad 0 S0])) w) (S := (sA (sA (sA S0q 5 Z4) 6 Z5) 7 Z6)) (v := Z7) hD
        refine lv_aload_n hx hb dX7_restore_102 rfl (lv_at hl 0 rfl) ?_
        refine va_get (D := D) (ci := 7) (v := .ref (ad (0 + 5))) (C := RX7) (T := TX7) (N := 27) hx hb hW inW_X7 hown hK hP 0 rfl rfl 9 (by decide) (hW _ fl_X7_29) (fun _ h9 => h9) rfl dX7_restore_103 ?_
        refine lv_iload_n hx hb dX7_restore_106 rfl (lv_at hl 2 rfl) ?_
        refine lv_aload_n hx hb dX7_restore_107 rfl (lv_at hl 0 rfl) ?_
        refine va_get (D := D) (ci := 7) (v := .ref (ad (0 + 14))) (C := RX7) (T := TX7) (N := 27) hx hb hW inW_X7 hown hK hP 0 rfl rfl 25 (by decide) (hW _ fl_X7_56) (fun _ h9 => h9) rfl dX7_restore_108 ?_
        refine lv_iload_n hx hb dX7_restore_111 rfl (lv_at hl 1 rfl) ?_
        refine lv_bipush (v := 24) hx hb dX7_restore_112 (by decide) ?_
        refine lv_iadd hx hb dX7_restore_114 ?_
        refine lv_iload_n hx hb dX7_restore_115 rfl (lv_at hl 2 rfl) ?_
        refine lv_iadd hx hb dX7_restore_116 ?_
        refine va_iald (f := (S0q.2 25)) hx hb hK hP 14 0 rfl rfl hw.1 dX7_restore_117 ?_
        have hw := hw.2
        refine va_iast (f := (S0q.2 9)) hx hb hK hP hD hS 5 0 rfl rfl hw.1 dX7_restore_118 (fun H locs hP hD hS => ?_)
        have hw := hw.2
        revert hw; revert hD; revert hP
        generalize (upd (S0q.2 9) (y3 : Int32).toNatClampNeg ((S0q.2 25) (((y2 + 24) + y3) : Int32).toNatClampNeg)) = Z8
        intro hP hD hw
        have hP : va_P D classes (jn [mcells cI cZ ad 0 (sA (sA (sA (sA (sA S0q 5 Z4) 6 Z5) 7 Z6) 8 Z7) 9 Z8)]) H := ms_a9 (Φ := fun w => va_P D classes w H) (S := (sA (sA (sA (sA S0q 5 Z4) 6 Z5) 7 Z6) 8 Z7)) (v := Z8) hP
        have hD : va_D (cOf (jn [mcells cI cZ ad 0 S0])) (jn [mcells cI cZ ad 0 (sA (sA (sA (sA (sA S0q 5 Z4) 6 Z5) 7 Z6) 8 Z7) 9 Z8)]) := ms_a9 (Φ := fun w => va_D (cOf (jn [mcells cI cZ ad 0 S0])) w) (S := (sA (sA (sA (sA S0q 5 Z4) 6 Z5) 7 Z6) 8 Z7)) (v := Z8) hD
        refine lv_iinc (v := (y3 + 1)) (lv' := [(3, .int (y3 + 1)), (0, .ref (ad 0)), (2, .int y2)]) hx hb dX7_restore_119 hl (k := 2) rfl rfl (by decide) rfl (fun ls hl => ?_)
        refine lv_goto (tgt := 31) hx hb dX7_restore_122 (by decide) ?_
        exact ih (y3 + 1) (sA (sA (sA (sA (sA S0q 5 Z4) 6 Z5) 7 Z6) 8 Z7) 9 Z8) _ _ hP hD hS _ (lv_sub hl [1, 2, 0] rfl) hw
  have L127 : ∀ (y2 : Int32) (kx : St → Prop), (∀ (S0q : St) (H : Heap) (locs : List Loc), va_P D classes (jn [mcells cI cZ ad 0 S0q]) H → va_D (cOf (jn [mcells cI cZ ad 0 S0])) (jn [mcells cI cZ ad 0 S0q]) → va_S (cOf (jn [mcells cI cZ ad 0 S0])) s.heap H locs → ∀ ls : Array Slot, lv_has ls 4 [(0, .ref (ad 0)), (2, .int y2)] → kx S0q → W p l e { frames := 1, cells := 0, slots := 0, locals := 22 } s m ([.ref (ad 0), .int x1] : List Value).toArray below meth c H locs 0 0 (MQ below (QW (fun v (u : St) => ∃ r, v = some (.int r) ∧ k r u) D (fun u : St => [mcells cI cZ ad 0 u]) [mcells cI cZ ad 0 S0]) ([.ref (ad 0), .int x1] : List Value).toArray s 0 0 (cOf (jn [mcells cI cZ ad 0 S0]))) (F0 m 156 ls [])) → ∀ (N127 : Nat) (y3 : Int32) (S0q : St) (H : Heap) (locs : List Loc), va_P D classes (jn [mcells cI cZ ad 0 S0q]) H → va_D (cOf (jn [mcells cI cZ ad 0 S0])) (jn [mcells cI cZ ad 0 S0q]) → va_S (cOf (jn [mcells cI cZ ad 0 S0])) s.heap H locs → ∀ ls : Array Slot, lv_has ls 4 [(0, .ref (ad 0)), (2, .int y2), (3, .int y3)] → wl_X7_restore_127 y2 kx N127 y3 S0q → W p l e { frames := 1, cells := 0, slots := 0, locals := 22 } s m ([.ref (ad 0), .int x1] : List Value).toArray below meth c H locs 0 0 (MQ below (QW (fun v (u : St) => ∃ r, v = some (.int r) ∧ k r u) D (fun u : St => [mcells cI cZ ad 0 u]) [mcells cI cZ ad 0 S0]) ([.ref (ad 0), .int x1] : List Value).toArray s 0 0 (cOf (jn [mcells cI cZ ad 0 S0]))) (F0 m 127 ls []) := by
    intro y2 kx hxt N127
    induction N127 with
    | zero => intro y3 S0q H locs hP hD hS ls hl hw; exact False.elim hw
    | succ N127 ih =>
      intro y3 S0q H locs hP hD hS ls hl hw
      have hw : (if 16 ≤ y3 then (kx S0q) else (vp_in ((y2 + 30) + y3) 140 ∧ (vp_in y3 16 ∧ (wl_X7_restore_127 y2 kx N127 (y3 + 1) (sA S0q 11 (upd (S0q.2 11) (y3 : Int32).toNatClampNeg ((S0q.2 25) (((y2 + 30) + y3) : Int32).toNatClampNeg))))))) := hw
      refine lv_iload_n hx hb dX7_restore_127 rfl (lv_at hl 2 rfl) ?_
      refine lv_bipush (v := 16) hx hb dX7_restore_128 (by decide) ?_
      refine lv_icmp_ge (tgt := 156) hx hb dX7_restore_130 (by decide) (fun c10 => ?_) (fun c10 => ?_)
      · have hw := Eq.mp (if_pos c10) hw
        exact hxt S0q _ _ hP hD hS _ (lv_sub hl [0, 1] rfl) hw
      · have hw := Eq.mp (if_neg c10) hw
        refine lv_aload_n hx hb dX7_restore_133 rfl (lv_at hl 0 rfl) ?_
        refine va_get (D := D) (ci := 7) (v := .ref (ad (0 + 6))) (C := RX7) (T := TX7) (N := 27) hx hb hW inW_X7 hown hK hP 0 rfl rfl 11 (by decide) (hW _ fl_X7_32) (fun _ h9 => h9) rfl dX7_restore_134 ?_
        refine lv_iload_n hx hb dX7_restore_137 rfl (lv_at hl 2 rfl) ?_
        refine lv_aload_n hx hb dX7_restore_138 rfl (lv_at hl 0 rfl) ?_
        refine va_get (D := D) (ci := 7) (v := .ref (ad (0 + 14))) (C := RX7) (T := TX7) (N := 27) hx hb hW inW_X7 hown hK hP 0 rfl rfl 25 (by decide) (hW _ fl_X7_56) (fun _ h9 => h9) rfl dX7_restore_139 ?_
        refine lv_iload_n hx hb dX7_restore_142 rfl (lv_at hl 1 rfl) ?_
        refine lv_bipush (v := 30) hx hb dX7_restore_143 (by decide) ?_
        refine lv_iadd hx hb dX7_restore_145 ?_
        refine lv_iload_n hx hb dX7_restore_146 rfl (lv_at hl 2 rfl) ?_
        refine lv_iadd hx hb dX7_restore_147 ?_
        refine va_iald (f := (S0q.2 25)) hx hb hK hP 14 0 rfl rfl hw.1 dX7_restore_148 ?_
        have hw := hw.2
        refine va_iast (f := (S0q.2 11)) hx hb hK hP hD hS 6 0 rfl rfl hw.1 dX7_restore_149 (fun H locs hP hD hS => ?_)
        have hw := hw.2
        revert hw; revert hD; revert hP
        generalize (upd (S0q.2 11) (y3 : Int32).toNatClampNeg ((S0q.2 25) (((y2 + 30) + y3) : Int32).toNatClampNeg)) = Z11
        intro hP hD hw
        have hP : va_P D classes (jn [mcells cI cZ ad 0 (sA S0q 11 Z11)]) H := ms_a11 (Φ := fun w => va_P D classes w H) (S := S0q) (v := Z11) hP
        have hD : va_D (cOf (jn [mcells cI cZ ad 0 S0])) (jn [mcells cI cZ ad 0 (sA S0q 11 Z11)]) := ms_a11 (Φ := fun w => va_D (cOf (jn [mcells cI cZ ad 0 S0])) w) (S := S0q) (v := Z11) hD
        refine lv_iinc (v := (y3 + 1)) (lv' := [(3, .int (y3 + 1)), (0, .ref (ad 0)), (2, .int y2)]) hx hb dX7_restore_150 hl (k := 2) rfl rfl (by decide) rfl (fun ls hl => ?_)
        refine lv_goto (tgt := 127) hx hb dX7_restore_153 (by decide) ?_
        exact ih (y3 + 1) (sA S0q 11 Z11) _ _ hP hD hS _ (lv_sub hl [1, 2, 0] rfl) hw
  have hw : (if (F_X7_in x1 0 1) = 0 then (k (-2) S0) else (vp_in x1 2 ∧ (if ((S0.2 26) (x1 : Int32).toNatClampNeg) = 0 then (k (-3) S0) else (∃ M15, wl_X7_restore_31 ((70 : Int32) * x1) (fun (Z9 : St) => (∃ M13, wl_X7_restore_127 ((70 : Int32) * x1) (fun (Z12 : St) => (vp_in (((70 : Int32) * x1) + 50) 140 ∧ (vp_in (((70 : Int32) * x1) + 51) 140 ∧ (vp_in (((70 : Int32) * x1) + 52) 140 ∧ (vp_in (((70 : Int32) * x1) + 53) 140 ∧ (vp_in (((70 : Int32) * x1) + 54) 140 ∧ (vp_in (((70 : Int32) * x1) + 55) 140 ∧ (k 1 (sI (sI (sI (sI (sI (sI Z12 0 ((Z12.2 25) ((((70 : Int32) * x1) + 50) : Int32).toNatClampNeg)) 1 ((Z12.2 25) ((((70 : Int32) * x1) + 51) : Int32).toNatClampNeg)) 2 ((Z12.2 25) ((((70 : Int32) * x1) + 52) : Int32).toNatClampNeg)) 3 ((Z12.2 25) ((((70 : Int32) * x1) + 53) : Int32).toNatClampNeg)) 4 ((Z12.2 25) ((((70 : Int32) * x1) + 54) : Int32).toNatClampNeg)) 10 ((Z12.2 25) ((((70 : Int32) * x1) + 55) : Int32).toNatClampNeg)))))))))) M13 0 Z9)) M15 0 S0)))) := hw
  refine lv_iload_n hx hb dX7_restore_0 rfl (lv_at hl 1 rfl) ?_
  refine lv_iconst (v := 0) hx hb dX7_restore_1 (by decide) ?_
  refine lv_iconst (v := 1) hx hb dX7_restore_2 (by decide) ?_
  refine callF (va_runS (As := [.int x1, .int 0, .int 1]) (rest := []) ⟨hx, hb, hml, hown, hW⟩ (c_X7_in l D cI cZ x1 0 1 _ rfl) (cwS0 hW mS_X7_in ml_X7_78 ⟨Nat.le_of_ble_eq_true rfl, Nat.le_of_ble_eq_true rfl⟩) (preS0 hK hN hP hD [] rfl rfl) rfl rfl hl.1 rfl (lv_room (Nat.le_of_ble_eq_true rfl)) dX7_restore_3 ⟨Nat.le_refl _, Nat.le_refl _⟩) ?_
  refine W.eq (g2 := F0 m 6 ls [.int (F_X7_in x1 0 1)]) rfl ?_
  refine lv_if_ne (tgt := 12) hx hb dX7_restore_6 (by decide) (fun c1 => ?_) (fun c1 => ?_)
  · have hw := Eq.mp (if_neg c1) hw
    refine lv_aload_n hx hb dX7_restore_12 rfl (lv_at hl 0 rfl) ?_
    refine va_get (D := D) (ci := 7) (v := .ref (ad (0 + 15))) (C := RX7) (T := TX7) (N := 27) hx hb hW inW_X7 hown hK hP 0 rfl rfl 26 (by decide) (hW _ fl_X7_59) (fun _ h9 => h9) rfl dX7_restore_13 ?_
    refine lv_iload_n hx hb dX7_restore_16 rfl (lv_at hl 1 rfl) ?_
    refine va_zald (f := (S0.2 26)) hx hb hK hP 15 1 rfl rfl hw.1 dX7_restore_17 ?_
    have hw := hw.2
    refine lv_if_ne (tgt := 24) hx hb dX7_restore_18 (by decide) (fun c2 => ?_) (fun c2 => ?_)
    · have hw := Eq.mp (if_neg c2) hw
      refine lv_bipush (v := 70) hx hb dX7_restore_24 (by decide) ?_
      refine lv_iload_n hx hb dX7_restore_26 rfl (lv_at hl 1 rfl) ?_
      refine lv_imul hx hb dX7_restore_27 ?_
      refine lv_istore_n (lv' := [(2, .int ((70 : Int32) * x1)), (0, .ref (ad 0)), (1, .int x1)]) hx hb dX7_restore_28 rfl hl (by decide) rfl (fun ls hl => ?_)
      refine lv_iconst (v := 0) hx hb dX7_restore_29 (by decide) ?_
      refine lv_istore_n (lv' := [(3, .int 0), (2, .int ((70 : Int32) * x1)), (0, .ref (ad 0)), (1, .int x1)]) hx hb dX7_restore_30 rfl hl (by decide) rfl (fun ls hl => ?_)
      obtain ⟨N16, hw⟩ := hw
      refine L31 ((70 : Int32) * x1) _ (fun Z9 H locs hP hD hS ls hl hw => ?_) N16 0 S0 _ _ hP hD hS _ (lv_sub hl [2, 1, 0] rfl) hw
      refine lv_iconst (v := 0) hx hb dX7_restore_125 (by decide) ?_
      refine lv_istore_n (lv' := [(3, .int 0), (0, .ref (ad 0)), (2, .int ((70 : Int32) * x1))]) hx hb dX7_restore_126 rfl hl (by decide) rfl (fun ls hl => ?_)
      obtain ⟨N14, hw⟩ := hw
      refine L127 ((70 : Int32) * x1) _ (fun Z12 H locs hP hD hS ls hl hw => ?_) N14 0 Z9 _ _ hP hD hS _ (lv_sub hl [1, 2, 0] rfl) hw
      refine lv_aload_n hx hb dX7_restore_156 rfl (lv_at hl 0 rfl) ?_
      refine lv_aload_n hx hb dX7_restore_157 rfl (lv_at hl 0 rfl) ?_
      refine va_get (D := D) (ci := 7) (v := .ref (ad (0 + 14))) (C := RX7) (T := TX7) (N := 27) hx hb hW inW_X7 hown hK hP 0 rfl rfl 25 (by decide) (hW _ fl_X7_56) (fun _ h9 => h9) rfl dX7_restore_158 ?_
      refine lv_iload_n hx hb dX7_restore_161 rfl (lv_at hl 1 rfl) ?_
      refine lv_bipush (v := 50) hx hb dX7_restore_162 (by decide) ?_
      refine lv_iadd hx hb dX7_restore_164 ?_
      refine va_iald (f := (Z12.2 25)) hx hb hK hP 14 0 rfl rfl hw.1 dX7_restore_165 ?_
      have hw := hw.2
      refine va_put (D := D) (ci := 7) (v := .int ((Z12.2 25) ((((70 : Int32) * x1) + 50) : Int32).toNatClampNeg)) (ty := .int) (C := RX7) (T := TX7) (N := 27) hx hb hW inW_X7 tyX7 tyX7_ok nmX7 hown hK hP hD hS 0 rfl rfl 0 (by decide) (hW _ fl_X7_7) (fun _ h9 => h9) rfl (by decide +kernel) rfl rfl (Nat.le_of_ble_eq_true rfl) dX7_restore_166 (fun H locs hP hD hS => ?_)
      have hP : va_P D classes (jn [mcells cI cZ ad 0 (sI Z12 0 ((Z12.2 25) ((((70 : Int32) * x1) + 50) : Int32).toNatClampNeg))]) H := ms_i0 (Φ := fun w => va_P D classes w H) (S := Z12) (v := ((Z12.2 25) ((((70 : Int32) * x1) + 50) : Int32).toNatClampNeg)) hP
      have hD : va_D (cOf (jn [mcells cI cZ ad 0 S0])) (jn [mcells cI cZ ad 0 (sI Z12 0 ((Z12.2 25) ((((70 : Int32) * x1) + 50) : Int32).toNatClampNeg))]) := ms_i0 (Φ := fun w => va_D (cOf (jn [mcells cI cZ ad 0 S0])) w) (S := Z12) (v := ((Z12.2 25) ((((70 : Int32) * x1) + 50) : Int32).toNatClampNeg)) hD
      refine lv_aload_n hx hb dX7_restore_169 rfl (lv_at hl 0 rfl) ?_
      refine lv_aload_n hx hb dX7_restore_170 rfl (lv_at hl 0 rfl) ?_
      refine va_get (D := D) (ci := 7) (v := .ref (ad (0 + 14))) (C := RX7) (T := TX7) (N := 27) hx hb hW inW_X7 hown hK hP 0 rfl rfl 25 (by decide) (hW _ fl_X7_56) (fun _ h9 => h9) rfl dX7_restore_171 ?_
      refine lv_iload_n hx hb dX7_restore_174 rfl (lv_at hl 1 rfl) ?_
      refine lv_bipush (v := 51) hx hb dX7_restore_175 (by decide) ?_
      refine lv_iadd hx hb dX7_restore_177 ?_
      refine va_iald (f := (Z12.2 25)) hx hb hK hP 14 0 rfl rfl hw.1 dX7_restore_178 ?_
      have hw := hw.2
      refine va_put (D := D) (ci := 7) (v := .int ((Z12.2 25) ((((70 : Int32) * x1) + 51) : Int32).toNatClampNeg)) (ty := .int) (C := RX7) (T := TX7) (N := 27) hx hb hW inW_X7 tyX7 tyX7_ok nmX7 hown hK hP hD hS 0 rfl rfl 1 (by decide) (hW _ fl_X7_13) (fun _ h9 => h9) rfl (by decide +kernel) rfl rfl (Nat.le_of_ble_eq_true rfl) dX7_restore_179 (fun H locs hP hD hS => ?_)
      have hP : va_P D classes (jn [mcells cI cZ ad 0 (sI (sI Z12 0 ((Z12.2 25) ((((70 : Int32) * x1) + 50) : Int32).toNatClampNeg)) 1 ((Z12.2 25) ((((70 : Int32) * x1) + 51) : Int32).toNatClampNeg))]) H := ms_i1 (Φ := fun w => va_P D classes w H) (S := (sI Z12 0 ((Z12.2 25) ((((70 : Int32) * x1) + 50) : Int32).toNatClampNeg))) (v := ((Z12.2 25) ((((70 : Int32) * x1) + 51) : Int32).toNatClampNeg)) hP
      have hD : va_D (cOf (jn [mcells cI cZ ad 0 S0])) (jn [mcells cI cZ ad 0 (sI (sI Z12 0 ((Z12.2 25) ((((70 : Int32) * x1) + 50) : Int32).toNatClampNeg)) 1 ((Z12.2 25) ((((70 : Int32) * x1) + 51) : Int32).toNatClampNeg))]) := ms_i1 (Φ := fun w => va_D (cOf (jn [mcells cI cZ ad 0 S0])) w) (S := (sI Z12 0 ((Z12.2 25) ((((70 : Int32) * x1) + 50) : Int32).toNatClampNeg))) (v := ((Z12.2 25) ((((70 : Int32) * x1) + 51) : Int32).toNatClampNeg)) hD
      refine lv_aload_n hx hb dX7_restore_182 rfl (lv_at hl 0 rfl) ?_
      refine lv_aload_n hx hb dX7_restore_183 rfl (lv_at hl 0 rfl) ?_
      refine va_get (D := D) (ci := 7) (v := .ref (ad (0 + 14))) (C := RX7) (T := TX7) (N := 27) hx hb hW inW_X7 hown hK hP 0 rfl rfl 25 (by decide) (hW _ fl_X7_56) (fun _ h9 => h9) rfl dX7_restore_184 ?_
      refine lv_iload_n hx hb dX7_restore_187 rfl (lv_at hl 1 rfl) ?_
      refine lv_bipush (v := 52) hx hb dX7_restore_188 (by decide) ?_
      refine lv_iadd hx hb dX7_restore_190 ?_
      refine va_iald (f := (Z12.2 25)) hx hb hK hP 14 0 rfl rfl hw.1 dX7_restore_191 ?_
      have hw := hw.2
      refine va_put (D := D) (ci := 7) (v := .int ((Z12.2 25) ((((70 : Int32) * x1) + 52) : Int32).toNatClampNeg)) (ty := .int) (C := RX7) (T := TX7) (N := 27) hx hb hW inW_X7 tyX7 tyX7_ok nmX7 hown hK hP hD hS 0 rfl rfl 2 (by decide) (hW _ fl_X7_66) (fun _ h9 => h9) rfl (by decide +kernel) rfl rfl (Nat.le_of_ble_eq_true rfl) dX7_restore_192 (fun H locs hP hD hS => ?_)
      have hP : va_P D classes (jn [mcells cI cZ ad 0 (sI (sI (sI Z12 0 ((Z12.2 25) ((((70 : Int32) * x1) + 50) : Int32).toNatClampNeg)) 1 ((Z12.2 25) ((((70 : Int32) * x1) + 51) : Int32).toNatClampNeg)) 2 ((Z12.2 25) ((((70 : Int32) * x1) + 52) : Int32).toNatClampNeg))]) H := ms_i2 (Φ := fun w => va_P D classes w H) (S := (sI (sI Z12 0 ((Z12.2 25) ((((70 : Int32) * x1) + 50) : Int32).toNatClampNeg)) 1 ((Z12.2 25) ((((70 : Int32) * x1) + 51) : Int32).toNatClampNeg))) (v := ((Z12.2 25) ((((70 : Int32) * x1) + 52) : Int32).toNatClampNeg)) hP
      have hD : va_D (cOf (jn [mcells cI cZ ad 0 S0])) (jn [mcells cI cZ ad 0 (sI (sI (sI Z12 0 ((Z12.2 25) ((((70 : Int32) * x1) + 50) : Int32).toNatClampNeg)) 1 ((Z12.2 25) ((((70 : Int32) * x1) + 51) : Int32).toNatClampNeg)) 2 ((Z12.2 25) ((((70 : Int32) * x1) + 52) : Int32).toNatClampNeg))]) := ms_i2 (Φ := fun w => va_D (cOf (jn [mcells cI cZ ad 0 S0])) w) (S := (sI (sI Z12 0 ((Z12.2 25) ((((70 : Int32) * x1) + 50) : Int32).toNatClampNeg)) 1 ((Z12.2 25) ((((70 : Int32) * x1) + 51) : Int32).toNatClampNeg))) (v := ((Z12.2 25) ((((70 : Int32) * x1) + 52) : Int32).toNatClampNeg)) hD
      refine lv_aload_n hx hb dX7_restore_195 rfl (lv_at hl 0 rfl) ?_
      refine lv_aload_n hx hb dX7_restore_196 rfl (lv_at hl 0 rfl) ?_
      refine va_get (D := D) (ci := 7) (v := .ref (ad (0 + 14))) (C := RX7) (T := TX7) (N := 27) hx hb hW inW_X7 hown hK hP 0 rfl rfl 25 (by decide) (hW _ fl_X7_56) (fun _ h9 => h9) rfl dX7_restore_197 ?_
      refine lv_iload_n hx hb dX7_restore_200 rfl (lv_at hl 1 rfl) ?_
      refine lv_bipush (v := 53) hx hb dX7_restore_201 (by decide) ?_
      refine lv_iadd hx hb dX7_restore_203 ?_
      refine va_iald (f := (Z12.2 25)) hx hb hK hP 14 0 rfl rfl hw.1 dX7_restore_204 ?_
      have hw := hw.2
      refine va_put (D := D) (ci := 7) (v := .int ((Z12.2 25) ((((70 : Int32) * x1) + 53) : Int32).toNatClampNeg)) (ty := .int) (C := RX7) (T := TX7) (N := 27) hx hb hW inW_X7 tyX7 tyX7_ok nmX7 hown hK hP hD hS 0 rfl rfl 3 (by decide) (hW _ fl_X7_69) (fun _ h9 => h9) rfl (by decide +kernel) rfl rfl (Nat.le_of_ble_eq_true rfl) dX7_restore_205 (fun H locs hP hD hS => ?_)
      have hP : va_P D classes (jn [mcells cI cZ ad 0 (sI (sI (sI (sI Z12 0 ((Z12.2 25) ((((70 : Int32) * x1) + 50) : Int32).toNatClampNeg)) 1 ((Z12.2 25) ((((70 : Int32) * x1) + 51) : Int32).toNatClampNeg)) 2 ((Z12.2 25) ((((70 : Int32) * x1) + 52) : Int32).toNatClampNeg)) 3 ((Z12.2 25) ((((70 : Int32) * x1) + 53) : Int32).toNatClampNeg))]) H := ms_i3 (Φ := fun w => va_P D classes w H) (S := (sI (sI (sI Z12 0 ((Z12.2 25) ((((70 : Int32) * x1) + 50) : Int32).toNatClampNeg)) 1 ((Z12.2 25) ((((70 : Int32) * x1) + 51) : Int32).toNatClampNeg)) 2 ((Z12.2 25) ((((70 : Int32) * x1) + 52) : Int32).toNatClampNeg))) (v := ((Z12.2 25) ((((70 : Int32) * x1) + 53) : Int32).toNatClampNeg)) hP
      have hD : va_D (cOf (jn [mcells cI cZ ad 0 S0])) (jn [mcells cI cZ ad 0 (sI (sI (sI (sI Z12 0 ((Z12.2 25) ((((70 : Int32) * x1) + 50) : Int32).toNatClampNeg)) 1 ((Z12.2 25) ((((70 : Int32) * x1) + 51) : Int32).toNatClampNeg)) 2 ((Z12.2 25) ((((70 : Int32) * x1) + 52) : Int32).toNatClampNeg)) 3 ((Z12.2 25) ((((70 : Int32) * x1) + 53) : Int32).toNatClampNeg))]) := ms_i3 (Φ := fun w => va_D (cOf (jn [mcells cI cZ ad 0 S0])) w) (S := (sI (sI (sI Z12 0 ((Z12.2 25) ((((70 : Int32) * x1) + 50) : Int32).toNatClampNeg)) 1 ((Z12.2 25) ((((70 : Int32) * x1) + 51) : Int32).toNatClampNeg)) 2 ((Z12.2 25) ((((70 : Int32) * x1) + 52) : Int32).toNatClampNeg))) (v := ((Z12.2 25) ((((70 : Int32) * x1) + 53) : Int32).toNatClampNeg)) hD
      refine lv_aload_n hx hb dX7_restore_208 rfl (lv_at hl 0 rfl) ?_
      refine lv_aload_n hx hb dX7_restore_209 rfl (lv_at hl 0 rfl) ?_
      refine va_get (D := D) (ci := 7) (v := .ref (ad (0 + 14))) (C := RX7) (T := TX7) (N := 27) hx hb hW inW_X7 hown hK hP 0 rfl rfl 25 (by decide) (hW _ fl_X7_56) (fun _ h9 => h9) rfl dX7_restore_210 ?_
      refine lv_iload_n hx hb dX7_restore_213 rfl (lv_at hl 1 rfl) ?_
      refine lv_bipush (v := 54) hx hb dX7_restore_214 (by decide) ?_
      refine lv_iadd hx hb dX7_restore_216 ?_
      refine va_iald (f := (Z12.2 25)) hx hb hK hP 14 0 rfl rfl hw.1 dX7_restore_217 ?_
      have hw := hw.2
      refine va_put (D := D) (ci := 7) (v := .int ((Z12.2 25) ((((70 : Int32) * x1) + 54) : Int32).toNatClampNeg)) (ty := .int) (C := RX7) (T := TX7) (N := 27) hx hb hW inW_X7 tyX7 tyX7_ok nmX7 hown hK hP hD hS 0 rfl rfl 4 (by decide) (hW _ fl_X7_72) (fun _ h9 => h9) rfl (by decide +kernel) rfl rfl (Nat.le_of_ble_eq_true rfl) dX7_restore_218 (fun H locs hP hD hS => ?_)
      have hP : va_P D classes (jn [mcells cI cZ ad 0 (sI (sI (sI (sI (sI Z12 0 ((Z12.2 25) ((((70 : Int32) * x1) + 50) : Int32).toNatClampNeg)) 1 ((Z12.2 25) ((((70 : Int32) * x1) + 51) : Int32).toNatClampNeg)) 2 ((Z12.2 25) ((((70 : Int32) * x1) + 52) : Int32).toNatClampNeg)) 3 ((Z12.2 25) ((((70 : Int32) * x1) + 53) : Int32).toNatClampNeg)) 4 ((Z12.2 25) ((((70 : Int32) * x1) + 54) : Int32).toNatClampNeg))]) H := ms_i4 (Φ := fun w => va_P D classes w H) (S := (sI (sI (sI (sI Z12 0 ((Z12.2 25) ((((70 : Int32) * x1) + 50) : Int32).toNatClampNeg)) 1 ((Z12.2 25) ((((70 : Int32) * x1) + 51) : Int32).toNatClampNeg)) 2 ((Z12.2 25) ((((70 : Int32) * x1) + 52) : Int32).toNatClampNeg)) 3 ((Z12.2 25) ((((70 : Int32) * x1) + 53) : Int32).toNatClampNeg))) (v := ((Z12.2 25) ((((70 : Int32) * x1) + 54) : Int32).toNatClampNeg)) hP
      have hD : va_D (cOf (jn [mcells cI cZ ad 0 S0])) (jn [mcells cI cZ ad 0 (sI (sI (sI (sI (sI Z12 0 ((Z12.2 25) ((((70 : Int32) * x1) + 50) : Int32).toNatClampNeg)) 1 ((Z12.2 25) ((((70 : Int32) * x1) + 51) : Int32).toNatClampNeg)) 2 ((Z12.2 25) ((((70 : Int32) * x1) + 52) : Int32).toNatClampNeg)) 3 ((Z12.2 25) ((((70 : Int32) * x1) + 53) : Int32).toNatClampNeg)) 4 ((Z12.2 25) ((((70 : Int32) * x1) + 54) : Int32).toNatClampNeg))]) := ms_i4 (Φ := fun w => va_D (cOf (jn [mcells cI cZ ad 0 S0])) w) (S := (sI (sI (sI (sI Z12 0 ((Z12.2 25) ((((70 : Int32) * x1) + 50) : Int32).toNatClampNeg)) 1 ((Z12.2 25) ((((70 : Int32) * x1) + 51) : Int32).toNatClampNeg)) 2 ((Z12.2 25) ((((70 : Int32) * x1) + 52) : Int32).toNatClampNeg)) 3 ((Z12.2 25) ((((70 : Int32) * x1) + 53) : Int32).toNatClampNeg))) (v := ((Z12.2 25) ((((70 : Int32) * x1) + 54) : Int32).toNatClampNeg)) hD
      refine lv_aload_n hx hb dX7_restore_221 rfl (lv_at hl 0 rfl) ?_
      refine lv_aload_n hx hb dX7_restore_222 rfl (lv_at hl 0 rfl) ?_
      refine va_get (D := D) (ci := 7) (v := .ref (ad (0 + 14))) (C := RX7) (T := TX7) (N := 27) hx hb hW inW_X7 hown hK hP 0 rfl rfl 25 (by decide) (hW _ fl_X7_56) (fun _ h9 => h9) rfl dX7_restore_223 ?_
      refine lv_iload_n hx hb dX7_restore_226 rfl (lv_at hl 1 rfl) ?_
      refine lv_bipush (v := 55) hx hb dX7_restore_227 (by decide) ?_
      refine lv_iadd hx hb dX7_restore_229 ?_
      refine va_iald (f := (Z12.2 25)) hx hb hK hP 14 0 rfl rfl hw.1 dX7_restore_230 ?_
      have hw := hw.2
      refine va_put (D := D) (ci := 7) (v := .int ((Z12.2 25) ((((70 : Int32) * x1) + 55) : Int32).toNatClampNeg)) (ty := .int) (C := RX7) (T := TX7) (N := 27) hx hb hW inW_X7 tyX7 tyX7_ok nmX7 hown hK hP hD hS 0 rfl rfl 10 (by decide) (hW _ fl_X7_75) (fun _ h9 => h9) rfl (by decide +kernel) rfl rfl (Nat.le_of_ble_eq_true rfl) dX7_restore_231 (fun H locs hP hD hS => ?_)
      have hP : va_P D classes (jn [mcells cI cZ ad 0 (sI (sI (sI (sI (sI (sI Z12 0 ((Z12.2 25) ((((70 : Int32) * x1) + 50) : Int32).toNatClampNeg)) 1 ((Z12.2 25) ((((70 : Int32) * x1) + 51) : Int32).toNatClampNeg)) 2 ((Z12.2 25) ((((70 : Int32) * x1) + 52) : Int32).toNatClampNeg)) 3 ((Z12.2 25) ((((70 : Int32) * x1) + 53) : Int32).toNatClampNeg)) 4 ((Z12.2 25) ((((70 : Int32) * x1) + 54) : Int32).toNatClampNeg)) 10 ((Z12.2 25) ((((70 : Int32) * x1) + 55) : Int32).toNatClampNeg))]) H := ms_i10 (Φ := fun w => va_P D classes w H) (S := (sI (sI (sI (sI (sI Z12 0 ((Z12.2 25) ((((70 : Int32) * x1) + 50) : Int32).toNatClampNeg)) 1 ((Z12.2 25) ((((70 : Int32) * x1) + 51) : Int32).toNatClampNeg)) 2 ((Z12.2 25) ((((70 : Int32) * x1) + 52) : Int32).toNatClampNeg)) 3 ((Z12.2 25) ((((70 : Int32) * x1) + 53) : Int32).toNatClampNeg)) 4 ((Z12.2 25) ((((70 : Int32) * x1) + 54) : Int32).toNatClampNeg))) (v := ((Z12.2 25) ((((70 : Int32) * x1) + 55) : Int32).toNatClampNeg)) hP
      have hD : va_D (cOf (jn [mcells cI cZ ad 0 S0])) (jn [mcells cI cZ ad 0 (sI (sI (sI (sI (sI (sI Z12 0 ((Z12.2 25) ((((70 : Int32) * x1) + 50) : Int32).toNatClampNeg)) 1 ((Z12.2 25) ((((70 : Int32) * x1) + 51) : Int32).toNatClampNeg)) 2 ((Z12.2 25) ((((70 : Int32) * x1) + 52) : Int32).toNatClampNeg)) 3 ((Z12.2 25) ((((70 : Int32) * x1) + 53) : Int32).toNatClampNeg)) 4 ((Z12.2 25) ((((70 : Int32) * x1) + 54) : Int32).toNatClampNeg)) 10 ((Z12.2 25) ((((70 : Int32) * x1) + 55) : Int32).toNatClampNeg))]) := ms_i10 (Φ := fun w => va_D (cOf (jn [mcells cI cZ ad 0 S0])) w) (S := (sI (sI (sI (sI (sI Z12 0 ((Z12.2 25) ((((70 : Int32) * x1) + 50) : Int32).toNatClampNeg)) 1 ((Z12.2 25) ((((70 : Int32) * x1) + 51) : Int32).toNatClampNeg)) 2 ((Z12.2 25) ((((70 : Int32) * x1) + 52) : Int32).toNatClampNeg)) 3 ((Z12.2 25) ((((70 : Int32) * x1) + 53) : Int32).toNatClampNeg)) 4 ((Z12.2 25) ((((70 : Int32) * x1) + 54) : Int32).toNatClampNeg))) (v := ((Z12.2 25) ((((70 : Int32) * x1) + 55) : Int32).toNatClampNeg)) hD
      refine lv_iconst (v := 1) hx hb dX7_restore_234 (by decide) ?_
      exact W.iret (v := 1) hx hb hr (fun t ht _ => ⟨⟨_, ((sI (sI (sI (sI (sI (sI Z12 0 ((Z12.2 25) ((((70 : Int32) * x1) + 50) : Int32).toNatClampNeg)) 1 ((Z12.2 25) ((((70 : Int32) * x1) + 51) : Int32).toNatClampNeg)) 2 ((Z12.2 25) ((((70 : Int32) * x1) + 52) : Int32).toNatClampNeg)) 3 ((Z12.2 25) ((((70 : Int32) * x1) + 53) : Int32).toNatClampNeg)) 4 ((Z12.2 25) ((((70 : Int32) * x1) + 54) : Int32).toNatClampNeg)) 10 ((Z12.2 25) ((((70 : Int32) * x1) + 55) : Int32).toNatClampNeg))), rfl, ⟨_, rfl, hw⟩, by rw [ht]; exact hP⟩, hS.F ht⟩) hS.2.2 dX7_restore_235
    · have hw := Eq.mp (if_pos c2) hw
      refine lv_bipush (v := (-3)) hx hb dX7_restore_21 (by decide) ?_
      exact W.iret (v := (-3)) hx hb hr (fun t ht _ => ⟨⟨_, (S0), rfl, ⟨_, rfl, hw⟩, by rw [ht]; exact hP⟩, hS.F ht⟩) hS.2.2 dX7_restore_23
  · have hw := Eq.mp (if_pos c1) hw
    refine lv_bipush (v := (-2)) hx hb dX7_restore_9 (by decide) ?_
    exact W.iret (v := (-2)) hx hb hr (fun t ht _ => ⟨⟨_, (S0), rfl, ⟨_, rfl, hw⟩, by rw [ht]; exact hP⟩, hS.F ht⟩) hS.2.2 dX7_restore_11
set_option maxHeartbeats 4000000 in
set_option maxRecDepth 100000 in
theorem c_X7_told (l : Launch) (D : va_G) (cI cZ : ClassId) (ad : Nat → Nat) (S0 : St) (x1 : Int32) (k : Int32 → Prop) (hw : wp_X7_told S0 x1 k) : KR l yX7_told cX7_told 4 (some .int) 2 43 D cI cZ [.ref (ad 0), .int x1] [mcells cI cZ ad 0 S0] (fun v => ∃ r, v = some (.int r) ∧ k r) := by
  refine Met.ofE (by decide +kernel) (Nat.le_of_ble_eq_true rfl) ?_
  intro p e s m below meth c E ls hl
  obtain ⟨hx, hb, hr, hml, hW, hown, hlocks, hP, hK, hD, hN⟩ := E
  have hl : lv_has ls 4 [(0, .ref (ad 0)), (1, .int x1)] := hl
  have L68 : ∀  (kx : Int32 → Prop), (∀ (y2 : Int32), ∀ ls : Array Slot, lv_has ls 4 [(0, .ref (ad 0)), (1, .int x1), (2, .int y2)] → kx y2 → W p l e { frames := 2, cells := 0, slots := 0, locals := 43 } s m ([.ref (ad 0), .int x1] : List Value).toArray below meth c s.heap [] 0 0 (MQ below (QR (fun v => ∃ r, v = some (.int r) ∧ k r)) ([.ref (ad 0), .int x1] : List Value).toArray s 0 0 (fun _ => False)) (F0 m 101 ls [])) → ∀ (N68 : Nat) (y2 : Int32) (y3 : Int32), ∀ ls : Array Slot, lv_has ls 4 [(0, .ref (ad 0)), (1, .int x1), (2, .int y2), (3, .int y3)] → wl_X7_told_68 S0 kx N68 y2 y3 → W p l e { frames := 2, cells := 0, slots := 0, locals := 43 } s m ([.ref (ad 0), .int x1] : List Value).toArray below meth c s.heap [] 0 0 (MQ below (QR (fun v => ∃ r, v = some (.int r) ∧ k r)) ([.ref (ad 0), .int x1] : List Value).toArray s 0 0 (fun _ => False)) (F0 m 68 ls []) := by
    intro  kx hxt N68
    induction N68 with
    | zero => intro y2 y3 ls hl hw; exact False.elim hw
    | succ N68 ih =>
      intro y2 y3 ls hl hw
      have hw : (if (S0.1 0) ≤ y3 then (kx y2) else (vp_in y3 6 ∧ (if ((S0.2 5) (y3 : Int32).toNatClampNeg) < 0 then (wl_X7_told_68 S0 kx N68 (y2 ||| 0) (y3 + 1)) else (wl_X7_told_68 S0 kx N68 (y2 ||| ((1 : Int32) <<< (y3 &&& 31))) (y3 + 1))))) := hw
      refine lv_iload_n hx hb dX7_told_68 rfl (lv_at hl 3 rfl) ?_
      refine lv_aload_n hx hb dX7_told_69 rfl (lv_at hl 0 rfl) ?_
      refine va_get (D := D) (ci := 7) (v := .int (S0.1 0)) (C := RX7) (T := TX7) (N := 27) hx hb hW inW_X7 hown hK hP 0 rfl rfl 0 (by decide) (hW _ fl_X7_7) (fun _ h9 => h9) rfl dX7_told_70 ?_
      refine lv_icmp_ge (tgt := 101) hx hb dX7_told_73 (by decide) (fun c3 => ?_) (fun c3 => ?_)
      · have hw := Eq.mp (if_pos c3) hw
        exact hxt y2 _ (lv_sub hl [0, 1, 2] rfl) hw
      · have hw := Eq.mp (if_neg c3) hw
        refine lv_iload_n hx hb dX7_told_76 rfl (lv_at hl 2 rfl) ?_
        refine lv_aload_n hx hb dX7_told_77 rfl (lv_at hl 0 rfl) ?_
        refine va_get (D := D) (ci := 7) (v := .ref (ad (0 + 1))) (C := RX7) (T := TX7) (N := 27) hx hb hW inW_X7 hown hK hP 0 rfl rfl 5 (by decide) (hW _ fl_X7_16) (fun _ h9 => h9) rfl dX7_told_78 ?_
        refine lv_iload_n hx hb dX7_told_81 rfl (lv_at hl 3 rfl) ?_
        refine va_iald (f := (S0.2 5)) hx hb hK hP 1 0 rfl rfl hw.1 dX7_told_82 ?_
        have hw := hw.2
        refine lv_if_lt (tgt := 92) hx hb dX7_told_83 (by decide) (fun c4 => ?_) (fun c4 => ?_)
        · have hw := Eq.mp (if_pos c4) hw
          refine lv_iconst (v := 0) hx hb dX7_told_92 (by decide) ?_
          refine lv_ior hx hb dX7_told_93 ?_
          refine lv_istore_n (lv' := [(2, .int (y2 ||| 0)), (0, .ref (ad 0)), (1, .int x1), (3, .int y3)]) hx hb dX7_told_94 rfl hl (by decide) rfl (fun ls hl => ?_)
          refine lv_iinc (v := (y3 + 1)) (lv' := [(3, .int (y3 + 1)), (2, .int (y2 ||| 0)), (0, .ref (ad 0)), (1, .int x1)]) hx hb dX7_told_95 hl (k := 3) rfl rfl (by decide) rfl (fun ls hl => ?_)
          refine lv_goto (tgt := 68) hx hb dX7_told_98 (by decide) ?_
          exact ih (y2 ||| 0) (y3 + 1) _ (lv_sub hl [2, 3, 1, 0] rfl) hw
        · have hw := Eq.mp (if_neg c4) hw
          refine lv_iconst (v := 1) hx hb dX7_told_86 (by decide) ?_
          refine lv_iload_n hx hb dX7_told_87 rfl (lv_at hl 3 rfl) ?_
          refine lv_ishl hx hb dX7_told_88 ?_
          refine lv_goto (tgt := 93) hx hb dX7_told_89 (by decide) ?_
          refine lv_ior hx hb dX7_told_93 ?_
          refine lv_istore_n (lv' := [(2, .int (y2 ||| ((1 : Int32) <<< (y3 &&& 31)))), (0, .ref (ad 0)), (1, .int x1), (3, .int y3)]) hx hb dX7_told_94 rfl hl (by decide) rfl (fun ls hl => ?_)
          refine lv_iinc (v := (y3 + 1)) (lv' := [(3, .int (y3 + 1)), (2, .int (y2 ||| ((1 : Int32) <<< (y3 &&& 31)))), (0, .ref (ad 0)), (1, .int x1)]) hx hb dX7_told_95 hl (k := 3) rfl rfl (by decide) rfl (fun ls hl => ?_)
          refine lv_goto (tgt := 68) hx hb dX7_told_98 (by decide) ?_
          exact ih (y2 ||| ((1 : Int32) <<< (y3 &&& 31))) (y3 + 1) _ (lv_sub hl [2, 3, 1, 0] rfl) hw
  have hw : (if x1 < 20 then (if x1 < 10 then (∃ M13, wl_X7_told_68 S0 (fun (v5 : Int32) => (if x1 = 0 then (k (S0.1 12)) else (if x1 = 1 then (k (S0.1 0)) else (if x1 = 2 then (k (S0.1 1)) else (if x1 = 3 then (k (S0.1 2)) else (if x1 = 4 then (k (S0.1 3)) else (if x1 = 5 then (k v5) else (if x1 = 6 then (k (S0.1 10)) else (k (-2)))))))))) M13 0 0) else (if (F_X7_isOne S0 (x1 - 10)) = 0 then (k (-2)) else (vp_in (x1 - 10) 6 ∧ (k ((S0.2 8) ((x1 - 10) : Int32).toNatClampNeg))))) else (if (F_X7_isOne S0 (x1 - 20)) = 0 then (k (-2)) else (vp_in (x1 - 20) 6 ∧ (k ((S0.2 9) ((x1 - 20) : Int32).toNatClampNeg))))) := hw
  refine lv_iload_n hx hb dX7_told_0 rfl (lv_at hl 1 rfl) ?_
  refine lv_bipush (v := 20) hx hb dX7_told_1 (by decide) ?_
  refine lv_icmp_lt (tgt := 32) hx hb dX7_told_3 (by decide) (fun c1 => ?_) (fun c1 => ?_)
  · have hw := Eq.mp (if_pos c1) hw
    refine lv_iload_n hx hb dX7_told_32 rfl (lv_at hl 1 rfl) ?_
    refine lv_bipush (v := 10) hx hb dX7_told_33 (by decide) ?_
    refine lv_icmp_lt (tgt := 64) hx hb dX7_told_35 (by decide) (fun c2 => ?_) (fun c2 => ?_)
    · have hw := Eq.mp (if_pos c2) hw
      refine lv_iconst (v := 0) hx hb dX7_told_64 (by decide) ?_
      refine lv_istore_n (lv' := [(2, .int 0), (0, .ref (ad 0)), (1, .int x1)]) hx hb dX7_told_65 rfl hl (by decide) rfl (fun ls hl => ?_)
      refine lv_iconst (v := 0) hx hb dX7_told_66 (by decide) ?_
      refine lv_istore_n (lv' := [(3, .int 0), (2, .int 0), (0, .ref (ad 0)), (1, .int x1)]) hx hb dX7_told_67 rfl hl (by decide) rfl (fun ls hl => ?_)
      obtain ⟨N14, hw⟩ := hw
      refine L68  _ (fun v5 ls hl hw => ?_) N14 0 0 _ (lv_sub hl [2, 3, 1, 0] rfl) hw
      refine lv_iload_n hx hb dX7_told_101 rfl (lv_at hl 1 rfl) ?_
      by_cases c6 : x1 = 0
      · have hw := Eq.mp (if_pos c6) hw
        refine lv_tableIn (off := 38) (tgt := 140) hx hb dX7_told_102 (by rw [c6]; decide) (by rw [c6]; decide) (by rw [c6]; rfl) (by decide) ?_
        refine lv_aload_n hx hb dX7_told_140 rfl (lv_at hl 0 rfl) ?_
        refine va_get (D := D) (ci := 7) (v := .int (S0.1 12)) (C := RX7) (T := TX7) (N := 27) hx hb hW inW_X7 hown hK hP 0 rfl rfl 12 (by decide) (hW _ fl_X7_86) (fun _ h9 => h9) rfl dX7_told_141 ?_
        exact W.iret (v := (S0.1 12)) hx hb hr (fun t ht _ => ⟨⟨_, rfl, ⟨_, rfl, hw⟩⟩, ht⟩) (fun _ h => by cases h) dX7_told_144
      · have hw := Eq.mp (if_neg c6) hw
        by_cases c7 : x1 = 1
        · have hw := Eq.mp (if_pos c7) hw
          refine lv_tableIn (off := 43) (tgt := 145) hx hb dX7_told_102 (by rw [c7]; decide) (by rw [c7]; decide) (by rw [c7]; rfl) (by decide) ?_
          refine lv_aload_n hx hb dX7_told_145 rfl (lv_at hl 0 rfl) ?_
          refine va_get (D := D) (ci := 7) (v := .int (S0.1 0)) (C := RX7) (T := TX7) (N := 27) hx hb hW inW_X7 hown hK hP 0 rfl rfl 0 (by decide) (hW _ fl_X7_7) (fun _ h9 => h9) rfl dX7_told_146 ?_
          exact W.iret (v := (S0.1 0)) hx hb hr (fun t ht _ => ⟨⟨_, rfl, ⟨_, rfl, hw⟩⟩, ht⟩) (fun _ h => by cases h) dX7_told_149
        · have hw := Eq.mp (if_neg c7) hw
          by_cases c8 : x1 = 2
          · have hw := Eq.mp (if_pos c8) hw
            refine lv_tableIn (off := 48) (tgt := 150) hx hb dX7_told_102 (by rw [c8]; decide) (by rw [c8]; decide) (by rw [c8]; rfl) (by decide) ?_
            refine lv_aload_n hx hb dX7_told_150 rfl (lv_at hl 0 rfl) ?_
            refine va_get (D := D) (ci := 7) (v := .int (S0.1 1)) (C := RX7) (T := TX7) (N := 27) hx hb hW inW_X7 hown hK hP 0 rfl rfl 1 (by decide) (hW _ fl_X7_13) (fun _ h9 => h9) rfl dX7_told_151 ?_
            exact W.iret (v := (S0.1 1)) hx hb hr (fun t ht _ => ⟨⟨_, rfl, ⟨_, rfl, hw⟩⟩, ht⟩) (fun _ h => by cases h) dX7_told_154
          · have hw := Eq.mp (if_neg c8) hw
            by_cases c9 : x1 = 3
            · have hw := Eq.mp (if_pos c9) hw
              refine lv_tableIn (off := 53) (tgt := 155) hx hb dX7_told_102 (by rw [c9]; decide) (by rw [c9]; decide) (by rw [c9]; rfl) (by decide) ?_
              refine lv_aload_n hx hb dX7_told_155 rfl (lv_at hl 0 rfl) ?_
              refine va_get (D := D) (ci := 7) (v := .int (S0.1 2)) (C := RX7) (T := TX7) (N := 27) hx hb hW inW_X7 hown hK hP 0 rfl rfl 2 (by decide) (hW _ fl_X7_66) (fun _ h9 => h9) rfl dX7_told_156 ?_
              exact W.iret (v := (S0.1 2)) hx hb hr (fun t ht _ => ⟨⟨_, rfl, ⟨_, rfl, hw⟩⟩, ht⟩) (fun _ h => by cases h) dX7_told_159
            · have hw := Eq.mp (if_neg c9) hw
              by_cases c10 : x1 = 4
              · have hw := Eq.mp (if_pos c10) hw
                refine lv_tableIn (off := 58) (tgt := 160) hx hb dX7_told_102 (by rw [c10]; decide) (by rw [c10]; decide) (by rw [c10]; rfl) (by decide) ?_
                refine lv_aload_n hx hb dX7_told_160 rfl (lv_at hl 0 rfl) ?_
                refine va_get (D := D) (ci := 7) (v := .int (S0.1 3)) (C := RX7) (T := TX7) (N := 27) hx hb hW inW_X7 hown hK hP 0 rfl rfl 3 (by decide) (hW _ fl_X7_69) (fun _ h9 => h9) rfl dX7_told_161 ?_
                exact W.iret (v := (S0.1 3)) hx hb hr (fun t ht _ => ⟨⟨_, rfl, ⟨_, rfl, hw⟩⟩, ht⟩) (fun _ h => by cases h) dX7_told_164
              · have hw := Eq.mp (if_neg c10) hw
                by_cases c11 : x1 = 5
                · have hw := Eq.mp (if_pos c11) hw
                  refine lv_tableIn (off := 63) (tgt := 165) hx hb dX7_told_102 (by rw [c11]; decide) (by rw [c11]; decide) (by rw [c11]; rfl) (by decide) ?_
                  refine lv_iload_n hx hb dX7_told_165 rfl (lv_at hl 2 rfl) ?_
                  exact W.iret (v := v5) hx hb hr (fun t ht _ => ⟨⟨_, rfl, ⟨_, rfl, hw⟩⟩, ht⟩) (fun _ h => by cases h) dX7_told_166
                · have hw := Eq.mp (if_neg c11) hw
                  have ec6 : (x1).toInt ≠ 0 := ne_toInt c6
                  have ec7 : (x1).toInt ≠ 1 := ne_toInt c7
                  have ec8 : (x1).toInt ≠ 2 := ne_toInt c8
                  have ec9 : (x1).toInt ≠ 3 := ne_toInt c9
                  have ec10 : (x1).toInt ≠ 4 := ne_toInt c10
                  have ec11 : (x1).toInt ≠ 5 := ne_toInt c11
                  refine lv_tableOut (tgt := 167) hx hb dX7_told_102 (by omega) (by decide) ?_
                  refine lv_iload_n hx hb dX7_told_167 rfl (lv_at hl 1 rfl) ?_
                  refine lv_bipush (v := 6) hx hb dX7_told_168 (by decide) ?_
                  refine lv_icmp_ne (tgt := 180) hx hb dX7_told_170 (by decide) (fun c12 => ?_) (fun c12 => ?_)
                  · have hw := Eq.mp (if_neg c12) hw
                    refine lv_bipush (v := (-2)) hx hb dX7_told_180 (by decide) ?_
                    exact W.iret (v := (-2)) hx hb hr (fun t ht _ => ⟨⟨_, rfl, ⟨_, rfl, hw⟩⟩, ht⟩) (fun _ h => by cases h) dX7_told_182
                  · have hw := Eq.mp (if_pos c12) hw
                    refine lv_aload_n hx hb dX7_told_173 rfl (lv_at hl 0 rfl) ?_
                    refine va_get (D := D) (ci := 7) (v := .int (S0.1 10)) (C := RX7) (T := TX7) (N := 27) hx hb hW inW_X7 hown hK hP 0 rfl rfl 10 (by decide) (hW _ fl_X7_75) (fun _ h9 => h9) rfl dX7_told_174 ?_
                    refine lv_goto (tgt := 182) hx hb dX7_told_177 (by decide) ?_
                    exact W.iret (v := (S0.1 10)) hx hb hr (fun t ht _ => ⟨⟨_, rfl, ⟨_, rfl, hw⟩⟩, ht⟩) (fun _ h => by cases h) dX7_told_182
    · have hw := Eq.mp (if_neg c2) hw
      refine lv_aload_n hx hb dX7_told_38 rfl (lv_at hl 0 rfl) ?_
      refine lv_iload_n hx hb dX7_told_39 rfl (lv_at hl 1 rfl) ?_
      refine lv_bipush (v := 10) hx hb dX7_told_40 (by decide) ?_
      refine lv_isub hx hb dX7_told_42 ?_
      refine callF (va_runV (As := [.int (x1 - 10)]) (rest := []) ⟨hx, hb, hml, hown, hW⟩ (c_X7_isOne l D cI cZ ad  S0 (x1 - 10) _ rfl) (cwV0 hW mV_X7_isOne ml_X7_82 ⟨Nat.le_of_ble_eq_true rfl, Nat.le_of_ble_eq_true rfl⟩) (preV0 0 rfl rfl hK hN hP hD [0] rfl rfl) rfl rfl hl.1 rfl (lv_room (Nat.le_of_ble_eq_true rfl)) dX7_told_43 ⟨Nat.le_refl _, Nat.le_refl _⟩) ?_
      refine W.eq (g2 := F0 m 46 ls [.int (F_X7_isOne S0 (x1 - 10))]) rfl ?_
      refine lv_if_eq (tgt := 61) hx hb dX7_told_46 (by decide) (fun c15 => ?_) (fun c15 => ?_)
      · have hw := Eq.mp (if_pos c15) hw
        refine lv_bipush (v := (-2)) hx hb dX7_told_61 (by decide) ?_
        exact W.iret (v := (-2)) hx hb hr (fun t ht _ => ⟨⟨_, rfl, ⟨_, rfl, hw⟩⟩, ht⟩) (fun _ h => by cases h) dX7_told_63
      · have hw := Eq.mp (if_neg c15) hw
        refine lv_aload_n hx hb dX7_told_49 rfl (lv_at hl 0 rfl) ?_
        refine va_get (D := D) (ci := 7) (v := .ref (ad (0 + 4))) (C := RX7) (T := TX7) (N := 27) hx hb hW inW_X7 hown hK hP 0 rfl rfl 8 (by decide) (hW _ fl_X7_26) (fun _ h9 => h9) rfl dX7_told_50 ?_
        refine lv_iload_n hx hb dX7_told_53 rfl (lv_at hl 1 rfl) ?_
        refine lv_bipush (v := 10) hx hb dX7_told_54 (by decide) ?_
        refine lv_isub hx hb dX7_told_56 ?_
        refine va_iald (f := (S0.2 8)) hx hb hK hP 4 0 rfl rfl hw.1 dX7_told_57 ?_
        have hw := hw.2
        refine lv_goto (tgt := 63) hx hb dX7_told_58 (by decide) ?_
        exact W.iret (v := ((S0.2 8) ((x1 - 10) : Int32).toNatClampNeg)) hx hb hr (fun t ht _ => ⟨⟨_, rfl, ⟨_, rfl, hw⟩⟩, ht⟩) (fun _ h => by cases h) dX7_told_63
  · have hw := Eq.mp (if_neg c1) hw
    refine lv_aload_n hx hb dX7_told_6 rfl (lv_at hl 0 rfl) ?_
    refine lv_iload_n hx hb dX7_told_7 rfl (lv_at hl 1 rfl) ?_
    refine lv_bipush (v := 20) hx hb dX7_told_8 (by decide) ?_
    refine lv_isub hx hb dX7_told_10 ?_
    refine callF (va_runV (As := [.int (x1 - 20)]) (rest := []) ⟨hx, hb, hml, hown, hW⟩ (c_X7_isOne l D cI cZ ad  S0 (x1 - 20) _ rfl) (cwV0 hW mV_X7_isOne ml_X7_82 ⟨Nat.le_of_ble_eq_true rfl, Nat.le_of_ble_eq_true rfl⟩) (preV0 0 rfl rfl hK hN hP hD [0] rfl rfl) rfl rfl hl.1 rfl (lv_room (Nat.le_of_ble_eq_true rfl)) dX7_told_11 ⟨Nat.le_refl _, Nat.le_refl _⟩) ?_
    refine W.eq (g2 := F0 m 14 ls [.int (F_X7_isOne S0 (x1 - 20))]) rfl ?_
    refine lv_if_eq (tgt := 29) hx hb dX7_told_14 (by decide) (fun c16 => ?_) (fun c16 => ?_)
    · have hw := Eq.mp (if_pos c16) hw
      refine lv_bipush (v := (-2)) hx hb dX7_told_29 (by decide) ?_
      exact W.iret (v := (-2)) hx hb hr (fun t ht _ => ⟨⟨_, rfl, ⟨_, rfl, hw⟩⟩, ht⟩) (fun _ h => by cases h) dX7_told_31
    · have hw := Eq.mp (if_neg c16) hw
      refine lv_aload_n hx hb dX7_told_17 rfl (lv_at hl 0 rfl) ?_
      refine va_get (D := D) (ci := 7) (v := .ref (ad (0 + 5))) (C := RX7) (T := TX7) (N := 27) hx hb hW inW_X7 hown hK hP 0 rfl rfl 9 (by decide) (hW _ fl_X7_29) (fun _ h9 => h9) rfl dX7_told_18 ?_
      refine lv_iload_n hx hb dX7_told_21 rfl (lv_at hl 1 rfl) ?_
      refine lv_bipush (v := 20) hx hb dX7_told_22 (by decide) ?_
      refine lv_isub hx hb dX7_told_24 ?_
      refine va_iald (f := (S0.2 9)) hx hb hK hP 5 0 rfl rfl hw.1 dX7_told_25 ?_
      have hw := hw.2
      refine lv_goto (tgt := 31) hx hb dX7_told_26 (by decide) ?_
      exact W.iret (v := ((S0.2 9) ((x1 - 20) : Int32).toNatClampNeg)) hx hb hr (fun t ht _ => ⟨⟨_, rfl, ⟨_, rfl, hw⟩⟩, ht⟩) (fun _ h => by cases h) dX7_told_31
