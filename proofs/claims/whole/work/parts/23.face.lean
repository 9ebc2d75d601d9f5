-- laid by wip/whole/all.py: the walks
set_option maxHeartbeats 4000000 in
set_option maxRecDepth 100000 in
theorem c_X6_lands (l : Launch) (D : va_G) (cI cZ : ClassId) (ad : Nat → Nat) (Y0 : St) (x1 : Int32) (k : Int32 → St → Prop) (hw : wp_X6_lands Y0 x1 k) : KW l yX6_lands cX6_lands 3 (some .int) 2 44 D cI cZ [.ref (ad 0), .int x1] [xcell ad, rcells cI ad 1 Y0] (fun v (u : St) => ∃ r, v = some (.int r) ∧ k r u) (fun u : St => [xcell ad, rcells cI ad 1 u]) := by
  refine Met.ofE (by decide +kernel) (Nat.le_of_ble_eq_true rfl) ?_
  intro p e s m below meth c E ls hl
  obtain ⟨hx, hb, hr, hml, hW, hown, hlocks, hP, hK, hD, hN⟩ := E
  have hl : lv_has ls 3 [(0, .ref (ad 0)), (1, .int x1)] := hl
  have hS : va_S (cOf (jn [xcell ad, rcells cI ad 1 Y0])) s.heap s.heap [] := va_S.rf
  have hw : (if (F_X6_within x1 3 6) = 0 then (k (-2) Y0) else (wp_X2_startAnew Y0 x1 (fun (Z2 : St) => (k (Y0.1 0) Z2)))) := hw
  refine lv_iload_n hx hb dX6_lands_0 rfl (lv_at hl 1 rfl) ?_
  refine lv_iconst (v := 3) hx hb dX6_lands_1 (by decide) ?_
  refine lv_bipush (v := 6) hx hb dX6_lands_2 (by decide) ?_
  refine callF (va_runS (As := [.int x1, .int 3, .int 6]) (rest := []) ⟨hx, hb, hml, hown, hW⟩ (c_X6_within l D cI cZ x1 3 6 _ rfl) (cwS0 hW mS_X6_within ml_X6_69 ⟨Nat.le_of_ble_eq_true rfl, Nat.le_of_ble_eq_true rfl⟩) (preS0 hK hN hP hD [] rfl rfl) rfl rfl hl.1 rfl (lv_room (Nat.le_of_ble_eq_true rfl)) dX6_lands_4 ⟨Nat.le_refl _, Nat.le_refl _⟩) ?_
  refine W.eq (g2 := F0 m 7 ls [.int (F_X6_within x1 3 6)]) rfl ?_
  refine lv_if_ne (tgt := 13) hx hb dX6_lands_7 (by decide) (fun c1 => ?_) (fun c1 => ?_)
  · have hw := Eq.mp (if_neg c1) hw
    refine lv_aload_n hx hb dX6_lands_13 rfl (lv_at hl 0 rfl) ?_
    refine va_get (D := D) (ci := 6) (v := .ref (ad 1)) (C := RX6) (T := TX6) (N := 9) hx hb hW inW_X6 hown hK hP 0 rfl rfl 0 (by decide) (hW _ fl_X6_10) (fun _ h9 => h9) rfl dX6_lands_14 ?_
    refine va_get (D := D) (ci := 2) (v := .int (Y0.1 0)) (C := RX2) (T := TX2) (N := 15) hx hb hW inW_X2 hown hK hP 1 rfl rfl 0 (by decide) (hW _ fl_X6_73) (fun _ h9 => h9) rfl dX6_lands_17 ?_
    refine lv_istore_n (lv' := [(2, .int (Y0.1 0)), (0, .ref (ad 0)), (1, .int x1)]) hx hb dX6_lands_20 rfl hl (by decide) rfl (fun ls hl => ?_)
    refine lv_aload_n hx hb dX6_lands_21 rfl (lv_at hl 1 rfl) ?_
    refine va_get (D := D) (ci := 6) (v := .ref (ad 1)) (C := RX6) (T := TX6) (N := 9) hx hb hW inW_X6 hown hK hP 0 rfl rfl 0 (by decide) (hW _ fl_X6_10) (fun _ h9 => h9) rfl dX6_lands_22 ?_
    refine lv_iload_n hx hb dX6_lands_25 rfl (lv_at hl 2 rfl) ?_
    refine callW (va_runV (As := [.int x1]) (rest := []) ⟨hx, hb, hml, hown, hW⟩ (c_X2_startAnew l D cI cZ ad 1 Y0 x1 _ hw) (cwV0 hW mV_X2_startAnew ml_X6_66 ⟨Nat.le_of_ble_eq_true rfl, Nat.le_of_ble_eq_true rfl⟩) (preV0 0 rfl rfl hK hN hP hD [1] rfl rfl) rfl rfl hl.1 rfl (lv_room (Nat.le_of_ble_eq_true rfl)) dX6_lands_26 ⟨Nat.le_refl _, Nat.le_refl _⟩) hP hD hS [1] rfl rfl (fun _ => rfl) (fun v9 u9 H locs hq hP hD hS => ?_)
    obtain ⟨rfl, hw⟩ := hq
    obtain ⟨Z2, rfl⟩ : ∃ z, z = u9 := ⟨_, rfl⟩
    have hP : va_P D classes (jn [xcell ad, rcells cI ad 1 Z2]) H := hP
    have hD : va_D (cOf (jn [xcell ad, rcells cI ad 1 Y0])) (jn [xcell ad, rcells cI ad 1 Z2]) := hD
    refine W.eq (g2 := F0 m 29 ls []) rfl ?_
    refine lv_iload_n hx hb dX6_lands_29 rfl (lv_at hl 0 rfl) ?_
    exact W.iret (v := (Y0.1 0)) hx hb hr (fun t ht _ => ⟨⟨_, (Z2), rfl, ⟨_, rfl, hw⟩, by rw [ht]; exact hP⟩, hS.F ht⟩) hS.2.2 dX6_lands_30
  · have hw := Eq.mp (if_pos c1) hw
    refine lv_bipush (v := (-2)) hx hb dX6_lands_10 (by decide) ?_
    exact W.iret (v := (-2)) hx hb hr (fun t ht _ => ⟨⟨_, (Y0), rfl, ⟨_, rfl, hw⟩, by rw [ht]; exact hP⟩, hS.F ht⟩) hS.2.2 dX6_lands_12
set_option maxHeartbeats 4000000 in
set_option maxRecDepth 100000 in
theorem c_X6_season (l : Launch) (D : va_G) (cI cZ : ClassId) (ad : Nat → Nat) (Y0 : St) (x1 : Int32) (k : Int32 → St → Prop) (hw : wp_X6_season Y0 x1 k) : KW l yX6_season cX6_season 3 (some .int) 1 22 D cI cZ [.ref (ad 0), .int x1] [xcell ad, rcells cI ad 1 Y0] (fun v (u : St) => ∃ r, v = some (.int r) ∧ k r u) (fun u : St => [xcell ad, rcells cI ad 1 u]) := by
  refine Met.ofE (by decide +kernel) (Nat.le_of_ble_eq_true rfl) ?_
  intro p e s m below meth c E ls hl
  obtain ⟨hx, hb, hr, hml, hW, hown, hlocks, hP, hK, hD, hN⟩ := E
  have hl : lv_has ls 3 [(0, .ref (ad 0)), (1, .int x1)] := hl
  have hS : va_S (cOf (jn [xcell ad, rcells cI ad 1 Y0])) s.heap s.heap [] := va_S.rf
  have hw : (if (F_X6_within x1 1 99) = 0 then (k (-2) Y0) else (if (Y0.1 3) = 0 then (k (Y0.1 1) (sI Y0 1 x1)) else (k (-3) Y0))) := hw
  refine lv_iload_n hx hb dX6_season_0 rfl (lv_at hl 1 rfl) ?_
  refine lv_iconst (v := 1) hx hb dX6_season_1 (by decide) ?_
  refine lv_bipush (v := 99) hx hb dX6_season_2 (by decide) ?_
  refine callF (va_runS (As := [.int x1, .int 1, .int 99]) (rest := []) ⟨hx, hb, hml, hown, hW⟩ (c_X6_within l D cI cZ x1 1 99 _ rfl) (cwS0 hW mS_X6_within ml_X6_69 ⟨Nat.le_of_ble_eq_true rfl, Nat.le_of_ble_eq_true rfl⟩) (preS0 hK hN hP hD [] rfl rfl) rfl rfl hl.1 rfl (lv_room (Nat.le_of_ble_eq_true rfl)) dX6_season_4 ⟨Nat.le_refl _, Nat.le_refl _⟩) ?_
  refine W.eq (g2 := F0 m 7 ls [.int (F_X6_within x1 1 99)]) rfl ?_
  refine lv_if_ne (tgt := 13) hx hb dX6_season_7 (by decide) (fun c1 => ?_) (fun c1 => ?_)
  · have hw := Eq.mp (if_neg c1) hw
    refine lv_aload_n hx hb dX6_season_13 rfl (lv_at hl 0 rfl) ?_
    refine va_get (D := D) (ci := 6) (v := .ref (ad 1)) (C := RX6) (T := TX6) (N := 9) hx hb hW inW_X6 hown hK hP 0 rfl rfl 0 (by decide) (hW _ fl_X6_10) (fun _ h9 => h9) rfl dX6_season_14 ?_
    refine va_get (D := D) (ci := 2) (v := .int (Y0.1 3)) (C := RX2) (T := TX2) (N := 15) hx hb hW inW_X2 hown hK hP 1 rfl rfl 3 (by decide) (hW _ fl_X6_76) (fun _ h9 => h9) rfl dX6_season_17 ?_
    refine lv_if_eq (tgt := 26) hx hb dX6_season_20 (by decide) (fun c2 => ?_) (fun c2 => ?_)
    · have hw := Eq.mp (if_pos c2) hw
      refine lv_aload_n hx hb dX6_season_26 rfl (lv_at hl 0 rfl) ?_
      refine va_get (D := D) (ci := 6) (v := .ref (ad 1)) (C := RX6) (T := TX6) (N := 9) hx hb hW inW_X6 hown hK hP 0 rfl rfl 0 (by decide) (hW _ fl_X6_10) (fun _ h9 => h9) rfl dX6_season_27 ?_
      refine va_get (D := D) (ci := 2) (v := .int (Y0.1 1)) (C := RX2) (T := TX2) (N := 15) hx hb hW inW_X2 hown hK hP 1 rfl rfl 1 (by decide) (hW _ fl_X6_62) (fun _ h9 => h9) rfl dX6_season_30 ?_
      refine lv_istore_n (lv' := [(2, .int (Y0.1 1)), (0, .ref (ad 0)), (1, .int x1)]) hx hb dX6_season_33 rfl hl (by decide) rfl (fun ls hl => ?_)
      refine lv_aload_n hx hb dX6_season_34 rfl (lv_at hl 1 rfl) ?_
      refine va_get (D := D) (ci := 6) (v := .ref (ad 1)) (C := RX6) (T := TX6) (N := 9) hx hb hW inW_X6 hown hK hP 0 rfl rfl 0 (by decide) (hW _ fl_X6_10) (fun _ h9 => h9) rfl dX6_season_35 ?_
      refine lv_iload_n hx hb dX6_season_38 rfl (lv_at hl 2 rfl) ?_
      refine va_put (D := D) (ci := 2) (v := .int x1) (ty := .int) (C := RX2) (T := TX2) (N := 15) hx hb hW inW_X2 tyX2 tyX2_ok nmX2 hown hK hP hD hS 1 rfl rfl 1 (by decide) (hW _ fl_X6_62) (fun _ h9 => h9) rfl (by decide +kernel) rfl rfl (Nat.le_of_ble_eq_true rfl) dX6_season_39 (fun H locs hP hD hS => ?_)
      have hP : va_P D classes (jn [xcell ad, rcells cI ad 1 (sI Y0 1 x1)]) H := hP
      have hD : va_D (cOf (jn [xcell ad, rcells cI ad 1 Y0])) (jn [xcell ad, rcells cI ad 1 (sI Y0 1 x1)]) := hD
      refine lv_iload_n hx hb dX6_season_42 rfl (lv_at hl 0 rfl) ?_
      exact W.iret (v := (Y0.1 1)) hx hb hr (fun t ht _ => ⟨⟨_, ((sI Y0 1 x1)), rfl, ⟨_, rfl, hw⟩, by rw [ht]; exact hP⟩, hS.F ht⟩) hS.2.2 dX6_season_43
    · have hw := Eq.mp (if_neg c2) hw
      refine lv_bipush (v := (-3)) hx hb dX6_season_23 (by decide) ?_
      exact W.iret (v := (-3)) hx hb hr (fun t ht _ => ⟨⟨_, (Y0), rfl, ⟨_, rfl, hw⟩, by rw [ht]; exact hP⟩, hS.F ht⟩) hS.2.2 dX6_season_25
  · have hw := Eq.mp (if_pos c1) hw
    refine lv_bipush (v := (-2)) hx hb dX6_season_10 (by decide) ?_
    exact W.iret (v := (-2)) hx hb hr (fun t ht _ => ⟨⟨_, (Y0), rfl, ⟨_, rfl, hw⟩, by rw [ht]; exact hP⟩, hS.F ht⟩) hS.2.2 dX6_season_12
set_option maxHeartbeats 4000000 in
set_option maxRecDepth 100000 in
theorem c_X6_set (l : Launch) (D : va_G) (cI cZ : ClassId) (ad : Nat → Nat) (Y0 : St) (x1 : Int32) (x2 : Int32) (x3 : Int32) (k : Int32 → St → Prop) (hw : wp_X6_set Y0 x1 x2 x3 k) : KW l yX6_set cX6_set 6 (some .int) 1 22 D cI cZ [.ref (ad 0), .int x1, .int x2, .int x3] [xcell ad, rcells cI ad 1 Y0] (fun v (u : St) => ∃ r, v = some (.int r) ∧ k r u) (fun u : St => [xcell ad, rcells cI ad 1 u]) := by
  refine Met.ofE (by decide +kernel) (Nat.le_of_ble_eq_true rfl) ?_
  intro p e s m below meth c E ls hl
  obtain ⟨hx, hb, hr, hml, hW, hown, hlocks, hP, hK, hD, hN⟩ := E
  have hl : lv_has ls 6 [(0, .ref (ad 0)), (1, .int x1), (2, .int x2), (3, .int x3)] := hl
  have hS : va_S (cOf (jn [xcell ad, rcells cI ad 1 Y0])) s.heap s.heap [] := va_S.rf
  have hw : (if (F_X2_has Y0 x1) = 0 then (k (-1) Y0) else (if (F_X6_within x2 0 1) = 0 then (k (-2) Y0) else (if x2 = 0 then (if (F_X6_within x3 0 9) = 0 then (k (-2) Y0) else (wp_X3_put 6 (Y0.2 12) x1 x3 (fun (Z5 : (Nat → Int32)) => (k (F_X3_get 6 (Y0.2 12) x1) (sA Y0 12 Z5))))) else (if (F_X6_within x3 0 1) = 0 then (k (-2) Y0) else (wp_X3_put 6 (Y0.2 11) x1 x3 (fun (Z7 : (Nat → Int32)) => (k (F_X3_get 6 (Y0.2 11) x1) (sA Y0 11 Z7)))))))) := hw
  refine lv_aload_n hx hb dX6_set_0 rfl (lv_at hl 0 rfl) ?_
  refine va_get (D := D) (ci := 6) (v := .ref (ad 1)) (C := RX6) (T := TX6) (N := 9) hx hb hW inW_X6 hown hK hP 0 rfl rfl 0 (by decide) (hW _ fl_X6_10) (fun _ h9 => h9) rfl dX6_set_1 ?_
  refine lv_iload_n hx hb dX6_set_4 rfl (lv_at hl 1 rfl) ?_
  refine callF (va_runV (As := [.int x1]) (rest := []) ⟨hx, hb, hml, hown, hW⟩ (c_X2_has l D cI cZ ad 1 Y0 x1 _ rfl) (cwV0 hW mV_X2_has ml_X6_79 ⟨Nat.le_of_ble_eq_true rfl, Nat.le_of_ble_eq_true rfl⟩) (preV0 0 rfl rfl hK hN hP hD [1] rfl rfl) rfl rfl hl.1 rfl (lv_room (Nat.le_of_ble_eq_true rfl)) dX6_set_5 ⟨Nat.le_refl _, Nat.le_refl _⟩) ?_
  refine W.eq (g2 := F0 m 8 ls [.int (F_X2_has Y0 x1)]) rfl ?_
  refine lv_if_ne (tgt := 13) hx hb dX6_set_8 (by decide) (fun c1 => ?_) (fun c1 => ?_)
  · have hw := Eq.mp (if_neg c1) hw
    refine lv_iload_n hx hb dX6_set_13 rfl (lv_at hl 2 rfl) ?_
    refine lv_iconst (v := 0) hx hb dX6_set_14 (by decide) ?_
    refine lv_iconst (v := 1) hx hb dX6_set_15 (by decide) ?_
    refine callF (va_runS (As := [.int x2, .int 0, .int 1]) (rest := []) ⟨hx, hb, hml, hown, hW⟩ (c_X6_within l D cI cZ x2 0 1 _ rfl) (cwS0 hW mS_X6_within ml_X6_69 ⟨Nat.le_of_ble_eq_true rfl, Nat.le_of_ble_eq_true rfl⟩) (preS0 hK hN hP hD [] rfl rfl) rfl rfl hl.1 rfl (lv_room (Nat.le_of_ble_eq_true rfl)) dX6_set_16 ⟨Nat.le_refl _, Nat.le_refl _⟩) ?_
    refine W.eq (g2 := F0 m 19 ls [.int (F_X6_within x2 0 1)]) rfl ?_
    refine lv_if_eq (tgt := 40) hx hb dX6_set_19 (by decide) (fun c2 => ?_) (fun c2 => ?_)
    · have hw := Eq.mp (if_pos c2) hw
      refine lv_bipush (v := (-2)) hx hb dX6_set_40 (by decide) ?_
      exact W.iret (v := (-2)) hx hb hr (fun t ht _ => ⟨⟨_, (Y0), rfl, ⟨_, rfl, hw⟩, by rw [ht]; exact hP⟩, hS.F ht⟩) hS.2.2 dX6_set_42
    · have hw := Eq.mp (if_neg c2) hw
      refine lv_iload_n hx hb dX6_set_22 rfl (lv_at hl 3 rfl) ?_
      refine lv_iconst (v := 0) hx hb dX6_set_23 (by decide) ?_
      refine lv_iload_n hx hb dX6_set_24 rfl (lv_at hl 2 rfl) ?_
      refine lv_if_ne (tgt := 33) hx hb dX6_set_25 (by decide) (fun c3 => ?_) (fun c3 => ?_)
      · have hw := Eq.mp (if_neg c3) hw
        refine lv_iconst (v := 1) hx hb dX6_set_33 (by decide) ?_
        refine callF (va_runS (As := [.int x3, .int 0, .int 1]) (rest := []) ⟨hx, hb, hml, hown, hW⟩ (c_X6_within l D cI cZ x3 0 1 _ rfl) (cwS0 hW mS_X6_within ml_X6_69 ⟨Nat.le_of_ble_eq_true rfl, Nat.le_of_ble_eq_true rfl⟩) (preS0 hK hN hP hD [] rfl rfl) rfl rfl hl.1 rfl (lv_room (Nat.le_of_ble_eq_true rfl)) dX6_set_34 ⟨Nat.le_refl _, Nat.le_refl _⟩) ?_
        refine W.eq (g2 := F0 m 37 ls [.int (F_X6_within x3 0 1)]) rfl ?_
        refine lv_if_ne (tgt := 43) hx hb dX6_set_37 (by decide) (fun c6 => ?_) (fun c6 => ?_)
        · have hw := Eq.mp (if_neg c6) hw
          refine lv_iload_n hx hb dX6_set_43 rfl (lv_at hl 2 rfl) ?_
          refine lv_if_ne (tgt := 57) hx hb dX6_set_44 (by decide) (fun _ => ?_) (fun c9 => absurd c9 c3)
          refine lv_aload_n hx hb dX6_set_57 rfl (lv_at hl 0 rfl) ?_
          refine va_get (D := D) (ci := 6) (v := .ref (ad 1)) (C := RX6) (T := TX6) (N := 9) hx hb hW inW_X6 hown hK hP 0 rfl rfl 0 (by decide) (hW _ fl_X6_10) (fun _ h9 => h9) rfl dX6_set_58 ?_
          refine va_get (D := D) (ci := 2) (v := .ref (ad 6)) (C := RX2) (T := TX2) (N := 15) hx hb hW inW_X2 hown hK hP 1 rfl rfl 11 (by decide) (hW _ fl_X6_86) (fun _ h9 => h9) rfl dX6_set_61 ?_
          refine lv_astore (lv' := [(4, .ref (ad 6)), (0, .ref (ad 0)), (1, .int x1), (2, .int x2), (3, .int x3)]) hx hb dX6_set_64 hl (by decide) rfl (fun ls hl => ?_)
          refine lv_aload hx hb dX6_set_66 (lv_at hl 0 rfl) ?_
          refine lv_iload_n hx hb dX6_set_68 rfl (lv_at hl 2 rfl) ?_
          refine callF (va_runV (As := [.int x1]) (rest := []) ⟨hx, hb, hml, hown, hW⟩ (c_X3_get__round_11 l D cI cZ ad 1 Y0 x1 _ rfl) (cwV0 hW mV_X3_get ml_X6_89 ⟨Nat.le_of_ble_eq_true rfl, Nat.le_of_ble_eq_true rfl⟩) (preV0 5 rfl rfl hK hN hP hD [1] rfl rfl) rfl rfl hl.1 rfl (lv_room (Nat.le_of_ble_eq_true rfl)) dX6_set_69 ⟨Nat.le_refl _, Nat.le_refl _⟩) ?_
          refine W.eq (g2 := F0 m 72 ls [.int (F_X3_get 6 (Y0.2 11) x1)]) rfl ?_
          refine lv_istore (lv' := [(5, .int (F_X3_get 6 (Y0.2 11) x1)), (4, .ref (ad 6)), (0, .ref (ad 0)), (1, .int x1), (2, .int x2), (3, .int x3)]) hx hb dX6_set_72 hl (by decide) rfl (fun ls hl => ?_)
          refine lv_aload hx hb dX6_set_74 (lv_at hl 1 rfl) ?_
          refine lv_iload_n hx hb dX6_set_76 rfl (lv_at hl 3 rfl) ?_
          refine lv_iload_n hx hb dX6_set_77 rfl (lv_at hl 5 rfl) ?_
          refine callW (va_runV (As := [.int x1, .int x3]) (rest := []) ⟨hx, hb, hml, hown, hW⟩ (c_X3_put__round_11 l D cI cZ ad 1 Y0 x1 x3 _ hw) (cwV0 hW mV_X3_put ml_X6_93 ⟨Nat.le_of_ble_eq_true rfl, Nat.le_of_ble_eq_true rfl⟩) (preV0 5 rfl rfl hK hN hP hD [1] rfl rfl) rfl rfl hl.1 rfl (lv_room (Nat.le_of_ble_eq_true rfl)) dX6_set_78 ⟨Nat.le_refl _, Nat.le_refl _⟩) hP hD hS [1] rfl rfl (fun _ => rfl) (fun v9 u9 H locs hq hP hD hS => ?_)
          obtain ⟨rfl, hw⟩ := hq
          obtain ⟨Z7, rfl⟩ : ∃ z, z = u9 := ⟨_, rfl⟩
          have hP : va_P D classes (jn [xcell ad, rcells cI ad 1 (sA Y0 11 Z7)]) H := hP
          have hD : va_D (cOf (jn [xcell ad, rcells cI ad 1 Y0])) (jn [xcell ad, rcells cI ad 1 (sA Y0 11 Z7)]) := hD
          refine W.eq (g2 := F0 m 81 ls []) rfl ?_
          refine lv_iload hx hb dX6_set_81 (lv_at hl 0 rfl) ?_
          exact W.iret (v := (F_X3_get 6 (Y0.2 11) x1)) hx hb hr (fun t ht _ => ⟨⟨_, ((sA Y0 11 Z7)), rfl, ⟨_, rfl, hw⟩, by rw [ht]; exact hP⟩, hS.F ht⟩) hS.2.2 dX6_set_83
        · have hw := Eq.mp (if_pos c6) hw
          refine lv_bipush (v := (-2)) hx hb dX6_set_40 (by decide) ?_
          exact W.iret (v := (-2)) hx hb hr (fun t ht _ => ⟨⟨_, (Y0), rfl, ⟨_, rfl, hw⟩, by rw [ht]; exact hP⟩, hS.F ht⟩) hS.2.2 dX6_set_42
      · have hw := Eq.mp (if_pos c3) hw
        refine lv_bipush (v := 9) hx hb dX6_set_28 (by decide) ?_
        refine lv_goto (tgt := 34) hx hb dX6_set_30 (by decide) ?_
        refine callF (va_runS (As := [.int x3, .int 0, .int 9]) (rest := []) ⟨hx, hb, hml, hown, hW⟩ (c_X6_within l D cI cZ x3 0 9 _ rfl) (cwS0 hW mS_X6_within ml_X6_69 ⟨Nat.le_of_ble_eq_true rfl, Nat.le_of_ble_eq_true rfl⟩) (preS0 hK hN hP hD [] rfl rfl) rfl rfl hl.1 rfl (lv_room (Nat.le_of_ble_eq_true rfl)) dX6_set_34 ⟨Nat.le_refl _, Nat.le_refl _⟩) ?_
        refine W.eq (g2 := F0 m 37 ls [.int (F_X6_within x3 0 9)]) rfl ?_
        refine lv_if_ne (tgt := 43) hx hb dX6_set_37 (by decide) (fun c4 => ?_) (fun c4 => ?_)
        · have hw := Eq.mp (if_neg c4) hw
          refine lv_iload_n hx hb dX6_set_43 rfl (lv_at hl 2 rfl) ?_
          refine lv_if_ne (tgt := 57) hx hb dX6_set_44 (by decide) (fun c9 => absurd c3 c9) (fun _ => ?_)
          refine lv_aload_n hx hb dX6_set_47 rfl (lv_at hl 0 rfl) ?_
          refine va_get (D := D) (ci := 6) (v := .ref (ad 1)) (C := RX6) (T := TX6) (N := 9) hx hb hW inW_X6 hown hK hP 0 rfl rfl 0 (by decide) (hW _ fl_X6_10) (fun _ h9 => h9) rfl dX6_set_48 ?_
          refine va_get (D := D) (ci := 2) (v := .ref (ad 7)) (C := RX2) (T := TX2) (N := 15) hx hb hW inW_X2 hown hK hP 1 rfl rfl 12 (by decide) (hW _ fl_X6_83) (fun _ h9 => h9) rfl dX6_set_51 ?_
          refine lv_goto (tgt := 64) hx hb dX6_set_54 (by decide) ?_
          refine lv_astore (lv' := [(4, .ref (ad 7)), (0, .ref (ad 0)), (1, .int x1), (2, .int x2), (3, .int x3)]) hx hb dX6_set_64 hl (by decide) rfl (fun ls hl => ?_)
          refine lv_aload hx hb dX6_set_66 (lv_at hl 0 rfl) ?_
          refine lv_iload_n hx hb dX6_set_68 rfl (lv_at hl 2 rfl) ?_
          refine callF (va_runV (As := [.int x1]) (rest := []) ⟨hx, hb, hml, hown, hW⟩ (c_X3_get__round_12 l D cI cZ ad 1 Y0 x1 _ rfl) (cwV0 hW mV_X3_get ml_X6_89 ⟨Nat.le_of_ble_eq_true rfl, Nat.le_of_ble_eq_true rfl⟩) (preV0 6 rfl rfl hK hN hP hD [1] rfl rfl) rfl rfl hl.1 rfl (lv_room (Nat.le_of_ble_eq_true rfl)) dX6_set_69 ⟨Nat.le_refl _, Nat.le_refl _⟩) ?_
          refine W.eq (g2 := F0 m 72 ls [.int (F_X3_get 6 (Y0.2 12) x1)]) rfl ?_
          refine lv_istore (lv' := [(5, .int (F_X3_get 6 (Y0.2 12) x1)), (4, .ref (ad 7)), (0, .ref (ad 0)), (1, .int x1), (2, .int x2), (3, .int x3)]) hx hb dX6_set_72 hl (by decide) rfl (fun ls hl => ?_)
          refine lv_aload hx hb dX6_set_74 (lv_at hl 1 rfl) ?_
          refine lv_iload_n hx hb dX6_set_76 rfl (lv_at hl 3 rfl) ?_
          refine lv_iload_n hx hb dX6_set_77 rfl (lv_at hl 5 rfl) ?_
          refine callW (va_runV (As := [.int x1, .int x3]) (rest := []) ⟨hx, hb, hml, hown, hW⟩ (c_X3_put__round_12 l D cI cZ ad 1 Y0 x1 x3 _ hw) (cwV0 hW mV_X3_put ml_X6_93 ⟨Nat.le_of_ble_eq_true rfl, Nat.le_of_ble_eq_true rfl⟩) (preV0 6 rfl rfl hK hN hP hD [1] rfl rfl) rfl rfl hl.1 rfl (lv_room (Nat.le_of_ble_eq_true rfl)) dX6_set_78 ⟨Nat.le_refl _, Nat.le_refl _⟩) hP hD hS [1] rfl rfl (fun _ => rfl) (fun v9 u9 H locs hq hP hD hS => ?_)
          obtain ⟨rfl, hw⟩ := hq
          obtain ⟨Z5, rfl⟩ : ∃ z, z = u9 := ⟨_, rfl⟩
          have hP : va_P D classes (jn [xcell ad, rcells cI ad 1 (sA Y0 12 Z5)]) H := hP
          have hD : va_D (cOf (jn [xcell ad, rcells cI ad 1 Y0])) (jn [xcell ad, rcells cI ad 1 (sA Y0 12 Z5)]) := hD
          refine W.eq (g2 := F0 m 81 ls []) rfl ?_
          refine lv_iload hx hb dX6_set_81 (lv_at hl 0 rfl) ?_
          exact W.iret (v := (F_X3_get 6 (Y0.2 12) x1)) hx hb hr (fun t ht _ => ⟨⟨_, ((sA Y0 12 Z5)), rfl, ⟨_, rfl, hw⟩, by rw [ht]; exact hP⟩, hS.F ht⟩) hS.2.2 dX6_set_83
        · have hw := Eq.mp (if_pos c4) hw
          refine lv_bipush (v := (-2)) hx hb dX6_set_40 (by decide) ?_
          exact W.iret (v := (-2)) hx hb hr (fun t ht _ => ⟨⟨_, (Y0), rfl, ⟨_, rfl, hw⟩, by rw [ht]; exact hP⟩, hS.F ht⟩) hS.2.2 dX6_set_42
  · have hw := Eq.mp (if_pos c1) hw
    refine lv_iconst (v := (-1)) hx hb dX6_set_11 (by decide) ?_
    exact W.iret (v := (-1)) hx hb hr (fun t ht _ => ⟨⟨_, (Y0), rfl, ⟨_, rfl, hw⟩, by rw [ht]; exact hP⟩, hS.F ht⟩) hS.2.2 dX6_set_12
set_option maxHeartbeats 4000000 in
set_option maxRecDepth 100000 in
theorem c_X6_say (l : Launch) (D : va_G) (cI cZ : ClassId) (ad : Nat → Nat) (Y5 : St) (x1 : Int32) (k : Int32 → St → Prop) (hw : wp_X6_say Y5 x1 k) : KW l yX6_say cX6_say 2 (some .int) 2 43 D cI cZ [.ref (ad 0), .int x1] [xcell ad, pcells cI ad 71 Y5] (fun v (u : St) => ∃ r, v = some (.int r) ∧ k r u) (fun u : St => [xcell ad, pcells cI ad 71 u]) := by
  refine Met.ofE (by decide +kernel) (Nat.le_of_ble_eq_true rfl) ?_
  intro p e s m below meth c E ls hl
  obtain ⟨hx, hb, hr, hml, hW, hown, hlocks, hP, hK, hD, hN⟩ := E
  have hl : lv_has ls 2 [(0, .ref (ad 0)), (1, .int x1)] := hl
  have hS : va_S (cOf (jn [xcell ad, pcells cI ad 71 Y5])) s.heap s.heap [] := va_S.rf
  have hw : (if (F_X6_within x1 33 126) = 0 then (k (-2) Y5) else (if (Y5.1 1) < 60 then (wp_X1_add Y5 x1 (fun (v3 : Int32) (Z4 : St) => (k v3 Z4))) else (k (-4) Y5))) := hw
  refine lv_iload_n hx hb dX6_say_0 rfl (lv_at hl 1 rfl) ?_
  refine lv_bipush (v := 33) hx hb dX6_say_1 (by decide) ?_
  refine lv_bipush (v := 126) hx hb dX6_say_3 (by decide) ?_
  refine callF (va_runS (As := [.int x1, .int 33, .int 126]) (rest := []) ⟨hx, hb, hml, hown, hW⟩ (c_X6_within l D cI cZ x1 33 126 _ rfl) (cwS0 hW mS_X6_within ml_X6_69 ⟨Nat.le_of_ble_eq_true rfl, Nat.le_of_ble_eq_true rfl⟩) (preS0 hK hN hP hD [] rfl rfl) rfl rfl hl.1 rfl (lv_room (Nat.le_of_ble_eq_true rfl)) dX6_say_5 ⟨Nat.le_refl _, Nat.le_refl _⟩) ?_
  refine W.eq (g2 := F0 m 8 ls [.int (F_X6_within x1 33 126)]) rfl ?_
  refine lv_if_ne (tgt := 14) hx hb dX6_say_8 (by decide) (fun c1 => ?_) (fun c1 => ?_)
  · have hw := Eq.mp (if_neg c1) hw
    refine lv_aload_n hx hb dX6_say_14 rfl (lv_at hl 0 rfl) ?_
    refine va_get (D := D) (ci := 6) (v := .ref (ad 71)) (C := RX6) (T := TX6) (N := 9) hx hb hW inW_X6 hown hK hP 0 rfl rfl 5 (by decide) (hW _ fl_X6_37) (fun _ h9 => h9) rfl dX6_say_15 ?_
    refine va_get (D := D) (ci := 1) (v := .int (Y5.1 1)) (C := RX1) (T := TX1) (N := 2) hx hb hW inW_X1 hown hK hP 1 rfl rfl 1 (by decide) (hW _ fl_X6_97) (fun _ h9 => h9) rfl dX6_say_18 ?_
    refine lv_bipush (v := 60) hx hb dX6_say_21 (by decide) ?_
    refine lv_icmp_lt (tgt := 29) hx hb dX6_say_23 (by decide) (fun c2 => ?_) (fun c2 => ?_)
    · have hw := Eq.mp (if_pos c2) hw
      refine lv_aload_n hx hb dX6_say_29 rfl (lv_at hl 0 rfl) ?_
      refine va_get (D := D) (ci := 6) (v := .ref (ad 71)) (C := RX6) (T := TX6) (N := 9) hx hb hW inW_X6 hown hK hP 0 rfl rfl 5 (by decide) (hW _ fl_X6_37) (fun _ h9 => h9) rfl dX6_say_30 ?_
      refine lv_iload_n hx hb dX6_say_33 rfl (lv_at hl 1 rfl) ?_
      refine callW (va_runV (As := [.int x1]) (rest := []) ⟨hx, hb, hml, hown, hW⟩ (c_X1_add l D cI cZ ad 71 Y5 x1 _ hw) (cwV0 hW mV_X1_add ml_X6_100 ⟨Nat.le_of_ble_eq_true rfl, Nat.le_of_ble_eq_true rfl⟩) (preV0 0 rfl rfl hK hN hP hD [1] rfl rfl) rfl rfl hl.1 rfl (lv_room (Nat.le_of_ble_eq_true rfl)) dX6_say_34 ⟨Nat.le_refl _, Nat.le_refl _⟩) hP hD hS [1] rfl rfl (fun _ => rfl) (fun v9 u9 H locs hq hP hD hS => ?_)
      obtain ⟨v3, rfl, hw⟩ := hq
      obtain ⟨Z4, rfl⟩ : ∃ z, z = u9 := ⟨_, rfl⟩
      have hP : va_P D classes (jn [xcell ad, pcells cI ad 71 Z4]) H := hP
      have hD : va_D (cOf (jn [xcell ad, pcells cI ad 71 Y5])) (jn [xcell ad, pcells cI ad 71 Z4]) := hD
      refine W.eq (g2 := F0 m 37 ls [.int v3]) rfl ?_
      exact W.iret (v := v3) hx hb hr (fun t ht _ => ⟨⟨_, (Z4), rfl, ⟨_, rfl, hw⟩, by rw [ht]; exact hP⟩, hS.F ht⟩) hS.2.2 dX6_say_37
    · have hw := Eq.mp (if_neg c2) hw
      refine lv_bipush (v := (-4)) hx hb dX6_say_26 (by decide) ?_
      exact W.iret (v := (-4)) hx hb hr (fun t ht _ => ⟨⟨_, (Y5), rfl, ⟨_, rfl, hw⟩, by rw [ht]; exact hP⟩, hS.F ht⟩) hS.2.2 dX6_say_28
  · have hw := Eq.mp (if_pos c1) hw
    refine lv_bipush (v := (-2)) hx hb dX6_say_11 (by decide) ?_
    exact W.iret (v := (-2)) hx hb hr (fun t ht _ => ⟨⟨_, (Y5), rfl, ⟨_, rfl, hw⟩, by rw [ht]; exact hP⟩, hS.F ht⟩) hS.2.2 dX6_say_13
set_option maxHeartbeats 4000000 in
set_option maxRecDepth 100000 in
theorem c_X6_wipe (l : Launch) (D : va_G) (cI cZ : ClassId) (ad : Nat → Nat) (Y5 : St) (k : Int32 → St → Prop) (hw : wp_X6_wipe Y5 k) : KW l yX6_wipe cX6_wipe 1 (some .int) 1 21 D cI cZ [.ref (ad 0)] [xcell ad, pcells cI ad 71 Y5] (fun v (u : St) => ∃ r, v = some (.int r) ∧ k r u) (fun u : St => [xcell ad, pcells cI ad 71 u]) := by
  refine Met.ofE (by decide +kernel) (Nat.le_of_ble_eq_true rfl) ?_
  intro p e s m below meth c E ls hl
  obtain ⟨hx, hb, hr, hml, hW, hown, hlocks, hP, hK, hD, hN⟩ := E
  have hl : lv_has ls 1 [(0, .ref (ad 0))] := hl
  have hS : va_S (cOf (jn [xcell ad, pcells cI ad 71 Y5])) s.heap s.heap [] := va_S.rf
  have hw : (wp_X1_clear Y5 (fun (v1 : Int32) (Z2 : St) => (k v1 Z2))) := hw
  refine lv_aload_n hx hb dX6_wipe_0 rfl (lv_at hl 0 rfl) ?_
  refine va_get (D := D) (ci := 6) (v := .ref (ad 71)) (C := RX6) (T := TX6) (N := 9) hx hb hW inW_X6 hown hK hP 0 rfl rfl 5 (by decide) (hW _ fl_X6_37) (fun _ h9 => h9) rfl dX6_wipe_1 ?_
  refine callW (va_runV (As := []) (rest := []) ⟨hx, hb, hml, hown, hW⟩ (c_X1_clear l D cI cZ ad 71 Y5 _ hw) (cwV0 hW mV_X1_clear ml_X6_103 ⟨Nat.le_of_ble_eq_true rfl, Nat.le_of_ble_eq_true rfl⟩) (preV0 0 rfl rfl hK hN hP hD [1] rfl rfl) rfl rfl hl.1 rfl (lv_room (Nat.le_of_ble_eq_true rfl)) dX6_wipe_4 ⟨Nat.le_refl _, Nat.le_refl _⟩) hP hD hS [1] rfl rfl (fun _ => rfl) (fun v9 u9 H locs hq hP hD hS => ?_)
  obtain ⟨v1, rfl, hw⟩ := hq
  obtain ⟨Z2, rfl⟩ : ∃ z, z = u9 := ⟨_, rfl⟩
  have hP : va_P D classes (jn [xcell ad, pcells cI ad 71 Z2]) H := hP
  have hD : va_D (cOf (jn [xcell ad, pcells cI ad 71 Y5])) (jn [xcell ad, pcells cI ad 71 Z2]) := hD
  refine W.eq (g2 := F0 m 7 ls [.int v1]) rfl ?_
  exact W.iret (v := v1) hx hb hr (fun t ht _ => ⟨⟨_, (Z2), rfl, ⟨_, rfl, hw⟩, by rw [ht]; exact hP⟩, hS.F ht⟩) hS.2.2 dX6_wipe_7
set_option maxHeartbeats 4000000 in
set_option maxRecDepth 100000 in
theorem c_X6_fault (l : Launch) (D : va_G) (cI cZ : ClassId) (ad : Nat → Nat) (Y0 : St) (Y5 : St) (k : Int32 → Prop) (hw : wp_X6_fault Y0 Y5 k) : KR l yX6_fault cX6_fault 1 (some .int) 2 44 D cI cZ [.ref (ad 0)] [xcell ad, rcells cI ad 1 Y0, pcells cI ad 71 Y5] (fun v => ∃ r, v = some (.int r) ∧ k r) := by
  refine Met.ofE (by decide +kernel) (Nat.le_of_ble_eq_true rfl) ?_
  intro p e s m below meth c E ls hl
  obtain ⟨hx, hb, hr, hml, hW, hown, hlocks, hP, hK, hD, hN⟩ := E
  have hl : lv_has ls 1 [(0, .ref (ad 0))] := hl
  have hw : (wp_X1_firstFault Y5 (Y0.1 0) (fun (v1 : Int32) => (k v1))) := hw
  refine lv_aload_n hx hb dX6_fault_0 rfl (lv_at hl 0 rfl) ?_
  refine va_get (D := D) (ci := 6) (v := .ref (ad 71)) (C := RX6) (T := TX6) (N := 9) hx hb hW inW_X6 hown hK hP 0 rfl rfl 5 (by decide) (hW _ fl_X6_37) (fun _ h9 => h9) rfl dX6_fault_1 ?_
  refine lv_aload_n hx hb dX6_fault_4 rfl (lv_at hl 0 rfl) ?_
  refine va_get (D := D) (ci := 6) (v := .ref (ad 1)) (C := RX6) (T := TX6) (N := 9) hx hb hW inW_X6 hown hK hP 0 rfl rfl 0 (by decide) (hW _ fl_X6_10) (fun _ h9 => h9) rfl dX6_fault_5 ?_
  refine va_get (D := D) (ci := 2) (v := .int (Y0.1 0)) (C := RX2) (T := TX2) (N := 15) hx hb hW inW_X2 hown hK hP 1 rfl rfl 0 (by decide) (hW _ fl_X6_73) (fun _ h9 => h9) rfl dX6_fault_8 ?_
  refine callR (va_runV (As := [.int (Y0.1 0)]) (rest := []) ⟨hx, hb, hml, hown, hW⟩ (c_X1_firstFault l D cI cZ ad 71 Y5 (Y0.1 0) _ hw) (cwV0 hW mV_X1_firstFault ml_X6_107 ⟨Nat.le_of_ble_eq_true rfl, Nat.le_of_ble_eq_true rfl⟩) (preV0 0 rfl rfl hK hN hP hD [2] rfl rfl) rfl rfl hl.1 rfl (lv_room (Nat.le_of_ble_eq_true rfl)) dX6_fault_11 ⟨Nat.le_refl _, Nat.le_refl _⟩) (fun v9 hq => ?_)
  obtain ⟨v1, rfl, hw⟩ := hq
  refine W.eq (g2 := F0 m 14 ls [.int v1]) rfl ?_
  exact W.iret (v := v1) hx hb hr (fun t ht _ => ⟨⟨_, rfl, ⟨_, rfl, hw⟩⟩, ht⟩) (fun _ h => by cases h) dX6_fault_14
set_option maxHeartbeats 4000000 in
set_option maxRecDepth 100000 in
theorem c_X6_judge (l : Launch) (D : va_G) (cI cZ : ClassId) (ad : Nat → Nat) (Y0 : St) (Y1 : St) (Y5 : St) (Y6 : St) (x1 : Int32) (k : Int32 → St → St → Prop) (hw : wp_X6_judge Y0 Y1 Y5 Y6 x1 k) : KW l yX6_judge cX6_judge 2 (some .int) 5 114 D cI cZ [.ref (ad 0), .int x1] [xcell ad, rcells cI ad 1 Y0, rcells cI ad 18 Y1, pcells cI ad 71 Y5, ycells ad 74 Y6] (fun v (u : St × St) => ∃ r, v = some (.int r) ∧ k r u.1 u.2) (fun u : St × St => [xcell ad, rcells cI ad 1 Y0, rcells cI ad 18 u.1, pcells cI ad 71 Y5, ycells ad 74 u.2]) := by
  refine Met.ofE (by decide +kernel) (Nat.le_of_ble_eq_true rfl) ?_
  intro p e s m below meth c E ls hl
  obtain ⟨hx, hb, hr, hml, hW, hown, hlocks, hP, hK, hD, hN⟩ := E
  have hl : lv_has ls 2 [(0, .ref (ad 0)), (1, .int x1)] := hl
  have hS : va_S (cOf (jn [xcell ad, rcells cI ad 1 Y0, rcells cI ad 18 Y1, pcells cI ad 71 Y5, ycells ad 74 Y6])) s.heap s.heap [] := va_S.rf
  have hw : (if (F_X6_within x1 0 1) = 0 then (k (-2) Y1 Y6) else (wp_X1_firstFault Y5 (Y0.1 0) (fun (v2 : Int32) => (if v2 = (-6) then (wp_X5_canBe Y6 Y0 Y1 Y5 (fun (v4 : Int32) (Z5 : St) (Z6 : St) => (if v4 = 0 then (if x1 = 0 then (k (Z5.1 0) Z6 Z5) else (k (Z5.1 1) Z6 Z5)) else (k (-6) Z6 Z5)))) else (k (-5) Y1 Y6))))) := hw
  refine lv_iload_n hx hb dX6_judge_0 rfl (lv_at hl 1 rfl) ?_
  refine lv_iconst (v := 0) hx hb dX6_judge_1 (by decide) ?_
  refine lv_iconst (v := 1) hx hb dX6_judge_2 (by decide) ?_
  refine callF (va_runS (As := [.int x1, .int 0, .int 1]) (rest := []) ⟨hx, hb, hml, hown, hW⟩ (c_X6_within l D cI cZ x1 0 1 _ rfl) (cwS0 hW mS_X6_within ml_X6_69 ⟨Nat.le_of_ble_eq_true rfl, Nat.le_of_ble_eq_true rfl⟩) (preS0 hK hN hP hD [] rfl rfl) rfl rfl hl.1 rfl (lv_room (Nat.le_of_ble_eq_true rfl)) dX6_judge_3 ⟨Nat.le_refl _, Nat.le_refl _⟩) ?_
  refine W.eq (g2 := F0 m 6 ls [.int (F_X6_within x1 0 1)]) rfl ?_
  refine lv_if_ne (tgt := 12) hx hb dX6_judge_6 (by decide) (fun c1 => ?_) (fun c1 => ?_)
  · have hw := Eq.mp (if_neg c1) hw
    refine lv_aload_n hx hb dX6_judge_12 rfl (lv_at hl 0 rfl) ?_
    refine va_get (D := D) (ci := 6) (v := .ref (ad 71)) (C := RX6) (T := TX6) (N := 9) hx hb hW inW_X6 hown hK hP 0 rfl rfl 5 (by decide) (hW _ fl_X6_37) (fun _ h9 => h9) rfl dX6_judge_13 ?_
    refine lv_aload_n hx hb dX6_judge_16 rfl (lv_at hl 0 rfl) ?_
    refine va_get (D := D) (ci := 6) (v := .ref (ad 1)) (C := RX6) (T := TX6) (N := 9) hx hb hW inW_X6 hown hK hP 0 rfl rfl 0 (by decide) (hW _ fl_X6_10) (fun _ h9 => h9) rfl dX6_judge_17 ?_
    refine va_get (D := D) (ci := 2) (v := .int (Y0.1 0)) (C := RX2) (T := TX2) (N := 15) hx hb hW inW_X2 hown hK hP 1 rfl rfl 0 (by decide) (hW _ fl_X6_73) (fun _ h9 => h9) rfl dX6_judge_20 ?_
    refine callR (va_runV (As := [.int (Y0.1 0)]) (rest := []) ⟨hx, hb, hml, hown, hW⟩ (c_X1_firstFault l D cI cZ ad 71 Y5 (Y0.1 0) _ hw) (cwV0 hW mV_X1_firstFault ml_X6_107 ⟨Nat.le_of_ble_eq_true rfl, Nat.le_of_ble_eq_true rfl⟩) (preV0 0 rfl rfl hK hN hP hD [3] rfl rfl) rfl rfl hl.1 rfl (lv_room (Nat.le_of_ble_eq_true rfl)) dX6_judge_23 ⟨Nat.le_refl _, Nat.le_refl _⟩) (fun v9 hq => ?_)
    obtain ⟨v2, rfl, hw⟩ := hq
    refine W.eq (g2 := F0 m 26 ls [.int v2]) rfl ?_
    refine lv_bipush (v := (-6)) hx hb dX6_judge_26 (by decide) ?_
    refine lv_icmp_eq (tgt := 34) hx hb dX6_judge_28 (by decide) (fun c3 => ?_) (fun c3 => ?_)
    · have hw := Eq.mp (if_pos c3) hw
      refine lv_aload_n hx hb dX6_judge_34 rfl (lv_at hl 0 rfl) ?_
      refine va_get (D := D) (ci := 6) (v := .ref (ad 74)) (C := RX6) (T := TX6) (N := 9) hx hb hW inW_X6 hown hK hP 0 rfl rfl 6 (by decide) (hW _ fl_X6_44) (fun _ h9 => h9) rfl dX6_judge_35 ?_
      refine lv_aload_n hx hb dX6_judge_38 rfl (lv_at hl 0 rfl) ?_
      refine va_get (D := D) (ci := 6) (v := .ref (ad 1)) (C := RX6) (T := TX6) (N := 9) hx hb hW inW_X6 hown hK hP 0 rfl rfl 0 (by decide) (hW _ fl_X6_10) (fun _ h9 => h9) rfl dX6_judge_39 ?_
      refine lv_aload_n hx hb dX6_judge_42 rfl (lv_at hl 0 rfl) ?_
      refine va_get (D := D) (ci := 6) (v := .ref (ad 18)) (C := RX6) (T := TX6) (N := 9) hx hb hW inW_X6 hown hK hP 0 rfl rfl 1 (by decide) (hW _ fl_X6_16) (fun _ h9 => h9) rfl dX6_judge_43 ?_
      refine lv_aload_n hx hb dX6_judge_46 rfl (lv_at hl 0 rfl) ?_
      refine va_get (D := D) (ci := 6) (v := .ref (ad 71)) (C := RX6) (T := TX6) (N := 9) hx hb hW inW_X6 hown hK hP 0 rfl rfl 5 (by decide) (hW _ fl_X6_37) (fun _ h9 => h9) rfl dX6_judge_47 ?_
      refine callW (va_runV (As := [.ref (ad 1), .ref (ad 18), .ref (ad 71)]) (rest := []) ⟨hx, hb, hml, hown, hW⟩ (c_X5_canBe l D cI cZ ad 74 Y6 1 Y0 18 Y1 71 Y5 _ hw) (cwV0 hW mV_X5_canBe ml_X6_110 ⟨Nat.le_of_ble_eq_true rfl, Nat.le_of_ble_eq_true rfl⟩) (preV0 0 rfl rfl hK hN hP hD [4, 1, 2, 3] rfl rfl) rfl rfl hl.1 rfl (lv_room (Nat.le_of_ble_eq_true rfl)) dX6_judge_50 ⟨Nat.le_refl _, Nat.le_refl _⟩) hP hD hS [4, 1, 2, 3] rfl rfl (fun _ => rfl) (fun v9 u9 H locs hq hP hD hS => ?_)
      obtain ⟨v4, rfl, hw⟩ := hq
      obtain ⟨Z5, Z6⟩ := u9
      have hP : va_P D classes (jn [xcell ad, rcells cI ad 1 Y0, rcells cI ad 18 Z6, pcells cI ad 71 Y5, ycells ad 74 Z5]) H := hP
      have hD : va_D (cOf (jn [xcell ad, rcells cI ad 1 Y0, rcells cI ad 18 Y1, pcells cI ad 71 Y5, ycells ad 74 Y6])) (jn [xcell ad, rcells cI ad 1 Y0, rcells cI ad 18 Z6, pcells cI ad 71 Y5, ycells ad 74 Z5]) := hD
      refine W.eq (g2 := F0 m 53 ls [.int v4]) rfl ?_
      refine lv_if_eq (tgt := 59) hx hb dX6_judge_53 (by decide) (fun c7 => ?_) (fun c7 => ?_)
      · have hw := Eq.mp (if_pos c7) hw
        refine lv_iload_n hx hb dX6_judge_59 rfl (lv_at hl 1 rfl) ?_
        refine lv_if_ne (tgt := 73) hx hb dX6_judge_60 (by decide) (fun c8 => ?_) (fun c8 => ?_)
        · have hw := Eq.mp (if_neg c8) hw
          refine lv_aload_n hx hb dX6_judge_73 rfl (lv_at hl 0 rfl) ?_
          refine va_get (D := D) (ci := 6) (v := .ref (ad 74)) (C := RX6) (T := TX6) (N := 9) hx hb hW inW_X6 hown hK hP 0 rfl rfl 6 (by decide) (hW _ fl_X6_44) (fun _ h9 => h9) rfl dX6_judge_74 ?_
          refine va_get (D := D) (ci := 5) (v := .int (Z5.1 1)) (C := RX5) (T := TX5) (N := 2) hx hb hW inW_X5 hown hK hP 38 rfl rfl 1 (by decide) (hW _ fl_X6_117) (fun _ h9 => h9) rfl dX6_judge_77 ?_
          exact W.iret (v := (Z5.1 1)) hx hb hr (fun t ht _ => ⟨⟨_, (Z6, Z5), rfl, ⟨_, rfl, hw⟩, by rw [ht]; exact hP⟩, hS.F ht⟩) hS.2.2 dX6_judge_80
        · have hw := Eq.mp (if_pos c8) hw
          refine lv_aload_n hx hb dX6_judge_63 rfl (lv_at hl 0 rfl) ?_
          refine va_get (D := D) (ci := 6) (v := .ref (ad 74)) (C := RX6) (T := TX6) (N := 9) hx hb hW inW_X6 hown hK hP 0 rfl rfl 6 (by decide) (hW _ fl_X6_44) (fun _ h9 => h9) rfl dX6_judge_64 ?_
          refine va_get (D := D) (ci := 5) (v := .int (Z5.1 0)) (C := RX5) (T := TX5) (N := 2) hx hb hW inW_X5 hown hK hP 38 rfl rfl 0 (by decide) (hW _ fl_X6_114) (fun _ h9 => h9) rfl dX6_judge_67 ?_
          refine lv_goto (tgt := 80) hx hb dX6_judge_70 (by decide) ?_
          exact W.iret (v := (Z5.1 0)) hx hb hr (fun t ht _ => ⟨⟨_, (Z6, Z5), rfl, ⟨_, rfl, hw⟩, by rw [ht]; exact hP⟩, hS.F ht⟩) hS.2.2 dX6_judge_80
      · have hw := Eq.mp (if_neg c7) hw
        refine lv_bipush (v := (-6)) hx hb dX6_judge_56 (by decide) ?_
        exact W.iret (v := (-6)) hx hb hr (fun t ht _ => ⟨⟨_, (Z6, Z5), rfl, ⟨_, rfl, hw⟩, by rw [ht]; exact hP⟩, hS.F ht⟩) hS.2.2 dX6_judge_58
    · have hw := Eq.mp (if_neg c3) hw
      refine lv_bipush (v := (-5)) hx hb dX6_judge_31 (by decide) ?_
      exact W.iret (v := (-5)) hx hb hr (fun t ht _ => ⟨⟨_, (Y1, Y6), rfl, ⟨_, rfl, hw⟩, by rw [ht]; exact hP⟩, hS.F ht⟩) hS.2.2 dX6_judge_33
  · have hw := Eq.mp (if_pos c1) hw
    refine lv_bipush (v := (-2)) hx hb dX6_judge_9 (by decide) ?_
    exact W.iret (v := (-2)) hx hb hr (fun t ht _ => ⟨⟨_, (Y1, Y6), rfl, ⟨_, rfl, hw⟩, by rw [ht]; exact hP⟩, hS.F ht⟩) hS.2.2 dX6_judge_11
set_option maxHeartbeats 4000000 in
set_option maxRecDepth 100000 in
theorem c_X6_yearsCanBe (l : Launch) (D : va_G) (cI cZ : ClassId) (ad : Nat → Nat) (Y0 : St) (Y1 : St) (Y5 : St) (Y6 : St) (k : Int32 → St → St → Prop) (hw : wp_X6_yearsCanBe Y0 Y1 Y5 Y6 k) : KW l yX6_yearsCanBe cX6_yearsCanBe 1 (some .boolean) 5 114 D cI cZ [.ref (ad 0)] [xcell ad, rcells cI ad 1 Y0, rcells cI ad 18 Y1, pcells cI ad 71 Y5, ycells ad 74 Y6] (fun v (u : St × St) => ∃ r, v = some (.int r) ∧ k r u.1 u.2) (fun u : St × St => [xcell ad, rcells cI ad 1 Y0, rcells cI ad 18 u.1, pcells cI ad 71 Y5, ycells ad 74 u.2]) := by
  refine Met.ofE (by decide +kernel) (Nat.le_of_ble_eq_true rfl) ?_
  intro p e s m below meth c E ls hl
  obtain ⟨hx, hb, hr, hml, hW, hown, hlocks, hP, hK, hD, hN⟩ := E
  have hl : lv_has ls 1 [(0, .ref (ad 0))] := hl
  have hS : va_S (cOf (jn [xcell ad, rcells cI ad 1 Y0, rcells cI ad 18 Y1, pcells cI ad 71 Y5, ycells ad 74 Y6])) s.heap s.heap [] := va_S.rf
  have hw : (wp_X1_firstFault Y5 (Y0.1 0) (fun (v1 : Int32) => (if v1 = (-6) then (wp_X5_canBe Y6 Y0 Y1 Y5 (fun (v3 : Int32) (Z4 : St) (Z5 : St) => (if v3 = 0 then (k 0 Z5 Z4) else (k 1 Z5 Z4)))) else (k 0 Y1 Y6)))) := hw
  refine lv_aload_n hx hb dX6_yearsCanBe_0 rfl (lv_at hl 0 rfl) ?_
  refine va_get (D := D) (ci := 6) (v := .ref (ad 71)) (C := RX6) (T := TX6) (N := 9) hx hb hW inW_X6 hown hK hP 0 rfl rfl 5 (by decide) (hW _ fl_X6_37) (fun _ h9 => h9) rfl dX6_yearsCanBe_1 ?_
  refine lv_aload_n hx hb dX6_yearsCanBe_4 rfl (lv_at hl 0 rfl) ?_
  refine va_get (D := D) (ci := 6) (v := .ref (ad 1)) (C := RX6) (T := TX6) (N := 9) hx hb hW inW_X6 hown hK hP 0 rfl rfl 0 (by decide) (hW _ fl_X6_10) (fun _ h9 => h9) rfl dX6_yearsCanBe_5 ?_
  refine va_get (D := D) (ci := 2) (v := .int (Y0.1 0)) (C := RX2) (T := TX2) (N := 15) hx hb hW inW_X2 hown hK hP 1 rfl rfl 0 (by decide) (hW _ fl_X6_73) (fun _ h9 => h9) rfl dX6_yearsCanBe_8 ?_
  refine callR (va_runV (As := [.int (Y0.1 0)]) (rest := []) ⟨hx, hb, hml, hown, hW⟩ (c_X1_firstFault l D cI cZ ad 71 Y5 (Y0.1 0) _ hw) (cwV0 hW mV_X1_firstFault ml_X6_107 ⟨Nat.le_of_ble_eq_true rfl, Nat.le_of_ble_eq_true rfl⟩) (preV0 0 rfl rfl hK hN hP hD [3] rfl rfl) rfl rfl hl.1 rfl (lv_room (Nat.le_of_ble_eq_true rfl)) dX6_yearsCanBe_11 ⟨Nat.le_refl _, Nat.le_refl _⟩) (fun v9 hq => ?_)
  obtain ⟨v1, rfl, hw⟩ := hq
  refine W.eq (g2 := F0 m 14 ls [.int v1]) rfl ?_
  refine lv_bipush (v := (-6)) hx hb dX6_yearsCanBe_14 (by decide) ?_
  refine lv_icmp_ne (tgt := 45) hx hb dX6_yearsCanBe_16 (by decide) (fun c2 => ?_) (fun c2 => ?_)
  · have hw := Eq.mp (if_neg c2) hw
    refine lv_iconst (v := 0) hx hb dX6_yearsCanBe_45 (by decide) ?_
    exact W.zret (v := 0) hx hb hr rfl (fun t ht _ => ⟨⟨_, (Y1, Y6), rfl, ⟨_, rfl, hw⟩, by rw [ht]; exact hP⟩, hS.F ht⟩) hS.2.2 dX6_yearsCanBe_46
  · have hw := Eq.mp (if_pos c2) hw
    refine lv_aload_n hx hb dX6_yearsCanBe_19 rfl (lv_at hl 0 rfl) ?_
    refine va_get (D := D) (ci := 6) (v := .ref (ad 74)) (C := RX6) (T := TX6) (N := 9) hx hb hW inW_X6 hown hK hP 0 rfl rfl 6 (by decide) (hW _ fl_X6_44) (fun _ h9 => h9) rfl dX6_yearsCanBe_20 ?_
    refine lv_aload_n hx hb dX6_yearsCanBe_23 rfl (lv_at hl 0 rfl) ?_
    refine va_get (D := D) (ci := 6) (v := .ref (ad 1)) (C := RX6) (T := TX6) (N := 9) hx hb hW inW_X6 hown hK hP 0 rfl rfl 0 (by decide) (hW _ fl_X6_10) (fun _ h9 => h9) rfl dX6_yearsCanBe_24 ?_
    refine lv_aload_n hx hb dX6_yearsCanBe_27 rfl (lv_at hl 0 rfl) ?_
    refine va_get (D := D) (ci := 6) (v := .ref (ad 18)) (C := RX6) (T := TX6) (N := 9) hx hb hW inW_X6 hown hK hP 0 rfl rfl 1 (by decide) (hW _ fl_X6_16) (fun _ h9 => h9) rfl dX6_yearsCanBe_28 ?_
    refine lv_aload_n hx hb dX6_yearsCanBe_31 rfl (lv_at hl 0 rfl) ?_
    refine va_get (D := D) (ci := 6) (v := .ref (ad 71)) (C := RX6) (T := TX6) (N := 9) hx hb hW inW_X6 hown hK hP 0 rfl rfl 5 (by decide) (hW _ fl_X6_37) (fun _ h9 => h9) rfl dX6_yearsCanBe_32 ?_
    refine callW (va_runV (As := [.ref (ad 1), .ref (ad 18), .ref (ad 71)]) (rest := []) ⟨hx, hb, hml, hown, hW⟩ (c_X5_canBe l D cI cZ ad 74 Y6 1 Y0 18 Y1 71 Y5 _ hw) (cwV0 hW mV_X5_canBe ml_X6_110 ⟨Nat.le_of_ble_eq_true rfl, Nat.le_of_ble_eq_true rfl⟩) (preV0 0 rfl rfl hK hN hP hD [4, 1, 2, 3] rfl rfl) rfl rfl hl.1 rfl (lv_room (Nat.le_of_ble_eq_true rfl)) dX6_yearsCanBe_35 ⟨Nat.le_refl _, Nat.le_refl _⟩) hP hD hS [4, 1, 2, 3] rfl rfl (fun _ => rfl) (fun v9 u9 H locs hq hP hD hS => ?_)
    obtain ⟨v3, rfl, hw⟩ := hq
    obtain ⟨Z4, Z5⟩ := u9
    have hP : va_P D classes (jn [xcell ad, rcells cI ad 1 Y0, rcells cI ad 18 Z5, pcells cI ad 71 Y5, ycells ad 74 Z4]) H := hP
    have hD : va_D (cOf (jn [xcell ad, rcells cI ad 1 Y0, rcells cI ad 18 Y1, pcells cI ad 71 Y5, ycells ad 74 Y6])) (jn [xcell ad, rcells cI ad 1 Y0, rcells cI ad 18 Z5, pcells cI ad 71 Y5, ycells ad 74 Z4]) := hD
    refine W.eq (g2 := F0 m 38 ls [.int v3]) rfl ?_
    refine lv_if_eq (tgt := 45) hx hb dX6_yearsCanBe_38 (by decide) (fun c6 => ?_) (fun c6 => ?_)
    · have hw := Eq.mp (if_pos c6) hw
      refine lv_iconst (v := 0) hx hb dX6_yearsCanBe_45 (by decide) ?_
      exact W.zret (v := 0) hx hb hr rfl (fun t ht _ => ⟨⟨_, (Z5, Z4), rfl, ⟨_, rfl, hw⟩, by rw [ht]; exact hP⟩, hS.F ht⟩) hS.2.2 dX6_yearsCanBe_46
    · have hw := Eq.mp (if_neg c6) hw
      refine lv_iconst (v := 1) hx hb dX6_yearsCanBe_41 (by decide) ?_
      refine lv_goto (tgt := 46) hx hb dX6_yearsCanBe_42 (by decide) ?_
      exact W.zret (v := 1) hx hb hr rfl (fun t ht _ => ⟨⟨_, (Z5, Z4), rfl, ⟨_, rfl, hw⟩, by rw [ht]; exact hP⟩, hS.F ht⟩) hS.2.2 dX6_yearsCanBe_46
set_option maxHeartbeats 4000000 in
set_option maxRecDepth 100000 in
theorem c_X6_done (l : Launch) (D : va_G) (cI cZ : ClassId) (ad : Nat → Nat) (Y0 : St) (Y1 : St) (Y5 : St) (Y6 : St) (k : Int32 → St → St → St → St → Prop) (hw : wp_X6_done Y0 Y1 Y5 Y6 k) : KW l yX6_done cX6_done 1 (some .int) 6 134 D cI cZ [.ref (ad 0)] [xcell ad, rcells cI ad 1 Y0, rcells cI ad 18 Y1, pcells cI ad 71 Y5, ycells ad 74 Y6] (fun v (u : St × St × St × St) => ∃ r, v = some (.int r) ∧ k r u.1 u.2.1 u.2.2.1 u.2.2.2) (fun u : St × St × St × St => [xcell ad, rcells cI ad 1 u.1, rcells cI ad 18 u.2.1, pcells cI ad 71 u.2.2.1, ycells ad 74 u.2.2.2]) := by
  refine Met.ofE (by decide +kernel) (Nat.le_of_ble_eq_true rfl) ?_
  intro p e s m below meth c E ls hl
  obtain ⟨hx, hb, hr, hml, hW, hown, hlocks, hP, hK, hD, hN⟩ := E
  have hl : lv_has ls 1 [(0, .ref (ad 0))] := hl
  have hS : va_S (cOf (jn [xcell ad, rcells cI ad 1 Y0, rcells cI ad 18 Y1, pcells cI ad 71 Y5, ycells ad 74 Y6])) s.heap s.heap [] := va_S.rf
  have hw : (wp_X6_yearsCanBe Y0 Y1 Y5 Y6 (fun (v1 : Int32) (Z2 : St) (Z3 : St) => (if v1 = 0 then (k (-5) Y0 Z2 Y5 Z3) else (wp_X2_takeOver Y0 Z2 (fun (Z5 : St) => (wp_X1_clear Y5 (fun (v6 : Int32) (Z7 : St) => (k (Z3.1 0) Z5 Z2 Z7 Z3)))))))) := hw
  refine lv_aload_n hx hb dX6_done_0 rfl (lv_at hl 0 rfl) ?_
  refine callW (va_runV (As := []) (rest := []) ⟨hx, hb, hml, hown, hW⟩ (c_X6_yearsCanBe l D cI cZ ad Y0 Y1 Y5 Y6 _ hw) (cwV0 hW mV_X6_yearsCanBe ml_X6_120 ⟨Nat.le_of_ble_eq_true rfl, Nat.le_of_ble_eq_true rfl⟩) (preV0 0 rfl rfl hK hN hP hD [0, 1, 2, 3, 4] rfl rfl) rfl rfl hl.1 rfl (lv_room (Nat.le_of_ble_eq_true rfl)) dX6_done_1 ⟨Nat.le_refl _, Nat.le_refl _⟩) hP hD hS [0, 1, 2, 3, 4] rfl rfl (fun _ => rfl) (fun v9 u9 H locs hq hP hD hS => ?_)
  obtain ⟨v1, rfl, hw⟩ := hq
  obtain ⟨Z2, Z3⟩ := u9
  have hP : va_P D classes (jn [xcell ad, rcells cI ad 1 Y0, rcells cI ad 18 Z2, pcells cI ad 71 Y5, ycells ad 74 Z3]) H := hP
  have hD : va_D (cOf (jn [xcell ad, rcells cI ad 1 Y0, rcells cI ad 18 Y1, pcells cI ad 71 Y5, ycells ad 74 Y6])) (jn [xcell ad, rcells cI ad 1 Y0, rcells cI ad 18 Z2, pcells cI ad 71 Y5, ycells ad 74 Z3]) := hD
  refine W.eq (g2 := F0 m 4 ls [.int v1]) rfl ?_
  refine lv_if_ne (tgt := 10) hx hb dX6_done_4 (by decide) (fun c4 => ?_) (fun c4 => ?_)
  · have hw := Eq.mp (if_neg c4) hw
    refine lv_aload_n hx hb dX6_done_10 rfl (lv_at hl 0 rfl) ?_
    refine va_get (D := D) (ci := 6) (v := .ref (ad 1)) (C := RX6) (T := TX6) (N := 9) hx hb hW inW_X6 hown hK hP 0 rfl rfl 0 (by decide) (hW _ fl_X6_10) (fun _ h9 => h9) rfl dX6_done_11 ?_
    refine lv_aload_n hx hb dX6_done_14 rfl (lv_at hl 0 rfl) ?_
    refine va_get (D := D) (ci := 6) (v := .ref (ad 18)) (C := RX6) (T := TX6) (N := 9) hx hb hW inW_X6 hown hK hP 0 rfl rfl 1 (by decide) (hW _ fl_X6_16) (fun _ h9 => h9) rfl dX6_done_15 ?_
    refine callW (va_runV (As := [.ref (ad 18)]) (rest := []) ⟨hx, hb, hml, hown, hW⟩ (c_X2_takeOver l D cI cZ ad 1 Y0 18 Z2 _ hw) (cwV0 hW mV_X2_takeOver ml_X6_124 ⟨Nat.le_of_ble_eq_true rfl, Nat.le_of_ble_eq_true rfl⟩) (preV0 0 rfl rfl hK hN hP hD [1, 2] rfl rfl) rfl rfl hl.1 rfl (lv_room (Nat.le_of_ble_eq_true rfl)) dX6_done_18 ⟨Nat.le_refl _, Nat.le_refl _⟩) hP hD hS [1, 2] rfl rfl (fun _ => rfl) (fun v9 u9 H locs hq hP hD hS => ?_)
    obtain ⟨rfl, hw⟩ := hq
    obtain ⟨Z5, rfl⟩ : ∃ z, z = u9 := ⟨_, rfl⟩
    have hP : va_P D classes (jn [xcell ad, rcells cI ad 1 Z5, rcells cI ad 18 Z2, pcells cI ad 71 Y5, ycells ad 74 Z3]) H := hP
    have hD : va_D (cOf (jn [xcell ad, rcells cI ad 1 Y0, rcells cI ad 18 Y1, pcells cI ad 71 Y5, ycells ad 74 Y6])) (jn [xcell ad, rcells cI ad 1 Z5, rcells cI ad 18 Z2, pcells cI ad 71 Y5, ycells ad 74 Z3]) := hD
    refine W.eq (g2 := F0 m 21 ls []) rfl ?_
    refine lv_aload_n hx hb dX6_done_21 rfl (lv_at hl 0 rfl) ?_
    refine va_get (D := D) (ci := 6) (v := .ref (ad 71)) (C := RX6) (T := TX6) (N := 9) hx hb hW inW_X6 hown hK hP 0 rfl rfl 5 (by decide) (hW _ fl_X6_37) (fun _ h9 => h9) rfl dX6_done_22 ?_
    refine callW (va_runV (As := []) (rest := []) ⟨hx, hb, hml, hown, hW⟩ (c_X1_clear l D cI cZ ad 71 Y5 _ hw) (cwV0 hW mV_X1_clear ml_X6_103 ⟨Nat.le_of_ble_eq_true rfl, Nat.le_of_ble_eq_true rfl⟩) (preV0 0 rfl rfl hK hN hP hD [3] rfl rfl) rfl rfl hl.1 rfl (lv_room (Nat.le_of_ble_eq_true rfl)) dX6_done_25 ⟨Nat.le_refl _, Nat.le_refl _⟩) hP hD hS [3] rfl rfl (fun _ => rfl) (fun v9 u9 H locs hq hP hD hS => ?_)
    obtain ⟨v6, rfl, hw⟩ := hq
    obtain ⟨Z7, rfl⟩ : ∃ z, z = u9 := ⟨_, rfl⟩
    have hP : va_P D classes (jn [xcell ad, rcells cI ad 1 Z5, rcells cI ad 18 Z2, pcells cI ad 71 Z7, ycells ad 74 Z3]) H := hP
    have hD : va_D (cOf (jn [xcell ad, rcells cI ad 1 Y0, rcells cI ad 18 Y1, pcells cI ad 71 Y5, ycells ad 74 Y6])) (jn [xcell ad, rcells cI ad 1 Z5, rcells cI ad 18 Z2, pcells cI ad 71 Z7, ycells ad 74 Z3]) := hD
    refine W.eq (g2 := F0 m 28 ls [.int v6]) rfl ?_
    refine lv_pop hx hb dX6_done_28 rfl ?_
    refine lv_aload_n hx hb dX6_done_29 rfl (lv_at hl 0 rfl) ?_
    refine va_get (D := D) (ci := 6) (v := .ref (ad 74)) (C := RX6) (T := TX6) (N := 9) hx hb hW inW_X6 hown hK hP 0 rfl rfl 6 (by decide) (hW _ fl_X6_44) (fun _ h9 => h9) rfl dX6_done_30 ?_
    refine va_get (D := D) (ci := 5) (v := .int (Z3.1 0)) (C := RX5) (T := TX5) (N := 2) hx hb hW inW_X5 hown hK hP 38 rfl rfl 0 (by decide) (hW _ fl_X6_114) (fun _ h9 => h9) rfl dX6_done_33 ?_
    exact W.iret (v := (Z3.1 0)) hx hb hr (fun t ht _ => ⟨⟨_, (Z5, Z2, Z7, Z3), rfl, ⟨_, rfl, hw⟩, by rw [ht]; exact hP⟩, hS.F ht⟩) hS.2.2 dX6_done_36
  · have hw := Eq.mp (if_pos c4) hw
    refine lv_bipush (v := (-5)) hx hb dX6_done_7 (by decide) ?_
    exact W.iret (v := (-5)) hx hb hr (fun t ht _ => ⟨⟨_, (Y0, Z2, Y5, Z3), rfl, ⟨_, rfl, hw⟩, by rw [ht]; exact hP⟩, hS.F ht⟩) hS.2.2 dX6_done_9
set_option maxHeartbeats 4000000 in
set_option maxRecDepth 100000 in
theorem c_X6_state (l : Launch) (D : va_G) (cI cZ : ClassId) (ad : Nat → Nat) (Y0 : St) (x1 : Int32) (x2 : Int32) (r9 : Int32) (hw : F_X6_state Y0 x1 x2 = r9) : KF l yX6_state cX6_state 3 (some .int) 2 45 D cI cZ [.ref (ad 0), .int x1, .int x2] [xcell ad, rcells cI ad 1 Y0] (some (.int r9)) := by
  refine Met.ofE (by decide +kernel) (Nat.le_of_ble_eq_true rfl) ?_
  intro p e s m below meth c E ls hl
  obtain ⟨hx, hb, hr, hml, hW, hown, hlocks, hP, hK, hD, hN⟩ := E
  have hl : lv_has ls 3 [(0, .ref (ad 0)), (1, .int x1), (2, .int x2)] := hl
  have hw : (if (F_X2_has Y0 x1) = 0 then (-1) else (if (F_X6_within x2 0 2) = 0 then (-2) else (if x2 = 0 then (F_X2_landAfter Y0 x1 0) else (if x2 = 1 then (F_X3_get 6 (Y0.2 8) x1) else (F_X3_get 6 (Y0.2 9) x1))))) = r9 := hw
  refine lv_aload_n hx hb dX6_state_0 rfl (lv_at hl 0 rfl) ?_
  refine va_get (D := D) (ci := 6) (v := .ref (ad 1)) (C := RX6) (T := TX6) (N := 9) hx hb hW inW_X6 hown hK hP 0 rfl rfl 0 (by decide) (hW _ fl_X6_10) (fun _ h9 => h9) rfl dX6_state_1 ?_
  refine lv_iload_n hx hb dX6_state_4 rfl (lv_at hl 1 rfl) ?_
  refine callF (va_runV (As := [.int x1]) (rest := []) ⟨hx, hb, hml, hown, hW⟩ (c_X2_has l D cI cZ ad 1 Y0 x1 _ rfl) (cwV0 hW mV_X2_has ml_X6_79 ⟨Nat.le_of_ble_eq_true rfl, Nat.le_of_ble_eq_true rfl⟩) (preV0 0 rfl rfl hK hN hP hD [1] rfl rfl) rfl rfl hl.1 rfl (lv_room (Nat.le_of_ble_eq_true rfl)) dX6_state_5 ⟨Nat.le_refl _, Nat.le_refl _⟩) ?_
  refine W.eq (g2 := F0 m 8 ls [.int (F_X2_has Y0 x1)]) rfl ?_
  refine lv_if_ne (tgt := 13) hx hb dX6_state_8 (by decide) (fun c1 => ?_) (fun c1 => ?_)
  · have hw := (if_neg c1).symm.trans hw
    refine lv_iload_n hx hb dX6_state_13 rfl (lv_at hl 2 rfl) ?_
    refine lv_iconst (v := 0) hx hb dX6_state_14 (by decide) ?_
    refine lv_iconst (v := 2) hx hb dX6_state_15 (by decide) ?_
    refine callF (va_runS (As := [.int x2, .int 0, .int 2]) (rest := []) ⟨hx, hb, hml, hown, hW⟩ (c_X6_within l D cI cZ x2 0 2 _ rfl) (cwS0 hW mS_X6_within ml_X6_69 ⟨Nat.le_of_ble_eq_true rfl, Nat.le_of_ble_eq_true rfl⟩) (preS0 hK hN hP hD [] rfl rfl) rfl rfl hl.1 rfl (lv_room (Nat.le_of_ble_eq_true rfl)) dX6_state_16 ⟨Nat.le_refl _, Nat.le_refl _⟩) ?_
    refine W.eq (g2 := F0 m 19 ls [.int (F_X6_within x2 0 2)]) rfl ?_
    refine lv_if_ne (tgt := 25) hx hb dX6_state_19 (by decide) (fun c2 => ?_) (fun c2 => ?_)
    · have hw := (if_neg c2).symm.trans hw
      refine lv_iload_n hx hb dX6_state_25 rfl (lv_at hl 2 rfl) ?_
      refine lv_if_ne (tgt := 39) hx hb dX6_state_26 (by decide) (fun c3 => ?_) (fun c3 => ?_)
      · have hw := (if_neg c3).symm.trans hw
        refine lv_iload_n hx hb dX6_state_39 rfl (lv_at hl 2 rfl) ?_
        refine lv_iconst (v := 1) hx hb dX6_state_40 (by decide) ?_
        refine lv_icmp_ne (tgt := 58) hx hb dX6_state_41 (by decide) (fun c4 => ?_) (fun c4 => ?_)
        · have hw := (if_neg c4).symm.trans hw
          refine lv_aload_n hx hb dX6_state_58 rfl (lv_at hl 0 rfl) ?_
          refine va_get (D := D) (ci := 6) (v := .ref (ad 1)) (C := RX6) (T := TX6) (N := 9) hx hb hW inW_X6 hown hK hP 0 rfl rfl 0 (by decide) (hW _ fl_X6_10) (fun _ h9 => h9) rfl dX6_state_59 ?_
          refine va_get (D := D) (ci := 2) (v := .ref (ad 4)) (C := RX2) (T := TX2) (N := 15) hx hb hW inW_X2 hown hK hP 1 rfl rfl 9 (by decide) (hW _ fl_X6_135) (fun _ h9 => h9) rfl dX6_state_62 ?_
          refine lv_iload_n hx hb dX6_state_65 rfl (lv_at hl 1 rfl) ?_
          refine callF (va_runV (As := [.int x1]) (rest := []) ⟨hx, hb, hml, hown, hW⟩ (c_X3_get__round_9 l D cI cZ ad 1 Y0 x1 _ rfl) (cwV0 hW mV_X3_get ml_X6_89 ⟨Nat.le_of_ble_eq_true rfl, Nat.le_of_ble_eq_true rfl⟩) (preV0 3 rfl rfl hK hN hP hD [1] rfl rfl) rfl rfl hl.1 rfl (lv_room (Nat.le_of_ble_eq_true rfl)) dX6_state_66 ⟨Nat.le_refl _, Nat.le_refl _⟩) ?_
          refine W.eq (g2 := F0 m 69 ls [.int (F_X3_get 6 (Y0.2 9) x1)]) rfl ?_
          subst hw
          exact W.iret (v := (F_X3_get 6 (Y0.2 9) x1)) hx hb hr (fun t ht _ => ⟨rfl, ht⟩) (fun _ h => by cases h) dX6_state_69
        · have hw := (if_pos c4).symm.trans hw
          refine lv_aload_n hx hb dX6_state_44 rfl (lv_at hl 0 rfl) ?_
          refine va_get (D := D) (ci := 6) (v := .ref (ad 1)) (C := RX6) (T := TX6) (N := 9) hx hb hW inW_X6 hown hK hP 0 rfl rfl 0 (by decide) (hW _ fl_X6_10) (fun _ h9 => h9) rfl dX6_state_45 ?_
          refine va_get (D := D) (ci := 2) (v := .ref (ad 3)) (C := RX2) (T := TX2) (N := 15) hx hb hW inW_X2 hown hK hP 1 rfl rfl 8 (by decide) (hW _ fl_X6_132) (fun _ h9 => h9) rfl dX6_state_48 ?_
          refine lv_iload_n hx hb dX6_state_51 rfl (lv_at hl 1 rfl) ?_
          refine callF (va_runV (As := [.int x1]) (rest := []) ⟨hx, hb, hml, hown, hW⟩ (c_X3_get__round_8 l D cI cZ ad 1 Y0 x1 _ rfl) (cwV0 hW mV_X3_get ml_X6_89 ⟨Nat.le_of_ble_eq_true rfl, Nat.le_of_ble_eq_true rfl⟩) (preV0 2 rfl rfl hK hN hP hD [1] rfl rfl) rfl rfl hl.1 rfl (lv_room (Nat.le_of_ble_eq_true rfl)) dX6_state_52 ⟨Nat.le_refl _, Nat.le_refl _⟩) ?_
          refine W.eq (g2 := F0 m 55 ls [.int (F_X3_get 6 (Y0.2 8) x1)]) rfl ?_
          refine lv_goto (tgt := 69) hx hb dX6_state_55 (by decide) ?_
          subst hw
          exact W.iret (v := (F_X3_get 6 (Y0.2 8) x1)) hx hb hr (fun t ht _ => ⟨rfl, ht⟩) (fun _ h => by cases h) dX6_state_69
      · have hw := (if_pos c3).symm.trans hw
        refine lv_aload_n hx hb dX6_state_29 rfl (lv_at hl 0 rfl) ?_
        refine va_get (D := D) (ci := 6) (v := .ref (ad 1)) (C := RX6) (T := TX6) (N := 9) hx hb hW inW_X6 hown hK hP 0 rfl rfl 0 (by decide) (hW _ fl_X6_10) (fun _ h9 => h9) rfl dX6_state_30 ?_
        refine lv_iload_n hx hb dX6_state_33 rfl (lv_at hl 1 rfl) ?_
        refine lv_iconst (v := 0) hx hb dX6_state_34 (by decide) ?_
        refine callF (va_runV (As := [.int x1, .int 0]) (rest := []) ⟨hx, hb, hml, hown, hW⟩ (c_X2_landAfter l D cI cZ ad 1 Y0 x1 0 _ rfl) (cwV0 hW mV_X2_landAfter ml_X6_128 ⟨Nat.le_of_ble_eq_true rfl, Nat.le_of_ble_eq_true rfl⟩) (preV0 0 rfl rfl hK hN hP hD [1] rfl rfl) rfl rfl hl.1 rfl (lv_room (Nat.le_of_ble_eq_true rfl)) dX6_state_35 ⟨Nat.le_refl _, Nat.le_refl _⟩) ?_
        refine W.eq (g2 := F0 m 38 ls [.int (F_X2_landAfter Y0 x1 0)]) rfl ?_
        subst hw
        exact W.iret (v := (F_X2_landAfter Y0 x1 0)) hx hb hr (fun t ht _ => ⟨rfl, ht⟩) (fun _ h => by cases h) dX6_state_38
    · have hw := (if_pos c2).symm.trans hw
      refine lv_bipush (v := (-2)) hx hb dX6_state_22 (by decide) ?_
      subst hw
      exact W.iret (v := (-2)) hx hb hr (fun t ht _ => ⟨rfl, ht⟩) (fun _ h => by cases h) dX6_state_24
  · have hw := (if_pos c1).symm.trans hw
    refine lv_iconst (v := (-1)) hx hb dX6_state_11 (by decide) ?_
    subst hw
    exact W.iret (v := (-1)) hx hb hr (fun t ht _ => ⟨rfl, ht⟩) (fun _ h => by cases h) dX6_state_12
set_option maxHeartbeats 4000000 in
set_option maxRecDepth 100000 in
theorem c_X6_behind (l : Launch) (D : va_G) (cI cZ : ClassId) (ad : Nat → Nat) (Y0 : St) (Y1 : St) (Y5 : St) (Y6 : St) (x1 : Int32) (x2 : Int32) (k : Int32 → St → St → Prop) (hw : wp_X6_behind Y0 Y1 Y5 Y6 x1 x2 k) : KW l yX6_behind cX6_behind 3 (some .int) 6 134 D cI cZ [.ref (ad 0), .int x1, .int x2] [xcell ad, rcells cI ad 1 Y0, rcells cI ad 18 Y1, pcells cI ad 71 Y5, ycells ad 74 Y6] (fun v (u : St × St) => ∃ r, v = some (.int r) ∧ k r u.1 u.2) (fun u : St × St => [xcell ad, rcells cI ad 1 Y0, rcells cI ad 18 u.1, pcells cI ad 71 Y5, ycells ad 74 u.2]) := by
  refine Met.ofE (by decide +kernel) (Nat.le_of_ble_eq_true rfl) ?_
  intro p e s m below meth c E ls hl
  obtain ⟨hx, hb, hr, hml, hW, hown, hlocks, hP, hK, hD, hN⟩ := E
  have hl : lv_has ls 3 [(0, .ref (ad 0)), (1, .int x1), (2, .int x2)] := hl
  have hS : va_S (cOf (jn [xcell ad, rcells cI ad 1 Y0, rcells cI ad 18 Y1, pcells cI ad 71 Y5, ycells ad 74 Y6])) s.heap s.heap [] := va_S.rf
  have hw : (if (F_X2_has Y0 x1) = 0 then (k (-1) Y1 Y6) else (if (F_X6_within x2 0 2) = 0 then (k (-2) Y1 Y6) else (wp_X6_yearsCanBe Y0 Y1 Y5 Y6 (fun (v3 : Int32) (Z4 : St) (Z5 : St) => (if v3 = 0 then (k (-5) Z4 Z5) else (if x2 = 0 then (k (F_X2_landAfter Z4 x1 0) Z4 Z5) else (if x2 = 1 then (k (F_X3_get 6 (Z4.2 8) x1) Z4 Z5) else (k (F_X3_get 6 (Z4.2 10) x1) Z4 Z5)))))))) := hw
  refine lv_aload_n hx hb dX6_behind_0 rfl (lv_at hl 0 rfl) ?_
  refine va_get (D := D) (ci := 6) (v := .ref (ad 1)) (C := RX6) (T := TX6) (N := 9) hx hb hW inW_X6 hown hK hP 0 rfl rfl 0 (by decide) (hW _ fl_X6_10) (fun _ h9 => h9) rfl dX6_behind_1 ?_
  refine lv_iload_n hx hb dX6_behind_4 rfl (lv_at hl 1 rfl) ?_
  refine callF (va_runV (As := [.int x1]) (rest := []) ⟨hx, hb, hml, hown, hW⟩ (c_X2_has l D cI cZ ad 1 Y0 x1 _ rfl) (cwV0 hW mV_X2_has ml_X6_79 ⟨Nat.le_of_ble_eq_true rfl, Nat.le_of_ble_eq_true rfl⟩) (preV0 0 rfl rfl hK hN hP hD [1] rfl rfl) rfl rfl hl.1 rfl (lv_room (Nat.le_of_ble_eq_true rfl)) dX6_behind_5 ⟨Nat.le_refl _, Nat.le_refl _⟩) ?_
  refine W.eq (g2 := F0 m 8 ls [.int (F_X2_has Y0 x1)]) rfl ?_
  refine lv_if_ne (tgt := 13) hx hb dX6_behind_8 (by decide) (fun c1 => ?_) (fun c1 => ?_)
  · have hw := Eq.mp (if_neg c1) hw
    refine lv_iload_n hx hb dX6_behind_13 rfl (lv_at hl 2 rfl) ?_
    refine lv_iconst (v := 0) hx hb dX6_behind_14 (by decide) ?_
    refine lv_iconst (v := 2) hx hb dX6_behind_15 (by decide) ?_
    refine callF (va_runS (As := [.int x2, .int 0, .int 2]) (rest := []) ⟨hx, hb, hml, hown, hW⟩ (c_X6_within l D cI cZ x2 0 2 _ rfl) (cwS0 hW mS_X6_within ml_X6_69 ⟨Nat.le_of_ble_eq_true rfl, Nat.le_of_ble_eq_true rfl⟩) (preS0 hK hN hP hD [] rfl rfl) rfl rfl hl.1 rfl (lv_room (Nat.le_of_ble_eq_true rfl)) dX6_behind_16 ⟨Nat.le_refl _, Nat.le_refl _⟩) ?_
    refine W.eq (g2 := F0 m 19 ls [.int (F_X6_within x2 0 2)]) rfl ?_
    refine lv_if_ne (tgt := 25) hx hb dX6_behind_19 (by decide) (fun c2 => ?_) (fun c2 => ?_)
    · have hw := Eq.mp (if_neg c2) hw
      refine lv_aload_n hx hb dX6_behind_25 rfl (lv_at hl 0 rfl) ?_
      refine callW (va_runV (As := []) (rest := []) ⟨hx, hb, hml, hown, hW⟩ (c_X6_yearsCanBe l D cI cZ ad Y0 Y1 Y5 Y6 _ hw) (cwV0 hW mV_X6_yearsCanBe ml_X6_120 ⟨Nat.le_of_ble_eq_true rfl, Nat.le_of_ble_eq_true rfl⟩) (preV0 0 rfl rfl hK hN hP hD [0, 1, 2, 3, 4] rfl rfl) rfl rfl hl.1 rfl (lv_room (Nat.le_of_ble_eq_true rfl)) dX6_behind_26 ⟨Nat.le_refl _, Nat.le_refl _⟩) hP hD hS [0, 1, 2, 3, 4] rfl rfl (fun _ => rfl) (fun v9 u9 H locs hq hP hD hS => ?_)
      obtain ⟨v3, rfl, hw⟩ := hq
      obtain ⟨Z4, Z5⟩ := u9
      have hP : va_P D classes (jn [xcell ad, rcells cI ad 1 Y0, rcells cI ad 18 Z4, pcells cI ad 71 Y5, ycells ad 74 Z5]) H := hP
      have hD : va_D (cOf (jn [xcell ad, rcells cI ad 1 Y0, rcells cI ad 18 Y1, pcells cI ad 71 Y5, ycells ad 74 Y6])) (jn [xcell ad, rcells cI ad 1 Y0, rcells cI ad 18 Z4, pcells cI ad 71 Y5, ycells ad 74 Z5]) := hD
      refine W.eq (g2 := F0 m 29 ls [.int v3]) rfl ?_
      refine lv_if_ne (tgt := 35) hx hb dX6_behind_29 (by decide) (fun c6 => ?_) (fun c6 => ?_)
      · have hw := Eq.mp (if_neg c6) hw
        refine lv_iload_n hx hb dX6_behind_35 rfl (lv_at hl 2 rfl) ?_
        refine lv_if_ne (tgt := 49) hx hb dX6_behind_36 (by decide) (fun c7 => ?_) (fun c7 => ?_)
        · have hw := Eq.mp (if_neg c7) hw
          refine lv_iload_n hx hb dX6_behind_49 rfl (lv_at hl 2 rfl) ?_
          refine lv_iconst (v := 1) hx hb dX6_behind_50 (by decide) ?_
          refine lv_icmp_ne (tgt := 68) hx hb dX6_behind_51 (by decide) (fun c8 => ?_) (fun c8 => ?_)
          · have hw := Eq.mp (if_neg c8) hw
            refine lv_aload_n hx hb dX6_behind_68 rfl (lv_at hl 0 rfl) ?_
            refine va_get (D := D) (ci := 6) (v := .ref (ad 18)) (C := RX6) (T := TX6) (N := 9) hx hb hW inW_X6 hown hK hP 0 rfl rfl 1 (by decide) (hW _ fl_X6_16) (fun _ h9 => h9) rfl dX6_behind_69 ?_
            refine va_get (D := D) (ci := 2) (v := .ref (ad 22)) (C := RX2) (T := TX2) (N := 15) hx hb hW inW_X2 hown hK hP 18 rfl rfl 10 (by decide) (hW _ fl_X6_138) (fun _ h9 => h9) rfl dX6_behind_72 ?_
            refine lv_iload_n hx hb dX6_behind_75 rfl (lv_at hl 1 rfl) ?_
            refine callF (va_runV (As := [.int x1]) (rest := []) ⟨hx, hb, hml, hown, hW⟩ (c_X3_get__round_10 l D cI cZ ad 18 Z4 x1 _ rfl) (cwV0 hW mV_X3_get ml_X6_89 ⟨Nat.le_of_ble_eq_true rfl, Nat.le_of_ble_eq_true rfl⟩) (preV0 4 rfl rfl hK hN hP hD [2] rfl rfl) rfl rfl hl.1 rfl (lv_room (Nat.le_of_ble_eq_true rfl)) dX6_behind_76 ⟨Nat.le_refl _, Nat.le_refl _⟩) ?_
            refine W.eq (g2 := F0 m 79 ls [.int (F_X3_get 6 (Z4.2 10) x1)]) rfl ?_
            exact W.iret (v := (F_X3_get 6 (Z4.2 10) x1)) hx hb hr (fun t ht _ => ⟨⟨_, (Z4, Z5), rfl, ⟨_, rfl, hw⟩, by rw [ht]; exact hP⟩, hS.F ht⟩) hS.2.2 dX6_behind_79
          · have hw := Eq.mp (if_pos c8) hw
            refine lv_aload_n hx hb dX6_behind_54 rfl (lv_at hl 0 rfl) ?_
            refine va_get (D := D) (ci := 6) (v := .ref (ad 18)) (C := RX6) (T := TX6) (N := 9) hx hb hW inW_X6 hown hK hP 0 rfl rfl 1 (by decide) (hW _ fl_X6_16) (fun _ h9 => h9) rfl dX6_behind_55 ?_
            refine va_get (D := D) (ci := 2) (v := .ref (ad 20)) (C := RX2) (T := TX2) (N := 15) hx hb hW inW_X2 hown hK hP 18 rfl rfl 8 (by decide) (hW _ fl_X6_132) (fun _ h9 => h9) rfl dX6_behind_58 ?_
            refine lv_iload_n hx hb dX6_behind_61 rfl (lv_at hl 1 rfl) ?_
            refine callF (va_runV (As := [.int x1]) (rest := []) ⟨hx, hb, hml, hown, hW⟩ (c_X3_get__round_8 l D cI cZ ad 18 Z4 x1 _ rfl) (cwV0 hW mV_X3_get ml_X6_89 ⟨Nat.le_of_ble_eq_true rfl, Nat.le_of_ble_eq_true rfl⟩) (preV0 2 rfl rfl hK hN hP hD [2] rfl rfl) rfl rfl hl.1 rfl (lv_room (Nat.le_of_ble_eq_true rfl)) dX6_behind_62 ⟨Nat.le_refl _, Nat.le_refl _⟩) ?_
            refine W.eq (g2 := F0 m 65 ls [.int (F_X3_get 6 (Z4.2 8) x1)]) rfl ?_
            refine lv_goto (tgt := 79) hx hb dX6_behind_65 (by decide) ?_
            exact W.iret (v := (F_X3_get 6 (Z4.2 8) x1)) hx hb hr (fun t ht _ => ⟨⟨_, (Z4, Z5), rfl, ⟨_, rfl, hw⟩, by rw [ht]; exact hP⟩, hS.F ht⟩) hS.2.2 dX6_behind_79
        · have hw := Eq.mp (if_pos c7) hw
          refine lv_aload_n hx hb dX6_behind_39 rfl (lv_at hl 0 rfl) ?_
          refine va_get (D := D) (ci := 6) (v := .ref (ad 18)) (C := RX6) (T := TX6) (N := 9) hx hb hW inW_X6 hown hK hP 0 rfl rfl 1 (by decide) (hW _ fl_X6_16) (fun _ h9 => h9) rfl dX6_behind_40 ?_
          refine lv_iload_n hx hb dX6_behind_43 rfl (lv_at hl 1 rfl) ?_
          refine lv_iconst (v := 0) hx hb dX6_behind_44 (by decide) ?_
          refine callF (va_runV (As := [.int x1, .int 0]) (rest := []) ⟨hx, hb, hml, hown, hW⟩ (c_X2_landAfter l D cI cZ ad 18 Z4 x1 0 _ rfl) (cwV0 hW mV_X2_landAfter ml_X6_128 ⟨Nat.le_of_ble_eq_true rfl, Nat.le_of_ble_eq_true rfl⟩) (preV0 0 rfl rfl hK hN hP hD [2] rfl rfl) rfl rfl hl.1 rfl (lv_room (Nat.le_of_ble_eq_true rfl)) dX6_behind_45 ⟨Nat.le_refl _, Nat.le_refl _⟩) ?_
          refine W.eq (g2 := F0 m 48 ls [.int (F_X2_landAfter Z4 x1 0)]) rfl ?_
          exact W.iret (v := (F_X2_landAfter Z4 x1 0)) hx hb hr (fun t ht _ => ⟨⟨_, (Z4, Z5), rfl, ⟨_, rfl, hw⟩, by rw [ht]; exact hP⟩, hS.F ht⟩) hS.2.2 dX6_behind_48
      · have hw := Eq.mp (if_pos c6) hw
        refine lv_bipush (v := (-5)) hx hb dX6_behind_32 (by decide) ?_
        exact W.iret (v := (-5)) hx hb hr (fun t ht _ => ⟨⟨_, (Z4, Z5), rfl, ⟨_, rfl, hw⟩, by rw [ht]; exact hP⟩, hS.F ht⟩) hS.2.2 dX6_behind_34
    · have hw := Eq.mp (if_pos c2) hw
      refine lv_bipush (v := (-2)) hx hb dX6_behind_22 (by decide) ?_
      exact W.iret (v := (-2)) hx hb hr (fun t ht _ => ⟨⟨_, (Y1, Y6), rfl, ⟨_, rfl, hw⟩, by rw [ht]; exact hP⟩, hS.F ht⟩) hS.2.2 dX6_behind_24
  · have hw := Eq.mp (if_pos c1) hw
    refine lv_iconst (v := (-1)) hx hb dX6_behind_11 (by decide) ?_
    exact W.iret (v := (-1)) hx hb hr (fun t ht _ => ⟨⟨_, (Y1, Y6), rfl, ⟨_, rfl, hw⟩, by rw [ht]; exact hP⟩, hS.F ht⟩) hS.2.2 dX6_behind_12
set_option maxHeartbeats 4000000 in
set_option maxRecDepth 100000 in
theorem c_X6_day (l : Launch) (D : va_G) (cI cZ : ClassId) (ad : Nat → Nat) (Y0 : St) (Y1 : St) (Y5 : St) (Y6 : St) (k : Int32 → St → St → Prop) (hw : wp_X6_day Y0 Y1 Y5 Y6 k) : KW l yX6_day cX6_day 1 (some .int) 6 134 D cI cZ [.ref (ad 0)] [xcell ad, rcells cI ad 1 Y0, rcells cI ad 18 Y1, pcells cI ad 71 Y5, ycells ad 74 Y6] (fun v (u : St × St) => ∃ r, v = some (.int r) ∧ k r u.1 u.2) (fun u : St × St => [xcell ad, rcells cI ad 1 Y0, rcells cI ad 18 u.1, pcells cI ad 71 Y5, ycells ad 74 u.2]) := by
  refine Met.ofE (by decide +kernel) (Nat.le_of_ble_eq_true rfl) ?_
  intro p e s m below meth c E ls hl
  obtain ⟨hx, hb, hr, hml, hW, hown, hlocks, hP, hK, hD, hN⟩ := E
  have hl : lv_has ls 1 [(0, .ref (ad 0))] := hl
  have hS : va_S (cOf (jn [xcell ad, rcells cI ad 1 Y0, rcells cI ad 18 Y1, pcells cI ad 71 Y5, ycells ad 74 Y6])) s.heap s.heap [] := va_S.rf
  have hw : (wp_X6_yearsCanBe Y0 Y1 Y5 Y6 (fun (v1 : Int32) (Z2 : St) (Z3 : St) => (if v1 = 0 then (k (-5) Z2 Z3) else (k (Z2.1 2) Z2 Z3)))) := hw
  refine lv_aload_n hx hb dX6_day_0 rfl (lv_at hl 0 rfl) ?_
  refine callW (va_runV (As := []) (rest := []) ⟨hx, hb, hml, hown, hW⟩ (c_X6_yearsCanBe l D cI cZ ad Y0 Y1 Y5 Y6 _ hw) (cwV0 hW mV_X6_yearsCanBe ml_X6_120 ⟨Nat.le_of_ble_eq_true rfl, Nat.le_of_ble_eq_true rfl⟩) (preV0 0 rfl rfl hK hN hP hD [0, 1, 2, 3, 4] rfl rfl) rfl rfl hl.1 rfl (lv_room (Nat.le_of_ble_eq_true rfl)) dX6_day_1 ⟨Nat.le_refl _, Nat.le_refl _⟩) hP hD hS [0, 1, 2, 3, 4] rfl rfl (fun _ => rfl) (fun v9 u9 H locs hq hP hD hS => ?_)
  obtain ⟨v1, rfl, hw⟩ := hq
  obtain ⟨Z2, Z3⟩ := u9
  have hP : va_P D classes (jn [xcell ad, rcells cI ad 1 Y0, rcells cI ad 18 Z2, pcells cI ad 71 Y5, ycells ad 74 Z3]) H := hP
  have hD : va_D (cOf (jn [xcell ad, rcells cI ad 1 Y0, rcells cI ad 18 Y1, pcells cI ad 71 Y5, ycells ad 74 Y6])) (jn [xcell ad, rcells cI ad 1 Y0, rcells cI ad 18 Z2, pcells cI ad 71 Y5, ycells ad 74 Z3]) := hD
  refine W.eq (g2 := F0 m 4 ls [.int v1]) rfl ?_
  refine lv_if_eq (tgt := 17) hx hb dX6_day_4 (by decide) (fun c4 => ?_) (fun c4 => ?_)
  · have hw := Eq.mp (if_pos c4) hw
    refine lv_bipush (v := (-5)) hx hb dX6_day_17 (by decide) ?_
    exact W.iret (v := (-5)) hx hb hr (fun t ht _ => ⟨⟨_, (Z2, Z3), rfl, ⟨_, rfl, hw⟩, by rw [ht]; exact hP⟩, hS.F ht⟩) hS.2.2 dX6_day_19
  · have hw := Eq.mp (if_neg c4) hw
    refine lv_aload_n hx hb dX6_day_7 rfl (lv_at hl 0 rfl) ?_
    refine va_get (D := D) (ci := 6) (v := .ref (ad 18)) (C := RX6) (T := TX6) (N := 9) hx hb hW inW_X6 hown hK hP 0 rfl rfl 1 (by decide) (hW _ fl_X6_16) (fun _ h9 => h9) rfl dX6_day_8 ?_
    refine va_get (D := D) (ci := 2) (v := .int (Z2.1 2)) (C := RX2) (T := TX2) (N := 15) hx hb hW inW_X2 hown hK hP 18 rfl rfl 2 (by decide) (hW _ fl_X6_141) (fun _ h9 => h9) rfl dX6_day_11 ?_
    refine lv_goto (tgt := 19) hx hb dX6_day_14 (by decide) ?_
    exact W.iret (v := (Z2.1 2)) hx hb hr (fun t ht _ => ⟨⟨_, (Z2, Z3), rfl, ⟨_, rfl, hw⟩, by rw [ht]; exact hP⟩, hS.F ht⟩) hS.2.2 dX6_day_19
set_option maxHeartbeats 4000000 in
set_option maxRecDepth 100000 in
theorem c_X6_where (l : Launch) (D : va_G) (cI cZ : ClassId) (ad : Nat → Nat) (Y0 : St) (x1 : Int32) (x2 : Int32) (r9 : Int32) (hw : F_X6_where Y0 x1 x2 = r9) : KF l yX6_where cX6_where 3 (some .int) 2 45 D cI cZ [.ref (ad 0), .int x1, .int x2] [xcell ad, rcells cI ad 1 Y0] (some (.int r9)) := by
  refine Met.ofE (by decide +kernel) (Nat.le_of_ble_eq_true rfl) ?_
  intro p e s m below meth c E ls hl
  obtain ⟨hx, hb, hr, hml, hW, hown, hlocks, hP, hK, hD, hN⟩ := E
  have hl : lv_has ls 3 [(0, .ref (ad 0)), (1, .int x1), (2, .int x2)] := hl
  have hw : (if (F_X2_has Y0 x1) = 0 then (-1) else (if (F_X6_within x2 0 9999) = 0 then (-2) else (F_X2_landAfter Y0 x1 (F_X2_equinoxesTill Y0 x2)))) = r9 := hw
  refine lv_aload_n hx hb dX6_where_0 rfl (lv_at hl 0 rfl) ?_
  refine va_get (D := D) (ci := 6) (v := .ref (ad 1)) (C := RX6) (T := TX6) (N := 9) hx hb hW inW_X6 hown hK hP 0 rfl rfl 0 (by decide) (hW _ fl_X6_10) (fun _ h9 => h9) rfl dX6_where_1 ?_
  refine lv_iload_n hx hb dX6_where_4 rfl (lv_at hl 1 rfl) ?_
  refine callF (va_runV (As := [.int x1]) (rest := []) ⟨hx, hb, hml, hown, hW⟩ (c_X2_has l D cI cZ ad 1 Y0 x1 _ rfl) (cwV0 hW mV_X2_has ml_X6_79 ⟨Nat.le_of_ble_eq_true rfl, Nat.le_of_ble_eq_true rfl⟩) (preV0 0 rfl rfl hK hN hP hD [1] rfl rfl) rfl rfl hl.1 rfl (lv_room (Nat.le_of_ble_eq_true rfl)) dX6_where_5 ⟨Nat.le_refl _, Nat.le_refl _⟩) ?_
  refine W.eq (g2 := F0 m 8 ls [.int (F_X2_has Y0 x1)]) rfl ?_
  refine lv_if_ne (tgt := 13) hx hb dX6_where_8 (by decide) (fun c1 => ?_) (fun c1 => ?_)
  · have hw := (if_neg c1).symm.trans hw
    refine lv_iload_n hx hb dX6_where_13 rfl (lv_at hl 2 rfl) ?_
    refine lv_iconst (v := 0) hx hb dX6_where_14 (by decide) ?_
    refine lv_sipush (v := 9999) hx hb dX6_where_15 (by decide) ?_
    refine callF (va_runS (As := [.int x2, .int 0, .int 9999]) (rest := []) ⟨hx, hb, hml, hown, hW⟩ (c_X6_within l D cI cZ x2 0 9999 _ rfl) (cwS0 hW mS_X6_within ml_X6_69 ⟨Nat.le_of_ble_eq_true rfl, Nat.le_of_ble_eq_true rfl⟩) (preS0 hK hN hP hD [] rfl rfl) rfl rfl hl.1 rfl (lv_room (Nat.le_of_ble_eq_true rfl)) dX6_where_18 ⟨Nat.le_refl _, Nat.le_refl _⟩) ?_
    refine W.eq (g2 := F0 m 21 ls [.int (F_X6_within x2 0 9999)]) rfl ?_
    refine lv_if_ne (tgt := 27) hx hb dX6_where_21 (by decide) (fun c2 => ?_) (fun c2 => ?_)
    · have hw := (if_neg c2).symm.trans hw
      refine lv_aload_n hx hb dX6_where_27 rfl (lv_at hl 0 rfl) ?_
      refine va_get (D := D) (ci := 6) (v := .ref (ad 1)) (C := RX6) (T := TX6) (N := 9) hx hb hW inW_X6 hown hK hP 0 rfl rfl 0 (by decide) (hW _ fl_X6_10) (fun _ h9 => h9) rfl dX6_where_28 ?_
      refine lv_iload_n hx hb dX6_where_31 rfl (lv_at hl 1 rfl) ?_
      refine lv_aload_n hx hb dX6_where_32 rfl (lv_at hl 0 rfl) ?_
      refine va_get (D := D) (ci := 6) (v := .ref (ad 1)) (C := RX6) (T := TX6) (N := 9) hx hb hW inW_X6 hown hK hP 0 rfl rfl 0 (by decide) (hW _ fl_X6_10) (fun _ h9 => h9) rfl dX6_where_33 ?_
      refine lv_iload_n hx hb dX6_where_36 rfl (lv_at hl 2 rfl) ?_
      refine callF (va_runV (As := [.int x2]) (rest := [.int x1, .ref (ad 1)]) ⟨hx, hb, hml, hown, hW⟩ (c_X2_equinoxesTill l D cI cZ ad 1 Y0 x2 _ rfl) (cwV0 hW mV_X2_equinoxesTill ml_X6_144 ⟨Nat.le_of_ble_eq_true rfl, Nat.le_of_ble_eq_true rfl⟩) (preV0 0 rfl rfl hK hN hP hD [1] rfl rfl) rfl rfl hl.1 rfl (lv_room (Nat.le_of_ble_eq_true rfl)) dX6_where_37 ⟨Nat.le_refl _, Nat.le_refl _⟩) ?_
      refine W.eq (g2 := F0 m 40 ls [.int (F_X2_equinoxesTill Y0 x2), .int x1, .ref (ad 1)]) rfl ?_
      refine callF (va_runV (As := [.int x1, .int (F_X2_equinoxesTill Y0 x2)]) (rest := []) ⟨hx, hb, hml, hown, hW⟩ (c_X2_landAfter l D cI cZ ad 1 Y0 x1 (F_X2_equinoxesTill Y0 x2) _ rfl) (cwV0 hW mV_X2_landAfter ml_X6_128 ⟨Nat.le_of_ble_eq_true rfl, Nat.le_of_ble_eq_true rfl⟩) (preV0 0 rfl rfl hK hN hP hD [1] rfl rfl) rfl rfl hl.1 rfl (lv_room (Nat.le_of_ble_eq_true rfl)) dX6_where_40 ⟨Nat.le_refl _, Nat.le_refl _⟩) ?_
      refine W.eq (g2 := F0 m 43 ls [.int (F_X2_landAfter Y0 x1 (F_X2_equinoxesTill Y0 x2))]) rfl ?_
      subst hw
      exact W.iret (v := (F_X2_landAfter Y0 x1 (F_X2_equinoxesTill Y0 x2))) hx hb hr (fun t ht _ => ⟨rfl, ht⟩) (fun _ h => by cases h) dX6_where_43
    · have hw := (if_pos c2).symm.trans hw
      refine lv_bipush (v := (-2)) hx hb dX6_where_24 (by decide) ?_
      subst hw
      exact W.iret (v := (-2)) hx hb hr (fun t ht _ => ⟨rfl, ht⟩) (fun _ h => by cases h) dX6_where_26
  · have hw := (if_pos c1).symm.trans hw
    refine lv_iconst (v := (-1)) hx hb dX6_where_11 (by decide) ?_
    subst hw
    exact W.iret (v := (-1)) hx hb hr (fun t ht _ => ⟨rfl, ht⟩) (fun _ h => by cases h) dX6_where_12
set_option maxHeartbeats 4000000 in
set_option maxRecDepth 100000 in
theorem c_X6_who (l : Launch) (D : va_G) (cI cZ : ClassId) (ad : Nat → Nat) (Y0 : St) (x1 : Int32) (x2 : Int32) (k : Int32 → Prop) (hw : wp_X6_who Y0 x1 x2 k) : KR l yX6_who cX6_who 3 (some .int) 3 69 D cI cZ [.ref (ad 0), .int x1, .int x2] [xcell ad, rcells cI ad 1 Y0] (fun v => ∃ r, v = some (.int r) ∧ k r) := by
  refine Met.ofE (by decide +kernel) (Nat.le_of_ble_eq_true rfl) ?_
  intro p e s m below meth c E ls hl
  obtain ⟨hx, hb, hr, hml, hW, hown, hlocks, hP, hK, hD, hN⟩ := E
  have hl : lv_has ls 3 [(0, .ref (ad 0)), (1, .int x1), (2, .int x2)] := hl
  have hw : (if (F_X2_has Y0 x1) = 0 then (k (-1)) else (if (F_X6_within x2 0 9999) = 0 then (k (-2)) else (wp_X2_guestsAfter Y0 x1 (F_X2_equinoxesTill Y0 x2) (fun (v3 : Int32) => (k v3))))) := hw
  refine lv_aload_n hx hb dX6_who_0 rfl (lv_at hl 0 rfl) ?_
  refine va_get (D := D) (ci := 6) (v := .ref (ad 1)) (C := RX6) (T := TX6) (N := 9) hx hb hW inW_X6 hown hK hP 0 rfl rfl 0 (by decide) (hW _ fl_X6_10) (fun _ h9 => h9) rfl dX6_who_1 ?_
  refine lv_iload_n hx hb dX6_who_4 rfl (lv_at hl 1 rfl) ?_
  refine callF (va_runV (As := [.int x1]) (rest := []) ⟨hx, hb, hml, hown, hW⟩ (c_X2_has l D cI cZ ad 1 Y0 x1 _ rfl) (cwV0 hW mV_X2_has ml_X6_79 ⟨Nat.le_of_ble_eq_true rfl, Nat.le_of_ble_eq_true rfl⟩) (preV0 0 rfl rfl hK hN hP hD [1] rfl rfl) rfl rfl hl.1 rfl (lv_room (Nat.le_of_ble_eq_true rfl)) dX6_who_5 ⟨Nat.le_refl _, Nat.le_refl _⟩) ?_
  refine W.eq (g2 := F0 m 8 ls [.int (F_X2_has Y0 x1)]) rfl ?_
  refine lv_if_ne (tgt := 13) hx hb dX6_who_8 (by decide) (fun c1 => ?_) (fun c1 => ?_)
  · have hw := Eq.mp (if_neg c1) hw
    refine lv_iload_n hx hb dX6_who_13 rfl (lv_at hl 2 rfl) ?_
    refine lv_iconst (v := 0) hx hb dX6_who_14 (by decide) ?_
    refine lv_sipush (v := 9999) hx hb dX6_who_15 (by decide) ?_
    refine callF (va_runS (As := [.int x2, .int 0, .int 9999]) (rest := []) ⟨hx, hb, hml, hown, hW⟩ (c_X6_within l D cI cZ x2 0 9999 _ rfl) (cwS0 hW mS_X6_within ml_X6_69 ⟨Nat.le_of_ble_eq_true rfl, Nat.le_of_ble_eq_true rfl⟩) (preS0 hK hN hP hD [] rfl rfl) rfl rfl hl.1 rfl (lv_room (Nat.le_of_ble_eq_true rfl)) dX6_who_18 ⟨Nat.le_refl _, Nat.le_refl _⟩) ?_
    refine W.eq (g2 := F0 m 21 ls [.int (F_X6_within x2 0 9999)]) rfl ?_
    refine lv_if_ne (tgt := 27) hx hb dX6_who_21 (by decide) (fun c2 => ?_) (fun c2 => ?_)
    · have hw := Eq.mp (if_neg c2) hw
      refine lv_aload_n hx hb dX6_who_27 rfl (lv_at hl 0 rfl) ?_
      refine va_get (D := D) (ci := 6) (v := .ref (ad 1)) (C := RX6) (T := TX6) (N := 9) hx hb hW inW_X6 hown hK hP 0 rfl rfl 0 (by decide) (hW _ fl_X6_10) (fun _ h9 => h9) rfl dX6_who_28 ?_
      refine lv_iload_n hx hb dX6_who_31 rfl (lv_at hl 1 rfl) ?_
      refine lv_aload_n hx hb dX6_who_32 rfl (lv_at hl 0 rfl) ?_
      refine va_get (D := D) (ci := 6) (v := .ref (ad 1)) (C := RX6) (T := TX6) (N := 9) hx hb hW inW_X6 hown hK hP 0 rfl rfl 0 (by decide) (hW _ fl_X6_10) (fun _ h9 => h9) rfl dX6_who_33 ?_
      refine lv_iload_n hx hb dX6_who_36 rfl (lv_at hl 2 rfl) ?_
      refine callF (va_runV (As := [.int x2]) (rest := [.int x1, .ref (ad 1)]) ⟨hx, hb, hml, hown, hW⟩ (c_X2_equinoxesTill l D cI cZ ad 1 Y0 x2 _ rfl) (cwV0 hW mV_X2_equinoxesTill ml_X6_144 ⟨Nat.le_of_ble_eq_true rfl, Nat.le_of_ble_eq_true rfl⟩) (preV0 0 rfl rfl hK hN hP hD [1] rfl rfl) rfl rfl hl.1 rfl (lv_room (Nat.le_of_ble_eq_true rfl)) dX6_who_37 ⟨Nat.le_refl _, Nat.le_refl _⟩) ?_
      refine W.eq (g2 := F0 m 40 ls [.int (F_X2_equinoxesTill Y0 x2), .int x1, .ref (ad 1)]) rfl ?_
      refine callR (va_runV (As := [.int x1, .int (F_X2_equinoxesTill Y0 x2)]) (rest := []) ⟨hx, hb, hml, hown, hW⟩ (c_X2_guestsAfter l D cI cZ ad 1 Y0 x1 (F_X2_equinoxesTill Y0 x2) _ hw) (cwV0 hW mV_X2_guestsAfter ml_X6_147 ⟨Nat.le_of_ble_eq_true rfl, Nat.le_of_ble_eq_true rfl⟩) (preV0 0 rfl rfl hK hN hP hD [1] rfl rfl) rfl rfl hl.1 rfl (lv_room (Nat.le_of_ble_eq_true rfl)) dX6_who_40 ⟨Nat.le_refl _, Nat.le_refl _⟩) (fun v9 hq => ?_)
      obtain ⟨v3, rfl, hw⟩ := hq
      refine W.eq (g2 := F0 m 43 ls [.int v3]) rfl ?_
      exact W.iret (v := v3) hx hb hr (fun t ht _ => ⟨⟨_, rfl, ⟨_, rfl, hw⟩⟩, ht⟩) (fun _ h => by cases h) dX6_who_43
    · have hw := Eq.mp (if_pos c2) hw
      refine lv_bipush (v := (-2)) hx hb dX6_who_24 (by decide) ?_
      exact W.iret (v := (-2)) hx hb hr (fun t ht _ => ⟨⟨_, rfl, ⟨_, rfl, hw⟩⟩, ht⟩) (fun _ h => by cases h) dX6_who_26
  · have hw := Eq.mp (if_pos c1) hw
    refine lv_iconst (v := (-1)) hx hb dX6_who_11 (by decide) ?_
    exact W.iret (v := (-1)) hx hb hr (fun t ht _ => ⟨⟨_, rfl, ⟨_, rfl, hw⟩⟩, ht⟩) (fun _ h => by cases h) dX6_who_12
set_option maxHeartbeats 4000000 in
set_option maxRecDepth 100000 in
theorem c_X6_meet (l : Launch) (D : va_G) (cI cZ : ClassId) (ad : Nat → Nat) (Y0 : St) (x1 : Int32) (x2 : Int32) (k : Int32 → Prop) (hw : wp_X6_meet Y0 x1 x2 k) : KR l yX6_meet cX6_meet 4 (some .int) 3 69 D cI cZ [.ref (ad 0), .int x1, .int x2] [xcell ad, rcells cI ad 1 Y0] (fun v => ∃ r, v = some (.int r) ∧ k r) := by
  refine Met.ofE (by decide +kernel) (Nat.le_of_ble_eq_true rfl) ?_
  intro p e s m below meth c E ls hl
  obtain ⟨hx, hb, hr, hml, hW, hown, hlocks, hP, hK, hD, hN⟩ := E
  have hl : lv_has ls 4 [(0, .ref (ad 0)), (1, .int x1), (2, .int x2)] := hl
  have L16 : ∀  (kx : Prop), (∀ ls : Array Slot, lv_has ls 4 [] → kx → W p l e { frames := 3, cells := 0, slots := 0, locals := 69 } s m ([.ref (ad 0), .int x1, .int x2] : List Value).toArray below meth c s.heap [] 0 0 (MQ below (QR (fun v => ∃ r, v = some (.int r) ∧ k r)) ([.ref (ad 0), .int x1, .int x2] : List Value).toArray s 0 0 (fun _ => False)) (F0 m 55 ls [])) → ∀ (N16 : Nat) (y3 : Int32), ∀ ls : Array Slot, lv_has ls 4 [(0, .ref (ad 0)), (1, .int x1), (2, .int x2), (3, .int y3)] → wl_X6_meet_16 Y0 x1 x2 kx k N16 y3 → W p l e { frames := 3, cells := 0, slots := 0, locals := 69 } s m ([.ref (ad 0), .int x1, .int x2] : List Value).toArray below meth c s.heap [] 0 0 (MQ below (QR (fun v => ∃ r, v = some (.int r) ∧ k r)) ([.ref (ad 0), .int x1, .int x2] : List Value).toArray s 0 0 (fun _ => False)) (F0 m 16 ls []) := by
    intro  kx hxt N16
    induction N16 with
    | zero => intro y3 ls hl hw; exact False.elim hw
    | succ N16 ih =>
      intro y3 ls hl hw
      have hw : (if (Y0.1 0) < y3 then kx else (if (F_X2_shareALand Y0 x1 x2 y3) = 0 then (wl_X6_meet_16 Y0 x1 x2 kx k N16 (y3 + 1)) else (k (F_X2_firstDayAfter Y0 y3)))) := hw
      refine lv_iload_n hx hb dX6_meet_16 rfl (lv_at hl 3 rfl) ?_
      refine lv_aload_n hx hb dX6_meet_17 rfl (lv_at hl 0 rfl) ?_
      refine va_get (D := D) (ci := 6) (v := .ref (ad 1)) (C := RX6) (T := TX6) (N := 9) hx hb hW inW_X6 hown hK hP 0 rfl rfl 0 (by decide) (hW _ fl_X6_10) (fun _ h9 => h9) rfl dX6_meet_18 ?_
      refine va_get (D := D) (ci := 2) (v := .int (Y0.1 0)) (C := RX2) (T := TX2) (N := 15) hx hb hW inW_X2 hown hK hP 1 rfl rfl 0 (by decide) (hW _ fl_X6_73) (fun _ h9 => h9) rfl dX6_meet_21 ?_
      refine lv_icmp_gt (tgt := 55) hx hb dX6_meet_24 (by decide) (fun c2 => ?_) (fun c2 => ?_)
      · have hw := Eq.mp (if_pos c2) hw
        exact hxt  _ (lv_sub hl [] rfl) hw
      · have hw := Eq.mp (if_neg c2) hw
        refine lv_aload_n hx hb dX6_meet_27 rfl (lv_at hl 0 rfl) ?_
        refine va_get (D := D) (ci := 6) (v := .ref (ad 1)) (C := RX6) (T := TX6) (N := 9) hx hb hW inW_X6 hown hK hP 0 rfl rfl 0 (by decide) (hW _ fl_X6_10) (fun _ h9 => h9) rfl dX6_meet_28 ?_
        refine lv_iload_n hx hb dX6_meet_31 rfl (lv_at hl 1 rfl) ?_
        refine lv_iload_n hx hb dX6_meet_32 rfl (lv_at hl 2 rfl) ?_
        refine lv_iload_n hx hb dX6_meet_33 rfl (lv_at hl 3 rfl) ?_
        refine callF (va_runV (As := [.int x1, .int x2, .int y3]) (rest := []) ⟨hx, hb, hml, hown, hW⟩ (c_X2_shareALand l D cI cZ ad 1 Y0 x1 x2 y3 _ rfl) (cwV0 hW mV_X2_shareALand ml_X6_154 ⟨Nat.le_of_ble_eq_true rfl, Nat.le_of_ble_eq_true rfl⟩) (preV0 0 rfl rfl hK hN hP hD [1] rfl rfl) rfl rfl hl.1 rfl (lv_room (Nat.le_of_ble_eq_true rfl)) dX6_meet_34 ⟨Nat.le_refl _, Nat.le_refl _⟩) ?_
        refine W.eq (g2 := F0 m 37 ls [.int (F_X2_shareALand Y0 x1 x2 y3)]) rfl ?_
        refine lv_if_eq (tgt := 49) hx hb dX6_meet_37 (by decide) (fun c3 => ?_) (fun c3 => ?_)
        · have hw := Eq.mp (if_pos c3) hw
          refine lv_iinc (v := (y3 + 1)) (lv' := [(3, .int (y3 + 1)), (0, .ref (ad 0)), (1, .int x1), (2, .int x2)]) hx hb dX6_meet_49 hl (k := 3) rfl rfl (by decide) rfl (fun ls hl => ?_)
          refine lv_goto (tgt := 16) hx hb dX6_meet_52 (by decide) ?_
          exact ih (y3 + 1) _ (lv_sub hl [1, 2, 3, 0] rfl) hw
        · have hw := Eq.mp (if_neg c3) hw
          refine lv_aload_n hx hb dX6_meet_40 rfl (lv_at hl 0 rfl) ?_
          refine va_get (D := D) (ci := 6) (v := .ref (ad 1)) (C := RX6) (T := TX6) (N := 9) hx hb hW inW_X6 hown hK hP 0 rfl rfl 0 (by decide) (hW _ fl_X6_10) (fun _ h9 => h9) rfl dX6_meet_41 ?_
          refine lv_iload_n hx hb dX6_meet_44 rfl (lv_at hl 3 rfl) ?_
          refine callF (va_runV (As := [.int y3]) (rest := []) ⟨hx, hb, hml, hown, hW⟩ (c_X2_firstDayAfter l D cI cZ ad 1 Y0 y3 _ rfl) (cwV0 hW mV_X2_firstDayAfter ml_X6_157 ⟨Nat.le_of_ble_eq_true rfl, Nat.le_of_ble_eq_true rfl⟩) (preV0 0 rfl rfl hK hN hP hD [1] rfl rfl) rfl rfl hl.1 rfl (lv_room (Nat.le_of_ble_eq_true rfl)) dX6_meet_45 ⟨Nat.le_refl _, Nat.le_refl _⟩) ?_
          refine W.eq (g2 := F0 m 48 ls [.int (F_X2_firstDayAfter Y0 y3)]) rfl ?_
          exact W.iret (v := (F_X2_firstDayAfter Y0 y3)) hx hb hr (fun t ht _ => ⟨⟨_, rfl, ⟨_, rfl, hw⟩⟩, ht⟩) (fun _ h => by cases h) dX6_meet_48
  have hw : (if (F_X2_hasBoth Y0 x1 x2) = 0 then (k (-1)) else (∃ M4, wl_X6_meet_16 Y0 x1 x2 (k (-6)) k M4 0)) := hw
  refine lv_aload_n hx hb dX6_meet_0 rfl (lv_at hl 0 rfl) ?_
  refine va_get (D := D) (ci := 6) (v := .ref (ad 1)) (C := RX6) (T := TX6) (N := 9) hx hb hW inW_X6 hown hK hP 0 rfl rfl 0 (by decide) (hW _ fl_X6_10) (fun _ h9 => h9) rfl dX6_meet_1 ?_
  refine lv_iload_n hx hb dX6_meet_4 rfl (lv_at hl 1 rfl) ?_
  refine lv_iload_n hx hb dX6_meet_5 rfl (lv_at hl 2 rfl) ?_
  refine callF (va_runV (As := [.int x1, .int x2]) (rest := []) ⟨hx, hb, hml, hown, hW⟩ (c_X2_hasBoth l D cI cZ ad 1 Y0 x1 x2 _ rfl) (cwV0 hW mV_X2_hasBoth ml_X6_150 ⟨Nat.le_of_ble_eq_true rfl, Nat.le_of_ble_eq_true rfl⟩) (preV0 0 rfl rfl hK hN hP hD [1] rfl rfl) rfl rfl hl.1 rfl (lv_room (Nat.le_of_ble_eq_true rfl)) dX6_meet_6 ⟨Nat.le_refl _, Nat.le_refl _⟩) ?_
  refine W.eq (g2 := F0 m 9 ls [.int (F_X2_hasBoth Y0 x1 x2)]) rfl ?_
  refine lv_if_ne (tgt := 14) hx hb dX6_meet_9 (by decide) (fun c1 => ?_) (fun c1 => ?_)
  · have hw := Eq.mp (if_neg c1) hw
    refine lv_iconst (v := 0) hx hb dX6_meet_14 (by decide) ?_
    refine lv_istore_n (lv' := [(3, .int 0), (0, .ref (ad 0)), (1, .int x1), (2, .int x2)]) hx hb dX6_meet_15 rfl hl (by decide) rfl (fun ls hl => ?_)
    obtain ⟨N5, hw⟩ := hw
    refine L16  _ (fun  ls hl hw => ?_) N5 0 _ (lv_sub hl [1, 2, 3, 0] rfl) hw
    refine lv_bipush (v := (-6)) hx hb dX6_meet_55 (by decide) ?_
    exact W.iret (v := (-6)) hx hb hr (fun t ht _ => ⟨⟨_, rfl, ⟨_, rfl, hw⟩⟩, ht⟩) (fun _ h => by cases h) dX6_meet_57
  · have hw := Eq.mp (if_pos c1) hw
    refine lv_iconst (v := (-1)) hx hb dX6_meet_12 (by decide) ?_
    exact W.iret (v := (-1)) hx hb hr (fun t ht _ => ⟨⟨_, rfl, ⟨_, rfl, hw⟩⟩, ht⟩) (fun _ h => by cases h) dX6_meet_13
set_option maxHeartbeats 4000000 in
set_option maxRecDepth 100000 in
theorem c_X6_together (l : Launch) (D : va_G) (cI cZ : ClassId) (ad : Nat → Nat) (Y0 : St) (x1 : Int32) (x2 : Int32) (x3 : Int32) (k : Int32 → Prop) (hw : wp_X6_together Y0 x1 x2 x3 k) : KR l yX6_together cX6_together 6 (some .int) 3 69 D cI cZ [.ref (ad 0), .int x1, .int x2, .int x3] [xcell ad, rcells cI ad 1 Y0] (fun v => ∃ r, v = some (.int r) ∧ k r) := by
  refine Met.ofE (by decide +kernel) (Nat.le_of_ble_eq_true rfl) ?_
  intro p e s m below meth c E ls hl
  obtain ⟨hx, hb, hr, hml, hW, hown, hlocks, hP, hK, hD, hN⟩ := E
  have hl : lv_has ls 6 [(0, .ref (ad 0)), (1, .int x1), (2, .int x2), (3, .int x3)] := hl
  have L61 : ∀  (kx : Int32 → Prop), (∀ (y4 : Int32), ∀ ls : Array Slot, lv_has ls 6 [(4, .int y4)] → kx y4 → W p l e { frames := 3, cells := 0, slots := 0, locals := 69 } s m ([.ref (ad 0), .int x1, .int x2, .int x3] : List Value).toArray below meth c s.heap [] 0 0 (MQ below (QR (fun v => ∃ r, v = some (.int r) ∧ k r)) ([.ref (ad 0), .int x1, .int x2, .int x3] : List Value).toArray s 0 0 (fun _ => False)) (F0 m 108 ls [])) → ∀ (N61 : Nat) (y4 : Int32) (y5 : Int32), ∀ ls : Array Slot, lv_has ls 6 [(0, .ref (ad 0)), (1, .int x1), (2, .int x2), (3, .int x3), (4, .int y4), (5, .int y5)] → wl_X6_together_61 Y0 x1 x2 x3 kx N61 y4 y5 → W p l e { frames := 3, cells := 0, slots := 0, locals := 69 } s m ([.ref (ad 0), .int x1, .int x2, .int x3] : List Value).toArray below meth c s.heap [] 0 0 (MQ below (QR (fun v => ∃ r, v = some (.int r) ∧ k r)) ([.ref (ad 0), .int x1, .int x2, .int x3] : List Value).toArray s 0 0 (fun _ => False)) (F0 m 61 ls []) := by
    intro  kx hxt N61
    induction N61 with
    | zero => intro y4 y5 ls hl hw; exact False.elim hw
    | succ N61 ih =>
      intro y4 y5 ls hl hw
      have hw : (if (Y0.1 0) ≤ y5 then (kx y4) else (if (F_X2_shareALand Y0 x1 x2 y5) = 0 then (wl_X6_together_61 Y0 x1 x2 x3 kx N61 y4 (y5 + 1)) else (wl_X6_together_61 Y0 x1 x2 x3 kx N61 (y4 + (F_X2_daysLikeSeason Y0 y5 x3)) (y5 + 1)))) := hw
      refine lv_iload hx hb dX6_together_61 (lv_at hl 5 rfl) ?_
      refine lv_aload_n hx hb dX6_together_63 rfl (lv_at hl 0 rfl) ?_
      refine va_get (D := D) (ci := 6) (v := .ref (ad 1)) (C := RX6) (T := TX6) (N := 9) hx hb hW inW_X6 hown hK hP 0 rfl rfl 0 (by decide) (hW _ fl_X6_10) (fun _ h9 => h9) rfl dX6_together_64 ?_
      refine va_get (D := D) (ci := 2) (v := .int (Y0.1 0)) (C := RX2) (T := TX2) (N := 15) hx hb hW inW_X2 hown hK hP 1 rfl rfl 0 (by decide) (hW _ fl_X6_73) (fun _ h9 => h9) rfl dX6_together_67 ?_
      refine lv_icmp_ge (tgt := 108) hx hb dX6_together_70 (by decide) (fun c4 => ?_) (fun c4 => ?_)
      · have hw := Eq.mp (if_pos c4) hw
        exact hxt y4 _ (lv_sub hl [4] rfl) hw
      · have hw := Eq.mp (if_neg c4) hw
        refine lv_aload_n hx hb dX6_together_73 rfl (lv_at hl 0 rfl) ?_
        refine va_get (D := D) (ci := 6) (v := .ref (ad 1)) (C := RX6) (T := TX6) (N := 9) hx hb hW inW_X6 hown hK hP 0 rfl rfl 0 (by decide) (hW _ fl_X6_10) (fun _ h9 => h9) rfl dX6_together_74 ?_
        refine lv_iload_n hx hb dX6_together_77 rfl (lv_at hl 1 rfl) ?_
        refine lv_iload_n hx hb dX6_together_78 rfl (lv_at hl 2 rfl) ?_
        refine lv_iload hx hb dX6_together_79 (lv_at hl 5 rfl) ?_
        refine callF (va_runV (As := [.int x1, .int x2, .int y5]) (rest := []) ⟨hx, hb, hml, hown, hW⟩ (c_X2_shareALand l D cI cZ ad 1 Y0 x1 x2 y5 _ rfl) (cwV0 hW mV_X2_shareALand ml_X6_154 ⟨Nat.le_of_ble_eq_true rfl, Nat.le_of_ble_eq_true rfl⟩) (preV0 0 rfl rfl hK hN hP hD [1] rfl rfl) rfl rfl hl.1 rfl (lv_room (Nat.le_of_ble_eq_true rfl)) dX6_together_81 ⟨Nat.le_refl _, Nat.le_refl _⟩) ?_
        refine W.eq (g2 := F0 m 84 ls [.int (F_X2_shareALand Y0 x1 x2 y5)]) rfl ?_
        refine lv_if_eq (tgt := 102) hx hb dX6_together_84 (by decide) (fun c5 => ?_) (fun c5 => ?_)
        · have hw := Eq.mp (if_pos c5) hw
          refine lv_iinc (v := (y5 + 1)) (lv' := [(5, .int (y5 + 1)), (0, .ref (ad 0)), (1, .int x1), (2, .int x2), (3, .int x3), (4, .int y4)]) hx hb dX6_together_102 hl (k := 5) rfl rfl (by decide) rfl (fun ls hl => ?_)
          refine lv_goto (tgt := 61) hx hb dX6_together_105 (by decide) ?_
          exact ih y4 (y5 + 1) _ (lv_sub hl [1, 2, 3, 4, 5, 0] rfl) hw
        · have hw := Eq.mp (if_neg c5) hw
          refine lv_iload hx hb dX6_together_87 (lv_at hl 4 rfl) ?_
          refine lv_aload_n hx hb dX6_together_89 rfl (lv_at hl 0 rfl) ?_
          refine va_get (D := D) (ci := 6) (v := .ref (ad 1)) (C := RX6) (T := TX6) (N := 9) hx hb hW inW_X6 hown hK hP 0 rfl rfl 0 (by decide) (hW _ fl_X6_10) (fun _ h9 => h9) rfl dX6_together_90 ?_
          refine lv_iload hx hb dX6_together_93 (lv_at hl 5 rfl) ?_
          refine lv_iload_n hx hb dX6_together_95 rfl (lv_at hl 3 rfl) ?_
          refine callF (va_runV (As := [.int y5, .int x3]) (rest := [.int y4]) ⟨hx, hb, hml, hown, hW⟩ (c_X2_daysLikeSeason l D cI cZ ad 1 Y0 y5 x3 _ rfl) (cwV0 hW mV_X2_daysLikeSeason ml_X6_165 ⟨Nat.le_of_ble_eq_true rfl, Nat.le_of_ble_eq_true rfl⟩) (preV0 0 rfl rfl hK hN hP hD [1] rfl rfl) rfl rfl hl.1 rfl (lv_room (Nat.le_of_ble_eq_true rfl)) dX6_together_96 ⟨Nat.le_refl _, Nat.le_refl _⟩) ?_
          refine W.eq (g2 := F0 m 99 ls [.int (F_X2_daysLikeSeason Y0 y5 x3), .int y4]) rfl ?_
          refine lv_iadd hx hb dX6_together_99 ?_
          refine lv_istore (lv' := [(4, .int (y4 + (F_X2_daysLikeSeason Y0 y5 x3))), (0, .ref (ad 0)), (1, .int x1), (2, .int x2), (3, .int x3), (5, .int y5)]) hx hb dX6_together_100 hl (by decide) rfl (fun ls hl => ?_)
          refine lv_iinc (v := (y5 + 1)) (lv' := [(5, .int (y5 + 1)), (4, .int (y4 + (F_X2_daysLikeSeason Y0 y5 x3))), (0, .ref (ad 0)), (1, .int x1), (2, .int x2), (3, .int x3)]) hx hb dX6_together_102 hl (k := 5) rfl rfl (by decide) rfl (fun ls hl => ?_)
          refine lv_goto (tgt := 61) hx hb dX6_together_105 (by decide) ?_
          exact ih (y4 + (F_X2_daysLikeSeason Y0 y5 x3)) (y5 + 1) _ (lv_sub hl [2, 3, 4, 5, 1, 0] rfl) hw
  have hw : (if (F_X2_hasBoth Y0 x1 x2) = 0 then (k (-1)) else (if (F_X6_within x3 0 9999) = 0 then (k (-2)) else (if (F_X2_shareALand Y0 x1 x2 0) = 0 then (∃ M7, wl_X6_together_61 Y0 x1 x2 x3 (fun (v6 : Int32) => (k v6)) M7 0 1) else (∃ M10, wl_X6_together_61 Y0 x1 x2 x3 (fun (v9 : Int32) => (k v9)) M10 (jmin x3 (F_X2_firstDayAfter Y0 1)) 1)))) := hw
  refine lv_aload_n hx hb dX6_together_0 rfl (lv_at hl 0 rfl) ?_
  refine va_get (D := D) (ci := 6) (v := .ref (ad 1)) (C := RX6) (T := TX6) (N := 9) hx hb hW inW_X6 hown hK hP 0 rfl rfl 0 (by decide) (hW _ fl_X6_10) (fun _ h9 => h9) rfl dX6_together_1 ?_
  refine lv_iload_n hx hb dX6_together_4 rfl (lv_at hl 1 rfl) ?_
  refine lv_iload_n hx hb dX6_together_5 rfl (lv_at hl 2 rfl) ?_
  refine callF (va_runV (As := [.int x1, .int x2]) (rest := []) ⟨hx, hb, hml, hown, hW⟩ (c_X2_hasBoth l D cI cZ ad 1 Y0 x1 x2 _ rfl) (cwV0 hW mV_X2_hasBoth ml_X6_150 ⟨Nat.le_of_ble_eq_true rfl, Nat.le_of_ble_eq_true rfl⟩) (preV0 0 rfl rfl hK hN hP hD [1] rfl rfl) rfl rfl hl.1 rfl (lv_room (Nat.le_of_ble_eq_true rfl)) dX6_together_6 ⟨Nat.le_refl _, Nat.le_refl _⟩) ?_
  refine W.eq (g2 := F0 m 9 ls [.int (F_X2_hasBoth Y0 x1 x2)]) rfl ?_
  refine lv_if_ne (tgt := 14) hx hb dX6_together_9 (by decide) (fun c1 => ?_) (fun c1 => ?_)
  · have hw := Eq.mp (if_neg c1) hw
    refine lv_iload_n hx hb dX6_together_14 rfl (lv_at hl 3 rfl) ?_
    refine lv_iconst (v := 0) hx hb dX6_together_15 (by decide) ?_
    refine lv_sipush (v := 9999) hx hb dX6_together_16 (by decide) ?_
    refine callF (va_runS (As := [.int x3, .int 0, .int 9999]) (rest := []) ⟨hx, hb, hml, hown, hW⟩ (c_X6_within l D cI cZ x3 0 9999 _ rfl) (cwS0 hW mS_X6_within ml_X6_69 ⟨Nat.le_of_ble_eq_true rfl, Nat.le_of_ble_eq_true rfl⟩) (preS0 hK hN hP hD [] rfl rfl) rfl rfl hl.1 rfl (lv_room (Nat.le_of_ble_eq_true rfl)) dX6_together_19 ⟨Nat.le_refl _, Nat.le_refl _⟩) ?_
    refine W.eq (g2 := F0 m 22 ls [.int (F_X6_within x3 0 9999)]) rfl ?_
    refine lv_if_ne (tgt := 28) hx hb dX6_together_22 (by decide) (fun c2 => ?_) (fun c2 => ?_)
    · have hw := Eq.mp (if_neg c2) hw
      refine lv_iconst (v := 0) hx hb dX6_together_28 (by decide) ?_
      refine lv_istore (lv' := [(4, .int 0), (0, .ref (ad 0)), (1, .int x1), (2, .int x2), (3, .int x3)]) hx hb dX6_together_29 hl (by decide) rfl (fun ls hl => ?_)
      refine lv_aload_n hx hb dX6_together_31 rfl (lv_at hl 1 rfl) ?_
      refine va_get (D := D) (ci := 6) (v := .ref (ad 1)) (C := RX6) (T := TX6) (N := 9) hx hb hW inW_X6 hown hK hP 0 rfl rfl 0 (by decide) (hW _ fl_X6_10) (fun _ h9 => h9) rfl dX6_together_32 ?_
      refine lv_iload_n hx hb dX6_together_35 rfl (lv_at hl 2 rfl) ?_
      refine lv_iload_n hx hb dX6_together_36 rfl (lv_at hl 3 rfl) ?_
      refine lv_iconst (v := 0) hx hb dX6_together_37 (by decide) ?_
      refine callF (va_runV (As := [.int x1, .int x2, .int 0]) (rest := []) ⟨hx, hb, hml, hown, hW⟩ (c_X2_shareALand l D cI cZ ad 1 Y0 x1 x2 0 _ rfl) (cwV0 hW mV_X2_shareALand ml_X6_154 ⟨Nat.le_of_ble_eq_true rfl, Nat.le_of_ble_eq_true rfl⟩) (preV0 0 rfl rfl hK hN hP hD [1] rfl rfl) rfl rfl hl.1 rfl (lv_room (Nat.le_of_ble_eq_true rfl)) dX6_together_38 ⟨Nat.le_refl _, Nat.le_refl _⟩) ?_
      refine W.eq (g2 := F0 m 41 ls [.int (F_X2_shareALand Y0 x1 x2 0)]) rfl ?_
      refine lv_if_eq (tgt := 58) hx hb dX6_together_41 (by decide) (fun c3 => ?_) (fun c3 => ?_)
      · have hw := Eq.mp (if_pos c3) hw
        refine lv_iconst (v := 1) hx hb dX6_together_58 (by decide) ?_
        refine lv_istore (lv' := [(5, .int 1), (4, .int 0), (0, .ref (ad 0)), (1, .int x1), (2, .int x2), (3, .int x3)]) hx hb dX6_together_59 hl (by decide) rfl (fun ls hl => ?_)
        obtain ⟨N8, hw⟩ := hw
        refine L61  _ (fun v6 ls hl hw => ?_) N8 0 1 _ (lv_sub hl [2, 3, 4, 5, 1, 0] rfl) hw
        refine lv_iload hx hb dX6_together_108 (lv_at hl 0 rfl) ?_
        exact W.iret (v := v6) hx hb hr (fun t ht _ => ⟨⟨_, rfl, ⟨_, rfl, hw⟩⟩, ht⟩) (fun _ h => by cases h) dX6_together_110
      · have hw := Eq.mp (if_neg c3) hw
        refine lv_iload_n hx hb dX6_together_44 rfl (lv_at hl 4 rfl) ?_
        refine lv_aload_n hx hb dX6_together_45 rfl (lv_at hl 1 rfl) ?_
        refine va_get (D := D) (ci := 6) (v := .ref (ad 1)) (C := RX6) (T := TX6) (N := 9) hx hb hW inW_X6 hown hK hP 0 rfl rfl 0 (by decide) (hW _ fl_X6_10) (fun _ h9 => h9) rfl dX6_together_46 ?_
        refine lv_iconst (v := 1) hx hb dX6_together_49 (by decide) ?_
        refine callF (va_runV (As := [.int 1]) (rest := [.int x3]) ⟨hx, hb, hml, hown, hW⟩ (c_X2_firstDayAfter l D cI cZ ad 1 Y0 1 _ rfl) (cwV0 hW mV_X2_firstDayAfter ml_X6_157 ⟨Nat.le_of_ble_eq_true rfl, Nat.le_of_ble_eq_true rfl⟩) (preV0 0 rfl rfl hK hN hP hD [1] rfl rfl) rfl rfl hl.1 rfl (lv_room (Nat.le_of_ble_eq_true rfl)) dX6_together_50 ⟨Nat.le_refl _, Nat.le_refl _⟩) ?_
        refine W.eq (g2 := F0 m 53 ls [.int (F_X2_firstDayAfter Y0 1), .int x3]) rfl ?_
        refine va_mmin hx hb (hml.trans hl.1.symm) hown (hW _ ml_X6_160) (hW _ st_J9_min_7cf53) (hW _ ini_J9) (hW _ cd_J9_min_7cf53) (Nat.le_of_ble_eq_true rfl) (Nat.le_of_ble_eq_true rfl) (Nat.le_refl _) (Nat.le_refl _) dX6_together_53 ?_
        refine W.eq (g2 := F0 m 56 ls [.int (jmin x3 (F_X2_firstDayAfter Y0 1))]) rfl ?_
        refine lv_istore (lv' := [(4, .int (jmin x3 (F_X2_firstDayAfter Y0 1))), (0, .ref (ad 0)), (1, .int x1), (2, .int x2), (3, .int x3)]) hx hb dX6_together_56 hl (by decide) rfl (fun ls hl => ?_)
        refine lv_iconst (v := 1) hx hb dX6_together_58 (by decide) ?_
        refine lv_istore (lv' := [(5, .int 1), (4, .int (jmin x3 (F_X2_firstDayAfter Y0 1))), (0, .ref (ad 0)), (1, .int x1), (2, .int x2), (3, .int x3)]) hx hb dX6_together_59 hl (by decide) rfl (fun ls hl => ?_)
        obtain ⟨N11, hw⟩ := hw
        refine L61  _ (fun v9 ls hl hw => ?_) N11 (jmin x3 (F_X2_firstDayAfter Y0 1)) 1 _ (lv_sub hl [2, 3, 4, 5, 1, 0] rfl) hw
        refine lv_iload hx hb dX6_together_108 (lv_at hl 0 rfl) ?_
        exact W.iret (v := v9) hx hb hr (fun t ht _ => ⟨⟨_, rfl, ⟨_, rfl, hw⟩⟩, ht⟩) (fun _ h => by cases h) dX6_together_110
    · have hw := Eq.mp (if_pos c2) hw
      refine lv_bipush (v := (-2)) hx hb dX6_together_25 (by decide) ?_
      exact W.iret (v := (-2)) hx hb hr (fun t ht _ => ⟨⟨_, rfl, ⟨_, rfl, hw⟩⟩, ht⟩) (fun _ h => by cases h) dX6_together_27
  · have hw := Eq.mp (if_pos c1) hw
    refine lv_iconst (v := (-1)) hx hb dX6_together_12 (by decide) ?_
    exact W.iret (v := (-1)) hx hb hr (fun t ht _ => ⟨⟨_, rfl, ⟨_, rfl, hw⟩⟩, ht⟩) (fun _ h => by cases h) dX6_together_13
set_option maxHeartbeats 4000000 in
set_option maxRecDepth 100000 in
theorem c_X6_begin (l : Launch) (D : va_G) (cI cZ : ClassId) (ad : Nat → Nat) (Y0 : St) (x1 : Int32) (x2 : Int32) (x3 : Int32) (k : Int32 → Prop) (hw : wp_X6_begin Y0 x1 x2 x3 k) : KR l yX6_begin cX6_begin 4 (some .int) 4 95 D cI cZ [.ref (ad 0), .int x1, .int x2, .int x3] [xcell ad, rcells cI ad 1 Y0] (fun v => ∃ r, v = some (.int r) ∧ k r) := by
  refine Met.ofE (by decide +kernel) (Nat.le_of_ble_eq_true rfl) ?_
  intro p e s m below meth c E ls hl
  obtain ⟨hx, hb, hr, hml, hW, hown, hlocks, hP, hK, hD, hN⟩ := E
  have hl : lv_has ls 4 [(0, .ref (ad 0)), (1, .int x1), (2, .int x2), (3, .int x3)] := hl
  have hw : (if (F_X2_hasBoth Y0 x1 x2) = 0 then (k (-1)) else (if (F_X6_within x3 1 400) = 0 then (k (-2)) else (wp_X2_firstWar Y0 x1 x2 x3 (fun (v3 : Int32) => (k v3))))) := hw
  refine lv_aload_n hx hb dX6_begin_0 rfl (lv_at hl 0 rfl) ?_
  refine va_get (D := D) (ci := 6) (v := .ref (ad 1)) (C := RX6) (T := TX6) (N := 9) hx hb hW inW_X6 hown hK hP 0 rfl rfl 0 (by decide) (hW _ fl_X6_10) (fun _ h9 => h9) rfl dX6_begin_1 ?_
  refine lv_iload_n hx hb dX6_begin_4 rfl (lv_at hl 1 rfl) ?_
  refine lv_iload_n hx hb dX6_begin_5 rfl (lv_at hl 2 rfl) ?_
  refine callF (va_runV (As := [.int x1, .int x2]) (rest := []) ⟨hx, hb, hml, hown, hW⟩ (c_X2_hasBoth l D cI cZ ad 1 Y0 x1 x2 _ rfl) (cwV0 hW mV_X2_hasBoth ml_X6_150 ⟨Nat.le_of_ble_eq_true rfl, Nat.le_of_ble_eq_true rfl⟩) (preV0 0 rfl rfl hK hN hP hD [1] rfl rfl) rfl rfl hl.1 rfl (lv_room (Nat.le_of_ble_eq_true rfl)) dX6_begin_6 ⟨Nat.le_refl _, Nat.le_refl _⟩) ?_
  refine W.eq (g2 := F0 m 9 ls [.int (F_X2_hasBoth Y0 x1 x2)]) rfl ?_
  refine lv_if_ne (tgt := 14) hx hb dX6_begin_9 (by decide) (fun c1 => ?_) (fun c1 => ?_)
  · have hw := Eq.mp (if_neg c1) hw
    refine lv_iload_n hx hb dX6_begin_14 rfl (lv_at hl 3 rfl) ?_
    refine lv_iconst (v := 1) hx hb dX6_begin_15 (by decide) ?_
    refine lv_sipush (v := 400) hx hb dX6_begin_16 (by decide) ?_
    refine callF (va_runS (As := [.int x3, .int 1, .int 400]) (rest := []) ⟨hx, hb, hml, hown, hW⟩ (c_X6_within l D cI cZ x3 1 400 _ rfl) (cwS0 hW mS_X6_within ml_X6_69 ⟨Nat.le_of_ble_eq_true rfl, Nat.le_of_ble_eq_true rfl⟩) (preS0 hK hN hP hD [] rfl rfl) rfl rfl hl.1 rfl (lv_room (Nat.le_of_ble_eq_true rfl)) dX6_begin_19 ⟨Nat.le_refl _, Nat.le_refl _⟩) ?_
    refine W.eq (g2 := F0 m 22 ls [.int (F_X6_within x3 1 400)]) rfl ?_
    refine lv_if_ne (tgt := 28) hx hb dX6_begin_22 (by decide) (fun c2 => ?_) (fun c2 => ?_)
    · have hw := Eq.mp (if_neg c2) hw
      refine lv_aload_n hx hb dX6_begin_28 rfl (lv_at hl 0 rfl) ?_
      refine va_get (D := D) (ci := 6) (v := .ref (ad 1)) (C := RX6) (T := TX6) (N := 9) hx hb hW inW_X6 hown hK hP 0 rfl rfl 0 (by decide) (hW _ fl_X6_10) (fun _ h9 => h9) rfl dX6_begin_29 ?_
      refine lv_iload_n hx hb dX6_begin_32 rfl (lv_at hl 1 rfl) ?_
      refine lv_iload_n hx hb dX6_begin_33 rfl (lv_at hl 2 rfl) ?_
      refine lv_iload_n hx hb dX6_begin_34 rfl (lv_at hl 3 rfl) ?_
      refine callR (va_runV (As := [.int x1, .int x2, .int x3]) (rest := []) ⟨hx, hb, hml, hown, hW⟩ (c_X2_firstWar l D cI cZ ad 1 Y0 x1 x2 x3 _ hw) (cwV0 hW mV_X2_firstWar ml_X6_168 ⟨Nat.le_of_ble_eq_true rfl, Nat.le_of_ble_eq_true rfl⟩) (preV0 0 rfl rfl hK hN hP hD [1] rfl rfl) rfl rfl hl.1 rfl (lv_room (Nat.le_of_ble_eq_true rfl)) dX6_begin_35 ⟨Nat.le_refl _, Nat.le_refl _⟩) (fun v9 hq => ?_)
      obtain ⟨v3, rfl, hw⟩ := hq
      refine W.eq (g2 := F0 m 38 ls [.int v3]) rfl ?_
      exact W.iret (v := v3) hx hb hr (fun t ht _ => ⟨⟨_, rfl, ⟨_, rfl, hw⟩⟩, ht⟩) (fun _ h => by cases h) dX6_begin_38
    · have hw := Eq.mp (if_pos c2) hw
      refine lv_bipush (v := (-2)) hx hb dX6_begin_25 (by decide) ?_
      exact W.iret (v := (-2)) hx hb hr (fun t ht _ => ⟨⟨_, rfl, ⟨_, rfl, hw⟩⟩, ht⟩) (fun _ h => by cases h) dX6_begin_27
  · have hw := Eq.mp (if_pos c1) hw
    refine lv_iconst (v := (-1)) hx hb dX6_begin_12 (by decide) ?_
    exact W.iret (v := (-1)) hx hb hr (fun t ht _ => ⟨⟨_, rfl, ⟨_, rfl, hw⟩⟩, ht⟩) (fun _ h => by cases h) dX6_begin_13
set_option maxHeartbeats 4000000 in
set_option maxRecDepth 100000 in
theorem c_X6_longest (l : Launch) (D : va_G) (cI cZ : ClassId) (ad : Nat → Nat) (Y0 : St) (x1 : Int32) (x2 : Int32) (x3 : Int32) (k : Int32 → Prop) (hw : wp_X6_longest Y0 x1 x2 x3 k) : KR l yX6_longest cX6_longest 4 (some .int) 3 70 D cI cZ [.ref (ad 0), .int x1, .int x2, .int x3] [xcell ad, rcells cI ad 1 Y0] (fun v => ∃ r, v = some (.int r) ∧ k r) := by
  refine Met.ofE (by decide +kernel) (Nat.le_of_ble_eq_true rfl) ?_
  intro p e s m below meth c E ls hl
  obtain ⟨hx, hb, hr, hml, hW, hown, hlocks, hP, hK, hD, hN⟩ := E
  have hl : lv_has ls 4 [(0, .ref (ad 0)), (1, .int x1), (2, .int x2), (3, .int x3)] := hl
  have hw : (if (F_X2_hasBoth Y0 x1 x2) = 0 then (k (-1)) else (if (F_X6_within x3 0 9999) = 0 then (k (-2)) else (wp_X2_daysAway Y0 x1 x2 x3 (fun (v3 : Int32) => (k v3))))) := hw
  refine lv_aload_n hx hb dX6_longest_0 rfl (lv_at hl 0 rfl) ?_
  refine va_get (D := D) (ci := 6) (v := .ref (ad 1)) (C := RX6) (T := TX6) (N := 9) hx hb hW inW_X6 hown hK hP 0 rfl rfl 0 (by decide) (hW _ fl_X6_10) (fun _ h9 => h9) rfl dX6_longest_1 ?_
  refine lv_iload_n hx hb dX6_longest_4 rfl (lv_at hl 1 rfl) ?_
  refine lv_iload_n hx hb dX6_longest_5 rfl (lv_at hl 2 rfl) ?_
  refine callF (va_runV (As := [.int x1, .int x2]) (rest := []) ⟨hx, hb, hml, hown, hW⟩ (c_X2_hasBoth l D cI cZ ad 1 Y0 x1 x2 _ rfl) (cwV0 hW mV_X2_hasBoth ml_X6_150 ⟨Nat.le_of_ble_eq_true rfl, Nat.le_of_ble_eq_true rfl⟩) (preV0 0 rfl rfl hK hN hP hD [1] rfl rfl) rfl rfl hl.1 rfl (lv_room (Nat.le_of_ble_eq_true rfl)) dX6_longest_6 ⟨Nat.le_refl _, Nat.le_refl _⟩) ?_
  refine W.eq (g2 := F0 m 9 ls [.int (F_X2_hasBoth Y0 x1 x2)]) rfl ?_
  refine lv_if_ne (tgt := 14) hx hb dX6_longest_9 (by decide) (fun c1 => ?_) (fun c1 => ?_)
  · have hw := Eq.mp (if_neg c1) hw
    refine lv_iload_n hx hb dX6_longest_14 rfl (lv_at hl 3 rfl) ?_
    refine lv_iconst (v := 0) hx hb dX6_longest_15 (by decide) ?_
    refine lv_sipush (v := 9999) hx hb dX6_longest_16 (by decide) ?_
    refine callF (va_runS (As := [.int x3, .int 0, .int 9999]) (rest := []) ⟨hx, hb, hml, hown, hW⟩ (c_X6_within l D cI cZ x3 0 9999 _ rfl) (cwS0 hW mS_X6_within ml_X6_69 ⟨Nat.le_of_ble_eq_true rfl, Nat.le_of_ble_eq_true rfl⟩) (preS0 hK hN hP hD [] rfl rfl) rfl rfl hl.1 rfl (lv_room (Nat.le_of_ble_eq_true rfl)) dX6_longest_19 ⟨Nat.le_refl _, Nat.le_refl _⟩) ?_
    refine W.eq (g2 := F0 m 22 ls [.int (F_X6_within x3 0 9999)]) rfl ?_
    refine lv_if_ne (tgt := 28) hx hb dX6_longest_22 (by decide) (fun c2 => ?_) (fun c2 => ?_)
    · have hw := Eq.mp (if_neg c2) hw
      refine lv_aload_n hx hb dX6_longest_28 rfl (lv_at hl 0 rfl) ?_
      refine va_get (D := D) (ci := 6) (v := .ref (ad 1)) (C := RX6) (T := TX6) (N := 9) hx hb hW inW_X6 hown hK hP 0 rfl rfl 0 (by decide) (hW _ fl_X6_10) (fun _ h9 => h9) rfl dX6_longest_29 ?_
      refine lv_iload_n hx hb dX6_longest_32 rfl (lv_at hl 1 rfl) ?_
      refine lv_iload_n hx hb dX6_longest_33 rfl (lv_at hl 2 rfl) ?_
      refine lv_iload_n hx hb dX6_longest_34 rfl (lv_at hl 3 rfl) ?_
      refine callR (va_runV (As := [.int x1, .int x2, .int x3]) (rest := []) ⟨hx, hb, hml, hown, hW⟩ (c_X2_daysAway l D cI cZ ad 1 Y0 x1 x2 x3 _ hw) (cwV0 hW mV_X2_daysAway ml_X6_172 ⟨Nat.le_of_ble_eq_true rfl, Nat.le_of_ble_eq_true rfl⟩) (preV0 0 rfl rfl hK hN hP hD [1] rfl rfl) rfl rfl hl.1 rfl (lv_room (Nat.le_of_ble_eq_true rfl)) dX6_longest_35 ⟨Nat.le_refl _, Nat.le_refl _⟩) (fun v9 hq => ?_)
      obtain ⟨v3, rfl, hw⟩ := hq
      refine W.eq (g2 := F0 m 38 ls [.int v3]) rfl ?_
      exact W.iret (v := v3) hx hb hr (fun t ht _ => ⟨⟨_, rfl, ⟨_, rfl, hw⟩⟩, ht⟩) (fun _ h => by cases h) dX6_longest_38
    · have hw := Eq.mp (if_pos c2) hw
      refine lv_bipush (v := (-2)) hx hb dX6_longest_25 (by decide) ?_
      exact W.iret (v := (-2)) hx hb hr (fun t ht _ => ⟨⟨_, rfl, ⟨_, rfl, hw⟩⟩, ht⟩) (fun _ h => by cases h) dX6_longest_27
  · have hw := Eq.mp (if_pos c1) hw
    refine lv_iconst (v := (-1)) hx hb dX6_longest_12 (by decide) ?_
    exact W.iret (v := (-1)) hx hb hr (fun t ht _ => ⟨⟨_, rfl, ⟨_, rfl, hw⟩⟩, ht⟩) (fun _ h => by cases h) dX6_longest_13
set_option maxHeartbeats 4000000 in
set_option maxRecDepth 100000 in
theorem c_X6_struck (l : Launch) (D : va_G) (cI cZ : ClassId) (ad : Nat → Nat) (Y0 : St) (x1 : Int32) (x2 : Int32) (x3 : Int32) (k : Int32 → Prop) (hw : wp_X6_struck Y0 x1 x2 x3 k) : KR l yX6_struck cX6_struck 6 (some .int) 3 70 D cI cZ [.ref (ad 0), .int x1, .int x2, .int x3] [xcell ad, rcells cI ad 1 Y0] (fun v => ∃ r, v = some (.int r) ∧ k r) := by
  refine Met.ofE (by decide +kernel) (Nat.le_of_ble_eq_true rfl) ?_
  intro p e s m below meth c E ls hl
  obtain ⟨hx, hb, hr, hml, hW, hown, hlocks, hP, hK, hD, hN⟩ := E
  have hl : lv_has ls 6 [(0, .ref (ad 0)), (1, .int x1), (2, .int x2), (3, .int x3)] := hl
  have L44 : ∀  (kx : Int32 → Prop), (∀ (y4 : Int32), ∀ ls : Array Slot, lv_has ls 6 [(4, .int y4)] → kx y4 → W p l e { frames := 3, cells := 0, slots := 0, locals := 70 } s m ([.ref (ad 0), .int x1, .int x2, .int x3] : List Value).toArray below meth c s.heap [] 0 0 (MQ below (QR (fun v => ∃ r, v = some (.int r) ∧ k r)) ([.ref (ad 0), .int x1, .int x2, .int x3] : List Value).toArray s 0 0 (fun _ => False)) (F0 m 92 ls [])) → ∀ (N44 : Nat) (y4 : Int32) (y5 : Int32), ∀ ls : Array Slot, lv_has ls 6 [(0, .ref (ad 0)), (1, .int x1), (2, .int x2), (3, .int x3), (4, .int y4), (5, .int y5)] → wl_X6_struck_44 Y0 x1 x2 x3 kx N44 y4 y5 → W p l e { frames := 3, cells := 0, slots := 0, locals := 70 } s m ([.ref (ad 0), .int x1, .int x2, .int x3] : List Value).toArray below meth c s.heap [] 0 0 (MQ below (QR (fun v => ∃ r, v = some (.int r) ∧ k r)) ([.ref (ad 0), .int x1, .int x2, .int x3] : List Value).toArray s 0 0 (fun _ => False)) (F0 m 44 ls []) := by
    intro  kx hxt N44
    induction N44 with
    | zero => intro y4 y5 ls hl hw; exact False.elim hw
    | succ N44 ih =>
      intro y4 y5 ls hl hw
      have hw : (if (Y0.1 0) ≤ y5 then (kx y4) else (if y5 = x1 then (wl_X6_struck_44 Y0 x1 x2 x3 kx N44 y4 (y5 + 1)) else (wp_X2_daysAway Y0 y5 x1 x2 (fun (v6 : Int32) => (if v6 < x3 then (wl_X6_struck_44 Y0 x1 x2 x3 kx N44 y4 (y5 + 1)) else (wl_X6_struck_44 Y0 x1 x2 x3 kx N44 (y4 ||| ((1 : Int32) <<< (y5 &&& 31))) (y5 + 1))))))) := hw
      refine lv_iload hx hb dX6_struck_44 (lv_at hl 5 rfl) ?_
      refine lv_aload_n hx hb dX6_struck_46 rfl (lv_at hl 0 rfl) ?_
      refine va_get (D := D) (ci := 6) (v := .ref (ad 1)) (C := RX6) (T := TX6) (N := 9) hx hb hW inW_X6 hown hK hP 0 rfl rfl 0 (by decide) (hW _ fl_X6_10) (fun _ h9 => h9) rfl dX6_struck_47 ?_
      refine va_get (D := D) (ci := 2) (v := .int (Y0.1 0)) (C := RX2) (T := TX2) (N := 15) hx hb hW inW_X2 hown hK hP 1 rfl rfl 0 (by decide) (hW _ fl_X6_73) (fun _ h9 => h9) rfl dX6_struck_50 ?_
      refine lv_icmp_ge (tgt := 92) hx hb dX6_struck_53 (by decide) (fun c4 => ?_) (fun c4 => ?_)
      · have hw := Eq.mp (if_pos c4) hw
        exact hxt y4 _ (lv_sub hl [4] rfl) hw
      · have hw := Eq.mp (if_neg c4) hw
        refine lv_iload hx hb dX6_struck_56 (lv_at hl 5 rfl) ?_
        refine lv_iload_n hx hb dX6_struck_58 rfl (lv_at hl 1 rfl) ?_
        refine lv_icmp_eq (tgt := 86) hx hb dX6_struck_59 (by decide) (fun c5 => ?_) (fun c5 => ?_)
        · have hw := Eq.mp (if_pos c5) hw
          refine lv_iinc (v := (y5 + 1)) (lv' := [(5, .int (y5 + 1)), (0, .ref (ad 0)), (1, .int x1), (2, .int x2), (3, .int x3), (4, .int y4)]) hx hb dX6_struck_86 hl (k := 5) rfl rfl (by decide) rfl (fun ls hl => ?_)
          refine lv_goto (tgt := 44) hx hb dX6_struck_89 (by decide) ?_
          exact ih y4 (y5 + 1) _ (lv_sub hl [1, 2, 3, 4, 5, 0] rfl) hw
        · have hw := Eq.mp (if_neg c5) hw
          refine lv_aload_n hx hb dX6_struck_62 rfl (lv_at hl 0 rfl) ?_
          refine va_get (D := D) (ci := 6) (v := .ref (ad 1)) (C := RX6) (T := TX6) (N := 9) hx hb hW inW_X6 hown hK hP 0 rfl rfl 0 (by decide) (hW _ fl_X6_10) (fun _ h9 => h9) rfl dX6_struck_63 ?_
          refine lv_iload hx hb dX6_struck_66 (lv_at hl 5 rfl) ?_
          refine lv_iload_n hx hb dX6_struck_68 rfl (lv_at hl 1 rfl) ?_
          refine lv_iload_n hx hb dX6_struck_69 rfl (lv_at hl 2 rfl) ?_
          refine callR (va_runV (As := [.int y5, .int x1, .int x2]) (rest := []) ⟨hx, hb, hml, hown, hW⟩ (c_X2_daysAway l D cI cZ ad 1 Y0 y5 x1 x2 _ hw) (cwV0 hW mV_X2_daysAway ml_X6_172 ⟨Nat.le_of_ble_eq_true rfl, Nat.le_of_ble_eq_true rfl⟩) (preV0 0 rfl rfl hK hN hP hD [1] rfl rfl) rfl rfl hl.1 rfl (lv_room (Nat.le_of_ble_eq_true rfl)) dX6_struck_70 ⟨Nat.le_refl _, Nat.le_refl _⟩) (fun v9 hq => ?_)
          obtain ⟨v6, rfl, hw⟩ := hq
          refine W.eq (g2 := F0 m 73 ls [.int v6]) rfl ?_
          refine lv_iload_n hx hb dX6_struck_73 rfl (lv_at hl 3 rfl) ?_
          refine lv_icmp_lt (tgt := 86) hx hb dX6_struck_74 (by decide) (fun c7 => ?_) (fun c7 => ?_)
          · have hw := Eq.mp (if_pos c7) hw
            refine lv_iinc (v := (y5 + 1)) (lv' := [(5, .int (y5 + 1)), (0, .ref (ad 0)), (1, .int x1), (2, .int x2), (3, .int x3), (4, .int y4)]) hx hb dX6_struck_86 hl (k := 5) rfl rfl (by decide) rfl (fun ls hl => ?_)
            refine lv_goto (tgt := 44) hx hb dX6_struck_89 (by decide) ?_
            exact ih y4 (y5 + 1) _ (lv_sub hl [1, 2, 3, 4, 5, 0] rfl) hw
          · have hw := Eq.mp (if_neg c7) hw
            refine lv_iload hx hb dX6_struck_77 (lv_at hl 4 rfl) ?_
            refine lv_iconst (v := 1) hx hb dX6_struck_79 (by decide) ?_
            refine lv_iload hx hb dX6_struck_80 (lv_at hl 5 rfl) ?_
            refine lv_ishl hx hb dX6_struck_82 ?_
            refine lv_ior hx hb dX6_struck_83 ?_
            refine lv_istore (lv' := [(4, .int (y4 ||| ((1 : Int32) <<< (y5 &&& 31)))), (0, .ref (ad 0)), (1, .int x1), (2, .int x2), (3, .int x3), (5, .int y5)]) hx hb dX6_struck_84 hl (by decide) rfl (fun ls hl => ?_)
            refine lv_iinc (v := (y5 + 1)) (lv' := [(5, .int (y5 + 1)), (4, .int (y4 ||| ((1 : Int32) <<< (y5 &&& 31)))), (0, .ref (ad 0)), (1, .int x1), (2, .int x2), (3, .int x3)]) hx hb dX6_struck_86 hl (k := 5) rfl rfl (by decide) rfl (fun ls hl => ?_)
            refine lv_goto (tgt := 44) hx hb dX6_struck_89 (by decide) ?_
            exact ih (y4 ||| ((1 : Int32) <<< (y5 &&& 31))) (y5 + 1) _ (lv_sub hl [2, 3, 4, 5, 1, 0] rfl) hw
  have hw : (if (F_X2_has Y0 x1) = 0 then (k (-1)) else (if (F_X6_within x2 0 9999) = 0 then (k (-2)) else (if (F_X6_within x3 1 400) = 0 then (k (-2)) else (∃ M9, wl_X6_struck_44 Y0 x1 x2 x3 (fun (v8 : Int32) => (k v8)) M9 0 0)))) := hw
  refine lv_aload_n hx hb dX6_struck_0 rfl (lv_at hl 0 rfl) ?_
  refine va_get (D := D) (ci := 6) (v := .ref (ad 1)) (C := RX6) (T := TX6) (N := 9) hx hb hW inW_X6 hown hK hP 0 rfl rfl 0 (by decide) (hW _ fl_X6_10) (fun _ h9 => h9) rfl dX6_struck_1 ?_
  refine lv_iload_n hx hb dX6_struck_4 rfl (lv_at hl 1 rfl) ?_
  refine callF (va_runV (As := [.int x1]) (rest := []) ⟨hx, hb, hml, hown, hW⟩ (c_X2_has l D cI cZ ad 1 Y0 x1 _ rfl) (cwV0 hW mV_X2_has ml_X6_79 ⟨Nat.le_of_ble_eq_true rfl, Nat.le_of_ble_eq_true rfl⟩) (preV0 0 rfl rfl hK hN hP hD [1] rfl rfl) rfl rfl hl.1 rfl (lv_room (Nat.le_of_ble_eq_true rfl)) dX6_struck_5 ⟨Nat.le_refl _, Nat.le_refl _⟩) ?_
  refine W.eq (g2 := F0 m 8 ls [.int (F_X2_has Y0 x1)]) rfl ?_
  refine lv_if_ne (tgt := 13) hx hb dX6_struck_8 (by decide) (fun c1 => ?_) (fun c1 => ?_)
  · have hw := Eq.mp (if_neg c1) hw
    refine lv_iload_n hx hb dX6_struck_13 rfl (lv_at hl 2 rfl) ?_
    refine lv_iconst (v := 0) hx hb dX6_struck_14 (by decide) ?_
    refine lv_sipush (v := 9999) hx hb dX6_struck_15 (by decide) ?_
    refine callF (va_runS (As := [.int x2, .int 0, .int 9999]) (rest := []) ⟨hx, hb, hml, hown, hW⟩ (c_X6_within l D cI cZ x2 0 9999 _ rfl) (cwS0 hW mS_X6_within ml_X6_69 ⟨Nat.le_of_ble_eq_true rfl, Nat.le_of_ble_eq_true rfl⟩) (preS0 hK hN hP hD [] rfl rfl) rfl rfl hl.1 rfl (lv_room (Nat.le_of_ble_eq_true rfl)) dX6_struck_18 ⟨Nat.le_refl _, Nat.le_refl _⟩) ?_
    refine W.eq (g2 := F0 m 21 ls [.int (F_X6_within x2 0 9999)]) rfl ?_
    refine lv_if_eq (tgt := 35) hx hb dX6_struck_21 (by decide) (fun c2 => ?_) (fun c2 => ?_)
    · have hw := Eq.mp (if_pos c2) hw
      refine lv_bipush (v := (-2)) hx hb dX6_struck_35 (by decide) ?_
      exact W.iret (v := (-2)) hx hb hr (fun t ht _ => ⟨⟨_, rfl, ⟨_, rfl, hw⟩⟩, ht⟩) (fun _ h => by cases h) dX6_struck_37
    · have hw := Eq.mp (if_neg c2) hw
      refine lv_iload_n hx hb dX6_struck_24 rfl (lv_at hl 3 rfl) ?_
      refine lv_iconst (v := 1) hx hb dX6_struck_25 (by decide) ?_
      refine lv_sipush (v := 400) hx hb dX6_struck_26 (by decide) ?_
      refine callF (va_runS (As := [.int x3, .int 1, .int 400]) (rest := []) ⟨hx, hb, hml, hown, hW⟩ (c_X6_within l D cI cZ x3 1 400 _ rfl) (cwS0 hW mS_X6_within ml_X6_69 ⟨Nat.le_of_ble_eq_true rfl, Nat.le_of_ble_eq_true rfl⟩) (preS0 hK hN hP hD [] rfl rfl) rfl rfl hl.1 rfl (lv_room (Nat.le_of_ble_eq_true rfl)) dX6_struck_29 ⟨Nat.le_refl _, Nat.le_refl _⟩) ?_
      refine W.eq (g2 := F0 m 32 ls [.int (F_X6_within x3 1 400)]) rfl ?_
      refine lv_if_ne (tgt := 38) hx hb dX6_struck_32 (by decide) (fun c3 => ?_) (fun c3 => ?_)
      · have hw := Eq.mp (if_neg c3) hw
        refine lv_iconst (v := 0) hx hb dX6_struck_38 (by decide) ?_
        refine lv_istore (lv' := [(4, .int 0), (0, .ref (ad 0)), (1, .int x1), (2, .int x2), (3, .int x3)]) hx hb dX6_struck_39 hl (by decide) rfl (fun ls hl => ?_)
        refine lv_iconst (v := 0) hx hb dX6_struck_41 (by decide) ?_
        refine lv_istore (lv' := [(5, .int 0), (4, .int 0), (0, .ref (ad 0)), (1, .int x1), (2, .int x2), (3, .int x3)]) hx hb dX6_struck_42 hl (by decide) rfl (fun ls hl => ?_)
        obtain ⟨N10, hw⟩ := hw
        refine L44  _ (fun v8 ls hl hw => ?_) N10 0 0 _ (lv_sub hl [2, 3, 4, 5, 1, 0] rfl) hw
        refine lv_iload hx hb dX6_struck_92 (lv_at hl 0 rfl) ?_
        exact W.iret (v := v8) hx hb hr (fun t ht _ => ⟨⟨_, rfl, ⟨_, rfl, hw⟩⟩, ht⟩) (fun _ h => by cases h) dX6_struck_94
      · have hw := Eq.mp (if_pos c3) hw
        refine lv_bipush (v := (-2)) hx hb dX6_struck_35 (by decide) ?_
        exact W.iret (v := (-2)) hx hb hr (fun t ht _ => ⟨⟨_, rfl, ⟨_, rfl, hw⟩⟩, ht⟩) (fun _ h => by cases h) dX6_struck_37
  · have hw := Eq.mp (if_pos c1) hw
    refine lv_iconst (v := (-1)) hx hb dX6_struck_11 (by decide) ?_
    exact W.iret (v := (-1)) hx hb hr (fun t ht _ => ⟨⟨_, rfl, ⟨_, rfl, hw⟩⟩, ht⟩) (fun _ h => by cases h) dX6_struck_12
set_option maxHeartbeats 4000000 in
set_option maxRecDepth 100000 in
theorem c_X6_sure (l : Launch) (D : va_G) (cI cZ : ClassId) (ad : Nat → Nat) (Y0 : St) (x1 : Int32) (k : Int32 → Prop) (hw : wp_X6_sure Y0 x1 k) : KR l yX6_sure cX6_sure 6 (some .int) 4 95 D cI cZ [.ref (ad 0), .int x1] [xcell ad, rcells cI ad 1 Y0] (fun v => ∃ r, v = some (.int r) ∧ k r) := by
  refine Met.ofE (by decide +kernel) (Nat.le_of_ble_eq_true rfl) ?_
  intro p e s m below meth c E ls hl
  obtain ⟨hx, hb, hr, hml, hW, hown, hlocks, hP, hK, hD, hN⟩ := E
  have hl : lv_has ls 6 [(0, .ref (ad 0)), (1, .int x1)] := hl
  have L35 : ∀ (y2 : Int32) (y3 : Int32) (kx : Int32 → Prop), (∀ (y4 : Int32), ∀ ls : Array Slot, lv_has ls 6 [(0, .ref (ad 0)), (1, .int x1), (2, .int y2), (3, .int y3), (4, .int y4)] → kx y4 → W p l e { frames := 4, cells := 0, slots := 0, locals := 95 } s m ([.ref (ad 0), .int x1] : List Value).toArray below meth c s.heap [] 0 0 (MQ below (QR (fun v => ∃ r, v = some (.int r) ∧ k r)) ([.ref (ad 0), .int x1] : List Value).toArray s 0 0 (fun _ => False)) (F0 m 85 ls [])) → ∀ (N35 : Nat) (y4 : Int32) (y5 : Int32), ∀ ls : Array Slot, lv_has ls 6 [(0, .ref (ad 0)), (1, .int x1), (2, .int y2), (3, .int y3), (4, .int y4), (5, .int y5)] → wl_X6_sure_35 Y0 x1 y3 kx N35 y4 y5 → W p l e { frames := 4, cells := 0, slots := 0, locals := 95 } s m ([.ref (ad 0), .int x1] : List Value).toArray below meth c s.heap [] 0 0 (MQ below (QR (fun v => ∃ r, v = some (.int r) ∧ k r)) ([.ref (ad 0), .int x1] : List Value).toArray s 0 0 (fun _ => False)) (F0 m 35 ls []) := by
    intro y2 y3 kx hxt N35
    induction N35 with
    | zero => intro y4 y5 ls hl hw; exact False.elim hw
    | succ N35 ih =>
      intro y4 y5 ls hl hw
      have hw : (if (Y0.1 0) ≤ y5 then (kx y4) else (if y5 = y3 then (wl_X6_sure_35 Y0 x1 y3 kx N35 (y4 ||| 0) (y5 + 1)) else (wp_X2_firstWar Y0 y5 y3 x1 (fun (v5 : Int32) => (if v5 = (-6) then (wl_X6_sure_35 Y0 x1 y3 kx N35 (y4 ||| 0) (y5 + 1)) else (wl_X6_sure_35 Y0 x1 y3 kx N35 (y4 ||| 1) (y5 + 1))))))) := hw
      refine lv_iload hx hb dX6_sure_35 (lv_at hl 5 rfl) ?_
      refine lv_aload_n hx hb dX6_sure_37 rfl (lv_at hl 0 rfl) ?_
      refine va_get (D := D) (ci := 6) (v := .ref (ad 1)) (C := RX6) (T := TX6) (N := 9) hx hb hW inW_X6 hown hK hP 0 rfl rfl 0 (by decide) (hW _ fl_X6_10) (fun _ h9 => h9) rfl dX6_sure_38 ?_
      refine va_get (D := D) (ci := 2) (v := .int (Y0.1 0)) (C := RX2) (T := TX2) (N := 15) hx hb hW inW_X2 hown hK hP 1 rfl rfl 0 (by decide) (hW _ fl_X6_73) (fun _ h9 => h9) rfl dX6_sure_41 ?_
      refine lv_icmp_ge (tgt := 85) hx hb dX6_sure_44 (by decide) (fun c3 => ?_) (fun c3 => ?_)
      · have hw := Eq.mp (if_pos c3) hw
        exact hxt y4 _ (lv_sub hl [0, 1, 2, 3, 4] rfl) hw
      · have hw := Eq.mp (if_neg c3) hw
        refine lv_iload hx hb dX6_sure_47 (lv_at hl 4 rfl) ?_
        refine lv_iload hx hb dX6_sure_49 (lv_at hl 5 rfl) ?_
        refine lv_iload_n hx hb dX6_sure_51 rfl (lv_at hl 3 rfl) ?_
        refine lv_icmp_eq (tgt := 75) hx hb dX6_sure_52 (by decide) (fun c4 => ?_) (fun c4 => ?_)
        · have hw := Eq.mp (if_pos c4) hw
          refine lv_iconst (v := 0) hx hb dX6_sure_75 (by decide) ?_
          refine lv_ior hx hb dX6_sure_76 ?_
          refine lv_istore (lv' := [(4, .int (y4 ||| 0)), (0, .ref (ad 0)), (1, .int x1), (2, .int y2), (3, .int y3), (5, .int y5)]) hx hb dX6_sure_77 hl (by decide) rfl (fun ls hl => ?_)
          refine lv_iinc (v := (y5 + 1)) (lv' := [(5, .int (y5 + 1)), (4, .int (y4 ||| 0)), (0, .ref (ad 0)), (1, .int x1), (2, .int y2), (3, .int y3)]) hx hb dX6_sure_79 hl (k := 5) rfl rfl (by decide) rfl (fun ls hl => ?_)
          refine lv_goto (tgt := 35) hx hb dX6_sure_82 (by decide) ?_
          exact ih (y4 ||| 0) (y5 + 1) _ (lv_sub hl [2, 3, 4, 5, 1, 0] rfl) hw
        · have hw := Eq.mp (if_neg c4) hw
          refine lv_aload_n hx hb dX6_sure_55 rfl (lv_at hl 0 rfl) ?_
          refine va_get (D := D) (ci := 6) (v := .ref (ad 1)) (C := RX6) (T := TX6) (N := 9) hx hb hW inW_X6 hown hK hP 0 rfl rfl 0 (by decide) (hW _ fl_X6_10) (fun _ h9 => h9) rfl dX6_sure_56 ?_
          refine lv_iload hx hb dX6_sure_59 (lv_at hl 5 rfl) ?_
          refine lv_iload_n hx hb dX6_sure_61 rfl (lv_at hl 3 rfl) ?_
          refine lv_iload_n hx hb dX6_sure_62 rfl (lv_at hl 1 rfl) ?_
          refine callR (va_runV (As := [.int y5, .int y3, .int x1]) (rest := [.int y4]) ⟨hx, hb, hml, hown, hW⟩ (c_X2_firstWar l D cI cZ ad 1 Y0 y5 y3 x1 _ hw) (cwV0 hW mV_X2_firstWar ml_X6_168 ⟨Nat.le_of_ble_eq_true rfl, Nat.le_of_ble_eq_true rfl⟩) (preV0 0 rfl rfl hK hN hP hD [1] rfl rfl) rfl rfl hl.1 rfl (lv_room (Nat.le_of_ble_eq_true rfl)) dX6_sure_63 ⟨Nat.le_refl _, Nat.le_refl _⟩) (fun v9 hq => ?_)
          obtain ⟨v5, rfl, hw⟩ := hq
          refine W.eq (g2 := F0 m 66 ls [.int v5, .int y4]) rfl ?_
          refine lv_bipush (v := (-6)) hx hb dX6_sure_66 (by decide) ?_
          refine lv_icmp_eq (tgt := 75) hx hb dX6_sure_68 (by decide) (fun c6 => ?_) (fun c6 => ?_)
          · have hw := Eq.mp (if_pos c6) hw
            refine lv_iconst (v := 0) hx hb dX6_sure_75 (by decide) ?_
            refine lv_ior hx hb dX6_sure_76 ?_
            refine lv_istore (lv' := [(4, .int (y4 ||| 0)), (0, .ref (ad 0)), (1, .int x1), (2, .int y2), (3, .int y3), (5, .int y5)]) hx hb dX6_sure_77 hl (by decide) rfl (fun ls hl => ?_)
            refine lv_iinc (v := (y5 + 1)) (lv' := [(5, .int (y5 + 1)), (4, .int (y4 ||| 0)), (0, .ref (ad 0)), (1, .int x1), (2, .int y2), (3, .int y3)]) hx hb dX6_sure_79 hl (k := 5) rfl rfl (by decide) rfl (fun ls hl => ?_)
            refine lv_goto (tgt := 35) hx hb dX6_sure_82 (by decide) ?_
            exact ih (y4 ||| 0) (y5 + 1) _ (lv_sub hl [2, 3, 4, 5, 1, 0] rfl) hw
          · have hw := Eq.mp (if_neg c6) hw
            refine lv_iconst (v := 1) hx hb dX6_sure_71 (by decide) ?_
            refine lv_goto (tgt := 76) hx hb dX6_sure_72 (by decide) ?_
            refine lv_ior hx hb dX6_sure_76 ?_
            refine lv_istore (lv' := [(4, .int (y4 ||| 1)), (0, .ref (ad 0)), (1, .int x1), (2, .int y2), (3, .int y3), (5, .int y5)]) hx hb dX6_sure_77 hl (by decide) rfl (fun ls hl => ?_)
            refine lv_iinc (v := (y5 + 1)) (lv' := [(5, .int (y5 + 1)), (4, .int (y4 ||| 1)), (0, .ref (ad 0)), (1, .int x1), (2, .int y2), (3, .int y3)]) hx hb dX6_sure_79 hl (k := 5) rfl rfl (by decide) rfl (fun ls hl => ?_)
            refine lv_goto (tgt := 35) hx hb dX6_sure_82 (by decide) ?_
            exact ih (y4 ||| 1) (y5 + 1) _ (lv_sub hl [2, 3, 4, 5, 1, 0] rfl) hw
  have L18 : ∀  (kx : Int32 → Prop), (∀ (y2 : Int32), ∀ ls : Array Slot, lv_has ls 6 [(2, .int y2)] → kx y2 → W p l e { frames := 4, cells := 0, slots := 0, locals := 95 } s m ([.ref (ad 0), .int x1] : List Value).toArray below meth c s.heap [] 0 0 (MQ below (QR (fun v => ∃ r, v = some (.int r) ∧ k r)) ([.ref (ad 0), .int x1] : List Value).toArray s 0 0 (fun _ => False)) (F0 m 102 ls [])) → ∀ (N18 : Nat) (y2 : Int32) (y3 : Int32), ∀ ls : Array Slot, lv_has ls 6 [(0, .ref (ad 0)), (1, .int x1), (2, .int y2), (3, .int y3)] → wl_X6_sure_18 Y0 x1 kx N18 y2 y3 → W p l e { frames := 4, cells := 0, slots := 0, locals := 95 } s m ([.ref (ad 0), .int x1] : List Value).toArray below meth c s.heap [] 0 0 (MQ below (QR (fun v => ∃ r, v = some (.int r) ∧ k r)) ([.ref (ad 0), .int x1] : List Value).toArray s 0 0 (fun _ => False)) (F0 m 18 ls []) := by
    intro  kx hxt N18
    induction N18 with
    | zero => intro y2 y3 ls hl hw; exact False.elim hw
    | succ N18 ih =>
      intro y2 y3 ls hl hw
      have hw : (if (Y0.1 0) ≤ y3 then (kx y2) else (∃ M9, wl_X6_sure_35 Y0 x1 y3 (fun (v7 : Int32) => (if v7 = 0 then (wl_X6_sure_18 Y0 x1 kx N18 (y2 ||| ((1 : Int32) <<< (y3 &&& 31))) (y3 + 1)) else (wl_X6_sure_18 Y0 x1 kx N18 y2 (y3 + 1)))) M9 0 0)) := hw
      refine lv_iload_n hx hb dX6_sure_18 rfl (lv_at hl 3 rfl) ?_
      refine lv_aload_n hx hb dX6_sure_19 rfl (lv_at hl 0 rfl) ?_
      refine va_get (D := D) (ci := 6) (v := .ref (ad 1)) (C := RX6) (T := TX6) (N := 9) hx hb hW inW_X6 hown hK hP 0 rfl rfl 0 (by decide) (hW _ fl_X6_10) (fun _ h9 => h9) rfl dX6_sure_20 ?_
      refine va_get (D := D) (ci := 2) (v := .int (Y0.1 0)) (C := RX2) (T := TX2) (N := 15) hx hb hW inW_X2 hown hK hP 1 rfl rfl 0 (by decide) (hW _ fl_X6_73) (fun _ h9 => h9) rfl dX6_sure_23 ?_
      refine lv_icmp_ge (tgt := 102) hx hb dX6_sure_26 (by decide) (fun c2 => ?_) (fun c2 => ?_)
      · have hw := Eq.mp (if_pos c2) hw
        exact hxt y2 _ (lv_sub hl [2] rfl) hw
      · have hw := Eq.mp (if_neg c2) hw
        refine lv_iconst (v := 0) hx hb dX6_sure_29 (by decide) ?_
        refine lv_istore (lv' := [(4, .int 0), (0, .ref (ad 0)), (1, .int x1), (2, .int y2), (3, .int y3)]) hx hb dX6_sure_30 hl (by decide) rfl (fun ls hl => ?_)
        refine lv_iconst (v := 0) hx hb dX6_sure_32 (by decide) ?_
        refine lv_istore (lv' := [(5, .int 0), (4, .int 0), (0, .ref (ad 0)), (1, .int x1), (2, .int y2), (3, .int y3)]) hx hb dX6_sure_33 hl (by decide) rfl (fun ls hl => ?_)
        obtain ⟨N10, hw⟩ := hw
        refine L35 y2 y3 _ (fun v7 ls hl hw => ?_) N10 0 0 _ (lv_sub hl [2, 3, 4, 5, 1, 0] rfl) hw
        refine lv_iload hx hb dX6_sure_85 (lv_at hl 4 rfl) ?_
        refine lv_if_ne (tgt := 96) hx hb dX6_sure_87 (by decide) (fun c8 => ?_) (fun c8 => ?_)
        · have hw := Eq.mp (if_neg c8) hw
          refine lv_iinc (v := (y3 + 1)) (lv' := [(3, .int (y3 + 1)), (0, .ref (ad 0)), (1, .int x1), (2, .int y2), (4, .int v7)]) hx hb dX6_sure_96 hl (k := 3) rfl rfl (by decide) rfl (fun ls hl => ?_)
          refine lv_goto (tgt := 18) hx hb dX6_sure_99 (by decide) ?_
          exact ih y2 (y3 + 1) _ (lv_sub hl [1, 2, 3, 0] rfl) hw
        · have hw := Eq.mp (if_pos c8) hw
          refine lv_iload_n hx hb dX6_sure_90 rfl (lv_at hl 2 rfl) ?_
          refine lv_iconst (v := 1) hx hb dX6_sure_91 (by decide) ?_
          refine lv_iload_n hx hb dX6_sure_92 rfl (lv_at hl 3 rfl) ?_
          refine lv_ishl hx hb dX6_sure_93 ?_
          refine lv_ior hx hb dX6_sure_94 ?_
          refine lv_istore_n (lv' := [(2, .int (y2 ||| ((1 : Int32) <<< (y3 &&& 31)))), (0, .ref (ad 0)), (1, .int x1), (3, .int y3), (4, .int v7)]) hx hb dX6_sure_95 rfl hl (by decide) rfl (fun ls hl => ?_)
          refine lv_iinc (v := (y3 + 1)) (lv' := [(3, .int (y3 + 1)), (2, .int (y2 ||| ((1 : Int32) <<< (y3 &&& 31)))), (0, .ref (ad 0)), (1, .int x1), (4, .int v7)]) hx hb dX6_sure_96 hl (k := 3) rfl rfl (by decide) rfl (fun ls hl => ?_)
          refine lv_goto (tgt := 18) hx hb dX6_sure_99 (by decide) ?_
          exact ih (y2 ||| ((1 : Int32) <<< (y3 &&& 31))) (y3 + 1) _ (lv_sub hl [2, 3, 1, 0] rfl) hw
  have hw : (if (F_X6_within x1 1 400) = 0 then (k (-2)) else (∃ M12, wl_X6_sure_18 Y0 x1 (fun (v11 : Int32) => (k v11)) M12 0 0)) := hw
  refine lv_iload_n hx hb dX6_sure_0 rfl (lv_at hl 1 rfl) ?_
  refine lv_iconst (v := 1) hx hb dX6_sure_1 (by decide) ?_
  refine lv_sipush (v := 400) hx hb dX6_sure_2 (by decide) ?_
  refine callF (va_runS (As := [.int x1, .int 1, .int 400]) (rest := []) ⟨hx, hb, hml, hown, hW⟩ (c_X6_within l D cI cZ x1 1 400 _ rfl) (cwS0 hW mS_X6_within ml_X6_69 ⟨Nat.le_of_ble_eq_true rfl, Nat.le_of_ble_eq_true rfl⟩) (preS0 hK hN hP hD [] rfl rfl) rfl rfl hl.1 rfl (lv_room (Nat.le_of_ble_eq_true rfl)) dX6_sure_5 ⟨Nat.le_refl _, Nat.le_refl _⟩) ?_
  refine W.eq (g2 := F0 m 8 ls [.int (F_X6_within x1 1 400)]) rfl ?_
  refine lv_if_ne (tgt := 14) hx hb dX6_sure_8 (by decide) (fun c1 => ?_) (fun c1 => ?_)
  · have hw := Eq.mp (if_neg c1) hw
    refine lv_iconst (v := 0) hx hb dX6_sure_14 (by decide) ?_
    refine lv_istore_n (lv' := [(2, .int 0), (0, .ref (ad 0)), (1, .int x1)]) hx hb dX6_sure_15 rfl hl (by decide) rfl (fun ls hl => ?_)
    refine lv_iconst (v := 0) hx hb dX6_sure_16 (by decide) ?_
    refine lv_istore_n (lv' := [(3, .int 0), (2, .int 0), (0, .ref (ad 0)), (1, .int x1)]) hx hb dX6_sure_17 rfl hl (by decide) rfl (fun ls hl => ?_)
    obtain ⟨N13, hw⟩ := hw
    refine L18  _ (fun v11 ls hl hw => ?_) N13 0 0 _ (lv_sub hl [2, 3, 1, 0] rfl) hw
    refine lv_iload_n hx hb dX6_sure_102 rfl (lv_at hl 0 rfl) ?_
    exact W.iret (v := v11) hx hb hr (fun t ht _ => ⟨⟨_, rfl, ⟨_, rfl, hw⟩⟩, ht⟩) (fun _ h => by cases h) dX6_sure_103
  · have hw := Eq.mp (if_pos c1) hw
    refine lv_bipush (v := (-2)) hx hb dX6_sure_11 (by decide) ?_
    exact W.iret (v := (-2)) hx hb hr (fun t ht _ => ⟨⟨_, rfl, ⟨_, rfl, hw⟩⟩, ht⟩) (fun _ h => by cases h) dX6_sure_13
set_option maxHeartbeats 4000000 in
set_option maxRecDepth 100000 in
theorem c_X6_fooled (l : Launch) (D : va_G) (cI cZ : ClassId) (ad : Nat → Nat) (Y0 : St) (x1 : Int32) (x2 : Int32) (x3 : Int32) (k : Int32 → Prop) (hw : wp_X6_fooled Y0 x1 x2 x3 k) : KR l yX6_fooled cX6_fooled 8 (some .int) 3 70 D cI cZ [.ref (ad 0), .int x1, .int x2, .int x3] [xcell ad, rcells cI ad 1 Y0] (fun v => ∃ r, v = some (.int r) ∧ k r) := by
  refine Met.ofE (by decide +kernel) (Nat.le_of_ble_eq_true rfl) ?_
  intro p e s m below meth c E ls hl
  obtain ⟨hx, hb, hr, hml, hW, hown, hlocks, hP, hK, hD, hN⟩ := E
  have hl : lv_has ls 8 [(0, .ref (ad 0)), (1, .int x1), (2, .int x2), (3, .int x3)] := hl
  have L44 : ∀  (kx : Int32 → Prop), (∀ (y4 : Int32), ∀ ls : Array Slot, lv_has ls 8 [(4, .int y4)] → kx y4 → W p l e { frames := 3, cells := 0, slots := 0, locals := 70 } s m ([.ref (ad 0), .int x1, .int x2, .int x3] : List Value).toArray below meth c s.heap [] 0 0 (MQ below (QR (fun v => ∃ r, v = some (.int r) ∧ k r)) ([.ref (ad 0), .int x1, .int x2, .int x3] : List Value).toArray s 0 0 (fun _ => False)) (F0 m 138 ls [])) → ∀ (N44 : Nat) (y4 : Int32) (y5 : Int32), ∀ ls : Array Slot, lv_has ls 8 [(0, .ref (ad 0)), (1, .int x1), (2, .int x2), (3, .int x3), (4, .int y4), (5, .int y5)] → wl_X6_fooled_44 Y0 x1 x2 x3 kx N44 y4 y5 → W p l e { frames := 3, cells := 0, slots := 0, locals := 70 } s m ([.ref (ad 0), .int x1, .int x2, .int x3] : List Value).toArray below meth c s.heap [] 0 0 (MQ below (QR (fun v => ∃ r, v = some (.int r) ∧ k r)) ([.ref (ad 0), .int x1, .int x2, .int x3] : List Value).toArray s 0 0 (fun _ => False)) (F0 m 44 ls []) := by
    intro  kx hxt N44
    induction N44 with
    | zero => intro y4 y5 ls hl hw; exact False.elim hw
    | succ N44 ih =>
      intro y4 y5 ls hl hw
      have hw : (if (Y0.1 0) ≤ y5 then (kx y4) else (wp_X2_daysAway Y0 y5 x1 x2 (fun (v5 : Int32) => (if v5 < x3 then (wp_X2_bearerOf Y0 y5 (fun (v7 : Int32) => (wp_X2_daysAway Y0 v7 x1 x2 (fun (v8 : Int32) => (if v8 < x3 then (if y5 = x1 then (wl_X6_fooled_44 Y0 x1 x2 x3 kx N44 y4 (y5 + 1)) else (wl_X6_fooled_44 Y0 x1 x2 x3 kx N44 y4 (y5 + 1))) else (if y5 = x1 then (wl_X6_fooled_44 Y0 x1 x2 x3 kx N44 y4 (y5 + 1)) else (wl_X6_fooled_44 Y0 x1 x2 x3 kx N44 (y4 ||| ((1 : Int32) <<< (y5 &&& 31))) (y5 + 1)))))))) else (wp_X2_bearerOf Y0 y5 (fun (v12 : Int32) => (wp_X2_daysAway Y0 v12 x1 x2 (fun (v13 : Int32) => (if v13 < x3 then (if y5 = x1 then (wl_X6_fooled_44 Y0 x1 x2 x3 kx N44 y4 (y5 + 1)) else (wl_X6_fooled_44 Y0 x1 x2 x3 kx N44 y4 (y5 + 1))) else (if y5 = x1 then (wl_X6_fooled_44 Y0 x1 x2 x3 kx N44 y4 (y5 + 1)) else (wl_X6_fooled_44 Y0 x1 x2 x3 kx N44 y4 (y5 + 1)))))))))))) := hw
      refine lv_iload hx hb dX6_fooled_44 (lv_at hl 5 rfl) ?_
      refine lv_aload_n hx hb dX6_fooled_46 rfl (lv_at hl 0 rfl) ?_
      refine va_get (D := D) (ci := 6) (v := .ref (ad 1)) (C := RX6) (T := TX6) (N := 9) hx hb hW inW_X6 hown hK hP 0 rfl rfl 0 (by decide) (hW _ fl_X6_10) (fun _ h9 => h9) rfl dX6_fooled_47 ?_
      refine va_get (D := D) (ci := 2) (v := .int (Y0.1 0)) (C := RX2) (T := TX2) (N := 15) hx hb hW inW_X2 hown hK hP 1 rfl rfl 0 (by decide) (hW _ fl_X6_73) (fun _ h9 => h9) rfl dX6_fooled_50 ?_
      refine lv_icmp_ge (tgt := 138) hx hb dX6_fooled_53 (by decide) (fun c4 => ?_) (fun c4 => ?_)
      · have hw := Eq.mp (if_pos c4) hw
        exact hxt y4 _ (lv_sub hl [4] rfl) hw
      · have hw := Eq.mp (if_neg c4) hw
        refine lv_aload_n hx hb dX6_fooled_56 rfl (lv_at hl 0 rfl) ?_
        refine va_get (D := D) (ci := 6) (v := .ref (ad 1)) (C := RX6) (T := TX6) (N := 9) hx hb hW inW_X6 hown hK hP 0 rfl rfl 0 (by decide) (hW _ fl_X6_10) (fun _ h9 => h9) rfl dX6_fooled_57 ?_
        refine lv_iload hx hb dX6_fooled_60 (lv_at hl 5 rfl) ?_
        refine lv_iload_n hx hb dX6_fooled_62 rfl (lv_at hl 1 rfl) ?_
        refine lv_iload_n hx hb dX6_fooled_63 rfl (lv_at hl 2 rfl) ?_
        refine callR (va_runV (As := [.int y5, .int x1, .int x2]) (rest := []) ⟨hx, hb, hml, hown, hW⟩ (c_X2_daysAway l D cI cZ ad 1 Y0 y5 x1 x2 _ hw) (cwV0 hW mV_X2_daysAway ml_X6_172 ⟨Nat.le_of_ble_eq_true rfl, Nat.le_of_ble_eq_true rfl⟩) (preV0 0 rfl rfl hK hN hP hD [1] rfl rfl) rfl rfl hl.1 rfl (lv_room (Nat.le_of_ble_eq_true rfl)) dX6_fooled_64 ⟨Nat.le_refl _, Nat.le_refl _⟩) (fun v9 hq => ?_)
        obtain ⟨v5, rfl, hw⟩ := hq
        refine W.eq (g2 := F0 m 67 ls [.int v5]) rfl ?_
        refine lv_iload_n hx hb dX6_fooled_67 rfl (lv_at hl 3 rfl) ?_
        refine lv_icmp_lt (tgt := 75) hx hb dX6_fooled_68 (by decide) (fun c6 => ?_) (fun c6 => ?_)
        · have hw := Eq.mp (if_pos c6) hw
          refine lv_iconst (v := 0) hx hb dX6_fooled_75 (by decide) ?_
          refine lv_istore (lv' := [(6, .int 0), (0, .ref (ad 0)), (1, .int x1), (2, .int x2), (3, .int x3), (4, .int y4), (5, .int y5)]) hx hb dX6_fooled_76 hl (by decide) rfl (fun ls hl => ?_)
          refine lv_aload_n hx hb dX6_fooled_78 rfl (lv_at hl 1 rfl) ?_
          refine va_get (D := D) (ci := 6) (v := .ref (ad 1)) (C := RX6) (T := TX6) (N := 9) hx hb hW inW_X6 hown hK hP 0 rfl rfl 0 (by decide) (hW _ fl_X6_10) (fun _ h9 => h9) rfl dX6_fooled_79 ?_
          refine lv_aload_n hx hb dX6_fooled_82 rfl (lv_at hl 1 rfl) ?_
          refine va_get (D := D) (ci := 6) (v := .ref (ad 1)) (C := RX6) (T := TX6) (N := 9) hx hb hW inW_X6 hown hK hP 0 rfl rfl 0 (by decide) (hW _ fl_X6_10) (fun _ h9 => h9) rfl dX6_fooled_83 ?_
          refine lv_iload hx hb dX6_fooled_86 (lv_at hl 6 rfl) ?_
          refine callR (va_runV (As := [.int y5]) (rest := [.ref (ad 1)]) ⟨hx, hb, hml, hown, hW⟩ (c_X2_bearerOf l D cI cZ ad 1 Y0 y5 _ hw) (cwV0 hW mV_X2_bearerOf ml_X6_175 ⟨Nat.le_of_ble_eq_true rfl, Nat.le_of_ble_eq_true rfl⟩) (preV0 0 rfl rfl hK hN hP hD [1] rfl rfl) rfl rfl hl.1 rfl (lv_room (Nat.le_of_ble_eq_true rfl)) dX6_fooled_88 ⟨Nat.le_refl _, Nat.le_refl _⟩) (fun v9 hq => ?_)
          obtain ⟨v7, rfl, hw⟩ := hq
          refine W.eq (g2 := F0 m 91 ls [.int v7, .ref (ad 1)]) rfl ?_
          refine lv_iload_n hx hb dX6_fooled_91 rfl (lv_at hl 2 rfl) ?_
          refine lv_iload_n hx hb dX6_fooled_92 rfl (lv_at hl 3 rfl) ?_
          refine callR (va_runV (As := [.int v7, .int x1, .int x2]) (rest := []) ⟨hx, hb, hml, hown, hW⟩ (c_X2_daysAway l D cI cZ ad 1 Y0 v7 x1 x2 _ hw) (cwV0 hW mV_X2_daysAway ml_X6_172 ⟨Nat.le_of_ble_eq_true rfl, Nat.le_of_ble_eq_true rfl⟩) (preV0 0 rfl rfl hK hN hP hD [1] rfl rfl) rfl rfl hl.1 rfl (lv_room (Nat.le_of_ble_eq_true rfl)) dX6_fooled_93 ⟨Nat.le_refl _, Nat.le_refl _⟩) (fun v9 hq => ?_)
          obtain ⟨v8, rfl, hw⟩ := hq
          refine W.eq (g2 := F0 m 96 ls [.int v8]) rfl ?_
          refine lv_iload_n hx hb dX6_fooled_96 rfl (lv_at hl 4 rfl) ?_
          refine lv_icmp_lt (tgt := 104) hx hb dX6_fooled_97 (by decide) (fun c9 => ?_) (fun c9 => ?_)
          · have hw := Eq.mp (if_pos c9) hw
            refine lv_iconst (v := 0) hx hb dX6_fooled_104 (by decide) ?_
            refine lv_istore (lv' := [(7, .int 0), (6, .int 0), (0, .ref (ad 0)), (1, .int x1), (2, .int x2), (3, .int x3), (4, .int y4), (5, .int y5)]) hx hb dX6_fooled_105 hl (by decide) rfl (fun ls hl => ?_)
            refine lv_iload hx hb dX6_fooled_107 (lv_at hl 7 rfl) ?_
            refine lv_iload_n hx hb dX6_fooled_109 rfl (lv_at hl 3 rfl) ?_
            refine lv_icmp_eq (tgt := 132) hx hb dX6_fooled_110 (by decide) (fun c10 => ?_) (fun c10 => ?_)
            · have hw := Eq.mp (if_pos c10) hw
              refine lv_iinc (v := (y5 + 1)) (lv' := [(5, .int (y5 + 1)), (7, .int 0), (6, .int 0), (0, .ref (ad 0)), (1, .int x1), (2, .int x2), (3, .int x3), (4, .int y4)]) hx hb dX6_fooled_132 hl (k := 7) rfl rfl (by decide) rfl (fun ls hl => ?_)
              refine lv_goto (tgt := 44) hx hb dX6_fooled_135 (by decide) ?_
              exact ih y4 (y5 + 1) _ (lv_sub hl [3, 4, 5, 6, 7, 0] rfl) hw
            · have hw := Eq.mp (if_neg c10) hw
              refine lv_iload hx hb dX6_fooled_113 (lv_at hl 0 rfl) ?_
              refine lv_if_eq (tgt := 132) hx hb dX6_fooled_115 (by decide) (fun _ => ?_) (fun c9 => absurd (by decide) c9)
              refine lv_iinc (v := (y5 + 1)) (lv' := [(5, .int (y5 + 1)), (7, .int 0), (6, .int 0), (0, .ref (ad 0)), (1, .int x1), (2, .int x2), (3, .int x3), (4, .int y4)]) hx hb dX6_fooled_132 hl (k := 7) rfl rfl (by decide) rfl (fun ls hl => ?_)
              refine lv_goto (tgt := 44) hx hb dX6_fooled_135 (by decide) ?_
              exact ih y4 (y5 + 1) _ (lv_sub hl [3, 4, 5, 6, 7, 0] rfl) hw
          · have hw := Eq.mp (if_neg c9) hw
            refine lv_iconst (v := 1) hx hb dX6_fooled_100 (by decide) ?_
            refine lv_goto (tgt := 105) hx hb dX6_fooled_101 (by decide) ?_
            refine lv_istore (lv' := [(7, .int 1), (6, .int 0), (0, .ref (ad 0)), (1, .int x1), (2, .int x2), (3, .int x3), (4, .int y4), (5, .int y5)]) hx hb dX6_fooled_105 hl (by decide) rfl (fun ls hl => ?_)
            refine lv_iload hx hb dX6_fooled_107 (lv_at hl 7 rfl) ?_
            refine lv_iload_n hx hb dX6_fooled_109 rfl (lv_at hl 3 rfl) ?_
            refine lv_icmp_eq (tgt := 132) hx hb dX6_fooled_110 (by decide) (fun c11 => ?_) (fun c11 => ?_)
            · have hw := Eq.mp (if_pos c11) hw
              refine lv_iinc (v := (y5 + 1)) (lv' := [(5, .int (y5 + 1)), (7, .int 1), (6, .int 0), (0, .ref (ad 0)), (1, .int x1), (2, .int x2), (3, .int x3), (4, .int y4)]) hx hb dX6_fooled_132 hl (k := 7) rfl rfl (by decide) rfl (fun ls hl => ?_)
              refine lv_goto (tgt := 44) hx hb dX6_fooled_135 (by decide) ?_
              exact ih y4 (y5 + 1) _ (lv_sub hl [3, 4, 5, 6, 7, 0] rfl) hw
            · have hw := Eq.mp (if_neg c11) hw
              refine lv_iload hx hb dX6_fooled_113 (lv_at hl 0 rfl) ?_
              refine lv_if_eq (tgt := 132) hx hb dX6_fooled_115 (by decide) (fun c9 => absurd c9 (by decide)) (fun _ => ?_)
              refine lv_iload hx hb dX6_fooled_118 (lv_at hl 1 rfl) ?_
              refine lv_if_ne (tgt := 132) hx hb dX6_fooled_120 (by decide) (fun c9 => absurd (by decide) c9) (fun _ => ?_)
              refine lv_iload hx hb dX6_fooled_123 (lv_at hl 6 rfl) ?_
              refine lv_iconst (v := 1) hx hb dX6_fooled_125 (by decide) ?_
              refine lv_iload hx hb dX6_fooled_126 (lv_at hl 7 rfl) ?_
              refine lv_ishl hx hb dX6_fooled_128 ?_
              refine lv_ior hx hb dX6_fooled_129 ?_
              refine lv_istore (lv' := [(4, .int (y4 ||| ((1 : Int32) <<< (y5 &&& 31)))), (7, .int 1), (6, .int 0), (0, .ref (ad 0)), (1, .int x1), (2, .int x2), (3, .int x3), (5, .int y5)]) hx hb dX6_fooled_130 hl (by decide) rfl (fun ls hl => ?_)
              refine lv_iinc (v := (y5 + 1)) (lv' := [(5, .int (y5 + 1)), (4, .int (y4 ||| ((1 : Int32) <<< (y5 &&& 31)))), (7, .int 1), (6, .int 0), (0, .ref (ad 0)), (1, .int x1), (2, .int x2), (3, .int x3)]) hx hb dX6_fooled_132 hl (k := 7) rfl rfl (by decide) rfl (fun ls hl => ?_)
              refine lv_goto (tgt := 44) hx hb dX6_fooled_135 (by decide) ?_
              exact ih (y4 ||| ((1 : Int32) <<< (y5 &&& 31))) (y5 + 1) _ (lv_sub hl [4, 5, 6, 7, 1, 0] rfl) hw
        · have hw := Eq.mp (if_neg c6) hw
          refine lv_iconst (v := 1) hx hb dX6_fooled_71 (by decide) ?_
          refine lv_goto (tgt := 76) hx hb dX6_fooled_72 (by decide) ?_
          refine lv_istore (lv' := [(6, .int 1), (0, .ref (ad 0)), (1, .int x1), (2, .int x2), (3, .int x3), (4, .int y4), (5, .int y5)]) hx hb dX6_fooled_76 hl (by decide) rfl (fun ls hl => ?_)
          refine lv_aload_n hx hb dX6_fooled_78 rfl (lv_at hl 1 rfl) ?_
          refine va_get (D := D) (ci := 6) (v := .ref (ad 1)) (C := RX6) (T := TX6) (N := 9) hx hb hW inW_X6 hown hK hP 0 rfl rfl 0 (by decide) (hW _ fl_X6_10) (fun _ h9 => h9) rfl dX6_fooled_79 ?_
          refine lv_aload_n hx hb dX6_fooled_82 rfl (lv_at hl 1 rfl) ?_
          refine va_get (D := D) (ci := 6) (v := .ref (ad 1)) (C := RX6) (T := TX6) (N := 9) hx hb hW inW_X6 hown hK hP 0 rfl rfl 0 (by decide) (hW _ fl_X6_10) (fun _ h9 => h9) rfl dX6_fooled_83 ?_
          refine lv_iload hx hb dX6_fooled_86 (lv_at hl 6 rfl) ?_
          refine callR (va_runV (As := [.int y5]) (rest := [.ref (ad 1)]) ⟨hx, hb, hml, hown, hW⟩ (c_X2_bearerOf l D cI cZ ad 1 Y0 y5 _ hw) (cwV0 hW mV_X2_bearerOf ml_X6_175 ⟨Nat.le_of_ble_eq_true rfl, Nat.le_of_ble_eq_true rfl⟩) (preV0 0 rfl rfl hK hN hP hD [1] rfl rfl) rfl rfl hl.1 rfl (lv_room (Nat.le_of_ble_eq_true rfl)) dX6_fooled_88 ⟨Nat.le_refl _, Nat.le_refl _⟩) (fun v9 hq => ?_)
          obtain ⟨v12, rfl, hw⟩ := hq
          refine W.eq (g2 := F0 m 91 ls [.int v12, .ref (ad 1)]) rfl ?_
          refine lv_iload_n hx hb dX6_fooled_91 rfl (lv_at hl 2 rfl) ?_
          refine lv_iload_n hx hb dX6_fooled_92 rfl (lv_at hl 3 rfl) ?_
          refine callR (va_runV (As := [.int v12, .int x1, .int x2]) (rest := []) ⟨hx, hb, hml, hown, hW⟩ (c_X2_daysAway l D cI cZ ad 1 Y0 v12 x1 x2 _ hw) (cwV0 hW mV_X2_daysAway ml_X6_172 ⟨Nat.le_of_ble_eq_true rfl, Nat.le_of_ble_eq_true rfl⟩) (preV0 0 rfl rfl hK hN hP hD [1] rfl rfl) rfl rfl hl.1 rfl (lv_room (Nat.le_of_ble_eq_true rfl)) dX6_fooled_93 ⟨Nat.le_refl _, Nat.le_refl _⟩) (fun v9 hq => ?_)
          obtain ⟨v13, rfl, hw⟩ := hq
          refine W.eq (g2 := F0 m 96 ls [.int v13]) rfl ?_
          refine lv_iload_n hx hb dX6_fooled_96 rfl (lv_at hl 4 rfl) ?_
          refine lv_icmp_lt (tgt := 104) hx hb dX6_fooled_97 (by decide) (fun c14 => ?_) (fun c14 => ?_)
          · have hw := Eq.mp (if_pos c14) hw
            refine lv_iconst (v := 0) hx hb dX6_fooled_104 (by decide) ?_
            refine lv_istore (lv' := [(7, .int 0), (6, .int 1), (0, .ref (ad 0)), (1, .int x1), (2, .int x2), (3, .int x3), (4, .int y4), (5, .int y5)]) hx hb dX6_fooled_105 hl (by decide) rfl (fun ls hl => ?_)
            refine lv_iload hx hb dX6_fooled_107 (lv_at hl 7 rfl) ?_
            refine lv_iload_n hx hb dX6_fooled_109 rfl (lv_at hl 3 rfl) ?_
            refine lv_icmp_eq (tgt := 132) hx hb dX6_fooled_110 (by decide) (fun c15 => ?_) (fun c15 => ?_)
            · have hw := Eq.mp (if_pos c15) hw
              refine lv_iinc (v := (y5 + 1)) (lv' := [(5, .int (y5 + 1)), (7, .int 0), (6, .int 1), (0, .ref (ad 0)), (1, .int x1), (2, .int x2), (3, .int x3), (4, .int y4)]) hx hb dX6_fooled_132 hl (k := 7) rfl rfl (by decide) rfl (fun ls hl => ?_)
              refine lv_goto (tgt := 44) hx hb dX6_fooled_135 (by decide) ?_
              exact ih y4 (y5 + 1) _ (lv_sub hl [3, 4, 5, 6, 7, 0] rfl) hw
            · have hw := Eq.mp (if_neg c15) hw
              refine lv_iload hx hb dX6_fooled_113 (lv_at hl 0 rfl) ?_
              refine lv_if_eq (tgt := 132) hx hb dX6_fooled_115 (by decide) (fun _ => ?_) (fun c9 => absurd (by decide) c9)
              refine lv_iinc (v := (y5 + 1)) (lv' := [(5, .int (y5 + 1)), (7, .int 0), (6, .int 1), (0, .ref (ad 0)), (1, .int x1), (2, .int x2), (3, .int x3), (4, .int y4)]) hx hb dX6_fooled_132 hl (k := 7) rfl rfl (by decide) rfl (fun ls hl => ?_)
              refine lv_goto (tgt := 44) hx hb dX6_fooled_135 (by decide) ?_
              exact ih y4 (y5 + 1) _ (lv_sub hl [3, 4, 5, 6, 7, 0] rfl) hw
          · have hw := Eq.mp (if_neg c14) hw
            refine lv_iconst (v := 1) hx hb dX6_fooled_100 (by decide) ?_
            refine lv_goto (tgt := 105) hx hb dX6_fooled_101 (by decide) ?_
            refine lv_istore (lv' := [(7, .int 1), (6, .int 1), (0, .ref (ad 0)), (1, .int x1), (2, .int x2), (3, .int x3), (4, .int y4), (5, .int y5)]) hx hb dX6_fooled_105 hl (by decide) rfl (fun ls hl => ?_)
            refine lv_iload hx hb dX6_fooled_107 (lv_at hl 7 rfl) ?_
            refine lv_iload_n hx hb dX6_fooled_109 rfl (lv_at hl 3 rfl) ?_
            refine lv_icmp_eq (tgt := 132) hx hb dX6_fooled_110 (by decide) (fun c16 => ?_) (fun c16 => ?_)
            · have hw := Eq.mp (if_pos c16) hw
              refine lv_iinc (v := (y5 + 1)) (lv' := [(5, .int (y5 + 1)), (7, .int 1), (6, .int 1), (0, .ref (ad 0)), (1, .int x1), (2, .int x2), (3, .int x3), (4, .int y4)]) hx hb dX6_fooled_132 hl (k := 7) rfl rfl (by decide) rfl (fun ls hl => ?_)
              refine lv_goto (tgt := 44) hx hb dX6_fooled_135 (by decide) ?_
              exact ih y4 (y5 + 1) _ (lv_sub hl [3, 4, 5, 6, 7, 0] rfl) hw
            · have hw := Eq.mp (if_neg c16) hw
              refine lv_iload hx hb dX6_fooled_113 (lv_at hl 0 rfl) ?_
              refine lv_if_eq (tgt := 132) hx hb dX6_fooled_115 (by decide) (fun c9 => absurd c9 (by decide)) (fun _ => ?_)
              refine lv_iload hx hb dX6_fooled_118 (lv_at hl 1 rfl) ?_
              refine lv_if_ne (tgt := 132) hx hb dX6_fooled_120 (by decide) (fun _ => ?_) (fun c9 => absurd c9 (by decide))
              refine lv_iinc (v := (y5 + 1)) (lv' := [(5, .int (y5 + 1)), (7, .int 1), (6, .int 1), (0, .ref (ad 0)), (1, .int x1), (2, .int x2), (3, .int x3), (4, .int y4)]) hx hb dX6_fooled_132 hl (k := 7) rfl rfl (by decide) rfl (fun ls hl => ?_)
              refine lv_goto (tgt := 44) hx hb dX6_fooled_135 (by decide) ?_
              exact ih y4 (y5 + 1) _ (lv_sub hl [3, 4, 5, 6, 7, 0] rfl) hw
  have hw : (if (F_X2_has Y0 x1) = 0 then (k (-1)) else (if (F_X6_within x2 0 9999) = 0 then (k (-2)) else (if (F_X6_within x3 1 400) = 0 then (k (-2)) else (∃ M18, wl_X6_fooled_44 Y0 x1 x2 x3 (fun (v17 : Int32) => (k v17)) M18 0 0)))) := hw
  refine lv_aload_n hx hb dX6_fooled_0 rfl (lv_at hl 0 rfl) ?_
  refine va_get (D := D) (ci := 6) (v := .ref (ad 1)) (C := RX6) (T := TX6) (N := 9) hx hb hW inW_X6 hown hK hP 0 rfl rfl 0 (by decide) (hW _ fl_X6_10) (fun _ h9 => h9) rfl dX6_fooled_1 ?_
  refine lv_iload_n hx hb dX6_fooled_4 rfl (lv_at hl 1 rfl) ?_
  refine callF (va_runV (As := [.int x1]) (rest := []) ⟨hx, hb, hml, hown, hW⟩ (c_X2_has l D cI cZ ad 1 Y0 x1 _ rfl) (cwV0 hW mV_X2_has ml_X6_79 ⟨Nat.le_of_ble_eq_true rfl, Nat.le_of_ble_eq_true rfl⟩) (preV0 0 rfl rfl hK hN hP hD [1] rfl rfl) rfl rfl hl.1 rfl (lv_room (Nat.le_of_ble_eq_true rfl)) dX6_fooled_5 ⟨Nat.le_refl _, Nat.le_refl _⟩) ?_
  refine W.eq (g2 := F0 m 8 ls [.int (F_X2_has Y0 x1)]) rfl ?_
  refine lv_if_ne (tgt := 13) hx hb dX6_fooled_8 (by decide) (fun c1 => ?_) (fun c1 => ?_)
  · have hw := Eq.mp (if_neg c1) hw
    refine lv_iload_n hx hb dX6_fooled_13 rfl (lv_at hl 2 rfl) ?_
    refine lv_iconst (v := 0) hx hb dX6_fooled_14 (by decide) ?_
    refine lv_sipush (v := 9999) hx hb dX6_fooled_15 (by decide) ?_
    refine callF (va_runS (As := [.int x2, .int 0, .int 9999]) (rest := []) ⟨hx, hb, hml, hown, hW⟩ (c_X6_within l D cI cZ x2 0 9999 _ rfl) (cwS0 hW mS_X6_within ml_X6_69 ⟨Nat.le_of_ble_eq_true rfl, Nat.le_of_ble_eq_true rfl⟩) (preS0 hK hN hP hD [] rfl rfl) rfl rfl hl.1 rfl (lv_room (Nat.le_of_ble_eq_true rfl)) dX6_fooled_18 ⟨Nat.le_refl _, Nat.le_refl _⟩) ?_
    refine W.eq (g2 := F0 m 21 ls [.int (F_X6_within x2 0 9999)]) rfl ?_
    refine lv_if_eq (tgt := 35) hx hb dX6_fooled_21 (by decide) (fun c2 => ?_) (fun c2 => ?_)
    · have hw := Eq.mp (if_pos c2) hw
      refine lv_bipush (v := (-2)) hx hb dX6_fooled_35 (by decide) ?_
      exact W.iret (v := (-2)) hx hb hr (fun t ht _ => ⟨⟨_, rfl, ⟨_, rfl, hw⟩⟩, ht⟩) (fun _ h => by cases h) dX6_fooled_37
    · have hw := Eq.mp (if_neg c2) hw
      refine lv_iload_n hx hb dX6_fooled_24 rfl (lv_at hl 3 rfl) ?_
      refine lv_iconst (v := 1) hx hb dX6_fooled_25 (by decide) ?_
      refine lv_sipush (v := 400) hx hb dX6_fooled_26 (by decide) ?_
      refine callF (va_runS (As := [.int x3, .int 1, .int 400]) (rest := []) ⟨hx, hb, hml, hown, hW⟩ (c_X6_within l D cI cZ x3 1 400 _ rfl) (cwS0 hW mS_X6_within ml_X6_69 ⟨Nat.le_of_ble_eq_true rfl, Nat.le_of_ble_eq_true rfl⟩) (preS0 hK hN hP hD [] rfl rfl) rfl rfl hl.1 rfl (lv_room (Nat.le_of_ble_eq_true rfl)) dX6_fooled_29 ⟨Nat.le_refl _, Nat.le_refl _⟩) ?_
      refine W.eq (g2 := F0 m 32 ls [.int (F_X6_within x3 1 400)]) rfl ?_
      refine lv_if_ne (tgt := 38) hx hb dX6_fooled_32 (by decide) (fun c3 => ?_) (fun c3 => ?_)
      · have hw := Eq.mp (if_neg c3) hw
        refine lv_iconst (v := 0) hx hb dX6_fooled_38 (by decide) ?_
        refine lv_istore (lv' := [(4, .int 0), (0, .ref (ad 0)), (1, .int x1), (2, .int x2), (3, .int x3)]) hx hb dX6_fooled_39 hl (by decide) rfl (fun ls hl => ?_)
        refine lv_iconst (v := 0) hx hb dX6_fooled_41 (by decide) ?_
        refine lv_istore (lv' := [(5, .int 0), (4, .int 0), (0, .ref (ad 0)), (1, .int x1), (2, .int x2), (3, .int x3)]) hx hb dX6_fooled_42 hl (by decide) rfl (fun ls hl => ?_)
        obtain ⟨N19, hw⟩ := hw
        refine L44  _ (fun v17 ls hl hw => ?_) N19 0 0 _ (lv_sub hl [2, 3, 4, 5, 1, 0] rfl) hw
        refine lv_iload hx hb dX6_fooled_138 (lv_at hl 0 rfl) ?_
        exact W.iret (v := v17) hx hb hr (fun t ht _ => ⟨⟨_, rfl, ⟨_, rfl, hw⟩⟩, ht⟩) (fun _ h => by cases h) dX6_fooled_140
      · have hw := Eq.mp (if_pos c3) hw
        refine lv_bipush (v := (-2)) hx hb dX6_fooled_35 (by decide) ?_
        exact W.iret (v := (-2)) hx hb hr (fun t ht _ => ⟨⟨_, rfl, ⟨_, rfl, hw⟩⟩, ht⟩) (fun _ h => by cases h) dX6_fooled_37
  · have hw := Eq.mp (if_pos c1) hw
    refine lv_iconst (v := (-1)) hx hb dX6_fooled_11 (by decide) ?_
    exact W.iret (v := (-1)) hx hb hr (fun t ht _ => ⟨⟨_, rfl, ⟨_, rfl, hw⟩⟩, ht⟩) (fun _ h => by cases h) dX6_fooled_12
set_option maxHeartbeats 4000000 in
set_option maxRecDepth 100000 in
theorem c_X6_letter (l : Launch) (D : va_G) (cI cZ : ClassId) (ad : Nat → Nat) (Y0 : St) (x1 : Int32) (x2 : Int32) (r9 : Int32) (hw : F_X6_letter Y0 x1 x2 = r9) : KF l yX6_letter cX6_letter 3 (some .int) 1 22 D cI cZ [.ref (ad 0), .int x1, .int x2] [xcell ad, rcells cI ad 1 Y0] (some (.int r9)) := by
  refine Met.ofE (by decide +kernel) (Nat.le_of_ble_eq_true rfl) ?_
  intro p e s m below meth c E ls hl
  obtain ⟨hx, hb, hr, hml, hW, hown, hlocks, hP, hK, hD, hN⟩ := E
  have hl : lv_has ls 3 [(0, .ref (ad 0)), (1, .int x1), (2, .int x2)] := hl
  have hw : (if (F_X2_has Y0 x1) = 0 then (-1) else (if (F_X2_has Y0 x2) = 0 then (-1) else (F_X2_firstDayAfter Y0 (F_X6_leftOver (x1 - x2) (Y0.1 0))))) = r9 := hw
  refine lv_aload_n hx hb dX6_letter_0 rfl (lv_at hl 0 rfl) ?_
  refine va_get (D := D) (ci := 6) (v := .ref (ad 1)) (C := RX6) (T := TX6) (N := 9) hx hb hW inW_X6 hown hK hP 0 rfl rfl 0 (by decide) (hW _ fl_X6_10) (fun _ h9 => h9) rfl dX6_letter_1 ?_
  refine lv_iload_n hx hb dX6_letter_4 rfl (lv_at hl 1 rfl) ?_
  refine callF (va_runV (As := [.int x1]) (rest := []) ⟨hx, hb, hml, hown, hW⟩ (c_X2_has l D cI cZ ad 1 Y0 x1 _ rfl) (cwV0 hW mV_X2_has ml_X6_79 ⟨Nat.le_of_ble_eq_true rfl, Nat.le_of_ble_eq_true rfl⟩) (preV0 0 rfl rfl hK hN hP hD [1] rfl rfl) rfl rfl hl.1 rfl (lv_room (Nat.le_of_ble_eq_true rfl)) dX6_letter_5 ⟨Nat.le_refl _, Nat.le_refl _⟩) ?_
  refine W.eq (g2 := F0 m 8 ls [.int (F_X2_has Y0 x1)]) rfl ?_
  refine lv_if_eq (tgt := 22) hx hb dX6_letter_8 (by decide) (fun c1 => ?_) (fun c1 => ?_)
  · have hw := (if_pos c1).symm.trans hw
    refine lv_iconst (v := (-1)) hx hb dX6_letter_22 (by decide) ?_
    subst hw
    exact W.iret (v := (-1)) hx hb hr (fun t ht _ => ⟨rfl, ht⟩) (fun _ h => by cases h) dX6_letter_23
  · have hw := (if_neg c1).symm.trans hw
    refine lv_aload_n hx hb dX6_letter_11 rfl (lv_at hl 0 rfl) ?_
    refine va_get (D := D) (ci := 6) (v := .ref (ad 1)) (C := RX6) (T := TX6) (N := 9) hx hb hW inW_X6 hown hK hP 0 rfl rfl 0 (by decide) (hW _ fl_X6_10) (fun _ h9 => h9) rfl dX6_letter_12 ?_
    refine lv_iload_n hx hb dX6_letter_15 rfl (lv_at hl 2 rfl) ?_
    refine callF (va_runV (As := [.int x2]) (rest := []) ⟨hx, hb, hml, hown, hW⟩ (c_X2_has l D cI cZ ad 1 Y0 x2 _ rfl) (cwV0 hW mV_X2_has ml_X6_79 ⟨Nat.le_of_ble_eq_true rfl, Nat.le_of_ble_eq_true rfl⟩) (preV0 0 rfl rfl hK hN hP hD [1] rfl rfl) rfl rfl hl.1 rfl (lv_room (Nat.le_of_ble_eq_true rfl)) dX6_letter_16 ⟨Nat.le_refl _, Nat.le_refl _⟩) ?_
    refine W.eq (g2 := F0 m 19 ls [.int (F_X2_has Y0 x2)]) rfl ?_
    refine lv_if_ne (tgt := 24) hx hb dX6_letter_19 (by decide) (fun c2 => ?_) (fun c2 => ?_)
    · have hw := (if_neg c2).symm.trans hw
      refine lv_aload_n hx hb dX6_letter_24 rfl (lv_at hl 0 rfl) ?_
      refine va_get (D := D) (ci := 6) (v := .ref (ad 1)) (C := RX6) (T := TX6) (N := 9) hx hb hW inW_X6 hown hK hP 0 rfl rfl 0 (by decide) (hW _ fl_X6_10) (fun _ h9 => h9) rfl dX6_letter_25 ?_
      refine lv_iload_n hx hb dX6_letter_28 rfl (lv_at hl 1 rfl) ?_
      refine lv_iload_n hx hb dX6_letter_29 rfl (lv_at hl 2 rfl) ?_
      refine lv_isub hx hb dX6_letter_30 ?_
      refine lv_aload_n hx hb dX6_letter_31 rfl (lv_at hl 0 rfl) ?_
      refine va_get (D := D) (ci := 6) (v := .ref (ad 1)) (C := RX6) (T := TX6) (N := 9) hx hb hW inW_X6 hown hK hP 0 rfl rfl 0 (by decide) (hW _ fl_X6_10) (fun _ h9 => h9) rfl dX6_letter_32 ?_
      refine va_get (D := D) (ci := 2) (v := .int (Y0.1 0)) (C := RX2) (T := TX2) (N := 15) hx hb hW inW_X2 hown hK hP 1 rfl rfl 0 (by decide) (hW _ fl_X6_73) (fun _ h9 => h9) rfl dX6_letter_35 ?_
      refine callF (va_runS (As := [.int (x1 - x2), .int (Y0.1 0)]) (rest := [.ref (ad 1)]) ⟨hx, hb, hml, hown, hW⟩ (c_X6_leftOver l D cI cZ (x1 - x2) (Y0.1 0) _ rfl) (cwS0 hW mS_X6_leftOver ml_X6_178 ⟨Nat.le_of_ble_eq_true rfl, Nat.le_of_ble_eq_true rfl⟩) (preS0 hK hN hP hD [] rfl rfl) rfl rfl hl.1 rfl (lv_room (Nat.le_of_ble_eq_true rfl)) dX6_letter_38 ⟨Nat.le_refl _, Nat.le_refl _⟩) ?_
      refine W.eq (g2 := F0 m 41 ls [.int (F_X6_leftOver (x1 - x2) (Y0.1 0)), .ref (ad 1)]) rfl ?_
      refine callF (va_runV (As := [.int (F_X6_leftOver (x1 - x2) (Y0.1 0))]) (rest := []) ⟨hx, hb, hml, hown, hW⟩ (c_X2_firstDayAfter l D cI cZ ad 1 Y0 (F_X6_leftOver (x1 - x2) (Y0.1 0)) _ rfl) (cwV0 hW mV_X2_firstDayAfter ml_X6_157 ⟨Nat.le_of_ble_eq_true rfl, Nat.le_of_ble_eq_true rfl⟩) (preV0 0 rfl rfl hK hN hP hD [1] rfl rfl) rfl rfl hl.1 rfl (lv_room (Nat.le_of_ble_eq_true rfl)) dX6_letter_41 ⟨Nat.le_refl _, Nat.le_refl _⟩) ?_
      refine W.eq (g2 := F0 m 44 ls [.int (F_X2_firstDayAfter Y0 (F_X6_leftOver (x1 - x2) (Y0.1 0)))]) rfl ?_
      subst hw
      exact W.iret (v := (F_X2_firstDayAfter Y0 (F_X6_leftOver (x1 - x2) (Y0.1 0)))) hx hb hr (fun t ht _ => ⟨rfl, ht⟩) (fun _ h => by cases h) dX6_letter_44
    · have hw := (if_pos c2).symm.trans hw
      refine lv_iconst (v := (-1)) hx hb dX6_letter_22 (by decide) ?_
      subst hw
      exact W.iret (v := (-1)) hx hb hr (fun t ht _ => ⟨rfl, ht⟩) (fun _ h => by cases h) dX6_letter_23
set_option maxHeartbeats 4000000 in
set_option maxRecDepth 100000 in
theorem c_X6_copy (l : Launch) (D : va_G) (cI cZ : ClassId) (ad : Nat → Nat) (Y0 : St) (x1 : Int32) (k : Int32 → Prop) (hw : wp_X6_copy Y0 x1 k) : KR l yX6_copy cX6_copy 5 (some .int) 2 45 D cI cZ [.ref (ad 0), .int x1] [xcell ad, rcells cI ad 1 Y0] (fun v => ∃ r, v = some (.int r) ∧ k r) := by
  refine Met.ofE (by decide +kernel) (Nat.le_of_ble_eq_true rfl) ?_
  intro p e s m below meth c E ls hl
  obtain ⟨hx, hb, hr, hml, hW, hown, hlocks, hP, hK, hD, hN⟩ := E
  have hl : lv_has ls 5 [(0, .ref (ad 0)), (1, .int x1)] := hl
  have L33 : ∀ (y2 : Int32) (kx : Prop), (∀ ls : Array Slot, lv_has ls 5 [] → kx → W p l e { frames := 2, cells := 0, slots := 0, locals := 45 } s m ([.ref (ad 0), .int x1] : List Value).toArray below meth c s.heap [] 0 0 (MQ below (QR (fun v => ∃ r, v = some (.int r) ∧ k r)) ([.ref (ad 0), .int x1] : List Value).toArray s 0 0 (fun _ => False)) (F0 m 90 ls [])) → ∀ (N33 : Nat) (y3 : Int32), ∀ ls : Array Slot, lv_has ls 5 [(0, .ref (ad 0)), (1, .int x1), (2, .int y2), (3, .int y3)] → wl_X6_copy_33 Y0 x1 y2 kx k N33 y3 → W p l e { frames := 2, cells := 0, slots := 0, locals := 45 } s m ([.ref (ad 0), .int x1] : List Value).toArray below meth c s.heap [] 0 0 (MQ below (QR (fun v => ∃ r, v = some (.int r) ∧ k r)) ([.ref (ad 0), .int x1] : List Value).toArray s 0 0 (fun _ => False)) (F0 m 33 ls []) := by
    intro y2 kx hxt N33
    induction N33 with
    | zero => intro y3 ls hl hw; exact False.elim hw
    | succ N33 ih =>
      intro y3 ls hl hw
      have hw : (if y2 < y3 then kx else (if 9999 < (F_X2_firstDayAfter Y0 y3) then (wl_X6_copy_33 Y0 x1 y2 kx k N33 (y3 + 1)) else (if (F_X2_landAfter Y0 x1 y3) = (F_X6_leftOver (x1 - y3) (Y0.1 0)) then (k (F_X2_firstDayAfter Y0 y3)) else (wl_X6_copy_33 Y0 x1 y2 kx k N33 (y3 + 1))))) := hw
      refine lv_iload_n hx hb dX6_copy_33 rfl (lv_at hl 3 rfl) ?_
      refine lv_iload_n hx hb dX6_copy_34 rfl (lv_at hl 2 rfl) ?_
      refine lv_icmp_gt (tgt := 90) hx hb dX6_copy_35 (by decide) (fun c2 => ?_) (fun c2 => ?_)
      · have hw := Eq.mp (if_pos c2) hw
        exact hxt  _ (lv_sub hl [] rfl) hw
      · have hw := Eq.mp (if_neg c2) hw
        refine lv_aload_n hx hb dX6_copy_38 rfl (lv_at hl 0 rfl) ?_
        refine va_get (D := D) (ci := 6) (v := .ref (ad 1)) (C := RX6) (T := TX6) (N := 9) hx hb hW inW_X6 hown hK hP 0 rfl rfl 0 (by decide) (hW _ fl_X6_10) (fun _ h9 => h9) rfl dX6_copy_39 ?_
        refine lv_iload_n hx hb dX6_copy_42 rfl (lv_at hl 3 rfl) ?_
        refine callF (va_runV (As := [.int y3]) (rest := []) ⟨hx, hb, hml, hown, hW⟩ (c_X2_firstDayAfter l D cI cZ ad 1 Y0 y3 _ rfl) (cwV0 hW mV_X2_firstDayAfter ml_X6_157 ⟨Nat.le_of_ble_eq_true rfl, Nat.le_of_ble_eq_true rfl⟩) (preV0 0 rfl rfl hK hN hP hD [1] rfl rfl) rfl rfl hl.1 rfl (lv_room (Nat.le_of_ble_eq_true rfl)) dX6_copy_43 ⟨Nat.le_refl _, Nat.le_refl _⟩) ?_
        refine W.eq (g2 := F0 m 46 ls [.int (F_X2_firstDayAfter Y0 y3)]) rfl ?_
        refine lv_istore (lv' := [(4, .int (F_X2_firstDayAfter Y0 y3)), (0, .ref (ad 0)), (1, .int x1), (2, .int y2), (3, .int y3)]) hx hb dX6_copy_46 hl (by decide) rfl (fun ls hl => ?_)
        refine lv_iload hx hb dX6_copy_48 (lv_at hl 0 rfl) ?_
        refine lv_sipush (v := 9999) hx hb dX6_copy_50 (by decide) ?_
        refine lv_icmp_gt (tgt := 84) hx hb dX6_copy_53 (by decide) (fun c3 => ?_) (fun c3 => ?_)
        · have hw := Eq.mp (if_pos c3) hw
          refine lv_iinc (v := (y3 + 1)) (lv' := [(3, .int (y3 + 1)), (4, .int (F_X2_firstDayAfter Y0 y3)), (0, .ref (ad 0)), (1, .int x1), (2, .int y2)]) hx hb dX6_copy_84 hl (k := 4) rfl rfl (by decide) rfl (fun ls hl => ?_)
          refine lv_goto (tgt := 33) hx hb dX6_copy_87 (by decide) ?_
          exact ih (y3 + 1) _ (lv_sub hl [2, 3, 4, 0] rfl) hw
        · have hw := Eq.mp (if_neg c3) hw
          refine lv_aload_n hx hb dX6_copy_56 rfl (lv_at hl 1 rfl) ?_
          refine va_get (D := D) (ci := 6) (v := .ref (ad 1)) (C := RX6) (T := TX6) (N := 9) hx hb hW inW_X6 hown hK hP 0 rfl rfl 0 (by decide) (hW _ fl_X6_10) (fun _ h9 => h9) rfl dX6_copy_57 ?_
          refine lv_iload_n hx hb dX6_copy_60 rfl (lv_at hl 2 rfl) ?_
          refine lv_iload_n hx hb dX6_copy_61 rfl (lv_at hl 4 rfl) ?_
          refine callF (va_runV (As := [.int x1, .int y3]) (rest := []) ⟨hx, hb, hml, hown, hW⟩ (c_X2_landAfter l D cI cZ ad 1 Y0 x1 y3 _ rfl) (cwV0 hW mV_X2_landAfter ml_X6_128 ⟨Nat.le_of_ble_eq_true rfl, Nat.le_of_ble_eq_true rfl⟩) (preV0 0 rfl rfl hK hN hP hD [1] rfl rfl) rfl rfl hl.1 rfl (lv_room (Nat.le_of_ble_eq_true rfl)) dX6_copy_62 ⟨Nat.le_refl _, Nat.le_refl _⟩) ?_
          refine W.eq (g2 := F0 m 65 ls [.int (F_X2_landAfter Y0 x1 y3)]) rfl ?_
          refine lv_iload_n hx hb dX6_copy_65 rfl (lv_at hl 2 rfl) ?_
          refine lv_iload_n hx hb dX6_copy_66 rfl (lv_at hl 4 rfl) ?_
          refine lv_isub hx hb dX6_copy_67 ?_
          refine lv_aload_n hx hb dX6_copy_68 rfl (lv_at hl 1 rfl) ?_
          refine va_get (D := D) (ci := 6) (v := .ref (ad 1)) (C := RX6) (T := TX6) (N := 9) hx hb hW inW_X6 hown hK hP 0 rfl rfl 0 (by decide) (hW _ fl_X6_10) (fun _ h9 => h9) rfl dX6_copy_69 ?_
          refine va_get (D := D) (ci := 2) (v := .int (Y0.1 0)) (C := RX2) (T := TX2) (N := 15) hx hb hW inW_X2 hown hK hP 1 rfl rfl 0 (by decide) (hW _ fl_X6_73) (fun _ h9 => h9) rfl dX6_copy_72 ?_
          refine callF (va_runS (As := [.int (x1 - y3), .int (Y0.1 0)]) (rest := [.int (F_X2_landAfter Y0 x1 y3)]) ⟨hx, hb, hml, hown, hW⟩ (c_X6_leftOver l D cI cZ (x1 - y3) (Y0.1 0) _ rfl) (cwS0 hW mS_X6_leftOver ml_X6_178 ⟨Nat.le_of_ble_eq_true rfl, Nat.le_of_ble_eq_true rfl⟩) (preS0 hK hN hP hD [] rfl rfl) rfl rfl hl.1 rfl (lv_room (Nat.le_of_ble_eq_true rfl)) dX6_copy_75 ⟨Nat.le_refl _, Nat.le_refl _⟩) ?_
          refine W.eq (g2 := F0 m 78 ls [.int (F_X6_leftOver (x1 - y3) (Y0.1 0)), .int (F_X2_landAfter Y0 x1 y3)]) rfl ?_
          refine lv_icmp_ne (tgt := 84) hx hb dX6_copy_78 (by decide) (fun c4 => ?_) (fun c4 => ?_)
          · have hw := Eq.mp (if_neg c4) hw
            refine lv_iinc (v := (y3 + 1)) (lv' := [(3, .int (y3 + 1)), (4, .int (F_X2_firstDayAfter Y0 y3)), (0, .ref (ad 0)), (1, .int x1), (2, .int y2)]) hx hb dX6_copy_84 hl (k := 4) rfl rfl (by decide) rfl (fun ls hl => ?_)
            refine lv_goto (tgt := 33) hx hb dX6_copy_87 (by decide) ?_
            exact ih (y3 + 1) _ (lv_sub hl [2, 3, 4, 0] rfl) hw
          · have hw := Eq.mp (if_pos c4) hw
            refine lv_iload hx hb dX6_copy_81 (lv_at hl 0 rfl) ?_
            exact W.iret (v := (F_X2_firstDayAfter Y0 y3)) hx hb hr (fun t ht _ => ⟨⟨_, rfl, ⟨_, rfl, hw⟩⟩, ht⟩) (fun _ h => by cases h) dX6_copy_83
  have hw : (if (F_X2_has Y0 x1) = 0 then (k (-1)) else (∃ M5, wl_X6_copy_33 Y0 x1 ((Y0.1 0) * ((Y0.1 0) - 1)) (k (-6)) k M5 1)) := hw
  refine lv_aload_n hx hb dX6_copy_0 rfl (lv_at hl 0 rfl) ?_
  refine va_get (D := D) (ci := 6) (v := .ref (ad 1)) (C := RX6) (T := TX6) (N := 9) hx hb hW inW_X6 hown hK hP 0 rfl rfl 0 (by decide) (hW _ fl_X6_10) (fun _ h9 => h9) rfl dX6_copy_1 ?_
  refine lv_iload_n hx hb dX6_copy_4 rfl (lv_at hl 1 rfl) ?_
  refine callF (va_runV (As := [.int x1]) (rest := []) ⟨hx, hb, hml, hown, hW⟩ (c_X2_has l D cI cZ ad 1 Y0 x1 _ rfl) (cwV0 hW mV_X2_has ml_X6_79 ⟨Nat.le_of_ble_eq_true rfl, Nat.le_of_ble_eq_true rfl⟩) (preV0 0 rfl rfl hK hN hP hD [1] rfl rfl) rfl rfl hl.1 rfl (lv_room (Nat.le_of_ble_eq_true rfl)) dX6_copy_5 ⟨Nat.le_refl _, Nat.le_refl _⟩) ?_
  refine W.eq (g2 := F0 m 8 ls [.int (F_X2_has Y0 x1)]) rfl ?_
  refine lv_if_ne (tgt := 13) hx hb dX6_copy_8 (by decide) (fun c1 => ?_) (fun c1 => ?_)
  · have hw := Eq.mp (if_neg c1) hw
    refine lv_aload_n hx hb dX6_copy_13 rfl (lv_at hl 0 rfl) ?_
    refine va_get (D := D) (ci := 6) (v := .ref (ad 1)) (C := RX6) (T := TX6) (N := 9) hx hb hW inW_X6 hown hK hP 0 rfl rfl 0 (by decide) (hW _ fl_X6_10) (fun _ h9 => h9) rfl dX6_copy_14 ?_
    refine va_get (D := D) (ci := 2) (v := .int (Y0.1 0)) (C := RX2) (T := TX2) (N := 15) hx hb hW inW_X2 hown hK hP 1 rfl rfl 0 (by decide) (hW _ fl_X6_73) (fun _ h9 => h9) rfl dX6_copy_17 ?_
    refine lv_aload_n hx hb dX6_copy_20 rfl (lv_at hl 0 rfl) ?_
    refine va_get (D := D) (ci := 6) (v := .ref (ad 1)) (C := RX6) (T := TX6) (N := 9) hx hb hW inW_X6 hown hK hP 0 rfl rfl 0 (by decide) (hW _ fl_X6_10) (fun _ h9 => h9) rfl dX6_copy_21 ?_
    refine va_get (D := D) (ci := 2) (v := .int (Y0.1 0)) (C := RX2) (T := TX2) (N := 15) hx hb hW inW_X2 hown hK hP 1 rfl rfl 0 (by decide) (hW _ fl_X6_73) (fun _ h9 => h9) rfl dX6_copy_24 ?_
    refine lv_iconst (v := 1) hx hb dX6_copy_27 (by decide) ?_
    refine lv_isub hx hb dX6_copy_28 ?_
    refine lv_imul hx hb dX6_copy_29 ?_
    refine lv_istore_n (lv' := [(2, .int ((Y0.1 0) * ((Y0.1 0) - 1))), (0, .ref (ad 0)), (1, .int x1)]) hx hb dX6_copy_30 rfl hl (by decide) rfl (fun ls hl => ?_)
    refine lv_iconst (v := 1) hx hb dX6_copy_31 (by decide) ?_
    refine lv_istore_n (lv' := [(3, .int 1), (2, .int ((Y0.1 0) * ((Y0.1 0) - 1))), (0, .ref (ad 0)), (1, .int x1)]) hx hb dX6_copy_32 rfl hl (by decide) rfl (fun ls hl => ?_)
    obtain ⟨N6, hw⟩ := hw
    refine L33 ((Y0.1 0) * ((Y0.1 0) - 1)) _ (fun  ls hl hw => ?_) N6 1 _ (lv_sub hl [2, 3, 1, 0] rfl) hw
    refine lv_bipush (v := (-6)) hx hb dX6_copy_90 (by decide) ?_
    exact W.iret (v := (-6)) hx hb hr (fun t ht _ => ⟨⟨_, rfl, ⟨_, rfl, hw⟩⟩, ht⟩) (fun _ h => by cases h) dX6_copy_92
  · have hw := Eq.mp (if_pos c1) hw
    refine lv_iconst (v := (-1)) hx hb dX6_copy_11 (by decide) ?_
    exact W.iret (v := (-1)) hx hb hr (fun t ht _ => ⟨⟨_, rfl, ⟨_, rfl, hw⟩⟩, ht⟩) (fun _ h => by cases h) dX6_copy_12
set_option maxHeartbeats 4000000 in
set_option maxRecDepth 100000 in
theorem c_X6_furs (l : Launch) (D : va_G) (cI cZ : ClassId) (ad : Nat → Nat) (Y0 : St) (x1 : Int32) (x2 : Int32) (k : Int32 → Prop) (hw : wp_X6_furs Y0 x1 x2 k) : KR l yX6_furs cX6_furs 7 (some .int) 3 68 D cI cZ [.ref (ad 0), .int x1, .int x2] [xcell ad, rcells cI ad 1 Y0] (fun v => ∃ r, v = some (.int r) ∧ k r) := by
  refine Met.ofE (by decide +kernel) (Nat.le_of_ble_eq_true rfl) ?_
  intro p e s m below meth c E ls hl
  obtain ⟨hx, hb, hr, hml, hW, hown, hlocks, hP, hK, hD, hN⟩ := E
  have hl : lv_has ls 7 [(0, .ref (ad 0)), (1, .int x1), (2, .int x2)] := hl
  have L30 : ∀  (kx : Int32 → Int32 → Prop), (∀ (y3 : Int32) (y4 : Int32), ∀ ls : Array Slot, lv_has ls 7 [(2, .int x2), (3, .int y3), (4, .int y4)] → kx y3 y4 → W p l e { frames := 3, cells := 0, slots := 0, locals := 68 } s m ([.ref (ad 0), .int x1, .int x2] : List Value).toArray below meth c s.heap [] 0 0 (MQ below (QR (fun v => ∃ r, v = some (.int r) ∧ k r)) ([.ref (ad 0), .int x1, .int x2] : List Value).toArray s 0 0 (fun _ => False)) (F0 m 66 ls [])) → ∀ (N30 : Nat) (y3 : Int32) (y4 : Int32) (y5 : Int32), ∀ ls : Array Slot, lv_has ls 7 [(0, .ref (ad 0)), (1, .int x1), (2, .int x2), (3, .int y3), (4, .int y4), (5, .int y5)] → wl_X6_furs_30 Y0 x1 kx N30 y3 y4 y5 → W p l e { frames := 3, cells := 0, slots := 0, locals := 68 } s m ([.ref (ad 0), .int x1, .int x2] : List Value).toArray below meth c s.heap [] 0 0 (MQ below (QR (fun v => ∃ r, v = some (.int r) ∧ k r)) ([.ref (ad 0), .int x1, .int x2] : List Value).toArray s 0 0 (fun _ => False)) (F0 m 30 ls []) := by
    intro  kx hxt N30
    induction N30 with
    | zero => intro y3 y4 y5 ls hl hw; exact False.elim hw
    | succ N30 ih =>
      intro y3 y4 y5 ls hl hw
      have hw : (if x1 ≤ y5 then (kx y3 y4) else (wp_X2_fursAfter Y0 y5 (fun (v4 : Int32) => (if v4 ≤ y3 then (wl_X6_furs_30 Y0 x1 kx N30 y3 y4 (y5 + 1)) else (wl_X6_furs_30 Y0 x1 kx N30 v4 y5 (y5 + 1)))))) := hw
      refine lv_iload hx hb dX6_furs_30 (lv_at hl 5 rfl) ?_
      refine lv_iload_n hx hb dX6_furs_32 rfl (lv_at hl 1 rfl) ?_
      refine lv_icmp_ge (tgt := 66) hx hb dX6_furs_33 (by decide) (fun c3 => ?_) (fun c3 => ?_)
      · have hw := Eq.mp (if_pos c3) hw
        exact hxt y3 y4 _ (lv_sub hl [2, 3, 4] rfl) hw
      · have hw := Eq.mp (if_neg c3) hw
        refine lv_aload_n hx hb dX6_furs_36 rfl (lv_at hl 0 rfl) ?_
        refine va_get (D := D) (ci := 6) (v := .ref (ad 1)) (C := RX6) (T := TX6) (N := 9) hx hb hW inW_X6 hown hK hP 0 rfl rfl 0 (by decide) (hW _ fl_X6_10) (fun _ h9 => h9) rfl dX6_furs_37 ?_
        refine lv_iload hx hb dX6_furs_40 (lv_at hl 5 rfl) ?_
        refine callR (va_runV (As := [.int y5]) (rest := []) ⟨hx, hb, hml, hown, hW⟩ (c_X2_fursAfter l D cI cZ ad 1 Y0 y5 _ hw) (cwV0 hW mV_X2_fursAfter ml_X6_181 ⟨Nat.le_of_ble_eq_true rfl, Nat.le_of_ble_eq_true rfl⟩) (preV0 0 rfl rfl hK hN hP hD [1] rfl rfl) rfl rfl hl.1 rfl (lv_room (Nat.le_of_ble_eq_true rfl)) dX6_furs_42 ⟨Nat.le_refl _, Nat.le_refl _⟩) (fun v9 hq => ?_)
        obtain ⟨v4, rfl, hw⟩ := hq
        refine W.eq (g2 := F0 m 45 ls [.int v4]) rfl ?_
        refine lv_istore (lv' := [(6, .int v4), (0, .ref (ad 0)), (1, .int x1), (2, .int x2), (3, .int y3), (4, .int y4), (5, .int y5)]) hx hb dX6_furs_45 hl (by decide) rfl (fun ls hl => ?_)
        refine lv_iload hx hb dX6_furs_47 (lv_at hl 0 rfl) ?_
        refine lv_iload_n hx hb dX6_furs_49 rfl (lv_at hl 4 rfl) ?_
        refine lv_icmp_le (tgt := 60) hx hb dX6_furs_50 (by decide) (fun c5 => ?_) (fun c5 => ?_)
        · have hw := Eq.mp (if_pos c5) hw
          refine lv_iinc (v := (y5 + 1)) (lv' := [(5, .int (y5 + 1)), (6, .int v4), (0, .ref (ad 0)), (1, .int x1), (2, .int x2), (3, .int y3), (4, .int y4)]) hx hb dX6_furs_60 hl (k := 6) rfl rfl (by decide) rfl (fun ls hl => ?_)
          refine lv_goto (tgt := 30) hx hb dX6_furs_63 (by decide) ?_
          exact ih y3 y4 (y5 + 1) _ (lv_sub hl [2, 3, 4, 5, 6, 0] rfl) hw
        · have hw := Eq.mp (if_neg c5) hw
          refine lv_iload hx hb dX6_furs_53 (lv_at hl 0 rfl) ?_
          refine lv_istore_n (lv' := [(3, .int v4), (6, .int v4), (0, .ref (ad 0)), (1, .int x1), (2, .int x2), (4, .int y4), (5, .int y5)]) hx hb dX6_furs_55 rfl hl (by decide) rfl (fun ls hl => ?_)
          refine lv_iload hx hb dX6_furs_56 (lv_at hl 6 rfl) ?_
          refine lv_istore (lv' := [(4, .int y5), (3, .int v4), (6, .int v4), (0, .ref (ad 0)), (1, .int x1), (2, .int x2), (5, .int y5)]) hx hb dX6_furs_58 hl (by decide) rfl (fun ls hl => ?_)
          refine lv_iinc (v := (y5 + 1)) (lv' := [(5, .int (y5 + 1)), (4, .int y5), (3, .int v4), (6, .int v4), (0, .ref (ad 0)), (1, .int x1), (2, .int x2)]) hx hb dX6_furs_60 hl (k := 6) rfl rfl (by decide) rfl (fun ls hl => ?_)
          refine lv_goto (tgt := 30) hx hb dX6_furs_63 (by decide) ?_
          exact ih v4 y5 (y5 + 1) _ (lv_sub hl [4, 5, 6, 2, 1, 0] rfl) hw
  have hw : (if (F_X6_within x1 1 24) = 0 then (k (-2)) else (if (F_X6_within x2 0 1) = 0 then (k (-2)) else (∃ M9, wl_X6_furs_30 Y0 x1 (fun (v6 : Int32) (v7 : Int32) => (if x2 = 0 then (k v6) else (k v7))) M9 0 0 0))) := hw
  refine lv_iload_n hx hb dX6_furs_0 rfl (lv_at hl 1 rfl) ?_
  refine lv_iconst (v := 1) hx hb dX6_furs_1 (by decide) ?_
  refine lv_bipush (v := 24) hx hb dX6_furs_2 (by decide) ?_
  refine callF (va_runS (As := [.int x1, .int 1, .int 24]) (rest := []) ⟨hx, hb, hml, hown, hW⟩ (c_X6_within l D cI cZ x1 1 24 _ rfl) (cwS0 hW mS_X6_within ml_X6_69 ⟨Nat.le_of_ble_eq_true rfl, Nat.le_of_ble_eq_true rfl⟩) (preS0 hK hN hP hD [] rfl rfl) rfl rfl hl.1 rfl (lv_room (Nat.le_of_ble_eq_true rfl)) dX6_furs_4 ⟨Nat.le_refl _, Nat.le_refl _⟩) ?_
  refine W.eq (g2 := F0 m 7 ls [.int (F_X6_within x1 1 24)]) rfl ?_
  refine lv_if_eq (tgt := 19) hx hb dX6_furs_7 (by decide) (fun c1 => ?_) (fun c1 => ?_)
  · have hw := Eq.mp (if_pos c1) hw
    refine lv_bipush (v := (-2)) hx hb dX6_furs_19 (by decide) ?_
    exact W.iret (v := (-2)) hx hb hr (fun t ht _ => ⟨⟨_, rfl, ⟨_, rfl, hw⟩⟩, ht⟩) (fun _ h => by cases h) dX6_furs_21
  · have hw := Eq.mp (if_neg c1) hw
    refine lv_iload_n hx hb dX6_furs_10 rfl (lv_at hl 2 rfl) ?_
    refine lv_iconst (v := 0) hx hb dX6_furs_11 (by decide) ?_
    refine lv_iconst (v := 1) hx hb dX6_furs_12 (by decide) ?_
    refine callF (va_runS (As := [.int x2, .int 0, .int 1]) (rest := []) ⟨hx, hb, hml, hown, hW⟩ (c_X6_within l D cI cZ x2 0 1 _ rfl) (cwS0 hW mS_X6_within ml_X6_69 ⟨Nat.le_of_ble_eq_true rfl, Nat.le_of_ble_eq_true rfl⟩) (preS0 hK hN hP hD [] rfl rfl) rfl rfl hl.1 rfl (lv_room (Nat.le_of_ble_eq_true rfl)) dX6_furs_13 ⟨Nat.le_refl _, Nat.le_refl _⟩) ?_
    refine W.eq (g2 := F0 m 16 ls [.int (F_X6_within x2 0 1)]) rfl ?_
    refine lv_if_ne (tgt := 22) hx hb dX6_furs_16 (by decide) (fun c2 => ?_) (fun c2 => ?_)
    · have hw := Eq.mp (if_neg c2) hw
      refine lv_iconst (v := 0) hx hb dX6_furs_22 (by decide) ?_
      refine lv_istore_n (lv' := [(3, .int 0), (0, .ref (ad 0)), (1, .int x1), (2, .int x2)]) hx hb dX6_furs_23 rfl hl (by decide) rfl (fun ls hl => ?_)
      refine lv_iconst (v := 0) hx hb dX6_furs_24 (by decide) ?_
      refine lv_istore (lv' := [(4, .int 0), (3, .int 0), (0, .ref (ad 0)), (1, .int x1), (2, .int x2)]) hx hb dX6_furs_25 hl (by decide) rfl (fun ls hl => ?_)
      refine lv_iconst (v := 0) hx hb dX6_furs_27 (by decide) ?_
      refine lv_istore (lv' := [(5, .int 0), (4, .int 0), (3, .int 0), (0, .ref (ad 0)), (1, .int x1), (2, .int x2)]) hx hb dX6_furs_28 hl (by decide) rfl (fun ls hl => ?_)
      obtain ⟨N10, hw⟩ := hw
      refine L30  _ (fun v6 v7 ls hl hw => ?_) N10 0 0 0 _ (lv_sub hl [3, 4, 5, 2, 1, 0] rfl) hw
      refine lv_iload_n hx hb dX6_furs_66 rfl (lv_at hl 0 rfl) ?_
      refine lv_if_ne (tgt := 74) hx hb dX6_furs_67 (by decide) (fun c8 => ?_) (fun c8 => ?_)
      · have hw := Eq.mp (if_neg c8) hw
        refine lv_iload hx hb dX6_furs_74 (lv_at hl 2 rfl) ?_
        exact W.iret (v := v7) hx hb hr (fun t ht _ => ⟨⟨_, rfl, ⟨_, rfl, hw⟩⟩, ht⟩) (fun _ h => by cases h) dX6_furs_76
      · have hw := Eq.mp (if_pos c8) hw
        refine lv_iload_n hx hb dX6_furs_70 rfl (lv_at hl 1 rfl) ?_
        refine lv_goto (tgt := 76) hx hb dX6_furs_71 (by decide) ?_
        exact W.iret (v := v6) hx hb hr (fun t ht _ => ⟨⟨_, rfl, ⟨_, rfl, hw⟩⟩, ht⟩) (fun _ h => by cases h) dX6_furs_76
    · have hw := Eq.mp (if_pos c2) hw
      refine lv_bipush (v := (-2)) hx hb dX6_furs_19 (by decide) ?_
      exact W.iret (v := (-2)) hx hb hr (fun t ht _ => ⟨⟨_, rfl, ⟨_, rfl, hw⟩⟩, ht⟩) (fun _ h => by cases h) dX6_furs_21
set_option maxHeartbeats 4000000 in
set_option maxRecDepth 100000 in
theorem c_X6_seen (l : Launch) (D : va_G) (cI cZ : ClassId) (ad : Nat → Nat) (Y0 : St) (x1 : Int32) (x2 : Int32) (k : Int32 → St → Prop) (hw : wp_X6_seen Y0 x1 x2 k) : KW l yX6_seen cX6_seen 3 (some .int) 1 22 D cI cZ [.ref (ad 0), .int x1, .int x2] [xcell ad, rcells cI ad 1 Y0] (fun v (u : St) => ∃ r, v = some (.int r) ∧ k r u) (fun u : St => [xcell ad, rcells cI ad 1 u]) := by
  refine Met.ofE (by decide +kernel) (Nat.le_of_ble_eq_true rfl) ?_
  intro p e s m below meth c E ls hl
  obtain ⟨hx, hb, hr, hml, hW, hown, hlocks, hP, hK, hD, hN⟩ := E
  have hl : lv_has ls 3 [(0, .ref (ad 0)), (1, .int x1), (2, .int x2)] := hl
  have hS : va_S (cOf (jn [xcell ad, rcells cI ad 1 Y0])) s.heap s.heap [] := va_S.rf
  have hw : (if (F_X2_has Y0 x1) = 0 then (k (-1) Y0) else (if (Y0.1 6) < 8 then (wp_X3_put 8 (Y0.2 13) (Y0.1 6) x1 (fun (Z3 : (Nat → Int32)) => (if x2 = 0 then (wp_X3_put 8 (Y0.2 14) (Y0.1 6) 0 (fun (Z5 : (Nat → Int32)) => (k ((Y0.1 6) + 1) (sI (sA (sA Y0 13 Z3) 14 Z5) 6 ((Y0.1 6) + 1))))) else (wp_X3_put 8 (Y0.2 14) (Y0.1 6) 1 (fun (Z6 : (Nat → Int32)) => (k ((Y0.1 6) + 1) (sI (sA (sA Y0 13 Z3) 14 Z6) 6 ((Y0.1 6) + 1)))))))) else (k (-4) Y0))) := hw
  refine lv_aload_n hx hb dX6_seen_0 rfl (lv_at hl 0 rfl) ?_
  refine va_get (D := D) (ci := 6) (v := .ref (ad 1)) (C := RX6) (T := TX6) (N := 9) hx hb hW inW_X6 hown hK hP 0 rfl rfl 0 (by decide) (hW _ fl_X6_10) (fun _ h9 => h9) rfl dX6_seen_1 ?_
  refine lv_iload_n hx hb dX6_seen_4 rfl (lv_at hl 1 rfl) ?_
  refine callF (va_runV (As := [.int x1]) (rest := []) ⟨hx, hb, hml, hown, hW⟩ (c_X2_has l D cI cZ ad 1 Y0 x1 _ rfl) (cwV0 hW mV_X2_has ml_X6_79 ⟨Nat.le_of_ble_eq_true rfl, Nat.le_of_ble_eq_true rfl⟩) (preV0 0 rfl rfl hK hN hP hD [1] rfl rfl) rfl rfl hl.1 rfl (lv_room (Nat.le_of_ble_eq_true rfl)) dX6_seen_5 ⟨Nat.le_refl _, Nat.le_refl _⟩) ?_
  refine W.eq (g2 := F0 m 8 ls [.int (F_X2_has Y0 x1)]) rfl ?_
  refine lv_if_ne (tgt := 13) hx hb dX6_seen_8 (by decide) (fun c1 => ?_) (fun c1 => ?_)
  · have hw := Eq.mp (if_neg c1) hw
    refine lv_aload_n hx hb dX6_seen_13 rfl (lv_at hl 0 rfl) ?_
    refine va_get (D := D) (ci := 6) (v := .ref (ad 1)) (C := RX6) (T := TX6) (N := 9) hx hb hW inW_X6 hown hK hP 0 rfl rfl 0 (by decide) (hW _ fl_X6_10) (fun _ h9 => h9) rfl dX6_seen_14 ?_
    refine va_get (D := D) (ci := 2) (v := .int (Y0.1 6)) (C := RX2) (T := TX2) (N := 15) hx hb hW inW_X2 hown hK hP 1 rfl rfl 6 (by decide) (hW _ fl_X6_184) (fun _ h9 => h9) rfl dX6_seen_17 ?_
    refine lv_bipush (v := 8) hx hb dX6_seen_20 (by decide) ?_
    refine lv_icmp_lt (tgt := 28) hx hb dX6_seen_22 (by decide) (fun c2 => ?_) (fun c2 => ?_)
    · have hw := Eq.mp (if_pos c2) hw
      refine lv_aload_n hx hb dX6_seen_28 rfl (lv_at hl 0 rfl) ?_
      refine va_get (D := D) (ci := 6) (v := .ref (ad 1)) (C := RX6) (T := TX6) (N := 9) hx hb hW inW_X6 hown hK hP 0 rfl rfl 0 (by decide) (hW _ fl_X6_10) (fun _ h9 => h9) rfl dX6_seen_29 ?_
      refine va_get (D := D) (ci := 2) (v := .ref (ad 8)) (C := RX2) (T := TX2) (N := 15) hx hb hW inW_X2 hown hK hP 1 rfl rfl 13 (by decide) (hW _ fl_X6_187) (fun _ h9 => h9) rfl dX6_seen_32 ?_
      refine lv_aload_n hx hb dX6_seen_35 rfl (lv_at hl 0 rfl) ?_
      refine va_get (D := D) (ci := 6) (v := .ref (ad 1)) (C := RX6) (T := TX6) (N := 9) hx hb hW inW_X6 hown hK hP 0 rfl rfl 0 (by decide) (hW _ fl_X6_10) (fun _ h9 => h9) rfl dX6_seen_36 ?_
      refine va_get (D := D) (ci := 2) (v := .int (Y0.1 6)) (C := RX2) (T := TX2) (N := 15) hx hb hW inW_X2 hown hK hP 1 rfl rfl 6 (by decide) (hW _ fl_X6_184) (fun _ h9 => h9) rfl dX6_seen_39 ?_
      refine lv_iload_n hx hb dX6_seen_42 rfl (lv_at hl 1 rfl) ?_
      refine callW (va_runV (As := [.int (Y0.1 6), .int x1]) (rest := []) ⟨hx, hb, hml, hown, hW⟩ (c_X3_put__round_13 l D cI cZ ad 1 Y0 (Y0.1 6) x1 _ hw) (cwV0 hW mV_X3_put ml_X6_93 ⟨Nat.le_of_ble_eq_true rfl, Nat.le_of_ble_eq_true rfl⟩) (preV0 7 rfl rfl hK hN hP hD [1] rfl rfl) rfl rfl hl.1 rfl (lv_room (Nat.le_of_ble_eq_true rfl)) dX6_seen_43 ⟨Nat.le_refl _, Nat.le_refl _⟩) hP hD hS [1] rfl rfl (fun _ => rfl) (fun v9 u9 H locs hq hP hD hS => ?_)
      obtain ⟨rfl, hw⟩ := hq
      obtain ⟨Z3, rfl⟩ : ∃ z, z = u9 := ⟨_, rfl⟩
      have hP : va_P D classes (jn [xcell ad, rcells cI ad 1 (sA Y0 13 Z3)]) H := hP
      have hD : va_D (cOf (jn [xcell ad, rcells cI ad 1 Y0])) (jn [xcell ad, rcells cI ad 1 (sA Y0 13 Z3)]) := hD
      refine W.eq (g2 := F0 m 46 ls []) rfl ?_
      refine lv_aload_n hx hb dX6_seen_46 rfl (lv_at hl 0 rfl) ?_
      refine va_get (D := D) (ci := 6) (v := .ref (ad 1)) (C := RX6) (T := TX6) (N := 9) hx hb hW inW_X6 hown hK hP 0 rfl rfl 0 (by decide) (hW _ fl_X6_10) (fun _ h9 => h9) rfl dX6_seen_47 ?_
      refine va_get (D := D) (ci := 2) (v := .ref (ad 9)) (C := RX2) (T := TX2) (N := 15) hx hb hW inW_X2 hown hK hP 1 rfl rfl 14 (by decide) (hW _ fl_X6_190) (fun _ h9 => h9) rfl dX6_seen_50 ?_
      refine lv_aload_n hx hb dX6_seen_53 rfl (lv_at hl 0 rfl) ?_
      refine va_get (D := D) (ci := 6) (v := .ref (ad 1)) (C := RX6) (T := TX6) (N := 9) hx hb hW inW_X6 hown hK hP 0 rfl rfl 0 (by decide) (hW _ fl_X6_10) (fun _ h9 => h9) rfl dX6_seen_54 ?_
      refine va_get (D := D) (ci := 2) (v := .int (Y0.1 6)) (C := RX2) (T := TX2) (N := 15) hx hb hW inW_X2 hown hK hP 1 rfl rfl 6 (by decide) (hW _ fl_X6_184) (fun _ h9 => h9) rfl dX6_seen_57 ?_
      refine lv_iload_n hx hb dX6_seen_60 rfl (lv_at hl 2 rfl) ?_
      refine lv_if_eq (tgt := 68) hx hb dX6_seen_61 (by decide) (fun c4 => ?_) (fun c4 => ?_)
      · have hw := Eq.mp (if_pos c4) hw
        refine lv_iconst (v := 0) hx hb dX6_seen_68 (by decide) ?_
        refine callW (va_runV (As := [.int (Y0.1 6), .int 0]) (rest := []) ⟨hx, hb, hml, hown, hW⟩ (c_X3_put__round_14 l D cI cZ ad 1 (sA Y0 13 Z3) (Y0.1 6) 0 _ hw) (cwV0 hW mV_X3_put ml_X6_93 ⟨Nat.le_of_ble_eq_true rfl, Nat.le_of_ble_eq_true rfl⟩) (preV0 8 rfl rfl hK hN hP hD [1] rfl rfl) rfl rfl hl.1 rfl (lv_room (Nat.le_of_ble_eq_true rfl)) dX6_seen_69 ⟨Nat.le_refl _, Nat.le_refl _⟩) hP hD hS [1] rfl rfl (fun _ => rfl) (fun v9 u9 H locs hq hP hD hS => ?_)
        obtain ⟨rfl, hw⟩ := hq
        obtain ⟨Z5, rfl⟩ : ∃ z, z = u9 := ⟨_, rfl⟩
        have hP : va_P D classes (jn [xcell ad, rcells cI ad 1 (sA (sA Y0 13 Z3) 14 Z5)]) H := hP
        have hD : va_D (cOf (jn [xcell ad, rcells cI ad 1 Y0])) (jn [xcell ad, rcells cI ad 1 (sA (sA Y0 13 Z3) 14 Z5)]) := hD
        refine W.eq (g2 := F0 m 72 ls []) rfl ?_
        refine lv_aload_n hx hb dX6_seen_72 rfl (lv_at hl 0 rfl) ?_
        refine va_get (D := D) (ci := 6) (v := .ref (ad 1)) (C := RX6) (T := TX6) (N := 9) hx hb hW inW_X6 hown hK hP 0 rfl rfl 0 (by decide) (hW _ fl_X6_10) (fun _ h9 => h9) rfl dX6_seen_73 ?_
        refine lv_dup hx hb dX6_seen_76 rfl ?_
        refine va_get (D := D) (ci := 2) (v := .int (Y0.1 6)) (C := RX2) (T := TX2) (N := 15) hx hb hW inW_X2 hown hK hP 1 rfl rfl 6 (by decide) (hW _ fl_X6_184) (fun _ h9 => h9) rfl dX6_seen_77 ?_
        refine lv_iconst (v := 1) hx hb dX6_seen_80 (by decide) ?_
        refine lv_iadd hx hb dX6_seen_81 ?_
        refine va_put (D := D) (ci := 2) (v := .int ((Y0.1 6) + 1)) (ty := .int) (C := RX2) (T := TX2) (N := 15) hx hb hW inW_X2 tyX2 tyX2_ok nmX2 hown hK hP hD hS 1 rfl rfl 6 (by decide) (hW _ fl_X6_184) (fun _ h9 => h9) rfl (by decide +kernel) rfl rfl (Nat.le_of_ble_eq_true rfl) dX6_seen_82 (fun H locs hP hD hS => ?_)
        have hP : va_P D classes (jn [xcell ad, rcells cI ad 1 (sI (sA (sA Y0 13 Z3) 14 Z5) 6 ((Y0.1 6) + 1))]) H := hP
        have hD : va_D (cOf (jn [xcell ad, rcells cI ad 1 Y0])) (jn [xcell ad, rcells cI ad 1 (sI (sA (sA Y0 13 Z3) 14 Z5) 6 ((Y0.1 6) + 1))]) := hD
        refine lv_aload_n hx hb dX6_seen_85 rfl (lv_at hl 0 rfl) ?_
        refine va_get (D := D) (ci := 6) (v := .ref (ad 1)) (C := RX6) (T := TX6) (N := 9) hx hb hW inW_X6 hown hK hP 0 rfl rfl 0 (by decide) (hW _ fl_X6_10) (fun _ h9 => h9) rfl dX6_seen_86 ?_
        refine va_get (D := D) (ci := 2) (v := .int ((Y0.1 6) + 1)) (C := RX2) (T := TX2) (N := 15) hx hb hW inW_X2 hown hK hP 1 rfl rfl 6 (by decide) (hW _ fl_X6_184) (fun _ h9 => h9) rfl dX6_seen_89 ?_
        exact W.iret (v := ((Y0.1 6) + 1)) hx hb hr (fun t ht _ => ⟨⟨_, ((sI (sA (sA Y0 13 Z3) 14 Z5) 6 ((Y0.1 6) + 1))), rfl, ⟨_, rfl, hw⟩, by rw [ht]; exact hP⟩, hS.F ht⟩) hS.2.2 dX6_seen_92
      · have hw := Eq.mp (if_neg c4) hw
        refine lv_iconst (v := 1) hx hb dX6_seen_64 (by decide) ?_
        refine lv_goto (tgt := 69) hx hb dX6_seen_65 (by decide) ?_
        refine callW (va_runV (As := [.int (Y0.1 6), .int 1]) (rest := []) ⟨hx, hb, hml, hown, hW⟩ (c_X3_put__round_14 l D cI cZ ad 1 (sA Y0 13 Z3) (Y0.1 6) 1 _ hw) (cwV0 hW mV_X3_put ml_X6_93 ⟨Nat.le_of_ble_eq_true rfl, Nat.le_of_ble_eq_true rfl⟩) (preV0 8 rfl rfl hK hN hP hD [1] rfl rfl) rfl rfl hl.1 rfl (lv_room (Nat.le_of_ble_eq_true rfl)) dX6_seen_69 ⟨Nat.le_refl _, Nat.le_refl _⟩) hP hD hS [1] rfl rfl (fun _ => rfl) (fun v9 u9 H locs hq hP hD hS => ?_)
        obtain ⟨rfl, hw⟩ := hq
        obtain ⟨Z6, rfl⟩ : ∃ z, z = u9 := ⟨_, rfl⟩
        have hP : va_P D classes (jn [xcell ad, rcells cI ad 1 (sA (sA Y0 13 Z3) 14 Z6)]) H := hP
        have hD : va_D (cOf (jn [xcell ad, rcells cI ad 1 Y0])) (jn [xcell ad, rcells cI ad 1 (sA (sA Y0 13 Z3) 14 Z6)]) := hD
        refine W.eq (g2 := F0 m 72 ls []) rfl ?_
        refine lv_aload_n hx hb dX6_seen_72 rfl (lv_at hl 0 rfl) ?_
        refine va_get (D := D) (ci := 6) (v := .ref (ad 1)) (C := RX6) (T := TX6) (N := 9) hx hb hW inW_X6 hown hK hP 0 rfl rfl 0 (by decide) (hW _ fl_X6_10) (fun _ h9 => h9) rfl dX6_seen_73 ?_
        refine lv_dup hx hb dX6_seen_76 rfl ?_
        refine va_get (D := D) (ci := 2) (v := .int (Y0.1 6)) (C := RX2) (T := TX2) (N := 15) hx hb hW inW_X2 hown hK hP 1 rfl rfl 6 (by decide) (hW _ fl_X6_184) (fun _ h9 => h9) rfl dX6_seen_77 ?_
        refine lv_iconst (v := 1) hx hb dX6_seen_80 (by decide) ?_
        refine lv_iadd hx hb dX6_seen_81 ?_
        refine va_put (D := D) (ci := 2) (v := .int ((Y0.1 6) + 1)) (ty := .int) (C := RX2) (T := TX2) (N := 15) hx hb hW inW_X2 tyX2 tyX2_ok nmX2 hown hK hP hD hS 1 rfl rfl 6 (by decide) (hW _ fl_X6_184) (fun _ h9 => h9) rfl (by decide +kernel) rfl rfl (Nat.le_of_ble_eq_true rfl) dX6_seen_82 (fun H locs hP hD hS => ?_)
        have hP : va_P D classes (jn [xcell ad, rcells cI ad 1 (sI (sA (sA Y0 13 Z3) 14 Z6) 6 ((Y0.1 6) + 1))]) H := hP
        have hD : va_D (cOf (jn [xcell ad, rcells cI ad 1 Y0])) (jn [xcell ad, rcells cI ad 1 (sI (sA (sA Y0 13 Z3) 14 Z6) 6 ((Y0.1 6) + 1))]) := hD
        refine lv_aload_n hx hb dX6_seen_85 rfl (lv_at hl 0 rfl) ?_
        refine va_get (D := D) (ci := 6) (v := .ref (ad 1)) (C := RX6) (T := TX6) (N := 9) hx hb hW inW_X6 hown hK hP 0 rfl rfl 0 (by decide) (hW _ fl_X6_10) (fun _ h9 => h9) rfl dX6_seen_86 ?_
        refine va_get (D := D) (ci := 2) (v := .int ((Y0.1 6) + 1)) (C := RX2) (T := TX2) (N := 15) hx hb hW inW_X2 hown hK hP 1 rfl rfl 6 (by decide) (hW _ fl_X6_184) (fun _ h9 => h9) rfl dX6_seen_89 ?_
        exact W.iret (v := ((Y0.1 6) + 1)) hx hb hr (fun t ht _ => ⟨⟨_, ((sI (sA (sA Y0 13 Z3) 14 Z6) 6 ((Y0.1 6) + 1))), rfl, ⟨_, rfl, hw⟩, by rw [ht]; exact hP⟩, hS.F ht⟩) hS.2.2 dX6_seen_92
    · have hw := Eq.mp (if_neg c2) hw
      refine lv_bipush (v := (-4)) hx hb dX6_seen_25 (by decide) ?_
      exact W.iret (v := (-4)) hx hb hr (fun t ht _ => ⟨⟨_, (Y0), rfl, ⟨_, rfl, hw⟩, by rw [ht]; exact hP⟩, hS.F ht⟩) hS.2.2 dX6_seen_27
  · have hw := Eq.mp (if_pos c1) hw
    refine lv_iconst (v := (-1)) hx hb dX6_seen_11 (by decide) ?_
    exact W.iret (v := (-1)) hx hb hr (fun t ht _ => ⟨⟨_, (Y0), rfl, ⟨_, rfl, hw⟩, by rw [ht]; exact hP⟩, hS.F ht⟩) hS.2.2 dX6_seen_12
set_option maxHeartbeats 4000000 in
set_option maxRecDepth 100000 in
theorem c_X6_forget (l : Launch) (D : va_G) (cI cZ : ClassId) (ad : Nat → Nat) (Y0 : St) (k : Int32 → St → Prop) (hw : wp_X6_forget Y0 k) : KW l yX6_forget cX6_forget 2 (some .int) 0 0 D cI cZ [.ref (ad 0)] [xcell ad, rcells cI ad 1 Y0] (fun v (u : St) => ∃ r, v = some (.int r) ∧ k r u) (fun u : St => [xcell ad, rcells cI ad 1 u]) := by
  refine Met.ofE (by decide +kernel) (Nat.le_of_ble_eq_true rfl) ?_
  intro p e s m below meth c E ls hl
  obtain ⟨hx, hb, hr, hml, hW, hown, hlocks, hP, hK, hD, hN⟩ := E
  have hl : lv_has ls 2 [(0, .ref (ad 0))] := hl
  have hS : va_S (cOf (jn [xcell ad, rcells cI ad 1 Y0])) s.heap s.heap [] := va_S.rf
  have hw : (k (Y0.1 6) (sI Y0 6 0)) := hw
  refine lv_aload_n hx hb dX6_forget_0 rfl (lv_at hl 0 rfl) ?_
  refine va_get (D := D) (ci := 6) (v := .ref (ad 1)) (C := RX6) (T := TX6) (N := 9) hx hb hW inW_X6 hown hK hP 0 rfl rfl 0 (by decide) (hW _ fl_X6_10) (fun _ h9 => h9) rfl dX6_forget_1 ?_
  refine va_get (D := D) (ci := 2) (v := .int (Y0.1 6)) (C := RX2) (T := TX2) (N := 15) hx hb hW inW_X2 hown hK hP 1 rfl rfl 6 (by decide) (hW _ fl_X6_184) (fun _ h9 => h9) rfl dX6_forget_4 ?_
  refine lv_istore_n (lv' := [(1, .int (Y0.1 6)), (0, .ref (ad 0))]) hx hb dX6_forget_7 rfl hl (by decide) rfl (fun ls hl => ?_)
  refine lv_aload_n hx hb dX6_forget_8 rfl (lv_at hl 1 rfl) ?_
  refine va_get (D := D) (ci := 6) (v := .ref (ad 1)) (C := RX6) (T := TX6) (N := 9) hx hb hW inW_X6 hown hK hP 0 rfl rfl 0 (by decide) (hW _ fl_X6_10) (fun _ h9 => h9) rfl dX6_forget_9 ?_
  refine lv_iconst (v := 0) hx hb dX6_forget_12 (by decide) ?_
  refine va_put (D := D) (ci := 2) (v := .int 0) (ty := .int) (C := RX2) (T := TX2) (N := 15) hx hb hW inW_X2 tyX2 tyX2_ok nmX2 hown hK hP hD hS 1 rfl rfl 6 (by decide) (hW _ fl_X6_184) (fun _ h9 => h9) rfl (by decide +kernel) rfl rfl (Nat.le_of_ble_eq_true rfl) dX6_forget_13 (fun H locs hP hD hS => ?_)
  have hP : va_P D classes (jn [xcell ad, rcells cI ad 1 (sI Y0 6 0)]) H := hP
  have hD : va_D (cOf (jn [xcell ad, rcells cI ad 1 Y0])) (jn [xcell ad, rcells cI ad 1 (sI Y0 6 0)]) := hD
  refine lv_iload_n hx hb dX6_forget_16 rfl (lv_at hl 0 rfl) ?_
  exact W.iret (v := (Y0.1 6)) hx hb hr (fun t ht _ => ⟨⟨_, ((sI Y0 6 0)), rfl, ⟨_, rfl, hw⟩, by rw [ht]; exact hP⟩, hS.F ht⟩) hS.2.2 dX6_forget_17
set_option maxHeartbeats 4000000 in
set_option maxRecDepth 100000 in
theorem c_X6_changed (l : Launch) (D : va_G) (cI cZ : ClassId) (ad : Nat → Nat) (Y0 : St) (Y7 : St) (x1 : Int32) (k : Int32 → St → Prop) (hw : wp_X6_changed Y0 Y7 x1 k) : KW l yX6_changed cX6_changed 2 (some .int) 5 117 D cI cZ [.ref (ad 0), .int x1] [xcell ad, rcells cI ad 1 Y0, dcells cI ad 75 Y7] (fun v (u : St) => ∃ r, v = some (.int r) ∧ k r u) (fun u : St => [xcell ad, rcells cI ad 1 Y0, dcells cI ad 75 u]) := by
  refine Met.ofE (by decide +kernel) (Nat.le_of_ble_eq_true rfl) ?_
  intro p e s m below meth c E ls hl
  obtain ⟨hx, hb, hr, hml, hW, hown, hlocks, hP, hK, hD, hN⟩ := E
  have hl : lv_has ls 2 [(0, .ref (ad 0)), (1, .int x1)] := hl
  have hS : va_S (cOf (jn [xcell ad, rcells cI ad 1 Y0, dcells cI ad 75 Y7])) s.heap s.heap [] := va_S.rf
  have hw : (wp_X0_prepare Y7 Y0 (fun (Z1 : St) => (if x1 = (-1) then (wp_X0_ways Z1 (fun (v3 : Int32) => (k v3 Z1))) else (if x1 < 0 then (k (-6) Z1) else (wp_X0_ways Z1 (fun (v5 : Int32) => (if x1 < v5 then (wp_X0_rowAt Z1 Y0 x1 (fun (v7 : Int32) (Z8 : St) => (k v7 Z8))) else (k (-6) Z1)))))))) := hw
  refine lv_aload_n hx hb dX6_changed_0 rfl (lv_at hl 0 rfl) ?_
  refine va_get (D := D) (ci := 6) (v := .ref (ad 75)) (C := RX6) (T := TX6) (N := 9) hx hb hW inW_X6 hown hK hP 0 rfl rfl 7 (by decide) (hW _ fl_X6_51) (fun _ h9 => h9) rfl dX6_changed_1 ?_
  refine lv_aload_n hx hb dX6_changed_4 rfl (lv_at hl 0 rfl) ?_
  refine va_get (D := D) (ci := 6) (v := .ref (ad 1)) (C := RX6) (T := TX6) (N := 9) hx hb hW inW_X6 hown hK hP 0 rfl rfl 0 (by decide) (hW _ fl_X6_10) (fun _ h9 => h9) rfl dX6_changed_5 ?_
  refine callW (va_runV (As := [.ref (ad 1)]) (rest := []) ⟨hx, hb, hml, hown, hW⟩ (c_X0_prepare l D cI cZ ad 75 Y7 1 Y0 _ hw) (cwV0 hW mV_X0_prepare ml_X6_193 ⟨Nat.le_of_ble_eq_true rfl, Nat.le_of_ble_eq_true rfl⟩) (preV0 0 rfl rfl hK hN hP hD [2, 1] rfl rfl) rfl rfl hl.1 rfl (lv_room (Nat.le_of_ble_eq_true rfl)) dX6_changed_8 ⟨Nat.le_refl _, Nat.le_refl _⟩) hP hD hS [2, 1] rfl rfl (fun _ => rfl) (fun v9 u9 H locs hq hP hD hS => ?_)
  obtain ⟨rfl, hw⟩ := hq
  obtain ⟨Z1, rfl⟩ : ∃ z, z = u9 := ⟨_, rfl⟩
  have hP : va_P D classes (jn [xcell ad, rcells cI ad 1 Y0, dcells cI ad 75 Z1]) H := hP
  have hD : va_D (cOf (jn [xcell ad, rcells cI ad 1 Y0, dcells cI ad 75 Y7])) (jn [xcell ad, rcells cI ad 1 Y0, dcells cI ad 75 Z1]) := hD
  refine W.eq (g2 := F0 m 11 ls []) rfl ?_
  refine lv_iload_n hx hb dX6_changed_11 rfl (lv_at hl 1 rfl) ?_
  refine lv_iconst (v := (-1)) hx hb dX6_changed_12 (by decide) ?_
  refine lv_icmp_ne (tgt := 24) hx hb dX6_changed_13 (by decide) (fun c2 => ?_) (fun c2 => ?_)
  · have hw := Eq.mp (if_neg c2) hw
    refine lv_iload_n hx hb dX6_changed_24 rfl (lv_at hl 1 rfl) ?_
    refine lv_if_lt (tgt := 39) hx hb dX6_changed_25 (by decide) (fun c4 => ?_) (fun c4 => ?_)
    · have hw := Eq.mp (if_pos c4) hw
      refine lv_bipush (v := (-6)) hx hb dX6_changed_39 (by decide) ?_
      exact W.iret (v := (-6)) hx hb hr (fun t ht _ => ⟨⟨_, (Z1), rfl, ⟨_, rfl, hw⟩, by rw [ht]; exact hP⟩, hS.F ht⟩) hS.2.2 dX6_changed_41
    · have hw := Eq.mp (if_neg c4) hw
      refine lv_iload_n hx hb dX6_changed_28 rfl (lv_at hl 1 rfl) ?_
      refine lv_aload_n hx hb dX6_changed_29 rfl (lv_at hl 0 rfl) ?_
      refine va_get (D := D) (ci := 6) (v := .ref (ad 75)) (C := RX6) (T := TX6) (N := 9) hx hb hW inW_X6 hown hK hP 0 rfl rfl 7 (by decide) (hW _ fl_X6_51) (fun _ h9 => h9) rfl dX6_changed_30 ?_
      refine callR (va_runV (As := []) (rest := [.int x1]) ⟨hx, hb, hml, hown, hW⟩ (c_X0_ways l D cI cZ ad 75 Z1 _ hw) (cwV0 hW mV_X0_ways ml_X6_196 ⟨Nat.le_of_ble_eq_true rfl, Nat.le_of_ble_eq_true rfl⟩) (preV0 0 rfl rfl hK hN hP hD [2] rfl rfl) rfl rfl hl.1 rfl (lv_room (Nat.le_of_ble_eq_true rfl)) dX6_changed_33 ⟨Nat.le_refl _, Nat.le_refl _⟩) (fun v9 hq => ?_)
      obtain ⟨v5, rfl, hw⟩ := hq
      refine W.eq (g2 := F0 m 36 ls [.int v5, .int x1]) rfl ?_
      refine lv_icmp_lt (tgt := 42) hx hb dX6_changed_36 (by decide) (fun c6 => ?_) (fun c6 => ?_)
      · have hw := Eq.mp (if_pos c6) hw
        refine lv_aload_n hx hb dX6_changed_42 rfl (lv_at hl 0 rfl) ?_
        refine va_get (D := D) (ci := 6) (v := .ref (ad 75)) (C := RX6) (T := TX6) (N := 9) hx hb hW inW_X6 hown hK hP 0 rfl rfl 7 (by decide) (hW _ fl_X6_51) (fun _ h9 => h9) rfl dX6_changed_43 ?_
        refine lv_aload_n hx hb dX6_changed_46 rfl (lv_at hl 0 rfl) ?_
        refine va_get (D := D) (ci := 6) (v := .ref (ad 1)) (C := RX6) (T := TX6) (N := 9) hx hb hW inW_X6 hown hK hP 0 rfl rfl 0 (by decide) (hW _ fl_X6_10) (fun _ h9 => h9) rfl dX6_changed_47 ?_
        refine lv_iload_n hx hb dX6_changed_50 rfl (lv_at hl 1 rfl) ?_
        refine callW (va_runV (As := [.ref (ad 1), .int x1]) (rest := []) ⟨hx, hb, hml, hown, hW⟩ (c_X0_rowAt l D cI cZ ad 75 Z1 1 Y0 x1 _ hw) (cwV0 hW mV_X0_rowAt ml_X6_199 ⟨Nat.le_of_ble_eq_true rfl, Nat.le_of_ble_eq_true rfl⟩) (preV0 0 rfl rfl hK hN hP hD [2, 1] rfl rfl) rfl rfl hl.1 rfl (lv_room (Nat.le_of_ble_eq_true rfl)) dX6_changed_51 ⟨Nat.le_refl _, Nat.le_refl _⟩) hP hD hS [2, 1] rfl rfl (fun _ => rfl) (fun v9 u9 H locs hq hP hD hS => ?_)
        obtain ⟨v7, rfl, hw⟩ := hq
        obtain ⟨Z8, rfl⟩ : ∃ z, z = u9 := ⟨_, rfl⟩
        have hP : va_P D classes (jn [xcell ad, rcells cI ad 1 Y0, dcells cI ad 75 Z8]) H := hP
        have hD : va_D (cOf (jn [xcell ad, rcells cI ad 1 Y0, dcells cI ad 75 Y7])) (jn [xcell ad, rcells cI ad 1 Y0, dcells cI ad 75 Z8]) := hD
        refine W.eq (g2 := F0 m 54 ls [.int v7]) rfl ?_
        exact W.iret (v := v7) hx hb hr (fun t ht _ => ⟨⟨_, (Z8), rfl, ⟨_, rfl, hw⟩, by rw [ht]; exact hP⟩, hS.F ht⟩) hS.2.2 dX6_changed_54
      · have hw := Eq.mp (if_neg c6) hw
        refine lv_bipush (v := (-6)) hx hb dX6_changed_39 (by decide) ?_
        exact W.iret (v := (-6)) hx hb hr (fun t ht _ => ⟨⟨_, (Z1), rfl, ⟨_, rfl, hw⟩, by rw [ht]; exact hP⟩, hS.F ht⟩) hS.2.2 dX6_changed_41
  · have hw := Eq.mp (if_pos c2) hw
    refine lv_aload_n hx hb dX6_changed_16 rfl (lv_at hl 0 rfl) ?_
    refine va_get (D := D) (ci := 6) (v := .ref (ad 75)) (C := RX6) (T := TX6) (N := 9) hx hb hW inW_X6 hown hK hP 0 rfl rfl 7 (by decide) (hW _ fl_X6_51) (fun _ h9 => h9) rfl dX6_changed_17 ?_
    refine callR (va_runV (As := []) (rest := []) ⟨hx, hb, hml, hown, hW⟩ (c_X0_ways l D cI cZ ad 75 Z1 _ hw) (cwV0 hW mV_X0_ways ml_X6_196 ⟨Nat.le_of_ble_eq_true rfl, Nat.le_of_ble_eq_true rfl⟩) (preV0 0 rfl rfl hK hN hP hD [2] rfl rfl) rfl rfl hl.1 rfl (lv_room (Nat.le_of_ble_eq_true rfl)) dX6_changed_20 ⟨Nat.le_refl _, Nat.le_refl _⟩) (fun v9 hq => ?_)
    obtain ⟨v3, rfl, hw⟩ := hq
    refine W.eq (g2 := F0 m 23 ls [.int v3]) rfl ?_
    exact W.iret (v := v3) hx hb hr (fun t ht _ => ⟨⟨_, (Z1), rfl, ⟨_, rfl, hw⟩, by rw [ht]; exact hP⟩, hS.F ht⟩) hS.2.2 dX6_changed_23
set_option maxHeartbeats 4000000 in
set_option maxRecDepth 100000 in
theorem c_X6_names (l : Launch) (D : va_G) (cI cZ : ClassId) (ad : Nat → Nat) (Y0 : St) (Y7 : St) (x1 : Int32) (k : Int32 → St → Prop) (hw : wp_X6_names Y0 Y7 x1 k) : KW l yX6_names cX6_names 2 (some .int) 5 113 D cI cZ [.ref (ad 0), .int x1] [xcell ad, rcells cI ad 1 Y0, dcells cI ad 75 Y7] (fun v (u : St) => ∃ r, v = some (.int r) ∧ k r u) (fun u : St => [xcell ad, rcells cI ad 1 Y0, dcells cI ad 75 u]) := by
  refine Met.ofE (by decide +kernel) (Nat.le_of_ble_eq_true rfl) ?_
  intro p e s m below meth c E ls hl
  obtain ⟨hx, hb, hr, hml, hW, hown, hlocks, hP, hK, hD, hN⟩ := E
  have hl : lv_has ls 2 [(0, .ref (ad 0)), (1, .int x1)] := hl
  have hS : va_S (cOf (jn [xcell ad, rcells cI ad 1 Y0, dcells cI ad 75 Y7])) s.heap s.heap [] := va_S.rf
  have hw : (if (F_X2_has Y0 x1) = 0 then (k (-1) Y7) else (if (F_X2_lives Y0 x1) = 0 then (k (-1) Y7) else (wp_X0_prepare Y7 Y0 (fun (Z3 : St) => (wp_X0_namesFor Z3 Y0 x1 (fun (v4 : Int32) (Z5 : St) => (k v4 Z5))))))) := hw
  refine lv_aload_n hx hb dX6_names_0 rfl (lv_at hl 0 rfl) ?_
  refine va_get (D := D) (ci := 6) (v := .ref (ad 1)) (C := RX6) (T := TX6) (N := 9) hx hb hW inW_X6 hown hK hP 0 rfl rfl 0 (by decide) (hW _ fl_X6_10) (fun _ h9 => h9) rfl dX6_names_1 ?_
  refine lv_iload_n hx hb dX6_names_4 rfl (lv_at hl 1 rfl) ?_
  refine callF (va_runV (As := [.int x1]) (rest := []) ⟨hx, hb, hml, hown, hW⟩ (c_X2_has l D cI cZ ad 1 Y0 x1 _ rfl) (cwV0 hW mV_X2_has ml_X6_79 ⟨Nat.le_of_ble_eq_true rfl, Nat.le_of_ble_eq_true rfl⟩) (preV0 0 rfl rfl hK hN hP hD [1] rfl rfl) rfl rfl hl.1 rfl (lv_room (Nat.le_of_ble_eq_true rfl)) dX6_names_5 ⟨Nat.le_refl _, Nat.le_refl _⟩) ?_
  refine W.eq (g2 := F0 m 8 ls [.int (F_X2_has Y0 x1)]) rfl ?_
  refine lv_if_eq (tgt := 22) hx hb dX6_names_8 (by decide) (fun c1 => ?_) (fun c1 => ?_)
  · have hw := Eq.mp (if_pos c1) hw
    refine lv_iconst (v := (-1)) hx hb dX6_names_22 (by decide) ?_
    exact W.iret (v := (-1)) hx hb hr (fun t ht _ => ⟨⟨_, (Y7), rfl, ⟨_, rfl, hw⟩, by rw [ht]; exact hP⟩, hS.F ht⟩) hS.2.2 dX6_names_23
  · have hw := Eq.mp (if_neg c1) hw
    refine lv_aload_n hx hb dX6_names_11 rfl (lv_at hl 0 rfl) ?_
    refine va_get (D := D) (ci := 6) (v := .ref (ad 1)) (C := RX6) (T := TX6) (N := 9) hx hb hW inW_X6 hown hK hP 0 rfl rfl 0 (by decide) (hW _ fl_X6_10) (fun _ h9 => h9) rfl dX6_names_12 ?_
    refine lv_iload_n hx hb dX6_names_15 rfl (lv_at hl 1 rfl) ?_
    refine callF (va_runV (As := [.int x1]) (rest := []) ⟨hx, hb, hml, hown, hW⟩ (c_X2_lives l D cI cZ ad 1 Y0 x1 _ rfl) (cwV0 hW mV_X2_lives ml_X6_203 ⟨Nat.le_of_ble_eq_true rfl, Nat.le_of_ble_eq_true rfl⟩) (preV0 0 rfl rfl hK hN hP hD [1] rfl rfl) rfl rfl hl.1 rfl (lv_room (Nat.le_of_ble_eq_true rfl)) dX6_names_16 ⟨Nat.le_refl _, Nat.le_refl _⟩) ?_
    refine W.eq (g2 := F0 m 19 ls [.int (F_X2_lives Y0 x1)]) rfl ?_
    refine lv_if_ne (tgt := 24) hx hb dX6_names_19 (by decide) (fun c2 => ?_) (fun c2 => ?_)
    · have hw := Eq.mp (if_neg c2) hw
      refine lv_aload_n hx hb dX6_names_24 rfl (lv_at hl 0 rfl) ?_
      refine va_get (D := D) (ci := 6) (v := .ref (ad 75)) (C := RX6) (T := TX6) (N := 9) hx hb hW inW_X6 hown hK hP 0 rfl rfl 7 (by decide) (hW _ fl_X6_51) (fun _ h9 => h9) rfl dX6_names_25 ?_
      refine lv_aload_n hx hb dX6_names_28 rfl (lv_at hl 0 rfl) ?_
      refine va_get (D := D) (ci := 6) (v := .ref (ad 1)) (C := RX6) (T := TX6) (N := 9) hx hb hW inW_X6 hown hK hP 0 rfl rfl 0 (by decide) (hW _ fl_X6_10) (fun _ h9 => h9) rfl dX6_names_29 ?_
      refine callW (va_runV (As := [.ref (ad 1)]) (rest := []) ⟨hx, hb, hml, hown, hW⟩ (c_X0_prepare l D cI cZ ad 75 Y7 1 Y0 _ hw) (cwV0 hW mV_X0_prepare ml_X6_193 ⟨Nat.le_of_ble_eq_true rfl, Nat.le_of_ble_eq_true rfl⟩) (preV0 0 rfl rfl hK hN hP hD [2, 1] rfl rfl) rfl rfl hl.1 rfl (lv_room (Nat.le_of_ble_eq_true rfl)) dX6_names_32 ⟨Nat.le_refl _, Nat.le_refl _⟩) hP hD hS [2, 1] rfl rfl (fun _ => rfl) (fun v9 u9 H locs hq hP hD hS => ?_)
      obtain ⟨rfl, hw⟩ := hq
      obtain ⟨Z3, rfl⟩ : ∃ z, z = u9 := ⟨_, rfl⟩
      have hP : va_P D classes (jn [xcell ad, rcells cI ad 1 Y0, dcells cI ad 75 Z3]) H := hP
      have hD : va_D (cOf (jn [xcell ad, rcells cI ad 1 Y0, dcells cI ad 75 Y7])) (jn [xcell ad, rcells cI ad 1 Y0, dcells cI ad 75 Z3]) := hD
      refine W.eq (g2 := F0 m 35 ls []) rfl ?_
      refine lv_aload_n hx hb dX6_names_35 rfl (lv_at hl 0 rfl) ?_
      refine va_get (D := D) (ci := 6) (v := .ref (ad 75)) (C := RX6) (T := TX6) (N := 9) hx hb hW inW_X6 hown hK hP 0 rfl rfl 7 (by decide) (hW _ fl_X6_51) (fun _ h9 => h9) rfl dX6_names_36 ?_
      refine lv_aload_n hx hb dX6_names_39 rfl (lv_at hl 0 rfl) ?_
      refine va_get (D := D) (ci := 6) (v := .ref (ad 1)) (C := RX6) (T := TX6) (N := 9) hx hb hW inW_X6 hown hK hP 0 rfl rfl 0 (by decide) (hW _ fl_X6_10) (fun _ h9 => h9) rfl dX6_names_40 ?_
      refine lv_iload_n hx hb dX6_names_43 rfl (lv_at hl 1 rfl) ?_
      refine callW (va_runV (As := [.ref (ad 1), .int x1]) (rest := []) ⟨hx, hb, hml, hown, hW⟩ (c_X0_namesFor l D cI cZ ad 75 Z3 1 Y0 x1 _ hw) (cwV0 hW mV_X0_namesFor ml_X6_206 ⟨Nat.le_of_ble_eq_true rfl, Nat.le_of_ble_eq_true rfl⟩) (preV0 0 rfl rfl hK hN hP hD [2, 1] rfl rfl) rfl rfl hl.1 rfl (lv_room (Nat.le_of_ble_eq_true rfl)) dX6_names_44 ⟨Nat.le_refl _, Nat.le_refl _⟩) hP hD hS [2, 1] rfl rfl (fun _ => rfl) (fun v9 u9 H locs hq hP hD hS => ?_)
      obtain ⟨v4, rfl, hw⟩ := hq
      obtain ⟨Z5, rfl⟩ : ∃ z, z = u9 := ⟨_, rfl⟩
      have hP : va_P D classes (jn [xcell ad, rcells cI ad 1 Y0, dcells cI ad 75 Z5]) H := hP
      have hD : va_D (cOf (jn [xcell ad, rcells cI ad 1 Y0, dcells cI ad 75 Y7])) (jn [xcell ad, rcells cI ad 1 Y0, dcells cI ad 75 Z5]) := hD
      refine W.eq (g2 := F0 m 47 ls [.int v4]) rfl ?_
      exact W.iret (v := v4) hx hb hr (fun t ht _ => ⟨⟨_, (Z5), rfl, ⟨_, rfl, hw⟩, by rw [ht]; exact hP⟩, hS.F ht⟩) hS.2.2 dX6_names_47
    · have hw := Eq.mp (if_pos c2) hw
      refine lv_iconst (v := (-1)) hx hb dX6_names_22 (by decide) ?_
      exact W.iret (v := (-1)) hx hb hr (fun t ht _ => ⟨⟨_, (Y7), rfl, ⟨_, rfl, hw⟩, by rw [ht]; exact hP⟩, hS.F ht⟩) hS.2.2 dX6_names_23
set_option maxHeartbeats 4000000 in
set_option maxRecDepth 100000 in
theorem c_X6_hear (l : Launch) (D : va_G) (cI cZ : ClassId) (ad : Nat → Nat) (Y0 : St) (Y7 : St) (x1 : Int32) (k : Int32 → St → Prop) (hw : wp_X6_hear Y0 Y7 x1 k) : KW l yX6_hear cX6_hear 3 (some .int) 5 113 D cI cZ [.ref (ad 0), .int x1] [xcell ad, rcells cI ad 1 Y0, dcells cI ad 75 Y7] (fun v (u : St) => ∃ r, v = some (.int r) ∧ k r u) (fun u : St => [xcell ad, rcells cI ad 1 Y0, dcells cI ad 75 u]) := by
  refine Met.ofE (by decide +kernel) (Nat.le_of_ble_eq_true rfl) ?_
  intro p e s m below meth c E ls hl
  obtain ⟨hx, hb, hr, hml, hW, hown, hlocks, hP, hK, hD, hN⟩ := E
  have hl : lv_has ls 3 [(0, .ref (ad 0)), (1, .int x1)] := hl
  have hS : va_S (cOf (jn [xcell ad, rcells cI ad 1 Y0, dcells cI ad 75 Y7])) s.heap s.heap [] := va_S.rf
  have hw : (if (F_X6_within x1 0 1) = 0 then (k (-2) Y7) else (wp_X0_prepare Y7 Y0 (fun (Z2 : St) => (wp_X0_nameToHear Z2 (Y0.1 0) (fun (v3 : Int32) => (if v3 = (-6) then (k (-6) Z2) else (if x1 = 0 then (k v3 Z2) else (wp_X0_mostLeftBy Z2 v3 (fun (v6 : Int32) => (k v6 Z2)))))))))) := hw
  refine lv_iload_n hx hb dX6_hear_0 rfl (lv_at hl 1 rfl) ?_
  refine lv_iconst (v := 0) hx hb dX6_hear_1 (by decide) ?_
  refine lv_iconst (v := 1) hx hb dX6_hear_2 (by decide) ?_
  refine callF (va_runS (As := [.int x1, .int 0, .int 1]) (rest := []) ⟨hx, hb, hml, hown, hW⟩ (c_X6_within l D cI cZ x1 0 1 _ rfl) (cwS0 hW mS_X6_within ml_X6_69 ⟨Nat.le_of_ble_eq_true rfl, Nat.le_of_ble_eq_true rfl⟩) (preS0 hK hN hP hD [] rfl rfl) rfl rfl hl.1 rfl (lv_room (Nat.le_of_ble_eq_true rfl)) dX6_hear_3 ⟨Nat.le_refl _, Nat.le_refl _⟩) ?_
  refine W.eq (g2 := F0 m 6 ls [.int (F_X6_within x1 0 1)]) rfl ?_
  refine lv_if_ne (tgt := 12) hx hb dX6_hear_6 (by decide) (fun c1 => ?_) (fun c1 => ?_)
  · have hw := Eq.mp (if_neg c1) hw
    refine lv_aload_n hx hb dX6_hear_12 rfl (lv_at hl 0 rfl) ?_
    refine va_get (D := D) (ci := 6) (v := .ref (ad 75)) (C := RX6) (T := TX6) (N := 9) hx hb hW inW_X6 hown hK hP 0 rfl rfl 7 (by decide) (hW _ fl_X6_51) (fun _ h9 => h9) rfl dX6_hear_13 ?_
    refine lv_aload_n hx hb dX6_hear_16 rfl (lv_at hl 0 rfl) ?_
    refine va_get (D := D) (ci := 6) (v := .ref (ad 1)) (C := RX6) (T := TX6) (N := 9) hx hb hW inW_X6 hown hK hP 0 rfl rfl 0 (by decide) (hW _ fl_X6_10) (fun _ h9 => h9) rfl dX6_hear_17 ?_
    refine callW (va_runV (As := [.ref (ad 1)]) (rest := []) ⟨hx, hb, hml, hown, hW⟩ (c_X0_prepare l D cI cZ ad 75 Y7 1 Y0 _ hw) (cwV0 hW mV_X0_prepare ml_X6_193 ⟨Nat.le_of_ble_eq_true rfl, Nat.le_of_ble_eq_true rfl⟩) (preV0 0 rfl rfl hK hN hP hD [2, 1] rfl rfl) rfl rfl hl.1 rfl (lv_room (Nat.le_of_ble_eq_true rfl)) dX6_hear_20 ⟨Nat.le_refl _, Nat.le_refl _⟩) hP hD hS [2, 1] rfl rfl (fun _ => rfl) (fun v9 u9 H locs hq hP hD hS => ?_)
    obtain ⟨rfl, hw⟩ := hq
    obtain ⟨Z2, rfl⟩ : ∃ z, z = u9 := ⟨_, rfl⟩
    have hP : va_P D classes (jn [xcell ad, rcells cI ad 1 Y0, dcells cI ad 75 Z2]) H := hP
    have hD : va_D (cOf (jn [xcell ad, rcells cI ad 1 Y0, dcells cI ad 75 Y7])) (jn [xcell ad, rcells cI ad 1 Y0, dcells cI ad 75 Z2]) := hD
    refine W.eq (g2 := F0 m 23 ls []) rfl ?_
    refine lv_aload_n hx hb dX6_hear_23 rfl (lv_at hl 0 rfl) ?_
    refine va_get (D := D) (ci := 6) (v := .ref (ad 75)) (C := RX6) (T := TX6) (N := 9) hx hb hW inW_X6 hown hK hP 0 rfl rfl 7 (by decide) (hW _ fl_X6_51) (fun _ h9 => h9) rfl dX6_hear_24 ?_
    refine lv_aload_n hx hb dX6_hear_27 rfl (lv_at hl 0 rfl) ?_
    refine va_get (D := D) (ci := 6) (v := .ref (ad 1)) (C := RX6) (T := TX6) (N := 9) hx hb hW inW_X6 hown hK hP 0 rfl rfl 0 (by decide) (hW _ fl_X6_10) (fun _ h9 => h9) rfl dX6_hear_28 ?_
    refine va_get (D := D) (ci := 2) (v := .int (Y0.1 0)) (C := RX2) (T := TX2) (N := 15) hx hb hW inW_X2 hown hK hP 1 rfl rfl 0 (by decide) (hW _ fl_X6_73) (fun _ h9 => h9) rfl dX6_hear_31 ?_
    refine callR (va_runV (As := [.int (Y0.1 0)]) (rest := []) ⟨hx, hb, hml, hown, hW⟩ (c_X0_nameToHear l D cI cZ ad 75 Z2 (Y0.1 0) _ hw) (cwV0 hW mV_X0_nameToHear ml_X6_209 ⟨Nat.le_of_ble_eq_true rfl, Nat.le_of_ble_eq_true rfl⟩) (preV0 0 rfl rfl hK hN hP hD [2] rfl rfl) rfl rfl hl.1 rfl (lv_room (Nat.le_of_ble_eq_true rfl)) dX6_hear_34 ⟨Nat.le_refl _, Nat.le_refl _⟩) (fun v9 hq => ?_)
    obtain ⟨v3, rfl, hw⟩ := hq
    refine W.eq (g2 := F0 m 37 ls [.int v3]) rfl ?_
    refine lv_istore_n (lv' := [(2, .int v3), (0, .ref (ad 0)), (1, .int x1)]) hx hb dX6_hear_37 rfl hl (by decide) rfl (fun ls hl => ?_)
    refine lv_iload_n hx hb dX6_hear_38 rfl (lv_at hl 0 rfl) ?_
    refine lv_bipush (v := (-6)) hx hb dX6_hear_39 (by decide) ?_
    refine lv_icmp_ne (tgt := 47) hx hb dX6_hear_41 (by decide) (fun c4 => ?_) (fun c4 => ?_)
    · have hw := Eq.mp (if_neg c4) hw
      refine lv_iload_n hx hb dX6_hear_47 rfl (lv_at hl 2 rfl) ?_
      refine lv_if_ne (tgt := 55) hx hb dX6_hear_48 (by decide) (fun c5 => ?_) (fun c5 => ?_)
      · have hw := Eq.mp (if_neg c5) hw
        refine lv_aload_n hx hb dX6_hear_55 rfl (lv_at hl 1 rfl) ?_
        refine va_get (D := D) (ci := 6) (v := .ref (ad 75)) (C := RX6) (T := TX6) (N := 9) hx hb hW inW_X6 hown hK hP 0 rfl rfl 7 (by decide) (hW _ fl_X6_51) (fun _ h9 => h9) rfl dX6_hear_56 ?_
        refine lv_iload_n hx hb dX6_hear_59 rfl (lv_at hl 0 rfl) ?_
        refine callR (va_runV (As := [.int v3]) (rest := []) ⟨hx, hb, hml, hown, hW⟩ (c_X0_mostLeftBy l D cI cZ ad 75 Z2 v3 _ hw) (cwV0 hW mV_X0_mostLeftBy ml_X6_212 ⟨Nat.le_of_ble_eq_true rfl, Nat.le_of_ble_eq_true rfl⟩) (preV0 0 rfl rfl hK hN hP hD [2] rfl rfl) rfl rfl hl.1 rfl (lv_room (Nat.le_of_ble_eq_true rfl)) dX6_hear_60 ⟨Nat.le_refl _, Nat.le_refl _⟩) (fun v9 hq => ?_)
        obtain ⟨v6, rfl, hw⟩ := hq
        refine W.eq (g2 := F0 m 63 ls [.int v6]) rfl ?_
        exact W.iret (v := v6) hx hb hr (fun t ht _ => ⟨⟨_, (Z2), rfl, ⟨_, rfl, hw⟩, by rw [ht]; exact hP⟩, hS.F ht⟩) hS.2.2 dX6_hear_63
      · have hw := Eq.mp (if_pos c5) hw
        refine lv_iload_n hx hb dX6_hear_51 rfl (lv_at hl 0 rfl) ?_
        refine lv_goto (tgt := 63) hx hb dX6_hear_52 (by decide) ?_
        exact W.iret (v := v3) hx hb hr (fun t ht _ => ⟨⟨_, (Z2), rfl, ⟨_, rfl, hw⟩, by rw [ht]; exact hP⟩, hS.F ht⟩) hS.2.2 dX6_hear_63
    · have hw := Eq.mp (if_pos c4) hw
      refine lv_bipush (v := (-6)) hx hb dX6_hear_44 (by decide) ?_
      exact W.iret (v := (-6)) hx hb hr (fun t ht _ => ⟨⟨_, (Z2), rfl, ⟨_, rfl, hw⟩, by rw [ht]; exact hP⟩, hS.F ht⟩) hS.2.2 dX6_hear_46
  · have hw := Eq.mp (if_pos c1) hw
    refine lv_bipush (v := (-2)) hx hb dX6_hear_9 (by decide) ?_
    exact W.iret (v := (-2)) hx hb hr (fun t ht _ => ⟨⟨_, (Y7), rfl, ⟨_, rfl, hw⟩, by rw [ht]; exact hP⟩, hS.F ht⟩) hS.2.2 dX6_hear_11
set_option maxHeartbeats 4000000 in
set_option maxRecDepth 100000 in
theorem c_X6_undo (l : Launch) (D : va_G) (cI cZ : ClassId) (ad : Nat → Nat) (Y0 : St) (Y1 : St) (k : Int32 → St → Prop) (hw : wp_X6_undo Y0 Y1 k) : KW l yX6_undo cX6_undo 3 (some .int) 3 64 D cI cZ [.ref (ad 0)] [xcell ad, rcells cI ad 1 Y0, rcells cI ad 18 Y1] (fun v (u : St) => ∃ r, v = some (.int r) ∧ k r u) (fun u : St => [xcell ad, rcells cI ad 1 Y0, rcells cI ad 18 u]) := by
  refine Met.ofE (by decide +kernel) (Nat.le_of_ble_eq_true rfl) ?_
  intro p e s m below meth c E ls hl
  obtain ⟨hx, hb, hr, hml, hW, hown, hlocks, hP, hK, hD, hN⟩ := E
  have hl : lv_has ls 3 [(0, .ref (ad 0))] := hl
  have hS : va_S (cOf (jn [xcell ad, rcells cI ad 1 Y0, rcells cI ad 18 Y1])) s.heap s.heap [] := va_S.rf
  have L2 : ∀ (Y1q : St) (kx : Prop), (∀  (H : Heap) (locs : List Loc), va_P D classes (jn [xcell ad, rcells cI ad 1 Y0, rcells cI ad 18 Y1q]) H → va_D (cOf (jn [xcell ad, rcells cI ad 1 Y0, rcells cI ad 18 Y1])) (jn [xcell ad, rcells cI ad 1 Y0, rcells cI ad 18 Y1q]) → va_S (cOf (jn [xcell ad, rcells cI ad 1 Y0, rcells cI ad 18 Y1])) s.heap H locs → ∀ ls : Array Slot, lv_has ls 3 [(0, .ref (ad 0))] → kx → W p l e { frames := 3, cells := 0, slots := 0, locals := 64 } s m ([.ref (ad 0)] : List Value).toArray below meth c H locs 0 0 (MQ below (QW (fun v (u : St) => ∃ r, v = some (.int r) ∧ k r u) D (fun u : St => [xcell ad, rcells cI ad 1 Y0, rcells cI ad 18 u]) [xcell ad, rcells cI ad 1 Y0, rcells cI ad 18 Y1]) ([.ref (ad 0)] : List Value).toArray s 0 0 (cOf (jn [xcell ad, rcells cI ad 1 Y0, rcells cI ad 18 Y1]))) (F0 m 51 ls [])) → ∀ (N2 : Nat) (y1 : Int32) (H : Heap) (locs : List Loc), va_P D classes (jn [xcell ad, rcells cI ad 1 Y0, rcells cI ad 18 Y1q]) H → va_D (cOf (jn [xcell ad, rcells cI ad 1 Y0, rcells cI ad 18 Y1])) (jn [xcell ad, rcells cI ad 1 Y0, rcells cI ad 18 Y1q]) → va_S (cOf (jn [xcell ad, rcells cI ad 1 Y0, rcells cI ad 18 Y1])) s.heap H locs → ∀ ls : Array Slot, lv_has ls 3 [(0, .ref (ad 0)), (1, .int y1)] → wl_X6_undo_2 Y0 Y1q kx k N2 y1 → W p l e { frames := 3, cells := 0, slots := 0, locals := 64 } s m ([.ref (ad 0)] : List Value).toArray below meth c H locs 0 0 (MQ below (QW (fun v (u : St) => ∃ r, v = some (.int r) ∧ k r u) D (fun u : St => [xcell ad, rcells cI ad 1 Y0, rcells cI ad 18 u]) [xcell ad, rcells cI ad 1 Y0, rcells cI ad 18 Y1]) ([.ref (ad 0)] : List Value).toArray s 0 0 (cOf (jn [xcell ad, rcells cI ad 1 Y0, rcells cI ad 18 Y1]))) (F0 m 2 ls []) := by
    intro Y1q kx hxt N2
    induction N2 with
    | zero => intro y1 H locs hP hD hS ls hl hw; exact False.elim hw
    | succ N2 ih =>
      intro y1 H locs hP hD hS ls hl hw
      have hw : (if (Y0.1 0) ≤ y1 then kx else (if (F_X2_lives Y0 y1) = 0 then (wl_X6_undo_2 Y0 Y1q kx k N2 (y1 + 1)) else (wp_X2_bearerOf Y0 y1 (fun (v3 : Int32) => (if (F_X2_lives Y0 v3) = 0 then (k (-6) Y1q) else (wl_X6_undo_2 Y0 Y1q kx k N2 (y1 + 1))))))) := hw
      refine lv_iload_n hx hb dX6_undo_2 rfl (lv_at hl 1 rfl) ?_
      refine lv_aload_n hx hb dX6_undo_3 rfl (lv_at hl 0 rfl) ?_
      refine va_get (D := D) (ci := 6) (v := .ref (ad 1)) (C := RX6) (T := TX6) (N := 9) hx hb hW inW_X6 hown hK hP 0 rfl rfl 0 (by decide) (hW _ fl_X6_10) (fun _ h9 => h9) rfl dX6_undo_4 ?_
      refine va_get (D := D) (ci := 2) (v := .int (Y0.1 0)) (C := RX2) (T := TX2) (N := 15) hx hb hW inW_X2 hown hK hP 1 rfl rfl 0 (by decide) (hW _ fl_X6_73) (fun _ h9 => h9) rfl dX6_undo_7 ?_
      refine lv_icmp_ge (tgt := 51) hx hb dX6_undo_10 (by decide) (fun c1 => ?_) (fun c1 => ?_)
      · have hw := Eq.mp (if_pos c1) hw
        exact hxt  _ _ hP hD hS _ (lv_sub hl [0] rfl) hw
      · have hw := Eq.mp (if_neg c1) hw
        refine lv_aload_n hx hb dX6_undo_13 rfl (lv_at hl 0 rfl) ?_
        refine va_get (D := D) (ci := 6) (v := .ref (ad 1)) (C := RX6) (T := TX6) (N := 9) hx hb hW inW_X6 hown hK hP 0 rfl rfl 0 (by decide) (hW _ fl_X6_10) (fun _ h9 => h9) rfl dX6_undo_14 ?_
        refine lv_iload_n hx hb dX6_undo_17 rfl (lv_at hl 1 rfl) ?_
        refine callF (va_runV (As := [.int y1]) (rest := []) ⟨hx, hb, hml, hown, hW⟩ (c_X2_lives l D cI cZ ad 1 Y0 y1 _ rfl) (cwV0 hW mV_X2_lives ml_X6_203 ⟨Nat.le_of_ble_eq_true rfl, Nat.le_of_ble_eq_true rfl⟩) (preV0 0 rfl rfl hK hN hP hD [1] rfl rfl) rfl rfl hl.1 rfl (lv_room (Nat.le_of_ble_eq_true rfl)) dX6_undo_18 ⟨Nat.le_refl _, Nat.le_refl _⟩) ?_
        refine W.eq (g2 := F0 m 21 ls [.int (F_X2_lives Y0 y1)]) rfl ?_
        refine lv_if_eq (tgt := 45) hx hb dX6_undo_21 (by decide) (fun c2 => ?_) (fun c2 => ?_)
        · have hw := Eq.mp (if_pos c2) hw
          refine lv_iinc (v := (y1 + 1)) (lv' := [(1, .int (y1 + 1)), (0, .ref (ad 0))]) hx hb dX6_undo_45 hl (k := 1) rfl rfl (by decide) rfl (fun ls hl => ?_)
          refine lv_goto (tgt := 2) hx hb dX6_undo_48 (by decide) ?_
          exact ih (y1 + 1) _ _ hP hD hS _ (lv_sub hl [1, 0] rfl) hw
        · have hw := Eq.mp (if_neg c2) hw
          refine lv_aload_n hx hb dX6_undo_24 rfl (lv_at hl 0 rfl) ?_
          refine va_get (D := D) (ci := 6) (v := .ref (ad 1)) (C := RX6) (T := TX6) (N := 9) hx hb hW inW_X6 hown hK hP 0 rfl rfl 0 (by decide) (hW _ fl_X6_10) (fun _ h9 => h9) rfl dX6_undo_25 ?_
          refine lv_aload_n hx hb dX6_undo_28 rfl (lv_at hl 0 rfl) ?_
          refine va_get (D := D) (ci := 6) (v := .ref (ad 1)) (C := RX6) (T := TX6) (N := 9) hx hb hW inW_X6 hown hK hP 0 rfl rfl 0 (by decide) (hW _ fl_X6_10) (fun _ h9 => h9) rfl dX6_undo_29 ?_
          refine lv_iload_n hx hb dX6_undo_32 rfl (lv_at hl 1 rfl) ?_
          refine callR (va_runV (As := [.int y1]) (rest := [.ref (ad 1)]) ⟨hx, hb, hml, hown, hW⟩ (c_X2_bearerOf l D cI cZ ad 1 Y0 y1 _ hw) (cwV0 hW mV_X2_bearerOf ml_X6_175 ⟨Nat.le_of_ble_eq_true rfl, Nat.le_of_ble_eq_true rfl⟩) (preV0 0 rfl rfl hK hN hP hD [1] rfl rfl) rfl rfl hl.1 rfl (lv_room (Nat.le_of_ble_eq_true rfl)) dX6_undo_33 ⟨Nat.le_refl _, Nat.le_refl _⟩) (fun v9 hq => ?_)
          obtain ⟨v3, rfl, hw⟩ := hq
          refine W.eq (g2 := F0 m 36 ls [.int v3, .ref (ad 1)]) rfl ?_
          refine callF (va_runV (As := [.int v3]) (rest := []) ⟨hx, hb, hml, hown, hW⟩ (c_X2_lives l D cI cZ ad 1 Y0 v3 _ rfl) (cwV0 hW mV_X2_lives ml_X6_203 ⟨Nat.le_of_ble_eq_true rfl, Nat.le_of_ble_eq_true rfl⟩) (preV0 0 rfl rfl hK hN hP hD [1] rfl rfl) rfl rfl hl.1 rfl (lv_room (Nat.le_of_ble_eq_true rfl)) dX6_undo_36 ⟨Nat.le_refl _, Nat.le_refl _⟩) ?_
          refine W.eq (g2 := F0 m 39 ls [.int (F_X2_lives Y0 v3)]) rfl ?_
          refine lv_if_ne (tgt := 45) hx hb dX6_undo_39 (by decide) (fun c4 => ?_) (fun c4 => ?_)
          · have hw := Eq.mp (if_neg c4) hw
            refine lv_iinc (v := (y1 + 1)) (lv' := [(1, .int (y1 + 1)), (0, .ref (ad 0))]) hx hb dX6_undo_45 hl (k := 1) rfl rfl (by decide) rfl (fun ls hl => ?_)
            refine lv_goto (tgt := 2) hx hb dX6_undo_48 (by decide) ?_
            exact ih (y1 + 1) _ _ hP hD hS _ (lv_sub hl [1, 0] rfl) hw
          · have hw := Eq.mp (if_pos c4) hw
            refine lv_bipush (v := (-6)) hx hb dX6_undo_42 (by decide) ?_
            exact W.iret (v := (-6)) hx hb hr (fun t ht _ => ⟨⟨_, (Y1q), rfl, ⟨_, rfl, hw⟩, by rw [ht]; exact hP⟩, hS.F ht⟩) hS.2.2 dX6_undo_44
  have L66 : ∀  (kx : Int32 → St → Prop), (∀ (y1 : Int32) (Y1q : St) (H : Heap) (locs : List Loc), va_P D classes (jn [xcell ad, rcells cI ad 1 Y0, rcells cI ad 18 Y1q]) H → va_D (cOf (jn [xcell ad, rcells cI ad 1 Y0, rcells cI ad 18 Y1])) (jn [xcell ad, rcells cI ad 1 Y0, rcells cI ad 18 Y1q]) → va_S (cOf (jn [xcell ad, rcells cI ad 1 Y0, rcells cI ad 18 Y1])) s.heap H locs → ∀ ls : Array Slot, lv_has ls 3 [(1, .int y1)] → kx y1 Y1q → W p l e { frames := 3, cells := 0, slots := 0, locals := 64 } s m ([.ref (ad 0)] : List Value).toArray below meth c H locs 0 0 (MQ below (QW (fun v (u : St) => ∃ r, v = some (.int r) ∧ k r u) D (fun u : St => [xcell ad, rcells cI ad 1 Y0, rcells cI ad 18 u]) [xcell ad, rcells cI ad 1 Y0, rcells cI ad 18 Y1]) ([.ref (ad 0)] : List Value).toArray s 0 0 (cOf (jn [xcell ad, rcells cI ad 1 Y0, rcells cI ad 18 Y1]))) (F0 m 128 ls [])) → ∀ (N66 : Nat) (y1 : Int32) (y2 : Int32) (Y1q : St) (H : Heap) (locs : List Loc), va_P D classes (jn [xcell ad, rcells cI ad 1 Y0, rcells cI ad 18 Y1q]) H → va_D (cOf (jn [xcell ad, rcells cI ad 1 Y0, rcells cI ad 18 Y1])) (jn [xcell ad, rcells cI ad 1 Y0, rcells cI ad 18 Y1q]) → va_S (cOf (jn [xcell ad, rcells cI ad 1 Y0, rcells cI ad 18 Y1])) s.heap H locs → ∀ ls : Array Slot, lv_has ls 3 [(0, .ref (ad 0)), (1, .int y1), (2, .int y2)] → wl_X6_undo_66 kx N66 y1 y2 Y1q → W p l e { frames := 3, cells := 0, slots := 0, locals := 64 } s m ([.ref (ad 0)] : List Value).toArray below meth c H locs 0 0 (MQ below (QW (fun v (u : St) => ∃ r, v = some (.int r) ∧ k r u) D (fun u : St => [xcell ad, rcells cI ad 1 Y0, rcells cI ad 18 u]) [xcell ad, rcells cI ad 1 Y0, rcells cI ad 18 Y1]) ([.ref (ad 0)] : List Value).toArray s 0 0 (cOf (jn [xcell ad, rcells cI ad 1 Y0, rcells cI ad 18 Y1]))) (F0 m 66 ls []) := by
    intro  kx hxt N66
    induction N66 with
    | zero => intro y1 y2 Y1q H locs hP hD hS ls hl hw; exact False.elim hw
    | succ N66 ih =>
      intro y1 y2 Y1q H locs hP hD hS ls hl hw
      have hw : (if (Y1q.1 0) ≤ y2 then (kx y1 Y1q) else (if (F_X2_lives Y1q y2) = 0 then (wl_X6_undo_66 kx N66 y1 (y2 + 1) Y1q) else (if (F_X3_get 6 (Y1q.2 8) y2) = y2 then (wl_X6_undo_66 kx N66 y1 (y2 + 1) Y1q) else (wp_X2_bearerOf Y1q y2 (fun (v9 : Int32) => (wp_X2_swapNames Y1q y2 v9 (fun (Z10 : St) => (wl_X6_undo_66 kx N66 (y1 + 1) (y2 + 1) Z10)))))))) := hw
      refine lv_iload_n hx hb dX6_undo_66 rfl (lv_at hl 2 rfl) ?_
      refine lv_aload_n hx hb dX6_undo_67 rfl (lv_at hl 0 rfl) ?_
      refine va_get (D := D) (ci := 6) (v := .ref (ad 18)) (C := RX6) (T := TX6) (N := 9) hx hb hW inW_X6 hown hK hP 0 rfl rfl 1 (by decide) (hW _ fl_X6_16) (fun _ h9 => h9) rfl dX6_undo_68 ?_
      refine va_get (D := D) (ci := 2) (v := .int (Y1q.1 0)) (C := RX2) (T := TX2) (N := 15) hx hb hW inW_X2 hown hK hP 18 rfl rfl 0 (by decide) (hW _ fl_X6_73) (fun _ h9 => h9) rfl dX6_undo_71 ?_
      refine lv_icmp_ge (tgt := 128) hx hb dX6_undo_74 (by decide) (fun c6 => ?_) (fun c6 => ?_)
      · have hw := Eq.mp (if_pos c6) hw
        exact hxt y1 Y1q _ _ hP hD hS _ (lv_sub hl [1] rfl) hw
      · have hw := Eq.mp (if_neg c6) hw
        refine lv_aload_n hx hb dX6_undo_77 rfl (lv_at hl 0 rfl) ?_
        refine va_get (D := D) (ci := 6) (v := .ref (ad 18)) (C := RX6) (T := TX6) (N := 9) hx hb hW inW_X6 hown hK hP 0 rfl rfl 1 (by decide) (hW _ fl_X6_16) (fun _ h9 => h9) rfl dX6_undo_78 ?_
        refine lv_iload_n hx hb dX6_undo_81 rfl (lv_at hl 2 rfl) ?_
        refine callF (va_runV (As := [.int y2]) (rest := []) ⟨hx, hb, hml, hown, hW⟩ (c_X2_lives l D cI cZ ad 18 Y1q y2 _ rfl) (cwV0 hW mV_X2_lives ml_X6_203 ⟨Nat.le_of_ble_eq_true rfl, Nat.le_of_ble_eq_true rfl⟩) (preV0 0 rfl rfl hK hN hP hD [2] rfl rfl) rfl rfl hl.1 rfl (lv_room (Nat.le_of_ble_eq_true rfl)) dX6_undo_82 ⟨Nat.le_refl _, Nat.le_refl _⟩) ?_
        refine W.eq (g2 := F0 m 85 ls [.int (F_X2_lives Y1q y2)]) rfl ?_
        refine lv_if_eq (tgt := 122) hx hb dX6_undo_85 (by decide) (fun c7 => ?_) (fun c7 => ?_)
        · have hw := Eq.mp (if_pos c7) hw
          refine lv_iinc (v := (y2 + 1)) (lv' := [(2, .int (y2 + 1)), (0, .ref (ad 0)), (1, .int y1)]) hx hb dX6_undo_122 hl (k := 2) rfl rfl (by decide) rfl (fun ls hl => ?_)
          refine lv_goto (tgt := 66) hx hb dX6_undo_125 (by decide) ?_
          exact ih y1 (y2 + 1) Y1q _ _ hP hD hS _ (lv_sub hl [1, 2, 0] rfl) hw
        · have hw := Eq.mp (if_neg c7) hw
          refine lv_aload_n hx hb dX6_undo_88 rfl (lv_at hl 0 rfl) ?_
          refine va_get (D := D) (ci := 6) (v := .ref (ad 18)) (C := RX6) (T := TX6) (N := 9) hx hb hW inW_X6 hown hK hP 0 rfl rfl 1 (by decide) (hW _ fl_X6_16) (fun _ h9 => h9) rfl dX6_undo_89 ?_
          refine va_get (D := D) (ci := 2) (v := .ref (ad 20)) (C := RX2) (T := TX2) (N := 15) hx hb hW inW_X2 hown hK hP 18 rfl rfl 8 (by decide) (hW _ fl_X6_132) (fun _ h9 => h9) rfl dX6_undo_92 ?_
          refine lv_iload_n hx hb dX6_undo_95 rfl (lv_at hl 2 rfl) ?_
          refine callF (va_runV (As := [.int y2]) (rest := []) ⟨hx, hb, hml, hown, hW⟩ (c_X3_get__round_8 l D cI cZ ad 18 Y1q y2 _ rfl) (cwV0 hW mV_X3_get ml_X6_89 ⟨Nat.le_of_ble_eq_true rfl, Nat.le_of_ble_eq_true rfl⟩) (preV0 2 rfl rfl hK hN hP hD [2] rfl rfl) rfl rfl hl.1 rfl (lv_room (Nat.le_of_ble_eq_true rfl)) dX6_undo_96 ⟨Nat.le_refl _, Nat.le_refl _⟩) ?_
          refine W.eq (g2 := F0 m 99 ls [.int (F_X3_get 6 (Y1q.2 8) y2)]) rfl ?_
          refine lv_iload_n hx hb dX6_undo_99 rfl (lv_at hl 2 rfl) ?_
          refine lv_icmp_eq (tgt := 122) hx hb dX6_undo_100 (by decide) (fun c8 => ?_) (fun c8 => ?_)
          · have hw := Eq.mp (if_pos c8) hw
            refine lv_iinc (v := (y2 + 1)) (lv' := [(2, .int (y2 + 1)), (0, .ref (ad 0)), (1, .int y1)]) hx hb dX6_undo_122 hl (k := 2) rfl rfl (by decide) rfl (fun ls hl => ?_)
            refine lv_goto (tgt := 66) hx hb dX6_undo_125 (by decide) ?_
            exact ih y1 (y2 + 1) Y1q _ _ hP hD hS _ (lv_sub hl [1, 2, 0] rfl) hw
          · have hw := Eq.mp (if_neg c8) hw
            refine lv_aload_n hx hb dX6_undo_103 rfl (lv_at hl 0 rfl) ?_
            refine va_get (D := D) (ci := 6) (v := .ref (ad 18)) (C := RX6) (T := TX6) (N := 9) hx hb hW inW_X6 hown hK hP 0 rfl rfl 1 (by decide) (hW _ fl_X6_16) (fun _ h9 => h9) rfl dX6_undo_104 ?_
            refine lv_iload_n hx hb dX6_undo_107 rfl (lv_at hl 2 rfl) ?_
            refine lv_aload_n hx hb dX6_undo_108 rfl (lv_at hl 0 rfl) ?_
            refine va_get (D := D) (ci := 6) (v := .ref (ad 18)) (C := RX6) (T := TX6) (N := 9) hx hb hW inW_X6 hown hK hP 0 rfl rfl 1 (by decide) (hW _ fl_X6_16) (fun _ h9 => h9) rfl dX6_undo_109 ?_
            refine lv_iload_n hx hb dX6_undo_112 rfl (lv_at hl 2 rfl) ?_
            refine callR (va_runV (As := [.int y2]) (rest := [.int y2, .ref (ad 18)]) ⟨hx, hb, hml, hown, hW⟩ (c_X2_bearerOf l D cI cZ ad 18 Y1q y2 _ hw) (cwV0 hW mV_X2_bearerOf ml_X6_175 ⟨Nat.le_of_ble_eq_true rfl, Nat.le_of_ble_eq_true rfl⟩) (preV0 0 rfl rfl hK hN hP hD [2] rfl rfl) rfl rfl hl.1 rfl (lv_room (Nat.le_of_ble_eq_true rfl)) dX6_undo_113 ⟨Nat.le_refl _, Nat.le_refl _⟩) (fun v9 hq => ?_)
            obtain ⟨v9, rfl, hw⟩ := hq
            refine W.eq (g2 := F0 m 116 ls [.int v9, .int y2, .ref (ad 18)]) rfl ?_
            refine callW (va_runV (As := [.int y2, .int v9]) (rest := []) ⟨hx, hb, hml, hown, hW⟩ (c_X2_swapNames l D cI cZ ad 18 Y1q y2 v9 _ hw) (cwV0 hW mV_X2_swapNames ml_X6_215 ⟨Nat.le_of_ble_eq_true rfl, Nat.le_of_ble_eq_true rfl⟩) (preV0 0 rfl rfl hK hN hP hD [2] rfl rfl) rfl rfl hl.1 rfl (lv_room (Nat.le_of_ble_eq_true rfl)) dX6_undo_116 ⟨Nat.le_refl _, Nat.le_refl _⟩) hP hD hS [2] rfl rfl (fun _ => rfl) (fun v9 u9 H locs hq hP hD hS => ?_)
            obtain ⟨rfl, hw⟩ := hq
            obtain ⟨Z10, rfl⟩ : ∃ z, z = u9 := ⟨_, rfl⟩
            have hP : va_P D classes (jn [xcell ad, rcells cI ad 1 Y0, rcells cI ad 18 Z10]) H := hP
            have hD : va_D (cOf (jn [xcell ad, rcells cI ad 1 Y0, rcells cI ad 18 Y1])) (jn [xcell ad, rcells cI ad 1 Y0, rcells cI ad 18 Z10]) := hD
            refine W.eq (g2 := F0 m 119 ls []) rfl ?_
            refine lv_iinc (v := (y1 + 1)) (lv' := [(1, .int (y1 + 1)), (0, .ref (ad 0)), (2, .int y2)]) hx hb dX6_undo_119 hl (k := 1) rfl rfl (by decide) rfl (fun ls hl => ?_)
            refine lv_iinc (v := (y2 + 1)) (lv' := [(2, .int (y2 + 1)), (1, .int (y1 + 1)), (0, .ref (ad 0))]) hx hb dX6_undo_122 hl (k := 2) rfl rfl (by decide) rfl (fun ls hl => ?_)
            refine lv_goto (tgt := 66) hx hb dX6_undo_125 (by decide) ?_
            exact ih (y1 + 1) (y2 + 1) Z10 _ _ hP hD hS _ (lv_sub hl [2, 1, 0] rfl) hw
  have hw : (∃ M15, wl_X6_undo_2 Y0 Y1 (wp_X2_takeOver Y1 Y0 (fun (Z5 : St) => (∃ M13, wl_X6_undo_66 (fun (v11 : Int32) (Z12 : St) => (k v11 Z12)) M13 0 0 Z5))) k M15 0) := hw
  refine lv_iconst (v := 0) hx hb dX6_undo_0 (by decide) ?_
  refine lv_istore_n (lv' := [(1, .int 0), (0, .ref (ad 0))]) hx hb dX6_undo_1 rfl hl (by decide) rfl (fun ls hl => ?_)
  obtain ⟨N16, hw⟩ := hw
  refine L2 Y1 _ (fun  H locs hP hD hS ls hl hw => ?_) N16 0 _ _ hP hD hS _ (lv_sub hl [1, 0] rfl) hw
  refine lv_aload_n hx hb dX6_undo_51 rfl (lv_at hl 0 rfl) ?_
  refine va_get (D := D) (ci := 6) (v := .ref (ad 18)) (C := RX6) (T := TX6) (N := 9) hx hb hW inW_X6 hown hK hP 0 rfl rfl 1 (by decide) (hW _ fl_X6_16) (fun _ h9 => h9) rfl dX6_undo_52 ?_
  refine lv_aload_n hx hb dX6_undo_55 rfl (lv_at hl 0 rfl) ?_
  refine va_get (D := D) (ci := 6) (v := .ref (ad 1)) (C := RX6) (T := TX6) (N := 9) hx hb hW inW_X6 hown hK hP 0 rfl rfl 0 (by decide) (hW _ fl_X6_10) (fun _ h9 => h9) rfl dX6_undo_56 ?_
  refine callW (va_runV (As := [.ref (ad 1)]) (rest := []) ⟨hx, hb, hml, hown, hW⟩ (c_X2_takeOver l D cI cZ ad 18 Y1 1 Y0 _ hw) (cwV0 hW mV_X2_takeOver ml_X6_124 ⟨Nat.le_of_ble_eq_true rfl, Nat.le_of_ble_eq_true rfl⟩) (preV0 0 rfl rfl hK hN hP hD [2, 1] rfl rfl) rfl rfl hl.1 rfl (lv_room (Nat.le_of_ble_eq_true rfl)) dX6_undo_59 ⟨Nat.le_refl _, Nat.le_refl _⟩) hP hD hS [2, 1] rfl rfl (fun _ => rfl) (fun v9 u9 H locs hq hP hD hS => ?_)
  obtain ⟨rfl, hw⟩ := hq
  obtain ⟨Z5, rfl⟩ : ∃ z, z = u9 := ⟨_, rfl⟩
  have hP : va_P D classes (jn [xcell ad, rcells cI ad 1 Y0, rcells cI ad 18 Z5]) H := hP
  have hD : va_D (cOf (jn [xcell ad, rcells cI ad 1 Y0, rcells cI ad 18 Y1])) (jn [xcell ad, rcells cI ad 1 Y0, rcells cI ad 18 Z5]) := hD
  refine W.eq (g2 := F0 m 62 ls []) rfl ?_
  refine lv_iconst (v := 0) hx hb dX6_undo_62 (by decide) ?_
  refine lv_istore_n (lv' := [(1, .int 0), (0, .ref (ad 0))]) hx hb dX6_undo_63 rfl hl (by decide) rfl (fun ls hl => ?_)
  refine lv_iconst (v := 0) hx hb dX6_undo_64 (by decide) ?_
  refine lv_istore_n (lv' := [(2, .int 0), (1, .int 0), (0, .ref (ad 0))]) hx hb dX6_undo_65 rfl hl (by decide) rfl (fun ls hl => ?_)
  obtain ⟨N14, hw⟩ := hw
  refine L66  _ (fun v11 Z12 H locs hP hD hS ls hl hw => ?_) N14 0 0 Z5 _ _ hP hD hS _ (lv_sub hl [2, 1, 0] rfl) hw
  refine lv_iload_n hx hb dX6_undo_128 rfl (lv_at hl 0 rfl) ?_
  exact W.iret (v := v11) hx hb hr (fun t ht _ => ⟨⟨_, (Z12), rfl, ⟨_, rfl, hw⟩, by rw [ht]; exact hP⟩, hS.F ht⟩) hS.2.2 dX6_undo_129
set_option maxHeartbeats 4000000 in
set_option maxRecDepth 100000 in
theorem c_X6_marriages (l : Launch) (D : va_G) (cI cZ : ClassId) (ad : Nat → Nat) (Y0 : St) (Y8 : St) (x1 : Int32) (k : Int32 → St → Prop) (hw : wp_X6_marriages Y0 Y8 x1 k) : KW l yX6_marriages cX6_marriages 2 (some .int) 6 141 D cI cZ [.ref (ad 0), .int x1] [xcell ad, rcells cI ad 1 Y0, wcells cI ad 78 Y8] (fun v (u : St) => ∃ r, v = some (.int r) ∧ k r u) (fun u : St => [xcell ad, rcells cI ad 1 Y0, wcells cI ad 78 u]) := by
  refine Met.ofE (by decide +kernel) (Nat.le_of_ble_eq_true rfl) ?_
  intro p e s m below meth c E ls hl
  obtain ⟨hx, hb, hr, hml, hW, hown, hlocks, hP, hK, hD, hN⟩ := E
  have hl : lv_has ls 2 [(0, .ref (ad 0)), (1, .int x1)] := hl
  have hS : va_S (cOf (jn [xcell ad, rcells cI ad 1 Y0, wcells cI ad 78 Y8])) s.heap s.heap [] := va_S.rf
  have hw : (if (F_X6_within x1 1 24) = 0 then (k (-2) Y8) else (wp_X4_mostTwos Y8 Y0 x1 (fun (v2 : Int32) (Z3 : St) => (k v2 Z3)))) := hw
  refine lv_iload_n hx hb dX6_marriages_0 rfl (lv_at hl 1 rfl) ?_
  refine lv_iconst (v := 1) hx hb dX6_marriages_1 (by decide) ?_
  refine lv_bipush (v := 24) hx hb dX6_marriages_2 (by decide) ?_
  refine callF (va_runS (As := [.int x1, .int 1, .int 24]) (rest := []) ⟨hx, hb, hml, hown, hW⟩ (c_X6_within l D cI cZ x1 1 24 _ rfl) (cwS0 hW mS_X6_within ml_X6_69 ⟨Nat.le_of_ble_eq_true rfl, Nat.le_of_ble_eq_true rfl⟩) (preS0 hK hN hP hD [] rfl rfl) rfl rfl hl.1 rfl (lv_room (Nat.le_of_ble_eq_true rfl)) dX6_marriages_4 ⟨Nat.le_refl _, Nat.le_refl _⟩) ?_
  refine W.eq (g2 := F0 m 7 ls [.int (F_X6_within x1 1 24)]) rfl ?_
  refine lv_if_ne (tgt := 13) hx hb dX6_marriages_7 (by decide) (fun c1 => ?_) (fun c1 => ?_)
  · have hw := Eq.mp (if_neg c1) hw
    refine lv_aload_n hx hb dX6_marriages_13 rfl (lv_at hl 0 rfl) ?_
    refine va_get (D := D) (ci := 6) (v := .ref (ad 78)) (C := RX6) (T := TX6) (N := 9) hx hb hW inW_X6 hown hK hP 0 rfl rfl 8 (by decide) (hW _ fl_X6_58) (fun _ h9 => h9) rfl dX6_marriages_14 ?_
    refine lv_aload_n hx hb dX6_marriages_17 rfl (lv_at hl 0 rfl) ?_
    refine va_get (D := D) (ci := 6) (v := .ref (ad 1)) (C := RX6) (T := TX6) (N := 9) hx hb hW inW_X6 hown hK hP 0 rfl rfl 0 (by decide) (hW _ fl_X6_10) (fun _ h9 => h9) rfl dX6_marriages_18 ?_
    refine lv_iload_n hx hb dX6_marriages_21 rfl (lv_at hl 1 rfl) ?_
    refine callW (va_runV (As := [.ref (ad 1), .int x1]) (rest := []) ⟨hx, hb, hml, hown, hW⟩ (c_X4_mostTwos l D cI cZ ad 78 Y8 1 Y0 x1 _ hw) (cwV0 hW mV_X4_mostTwos ml_X6_218 ⟨Nat.le_of_ble_eq_true rfl, Nat.le_of_ble_eq_true rfl⟩) (preV0 0 rfl rfl hK hN hP hD [2, 1] rfl rfl) rfl rfl hl.1 rfl (lv_room (Nat.le_of_ble_eq_true rfl)) dX6_marriages_22 ⟨Nat.le_refl _, Nat.le_refl _⟩) hP hD hS [2, 1] rfl rfl (fun _ => rfl) (fun v9 u9 H locs hq hP hD hS => ?_)
    obtain ⟨v2, rfl, hw⟩ := hq
    obtain ⟨Z3, rfl⟩ : ∃ z, z = u9 := ⟨_, rfl⟩
    have hP : va_P D classes (jn [xcell ad, rcells cI ad 1 Y0, wcells cI ad 78 Z3]) H := hP
    have hD : va_D (cOf (jn [xcell ad, rcells cI ad 1 Y0, wcells cI ad 78 Y8])) (jn [xcell ad, rcells cI ad 1 Y0, wcells cI ad 78 Z3]) := hD
    refine W.eq (g2 := F0 m 25 ls [.int v2]) rfl ?_
    exact W.iret (v := v2) hx hb hr (fun t ht _ => ⟨⟨_, (Z3), rfl, ⟨_, rfl, hw⟩, by rw [ht]; exact hP⟩, hS.F ht⟩) hS.2.2 dX6_marriages_25
  · have hw := Eq.mp (if_pos c1) hw
    refine lv_bipush (v := (-2)) hx hb dX6_marriages_10 (by decide) ?_
    exact W.iret (v := (-2)) hx hb hr (fun t ht _ => ⟨⟨_, (Y8), rfl, ⟨_, rfl, hw⟩, by rw [ht]; exact hP⟩, hS.F ht⟩) hS.2.2 dX6_marriages_12
set_option maxHeartbeats 4000000 in
set_option maxRecDepth 100000 in
theorem c_X6_commonDivisor (l : Launch) (D : va_G) (cI cZ : ClassId) (x0 : Int64) (x2 : Int64) (k : Int64 → Prop) (hw : wp_X6_commonDivisor x0 x2 k) : KR l yX6_commonDivisor cX6_commonDivisor 11 (some .long) 0 0 D cI cZ [.long x0, .long x2] [] (fun v => ∃ r, v = some (.long r) ∧ k r) := by
  refine Met.ofE (by decide +kernel) (Nat.le_of_ble_eq_true rfl) ?_
  intro p e s m below meth c E ls hl
  obtain ⟨hx, hb, hr, hml, hW, hown, hlocks, hP, hK, hD, hN⟩ := E
  have hl : lv_has ls 11 [(0, .long x0), (2, .long x2)] := hl
  have L9 : ∀  (kx : Int64 → Prop), (∀ (y4 : Int64), ∀ ls : Array Slot, lv_has ls 11 [(4, .long y4)] → kx y4 → W p l e { frames := 0, cells := 0, slots := 0, locals := 0 } s m ([.long x0, .long x2] : List Value).toArray below meth c s.heap [] 0 0 (MQ below (QR (fun v => ∃ r, v = some (.long r) ∧ k r)) ([.long x0, .long x2] : List Value).toArray s 0 0 (fun _ => False)) (F0 m 44 ls [])) → ∀ (N9 : Nat) (y4 : Int64) (y6 : Int64) (y8 : Int32), ∀ ls : Array Slot, lv_has ls 11 [(4, .long y4), (6, .long y6), (8, .int y8)] → wl_X6_commonDivisor_9 kx N9 y4 y6 y8 → W p l e { frames := 0, cells := 0, slots := 0, locals := 0 } s m ([.long x0, .long x2] : List Value).toArray below meth c s.heap [] 0 0 (MQ below (QR (fun v => ∃ r, v = some (.long r) ∧ k r)) ([.long x0, .long x2] : List Value).toArray s 0 0 (fun _ => False)) (F0 m 9 ls []) := by
    intro  kx hxt N9
    induction N9 with
    | zero => intro y4 y6 y8 ls hl hw; exact False.elim hw
    | succ N9 ih =>
      intro y4 y6 y8 ls hl hw
      have hw : (if 100 ≤ y8 then (kx y4) else (if (lg_cmp y6 0) = 0 then (kx y4) else (¬ y6 = 0 ∧ (wl_X6_commonDivisor_9 kx N9 y6 (y4 - y4 / y6 * y6) (y8 + 1))))) := hw
      refine lv_iload hx hb dX6_commonDivisor_9 (lv_at hl 2 rfl) ?_
      refine lv_bipush (v := 100) hx hb dX6_commonDivisor_11 (by decide) ?_
      refine lv_icmp_ge (tgt := 44) hx hb dX6_commonDivisor_13 (by decide) (fun c1 => ?_) (fun c1 => ?_)
      · have hw := Eq.mp (if_pos c1) hw
        exact hxt y4 _ (lv_sub hl [0] rfl) hw
      · have hw := Eq.mp (if_neg c1) hw
        refine lv_lload hx hb dX6_commonDivisor_16 (lv_at hl 1 rfl) ?_
        refine lv_lconst (v := 0) hx hb dX6_commonDivisor_18 (by decide) ?_
        refine W.lcmp hx hb dX6_commonDivisor_19 ?_
        refine lv_if_eq (tgt := 44) hx hb dX6_commonDivisor_20 (by decide) (fun c2 => ?_) (fun c2 => ?_)
        · have hw := Eq.mp (if_pos c2) hw
          exact hxt y4 _ (lv_sub hl [0] rfl) hw
        · have hw := Eq.mp (if_neg c2) hw
          refine lv_lload hx hb dX6_commonDivisor_23 (lv_at hl 0 rfl) ?_
          refine lv_lload hx hb dX6_commonDivisor_25 (lv_at hl 1 rfl) ?_
          refine lv_lrem hx hb dX6_commonDivisor_27 hw.1 ?_
          have hw := hw.2
          refine lv_lstore (lv' := [(9, .long (y4 - y4 / y6 * y6)), (4, .long y4), (6, .long y6), (8, .int y8)]) hx hb dX6_commonDivisor_28 hl (by decide) rfl (fun ls hl => ?_)
          refine lv_lload hx hb dX6_commonDivisor_30 (lv_at hl 2 rfl) ?_
          refine lv_lstore (lv' := [(4, .long y6), (9, .long (y4 - y4 / y6 * y6)), (6, .long y6), (8, .int y8)]) hx hb dX6_commonDivisor_32 hl (by decide) rfl (fun ls hl => ?_)
          refine lv_lload hx hb dX6_commonDivisor_34 (lv_at hl 1 rfl) ?_
          refine lv_lstore (lv' := [(6, .long (y4 - y4 / y6 * y6)), (4, .long y6), (9, .long (y4 - y4 / y6 * y6)), (8, .int y8)]) hx hb dX6_commonDivisor_36 hl (by decide) rfl (fun ls hl => ?_)
          refine lv_iinc (v := (y8 + 1)) (lv' := [(8, .int (y8 + 1)), (6, .long (y4 - y4 / y6 * y6)), (4, .long y6), (9, .long (y4 - y4 / y6 * y6))]) hx hb dX6_commonDivisor_38 hl (k := 3) rfl rfl (by decide) rfl (fun ls hl => ?_)
          refine lv_goto (tgt := 9) hx hb dX6_commonDivisor_41 (by decide) ?_
          exact ih y6 (y4 - y4 / y6 * y6) (y8 + 1) _ (lv_sub hl [2, 1, 0] rfl) hw
  have hw : (∃ M4, wl_X6_commonDivisor_9 (fun (v3 : Int64) => (k v3)) M4 x0 x2 0) := hw
  refine lv_lload_n hx hb dX6_commonDivisor_0 rfl (lv_at hl 0 rfl) ?_
  refine lv_lstore (lv' := [(4, .long x0), (0, .long x0), (2, .long x2)]) hx hb dX6_commonDivisor_1 hl (by decide) rfl (fun ls hl => ?_)
  refine lv_lload_n hx hb dX6_commonDivisor_3 rfl (lv_at hl 2 rfl) ?_
  refine lv_lstore (lv' := [(6, .long x2), (4, .long x0), (0, .long x0), (2, .long x2)]) hx hb dX6_commonDivisor_4 hl (by decide) rfl (fun ls hl => ?_)
  refine lv_iconst (v := 0) hx hb dX6_commonDivisor_6 (by decide) ?_
  refine lv_istore (lv' := [(8, .int 0), (6, .long x2), (4, .long x0), (0, .long x0), (2, .long x2)]) hx hb dX6_commonDivisor_7 hl (by decide) rfl (fun ls hl => ?_)
  obtain ⟨N5, hw⟩ := hw
  refine L9  _ (fun v3 ls hl hw => ?_) N5 x0 x2 0 _ (lv_sub hl [2, 1, 0] rfl) hw
  refine lv_lload hx hb dX6_commonDivisor_44 (lv_at hl 0 rfl) ?_
  exact W.lret (v := v3) hx hb hr (fun t ht _ => ⟨⟨_, rfl, ⟨_, rfl, hw⟩⟩, ht⟩) (fun _ h => by cases h) dX6_commonDivisor_46
set_option maxHeartbeats 4000000 in
set_option maxRecDepth 100000 in
theorem c_X6_cut_ (l : Launch) (D : va_G) (cI cZ : ClassId) (x0 : Int64) (x2 : Int64) (r9 : Int64) (hw : F_X6_cut_ x0 x2 = r9) : KF l yX6_cut_ cX6_cut_ 4 (some .long) 0 0 D cI cZ [.long x0, .long x2] [] (some (.long r9)) := by
  refine Met.ofE (by decide +kernel) (Nat.le_of_ble_eq_true rfl) ?_
  intro p e s m below meth c E ls hl
  obtain ⟨hx, hb, hr, hml, hW, hown, hlocks, hP, hK, hD, hN⟩ := E
  have hl : lv_has ls 4 [(0, .long x0), (2, .long x2)] := hl
  have hw : (if (lg_cmp x2 0) ≤ 0 then 0 else (x0 / x2)) = r9 := hw
  refine lv_lload_n hx hb dX6_cut__0 rfl (lv_at hl 1 rfl) ?_
  refine lv_lconst (v := 0) hx hb dX6_cut__1 (by decide) ?_
  refine W.lcmp hx hb dX6_cut__2 ?_
  refine lv_if_le (tgt := 12) hx hb dX6_cut__3 (by decide) (fun c1 => ?_) (fun c1 => ?_)
  · have hw := (if_pos c1).symm.trans hw
    refine lv_lconst (v := 0) hx hb dX6_cut__12 (by decide) ?_
    subst hw
    exact W.lret (v := 0) hx hb hr (fun t ht _ => ⟨rfl, ht⟩) (fun _ h => by cases h) dX6_cut__13
  · have hw := (if_neg c1).symm.trans hw
    refine lv_lload_n hx hb dX6_cut__6 rfl (lv_at hl 0 rfl) ?_
    refine lv_lload_n hx hb dX6_cut__7 rfl (lv_at hl 1 rfl) ?_
    refine lv_ldiv hx hb dX6_cut__8 (ne_of_lg c1) ?_
    refine lv_goto (tgt := 13) hx hb dX6_cut__9 (by decide) ?_
    subst hw
    exact W.lret (v := (x0 / x2)) hx hb hr (fun t ht _ => ⟨rfl, ht⟩) (fun _ h => by cases h) dX6_cut__13
set_option maxHeartbeats 4000000 in
set_option maxRecDepth 100000 in
theorem c_X6_power (l : Launch) (D : va_G) (cI cZ : ClassId) (x0 : Int64) (x2 : Int32) (k : Int64 → Prop) (hw : wp_X6_power x0 x2 k) : KR l yX6_power cX6_power 6 (some .long) 0 0 D cI cZ [.long x0, .int x2] [] (fun v => ∃ r, v = some (.long r) ∧ k r) := by
  refine Met.ofE (by decide +kernel) (Nat.le_of_ble_eq_true rfl) ?_
  intro p e s m below meth c E ls hl
  obtain ⟨hx, hb, hr, hml, hW, hown, hlocks, hP, hK, hD, hN⟩ := E
  have hl : lv_has ls 6 [(0, .long x0), (2, .int x2)] := hl
  have L5 : ∀  (kx : Int64 → Prop), (∀ (y3 : Int64), ∀ ls : Array Slot, lv_has ls 6 [(3, .long y3)] → kx y3 → W p l e { frames := 0, cells := 0, slots := 0, locals := 0 } s m ([.long x0, .int x2] : List Value).toArray below meth c s.heap [] 0 0 (MQ below (QR (fun v => ∃ r, v = some (.long r) ∧ k r)) ([.long x0, .int x2] : List Value).toArray s 0 0 (fun _ => False)) (F0 m 21 ls [])) → ∀ (N5 : Nat) (y3 : Int64) (y5 : Int32), ∀ ls : Array Slot, lv_has ls 6 [(0, .long x0), (2, .int x2), (3, .long y3), (5, .int y5)] → wl_X6_power_5 x0 x2 kx N5 y3 y5 → W p l e { frames := 0, cells := 0, slots := 0, locals := 0 } s m ([.long x0, .int x2] : List Value).toArray below meth c s.heap [] 0 0 (MQ below (QR (fun v => ∃ r, v = some (.long r) ∧ k r)) ([.long x0, .int x2] : List Value).toArray s 0 0 (fun _ => False)) (F0 m 5 ls []) := by
    intro  kx hxt N5
    induction N5 with
    | zero => intro y3 y5 ls hl hw; exact False.elim hw
    | succ N5 ih =>
      intro y3 y5 ls hl hw
      have hw : (if x2 ≤ y5 then (kx y3) else (wl_X6_power_5 x0 x2 kx N5 (y3 * x0) (y5 + 1))) := hw
      refine lv_iload hx hb dX6_power_5 (lv_at hl 3 rfl) ?_
      refine lv_iload_n hx hb dX6_power_7 rfl (lv_at hl 1 rfl) ?_
      refine lv_icmp_ge (tgt := 21) hx hb dX6_power_8 (by decide) (fun c1 => ?_) (fun c1 => ?_)
      · have hw := Eq.mp (if_pos c1) hw
        exact hxt y3 _ (lv_sub hl [2] rfl) hw
      · have hw := Eq.mp (if_neg c1) hw
        refine lv_lload_n hx hb dX6_power_11 rfl (lv_at hl 2 rfl) ?_
        refine lv_lload_n hx hb dX6_power_12 rfl (lv_at hl 0 rfl) ?_
        refine lv_lmul hx hb dX6_power_13 ?_
        refine lv_lstore_n (lv' := [(3, .long (y3 * x0)), (0, .long x0), (2, .int x2), (5, .int y5)]) hx hb dX6_power_14 rfl hl (by decide) rfl (fun ls hl => ?_)
        refine lv_iinc (v := (y5 + 1)) (lv' := [(5, .int (y5 + 1)), (3, .long (y3 * x0)), (0, .long x0), (2, .int x2)]) hx hb dX6_power_15 hl (k := 3) rfl rfl (by decide) rfl (fun ls hl => ?_)
        refine lv_goto (tgt := 5) hx hb dX6_power_18 (by decide) ?_
        exact ih (y3 * x0) (y5 + 1) _ (lv_sub hl [2, 3, 1, 0] rfl) hw
  have hw : (∃ M3, wl_X6_power_5 x0 x2 (fun (v2 : Int64) => (k v2)) M3 1 0) := hw
  refine lv_lconst (v := 1) hx hb dX6_power_0 (by decide) ?_
  refine lv_lstore_n (lv' := [(3, .long 1), (0, .long x0), (2, .int x2)]) hx hb dX6_power_1 rfl hl (by decide) rfl (fun ls hl => ?_)
  refine lv_iconst (v := 0) hx hb dX6_power_2 (by decide) ?_
  refine lv_istore (lv' := [(5, .int 0), (3, .long 1), (0, .long x0), (2, .int x2)]) hx hb dX6_power_3 hl (by decide) rfl (fun ls hl => ?_)
  obtain ⟨N4, hw⟩ := hw
  refine L5  _ (fun v2 ls hl hw => ?_) N4 1 0 _ (lv_sub hl [2, 3, 1, 0] rfl) hw
  refine lv_lload_n hx hb dX6_power_21 rfl (lv_at hl 0 rfl) ?_
  exact W.lret (v := v2) hx hb hr (fun t ht _ => ⟨⟨_, rfl, ⟨_, rfl, hw⟩⟩, ht⟩) (fun _ h => by cases h) dX6_power_22
set_option maxHeartbeats 4000000 in
set_option maxRecDepth 100000 in
theorem c_X6_deaths (l : Launch) (D : va_G) (cI cZ : ClassId) (ad : Nat → Nat) (Y0 : St) (x1 : Int32) (x2 : Int32) (x3 : Int32) (x4 : Int32) (k : Int64 → Prop) (hw : wp_X6_deaths Y0 x1 x2 x3 x4 k) : KR l yX6_deaths cX6_deaths 13 (some .long) 1 30 D cI cZ [.ref (ad 0), .int x1, .int x2, .int x3, .int x4] [xcell ad, rcells cI ad 1 Y0] (fun v => ∃ r, v = some (.long r) ∧ k r) := by
  refine Met.ofE (by decide +kernel) (Nat.le_of_ble_eq_true rfl) ?_
  intro p e s m below meth c E ls hl
  obtain ⟨hx, hb, hr, hml, hW, hown, hlocks, hP, hK, hD, hN⟩ := E
  have hl : lv_has ls 13 [(0, .ref (ad 0)), (1, .int x1), (2, .int x2), (3, .int x3), (4, .int x4)] := hl
  have hw : (if (F_X6_within x1 0 3) = 0 then (k (-1000000000000000002)) else (if (F_X6_within x2 0 10) = 0 then (k (-1000000000000000002)) else (if (F_X6_within x3 0 1) = 0 then (k (-1000000000000000002)) else (if (F_X6_within x4 0 1) = 0 then (k (-1000000000000000002)) else (wp_X6_commonDivisor (((10 : Int32) - x2).toInt64) 10 (fun (v5 : Int64) => (if x3 = 0 then (wp_X6_power (F_X6_cut_ (((10 : Int32) - x2).toInt64) v5) (x1 * (F_J6_bitCount_0f7a4 (Y0.1 5))) (fun (v7 : Int64) => (wp_X6_power (F_X6_cut_ 10 v5) (x1 * (F_J6_bitCount_0f7a4 (Y0.1 5))) (fun (v8 : Int64) => (if x4 = 0 then (wp_X6_commonDivisor (v7 * ((1 : Int32).toInt64)) v8 (fun (v10 : Int64) => (k (F_X6_cut_ (v7 * ((1 : Int32).toInt64)) v10)))) else (wp_X6_commonDivisor (v7 * ((1 : Int32).toInt64)) v8 (fun (v11 : Int64) => (k (F_X6_cut_ v8 v11))))))))) else (wp_X6_power (F_X6_cut_ (((10 : Int32) - x2).toInt64) v5) x1 (fun (v12 : Int64) => (wp_X6_power (F_X6_cut_ 10 v5) x1 (fun (v13 : Int64) => (if x4 = 0 then (wp_X6_commonDivisor (v12 * ((F_J6_bitCount_0f7a4 (Y0.1 5)).toInt64)) v13 (fun (v15 : Int64) => (k (F_X6_cut_ (v12 * ((F_J6_bitCount_0f7a4 (Y0.1 5)).toInt64)) v15)))) else (wp_X6_commonDivisor (v12 * ((F_J6_bitCount_0f7a4 (Y0.1 5)).toInt64)) v13 (fun (v16 : Int64) => (k (F_X6_cut_ v13 v16)))))))))))))))) := hw
  refine lv_iload_n hx hb dX6_deaths_0 rfl (lv_at hl 1 rfl) ?_
  refine lv_iconst (v := 0) hx hb dX6_deaths_1 (by decide) ?_
  refine lv_iconst (v := 3) hx hb dX6_deaths_2 (by decide) ?_
  refine callF (va_runS (As := [.int x1, .int 0, .int 3]) (rest := []) ⟨hx, hb, hml, hown, hW⟩ (c_X6_within l D cI cZ x1 0 3 _ rfl) (cwS0 hW mS_X6_within ml_X6_69 ⟨Nat.le_of_ble_eq_true rfl, Nat.le_of_ble_eq_true rfl⟩) (preS0 hK hN hP hD [] rfl rfl) rfl rfl hl.1 rfl (lv_room (Nat.le_of_ble_eq_true rfl)) dX6_deaths_3 ⟨Nat.le_refl _, Nat.le_refl _⟩) ?_
  refine W.eq (g2 := F0 m 6 ls [.int (F_X6_within x1 0 3)]) rfl ?_
  refine lv_if_eq (tgt := 38) hx hb dX6_deaths_6 (by decide) (fun c1 => ?_) (fun c1 => ?_)
  · have hw := Eq.mp (if_pos c1) hw
    refine lv_ldc2 (v := (-1000000000000000002)) hx hb hown (hW _ kc_X6_221) dX6_deaths_38 ?_
    exact W.lret (v := (-1000000000000000002)) hx hb hr (fun t ht _ => ⟨⟨_, rfl, ⟨_, rfl, hw⟩⟩, ht⟩) (fun _ h => by cases h) dX6_deaths_41
  · have hw := Eq.mp (if_neg c1) hw
    refine lv_iload_n hx hb dX6_deaths_9 rfl (lv_at hl 2 rfl) ?_
    refine lv_iconst (v := 0) hx hb dX6_deaths_10 (by decide) ?_
    refine lv_bipush (v := 10) hx hb dX6_deaths_11 (by decide) ?_
    refine callF (va_runS (As := [.int x2, .int 0, .int 10]) (rest := []) ⟨hx, hb, hml, hown, hW⟩ (c_X6_within l D cI cZ x2 0 10 _ rfl) (cwS0 hW mS_X6_within ml_X6_69 ⟨Nat.le_of_ble_eq_true rfl, Nat.le_of_ble_eq_true rfl⟩) (preS0 hK hN hP hD [] rfl rfl) rfl rfl hl.1 rfl (lv_room (Nat.le_of_ble_eq_true rfl)) dX6_deaths_13 ⟨Nat.le_refl _, Nat.le_refl _⟩) ?_
    refine W.eq (g2 := F0 m 16 ls [.int (F_X6_within x2 0 10)]) rfl ?_
    refine lv_if_eq (tgt := 38) hx hb dX6_deaths_16 (by decide) (fun c2 => ?_) (fun c2 => ?_)
    · have hw := Eq.mp (if_pos c2) hw
      refine lv_ldc2 (v := (-1000000000000000002)) hx hb hown (hW _ kc_X6_221) dX6_deaths_38 ?_
      exact W.lret (v := (-1000000000000000002)) hx hb hr (fun t ht _ => ⟨⟨_, rfl, ⟨_, rfl, hw⟩⟩, ht⟩) (fun _ h => by cases h) dX6_deaths_41
    · have hw := Eq.mp (if_neg c2) hw
      refine lv_iload_n hx hb dX6_deaths_19 rfl (lv_at hl 3 rfl) ?_
      refine lv_iconst (v := 0) hx hb dX6_deaths_20 (by decide) ?_
      refine lv_iconst (v := 1) hx hb dX6_deaths_21 (by decide) ?_
      refine callF (va_runS (As := [.int x3, .int 0, .int 1]) (rest := []) ⟨hx, hb, hml, hown, hW⟩ (c_X6_within l D cI cZ x3 0 1 _ rfl) (cwS0 hW mS_X6_within ml_X6_69 ⟨Nat.le_of_ble_eq_true rfl, Nat.le_of_ble_eq_true rfl⟩) (preS0 hK hN hP hD [] rfl rfl) rfl rfl hl.1 rfl (lv_room (Nat.le_of_ble_eq_true rfl)) dX6_deaths_22 ⟨Nat.le_refl _, Nat.le_refl _⟩) ?_
      refine W.eq (g2 := F0 m 25 ls [.int (F_X6_within x3 0 1)]) rfl ?_
      refine lv_if_eq (tgt := 38) hx hb dX6_deaths_25 (by decide) (fun c3 => ?_) (fun c3 => ?_)
      · have hw := Eq.mp (if_pos c3) hw
        refine lv_ldc2 (v := (-1000000000000000002)) hx hb hown (hW _ kc_X6_221) dX6_deaths_38 ?_
        exact W.lret (v := (-1000000000000000002)) hx hb hr (fun t ht _ => ⟨⟨_, rfl, ⟨_, rfl, hw⟩⟩, ht⟩) (fun _ h => by cases h) dX6_deaths_41
      · have hw := Eq.mp (if_neg c3) hw
        refine lv_iload hx hb dX6_deaths_28 (lv_at hl 4 rfl) ?_
        refine lv_iconst (v := 0) hx hb dX6_deaths_30 (by decide) ?_
        refine lv_iconst (v := 1) hx hb dX6_deaths_31 (by decide) ?_
        refine callF (va_runS (As := [.int x4, .int 0, .int 1]) (rest := []) ⟨hx, hb, hml, hown, hW⟩ (c_X6_within l D cI cZ x4 0 1 _ rfl) (cwS0 hW mS_X6_within ml_X6_69 ⟨Nat.le_of_ble_eq_true rfl, Nat.le_of_ble_eq_true rfl⟩) (preS0 hK hN hP hD [] rfl rfl) rfl rfl hl.1 rfl (lv_room (Nat.le_of_ble_eq_true rfl)) dX6_deaths_32 ⟨Nat.le_refl _, Nat.le_refl _⟩) ?_
        refine W.eq (g2 := F0 m 35 ls [.int (F_X6_within x4 0 1)]) rfl ?_
        refine lv_if_ne (tgt := 42) hx hb dX6_deaths_35 (by decide) (fun c4 => ?_) (fun c4 => ?_)
        · have hw := Eq.mp (if_neg c4) hw
          refine lv_aload_n hx hb dX6_deaths_42 rfl (lv_at hl 0 rfl) ?_
          refine va_get (D := D) (ci := 6) (v := .ref (ad 1)) (C := RX6) (T := TX6) (N := 9) hx hb hW inW_X6 hown hK hP 0 rfl rfl 0 (by decide) (hW _ fl_X6_10) (fun _ h9 => h9) rfl dX6_deaths_43 ?_
          refine va_get (D := D) (ci := 2) (v := .int (Y0.1 5)) (C := RX2) (T := TX2) (N := 15) hx hb hW inW_X2 hown hK hP 1 rfl rfl 5 (by decide) (hW _ fl_X6_223) (fun _ h9 => h9) rfl dX6_deaths_46 ?_
          refine callF (va_runS (As := [.int (Y0.1 5)]) (rest := []) ⟨hx, hb, hml, hown, hW⟩ (c_J6_bitCount_0f7a4 l D cI cZ (Y0.1 5) _ rfl) (cwS0 hW mS_J6_bitCount_0f7a4 ml_X6_226 ⟨Nat.le_of_ble_eq_true rfl, Nat.le_of_ble_eq_true rfl⟩) (preS0 hK hN hP hD [] rfl rfl) rfl rfl hl.1 rfl (lv_room (Nat.le_of_ble_eq_true rfl)) dX6_deaths_49 ⟨Nat.le_refl _, Nat.le_refl _⟩) ?_
          refine W.eq (g2 := F0 m 52 ls [.int (F_J6_bitCount_0f7a4 (Y0.1 5))]) rfl ?_
          refine lv_istore (lv' := [(5, .int (F_J6_bitCount_0f7a4 (Y0.1 5))), (0, .ref (ad 0)), (1, .int x1), (2, .int x2), (3, .int x3), (4, .int x4)]) hx hb dX6_deaths_52 hl (by decide) rfl (fun ls hl => ?_)
          refine lv_bipush (v := 10) hx hb dX6_deaths_54 (by decide) ?_
          refine lv_iload_n hx hb dX6_deaths_56 rfl (lv_at hl 3 rfl) ?_
          refine lv_isub hx hb dX6_deaths_57 ?_
          refine lv_i2l (v := ((10 : Int32) - x2).toInt64) hx hb dX6_deaths_58 rfl ?_
          refine lv_ldc2 (v := 10) hx hb hown (hW _ kc_X6_231) dX6_deaths_59 ?_
          refine callR (va_runS (As := [.long (((10 : Int32) - x2).toInt64), .long 10]) (rest := []) ⟨hx, hb, hml, hown, hW⟩ (c_X6_commonDivisor l D cI cZ (((10 : Int32) - x2).toInt64) 10 _ hw) (cwS0 hW mS_X6_commonDivisor ml_X6_233 ⟨Nat.le_of_ble_eq_true rfl, Nat.le_of_ble_eq_true rfl⟩) (preS0 hK hN hP hD [] rfl rfl) rfl rfl hl.1 rfl (lv_room (Nat.le_of_ble_eq_true rfl)) dX6_deaths_62 ⟨Nat.le_refl _, Nat.le_refl _⟩) (fun v9 hq => ?_)
          obtain ⟨v5, rfl, hw⟩ := hq
          refine W.eq (g2 := F0 m 65 ls [.long v5]) rfl ?_
          refine lv_lstore (lv' := [(6, .long v5), (5, .int (F_J6_bitCount_0f7a4 (Y0.1 5))), (0, .ref (ad 0)), (1, .int x1), (2, .int x2), (3, .int x3), (4, .int x4)]) hx hb dX6_deaths_65 hl (by decide) rfl (fun ls hl => ?_)
          refine lv_iload_n hx hb dX6_deaths_67 rfl (lv_at hl 5 rfl) ?_
          refine lv_if_ne (tgt := 78) hx hb dX6_deaths_68 (by decide) (fun c6 => ?_) (fun c6 => ?_)
          · have hw := Eq.mp (if_neg c6) hw
            refine lv_iload_n hx hb dX6_deaths_78 rfl (lv_at hl 3 rfl) ?_
            refine lv_istore (lv' := [(8, .int x1), (6, .long v5), (5, .int (F_J6_bitCount_0f7a4 (Y0.1 5))), (0, .ref (ad 0)), (1, .int x1), (2, .int x2), (3, .int x3), (4, .int x4)]) hx hb dX6_deaths_79 hl (by decide) rfl (fun ls hl => ?_)
            refine lv_bipush (v := 10) hx hb dX6_deaths_81 (by decide) ?_
            refine lv_iload_n hx hb dX6_deaths_83 rfl (lv_at hl 5 rfl) ?_
            refine lv_isub hx hb dX6_deaths_84 ?_
            refine lv_i2l (v := ((10 : Int32) - x2).toInt64) hx hb dX6_deaths_85 rfl ?_
            refine lv_lload hx hb dX6_deaths_86 (lv_at hl 1 rfl) ?_
            refine callF (va_runS (As := [.long (((10 : Int32) - x2).toInt64), .long v5]) (rest := []) ⟨hx, hb, hml, hown, hW⟩ (c_X6_cut_ l D cI cZ (((10 : Int32) - x2).toInt64) v5 _ rfl) (cwS0 hW mS_X6_cut_ ml_X6_237 ⟨Nat.le_of_ble_eq_true rfl, Nat.le_of_ble_eq_true rfl⟩) (preS0 hK hN hP hD [] rfl rfl) rfl rfl hl.1 rfl (lv_room (Nat.le_of_ble_eq_true rfl)) dX6_deaths_88 ⟨Nat.le_refl _, Nat.le_refl _⟩) ?_
            refine W.eq (g2 := F0 m 91 ls [.long (F_X6_cut_ (((10 : Int32) - x2).toInt64) v5)]) rfl ?_
            refine lv_iload hx hb dX6_deaths_91 (lv_at hl 0 rfl) ?_
            refine callR (va_runS (As := [.long (F_X6_cut_ (((10 : Int32) - x2).toInt64) v5), .int x1]) (rest := []) ⟨hx, hb, hml, hown, hW⟩ (c_X6_power l D cI cZ (F_X6_cut_ (((10 : Int32) - x2).toInt64) v5) x1 _ hw) (cwS0 hW mS_X6_power ml_X6_240 ⟨Nat.le_of_ble_eq_true rfl, Nat.le_of_ble_eq_true rfl⟩) (preS0 hK hN hP hD [] rfl rfl) rfl rfl hl.1 rfl (lv_room (Nat.le_of_ble_eq_true rfl)) dX6_deaths_93 ⟨Nat.le_refl _, Nat.le_refl _⟩) (fun v9 hq => ?_)
            obtain ⟨v12, rfl, hw⟩ := hq
            refine W.eq (g2 := F0 m 96 ls [.long v12]) rfl ?_
            refine lv_iload_n hx hb dX6_deaths_96 rfl (lv_at hl 6 rfl) ?_
            refine lv_if_ne (tgt := 104) hx hb dX6_deaths_97 (by decide) (fun _ => ?_) (fun c9 => absurd c9 c6)
            refine lv_iload hx hb dX6_deaths_104 (lv_at hl 2 rfl) ?_
            refine lv_i2l (v := (F_J6_bitCount_0f7a4 (Y0.1 5)).toInt64) hx hb dX6_deaths_106 rfl ?_
            refine lv_lmul hx hb dX6_deaths_107 ?_
            refine lv_lstore (lv' := [(9, .long (v12 * ((F_J6_bitCount_0f7a4 (Y0.1 5)).toInt64))), (8, .int x1), (6, .long v5), (5, .int (F_J6_bitCount_0f7a4 (Y0.1 5))), (0, .ref (ad 0)), (1, .int x1), (2, .int x2), (3, .int x3), (4, .int x4)]) hx hb dX6_deaths_108 hl (by decide) rfl (fun ls hl => ?_)
            refine lv_ldc2 (v := 10) hx hb hown (hW _ kc_X6_231) dX6_deaths_110 ?_
            refine lv_lload hx hb dX6_deaths_113 (lv_at hl 2 rfl) ?_
            refine callF (va_runS (As := [.long 10, .long v5]) (rest := []) ⟨hx, hb, hml, hown, hW⟩ (c_X6_cut_ l D cI cZ 10 v5 _ rfl) (cwS0 hW mS_X6_cut_ ml_X6_237 ⟨Nat.le_of_ble_eq_true rfl, Nat.le_of_ble_eq_true rfl⟩) (preS0 hK hN hP hD [] rfl rfl) rfl rfl hl.1 rfl (lv_room (Nat.le_of_ble_eq_true rfl)) dX6_deaths_115 ⟨Nat.le_refl _, Nat.le_refl _⟩) ?_
            refine W.eq (g2 := F0 m 118 ls [.long (F_X6_cut_ 10 v5)]) rfl ?_
            refine lv_iload hx hb dX6_deaths_118 (lv_at hl 1 rfl) ?_
            refine callR (va_runS (As := [.long (F_X6_cut_ 10 v5), .int x1]) (rest := []) ⟨hx, hb, hml, hown, hW⟩ (c_X6_power l D cI cZ (F_X6_cut_ 10 v5) x1 _ hw) (cwS0 hW mS_X6_power ml_X6_240 ⟨Nat.le_of_ble_eq_true rfl, Nat.le_of_ble_eq_true rfl⟩) (preS0 hK hN hP hD [] rfl rfl) rfl rfl hl.1 rfl (lv_room (Nat.le_of_ble_eq_true rfl)) dX6_deaths_120 ⟨Nat.le_refl _, Nat.le_refl _⟩) (fun v9 hq => ?_)
            obtain ⟨v13, rfl, hw⟩ := hq
            refine W.eq (g2 := F0 m 123 ls [.long v13]) rfl ?_
            refine lv_lstore (lv' := [(11, .long v13), (9, .long (v12 * ((F_J6_bitCount_0f7a4 (Y0.1 5)).toInt64))), (8, .int x1), (6, .long v5), (5, .int (F_J6_bitCount_0f7a4 (Y0.1 5))), (0, .ref (ad 0)), (1, .int x1), (2, .int x2), (3, .int x3), (4, .int x4)]) hx hb dX6_deaths_123 hl (by decide) rfl (fun ls hl => ?_)
            refine lv_iload hx hb dX6_deaths_125 (lv_at hl 9 rfl) ?_
            refine lv_if_ne (tgt := 135) hx hb dX6_deaths_127 (by decide) (fun c14 => ?_) (fun c14 => ?_)
            · have hw := Eq.mp (if_neg c14) hw
              refine lv_lload hx hb dX6_deaths_135 (lv_at hl 0 rfl) ?_
              refine lv_lload hx hb dX6_deaths_137 (lv_at hl 1 rfl) ?_
              refine lv_lload hx hb dX6_deaths_139 (lv_at hl 0 rfl) ?_
              refine callR (va_runS (As := [.long (v12 * ((F_J6_bitCount_0f7a4 (Y0.1 5)).toInt64)), .long v13]) (rest := [.long v13]) ⟨hx, hb, hml, hown, hW⟩ (c_X6_commonDivisor l D cI cZ (v12 * ((F_J6_bitCount_0f7a4 (Y0.1 5)).toInt64)) v13 _ hw) (cwS0 hW mS_X6_commonDivisor ml_X6_233 ⟨Nat.le_of_ble_eq_true rfl, Nat.le_of_ble_eq_true rfl⟩) (preS0 hK hN hP hD [] rfl rfl) rfl rfl hl.1 rfl (lv_room (Nat.le_of_ble_eq_true rfl)) dX6_deaths_141 ⟨Nat.le_refl _, Nat.le_refl _⟩) (fun v9 hq => ?_)
              obtain ⟨v16, rfl, hw⟩ := hq
              refine W.eq (g2 := F0 m 144 ls [.long v16, .long v13]) rfl ?_
              refine callF (va_runS (As := [.long v13, .long v16]) (rest := []) ⟨hx, hb, hml, hown, hW⟩ (c_X6_cut_ l D cI cZ v13 v16 _ rfl) (cwS0 hW mS_X6_cut_ ml_X6_237 ⟨Nat.le_of_ble_eq_true rfl, Nat.le_of_ble_eq_true rfl⟩) (preS0 hK hN hP hD [] rfl rfl) rfl rfl hl.1 rfl (lv_room (Nat.le_of_ble_eq_true rfl)) dX6_deaths_144 ⟨Nat.le_refl _, Nat.le_refl _⟩) ?_
              refine W.eq (g2 := F0 m 147 ls [.long (F_X6_cut_ v13 v16)]) rfl ?_
              exact W.lret (v := (F_X6_cut_ v13 v16)) hx hb hr (fun t ht _ => ⟨⟨_, rfl, ⟨_, rfl, hw⟩⟩, ht⟩) (fun _ h => by cases h) dX6_deaths_147
            · have hw := Eq.mp (if_pos c14) hw
              refine lv_lload hx hb dX6_deaths_130 (lv_at hl 1 rfl) ?_
              refine lv_goto (tgt := 137) hx hb dX6_deaths_132 (by decide) ?_
              refine lv_lload hx hb dX6_deaths_137 (lv_at hl 1 rfl) ?_
              refine lv_lload hx hb dX6_deaths_139 (lv_at hl 0 rfl) ?_
              refine callR (va_runS (As := [.long (v12 * ((F_J6_bitCount_0f7a4 (Y0.1 5)).toInt64)), .long v13]) (rest := [.long (v12 * ((F_J6_bitCount_0f7a4 (Y0.1 5)).toInt64))]) ⟨hx, hb, hml, hown, hW⟩ (c_X6_commonDivisor l D cI cZ (v12 * ((F_J6_bitCount_0f7a4 (Y0.1 5)).toInt64)) v13 _ hw) (cwS0 hW mS_X6_commonDivisor ml_X6_233 ⟨Nat.le_of_ble_eq_true rfl, Nat.le_of_ble_eq_true rfl⟩) (preS0 hK hN hP hD [] rfl rfl) rfl rfl hl.1 rfl (lv_room (Nat.le_of_ble_eq_true rfl)) dX6_deaths_141 ⟨Nat.le_refl _, Nat.le_refl _⟩) (fun v9 hq => ?_)
              obtain ⟨v15, rfl, hw⟩ := hq
              refine W.eq (g2 := F0 m 144 ls [.long v15, .long (v12 * ((F_J6_bitCount_0f7a4 (Y0.1 5)).toInt64))]) rfl ?_
              refine callF (va_runS (As := [.long (v12 * ((F_J6_bitCount_0f7a4 (Y0.1 5)).toInt64)), .long v15]) (rest := []) ⟨hx, hb, hml, hown, hW⟩ (c_X6_cut_ l D cI cZ (v12 * ((F_J6_bitCount_0f7a4 (Y0.1 5)).toInt64)) v15 _ rfl) (cwS0 hW mS_X6_cut_ ml_X6_237 ⟨Nat.le_of_ble_eq_true rfl, Nat.le_of_ble_eq_true rfl⟩) (preS0 hK hN hP hD [] rfl rfl) rfl rfl hl.1 rfl (lv_room (Nat.le_of_ble_eq_true rfl)) dX6_deaths_144 ⟨Nat.le_refl _, Nat.le_refl _⟩) ?_
              refine W.eq (g2 := F0 m 147 ls [.long (F_X6_cut_ (v12 * ((F_J6_bitCount_0f7a4 (Y0.1 5)).toInt64)) v15)]) rfl ?_
              exact W.lret (v := (F_X6_cut_ (v12 * ((F_J6_bitCount_0f7a4 (Y0.1 5)).toInt64)) v15)) hx hb hr (fun t ht _ => ⟨⟨_, rfl, ⟨_, rfl, hw⟩⟩, ht⟩) (fun _ h => by cases h) dX6_deaths_147
          · have hw := Eq.mp (if_pos c6) hw
            refine lv_iload_n hx hb dX6_deaths_71 rfl (lv_at hl 3 rfl) ?_
            refine lv_iload hx hb dX6_deaths_72 (lv_at hl 1 rfl) ?_
            refine lv_imul hx hb dX6_deaths_74 ?_
            refine lv_goto (tgt := 79) hx hb dX6_deaths_75 (by decide) ?_
            refine lv_istore (lv' := [(8, .int (x1 * (F_J6_bitCount_0f7a4 (Y0.1 5)))), (6, .long v5), (5, .int (F_J6_bitCount_0f7a4 (Y0.1 5))), (0, .ref (ad 0)), (1, .int x1), (2, .int x2), (3, .int x3), (4, .int x4)]) hx hb dX6_deaths_79 hl (by decide) rfl (fun ls hl => ?_)
            refine lv_bipush (v := 10) hx hb dX6_deaths_81 (by decide) ?_
            refine lv_iload_n hx hb dX6_deaths_83 rfl (lv_at hl 5 rfl) ?_
            refine lv_isub hx hb dX6_deaths_84 ?_
            refine lv_i2l (v := ((10 : Int32) - x2).toInt64) hx hb dX6_deaths_85 rfl ?_
            refine lv_lload hx hb dX6_deaths_86 (lv_at hl 1 rfl) ?_
            refine callF (va_runS (As := [.long (((10 : Int32) - x2).toInt64), .long v5]) (rest := []) ⟨hx, hb, hml, hown, hW⟩ (c_X6_cut_ l D cI cZ (((10 : Int32) - x2).toInt64) v5 _ rfl) (cwS0 hW mS_X6_cut_ ml_X6_237 ⟨Nat.le_of_ble_eq_true rfl, Nat.le_of_ble_eq_true rfl⟩) (preS0 hK hN hP hD [] rfl rfl) rfl rfl hl.1 rfl (lv_room (Nat.le_of_ble_eq_true rfl)) dX6_deaths_88 ⟨Nat.le_refl _, Nat.le_refl _⟩) ?_
            refine W.eq (g2 := F0 m 91 ls [.long (F_X6_cut_ (((10 : Int32) - x2).toInt64) v5)]) rfl ?_
            refine lv_iload hx hb dX6_deaths_91 (lv_at hl 0 rfl) ?_
            refine callR (va_runS (As := [.long (F_X6_cut_ (((10 : Int32) - x2).toInt64) v5), .int (x1 * (F_J6_bitCount_0f7a4 (Y0.1 5)))]) (rest := []) ⟨hx, hb, hml, hown, hW⟩ (c_X6_power l D cI cZ (F_X6_cut_ (((10 : Int32) - x2).toInt64) v5) (x1 * (F_J6_bitCount_0f7a4 (Y0.1 5))) _ hw) (cwS0 hW mS_X6_power ml_X6_240 ⟨Nat.le_of_ble_eq_true rfl, Nat.le_of_ble_eq_true rfl⟩) (preS0 hK hN hP hD [] rfl rfl) rfl rfl hl.1 rfl (lv_room (Nat.le_of_ble_eq_true rfl)) dX6_deaths_93 ⟨Nat.le_refl _, Nat.le_refl _⟩) (fun v9 hq => ?_)
            obtain ⟨v7, rfl, hw⟩ := hq
            refine W.eq (g2 := F0 m 96 ls [.long v7]) rfl ?_
            refine lv_iload_n hx hb dX6_deaths_96 rfl (lv_at hl 6 rfl) ?_
            refine lv_if_ne (tgt := 104) hx hb dX6_deaths_97 (by decide) (fun c9 => absurd c6 c9) (fun _ => ?_)
            refine lv_iconst (v := 1) hx hb dX6_deaths_100 (by decide) ?_
            refine lv_goto (tgt := 106) hx hb dX6_deaths_101 (by decide) ?_
            refine lv_i2l (v := (1 : Int32).toInt64) hx hb dX6_deaths_106 rfl ?_
            refine lv_lmul hx hb dX6_deaths_107 ?_
            refine lv_lstore (lv' := [(9, .long (v7 * ((1 : Int32).toInt64))), (8, .int (x1 * (F_J6_bitCount_0f7a4 (Y0.1 5)))), (6, .long v5), (5, .int (F_J6_bitCount_0f7a4 (Y0.1 5))), (0, .ref (ad 0)), (1, .int x1), (2, .int x2), (3, .int x3), (4, .int x4)]) hx hb dX6_deaths_108 hl (by decide) rfl (fun ls hl => ?_)
            refine lv_ldc2 (v := 10) hx hb hown (hW _ kc_X6_231) dX6_deaths_110 ?_
            refine lv_lload hx hb dX6_deaths_113 (lv_at hl 2 rfl) ?_
            refine callF (va_runS (As := [.long 10, .long v5]) (rest := []) ⟨hx, hb, hml, hown, hW⟩ (c_X6_cut_ l D cI cZ 10 v5 _ rfl) (cwS0 hW mS_X6_cut_ ml_X6_237 ⟨Nat.le_of_ble_eq_true rfl, Nat.le_of_ble_eq_true rfl⟩) (preS0 hK hN hP hD [] rfl rfl) rfl rfl hl.1 rfl (lv_room (Nat.le_of_ble_eq_true rfl)) dX6_deaths_115 ⟨Nat.le_refl _, Nat.le_refl _⟩) ?_
            refine W.eq (g2 := F0 m 118 ls [.long (F_X6_cut_ 10 v5)]) rfl ?_
            refine lv_iload hx hb dX6_deaths_118 (lv_at hl 1 rfl) ?_
            refine callR (va_runS (As := [.long (F_X6_cut_ 10 v5), .int (x1 * (F_J6_bitCount_0f7a4 (Y0.1 5)))]) (rest := []) ⟨hx, hb, hml, hown, hW⟩ (c_X6_power l D cI cZ (F_X6_cut_ 10 v5) (x1 * (F_J6_bitCount_0f7a4 (Y0.1 5))) _ hw) (cwS0 hW mS_X6_power ml_X6_240 ⟨Nat.le_of_ble_eq_true rfl, Nat.le_of_ble_eq_true rfl⟩) (preS0 hK hN hP hD [] rfl rfl) rfl rfl hl.1 rfl (lv_room (Nat.le_of_ble_eq_true rfl)) dX6_deaths_120 ⟨Nat.le_refl _, Nat.le_refl _⟩) (fun v9 hq => ?_)
            obtain ⟨v8, rfl, hw⟩ := hq
            refine W.eq (g2 := F0 m 123 ls [.long v8]) rfl ?_
            refine lv_lstore (lv' := [(11, .long v8), (9, .long (v7 * ((1 : Int32).toInt64))), (8, .int (x1 * (F_J6_bitCount_0f7a4 (Y0.1 5)))), (6, .long v5), (5, .int (F_J6_bitCount_0f7a4 (Y0.1 5))), (0, .ref (ad 0)), (1, .int x1), (2, .int x2), (3, .int x3), (4, .int x4)]) hx hb dX6_deaths_123 hl (by decide) rfl (fun ls hl => ?_)
            refine lv_iload hx hb dX6_deaths_125 (lv_at hl 9 rfl) ?_
            refine lv_if_ne (tgt := 135) hx hb dX6_deaths_127 (by decide) (fun c9 => ?_) (fun c9 => ?_)
            · have hw := Eq.mp (if_neg c9) hw
              refine lv_lload hx hb dX6_deaths_135 (lv_at hl 0 rfl) ?_
              refine lv_lload hx hb dX6_deaths_137 (lv_at hl 1 rfl) ?_
              refine lv_lload hx hb dX6_deaths_139 (lv_at hl 0 rfl) ?_
              refine callR (va_runS (As := [.long (v7 * ((1 : Int32).toInt64)), .long v8]) (rest := [.long v8]) ⟨hx, hb, hml, hown, hW⟩ (c_X6_commonDivisor l D cI cZ (v7 * ((1 : Int32).toInt64)) v8 _ hw) (cwS0 hW mS_X6_commonDivisor ml_X6_233 ⟨Nat.le_of_ble_eq_true rfl, Nat.le_of_ble_eq_true rfl⟩) (preS0 hK hN hP hD [] rfl rfl) rfl rfl hl.1 rfl (lv_room (Nat.le_of_ble_eq_true rfl)) dX6_deaths_141 ⟨Nat.le_refl _, Nat.le_refl _⟩) (fun v9 hq => ?_)
              obtain ⟨v11, rfl, hw⟩ := hq
              refine W.eq (g2 := F0 m 144 ls [.long v11, .long v8]) rfl ?_
              refine callF (va_runS (As := [.long v8, .long v11]) (rest := []) ⟨hx, hb, hml, hown, hW⟩ (c_X6_cut_ l D cI cZ v8 v11 _ rfl) (cwS0 hW mS_X6_cut_ ml_X6_237 ⟨Nat.le_of_ble_eq_true rfl, Nat.le_of_ble_eq_true rfl⟩) (preS0 hK hN hP hD [] rfl rfl) rfl rfl hl.1 rfl (lv_room (Nat.le_of_ble_eq_true rfl)) dX6_deaths_144 ⟨Nat.le_refl _, Nat.le_refl _⟩) ?_
              refine W.eq (g2 := F0 m 147 ls [.long (F_X6_cut_ v8 v11)]) rfl ?_
              exact W.lret (v := (F_X6_cut_ v8 v11)) hx hb hr (fun t ht _ => ⟨⟨_, rfl, ⟨_, rfl, hw⟩⟩, ht⟩) (fun _ h => by cases h) dX6_deaths_147
            · have hw := Eq.mp (if_pos c9) hw
              refine lv_lload hx hb dX6_deaths_130 (lv_at hl 1 rfl) ?_
              refine lv_goto (tgt := 137) hx hb dX6_deaths_132 (by decide) ?_
              refine lv_lload hx hb dX6_deaths_137 (lv_at hl 1 rfl) ?_
              refine lv_lload hx hb dX6_deaths_139 (lv_at hl 0 rfl) ?_
              refine callR (va_runS (As := [.long (v7 * ((1 : Int32).toInt64)), .long v8]) (rest := [.long (v7 * ((1 : Int32).toInt64))]) ⟨hx, hb, hml, hown, hW⟩ (c_X6_commonDivisor l D cI cZ (v7 * ((1 : Int32).toInt64)) v8 _ hw) (cwS0 hW mS_X6_commonDivisor ml_X6_233 ⟨Nat.le_of_ble_eq_true rfl, Nat.le_of_ble_eq_true rfl⟩) (preS0 hK hN hP hD [] rfl rfl) rfl rfl hl.1 rfl (lv_room (Nat.le_of_ble_eq_true rfl)) dX6_deaths_141 ⟨Nat.le_refl _, Nat.le_refl _⟩) (fun v9 hq => ?_)
              obtain ⟨v10, rfl, hw⟩ := hq
              refine W.eq (g2 := F0 m 144 ls [.long v10, .long (v7 * ((1 : Int32).toInt64))]) rfl ?_
              refine callF (va_runS (As := [.long (v7 * ((1 : Int32).toInt64)), .long v10]) (rest := []) ⟨hx, hb, hml, hown, hW⟩ (c_X6_cut_ l D cI cZ (v7 * ((1 : Int32).toInt64)) v10 _ rfl) (cwS0 hW mS_X6_cut_ ml_X6_237 ⟨Nat.le_of_ble_eq_true rfl, Nat.le_of_ble_eq_true rfl⟩) (preS0 hK hN hP hD [] rfl rfl) rfl rfl hl.1 rfl (lv_room (Nat.le_of_ble_eq_true rfl)) dX6_deaths_144 ⟨Nat.le_refl _, Nat.le_refl _⟩) ?_
              refine W.eq (g2 := F0 m 147 ls [.long (F_X6_cut_ (v7 * ((1 : Int32).toInt64)) v10)]) rfl ?_
              exact W.lret (v := (F_X6_cut_ (v7 * ((1 : Int32).toInt64)) v10)) hx hb hr (fun t ht _ => ⟨⟨_, rfl, ⟨_, rfl, hw⟩⟩, ht⟩) (fun _ h => by cases h) dX6_deaths_147
        · have hw := Eq.mp (if_pos c4) hw
          refine lv_ldc2 (v := (-1000000000000000002)) hx hb hown (hW _ kc_X6_221) dX6_deaths_38 ?_
          exact W.lret (v := (-1000000000000000002)) hx hb hr (fun t ht _ => ⟨⟨_, rfl, ⟨_, rfl, hw⟩⟩, ht⟩) (fun _ h => by cases h) dX6_deaths_41
set_option maxHeartbeats 4000000 in
set_option maxRecDepth 100000 in
theorem c_X6_drawAct (l : Launch) (D : va_G) (cI cZ : ClassId) (ad : Nat → Nat) (Y1 : St) (x1 : Int32) (k : St → Prop) (hw : wp_X6_drawAct Y1 x1 k) : KW l yX6_drawAct cX6_drawAct 4 none 3 67 D cI cZ [.ref (ad 0), .int x1] [xcell ad, rcells cI ad 18 Y1] (fun v (u : St) => v = none ∧ k u) (fun u : St => [xcell ad, rcells cI ad 18 u]) := by
  refine Met.ofE (by decide +kernel) (Nat.le_of_ble_eq_true rfl) ?_
  intro p e s m below meth c E ls hl
  obtain ⟨hx, hb, hr, hml, hW, hown, hlocks, hP, hK, hD, hN⟩ := E
  have hl : lv_has ls 4 [(0, .ref (ad 0)), (1, .int x1)] := hl
  have hS : va_S (cOf (jn [xcell ad, rcells cI ad 18 Y1])) s.heap s.heap [] := va_S.rf
  have hw : (if (x1 - x1 / 8 * 8) = 0 then (wp_X2_bind Y1 (F_X6_leftOver (x1 / 8) (Y1.1 0)) 1 (fun (v2 : Int32) (Z3 : St) => (k Z3))) else (if (x1 - x1 / 8 * 8) = 1 then (wp_X2_changeHats Y1 (F_X6_leftOver (x1 / 8) (Y1.1 0)) (F_X6_leftOver (x1 / 64) (Y1.1 0)) (fun (v5 : Int32) (Z6 : St) => (k Z6))) else (if (x1 - x1 / 8 * 8) = 2 then (wp_X2_passDays Y1 10 (fun (Z8 : St) => (k Z8))) else (if (x1 - x1 / 8 * 8) = 3 then (wp_X2_passDays Y1 10 (fun (Z10 : St) => (k Z10))) else (wp_X2_passSeason Y1 (fun (Z11 : St) => (k Z11))))))) := hw
  refine lv_iload_n hx hb dX6_drawAct_0 rfl (lv_at hl 1 rfl) ?_
  refine lv_bipush (v := 8) hx hb dX6_drawAct_1 (by decide) ?_
  refine lv_idiv hx hb dX6_drawAct_3 (by decide) ?_
  refine lv_aload_n hx hb dX6_drawAct_4 rfl (lv_at hl 0 rfl) ?_
  refine va_get (D := D) (ci := 6) (v := .ref (ad 18)) (C := RX6) (T := TX6) (N := 9) hx hb hW inW_X6 hown hK hP 0 rfl rfl 1 (by decide) (hW _ fl_X6_16) (fun _ h9 => h9) rfl dX6_drawAct_5 ?_
  refine va_get (D := D) (ci := 2) (v := .int (Y1.1 0)) (C := RX2) (T := TX2) (N := 15) hx hb hW inW_X2 hown hK hP 1 rfl rfl 0 (by decide) (hW _ fl_X6_73) (fun _ h9 => h9) rfl dX6_drawAct_8 ?_
  refine callF (va_runS (As := [.int (x1 / 8), .int (Y1.1 0)]) (rest := []) ⟨hx, hb, hml, hown, hW⟩ (c_X6_leftOver l D cI cZ (x1 / 8) (Y1.1 0) _ rfl) (cwS0 hW mS_X6_leftOver ml_X6_178 ⟨Nat.le_of_ble_eq_true rfl, Nat.le_of_ble_eq_true rfl⟩) (preS0 hK hN hP hD [] rfl rfl) rfl rfl hl.1 rfl (lv_room (Nat.le_of_ble_eq_true rfl)) dX6_drawAct_11 ⟨Nat.le_refl _, Nat.le_refl _⟩) ?_
  refine W.eq (g2 := F0 m 14 ls [.int (F_X6_leftOver (x1 / 8) (Y1.1 0))]) rfl ?_
  refine lv_istore_n (lv' := [(2, .int (F_X6_leftOver (x1 / 8) (Y1.1 0))), (0, .ref (ad 0)), (1, .int x1)]) hx hb dX6_drawAct_14 rfl hl (by decide) rfl (fun ls hl => ?_)
  refine lv_iload_n hx hb dX6_drawAct_15 rfl (lv_at hl 2 rfl) ?_
  refine lv_bipush (v := 64) hx hb dX6_drawAct_16 (by decide) ?_
  refine lv_idiv hx hb dX6_drawAct_18 (by decide) ?_
  refine lv_aload_n hx hb dX6_drawAct_19 rfl (lv_at hl 1 rfl) ?_
  refine va_get (D := D) (ci := 6) (v := .ref (ad 18)) (C := RX6) (T := TX6) (N := 9) hx hb hW inW_X6 hown hK hP 0 rfl rfl 1 (by decide) (hW _ fl_X6_16) (fun _ h9 => h9) rfl dX6_drawAct_20 ?_
  refine va_get (D := D) (ci := 2) (v := .int (Y1.1 0)) (C := RX2) (T := TX2) (N := 15) hx hb hW inW_X2 hown hK hP 1 rfl rfl 0 (by decide) (hW _ fl_X6_73) (fun _ h9 => h9) rfl dX6_drawAct_23 ?_
  refine callF (va_runS (As := [.int (x1 / 64), .int (Y1.1 0)]) (rest := []) ⟨hx, hb, hml, hown, hW⟩ (c_X6_leftOver l D cI cZ (x1 / 64) (Y1.1 0) _ rfl) (cwS0 hW mS_X6_leftOver ml_X6_178 ⟨Nat.le_of_ble_eq_true rfl, Nat.le_of_ble_eq_true rfl⟩) (preS0 hK hN hP hD [] rfl rfl) rfl rfl hl.1 rfl (lv_room (Nat.le_of_ble_eq_true rfl)) dX6_drawAct_26 ⟨Nat.le_refl _, Nat.le_refl _⟩) ?_
  refine W.eq (g2 := F0 m 29 ls [.int (F_X6_leftOver (x1 / 64) (Y1.1 0))]) rfl ?_
  refine lv_istore_n (lv' := [(3, .int (F_X6_leftOver (x1 / 64) (Y1.1 0))), (2, .int (F_X6_leftOver (x1 / 8) (Y1.1 0))), (0, .ref (ad 0)), (1, .int x1)]) hx hb dX6_drawAct_29 rfl hl (by decide) rfl (fun ls hl => ?_)
  refine lv_iload_n hx hb dX6_drawAct_30 rfl (lv_at hl 3 rfl) ?_
  refine lv_bipush (v := 8) hx hb dX6_drawAct_31 (by decide) ?_
  refine lv_irem hx hb dX6_drawAct_33 (by decide) ?_
  by_cases c1 : (x1 - x1 / 8 * 8) = 0
  · have hw := Eq.mp (if_pos c1) hw
    refine lv_tableIn (off := 30) (tgt := 64) hx hb dX6_drawAct_34 (by rw [c1]; decide) (by rw [c1]; decide) (by rw [c1]; rfl) (by decide) ?_
    refine lv_aload_n hx hb dX6_drawAct_64 rfl (lv_at hl 2 rfl) ?_
    refine va_get (D := D) (ci := 6) (v := .ref (ad 18)) (C := RX6) (T := TX6) (N := 9) hx hb hW inW_X6 hown hK hP 0 rfl rfl 1 (by decide) (hW _ fl_X6_16) (fun _ h9 => h9) rfl dX6_drawAct_65 ?_
    refine lv_iload_n hx hb dX6_drawAct_68 rfl (lv_at hl 1 rfl) ?_
    refine lv_iconst (v := 1) hx hb dX6_drawAct_69 (by decide) ?_
    refine callW (va_runV (As := [.int (F_X6_leftOver (x1 / 8) (Y1.1 0)), .int 1]) (rest := []) ⟨hx, hb, hml, hown, hW⟩ (c_X2_bind l D cI cZ ad 18 Y1 (F_X6_leftOver (x1 / 8) (Y1.1 0)) 1 _ hw) (cwV0 hW mV_X2_bind ml_X6_267 ⟨Nat.le_of_ble_eq_true rfl, Nat.le_of_ble_eq_true rfl⟩) (preV0 0 rfl rfl hK hN hP hD [1] rfl rfl) rfl rfl hl.1 rfl (lv_room (Nat.le_of_ble_eq_true rfl)) dX6_drawAct_70 ⟨Nat.le_refl _, Nat.le_refl _⟩) hP hD hS [1] rfl rfl (fun _ => rfl) (fun v9 u9 H locs hq hP hD hS => ?_)
    obtain ⟨v2, rfl, hw⟩ := hq
    obtain ⟨Z3, rfl⟩ : ∃ z, z = u9 := ⟨_, rfl⟩
    have hP : va_P D classes (jn [xcell ad, rcells cI ad 18 Z3]) H := hP
    have hD : va_D (cOf (jn [xcell ad, rcells cI ad 18 Y1])) (jn [xcell ad, rcells cI ad 18 Z3]) := hD
    refine W.eq (g2 := F0 m 73 ls [.int v2]) rfl ?_
    refine lv_pop hx hb dX6_drawAct_73 rfl ?_
    refine lv_goto (tgt := 109) hx hb dX6_drawAct_74 (by decide) ?_
    exact W.vret hx hb hr (fun t ht _ => ⟨⟨_, (Z3), rfl, ⟨rfl, hw⟩, by rw [ht]; exact hP⟩, hS.F ht⟩) hS.2.2 dX6_drawAct_109
  · have hw := Eq.mp (if_neg c1) hw
    by_cases c4 : (x1 - x1 / 8 * 8) = 1
    · have hw := Eq.mp (if_pos c4) hw
      refine lv_tableIn (off := 43) (tgt := 77) hx hb dX6_drawAct_34 (by rw [c4]; decide) (by rw [c4]; decide) (by rw [c4]; rfl) (by decide) ?_
      refine lv_aload_n hx hb dX6_drawAct_77 rfl (lv_at hl 2 rfl) ?_
      refine va_get (D := D) (ci := 6) (v := .ref (ad 18)) (C := RX6) (T := TX6) (N := 9) hx hb hW inW_X6 hown hK hP 0 rfl rfl 1 (by decide) (hW _ fl_X6_16) (fun _ h9 => h9) rfl dX6_drawAct_78 ?_
      refine lv_iload_n hx hb dX6_drawAct_81 rfl (lv_at hl 1 rfl) ?_
      refine lv_iload_n hx hb dX6_drawAct_82 rfl (lv_at hl 0 rfl) ?_
      refine callW (va_runV (As := [.int (F_X6_leftOver (x1 / 8) (Y1.1 0)), .int (F_X6_leftOver (x1 / 64) (Y1.1 0))]) (rest := []) ⟨hx, hb, hml, hown, hW⟩ (c_X2_changeHats l D cI cZ ad 18 Y1 (F_X6_leftOver (x1 / 8) (Y1.1 0)) (F_X6_leftOver (x1 / 64) (Y1.1 0)) _ hw) (cwV0 hW mV_X2_changeHats ml_X6_270 ⟨Nat.le_of_ble_eq_true rfl, Nat.le_of_ble_eq_true rfl⟩) (preV0 0 rfl rfl hK hN hP hD [1] rfl rfl) rfl rfl hl.1 rfl (lv_room (Nat.le_of_ble_eq_true rfl)) dX6_drawAct_83 ⟨Nat.le_refl _, Nat.le_refl _⟩) hP hD hS [1] rfl rfl (fun _ => rfl) (fun v9 u9 H locs hq hP hD hS => ?_)
      obtain ⟨v5, rfl, hw⟩ := hq
      obtain ⟨Z6, rfl⟩ : ∃ z, z = u9 := ⟨_, rfl⟩
      have hP : va_P D classes (jn [xcell ad, rcells cI ad 18 Z6]) H := hP
      have hD : va_D (cOf (jn [xcell ad, rcells cI ad 18 Y1])) (jn [xcell ad, rcells cI ad 18 Z6]) := hD
      refine W.eq (g2 := F0 m 86 ls [.int v5]) rfl ?_
      refine lv_pop hx hb dX6_drawAct_86 rfl ?_
      refine lv_goto (tgt := 109) hx hb dX6_drawAct_87 (by decide) ?_
      exact W.vret hx hb hr (fun t ht _ => ⟨⟨_, (Z6), rfl, ⟨rfl, hw⟩, by rw [ht]; exact hP⟩, hS.F ht⟩) hS.2.2 dX6_drawAct_109
    · have hw := Eq.mp (if_neg c4) hw
      by_cases c7 : (x1 - x1 / 8 * 8) = 2
      · have hw := Eq.mp (if_pos c7) hw
        refine lv_tableIn (off := 56) (tgt := 90) hx hb dX6_drawAct_34 (by rw [c7]; decide) (by rw [c7]; decide) (by rw [c7]; rfl) (by decide) ?_
        refine lv_aload_n hx hb dX6_drawAct_90 rfl (lv_at hl 2 rfl) ?_
        refine va_get (D := D) (ci := 6) (v := .ref (ad 18)) (C := RX6) (T := TX6) (N := 9) hx hb hW inW_X6 hown hK hP 0 rfl rfl 1 (by decide) (hW _ fl_X6_16) (fun _ h9 => h9) rfl dX6_drawAct_91 ?_
        refine lv_bipush (v := 10) hx hb dX6_drawAct_94 (by decide) ?_
        refine callW (va_runV (As := [.int 10]) (rest := []) ⟨hx, hb, hml, hown, hW⟩ (c_X2_passDays l D cI cZ ad 18 Y1 10 _ hw) (cwV0 hW mV_X2_passDays ml_X6_273 ⟨Nat.le_of_ble_eq_true rfl, Nat.le_of_ble_eq_true rfl⟩) (preV0 0 rfl rfl hK hN hP hD [1] rfl rfl) rfl rfl hl.1 rfl (lv_room (Nat.le_of_ble_eq_true rfl)) dX6_drawAct_96 ⟨Nat.le_refl _, Nat.le_refl _⟩) hP hD hS [1] rfl rfl (fun _ => rfl) (fun v9 u9 H locs hq hP hD hS => ?_)
        obtain ⟨rfl, hw⟩ := hq
        obtain ⟨Z8, rfl⟩ : ∃ z, z = u9 := ⟨_, rfl⟩
        have hP : va_P D classes (jn [xcell ad, rcells cI ad 18 Z8]) H := hP
        have hD : va_D (cOf (jn [xcell ad, rcells cI ad 18 Y1])) (jn [xcell ad, rcells cI ad 18 Z8]) := hD
        refine W.eq (g2 := F0 m 99 ls []) rfl ?_
        refine lv_goto (tgt := 109) hx hb dX6_drawAct_99 (by decide) ?_
        exact W.vret hx hb hr (fun t ht _ => ⟨⟨_, (Z8), rfl, ⟨rfl, hw⟩, by rw [ht]; exact hP⟩, hS.F ht⟩) hS.2.2 dX6_drawAct_109
      · have hw := Eq.mp (if_neg c7) hw
        by_cases c9 : (x1 - x1 / 8 * 8) = 3
        · have hw := Eq.mp (if_pos c9) hw
          refine lv_tableIn (off := 56) (tgt := 90) hx hb dX6_drawAct_34 (by rw [c9]; decide) (by rw [c9]; decide) (by rw [c9]; rfl) (by decide) ?_
          refine lv_aload_n hx hb dX6_drawAct_90 rfl (lv_at hl 2 rfl) ?_
          refine va_get (D := D) (ci := 6) (v := .ref (ad 18)) (C := RX6) (T := TX6) (N := 9) hx hb hW inW_X6 hown hK hP 0 rfl rfl 1 (by decide) (hW _ fl_X6_16) (fun _ h9 => h9) rfl dX6_drawAct_91 ?_
          refine lv_bipush (v := 10) hx hb dX6_drawAct_94 (by decide) ?_
          refine callW (va_runV (As := [.int 10]) (rest := []) ⟨hx, hb, hml, hown, hW⟩ (c_X2_passDays l D cI cZ ad 18 Y1 10 _ hw) (cwV0 hW mV_X2_passDays ml_X6_273 ⟨Nat.le_of_ble_eq_true rfl, Nat.le_of_ble_eq_true rfl⟩) (preV0 0 rfl rfl hK hN hP hD [1] rfl rfl) rfl rfl hl.1 rfl (lv_room (Nat.le_of_ble_eq_true rfl)) dX6_drawAct_96 ⟨Nat.le_refl _, Nat.le_refl _⟩) hP hD hS [1] rfl rfl (fun _ => rfl) (fun v9 u9 H locs hq hP hD hS => ?_)
          obtain ⟨rfl, hw⟩ := hq
          obtain ⟨Z10, rfl⟩ : ∃ z, z = u9 := ⟨_, rfl⟩
          have hP : va_P D classes (jn [xcell ad, rcells cI ad 18 Z10]) H := hP
          have hD : va_D (cOf (jn [xcell ad, rcells cI ad 18 Y1])) (jn [xcell ad, rcells cI ad 18 Z10]) := hD
          refine W.eq (g2 := F0 m 99 ls []) rfl ?_
          refine lv_goto (tgt := 109) hx hb dX6_drawAct_99 (by decide) ?_
          exact W.vret hx hb hr (fun t ht _ => ⟨⟨_, (Z10), rfl, ⟨rfl, hw⟩, by rw [ht]; exact hP⟩, hS.F ht⟩) hS.2.2 dX6_drawAct_109
        · have hw := Eq.mp (if_neg c9) hw
          have ec1 : ((x1 - x1 / 8 * 8)).toInt ≠ 0 := ne_toInt c1
          have ec4 : ((x1 - x1 / 8 * 8)).toInt ≠ 1 := ne_toInt c4
          have ec7 : ((x1 - x1 / 8 * 8)).toInt ≠ 2 := ne_toInt c7
          have ec9 : ((x1 - x1 / 8 * 8)).toInt ≠ 3 := ne_toInt c9
          refine lv_tableOut (tgt := 102) hx hb dX6_drawAct_34 (by omega) (by decide) ?_
          refine lv_aload_n hx hb dX6_drawAct_102 rfl (lv_at hl 2 rfl) ?_
          refine va_get (D := D) (ci := 6) (v := .ref (ad 18)) (C := RX6) (T := TX6) (N := 9) hx hb hW inW_X6 hown hK hP 0 rfl rfl 1 (by decide) (hW _ fl_X6_16) (fun _ h9 => h9) rfl dX6_drawAct_103 ?_
          refine callW (va_runV (As := []) (rest := []) ⟨hx, hb, hml, hown, hW⟩ (c_X2_passSeason l D cI cZ ad 18 Y1 _ hw) (cwV0 hW mV_X2_passSeason ml_X6_276 ⟨Nat.le_of_ble_eq_true rfl, Nat.le_of_ble_eq_true rfl⟩) (preV0 0 rfl rfl hK hN hP hD [1] rfl rfl) rfl rfl hl.1 rfl (lv_room (Nat.le_of_ble_eq_true rfl)) dX6_drawAct_106 ⟨Nat.le_refl _, Nat.le_refl _⟩) hP hD hS [1] rfl rfl (fun _ => rfl) (fun v9 u9 H locs hq hP hD hS => ?_)
          obtain ⟨rfl, hw⟩ := hq
          obtain ⟨Z11, rfl⟩ : ∃ z, z = u9 := ⟨_, rfl⟩
          have hP : va_P D classes (jn [xcell ad, rcells cI ad 18 Z11]) H := hP
          have hD : va_D (cOf (jn [xcell ad, rcells cI ad 18 Y1])) (jn [xcell ad, rcells cI ad 18 Z11]) := hD
          refine W.eq (g2 := F0 m 109 ls []) rfl ?_
          exact W.vret hx hb hr (fun t ht _ => ⟨⟨_, (Z11), rfl, ⟨rfl, hw⟩, by rw [ht]; exact hP⟩, hS.F ht⟩) hS.2.2 dX6_drawAct_109
set_option maxHeartbeats 4000000 in
set_option maxRecDepth 100000 in
theorem c_X6_drawYear (l : Launch) (D : va_G) (cI cZ : ClassId) (ad : Nat → Nat) (Y0 : St) (Y1 : St) (x1 : Int32) (x2 : Int32) (k : St → Prop) (hw : wp_X6_drawYear Y0 Y1 x1 x2 k) : KW l yX6_drawYear cX6_drawYear 5 none 4 90 D cI cZ [.ref (ad 0), .int x1, .int x2] [xcell ad, rcells cI ad 1 Y0, rcells cI ad 18 Y1] (fun v (u : St) => v = none ∧ k u) (fun u : St => [xcell ad, rcells cI ad 1 Y0, rcells cI ad 18 u]) := by
  refine Met.ofE (by decide +kernel) (Nat.le_of_ble_eq_true rfl) ?_
  intro p e s m below meth c E ls hl
  obtain ⟨hx, hb, hr, hml, hW, hown, hlocks, hP, hK, hD, hN⟩ := E
  have hl : lv_has ls 5 [(0, .ref (ad 0)), (1, .int x1), (2, .int x2)] := hl
  have hS : va_S (cOf (jn [xcell ad, rcells cI ad 1 Y0, rcells cI ad 18 Y1])) s.heap s.heap [] := va_S.rf
  have L16 : ∀  (kx : St → Prop), (∀ (Y1q : St) (H : Heap) (locs : List Loc), va_P D classes (jn [xcell ad, rcells cI ad 1 Y0, rcells cI ad 18 Y1q]) H → va_D (cOf (jn [xcell ad, rcells cI ad 1 Y0, rcells cI ad 18 Y1])) (jn [xcell ad, rcells cI ad 1 Y0, rcells cI ad 18 Y1q]) → va_S (cOf (jn [xcell ad, rcells cI ad 1 Y0, rcells cI ad 18 Y1])) s.heap H locs → ∀ ls : Array Slot, lv_has ls 5 [] → kx Y1q → W p l e { frames := 4, cells := 0, slots := 0, locals := 90 } s m ([.ref (ad 0), .int x1, .int x2] : List Value).toArray below meth c H locs 0 0 (MQ below (QW (fun v (u : St) => v = none ∧ k u) D (fun u : St => [xcell ad, rcells cI ad 1 Y0, rcells cI ad 18 u]) [xcell ad, rcells cI ad 1 Y0, rcells cI ad 18 Y1]) ([.ref (ad 0), .int x1, .int x2] : List Value).toArray s 0 0 (cOf (jn [xcell ad, rcells cI ad 1 Y0, rcells cI ad 18 Y1]))) (F0 m 45 ls [])) → ∀ (N16 : Nat) (y3 : Int32) (y4 : Int32) (Y1q : St) (H : Heap) (locs : List Loc), va_P D classes (jn [xcell ad, rcells cI ad 1 Y0, rcells cI ad 18 Y1q]) H → va_D (cOf (jn [xcell ad, rcells cI ad 1 Y0, rcells cI ad 18 Y1])) (jn [xcell ad, rcells cI ad 1 Y0, rcells cI ad 18 Y1q]) → va_S (cOf (jn [xcell ad, rcells cI ad 1 Y0, rcells cI ad 18 Y1])) s.heap H locs → ∀ ls : Array Slot, lv_has ls 5 [(0, .ref (ad 0)), (2, .int x2), (3, .int y3), (4, .int y4)] → wl_X6_drawYear_16 x2 kx N16 y3 y4 Y1q → W p l e { frames := 4, cells := 0, slots := 0, locals := 90 } s m ([.ref (ad 0), .int x1, .int x2] : List Value).toArray below meth c H locs 0 0 (MQ below (QW (fun v (u : St) => v = none ∧ k u) D (fun u : St => [xcell ad, rcells cI ad 1 Y0, rcells cI ad 18 u]) [xcell ad, rcells cI ad 1 Y0, rcells cI ad 18 Y1]) ([.ref (ad 0), .int x1, .int x2] : List Value).toArray s 0 0 (cOf (jn [xcell ad, rcells cI ad 1 Y0, rcells cI ad 18 Y1]))) (F0 m 16 ls []) := by
    intro  kx hxt N16
    induction N16 with
    | zero => intro y3 y4 Y1q H locs hP hD hS ls hl hw; exact False.elim hw
    | succ N16 ih =>
      intro y3 y4 Y1q H locs hP hD hS ls hl hw
      have hw : (if x2 ≤ y4 then (kx Y1q) else (wp_X6_drawAct Y1q ((((75 : Int32) * y3) + 74) - (((75 : Int32) * y3) + 74) / 65537 * 65537) (fun (Z3 : St) => (wl_X6_drawYear_16 x2 kx N16 ((((75 : Int32) * y3) + 74) - (((75 : Int32) * y3) + 74) / 65537 * 65537) (y4 + 1) Z3)))) := hw
      refine lv_iload hx hb dX6_drawYear_16 (lv_at hl 3 rfl) ?_
      refine lv_iload_n hx hb dX6_drawYear_18 rfl (lv_at hl 1 rfl) ?_
      refine lv_icmp_ge (tgt := 45) hx hb dX6_drawYear_19 (by decide) (fun c2 => ?_) (fun c2 => ?_)
      · have hw := Eq.mp (if_pos c2) hw
        exact hxt Y1q _ _ hP hD hS _ (lv_sub hl [] rfl) hw
      · have hw := Eq.mp (if_neg c2) hw
        refine lv_bipush (v := 75) hx hb dX6_drawYear_22 (by decide) ?_
        refine lv_iload_n hx hb dX6_drawYear_24 rfl (lv_at hl 2 rfl) ?_
        refine lv_imul hx hb dX6_drawYear_25 ?_
        refine lv_bipush (v := 74) hx hb dX6_drawYear_26 (by decide) ?_
        refine lv_iadd hx hb dX6_drawYear_28 ?_
        refine lv_ldcw (v := 65537) hx hb hown (hW _ kc_X6_263) dX6_drawYear_29 ?_
        refine lv_irem hx hb dX6_drawYear_32 (by decide) ?_
        refine lv_istore_n (lv' := [(3, .int ((((75 : Int32) * y3) + 74) - (((75 : Int32) * y3) + 74) / 65537 * 65537)), (0, .ref (ad 0)), (2, .int x2), (4, .int y4)]) hx hb dX6_drawYear_33 rfl hl (by decide) rfl (fun ls hl => ?_)
        refine lv_aload_n hx hb dX6_drawYear_34 rfl (lv_at hl 1 rfl) ?_
        refine lv_iload_n hx hb dX6_drawYear_35 rfl (lv_at hl 0 rfl) ?_
        refine callW (va_runV (As := [.int ((((75 : Int32) * y3) + 74) - (((75 : Int32) * y3) + 74) / 65537 * 65537)]) (rest := []) ⟨hx, hb, hml, hown, hW⟩ (c_X6_drawAct l D cI cZ ad Y1q ((((75 : Int32) * y3) + 74) - (((75 : Int32) * y3) + 74) / 65537 * 65537) _ hw) (cwV0 hW mV_X6_drawAct ml_X6_264 ⟨Nat.le_of_ble_eq_true rfl, Nat.le_of_ble_eq_true rfl⟩) (preV0 0 rfl rfl hK hN hP hD [0, 2] rfl rfl) rfl rfl hl.1 rfl (lv_room (Nat.le_of_ble_eq_true rfl)) dX6_drawYear_36 ⟨Nat.le_refl _, Nat.le_refl _⟩) hP hD hS [0, 2] rfl rfl (fun _ => rfl) (fun v9 u9 H locs hq hP hD hS => ?_)
        obtain ⟨rfl, hw⟩ := hq
        obtain ⟨Z3, rfl⟩ : ∃ z, z = u9 := ⟨_, rfl⟩
        have hP : va_P D classes (jn [xcell ad, rcells cI ad 1 Y0, rcells cI ad 18 Z3]) H := hP
        have hD : va_D (cOf (jn [xcell ad, rcells cI ad 1 Y0, rcells cI ad 18 Y1])) (jn [xcell ad, rcells cI ad 1 Y0, rcells cI ad 18 Z3]) := hD
        refine W.eq (g2 := F0 m 39 ls []) rfl ?_
        refine lv_iinc (v := (y4 + 1)) (lv' := [(4, .int (y4 + 1)), (3, .int ((((75 : Int32) * y3) + 74) - (((75 : Int32) * y3) + 74) / 65537 * 65537)), (0, .ref (ad 0)), (2, .int x2)]) hx hb dX6_drawYear_39 hl (k := 3) rfl rfl (by decide) rfl (fun ls hl => ?_)
        refine lv_goto (tgt := 16) hx hb dX6_drawYear_42 (by decide) ?_
        exact ih ((((75 : Int32) * y3) + 74) - (((75 : Int32) * y3) + 74) / 65537 * 65537) (y4 + 1) Z3 _ _ hP hD hS _ (lv_sub hl [2, 3, 1, 0] rfl) hw
  have hw : (wp_X2_takeOver Y1 Y0 (fun (Z1 : St) => (∃ M5, wl_X6_drawYear_16 x2 (fun (Z4 : St) => (k Z4)) M5 x1 0 Z1))) := hw
  refine lv_aload_n hx hb dX6_drawYear_0 rfl (lv_at hl 0 rfl) ?_
  refine va_get (D := D) (ci := 6) (v := .ref (ad 18)) (C := RX6) (T := TX6) (N := 9) hx hb hW inW_X6 hown hK hP 0 rfl rfl 1 (by decide) (hW _ fl_X6_16) (fun _ h9 => h9) rfl dX6_drawYear_1 ?_
  refine lv_aload_n hx hb dX6_drawYear_4 rfl (lv_at hl 0 rfl) ?_
  refine va_get (D := D) (ci := 6) (v := .ref (ad 1)) (C := RX6) (T := TX6) (N := 9) hx hb hW inW_X6 hown hK hP 0 rfl rfl 0 (by decide) (hW _ fl_X6_10) (fun _ h9 => h9) rfl dX6_drawYear_5 ?_
  refine callW (va_runV (As := [.ref (ad 1)]) (rest := []) ⟨hx, hb, hml, hown, hW⟩ (c_X2_takeOver l D cI cZ ad 18 Y1 1 Y0 _ hw) (cwV0 hW mV_X2_takeOver ml_X6_124 ⟨Nat.le_of_ble_eq_true rfl, Nat.le_of_ble_eq_true rfl⟩) (preV0 0 rfl rfl hK hN hP hD [2, 1] rfl rfl) rfl rfl hl.1 rfl (lv_room (Nat.le_of_ble_eq_true rfl)) dX6_drawYear_8 ⟨Nat.le_refl _, Nat.le_refl _⟩) hP hD hS [2, 1] rfl rfl (fun _ => rfl) (fun v9 u9 H locs hq hP hD hS => ?_)
  obtain ⟨rfl, hw⟩ := hq
  obtain ⟨Z1, rfl⟩ : ∃ z, z = u9 := ⟨_, rfl⟩
  have hP : va_P D classes (jn [xcell ad, rcells cI ad 1 Y0, rcells cI ad 18 Z1]) H := hP
  have hD : va_D (cOf (jn [xcell ad, rcells cI ad 1 Y0, rcells cI ad 18 Y1])) (jn [xcell ad, rcells cI ad 1 Y0, rcells cI ad 18 Z1]) := hD
  refine W.eq (g2 := F0 m 11 ls []) rfl ?_
  refine lv_iload_n hx hb dX6_drawYear_11 rfl (lv_at hl 1 rfl) ?_
  refine lv_istore_n (lv' := [(3, .int x1), (0, .ref (ad 0)), (1, .int x1), (2, .int x2)]) hx hb dX6_drawYear_12 rfl hl (by decide) rfl (fun ls hl => ?_)
  refine lv_iconst (v := 0) hx hb dX6_drawYear_13 (by decide) ?_
  refine lv_istore (lv' := [(4, .int 0), (3, .int x1), (0, .ref (ad 0)), (1, .int x1), (2, .int x2)]) hx hb dX6_drawYear_14 hl (by decide) rfl (fun ls hl => ?_)
  obtain ⟨N6, hw⟩ := hw
  refine L16  _ (fun Z4 H locs hP hD hS ls hl hw => ?_) N6 x1 0 Z1 _ _ hP hD hS _ (lv_sub hl [2, 4, 1, 0] rfl) hw
  exact W.vret hx hb hr (fun t ht _ => ⟨⟨_, (Z4), rfl, ⟨rfl, hw⟩, by rw [ht]; exact hP⟩, hS.F ht⟩) hS.2.2 dX6_drawYear_45
set_option maxHeartbeats 4000000 in
set_option maxRecDepth 100000 in
theorem c_X6_year (l : Launch) (D : va_G) (cI cZ : ClassId) (ad : Nat → Nat) (Y0 : St) (Y1 : St) (x1 : Int32) (x2 : Int32) (x3 : Int32) (k : Int32 → St → Prop) (hw : wp_X6_year Y0 Y1 x1 x2 x3 k) : KW l yX6_year cX6_year 4 (some .int) 5 114 D cI cZ [.ref (ad 0), .int x1, .int x2, .int x3] [xcell ad, rcells cI ad 1 Y0, rcells cI ad 18 Y1] (fun v (u : St) => ∃ r, v = some (.int r) ∧ k r u) (fun u : St => [xcell ad, rcells cI ad 1 Y0, rcells cI ad 18 u]) := by
  refine Met.ofE (by decide +kernel) (Nat.le_of_ble_eq_true rfl) ?_
  intro p e s m below meth c E ls hl
  obtain ⟨hx, hb, hr, hml, hW, hown, hlocks, hP, hK, hD, hN⟩ := E
  have hl : lv_has ls 4 [(0, .ref (ad 0)), (1, .int x1), (2, .int x2), (3, .int x3)] := hl
  have hS : va_S (cOf (jn [xcell ad, rcells cI ad 1 Y0, rcells cI ad 18 Y1])) s.heap s.heap [] := va_S.rf
  have hw : (if (F_X6_within x1 0 9999) = 0 then (k (-2) Y1) else (if (F_X6_within x2 1 99) = 0 then (k (-2) Y1) else (if (F_X6_within x3 0 2) = 0 then (k (-2) Y1) else (wp_X6_drawYear Y0 Y1 x1 x2 (fun (Z4 : St) => (if x3 = 0 then (k ((Z4.1 2) - (Y0.1 2)) Z4) else (if x3 = 1 then (wp_X2_ownNames Z4 (fun (v7 : Int32) => (k v7 Z4))) else (wp_X2_emptyLands Z4 (fun (v8 : Int32) => (k v8 Z4)))))))))) := hw
  refine lv_iload_n hx hb dX6_year_0 rfl (lv_at hl 1 rfl) ?_
  refine lv_iconst (v := 0) hx hb dX6_year_1 (by decide) ?_
  refine lv_sipush (v := 9999) hx hb dX6_year_2 (by decide) ?_
  refine callF (va_runS (As := [.int x1, .int 0, .int 9999]) (rest := []) ⟨hx, hb, hml, hown, hW⟩ (c_X6_within l D cI cZ x1 0 9999 _ rfl) (cwS0 hW mS_X6_within ml_X6_69 ⟨Nat.le_of_ble_eq_true rfl, Nat.le_of_ble_eq_true rfl⟩) (preS0 hK hN hP hD [] rfl rfl) rfl rfl hl.1 rfl (lv_room (Nat.le_of_ble_eq_true rfl)) dX6_year_5 ⟨Nat.le_refl _, Nat.le_refl _⟩) ?_
  refine W.eq (g2 := F0 m 8 ls [.int (F_X6_within x1 0 9999)]) rfl ?_
  refine lv_if_eq (tgt := 30) hx hb dX6_year_8 (by decide) (fun c1 => ?_) (fun c1 => ?_)
  · have hw := Eq.mp (if_pos c1) hw
    refine lv_bipush (v := (-2)) hx hb dX6_year_30 (by decide) ?_
    exact W.iret (v := (-2)) hx hb hr (fun t ht _ => ⟨⟨_, (Y1), rfl, ⟨_, rfl, hw⟩, by rw [ht]; exact hP⟩, hS.F ht⟩) hS.2.2 dX6_year_32
  · have hw := Eq.mp (if_neg c1) hw
    refine lv_iload_n hx hb dX6_year_11 rfl (lv_at hl 2 rfl) ?_
    refine lv_iconst (v := 1) hx hb dX6_year_12 (by decide) ?_
    refine lv_bipush (v := 99) hx hb dX6_year_13 (by decide) ?_
    refine callF (va_runS (As := [.int x2, .int 1, .int 99]) (rest := []) ⟨hx, hb, hml, hown, hW⟩ (c_X6_within l D cI cZ x2 1 99 _ rfl) (cwS0 hW mS_X6_within ml_X6_69 ⟨Nat.le_of_ble_eq_true rfl, Nat.le_of_ble_eq_true rfl⟩) (preS0 hK hN hP hD [] rfl rfl) rfl rfl hl.1 rfl (lv_room (Nat.le_of_ble_eq_true rfl)) dX6_year_15 ⟨Nat.le_refl _, Nat.le_refl _⟩) ?_
    refine W.eq (g2 := F0 m 18 ls [.int (F_X6_within x2 1 99)]) rfl ?_
    refine lv_if_eq (tgt := 30) hx hb dX6_year_18 (by decide) (fun c2 => ?_) (fun c2 => ?_)
    · have hw := Eq.mp (if_pos c2) hw
      refine lv_bipush (v := (-2)) hx hb dX6_year_30 (by decide) ?_
      exact W.iret (v := (-2)) hx hb hr (fun t ht _ => ⟨⟨_, (Y1), rfl, ⟨_, rfl, hw⟩, by rw [ht]; exact hP⟩, hS.F ht⟩) hS.2.2 dX6_year_32
    · have hw := Eq.mp (if_neg c2) hw
      refine lv_iload_n hx hb dX6_year_21 rfl (lv_at hl 3 rfl) ?_
      refine lv_iconst (v := 0) hx hb dX6_year_22 (by decide) ?_
      refine lv_iconst (v := 2) hx hb dX6_year_23 (by decide) ?_
      refine callF (va_runS (As := [.int x3, .int 0, .int 2]) (rest := []) ⟨hx, hb, hml, hown, hW⟩ (c_X6_within l D cI cZ x3 0 2 _ rfl) (cwS0 hW mS_X6_within ml_X6_69 ⟨Nat.le_of_ble_eq_true rfl, Nat.le_of_ble_eq_true rfl⟩) (preS0 hK hN hP hD [] rfl rfl) rfl rfl hl.1 rfl (lv_room (Nat.le_of_ble_eq_true rfl)) dX6_year_24 ⟨Nat.le_refl _, Nat.le_refl _⟩) ?_
      refine W.eq (g2 := F0 m 27 ls [.int (F_X6_within x3 0 2)]) rfl ?_
      refine lv_if_ne (tgt := 33) hx hb dX6_year_27 (by decide) (fun c3 => ?_) (fun c3 => ?_)
      · have hw := Eq.mp (if_neg c3) hw
        refine lv_aload_n hx hb dX6_year_33 rfl (lv_at hl 0 rfl) ?_
        refine lv_iload_n hx hb dX6_year_34 rfl (lv_at hl 1 rfl) ?_
        refine lv_iload_n hx hb dX6_year_35 rfl (lv_at hl 2 rfl) ?_
        refine callW (va_runV (As := [.int x1, .int x2]) (rest := []) ⟨hx, hb, hml, hown, hW⟩ (c_X6_drawYear l D cI cZ ad Y0 Y1 x1 x2 _ hw) (cwV0 hW mV_X6_drawYear ml_X6_244 ⟨Nat.le_of_ble_eq_true rfl, Nat.le_of_ble_eq_true rfl⟩) (preV0 0 rfl rfl hK hN hP hD [0, 1, 2] rfl rfl) rfl rfl hl.1 rfl (lv_room (Nat.le_of_ble_eq_true rfl)) dX6_year_36 ⟨Nat.le_refl _, Nat.le_refl _⟩) hP hD hS [0, 1, 2] rfl rfl (fun _ => rfl) (fun v9 u9 H locs hq hP hD hS => ?_)
        obtain ⟨rfl, hw⟩ := hq
        obtain ⟨Z4, rfl⟩ : ∃ z, z = u9 := ⟨_, rfl⟩
        have hP : va_P D classes (jn [xcell ad, rcells cI ad 1 Y0, rcells cI ad 18 Z4]) H := hP
        have hD : va_D (cOf (jn [xcell ad, rcells cI ad 1 Y0, rcells cI ad 18 Y1])) (jn [xcell ad, rcells cI ad 1 Y0, rcells cI ad 18 Z4]) := hD
        refine W.eq (g2 := F0 m 39 ls []) rfl ?_
        refine lv_iload_n hx hb dX6_year_39 rfl (lv_at hl 3 rfl) ?_
        refine lv_if_ne (tgt := 59) hx hb dX6_year_40 (by decide) (fun c5 => ?_) (fun c5 => ?_)
        · have hw := Eq.mp (if_neg c5) hw
          refine lv_iload_n hx hb dX6_year_59 rfl (lv_at hl 3 rfl) ?_
          refine lv_iconst (v := 1) hx hb dX6_year_60 (by decide) ?_
          refine lv_icmp_ne (tgt := 74) hx hb dX6_year_61 (by decide) (fun c6 => ?_) (fun c6 => ?_)
          · have hw := Eq.mp (if_neg c6) hw
            refine lv_aload_n hx hb dX6_year_74 rfl (lv_at hl 0 rfl) ?_
            refine va_get (D := D) (ci := 6) (v := .ref (ad 18)) (C := RX6) (T := TX6) (N := 9) hx hb hW inW_X6 hown hK hP 0 rfl rfl 1 (by decide) (hW _ fl_X6_16) (fun _ h9 => h9) rfl dX6_year_75 ?_
            refine callR (va_runV (As := []) (rest := []) ⟨hx, hb, hml, hown, hW⟩ (c_X2_emptyLands l D cI cZ ad 18 Z4 _ hw) (cwV0 hW mV_X2_emptyLands ml_X6_250 ⟨Nat.le_of_ble_eq_true rfl, Nat.le_of_ble_eq_true rfl⟩) (preV0 0 rfl rfl hK hN hP hD [2] rfl rfl) rfl rfl hl.1 rfl (lv_room (Nat.le_of_ble_eq_true rfl)) dX6_year_78 ⟨Nat.le_refl _, Nat.le_refl _⟩) (fun v9 hq => ?_)
            obtain ⟨v8, rfl, hw⟩ := hq
            refine W.eq (g2 := F0 m 81 ls [.int v8]) rfl ?_
            exact W.iret (v := v8) hx hb hr (fun t ht _ => ⟨⟨_, (Z4), rfl, ⟨_, rfl, hw⟩, by rw [ht]; exact hP⟩, hS.F ht⟩) hS.2.2 dX6_year_81
          · have hw := Eq.mp (if_pos c6) hw
            refine lv_aload_n hx hb dX6_year_64 rfl (lv_at hl 0 rfl) ?_
            refine va_get (D := D) (ci := 6) (v := .ref (ad 18)) (C := RX6) (T := TX6) (N := 9) hx hb hW inW_X6 hown hK hP 0 rfl rfl 1 (by decide) (hW _ fl_X6_16) (fun _ h9 => h9) rfl dX6_year_65 ?_
            refine callR (va_runV (As := []) (rest := []) ⟨hx, hb, hml, hown, hW⟩ (c_X2_ownNames l D cI cZ ad 18 Z4 _ hw) (cwV0 hW mV_X2_ownNames ml_X6_247 ⟨Nat.le_of_ble_eq_true rfl, Nat.le_of_ble_eq_true rfl⟩) (preV0 0 rfl rfl hK hN hP hD [2] rfl rfl) rfl rfl hl.1 rfl (lv_room (Nat.le_of_ble_eq_true rfl)) dX6_year_68 ⟨Nat.le_refl _, Nat.le_refl _⟩) (fun v9 hq => ?_)
            obtain ⟨v7, rfl, hw⟩ := hq
            refine W.eq (g2 := F0 m 71 ls [.int v7]) rfl ?_
            refine lv_goto (tgt := 81) hx hb dX6_year_71 (by decide) ?_
            exact W.iret (v := v7) hx hb hr (fun t ht _ => ⟨⟨_, (Z4), rfl, ⟨_, rfl, hw⟩, by rw [ht]; exact hP⟩, hS.F ht⟩) hS.2.2 dX6_year_81
        · have hw := Eq.mp (if_pos c5) hw
          refine lv_aload_n hx hb dX6_year_43 rfl (lv_at hl 0 rfl) ?_
          refine va_get (D := D) (ci := 6) (v := .ref (ad 18)) (C := RX6) (T := TX6) (N := 9) hx hb hW inW_X6 hown hK hP 0 rfl rfl 1 (by decide) (hW _ fl_X6_16) (fun _ h9 => h9) rfl dX6_year_44 ?_
          refine va_get (D := D) (ci := 2) (v := .int (Z4.1 2)) (C := RX2) (T := TX2) (N := 15) hx hb hW inW_X2 hown hK hP 18 rfl rfl 2 (by decide) (hW _ fl_X6_141) (fun _ h9 => h9) rfl dX6_year_47 ?_
          refine lv_aload_n hx hb dX6_year_50 rfl (lv_at hl 0 rfl) ?_
          refine va_get (D := D) (ci := 6) (v := .ref (ad 1)) (C := RX6) (T := TX6) (N := 9) hx hb hW inW_X6 hown hK hP 0 rfl rfl 0 (by decide) (hW _ fl_X6_10) (fun _ h9 => h9) rfl dX6_year_51 ?_
          refine va_get (D := D) (ci := 2) (v := .int (Y0.1 2)) (C := RX2) (T := TX2) (N := 15) hx hb hW inW_X2 hown hK hP 1 rfl rfl 2 (by decide) (hW _ fl_X6_141) (fun _ h9 => h9) rfl dX6_year_54 ?_
          refine lv_isub hx hb dX6_year_57 ?_
          exact W.iret (v := ((Z4.1 2) - (Y0.1 2))) hx hb hr (fun t ht _ => ⟨⟨_, (Z4), rfl, ⟨_, rfl, hw⟩, by rw [ht]; exact hP⟩, hS.F ht⟩) hS.2.2 dX6_year_58
      · have hw := Eq.mp (if_pos c3) hw
        refine lv_bipush (v := (-2)) hx hb dX6_year_30 (by decide) ?_
        exact W.iret (v := (-2)) hx hb hr (fun t ht _ => ⟨⟨_, (Y1), rfl, ⟨_, rfl, hw⟩, by rw [ht]; exact hP⟩, hS.F ht⟩) hS.2.2 dX6_year_32
set_option maxHeartbeats 4000000 in
set_option maxRecDepth 100000 in
theorem c_X6_imageAt (l : Launch) (D : va_G) (cI cZ : ClassId) (ad : Nat → Nat) (Y2 : St) (Y3 : St) (x1 : Int32) (r9 : Nat) (hw : F_X6_imageAt ad x1 = r9) : KF l yX6_imageAt cX6_imageAt 2 (some (.object "HostageRound$Round")) 0 0 D cI cZ [.ref (ad 0), .int x1] [xcell ad, rcells cI ad 35 Y2, rcells cI ad 52 Y3] (some (.ref r9)) := by
  refine Met.ofE (by decide +kernel) (Nat.le_of_ble_eq_true rfl) ?_
  intro p e s m below meth c E ls hl
  obtain ⟨hx, hb, hr, hml, hW, hown, hlocks, hP, hK, hD, hN⟩ := E
  have hl : lv_has ls 2 [(0, .ref (ad 0)), (1, .int x1)] := hl
  have hw : (if x1 = 0 then (ad 35) else (ad 52)) = r9 := hw
  refine lv_iload_n hx hb dX6_imageAt_0 rfl (lv_at hl 1 rfl) ?_
  refine lv_if_ne (tgt := 11) hx hb dX6_imageAt_1 (by decide) (fun c1 => ?_) (fun c1 => ?_)
  · have hw := (if_neg c1).symm.trans hw
    refine lv_aload_n hx hb dX6_imageAt_11 rfl (lv_at hl 0 rfl) ?_
    refine va_get (D := D) (ci := 6) (v := .ref (ad 52)) (C := RX6) (T := TX6) (N := 9) hx hb hW inW_X6 hown hK hP 0 rfl rfl 3 (by decide) (hW _ fl_X6_22) (fun _ h9 => h9) rfl dX6_imageAt_12 ?_
    subst hw
    exact W.aret (v := .ref (ad 52)) hx hb hr (Or.inl ⟨_, rfl⟩) (Or.inr ⟨_, rfl⟩) (fun t ht _ => ⟨rfl, ht⟩) (fun _ h => by cases h) dX6_imageAt_15
  · have hw := (if_pos c1).symm.trans hw
    refine lv_aload_n hx hb dX6_imageAt_4 rfl (lv_at hl 0 rfl) ?_
    refine va_get (D := D) (ci := 6) (v := .ref (ad 35)) (C := RX6) (T := TX6) (N := 9) hx hb hW inW_X6 hown hK hP 0 rfl rfl 2 (by decide) (hW _ fl_X6_19) (fun _ h9 => h9) rfl dX6_imageAt_5 ?_
    refine lv_goto (tgt := 15) hx hb dX6_imageAt_8 (by decide) ?_
    subst hw
    exact W.aret (v := .ref (ad 35)) hx hb hr (Or.inl ⟨_, rfl⟩) (Or.inr ⟨_, rfl⟩) (fun t ht _ => ⟨rfl, ht⟩) (fun _ h => by cases h) dX6_imageAt_15
set_option maxHeartbeats 4000000 in
set_option maxRecDepth 100000 in
theorem c_X6_image (l : Launch) (D : va_G) (cI cZ : ClassId) (ad : Nat → Nat) (Y0 : St) (Y2 : St) (Y3 : St) (Y4 : (Nat → Int32)) (x1 : Int32) (k : Int32 → St → St → (Nat → Int32) → Prop) (hw : wp_X6_image Y0 Y2 Y3 Y4 x1 k) : KW l yX6_image cX6_image 2 (some .int) 3 64 D cI cZ [.ref (ad 0), .int x1] [xcell ad, rcells cI ad 1 Y0, rcells cI ad 35 Y2, rcells cI ad 52 Y3, kcells cI (ad 69) (ad 70) 2 Y4] (fun v (u : St × St × (Nat → Int32)) => ∃ r, v = some (.int r) ∧ k r u.1 u.2.1 u.2.2) (fun u : St × St × (Nat → Int32) => [xcell ad, rcells cI ad 1 Y0, rcells cI ad 35 u.1, rcells cI ad 52 u.2.1, kcells cI (ad 69) (ad 70) 2 u.2.2]) := by
  refine Met.ofE (by decide +kernel) (Nat.le_of_ble_eq_true rfl) ?_
  intro p e s m below meth c E ls hl
  obtain ⟨hx, hb, hr, hml, hW, hown, hlocks, hP, hK, hD, hN⟩ := E
  have hl : lv_has ls 2 [(0, .ref (ad 0)), (1, .int x1)] := hl
  have hS : va_S (cOf (jn [xcell ad, rcells cI ad 1 Y0, rcells cI ad 35 Y2, rcells cI ad 52 Y3, kcells cI (ad 69) (ad 70) 2 Y4])) s.heap s.heap [] := va_S.rf
  have hw : (if (F_X6_within x1 0 1) = 0 then (k (-2) Y2 Y3 Y4) else (if x1 = 0 then (wp_X2_takeOver Y2 Y0 (fun (Z3 : St) => (wp_X3_put 2 Y4 x1 1 (fun (Z4 : (Nat → Int32)) => (k 1 Z3 Y3 Z4))))) else (wp_X2_takeOver Y3 Y0 (fun (Z5 : St) => (wp_X3_put 2 Y4 x1 1 (fun (Z6 : (Nat → Int32)) => (k 1 Y2 Z5 Z6))))))) := hw
  refine lv_iload_n hx hb dX6_image_0 rfl (lv_at hl 1 rfl) ?_
  refine lv_iconst (v := 0) hx hb dX6_image_1 (by decide) ?_
  refine lv_iconst (v := 1) hx hb dX6_image_2 (by decide) ?_
  refine callF (va_runS (As := [.int x1, .int 0, .int 1]) (rest := []) ⟨hx, hb, hml, hown, hW⟩ (c_X6_within l D cI cZ x1 0 1 _ rfl) (cwS0 hW mS_X6_within ml_X6_69 ⟨Nat.le_of_ble_eq_true rfl, Nat.le_of_ble_eq_true rfl⟩) (preS0 hK hN hP hD [] rfl rfl) rfl rfl hl.1 rfl (lv_room (Nat.le_of_ble_eq_true rfl)) dX6_image_3 ⟨Nat.le_refl _, Nat.le_refl _⟩) ?_
  refine W.eq (g2 := F0 m 6 ls [.int (F_X6_within x1 0 1)]) rfl ?_
  refine lv_if_ne (tgt := 12) hx hb dX6_image_6 (by decide) (fun c1 => ?_) (fun c1 => ?_)
  · have hw := Eq.mp (if_neg c1) hw
    refine lv_aload_n hx hb dX6_image_12 rfl (lv_at hl 0 rfl) ?_
    refine lv_iload_n hx hb dX6_image_13 rfl (lv_at hl 1 rfl) ?_
    refine callF (va_runV (As := [.int x1]) (rest := []) ⟨hx, hb, hml, hown, hW⟩ (c_X6_imageAt l D cI cZ ad Y2 Y3 x1 _ rfl) (cwV0 hW mV_X6_imageAt ml_X6_253 ⟨Nat.le_of_ble_eq_true rfl, Nat.le_of_ble_eq_true rfl⟩) (preV0 0 rfl rfl hK hN hP hD [0, 2, 3] rfl rfl) rfl rfl hl.1 rfl (lv_room (Nat.le_of_ble_eq_true rfl)) dX6_image_14 ⟨Nat.le_refl _, Nat.le_refl _⟩) ?_
    refine W.eq (g2 := F0 m 17 ls (.ref (F_X6_imageAt ad x1) :: [])) rfl ?_
    by_cases c2 : x1 = 0
    · have hw := Eq.mp (if_pos c2) hw
      rw [show F_X6_imageAt ad x1 = (ad 35) from if_pos c2]
      refine lv_aload_n hx hb dX6_image_17 rfl (lv_at hl 0 rfl) ?_
      refine va_get (D := D) (ci := 6) (v := .ref (ad 1)) (C := RX6) (T := TX6) (N := 9) hx hb hW inW_X6 hown hK hP 0 rfl rfl 0 (by decide) (hW _ fl_X6_10) (fun _ h9 => h9) rfl dX6_image_18 ?_
      refine callW (va_runV (As := [.ref (ad 1)]) (rest := []) ⟨hx, hb, hml, hown, hW⟩ (c_X2_takeOver l D cI cZ ad 35 Y2 1 Y0 _ hw) (cwV0 hW mV_X2_takeOver ml_X6_124 ⟨Nat.le_of_ble_eq_true rfl, Nat.le_of_ble_eq_true rfl⟩) (preV0 0 rfl rfl hK hN hP hD [2, 1] rfl rfl) rfl rfl hl.1 rfl (lv_room (Nat.le_of_ble_eq_true rfl)) dX6_image_21 ⟨Nat.le_refl _, Nat.le_refl _⟩) hP hD hS [2, 1] rfl rfl (fun _ => rfl) (fun v9 u9 H locs hq hP hD hS => ?_)
      obtain ⟨rfl, hw⟩ := hq
      obtain ⟨Z3, rfl⟩ : ∃ z, z = u9 := ⟨_, rfl⟩
      have hP : va_P D classes (jn [xcell ad, rcells cI ad 1 Y0, rcells cI ad 35 Z3, rcells cI ad 52 Y3, kcells cI (ad 69) (ad 70) 2 Y4]) H := hP
      have hD : va_D (cOf (jn [xcell ad, rcells cI ad 1 Y0, rcells cI ad 35 Y2, rcells cI ad 52 Y3, kcells cI (ad 69) (ad 70) 2 Y4])) (jn [xcell ad, rcells cI ad 1 Y0, rcells cI ad 35 Z3, rcells cI ad 52 Y3, kcells cI (ad 69) (ad 70) 2 Y4]) := hD
      refine W.eq (g2 := F0 m 24 ls []) rfl ?_
      refine lv_aload_n hx hb dX6_image_24 rfl (lv_at hl 0 rfl) ?_
      refine va_get (D := D) (ci := 6) (v := .ref (ad 69)) (C := RX6) (T := TX6) (N := 9) hx hb hW inW_X6 hown hK hP 0 rfl rfl 4 (by decide) (hW _ fl_X6_30) (fun _ h9 => h9) rfl dX6_image_25 ?_
      refine lv_iload_n hx hb dX6_image_28 rfl (lv_at hl 1 rfl) ?_
      refine lv_iconst (v := 1) hx hb dX6_image_29 (by decide) ?_
      refine callW (va_runV (As := [.int x1, .int 1]) (rest := []) ⟨hx, hb, hml, hown, hW⟩ (c_X3_put l D cI cZ (ad 69) (ad 70) 2 (by decide) Y4 x1 1 _ hw) (cwV0 hW mV_X3_put ml_X6_93 ⟨Nat.le_of_ble_eq_true rfl, Nat.le_of_ble_eq_true rfl⟩) (preV0 0 rfl rfl hK hN hP hD [4] rfl rfl) rfl rfl hl.1 rfl (lv_room (Nat.le_of_ble_eq_true rfl)) dX6_image_30 ⟨Nat.le_refl _, Nat.le_refl _⟩) hP hD hS [4] rfl rfl (fun _ => rfl) (fun v9 u9 H locs hq hP hD hS => ?_)
      obtain ⟨rfl, hw⟩ := hq
      obtain ⟨Z4, rfl⟩ : ∃ z, z = u9 := ⟨_, rfl⟩
      have hP : va_P D classes (jn [xcell ad, rcells cI ad 1 Y0, rcells cI ad 35 Z3, rcells cI ad 52 Y3, kcells cI (ad 69) (ad 70) 2 Z4]) H := hP
      have hD : va_D (cOf (jn [xcell ad, rcells cI ad 1 Y0, rcells cI ad 35 Y2, rcells cI ad 52 Y3, kcells cI (ad 69) (ad 70) 2 Y4])) (jn [xcell ad, rcells cI ad 1 Y0, rcells cI ad 35 Z3, rcells cI ad 52 Y3, kcells cI (ad 69) (ad 70) 2 Z4]) := hD
      refine W.eq (g2 := F0 m 33 ls []) rfl ?_
      refine lv_iconst (v := 1) hx hb dX6_image_33 (by decide) ?_
      exact W.iret (v := 1) hx hb hr (fun t ht _ => ⟨⟨_, (Z3, Y3, Z4), rfl, ⟨_, rfl, hw⟩, by rw [ht]; exact hP⟩, hS.F ht⟩) hS.2.2 dX6_image_34
    · have hw := Eq.mp (if_neg c2) hw
      rw [show F_X6_imageAt ad x1 = (ad 52) from if_neg c2]
      refine lv_aload_n hx hb dX6_image_17 rfl (lv_at hl 0 rfl) ?_
      refine va_get (D := D) (ci := 6) (v := .ref (ad 1)) (C := RX6) (T := TX6) (N := 9) hx hb hW inW_X6 hown hK hP 0 rfl rfl 0 (by decide) (hW _ fl_X6_10) (fun _ h9 => h9) rfl dX6_image_18 ?_
      refine callW (va_runV (As := [.ref (ad 1)]) (rest := []) ⟨hx, hb, hml, hown, hW⟩ (c_X2_takeOver l D cI cZ ad 52 Y3 1 Y0 _ hw) (cwV0 hW mV_X2_takeOver ml_X6_124 ⟨Nat.le_of_ble_eq_true rfl, Nat.le_of_ble_eq_true rfl⟩) (preV0 0 rfl rfl hK hN hP hD [3, 1] rfl rfl) rfl rfl hl.1 rfl (lv_room (Nat.le_of_ble_eq_true rfl)) dX6_image_21 ⟨Nat.le_refl _, Nat.le_refl _⟩) hP hD hS [3, 1] rfl rfl (fun _ => rfl) (fun v9 u9 H locs hq hP hD hS => ?_)
      obtain ⟨rfl, hw⟩ := hq
      obtain ⟨Z5, rfl⟩ : ∃ z, z = u9 := ⟨_, rfl⟩
      have hP : va_P D classes (jn [xcell ad, rcells cI ad 1 Y0, rcells cI ad 35 Y2, rcells cI ad 52 Z5, kcells cI (ad 69) (ad 70) 2 Y4]) H := hP
      have hD : va_D (cOf (jn [xcell ad, rcells cI ad 1 Y0, rcells cI ad 35 Y2, rcells cI ad 52 Y3, kcells cI (ad 69) (ad 70) 2 Y4])) (jn [xcell ad, rcells cI ad 1 Y0, rcells cI ad 35 Y2, rcells cI ad 52 Z5, kcells cI (ad 69) (ad 70) 2 Y4]) := hD
      refine W.eq (g2 := F0 m 24 ls []) rfl ?_
      refine lv_aload_n hx hb dX6_image_24 rfl (lv_at hl 0 rfl) ?_
      refine va_get (D := D) (ci := 6) (v := .ref (ad 69)) (C := RX6) (T := TX6) (N := 9) hx hb hW inW_X6 hown hK hP 0 rfl rfl 4 (by decide) (hW _ fl_X6_30) (fun _ h9 => h9) rfl dX6_image_25 ?_
      refine lv_iload_n hx hb dX6_image_28 rfl (lv_at hl 1 rfl) ?_
      refine lv_iconst (v := 1) hx hb dX6_image_29 (by decide) ?_
      refine callW (va_runV (As := [.int x1, .int 1]) (rest := []) ⟨hx, hb, hml, hown, hW⟩ (c_X3_put l D cI cZ (ad 69) (ad 70) 2 (by decide) Y4 x1 1 _ hw) (cwV0 hW mV_X3_put ml_X6_93 ⟨Nat.le_of_ble_eq_true rfl, Nat.le_of_ble_eq_true rfl⟩) (preV0 0 rfl rfl hK hN hP hD [4] rfl rfl) rfl rfl hl.1 rfl (lv_room (Nat.le_of_ble_eq_true rfl)) dX6_image_30 ⟨Nat.le_refl _, Nat.le_refl _⟩) hP hD hS [4] rfl rfl (fun _ => rfl) (fun v9 u9 H locs hq hP hD hS => ?_)
      obtain ⟨rfl, hw⟩ := hq
      obtain ⟨Z6, rfl⟩ : ∃ z, z = u9 := ⟨_, rfl⟩
      have hP : va_P D classes (jn [xcell ad, rcells cI ad 1 Y0, rcells cI ad 35 Y2, rcells cI ad 52 Z5, kcells cI (ad 69) (ad 70) 2 Z6]) H := hP
      have hD : va_D (cOf (jn [xcell ad, rcells cI ad 1 Y0, rcells cI ad 35 Y2, rcells cI ad 52 Y3, kcells cI (ad 69) (ad 70) 2 Y4])) (jn [xcell ad, rcells cI ad 1 Y0, rcells cI ad 35 Y2, rcells cI ad 52 Z5, kcells cI (ad 69) (ad 70) 2 Z6]) := hD
      refine W.eq (g2 := F0 m 33 ls []) rfl ?_
      refine lv_iconst (v := 1) hx hb dX6_image_33 (by decide) ?_
      exact W.iret (v := 1) hx hb hr (fun t ht _ => ⟨⟨_, (Y2, Z5, Z6), rfl, ⟨_, rfl, hw⟩, by rw [ht]; exact hP⟩, hS.F ht⟩) hS.2.2 dX6_image_34
  · have hw := Eq.mp (if_pos c1) hw
    refine lv_bipush (v := (-2)) hx hb dX6_image_9 (by decide) ?_
    exact W.iret (v := (-2)) hx hb hr (fun t ht _ => ⟨⟨_, (Y2, Y3, Y4), rfl, ⟨_, rfl, hw⟩, by rw [ht]; exact hP⟩, hS.F ht⟩) hS.2.2 dX6_image_11
set_option maxHeartbeats 4000000 in
set_option maxRecDepth 100000 in
theorem c_X6_restore (l : Launch) (D : va_G) (cI cZ : ClassId) (ad : Nat → Nat) (Y0 : St) (Y2 : St) (Y3 : St) (Y4 : (Nat → Int32)) (x1 : Int32) (k : Int32 → St → Prop) (hw : wp_X6_restore Y0 Y2 Y3 Y4 x1 k) : KW l yX6_restore cX6_restore 2 (some .int) 3 64 D cI cZ [.ref (ad 0), .int x1] [xcell ad, rcells cI ad 1 Y0, rcells cI ad 35 Y2, rcells cI ad 52 Y3, kcells cI (ad 69) (ad 70) 2 Y4] (fun v (u : St) => ∃ r, v = some (.int r) ∧ k r u) (fun u : St => [xcell ad, rcells cI ad 1 u, rcells cI ad 35 Y2, rcells cI ad 52 Y3, kcells cI (ad 69) (ad 70) 2 Y4]) := by
  refine Met.ofE (by decide +kernel) (Nat.le_of_ble_eq_true rfl) ?_
  intro p e s m below meth c E ls hl
  obtain ⟨hx, hb, hr, hml, hW, hown, hlocks, hP, hK, hD, hN⟩ := E
  have hl : lv_has ls 2 [(0, .ref (ad 0)), (1, .int x1)] := hl
  have hS : va_S (cOf (jn [xcell ad, rcells cI ad 1 Y0, rcells cI ad 35 Y2, rcells cI ad 52 Y3, kcells cI (ad 69) (ad 70) 2 Y4])) s.heap s.heap [] := va_S.rf
  have hw : (if (F_X6_within x1 0 1) = 0 then (k (-2) Y0) else (if (F_X3_get 2 Y4 x1) = 0 then (k (-3) Y0) else (if x1 = 0 then (wp_X2_takeOver Y0 Y2 (fun (Z4 : St) => (k 1 Z4))) else (wp_X2_takeOver Y0 Y3 (fun (Z5 : St) => (k 1 Z5)))))) := hw
  refine lv_iload_n hx hb dX6_restore_0 rfl (lv_at hl 1 rfl) ?_
  refine lv_iconst (v := 0) hx hb dX6_restore_1 (by decide) ?_
  refine lv_iconst (v := 1) hx hb dX6_restore_2 (by decide) ?_
  refine callF (va_runS (As := [.int x1, .int 0, .int 1]) (rest := []) ⟨hx, hb, hml, hown, hW⟩ (c_X6_within l D cI cZ x1 0 1 _ rfl) (cwS0 hW mS_X6_within ml_X6_69 ⟨Nat.le_of_ble_eq_true rfl, Nat.le_of_ble_eq_true rfl⟩) (preS0 hK hN hP hD [] rfl rfl) rfl rfl hl.1 rfl (lv_room (Nat.le_of_ble_eq_true rfl)) dX6_restore_3 ⟨Nat.le_refl _, Nat.le_refl _⟩) ?_
  refine W.eq (g2 := F0 m 6 ls [.int (F_X6_within x1 0 1)]) rfl ?_
  refine lv_if_ne (tgt := 12) hx hb dX6_restore_6 (by decide) (fun c1 => ?_) (fun c1 => ?_)
  · have hw := Eq.mp (if_neg c1) hw
    refine lv_aload_n hx hb dX6_restore_12 rfl (lv_at hl 0 rfl) ?_
    refine va_get (D := D) (ci := 6) (v := .ref (ad 69)) (C := RX6) (T := TX6) (N := 9) hx hb hW inW_X6 hown hK hP 0 rfl rfl 4 (by decide) (hW _ fl_X6_30) (fun _ h9 => h9) rfl dX6_restore_13 ?_
    refine lv_iload_n hx hb dX6_restore_16 rfl (lv_at hl 1 rfl) ?_
    refine callF (va_runV (As := [.int x1]) (rest := []) ⟨hx, hb, hml, hown, hW⟩ (c_X3_get l D cI cZ (ad 69) (ad 70) 2 (by decide) Y4 x1 _ rfl) (cwV0 hW mV_X3_get ml_X6_89 ⟨Nat.le_of_ble_eq_true rfl, Nat.le_of_ble_eq_true rfl⟩) (preV0 0 rfl rfl hK hN hP hD [4] rfl rfl) rfl rfl hl.1 rfl (lv_room (Nat.le_of_ble_eq_true rfl)) dX6_restore_17 ⟨Nat.le_refl _, Nat.le_refl _⟩) ?_
    refine W.eq (g2 := F0 m 20 ls [.int (F_X3_get 2 Y4 x1)]) rfl ?_
    refine lv_if_ne (tgt := 26) hx hb dX6_restore_20 (by decide) (fun c2 => ?_) (fun c2 => ?_)
    · have hw := Eq.mp (if_neg c2) hw
      refine lv_aload_n hx hb dX6_restore_26 rfl (lv_at hl 0 rfl) ?_
      refine va_get (D := D) (ci := 6) (v := .ref (ad 1)) (C := RX6) (T := TX6) (N := 9) hx hb hW inW_X6 hown hK hP 0 rfl rfl 0 (by decide) (hW _ fl_X6_10) (fun _ h9 => h9) rfl dX6_restore_27 ?_
      refine lv_aload_n hx hb dX6_restore_30 rfl (lv_at hl 0 rfl) ?_
      refine lv_iload_n hx hb dX6_restore_31 rfl (lv_at hl 1 rfl) ?_
      refine callF (va_runV (As := [.int x1]) (rest := [.ref (ad 1)]) ⟨hx, hb, hml, hown, hW⟩ (c_X6_imageAt l D cI cZ ad Y2 Y3 x1 _ rfl) (cwV0 hW mV_X6_imageAt ml_X6_253 ⟨Nat.le_of_ble_eq_true rfl, Nat.le_of_ble_eq_true rfl⟩) (preV0 0 rfl rfl hK hN hP hD [0, 2, 3] rfl rfl) rfl rfl hl.1 rfl (lv_room (Nat.le_of_ble_eq_true rfl)) dX6_restore_32 ⟨Nat.le_refl _, Nat.le_refl _⟩) ?_
      refine W.eq (g2 := F0 m 35 ls (.ref (F_X6_imageAt ad x1) :: [.ref (ad 1)])) rfl ?_
      by_cases c3 : x1 = 0
      · have hw := Eq.mp (if_pos c3) hw
        rw [show F_X6_imageAt ad x1 = (ad 35) from if_pos c3]
        refine callW (va_runV (As := [.ref (ad 35)]) (rest := []) ⟨hx, hb, hml, hown, hW⟩ (c_X2_takeOver l D cI cZ ad 1 Y0 35 Y2 _ hw) (cwV0 hW mV_X2_takeOver ml_X6_124 ⟨Nat.le_of_ble_eq_true rfl, Nat.le_of_ble_eq_true rfl⟩) (preV0 0 rfl rfl hK hN hP hD [1, 2] rfl rfl) rfl rfl hl.1 rfl (lv_room (Nat.le_of_ble_eq_true rfl)) dX6_restore_35 ⟨Nat.le_refl _, Nat.le_refl _⟩) hP hD hS [1, 2] rfl rfl (fun _ => rfl) (fun v9 u9 H locs hq hP hD hS => ?_)
        obtain ⟨rfl, hw⟩ := hq
        obtain ⟨Z4, rfl⟩ : ∃ z, z = u9 := ⟨_, rfl⟩
        have hP : va_P D classes (jn [xcell ad, rcells cI ad 1 Z4, rcells cI ad 35 Y2, rcells cI ad 52 Y3, kcells cI (ad 69) (ad 70) 2 Y4]) H := hP
        have hD : va_D (cOf (jn [xcell ad, rcells cI ad 1 Y0, rcells cI ad 35 Y2, rcells cI ad 52 Y3, kcells cI (ad 69) (ad 70) 2 Y4])) (jn [xcell ad, rcells cI ad 1 Z4, rcells cI ad 35 Y2, rcells cI ad 52 Y3, kcells cI (ad 69) (ad 70) 2 Y4]) := hD
        refine W.eq (g2 := F0 m 38 ls []) rfl ?_
        refine lv_iconst (v := 1) hx hb dX6_restore_38 (by decide) ?_
        exact W.iret (v := 1) hx hb hr (fun t ht _ => ⟨⟨_, (Z4), rfl, ⟨_, rfl, hw⟩, by rw [ht]; exact hP⟩, hS.F ht⟩) hS.2.2 dX6_restore_39
      · have hw := Eq.mp (if_neg c3) hw
        rw [show F_X6_imageAt ad x1 = (ad 52) from if_neg c3]
        refine callW (va_runV (As := [.ref (ad 52)]) (rest := []) ⟨hx, hb, hml, hown, hW⟩ (c_X2_takeOver l D cI cZ ad 1 Y0 52 Y3 _ hw) (cwV0 hW mV_X2_takeOver ml_X6_124 ⟨Nat.le_of_ble_eq_true rfl, Nat.le_of_ble_eq_true rfl⟩) (preV0 0 rfl rfl hK hN hP hD [1, 3] rfl rfl) rfl rfl hl.1 rfl (lv_room (Nat.le_of_ble_eq_true rfl)) dX6_restore_35 ⟨Nat.le_refl _, Nat.le_refl _⟩) hP hD hS [1, 3] rfl rfl (fun _ => rfl) (fun v9 u9 H locs hq hP hD hS => ?_)
        obtain ⟨rfl, hw⟩ := hq
        obtain ⟨Z5, rfl⟩ : ∃ z, z = u9 := ⟨_, rfl⟩
        have hP : va_P D classes (jn [xcell ad, rcells cI ad 1 Z5, rcells cI ad 35 Y2, rcells cI ad 52 Y3, kcells cI (ad 69) (ad 70) 2 Y4]) H := hP
        have hD : va_D (cOf (jn [xcell ad, rcells cI ad 1 Y0, rcells cI ad 35 Y2, rcells cI ad 52 Y3, kcells cI (ad 69) (ad 70) 2 Y4])) (jn [xcell ad, rcells cI ad 1 Z5, rcells cI ad 35 Y2, rcells cI ad 52 Y3, kcells cI (ad 69) (ad 70) 2 Y4]) := hD
        refine W.eq (g2 := F0 m 38 ls []) rfl ?_
        refine lv_iconst (v := 1) hx hb dX6_restore_38 (by decide) ?_
        exact W.iret (v := 1) hx hb hr (fun t ht _ => ⟨⟨_, (Z5), rfl, ⟨_, rfl, hw⟩, by rw [ht]; exact hP⟩, hS.F ht⟩) hS.2.2 dX6_restore_39
    · have hw := Eq.mp (if_pos c2) hw
      refine lv_bipush (v := (-3)) hx hb dX6_restore_23 (by decide) ?_
      exact W.iret (v := (-3)) hx hb hr (fun t ht _ => ⟨⟨_, (Y0), rfl, ⟨_, rfl, hw⟩, by rw [ht]; exact hP⟩, hS.F ht⟩) hS.2.2 dX6_restore_25
  · have hw := Eq.mp (if_pos c1) hw
    refine lv_bipush (v := (-2)) hx hb dX6_restore_9 (by decide) ?_
    exact W.iret (v := (-2)) hx hb hr (fun t ht _ => ⟨⟨_, (Y0), rfl, ⟨_, rfl, hw⟩, by rw [ht]; exact hP⟩, hS.F ht⟩) hS.2.2 dX6_restore_11
set_option maxHeartbeats 4000000 in
set_option maxRecDepth 100000 in
theorem c_X6_toldOfOne (l : Launch) (D : va_G) (cI cZ : ClassId) (ad : Nat → Nat) (Y0 : St) (x1 : Int32) (r9 : Int32) (hw : F_X6_toldOfOne Y0 x1 = r9) : KF l yX6_toldOfOne cX6_toldOfOne 2 (some .int) 1 22 D cI cZ [.ref (ad 0), .int x1] [xcell ad, rcells cI ad 1 Y0] (some (.int r9)) := by
  refine Met.ofE (by decide +kernel) (Nat.le_of_ble_eq_true rfl) ?_
  intro p e s m below meth c E ls hl
  obtain ⟨hx, hb, hr, hml, hW, hown, hlocks, hP, hK, hD, hN⟩ := E
  have hl : lv_has ls 2 [(0, .ref (ad 0)), (1, .int x1)] := hl
  have hw : (if (F_X6_within x1 10 ((9 : Int32) + (Y0.1 0))) = 0 then (if (F_X6_within x1 20 ((19 : Int32) + (Y0.1 0))) = 0 then (-2) else (F_X3_get 6 (Y0.2 11) (x1 - 20))) else (F_X3_get 6 (Y0.2 12) (x1 - 10))) = r9 := hw
  refine lv_iload_n hx hb dX6_toldOfOne_0 rfl (lv_at hl 1 rfl) ?_
  refine lv_bipush (v := 10) hx hb dX6_toldOfOne_1 (by decide) ?_
  refine lv_bipush (v := 9) hx hb dX6_toldOfOne_3 (by decide) ?_
  refine lv_aload_n hx hb dX6_toldOfOne_5 rfl (lv_at hl 0 rfl) ?_
  refine va_get (D := D) (ci := 6) (v := .ref (ad 1)) (C := RX6) (T := TX6) (N := 9) hx hb hW inW_X6 hown hK hP 0 rfl rfl 0 (by decide) (hW _ fl_X6_10) (fun _ h9 => h9) rfl dX6_toldOfOne_6 ?_
  refine va_get (D := D) (ci := 2) (v := .int (Y0.1 0)) (C := RX2) (T := TX2) (N := 15) hx hb hW inW_X2 hown hK hP 1 rfl rfl 0 (by decide) (hW _ fl_X6_73) (fun _ h9 => h9) rfl dX6_toldOfOne_9 ?_
  refine lv_iadd hx hb dX6_toldOfOne_12 ?_
  refine callF (va_runS (As := [.int x1, .int 10, .int ((9 : Int32) + (Y0.1 0))]) (rest := []) ⟨hx, hb, hml, hown, hW⟩ (c_X6_within l D cI cZ x1 10 ((9 : Int32) + (Y0.1 0)) _ rfl) (cwS0 hW mS_X6_within ml_X6_69 ⟨Nat.le_of_ble_eq_true rfl, Nat.le_of_ble_eq_true rfl⟩) (preS0 hK hN hP hD [] rfl rfl) rfl rfl hl.1 rfl (lv_room (Nat.le_of_ble_eq_true rfl)) dX6_toldOfOne_13 ⟨Nat.le_refl _, Nat.le_refl _⟩) ?_
  refine W.eq (g2 := F0 m 16 ls [.int (F_X6_within x1 10 ((9 : Int32) + (Y0.1 0)))]) rfl ?_
  refine lv_if_eq (tgt := 34) hx hb dX6_toldOfOne_16 (by decide) (fun c1 => ?_) (fun c1 => ?_)
  · have hw := (if_pos c1).symm.trans hw
    refine lv_iload_n hx hb dX6_toldOfOne_34 rfl (lv_at hl 1 rfl) ?_
    refine lv_bipush (v := 20) hx hb dX6_toldOfOne_35 (by decide) ?_
    refine lv_bipush (v := 19) hx hb dX6_toldOfOne_37 (by decide) ?_
    refine lv_aload_n hx hb dX6_toldOfOne_39 rfl (lv_at hl 0 rfl) ?_
    refine va_get (D := D) (ci := 6) (v := .ref (ad 1)) (C := RX6) (T := TX6) (N := 9) hx hb hW inW_X6 hown hK hP 0 rfl rfl 0 (by decide) (hW _ fl_X6_10) (fun _ h9 => h9) rfl dX6_toldOfOne_40 ?_
    refine va_get (D := D) (ci := 2) (v := .int (Y0.1 0)) (C := RX2) (T := TX2) (N := 15) hx hb hW inW_X2 hown hK hP 1 rfl rfl 0 (by decide) (hW _ fl_X6_73) (fun _ h9 => h9) rfl dX6_toldOfOne_43 ?_
    refine lv_iadd hx hb dX6_toldOfOne_46 ?_
    refine callF (va_runS (As := [.int x1, .int 20, .int ((19 : Int32) + (Y0.1 0))]) (rest := []) ⟨hx, hb, hml, hown, hW⟩ (c_X6_within l D cI cZ x1 20 ((19 : Int32) + (Y0.1 0)) _ rfl) (cwS0 hW mS_X6_within ml_X6_69 ⟨Nat.le_of_ble_eq_true rfl, Nat.le_of_ble_eq_true rfl⟩) (preS0 hK hN hP hD [] rfl rfl) rfl rfl hl.1 rfl (lv_room (Nat.le_of_ble_eq_true rfl)) dX6_toldOfOne_47 ⟨Nat.le_refl _, Nat.le_refl _⟩) ?_
    refine W.eq (g2 := F0 m 50 ls [.int (F_X6_within x1 20 ((19 : Int32) + (Y0.1 0)))]) rfl ?_
    refine lv_if_eq (tgt := 68) hx hb dX6_toldOfOne_50 (by decide) (fun c2 => ?_) (fun c2 => ?_)
    · have hw := (if_pos c2).symm.trans hw
      refine lv_bipush (v := (-2)) hx hb dX6_toldOfOne_68 (by decide) ?_
      subst hw
      exact W.iret (v := (-2)) hx hb hr (fun t ht _ => ⟨rfl, ht⟩) (fun _ h => by cases h) dX6_toldOfOne_70
    · have hw := (if_neg c2).symm.trans hw
      refine lv_aload_n hx hb dX6_toldOfOne_53 rfl (lv_at hl 0 rfl) ?_
      refine va_get (D := D) (ci := 6) (v := .ref (ad 1)) (C := RX6) (T := TX6) (N := 9) hx hb hW inW_X6 hown hK hP 0 rfl rfl 0 (by decide) (hW _ fl_X6_10) (fun _ h9 => h9) rfl dX6_toldOfOne_54 ?_
      refine va_get (D := D) (ci := 2) (v := .ref (ad 6)) (C := RX2) (T := TX2) (N := 15) hx hb hW inW_X2 hown hK hP 1 rfl rfl 11 (by decide) (hW _ fl_X6_86) (fun _ h9 => h9) rfl dX6_toldOfOne_57 ?_
      refine lv_iload_n hx hb dX6_toldOfOne_60 rfl (lv_at hl 1 rfl) ?_
      refine lv_bipush (v := 20) hx hb dX6_toldOfOne_61 (by decide) ?_
      refine lv_isub hx hb dX6_toldOfOne_63 ?_
      refine callF (va_runV (As := [.int (x1 - 20)]) (rest := []) ⟨hx, hb, hml, hown, hW⟩ (c_X3_get__round_11 l D cI cZ ad 1 Y0 (x1 - 20) _ rfl) (cwV0 hW mV_X3_get ml_X6_89 ⟨Nat.le_of_ble_eq_true rfl, Nat.le_of_ble_eq_true rfl⟩) (preV0 5 rfl rfl hK hN hP hD [1] rfl rfl) rfl rfl hl.1 rfl (lv_room (Nat.le_of_ble_eq_true rfl)) dX6_toldOfOne_64 ⟨Nat.le_refl _, Nat.le_refl _⟩) ?_
      refine W.eq (g2 := F0 m 67 ls [.int (F_X3_get 6 (Y0.2 11) (x1 - 20))]) rfl ?_
      subst hw
      exact W.iret (v := (F_X3_get 6 (Y0.2 11) (x1 - 20))) hx hb hr (fun t ht _ => ⟨rfl, ht⟩) (fun _ h => by cases h) dX6_toldOfOne_67
  · have hw := (if_neg c1).symm.trans hw
    refine lv_aload_n hx hb dX6_toldOfOne_19 rfl (lv_at hl 0 rfl) ?_
    refine va_get (D := D) (ci := 6) (v := .ref (ad 1)) (C := RX6) (T := TX6) (N := 9) hx hb hW inW_X6 hown hK hP 0 rfl rfl 0 (by decide) (hW _ fl_X6_10) (fun _ h9 => h9) rfl dX6_toldOfOne_20 ?_
    refine va_get (D := D) (ci := 2) (v := .ref (ad 7)) (C := RX2) (T := TX2) (N := 15) hx hb hW inW_X2 hown hK hP 1 rfl rfl 12 (by decide) (hW _ fl_X6_83) (fun _ h9 => h9) rfl dX6_toldOfOne_23 ?_
    refine lv_iload_n hx hb dX6_toldOfOne_26 rfl (lv_at hl 1 rfl) ?_
    refine lv_bipush (v := 10) hx hb dX6_toldOfOne_27 (by decide) ?_
    refine lv_isub hx hb dX6_toldOfOne_29 ?_
    refine callF (va_runV (As := [.int (x1 - 10)]) (rest := []) ⟨hx, hb, hml, hown, hW⟩ (c_X3_get__round_12 l D cI cZ ad 1 Y0 (x1 - 10) _ rfl) (cwV0 hW mV_X3_get ml_X6_89 ⟨Nat.le_of_ble_eq_true rfl, Nat.le_of_ble_eq_true rfl⟩) (preV0 6 rfl rfl hK hN hP hD [1] rfl rfl) rfl rfl hl.1 rfl (lv_room (Nat.le_of_ble_eq_true rfl)) dX6_toldOfOne_30 ⟨Nat.le_refl _, Nat.le_refl _⟩) ?_
    refine W.eq (g2 := F0 m 33 ls [.int (F_X3_get 6 (Y0.2 12) (x1 - 10))]) rfl ?_
    subst hw
    exact W.iret (v := (F_X3_get 6 (Y0.2 12) (x1 - 10))) hx hb hr (fun t ht _ => ⟨rfl, ht⟩) (fun _ h => by cases h) dX6_toldOfOne_33
set_option maxHeartbeats 4000000 in
set_option maxRecDepth 100000 in
theorem c_X6_told (l : Launch) (D : va_G) (cI cZ : ClassId) (ad : Nat → Nat) (Y0 : St) (Y5 : St) (x1 : Int32) (r9 : Int32) (hw : F_X6_told Y0 Y5 x1 = r9) : KF l yX6_told cX6_told 2 (some .int) 2 43 D cI cZ [.ref (ad 0), .int x1] [xcell ad, rcells cI ad 1 Y0, pcells cI ad 71 Y5] (some (.int r9)) := by
  refine Met.ofE (by decide +kernel) (Nat.le_of_ble_eq_true rfl) ?_
  intro p e s m below meth c E ls hl
  obtain ⟨hx, hb, hr, hml, hW, hown, hlocks, hP, hK, hD, hN⟩ := E
  have hl : lv_has ls 2 [(0, .ref (ad 0)), (1, .int x1)] := hl
  have hw : (if x1 = 0 then (Y5.1 1) else (if x1 = 1 then (Y0.1 0) else (if x1 = 2 then (Y0.1 1) else (if x1 = 3 then (Y0.1 2) else (if x1 = 4 then (Y0.1 4) else (if x1 = 5 then (Y0.1 5) else (if x1 = 6 then (Y0.1 6) else (F_X6_toldOfOne Y0 x1)))))))) = r9 := hw
  refine lv_iload_n hx hb dX6_told_0 rfl (lv_at hl 1 rfl) ?_
  by_cases c1 : x1 = 0
  · have hw := (if_pos c1).symm.trans hw
    refine lv_tableIn (off := 43) (tgt := 44) hx hb dX6_told_1 (by rw [c1]; decide) (by rw [c1]; decide) (by rw [c1]; rfl) (by decide) ?_
    refine lv_aload_n hx hb dX6_told_44 rfl (lv_at hl 0 rfl) ?_
    refine va_get (D := D) (ci := 6) (v := .ref (ad 71)) (C := RX6) (T := TX6) (N := 9) hx hb hW inW_X6 hown hK hP 0 rfl rfl 5 (by decide) (hW _ fl_X6_37) (fun _ h9 => h9) rfl dX6_told_45 ?_
    refine va_get (D := D) (ci := 1) (v := .int (Y5.1 1)) (C := RX1) (T := TX1) (N := 2) hx hb hW inW_X1 hown hK hP 18 rfl rfl 1 (by decide) (hW _ fl_X6_97) (fun _ h9 => h9) rfl dX6_told_48 ?_
    subst hw
    exact W.iret (v := (Y5.1 1)) hx hb hr (fun t ht _ => ⟨rfl, ht⟩) (fun _ h => by cases h) dX6_told_51
  · have hw := (if_neg c1).symm.trans hw
    by_cases c2 : x1 = 1
    · have hw := (if_pos c2).symm.trans hw
      refine lv_tableIn (off := 51) (tgt := 52) hx hb dX6_told_1 (by rw [c2]; decide) (by rw [c2]; decide) (by rw [c2]; rfl) (by decide) ?_
      refine lv_aload_n hx hb dX6_told_52 rfl (lv_at hl 0 rfl) ?_
      refine va_get (D := D) (ci := 6) (v := .ref (ad 1)) (C := RX6) (T := TX6) (N := 9) hx hb hW inW_X6 hown hK hP 0 rfl rfl 0 (by decide) (hW _ fl_X6_10) (fun _ h9 => h9) rfl dX6_told_53 ?_
      refine va_get (D := D) (ci := 2) (v := .int (Y0.1 0)) (C := RX2) (T := TX2) (N := 15) hx hb hW inW_X2 hown hK hP 1 rfl rfl 0 (by decide) (hW _ fl_X6_73) (fun _ h9 => h9) rfl dX6_told_56 ?_
      subst hw
      exact W.iret (v := (Y0.1 0)) hx hb hr (fun t ht _ => ⟨rfl, ht⟩) (fun _ h => by cases h) dX6_told_59
    · have hw := (if_neg c2).symm.trans hw
      by_cases c3 : x1 = 2
      · have hw := (if_pos c3).symm.trans hw
        refine lv_tableIn (off := 59) (tgt := 60) hx hb dX6_told_1 (by rw [c3]; decide) (by rw [c3]; decide) (by rw [c3]; rfl) (by decide) ?_
        refine lv_aload_n hx hb dX6_told_60 rfl (lv_at hl 0 rfl) ?_
        refine va_get (D := D) (ci := 6) (v := .ref (ad 1)) (C := RX6) (T := TX6) (N := 9) hx hb hW inW_X6 hown hK hP 0 rfl rfl 0 (by decide) (hW _ fl_X6_10) (fun _ h9 => h9) rfl dX6_told_61 ?_
        refine va_get (D := D) (ci := 2) (v := .int (Y0.1 1)) (C := RX2) (T := TX2) (N := 15) hx hb hW inW_X2 hown hK hP 1 rfl rfl 1 (by decide) (hW _ fl_X6_62) (fun _ h9 => h9) rfl dX6_told_64 ?_
        subst hw
        exact W.iret (v := (Y0.1 1)) hx hb hr (fun t ht _ => ⟨rfl, ht⟩) (fun _ h => by cases h) dX6_told_67
      · have hw := (if_neg c3).symm.trans hw
        by_cases c4 : x1 = 3
        · have hw := (if_pos c4).symm.trans hw
          refine lv_tableIn (off := 67) (tgt := 68) hx hb dX6_told_1 (by rw [c4]; decide) (by rw [c4]; decide) (by rw [c4]; rfl) (by decide) ?_
          refine lv_aload_n hx hb dX6_told_68 rfl (lv_at hl 0 rfl) ?_
          refine va_get (D := D) (ci := 6) (v := .ref (ad 1)) (C := RX6) (T := TX6) (N := 9) hx hb hW inW_X6 hown hK hP 0 rfl rfl 0 (by decide) (hW _ fl_X6_10) (fun _ h9 => h9) rfl dX6_told_69 ?_
          refine va_get (D := D) (ci := 2) (v := .int (Y0.1 2)) (C := RX2) (T := TX2) (N := 15) hx hb hW inW_X2 hown hK hP 1 rfl rfl 2 (by decide) (hW _ fl_X6_141) (fun _ h9 => h9) rfl dX6_told_72 ?_
          subst hw
          exact W.iret (v := (Y0.1 2)) hx hb hr (fun t ht _ => ⟨rfl, ht⟩) (fun _ h => by cases h) dX6_told_75
        · have hw := (if_neg c4).symm.trans hw
          by_cases c5 : x1 = 4
          · have hw := (if_pos c5).symm.trans hw
            refine lv_tableIn (off := 75) (tgt := 76) hx hb dX6_told_1 (by rw [c5]; decide) (by rw [c5]; decide) (by rw [c5]; rfl) (by decide) ?_
            refine lv_aload_n hx hb dX6_told_76 rfl (lv_at hl 0 rfl) ?_
            refine va_get (D := D) (ci := 6) (v := .ref (ad 1)) (C := RX6) (T := TX6) (N := 9) hx hb hW inW_X6 hown hK hP 0 rfl rfl 0 (by decide) (hW _ fl_X6_10) (fun _ h9 => h9) rfl dX6_told_77 ?_
            refine va_get (D := D) (ci := 2) (v := .int (Y0.1 4)) (C := RX2) (T := TX2) (N := 15) hx hb hW inW_X2 hown hK hP 1 rfl rfl 4 (by decide) (hW _ fl_X6_257) (fun _ h9 => h9) rfl dX6_told_80 ?_
            subst hw
            exact W.iret (v := (Y0.1 4)) hx hb hr (fun t ht _ => ⟨rfl, ht⟩) (fun _ h => by cases h) dX6_told_83
          · have hw := (if_neg c5).symm.trans hw
            by_cases c6 : x1 = 5
            · have hw := (if_pos c6).symm.trans hw
              refine lv_tableIn (off := 83) (tgt := 84) hx hb dX6_told_1 (by rw [c6]; decide) (by rw [c6]; decide) (by rw [c6]; rfl) (by decide) ?_
              refine lv_aload_n hx hb dX6_told_84 rfl (lv_at hl 0 rfl) ?_
              refine va_get (D := D) (ci := 6) (v := .ref (ad 1)) (C := RX6) (T := TX6) (N := 9) hx hb hW inW_X6 hown hK hP 0 rfl rfl 0 (by decide) (hW _ fl_X6_10) (fun _ h9 => h9) rfl dX6_told_85 ?_
              refine va_get (D := D) (ci := 2) (v := .int (Y0.1 5)) (C := RX2) (T := TX2) (N := 15) hx hb hW inW_X2 hown hK hP 1 rfl rfl 5 (by decide) (hW _ fl_X6_223) (fun _ h9 => h9) rfl dX6_told_88 ?_
              subst hw
              exact W.iret (v := (Y0.1 5)) hx hb hr (fun t ht _ => ⟨rfl, ht⟩) (fun _ h => by cases h) dX6_told_91
            · have hw := (if_neg c6).symm.trans hw
              by_cases c7 : x1 = 6
              · have hw := (if_pos c7).symm.trans hw
                refine lv_tableIn (off := 91) (tgt := 92) hx hb dX6_told_1 (by rw [c7]; decide) (by rw [c7]; decide) (by rw [c7]; rfl) (by decide) ?_
                refine lv_aload_n hx hb dX6_told_92 rfl (lv_at hl 0 rfl) ?_
                refine va_get (D := D) (ci := 6) (v := .ref (ad 1)) (C := RX6) (T := TX6) (N := 9) hx hb hW inW_X6 hown hK hP 0 rfl rfl 0 (by decide) (hW _ fl_X6_10) (fun _ h9 => h9) rfl dX6_told_93 ?_
                refine va_get (D := D) (ci := 2) (v := .int (Y0.1 6)) (C := RX2) (T := TX2) (N := 15) hx hb hW inW_X2 hown hK hP 1 rfl rfl 6 (by decide) (hW _ fl_X6_184) (fun _ h9 => h9) rfl dX6_told_96 ?_
                subst hw
                exact W.iret (v := (Y0.1 6)) hx hb hr (fun t ht _ => ⟨rfl, ht⟩) (fun _ h => by cases h) dX6_told_99
              · have hw := (if_neg c7).symm.trans hw
                have ec1 : (x1).toInt ≠ 0 := ne_toInt c1
                have ec2 : (x1).toInt ≠ 1 := ne_toInt c2
                have ec3 : (x1).toInt ≠ 2 := ne_toInt c3
                have ec4 : (x1).toInt ≠ 3 := ne_toInt c4
                have ec5 : (x1).toInt ≠ 4 := ne_toInt c5
                have ec6 : (x1).toInt ≠ 5 := ne_toInt c6
                have ec7 : (x1).toInt ≠ 6 := ne_toInt c7
                refine lv_tableOut (tgt := 100) hx hb dX6_told_1 (by omega) (by decide) ?_
                refine lv_aload_n hx hb dX6_told_100 rfl (lv_at hl 0 rfl) ?_
                refine lv_iload_n hx hb dX6_told_101 rfl (lv_at hl 1 rfl) ?_
                refine callF (va_runV (As := [.int x1]) (rest := []) ⟨hx, hb, hml, hown, hW⟩ (c_X6_toldOfOne l D cI cZ ad Y0 x1 _ rfl) (cwV0 hW mV_X6_toldOfOne ml_X6_260 ⟨Nat.le_of_ble_eq_true rfl, Nat.le_of_ble_eq_true rfl⟩) (preV0 0 rfl rfl hK hN hP hD [0, 1] rfl rfl) rfl rfl hl.1 rfl (lv_room (Nat.le_of_ble_eq_true rfl)) dX6_told_102 ⟨Nat.le_refl _, Nat.le_refl _⟩) ?_
                refine W.eq (g2 := F0 m 105 ls [.int (F_X6_toldOfOne Y0 x1)]) rfl ?_
                subst hw
                exact W.iret (v := (F_X6_toldOfOne Y0 x1)) hx hb hr (fun t ht _ => ⟨rfl, ht⟩) (fun _ h => by cases h) dX6_told_105
