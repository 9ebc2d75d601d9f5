-- laid by wip/whole/mklaw2.py: the law's loop and its start
def Sims (Inv : InvT) : Prop := Sim_init Inv ∧ Sim_lands Inv ∧ Sim_season Inv ∧ Sim_set Inv ∧ Sim_say Inv ∧ Sim_wipe Inv ∧ Sim_fault Inv ∧ Sim_judge Inv ∧ Sim_done Inv ∧ Sim_state Inv ∧ Sim_behind Inv ∧ Sim_day Inv ∧ Sim_where Inv ∧ Sim_who Inv ∧ Sim_meet Inv ∧ Sim_together Inv ∧ Sim_begin Inv ∧ Sim_longest Inv ∧ Sim_struck Inv ∧ Sim_sure Inv ∧ Sim_fooled Inv ∧ Sim_letter Inv ∧ Sim_copy Inv ∧ Sim_furs Inv ∧ Sim_seen Inv ∧ Sim_forget Inv ∧ Sim_changed Inv ∧ Sim_names Inv ∧ Sim_hear Inv ∧ Sim_undo Inv ∧ Sim_marriages Inv ∧ Sim_deaths Inv ∧ Sim_year Inv ∧ Sim_image Inv ∧ Sim_restore Inv ∧ Sim_told Inv
theorem lw_more {i L : Nat} (hL : L ≤ 320) (hi : i ≤ L) (h : ¬ nI L - 5 < nI i) : i + 5 ≤ L := by
  have e5 : (5 : Int32) = nI 5 := by decide
  rw [e5, Int32.lt_iff_toInt_lt, pk_sub_toInt (by omega) (by omega), nI_toInt (by omega)] at h
  omega
set_option maxHeartbeats 4000000 in
set_option maxRecDepth 100000 in
theorem law_loop {Inv : InvT} {p : Program} {l : Launch} {e : Env} {s : State} {m : MethodId} {below : List Frame} {meth : Method} {c : Code} {b L : Nat} {xs : Nat → Int32} (sims : Sims Inv) (hL : L ≤ 320) (C0 : lw_At p s m meth c b L xs) (D : va_G) (cI cZ : ClassId) (ad am : Nat → Nat) (hK : va_K D classes (tysOf cI cZ) s) (hN : NW s) :
    ∀ (n i : Nat), i ≤ L → L + 1 ≤ i + n → ∀ (X0 : St) (X1 : St) (X2 : St) (X3 : St) (X4 : (Nat → Int32)) (X5 : St) (X6 : St) (X7 : St) (X8 : St) (M : St), Inv X0 X1 X2 X3 X4 X5 X6 X7 X8 M → ∀ (H : Heap) (locs : List Loc), va_P D classes (jn (lwB cI cZ ad am X0 X1 X2 X3 X4 X5 X6 X7 X8 M)) H → va_D (lwA s) (jn (lwB cI cZ ad am X0 X1 X2 X3 X4 X5 X6 X7 X8 M)) → va_S (lwA s) s.heap H locs → ∀ ls : Array Slot, lv_has ls 4 [(0, .ref b), (1, .ref (ad 0)), (2, .ref (am 0)), (3, .int (nI i))] → W p l e room_1 s m #[Value.ref b] below meth c H locs 99 776 (lw_Z below #[Value.ref b] s) (F0 m 18 ls []) := by
  have C1 := C0
  obtain ⟨hx, hb, hr, hml, hown, hts, hX, hbl, hlocks, hgv⟩ := C0
  have hbA : ¬ lwA s b := Nat.not_le.mpr hbl
  intro n
  induction n with
  | zero => intro i h1 h2; exact absurd h2 (by omega)
  | succ n ih =>
    intro i hi hin0 X0 X1 X2 X3 X4 X5 X6 X7 X8 M hI H locs hP hD hS ls hl
    refine lv_iload_n hx hb dL_law_18 rfl (lv_at hl 3 rfl) ?_
    refine lv_aload_n hx hb dL_law_19 rfl (lv_at hl 0 rfl) ?_
    refine va_slen hx hb hX hbl hbA hS dL_law_20 ?_
    refine lv_iconst (v := 5) hx hb dL_law_21 (by decide) ?_
    refine lv_isub hx hb dL_law_22 ?_
    refine lv_icmp_gt (tgt := 1206) hx hb dL_law_23 (by decide) (fun _ => ?_) (fun c0 => ?_)
    · refine lv_iconst (v := 1) hx hb dL_law_1206 (by decide) ?_
      refine va_forget (fun q hq => hS.2.2 q hq) ?_
      refine W.widen (k := 623107) (n := 7232928) (Nat.le_of_ble_eq_true rfl) (Nat.le_of_ble_eq_true rfl) ?_
      exact lw_ret hx hb hr hlocks dL_law_1207
    · have h5 : i + 5 ≤ L := lw_more hL hi c0
      have hin : vp_in (nI i) L := vp_in_nI (by omega) (by omega)
      have kont : LCont Inv p l e s m b below meth c D cI cZ ad am i := by
        intro X0 X1 X2 X3 X4 X5 X6 X7 X8 M H locs ls hI hP hD hS hl
        unfold LW
        refine lv_iinc (v := nI (i + 5)) (lv' := [(3, .int (nI (i + 5))), (0, .ref b), (1, .ref (ad 0)), (2, .ref (am 0))]) hx hb dL_law_1200 hl (k := 3) rfl (nI_k i 5 (by decide)) (by decide) rfl (fun ls hl => ?_)
        refine lv_goto (tgt := 18) hx hb dL_law_1203 (by decide) ?_
        exact ih (i + 5) h5 (by omega) X0 X1 X2 X3 X4 X5 X6 X7 X8 M hI _ _ hP hD hS ls (lv_sub hl [1, 2, 3, 0] rfl)
      refine lv_aload_n hx hb dL_law_26 rfl (lv_at hl 0 rfl) ?_
      refine lv_iload_n hx hb dL_law_27 rfl (lv_at hl 3 rfl) ?_
      refine va_sld hx hb hX hbl hbA hS hin dL_law_28 ?_
      refine lv_bipush (v := 63) hx hb dL_law_29 (by decide) ?_
      refine lv_iand hx hb dL_law_31 ?_
      by_cases c1 : ((xs (nI i).toNatClampNeg) &&& 63) = 0
      · refine lv_tableIn (off := 156) (tgt := 188) hx hb dL_law_32 (by rw [c1]; decide) (by rw [c1]; decide) (by rw [c1]; rfl) (by decide) ?_
        exact law_case_0 (sims.2.1) hL C1 D cI cZ ad am i h5 hK hN kont X0 X1 X2 X3 X4 X5 X6 X7 X8 M _ _ ls hI hP hD hS hl
      by_cases c2 : ((xs (nI i).toNatClampNeg) &&& 63) = 1
      · refine lv_tableIn (off := 179) (tgt := 211) hx hb dL_law_32 (by rw [c2]; decide) (by rw [c2]; decide) (by rw [c2]; rfl) (by decide) ?_
        exact law_case_1 (sims.2.2.1) hL C1 D cI cZ ad am i h5 hK hN kont X0 X1 X2 X3 X4 X5 X6 X7 X8 M _ _ ls hI hP hD hS hl
      by_cases c3 : ((xs (nI i).toNatClampNeg) &&& 63) = 2
      · refine lv_tableIn (off := 202) (tgt := 234) hx hb dL_law_32 (by rw [c3]; decide) (by rw [c3]; decide) (by rw [c3]; rfl) (by decide) ?_
        exact law_case_2 (sims.2.2.2.1) hL C1 D cI cZ ad am i h5 hK hN kont X0 X1 X2 X3 X4 X5 X6 X7 X8 M _ _ ls hI hP hD hS hl
      by_cases c4 : ((xs (nI i).toNatClampNeg) &&& 63) = 3
      · refine lv_tableIn (off := 245) (tgt := 277) hx hb dL_law_32 (by rw [c4]; decide) (by rw [c4]; decide) (by rw [c4]; rfl) (by decide) ?_
        exact law_case_3 (sims.2.2.2.2.1) hL C1 D cI cZ ad am i h5 hK hN kont X0 X1 X2 X3 X4 X5 X6 X7 X8 M _ _ ls hI hP hD hS hl
      by_cases c5 : ((xs (nI i).toNatClampNeg) &&& 63) = 4
      · refine lv_tableIn (off := 268) (tgt := 300) hx hb dL_law_32 (by rw [c5]; decide) (by rw [c5]; decide) (by rw [c5]; rfl) (by decide) ?_
        exact law_case_4 (sims.2.2.2.2.2.1) hL C1 D cI cZ ad am i h5 hK hN kont X0 X1 X2 X3 X4 X5 X6 X7 X8 M _ _ ls hI hP hD hS hl
      by_cases c6 : ((xs (nI i).toNatClampNeg) &&& 63) = 5
      · refine lv_tableIn (off := 281) (tgt := 313) hx hb dL_law_32 (by rw [c6]; decide) (by rw [c6]; decide) (by rw [c6]; rfl) (by decide) ?_
        exact law_case_5 (sims.2.2.2.2.2.2.1) hL C1 D cI cZ ad am i h5 hK hN kont X0 X1 X2 X3 X4 X5 X6 X7 X8 M _ _ ls hI hP hD hS hl
      by_cases c7 : ((xs (nI i).toNatClampNeg) &&& 63) = 6
      · refine lv_tableIn (off := 294) (tgt := 326) hx hb dL_law_32 (by rw [c7]; decide) (by rw [c7]; decide) (by rw [c7]; rfl) (by decide) ?_
        exact law_case_6 (sims.2.2.2.2.2.2.2.1) hL C1 D cI cZ ad am i h5 hK hN kont X0 X1 X2 X3 X4 X5 X6 X7 X8 M _ _ ls hI hP hD hS hl
      by_cases c8 : ((xs (nI i).toNatClampNeg) &&& 63) = 7
      · refine lv_tableIn (off := 317) (tgt := 349) hx hb dL_law_32 (by rw [c8]; decide) (by rw [c8]; decide) (by rw [c8]; rfl) (by decide) ?_
        exact law_case_7 (sims.2.2.2.2.2.2.2.2.1) hL C1 D cI cZ ad am i h5 hK hN kont X0 X1 X2 X3 X4 X5 X6 X7 X8 M _ _ ls hI hP hD hS hl
      by_cases c9 : ((xs (nI i).toNatClampNeg) &&& 63) = 8
      · refine lv_tableIn (off := 330) (tgt := 362) hx hb dL_law_32 (by rw [c9]; decide) (by rw [c9]; decide) (by rw [c9]; rfl) (by decide) ?_
        exact law_case_8 (sims.2.2.2.2.2.2.2.2.2.1) hL C1 D cI cZ ad am i h5 hK hN kont X0 X1 X2 X3 X4 X5 X6 X7 X8 M _ _ ls hI hP hD hS hl
      by_cases c10 : ((xs (nI i).toNatClampNeg) &&& 63) = 9
      · refine lv_tableIn (off := 363) (tgt := 395) hx hb dL_law_32 (by rw [c10]; decide) (by rw [c10]; decide) (by rw [c10]; rfl) (by decide) ?_
        exact law_case_9 (sims.2.2.2.2.2.2.2.2.2.2.1) hL C1 D cI cZ ad am i h5 hK hN kont X0 X1 X2 X3 X4 X5 X6 X7 X8 M _ _ ls hI hP hD hS hl
      by_cases c11 : ((xs (nI i).toNatClampNeg) &&& 63) = 10
      · refine lv_tableIn (off := 396) (tgt := 428) hx hb dL_law_32 (by rw [c11]; decide) (by rw [c11]; decide) (by rw [c11]; rfl) (by decide) ?_
        exact law_case_10 (sims.2.2.2.2.2.2.2.2.2.2.2.1) hL C1 D cI cZ ad am i h5 hK hN kont X0 X1 X2 X3 X4 X5 X6 X7 X8 M _ _ ls hI hP hD hS hl
      by_cases c12 : ((xs (nI i).toNatClampNeg) &&& 63) = 11
      · refine lv_tableIn (off := 409) (tgt := 441) hx hb dL_law_32 (by rw [c12]; decide) (by rw [c12]; decide) (by rw [c12]; rfl) (by decide) ?_
        exact law_case_11 (sims.2.2.2.2.2.2.2.2.2.2.2.2.1) hL C1 D cI cZ ad am i h5 hK hN kont X0 X1 X2 X3 X4 X5 X6 X7 X8 M _ _ ls hI hP hD hS hl
      by_cases c13 : ((xs (nI i).toNatClampNeg) &&& 63) = 12
      · refine lv_tableIn (off := 442) (tgt := 474) hx hb dL_law_32 (by rw [c13]; decide) (by rw [c13]; decide) (by rw [c13]; rfl) (by decide) ?_
        exact law_case_12 (sims.2.2.2.2.2.2.2.2.2.2.2.2.2.1) hL C1 D cI cZ ad am i h5 hK hN kont X0 X1 X2 X3 X4 X5 X6 X7 X8 M _ _ ls hI hP hD hS hl
      by_cases c14 : ((xs (nI i).toNatClampNeg) &&& 63) = 13
      · refine lv_tableIn (off := 475) (tgt := 507) hx hb dL_law_32 (by rw [c14]; decide) (by rw [c14]; decide) (by rw [c14]; rfl) (by decide) ?_
        exact law_case_13 (sims.2.2.2.2.2.2.2.2.2.2.2.2.2.2.1) hL C1 D cI cZ ad am i h5 hK hN kont X0 X1 X2 X3 X4 X5 X6 X7 X8 M _ _ ls hI hP hD hS hl
      by_cases c15 : ((xs (nI i).toNatClampNeg) &&& 63) = 14
      · refine lv_tableIn (off := 508) (tgt := 540) hx hb dL_law_32 (by rw [c15]; decide) (by rw [c15]; decide) (by rw [c15]; rfl) (by decide) ?_
        exact law_case_14 (sims.2.2.2.2.2.2.2.2.2.2.2.2.2.2.2.1) hL C1 D cI cZ ad am i h5 hK hN kont X0 X1 X2 X3 X4 X5 X6 X7 X8 M _ _ ls hI hP hD hS hl
      by_cases c16 : ((xs (nI i).toNatClampNeg) &&& 63) = 15
      · refine lv_tableIn (off := 551) (tgt := 583) hx hb dL_law_32 (by rw [c16]; decide) (by rw [c16]; decide) (by rw [c16]; rfl) (by decide) ?_
        exact law_case_15 (sims.2.2.2.2.2.2.2.2.2.2.2.2.2.2.2.2.1) hL C1 D cI cZ ad am i h5 hK hN kont X0 X1 X2 X3 X4 X5 X6 X7 X8 M _ _ ls hI hP hD hS hl
      by_cases c17 : ((xs (nI i).toNatClampNeg) &&& 63) = 16
      · refine lv_tableIn (off := 594) (tgt := 626) hx hb dL_law_32 (by rw [c17]; decide) (by rw [c17]; decide) (by rw [c17]; rfl) (by decide) ?_
        exact law_case_16 (sims.2.2.2.2.2.2.2.2.2.2.2.2.2.2.2.2.2.1) hL C1 D cI cZ ad am i h5 hK hN kont X0 X1 X2 X3 X4 X5 X6 X7 X8 M _ _ ls hI hP hD hS hl
      by_cases c18 : ((xs (nI i).toNatClampNeg) &&& 63) = 17
      · refine lv_tableIn (off := 637) (tgt := 669) hx hb dL_law_32 (by rw [c18]; decide) (by rw [c18]; decide) (by rw [c18]; rfl) (by decide) ?_
        exact law_case_17 (sims.2.2.2.2.2.2.2.2.2.2.2.2.2.2.2.2.2.2.1) hL C1 D cI cZ ad am i h5 hK hN kont X0 X1 X2 X3 X4 X5 X6 X7 X8 M _ _ ls hI hP hD hS hl
      by_cases c19 : ((xs (nI i).toNatClampNeg) &&& 63) = 18
      · refine lv_tableIn (off := 680) (tgt := 712) hx hb dL_law_32 (by rw [c19]; decide) (by rw [c19]; decide) (by rw [c19]; rfl) (by decide) ?_
        exact law_case_18 (sims.2.2.2.2.2.2.2.2.2.2.2.2.2.2.2.2.2.2.2.1) hL C1 D cI cZ ad am i h5 hK hN kont X0 X1 X2 X3 X4 X5 X6 X7 X8 M _ _ ls hI hP hD hS hl
      by_cases c20 : ((xs (nI i).toNatClampNeg) &&& 63) = 19
      · refine lv_tableIn (off := 703) (tgt := 735) hx hb dL_law_32 (by rw [c20]; decide) (by rw [c20]; decide) (by rw [c20]; rfl) (by decide) ?_
        exact law_case_19 (sims.2.2.2.2.2.2.2.2.2.2.2.2.2.2.2.2.2.2.2.2.1) hL C1 D cI cZ ad am i h5 hK hN kont X0 X1 X2 X3 X4 X5 X6 X7 X8 M _ _ ls hI hP hD hS hl
      by_cases c21 : ((xs (nI i).toNatClampNeg) &&& 63) = 20
      · refine lv_tableIn (off := 746) (tgt := 778) hx hb dL_law_32 (by rw [c21]; decide) (by rw [c21]; decide) (by rw [c21]; rfl) (by decide) ?_
        exact law_case_20 (sims.2.2.2.2.2.2.2.2.2.2.2.2.2.2.2.2.2.2.2.2.2.1) hL C1 D cI cZ ad am i h5 hK hN kont X0 X1 X2 X3 X4 X5 X6 X7 X8 M _ _ ls hI hP hD hS hl
      by_cases c22 : ((xs (nI i).toNatClampNeg) &&& 63) = 21
      · refine lv_tableIn (off := 779) (tgt := 811) hx hb dL_law_32 (by rw [c22]; decide) (by rw [c22]; decide) (by rw [c22]; rfl) (by decide) ?_
        exact law_case_21 (sims.2.2.2.2.2.2.2.2.2.2.2.2.2.2.2.2.2.2.2.2.2.2.1) hL C1 D cI cZ ad am i h5 hK hN kont X0 X1 X2 X3 X4 X5 X6 X7 X8 M _ _ ls hI hP hD hS hl
      by_cases c23 : ((xs (nI i).toNatClampNeg) &&& 63) = 22
      · refine lv_tableIn (off := 802) (tgt := 834) hx hb dL_law_32 (by rw [c23]; decide) (by rw [c23]; decide) (by rw [c23]; rfl) (by decide) ?_
        exact law_case_22 (sims.2.2.2.2.2.2.2.2.2.2.2.2.2.2.2.2.2.2.2.2.2.2.2.1) hL C1 D cI cZ ad am i h5 hK hN kont X0 X1 X2 X3 X4 X5 X6 X7 X8 M _ _ ls hI hP hD hS hl
      by_cases c24 : ((xs (nI i).toNatClampNeg) &&& 63) = 23
      · refine lv_tableIn (off := 835) (tgt := 867) hx hb dL_law_32 (by rw [c24]; decide) (by rw [c24]; decide) (by rw [c24]; rfl) (by decide) ?_
        exact law_case_23 (sims.2.2.2.2.2.2.2.2.2.2.2.2.2.2.2.2.2.2.2.2.2.2.2.2.1) hL C1 D cI cZ ad am i h5 hK hN kont X0 X1 X2 X3 X4 X5 X6 X7 X8 M _ _ ls hI hP hD hS hl
      by_cases c25 : ((xs (nI i).toNatClampNeg) &&& 63) = 24
      · refine lv_tableIn (off := 884) (tgt := 916) hx hb dL_law_32 (by rw [c25]; decide) (by rw [c25]; decide) (by rw [c25]; rfl) (by decide) ?_
        exact law_case_24 (sims.2.2.2.2.2.2.2.2.2.2.2.2.2.2.2.2.2.2.2.2.2.2.2.2.2.1) hL C1 D cI cZ ad am i h5 hK hN kont X0 X1 X2 X3 X4 X5 X6 X7 X8 M _ _ ls hI hP hD hS hl
      by_cases c26 : ((xs (nI i).toNatClampNeg) &&& 63) = 25
      · refine lv_tableIn (off := 897) (tgt := 929) hx hb dL_law_32 (by rw [c26]; decide) (by rw [c26]; decide) (by rw [c26]; rfl) (by decide) ?_
        exact law_case_25 (sims.2.2.2.2.2.2.2.2.2.2.2.2.2.2.2.2.2.2.2.2.2.2.2.2.2.2.1) hL C1 D cI cZ ad am i h5 hK hN kont X0 X1 X2 X3 X4 X5 X6 X7 X8 M _ _ ls hI hP hD hS hl
      by_cases c27 : ((xs (nI i).toNatClampNeg) &&& 63) = 26
      · refine lv_tableIn (off := 920) (tgt := 952) hx hb dL_law_32 (by rw [c27]; decide) (by rw [c27]; decide) (by rw [c27]; rfl) (by decide) ?_
        exact law_case_26 (sims.2.2.2.2.2.2.2.2.2.2.2.2.2.2.2.2.2.2.2.2.2.2.2.2.2.2.2.1) hL C1 D cI cZ ad am i h5 hK hN kont X0 X1 X2 X3 X4 X5 X6 X7 X8 M _ _ ls hI hP hD hS hl
      by_cases c28 : ((xs (nI i).toNatClampNeg) &&& 63) = 27
      · refine lv_tableIn (off := 943) (tgt := 975) hx hb dL_law_32 (by rw [c28]; decide) (by rw [c28]; decide) (by rw [c28]; rfl) (by decide) ?_
        exact law_case_27 (sims.2.2.2.2.2.2.2.2.2.2.2.2.2.2.2.2.2.2.2.2.2.2.2.2.2.2.2.2.1) hL C1 D cI cZ ad am i h5 hK hN kont X0 X1 X2 X3 X4 X5 X6 X7 X8 M _ _ ls hI hP hD hS hl
      by_cases c29 : ((xs (nI i).toNatClampNeg) &&& 63) = 28
      · refine lv_tableIn (off := 966) (tgt := 998) hx hb dL_law_32 (by rw [c29]; decide) (by rw [c29]; decide) (by rw [c29]; rfl) (by decide) ?_
        exact law_case_28 (sims.2.2.2.2.2.2.2.2.2.2.2.2.2.2.2.2.2.2.2.2.2.2.2.2.2.2.2.2.2.1) hL C1 D cI cZ ad am i h5 hK hN kont X0 X1 X2 X3 X4 X5 X6 X7 X8 M _ _ ls hI hP hD hS hl
      by_cases c30 : ((xs (nI i).toNatClampNeg) &&& 63) = 29
      · refine lv_tableIn (off := 979) (tgt := 1011) hx hb dL_law_32 (by rw [c30]; decide) (by rw [c30]; decide) (by rw [c30]; rfl) (by decide) ?_
        exact law_case_29 (sims.2.2.2.2.2.2.2.2.2.2.2.2.2.2.2.2.2.2.2.2.2.2.2.2.2.2.2.2.2.2.1) hL C1 D cI cZ ad am i h5 hK hN kont X0 X1 X2 X3 X4 X5 X6 X7 X8 M _ _ ls hI hP hD hS hl
      by_cases c31 : ((xs (nI i).toNatClampNeg) &&& 63) = 30
      · refine lv_tableIn (off := 1002) (tgt := 1034) hx hb dL_law_32 (by rw [c31]; decide) (by rw [c31]; decide) (by rw [c31]; rfl) (by decide) ?_
        exact law_case_30 (sims.2.2.2.2.2.2.2.2.2.2.2.2.2.2.2.2.2.2.2.2.2.2.2.2.2.2.2.2.2.2.2.1) hL C1 D cI cZ ad am i h5 hK hN kont X0 X1 X2 X3 X4 X5 X6 X7 X8 M _ _ ls hI hP hD hS hl
      by_cases c32 : ((xs (nI i).toNatClampNeg) &&& 63) = 31
      · refine lv_tableIn (off := 1056) (tgt := 1088) hx hb dL_law_32 (by rw [c32]; decide) (by rw [c32]; decide) (by rw [c32]; rfl) (by decide) ?_
        exact law_case_31 (sims.2.2.2.2.2.2.2.2.2.2.2.2.2.2.2.2.2.2.2.2.2.2.2.2.2.2.2.2.2.2.2.2.1) hL C1 D cI cZ ad am i h5 hK hN kont X0 X1 X2 X3 X4 X5 X6 X7 X8 M _ _ ls hI hP hD hS hl
      by_cases c33 : ((xs (nI i).toNatClampNeg) &&& 63) = 32
      · refine lv_tableIn (off := 1099) (tgt := 1131) hx hb dL_law_32 (by rw [c33]; decide) (by rw [c33]; decide) (by rw [c33]; rfl) (by decide) ?_
        exact law_case_32 (sims.2.2.2.2.2.2.2.2.2.2.2.2.2.2.2.2.2.2.2.2.2.2.2.2.2.2.2.2.2.2.2.2.2.1) hL C1 D cI cZ ad am i h5 hK hN kont X0 X1 X2 X3 X4 X5 X6 X7 X8 M _ _ ls hI hP hD hS hl
      by_cases c34 : ((xs (nI i).toNatClampNeg) &&& 63) = 33
      · refine lv_tableIn (off := 1122) (tgt := 1154) hx hb dL_law_32 (by rw [c34]; decide) (by rw [c34]; decide) (by rw [c34]; rfl) (by decide) ?_
        exact law_case_33 (sims.2.2.2.2.2.2.2.2.2.2.2.2.2.2.2.2.2.2.2.2.2.2.2.2.2.2.2.2.2.2.2.2.2.2.1) hL C1 D cI cZ ad am i h5 hK hN kont X0 X1 X2 X3 X4 X5 X6 X7 X8 M _ _ ls hI hP hD hS hl
      by_cases c35 : ((xs (nI i).toNatClampNeg) &&& 63) = 34
      · refine lv_tableIn (off := 1145) (tgt := 1177) hx hb dL_law_32 (by rw [c35]; decide) (by rw [c35]; decide) (by rw [c35]; rfl) (by decide) ?_
        exact law_case_34 (sims.2.2.2.2.2.2.2.2.2.2.2.2.2.2.2.2.2.2.2.2.2.2.2.2.2.2.2.2.2.2.2.2.2.2.2) hL C1 D cI cZ ad am i h5 hK hN kont X0 X1 X2 X3 X4 X5 X6 X7 X8 M _ _ ls hI hP hD hS hl
      have e1 : ((xs (nI i).toNatClampNeg) &&& 63).toInt ≠ 0 := ne_toInt c1
      have e2 : ((xs (nI i).toNatClampNeg) &&& 63).toInt ≠ 1 := ne_toInt c2
      have e3 : ((xs (nI i).toNatClampNeg) &&& 63).toInt ≠ 2 := ne_toInt c3
      have e4 : ((xs (nI i).toNatClampNeg) &&& 63).toInt ≠ 3 := ne_toInt c4
      have e5 : ((xs (nI i).toNatClampNeg) &&& 63).toInt ≠ 4 := ne_toInt c5
      have e6 : ((xs (nI i).toNatClampNeg) &&& 63).toInt ≠ 5 := ne_toInt c6
      have e7 : ((xs (nI i).toNatClampNeg) &&& 63).toInt ≠ 6 := ne_toInt c7
      have e8 : ((xs (nI i).toNatClampNeg) &&& 63).toInt ≠ 7 := ne_toInt c8
      have e9 : ((xs (nI i).toNatClampNeg) &&& 63).toInt ≠ 8 := ne_toInt c9
      have e10 : ((xs (nI i).toNatClampNeg) &&& 63).toInt ≠ 9 := ne_toInt c10
      have e11 : ((xs (nI i).toNatClampNeg) &&& 63).toInt ≠ 10 := ne_toInt c11
      have e12 : ((xs (nI i).toNatClampNeg) &&& 63).toInt ≠ 11 := ne_toInt c12
      have e13 : ((xs (nI i).toNatClampNeg) &&& 63).toInt ≠ 12 := ne_toInt c13
      have e14 : ((xs (nI i).toNatClampNeg) &&& 63).toInt ≠ 13 := ne_toInt c14
      have e15 : ((xs (nI i).toNatClampNeg) &&& 63).toInt ≠ 14 := ne_toInt c15
      have e16 : ((xs (nI i).toNatClampNeg) &&& 63).toInt ≠ 15 := ne_toInt c16
      have e17 : ((xs (nI i).toNatClampNeg) &&& 63).toInt ≠ 16 := ne_toInt c17
      have e18 : ((xs (nI i).toNatClampNeg) &&& 63).toInt ≠ 17 := ne_toInt c18
      have e19 : ((xs (nI i).toNatClampNeg) &&& 63).toInt ≠ 18 := ne_toInt c19
      have e20 : ((xs (nI i).toNatClampNeg) &&& 63).toInt ≠ 19 := ne_toInt c20
      have e21 : ((xs (nI i).toNatClampNeg) &&& 63).toInt ≠ 20 := ne_toInt c21
      have e22 : ((xs (nI i).toNatClampNeg) &&& 63).toInt ≠ 21 := ne_toInt c22
      have e23 : ((xs (nI i).toNatClampNeg) &&& 63).toInt ≠ 22 := ne_toInt c23
      have e24 : ((xs (nI i).toNatClampNeg) &&& 63).toInt ≠ 23 := ne_toInt c24
      have e25 : ((xs (nI i).toNatClampNeg) &&& 63).toInt ≠ 24 := ne_toInt c25
      have e26 : ((xs (nI i).toNatClampNeg) &&& 63).toInt ≠ 25 := ne_toInt c26
      have e27 : ((xs (nI i).toNatClampNeg) &&& 63).toInt ≠ 26 := ne_toInt c27
      have e28 : ((xs (nI i).toNatClampNeg) &&& 63).toInt ≠ 27 := ne_toInt c28
      have e29 : ((xs (nI i).toNatClampNeg) &&& 63).toInt ≠ 28 := ne_toInt c29
      have e30 : ((xs (nI i).toNatClampNeg) &&& 63).toInt ≠ 29 := ne_toInt c30
      have e31 : ((xs (nI i).toNatClampNeg) &&& 63).toInt ≠ 30 := ne_toInt c31
      have e32 : ((xs (nI i).toNatClampNeg) &&& 63).toInt ≠ 31 := ne_toInt c32
      have e33 : ((xs (nI i).toNatClampNeg) &&& 63).toInt ≠ 32 := ne_toInt c33
      have e34 : ((xs (nI i).toNatClampNeg) &&& 63).toInt ≠ 33 := ne_toInt c34
      have e35 : ((xs (nI i).toNatClampNeg) &&& 63).toInt ≠ 34 := ne_toInt c35
      refine lv_tableOut (tgt := 1200) hx hb dL_law_32 (by omega) (by decide) ?_
      exact kont X0 X1 X2 X3 X4 X5 X6 X7 X8 M _ _ ls hI hP hD hS hl
set_option maxHeartbeats 4000000 in
set_option maxRecDepth 100000 in
theorem start_open {Inv : InvT} (sims : Sims Inv) {p : Program} {e : Env} {s : State} {m : MethodId} {below : List Frame} {meth : Method} {c : Code} (l : Launch) {b L : Nat} {xs : Nat → Int32} (hL : L ≤ 320) (C0 : lw_At p s m meth c b L xs) : W p l e room_1 s m #[Value.ref b] below meth c s.heap [] 0 0 (lw_Z below #[Value.ref b] s) (entryFrame m ([Value.ref b] : List Value).toArray 4) := by
  obtain ⟨hx, hb, hr, hml, hown, hts, hX, hbl, hlocks, hgv⟩ := id C0
  have hW := WT_lw hts
  have hN : NW s := by
    intro w hw
    have h1 := hts w (nestW_tbl w hw)
    obtain ⟨a, i, x, hh, rfl⟩ := nestW_form w hw
    exact va_Nw.of rfl h1
  have hA : ∀ q : Nat, s.heap.size ≤ q → lwA s q := fun _ h => h
  have hbA : ¬ lwA s b := Nat.not_le.mpr hbl
  obtain ⟨c0, iS0, hKn0⟩ := u_known (C := RX0) (T := TX0) (N := 7) (n := 7) hW inW_X0 (hW _ isb_X0)
  obtain ⟨c1, iS1, hKn1⟩ := u_known (C := RX1) (T := TX1) (N := 2) (n := 2) hW inW_X1 (hW _ isb_X1)
  obtain ⟨c2, iS2, hKn2⟩ := u_known (C := RX2) (T := TX2) (N := 15) (n := 15) hW inW_X2 (hW _ isb_X2)
  obtain ⟨c3, iS3, hKn3⟩ := u_known (C := RX3) (T := TX3) (N := 1) (n := 1) hW inW_X3 (hW _ isb_X3)
  obtain ⟨c4, iS4, hKn4⟩ := u_known (C := RX4) (T := TX4) (N := 2) (n := 2) hW inW_X4 (hW _ isb_X4)
  obtain ⟨c5, iS5, hKn5⟩ := u_known (C := RX5) (T := TX5) (N := 2) (n := 2) hW inW_X5 (hW _ isb_X5)
  obtain ⟨c6, iS6, hKn6⟩ := u_known (C := RX6) (T := TX6) (N := 9) (n := 9) hW inW_X6 (hW _ isb_X6)
  obtain ⟨c7, iS7, hKn7⟩ := u_known (C := RX7) (T := TX7) (N := 27) (n := 27) hW inW_X7 (hW _ isb_X7)
  obtain ⟨dC, dI, hKc⟩ : ∃ (dC : Nat → ClassId) (dI : Nat → Nat → Nat), ∀ (k : Nat) (q : vw_C), classes[k]? = some q → u_Kn s q.1 q.2.1 q.2.2 (dC k) (dI k) := by
    refine ⟨fun k => if k = 0 then c0 else if k = 1 then c1 else if k = 2 then c2 else if k = 3 then c3 else if k = 4 then c4 else if k = 5 then c5 else if k = 6 then c6 else c7, fun k => if k = 0 then iS0 else if k = 1 then iS1 else if k = 2 then iS2 else if k = 3 then iS3 else if k = 4 then iS4 else if k = 5 then iS5 else if k = 6 then iS6 else iS7, ?_⟩
    intro k q hq
    match k, hq with
    | 0, hq => cases hq; exact hKn0
    | 1, hq => cases hq; exact hKn1
    | 2, hq => cases hq; exact hKn2
    | 3, hq => cases hq; exact hKn3
    | 4, hq => cases hq; exact hKn4
    | 5, hq => cases hq; exact hKn5
    | 6, hq => cases hq; exact hKn6
    | 7, hq => cases hq; exact hKn7
    | k + 8, hq => simp [classes] at hq
  obtain ⟨cI, kI, compI, i1, i2, i3⟩ := Cond.arrayClass_spec (hW _ ac_int)
  obtain ⟨cZ, kZ, compZ, z1, z2, z3⟩ := Cond.arrayClass_spec (hW _ ac_boolean)
  have hK : va_K (dC, dI) classes (tysOf cI cZ) s := by
    refine ⟨hKc, fun k q hq => ?_⟩
    match k, hq with
    | 0, hq => cases hq; exact ⟨fun n z => ⟨fun k h => (by cases h), kI, i2, compI, i3⟩, i1⟩
    | 1, hq => cases hq; exact ⟨fun n z => ⟨fun k h => (by cases h), kZ, z2, compZ, z3⟩, z1⟩
    | k + 2, hq => simp at hq
  have hS : va_S (lwA s) s.heap s.heap [] := va_S.rf
  have hP : va_P (dC, dI) classes (jn []) s.heap := fun k q h => by simp [jn] at h
  have hD : va_D (lwA s) (jn []) := ⟨fun i j p q h => by simp [jn] at h, fun k q h => by simp [jn] at h⟩
  have hl := lv_entry ([.ref b]) (n := 4) (Nat.le_of_ble_eq_true rfl)
  rw [lg_entry_eq]
  generalize (lg_sl ([.ref b]) ++ List.replicate (4 - (lg_sl ([.ref b])).length) Slot.unset).toArray = ls at hl ⊢
  have hl : lv_has ls 4 [(0, .ref b)] := hl
  have hw := sims.1
  refine va_new (ci := 6) (fs := [.null, .null, .null, .null, .null, .null, .null, .null, .null]) (C := RX6) (T := TX6) (N := 9) hx hb hW inW_X6 tyX6 tyX6_ok hown (hW _ cl_L_7) (hW _ isb_X6) (hW _ ini_X6) hK hP hD hS hA rfl (fun j hj => by rcases (show j = 0 ∨ j = 1 ∨ j = 2 ∨ j = 3 ∨ j = 4 ∨ j = 5 ∨ j = 6 ∨ j = 7 ∨ j = 8 by omega) with rfl | rfl | rfl | rfl | rfl | rfl | rfl | rfl | rfl <;> rfl) (Nat.le_of_ble_eq_true rfl) (Nat.le_of_ble_eq_true rfl) dL_law_0 (fun q0 H hP hD hS => ?_)
  rw [jn_push] at hP hD
  refine lv_dup hx hb dL_law_3 rfl ?_
  refine callC (Bs := []) (va_runI (As := []) (rest := [.ref q0]) ⟨hx, hb, hml, hown, hW⟩ (c_X6_init l (dC, dI) cI cZ q0 H.size _ hw) (cwI0 hW mI_X6_init ml_L_9 ⟨Nat.le_of_ble_eq_true rfl, Nat.le_of_ble_eq_true rfl⟩) (preC0 (Bs := []) (A := lwA s) hK hN hP) rfl rfl hl.1 rfl (lv_room (Nat.le_of_ble_eq_true rfl)) dL_law_4 ⟨Nat.le_of_ble_eq_true rfl, Nat.le_of_ble_eq_true rfl⟩) hP hD hS hA (fun u9 H locs hq9 hP hD hS => ?_)
  obtain ⟨ad, S⟩ := u9
  obtain ⟨ha9, hw⟩ := hq9
  dsimp only at ha9 hw
  rw [← ha9]
  have BX : va_P (dC, dI) classes (jn [xcell ad, rcells cI ad 1 S, rcells cI ad 18 Z0, rcells cI ad 35 Z0, rcells cI ad 52 Z0, kcells cI (ad 69) (ad 70) 2 (fun _ => 0), pcells cI ad 71 Z0, ycells ad 74 Z0, dcells cI ad 75 Z0, wcells cI ad 78 Z0]) H := by
    have h := hP
    rw [List.nil_append, jn_one] at h
    exact h
  have BD : va_D (lwA s) (jn [xcell ad, rcells cI ad 1 S, rcells cI ad 18 Z0, rcells cI ad 35 Z0, rcells cI ad 52 Z0, kcells cI (ad 69) (ad 70) 2 (fun _ => 0), pcells cI ad 71 Z0, ycells ad 74 Z0, dcells cI ad 75 Z0, wcells cI ad 78 Z0]) := by
    have h := hD
    rw [List.nil_append, jn_one] at h
    exact h
  clear hP hD
  refine lv_astore_n (lv' := [(1, .ref (ad 0)), (0, .ref b)]) hx hb dL_law_7 rfl hl (by decide) rfl (fun ls hl => ?_)
  refine va_new (ci := 7) (fs := [.int 0, .int 0, .int 0, .int 0, .int 0, .null, .null, .null, .null, .null, .int 0, .null, .int 0, .null, .int 0, .int 0, .int 0, .null, .null, .null, .null, .int 0, .int 0, .null, .null, .null, .null]) (C := RX7) (T := TX7) (N := 27) hx hb hW inW_X7 tyX7 tyX7_ok hown (hW _ cl_L_10) (hW _ isb_X7) (hW _ ini_X7) hK BX BD hS hA rfl (fun j hj => by rcases (show j = 0 ∨ j = 1 ∨ j = 2 ∨ j = 3 ∨ j = 4 ∨ j = 5 ∨ j = 6 ∨ j = 7 ∨ j = 8 ∨ j = 9 ∨ j = 10 ∨ j = 11 ∨ j = 12 ∨ j = 13 ∨ j = 14 ∨ j = 15 ∨ j = 16 ∨ j = 17 ∨ j = 18 ∨ j = 19 ∨ j = 20 ∨ j = 21 ∨ j = 22 ∨ j = 23 ∨ j = 24 ∨ j = 25 ∨ j = 26 by omega) with rfl | rfl | rfl | rfl | rfl | rfl | rfl | rfl | rfl | rfl | rfl | rfl | rfl | rfl | rfl | rfl | rfl | rfl | rfl | rfl | rfl | rfl | rfl | rfl | rfl | rfl | rfl <;> rfl) (Nat.le_of_ble_eq_true rfl) (Nat.le_of_ble_eq_true rfl) dL_law_8 (fun q0 H hP hD hS => ?_)
  rw [jn_push] at hP hD
  refine lv_dup hx hb dL_law_11 rfl ?_
  refine callC (Bs := [xcell ad, rcells cI ad 1 S, rcells cI ad 18 Z0, rcells cI ad 35 Z0, rcells cI ad 52 Z0, kcells cI (ad 69) (ad 70) 2 (fun _ => 0), pcells cI ad 71 Z0, ycells ad 74 Z0, dcells cI ad 75 Z0, wcells cI ad 78 Z0]) (va_runI (As := []) (rest := [.ref q0]) ⟨hx, hb, hml, hown, hW⟩ (c_X7_init l (dC, dI) cI cZ q0 H.size _ hw) (cwI0 hW mI_X7_init ml_L_12 ⟨Nat.le_of_ble_eq_true rfl, Nat.le_of_ble_eq_true rfl⟩) (preC0 (A := lwA s) hK hN hP) rfl rfl hl.1 rfl (lv_room (Nat.le_of_ble_eq_true rfl)) dL_law_12 ⟨Nat.le_of_ble_eq_true rfl, Nat.le_of_ble_eq_true rfl⟩) hP hD hS hA (fun u9 H locs hq9 hP hD hS => ?_)
  obtain ⟨am, M⟩ := u9
  obtain ⟨hb9, hw⟩ := hq9
  dsimp only at hb9 hw
  rw [← hb9]
  refine lv_astore_n (lv' := [(2, .ref (am 0)), (1, .ref (ad 0)), (0, .ref b)]) hx hb dL_law_15 rfl hl (by decide) rfl (fun ls hl => ?_)
  refine lv_iconst (v := 0) hx hb dL_law_16 (by decide) ?_
  refine lv_istore_n (lv' := [(3, .int 0), (2, .ref (am 0)), (1, .ref (ad 0)), (0, .ref b)]) hx hb dL_law_17 rfl hl (by decide) rfl (fun ls hl => ?_)
  refine W.widen (k := 99) (n := 776) (Nat.le_of_ble_eq_true rfl) (Nat.le_of_ble_eq_true rfl) ?_
  exact law_loop sims hL C0 (dC, dI) cI cZ ad am hK hN (L + 1) 0 (Nat.zero_le L) (by omega) S Z0 Z0 Z0 (fun _ => 0) Z0 Z0 Z0 Z0 M hw _ _ hP hD hS ls (lv_sub hl [3, 2, 1, 0] rfl)
