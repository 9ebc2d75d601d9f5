-- laid by wip/whole/mklaw.py: what is wanted of the two sides, and the law's walk over it
def lwB (cI cZ : ClassId) (ad am : Nat → Nat) (X0 : St) (X1 : St) (X2 : St) (X3 : St) (X4 : (Nat → Int32)) (X5 : St) (X6 : St) (X7 : St) (X8 : St) (M : St) : List va_W := [xcell ad, rcells cI ad 1 X0, rcells cI ad 18 X1, rcells cI ad 35 X2, rcells cI ad 52 X3, kcells cI (ad 69) (ad 70) 2 X4, pcells cI ad 71 X5, ycells ad 74 X6, dcells cI ad 75 X7, wcells cI ad 78 X8, mcells cI cZ am 0 M]
abbrev InvT : Type := St → St → St → St → (Nat → Int32) → St → St → St → St → St → Prop
def Sim_lands (Inv : InvT) : Prop := ∀ (X0 : St) (X1 : St) (X2 : St) (X3 : St) (X4 : (Nat → Int32)) (X5 : St) (X6 : St) (X7 : St) (X8 : St) (M : St) (a0 : Int32), Inv X0 X1 X2 X3 X4 X5 X6 X7 X8 M → wp_X6_lands X0 a0 (fun (r : Int32) (U0 : St) => wp_X7_lands M a0 (fun (q : Int32) (N : St) => r = q ∧ Inv U0 X1 X2 X3 X4 X5 X6 X7 X8 N))
def Sim_season (Inv : InvT) : Prop := ∀ (X0 : St) (X1 : St) (X2 : St) (X3 : St) (X4 : (Nat → Int32)) (X5 : St) (X6 : St) (X7 : St) (X8 : St) (M : St) (a0 : Int32), Inv X0 X1 X2 X3 X4 X5 X6 X7 X8 M → wp_X6_season X0 a0 (fun (r : Int32) (U0 : St) => wp_X7_season M a0 (fun (q : Int32) (N : St) => r = q ∧ Inv U0 X1 X2 X3 X4 X5 X6 X7 X8 N))
def Sim_set (Inv : InvT) : Prop := ∀ (X0 : St) (X1 : St) (X2 : St) (X3 : St) (X4 : (Nat → Int32)) (X5 : St) (X6 : St) (X7 : St) (X8 : St) (M : St) (a0 : Int32) (a1 : Int32) (a2 : Int32), Inv X0 X1 X2 X3 X4 X5 X6 X7 X8 M → wp_X6_set X0 a0 a1 a2 (fun (r : Int32) (U0 : St) => wp_X7_set M a0 a1 a2 (fun (q : Int32) (N : St) => r = q ∧ Inv U0 X1 X2 X3 X4 X5 X6 X7 X8 N))
def Sim_say (Inv : InvT) : Prop := ∀ (X0 : St) (X1 : St) (X2 : St) (X3 : St) (X4 : (Nat → Int32)) (X5 : St) (X6 : St) (X7 : St) (X8 : St) (M : St) (a0 : Int32), Inv X0 X1 X2 X3 X4 X5 X6 X7 X8 M → wp_X6_say X5 a0 (fun (r : Int32) (U5 : St) => wp_X7_say M a0 (fun (q : Int32) (N : St) => r = q ∧ Inv X0 X1 X2 X3 X4 U5 X6 X7 X8 N))
def Sim_wipe (Inv : InvT) : Prop := ∀ (X0 : St) (X1 : St) (X2 : St) (X3 : St) (X4 : (Nat → Int32)) (X5 : St) (X6 : St) (X7 : St) (X8 : St) (M : St), Inv X0 X1 X2 X3 X4 X5 X6 X7 X8 M → wp_X6_wipe X5 (fun (r : Int32) (U5 : St) => wp_X7_wipe M (fun (q : Int32) (N : St) => r = q ∧ Inv X0 X1 X2 X3 X4 U5 X6 X7 X8 N))
def Sim_fault (Inv : InvT) : Prop := ∀ (X0 : St) (X1 : St) (X2 : St) (X3 : St) (X4 : (Nat → Int32)) (X5 : St) (X6 : St) (X7 : St) (X8 : St) (M : St), Inv X0 X1 X2 X3 X4 X5 X6 X7 X8 M → wp_X6_fault X0 X5 (fun (r : Int32) => wp_X7_fault M (fun (q : Int32) => r = q ∧ Inv X0 X1 X2 X3 X4 X5 X6 X7 X8 M))
def Sim_judge (Inv : InvT) : Prop := ∀ (X0 : St) (X1 : St) (X2 : St) (X3 : St) (X4 : (Nat → Int32)) (X5 : St) (X6 : St) (X7 : St) (X8 : St) (M : St) (a0 : Int32), Inv X0 X1 X2 X3 X4 X5 X6 X7 X8 M → wp_X6_judge X0 X1 X5 X6 a0 (fun (r : Int32) (U1 : St) (U6 : St) => wp_X7_judge M a0 (fun (q : Int32) (N : St) => r = q ∧ Inv X0 U1 X2 X3 X4 X5 U6 X7 X8 N))
def Sim_done (Inv : InvT) : Prop := ∀ (X0 : St) (X1 : St) (X2 : St) (X3 : St) (X4 : (Nat → Int32)) (X5 : St) (X6 : St) (X7 : St) (X8 : St) (M : St), Inv X0 X1 X2 X3 X4 X5 X6 X7 X8 M → wp_X6_done X0 X1 X5 X6 (fun (r : Int32) (U0 : St) (U1 : St) (U5 : St) (U6 : St) => wp_X7_done M (fun (q : Int32) (N : St) => r = q ∧ Inv U0 U1 X2 X3 X4 U5 U6 X7 X8 N))
def Sim_state (Inv : InvT) : Prop := ∀ (X0 : St) (X1 : St) (X2 : St) (X3 : St) (X4 : (Nat → Int32)) (X5 : St) (X6 : St) (X7 : St) (X8 : St) (M : St) (a0 : Int32) (a1 : Int32), Inv X0 X1 X2 X3 X4 X5 X6 X7 X8 M → wp_X7_state M a0 a1 (fun (q : Int32) => (F_X6_state X0 a0 a1) = q ∧ Inv X0 X1 X2 X3 X4 X5 X6 X7 X8 M)
def Sim_behind (Inv : InvT) : Prop := ∀ (X0 : St) (X1 : St) (X2 : St) (X3 : St) (X4 : (Nat → Int32)) (X5 : St) (X6 : St) (X7 : St) (X8 : St) (M : St) (a0 : Int32) (a1 : Int32), Inv X0 X1 X2 X3 X4 X5 X6 X7 X8 M → wp_X6_behind X0 X1 X5 X6 a0 a1 (fun (r : Int32) (U1 : St) (U6 : St) => wp_X7_behind M a0 a1 (fun (q : Int32) (N : St) => r = q ∧ Inv X0 U1 X2 X3 X4 X5 U6 X7 X8 N))
def Sim_day (Inv : InvT) : Prop := ∀ (X0 : St) (X1 : St) (X2 : St) (X3 : St) (X4 : (Nat → Int32)) (X5 : St) (X6 : St) (X7 : St) (X8 : St) (M : St), Inv X0 X1 X2 X3 X4 X5 X6 X7 X8 M → wp_X6_day X0 X1 X5 X6 (fun (r : Int32) (U1 : St) (U6 : St) => wp_X7_day M (fun (q : Int32) (N : St) => r = q ∧ Inv X0 U1 X2 X3 X4 X5 U6 X7 X8 N))
def Sim_where (Inv : InvT) : Prop := ∀ (X0 : St) (X1 : St) (X2 : St) (X3 : St) (X4 : (Nat → Int32)) (X5 : St) (X6 : St) (X7 : St) (X8 : St) (M : St) (a0 : Int32) (a1 : Int32), Inv X0 X1 X2 X3 X4 X5 X6 X7 X8 M → wp_X7_where M a0 a1 (fun (q : Int32) => (F_X6_where X0 a0 a1) = q ∧ Inv X0 X1 X2 X3 X4 X5 X6 X7 X8 M)
def Sim_who (Inv : InvT) : Prop := ∀ (X0 : St) (X1 : St) (X2 : St) (X3 : St) (X4 : (Nat → Int32)) (X5 : St) (X6 : St) (X7 : St) (X8 : St) (M : St) (a0 : Int32) (a1 : Int32), Inv X0 X1 X2 X3 X4 X5 X6 X7 X8 M → wp_X6_who X0 a0 a1 (fun (r : Int32) => wp_X7_who M a0 a1 (fun (q : Int32) => r = q ∧ Inv X0 X1 X2 X3 X4 X5 X6 X7 X8 M))
def Sim_meet (Inv : InvT) : Prop := ∀ (X0 : St) (X1 : St) (X2 : St) (X3 : St) (X4 : (Nat → Int32)) (X5 : St) (X6 : St) (X7 : St) (X8 : St) (M : St) (a0 : Int32) (a1 : Int32), Inv X0 X1 X2 X3 X4 X5 X6 X7 X8 M → wp_X6_meet X0 a0 a1 (fun (r : Int32) => wp_X7_meet M a0 a1 (fun (q : Int32) => r = q ∧ Inv X0 X1 X2 X3 X4 X5 X6 X7 X8 M))
def Sim_together (Inv : InvT) : Prop := ∀ (X0 : St) (X1 : St) (X2 : St) (X3 : St) (X4 : (Nat → Int32)) (X5 : St) (X6 : St) (X7 : St) (X8 : St) (M : St) (a0 : Int32) (a1 : Int32) (a2 : Int32), Inv X0 X1 X2 X3 X4 X5 X6 X7 X8 M → wp_X6_together X0 a0 a1 a2 (fun (r : Int32) => wp_X7_together M a0 a1 a2 (fun (q : Int32) => r = q ∧ Inv X0 X1 X2 X3 X4 X5 X6 X7 X8 M))
def Sim_begin (Inv : InvT) : Prop := ∀ (X0 : St) (X1 : St) (X2 : St) (X3 : St) (X4 : (Nat → Int32)) (X5 : St) (X6 : St) (X7 : St) (X8 : St) (M : St) (a0 : Int32) (a1 : Int32) (a2 : Int32), Inv X0 X1 X2 X3 X4 X5 X6 X7 X8 M → wp_X6_begin X0 a0 a1 a2 (fun (r : Int32) => wp_X7_begin M a0 a1 a2 (fun (q : Int32) => r = q ∧ Inv X0 X1 X2 X3 X4 X5 X6 X7 X8 M))
def Sim_longest (Inv : InvT) : Prop := ∀ (X0 : St) (X1 : St) (X2 : St) (X3 : St) (X4 : (Nat → Int32)) (X5 : St) (X6 : St) (X7 : St) (X8 : St) (M : St) (a0 : Int32) (a1 : Int32) (a2 : Int32), Inv X0 X1 X2 X3 X4 X5 X6 X7 X8 M → wp_X6_longest X0 a0 a1 a2 (fun (r : Int32) => wp_X7_longest M a0 a1 a2 (fun (q : Int32) => r = q ∧ Inv X0 X1 X2 X3 X4 X5 X6 X7 X8 M))
def Sim_struck (Inv : InvT) : Prop := ∀ (X0 : St) (X1 : St) (X2 : St) (X3 : St) (X4 : (Nat → Int32)) (X5 : St) (X6 : St) (X7 : St) (X8 : St) (M : St) (a0 : Int32) (a1 : Int32) (a2 : Int32), Inv X0 X1 X2 X3 X4 X5 X6 X7 X8 M → wp_X6_struck X0 a0 a1 a2 (fun (r : Int32) => wp_X7_struck M a0 a1 a2 (fun (q : Int32) => r = q ∧ Inv X0 X1 X2 X3 X4 X5 X6 X7 X8 M))
def Sim_sure (Inv : InvT) : Prop := ∀ (X0 : St) (X1 : St) (X2 : St) (X3 : St) (X4 : (Nat → Int32)) (X5 : St) (X6 : St) (X7 : St) (X8 : St) (M : St) (a0 : Int32), Inv X0 X1 X2 X3 X4 X5 X6 X7 X8 M → wp_X6_sure X0 a0 (fun (r : Int32) => wp_X7_sure M a0 (fun (q : Int32) => r = q ∧ Inv X0 X1 X2 X3 X4 X5 X6 X7 X8 M))
def Sim_fooled (Inv : InvT) : Prop := ∀ (X0 : St) (X1 : St) (X2 : St) (X3 : St) (X4 : (Nat → Int32)) (X5 : St) (X6 : St) (X7 : St) (X8 : St) (M : St) (a0 : Int32) (a1 : Int32) (a2 : Int32), Inv X0 X1 X2 X3 X4 X5 X6 X7 X8 M → wp_X6_fooled X0 a0 a1 a2 (fun (r : Int32) => wp_X7_fooled M a0 a1 a2 (fun (q : Int32) => r = q ∧ Inv X0 X1 X2 X3 X4 X5 X6 X7 X8 M))
def Sim_letter (Inv : InvT) : Prop := ∀ (X0 : St) (X1 : St) (X2 : St) (X3 : St) (X4 : (Nat → Int32)) (X5 : St) (X6 : St) (X7 : St) (X8 : St) (M : St) (a0 : Int32) (a1 : Int32), Inv X0 X1 X2 X3 X4 X5 X6 X7 X8 M → wp_X7_letter M a0 a1 (fun (q : Int32) => (F_X6_letter X0 a0 a1) = q ∧ Inv X0 X1 X2 X3 X4 X5 X6 X7 X8 M)
def Sim_copy (Inv : InvT) : Prop := ∀ (X0 : St) (X1 : St) (X2 : St) (X3 : St) (X4 : (Nat → Int32)) (X5 : St) (X6 : St) (X7 : St) (X8 : St) (M : St) (a0 : Int32), Inv X0 X1 X2 X3 X4 X5 X6 X7 X8 M → wp_X6_copy X0 a0 (fun (r : Int32) => wp_X7_copy M a0 (fun (q : Int32) => r = q ∧ Inv X0 X1 X2 X3 X4 X5 X6 X7 X8 M))
def Sim_furs (Inv : InvT) : Prop := ∀ (X0 : St) (X1 : St) (X2 : St) (X3 : St) (X4 : (Nat → Int32)) (X5 : St) (X6 : St) (X7 : St) (X8 : St) (M : St) (a0 : Int32) (a1 : Int32), Inv X0 X1 X2 X3 X4 X5 X6 X7 X8 M → wp_X6_furs X0 a0 a1 (fun (r : Int32) => wp_X7_furs M a0 a1 (fun (q : Int32) => r = q ∧ Inv X0 X1 X2 X3 X4 X5 X6 X7 X8 M))
def Sim_seen (Inv : InvT) : Prop := ∀ (X0 : St) (X1 : St) (X2 : St) (X3 : St) (X4 : (Nat → Int32)) (X5 : St) (X6 : St) (X7 : St) (X8 : St) (M : St) (a0 : Int32) (a1 : Int32), Inv X0 X1 X2 X3 X4 X5 X6 X7 X8 M → (a1 = 0 ∨ a1 = 1) → wp_X6_seen X0 a0 a1 (fun (r : Int32) (U0 : St) => wp_X7_seen M a0 a1 (fun (q : Int32) (N : St) => r = q ∧ Inv U0 X1 X2 X3 X4 X5 X6 X7 X8 N))
def Sim_forget (Inv : InvT) : Prop := ∀ (X0 : St) (X1 : St) (X2 : St) (X3 : St) (X4 : (Nat → Int32)) (X5 : St) (X6 : St) (X7 : St) (X8 : St) (M : St), Inv X0 X1 X2 X3 X4 X5 X6 X7 X8 M → wp_X6_forget X0 (fun (r : Int32) (U0 : St) => wp_X7_forget M (fun (q : Int32) (N : St) => r = q ∧ Inv U0 X1 X2 X3 X4 X5 X6 X7 X8 N))
def Sim_changed (Inv : InvT) : Prop := ∀ (X0 : St) (X1 : St) (X2 : St) (X3 : St) (X4 : (Nat → Int32)) (X5 : St) (X6 : St) (X7 : St) (X8 : St) (M : St) (a0 : Int32), Inv X0 X1 X2 X3 X4 X5 X6 X7 X8 M → wp_X6_changed X0 X7 a0 (fun (r : Int32) (U7 : St) => wp_X7_changed M a0 (fun (q : Int32) (N : St) => r = q ∧ Inv X0 X1 X2 X3 X4 X5 X6 U7 X8 N))
def Sim_names (Inv : InvT) : Prop := ∀ (X0 : St) (X1 : St) (X2 : St) (X3 : St) (X4 : (Nat → Int32)) (X5 : St) (X6 : St) (X7 : St) (X8 : St) (M : St) (a0 : Int32), Inv X0 X1 X2 X3 X4 X5 X6 X7 X8 M → wp_X6_names X0 X7 a0 (fun (r : Int32) (U7 : St) => wp_X7_names M a0 (fun (q : Int32) (N : St) => r = q ∧ Inv X0 X1 X2 X3 X4 X5 X6 U7 X8 N))
def Sim_hear (Inv : InvT) : Prop := ∀ (X0 : St) (X1 : St) (X2 : St) (X3 : St) (X4 : (Nat → Int32)) (X5 : St) (X6 : St) (X7 : St) (X8 : St) (M : St) (a0 : Int32), Inv X0 X1 X2 X3 X4 X5 X6 X7 X8 M → wp_X6_hear X0 X7 a0 (fun (r : Int32) (U7 : St) => wp_X7_hear M a0 (fun (q : Int32) (N : St) => r = q ∧ Inv X0 X1 X2 X3 X4 X5 X6 U7 X8 N))
def Sim_undo (Inv : InvT) : Prop := ∀ (X0 : St) (X1 : St) (X2 : St) (X3 : St) (X4 : (Nat → Int32)) (X5 : St) (X6 : St) (X7 : St) (X8 : St) (M : St), Inv X0 X1 X2 X3 X4 X5 X6 X7 X8 M → wp_X6_undo X0 X1 (fun (r : Int32) (U1 : St) => wp_X7_undo M (fun (q : Int32) => r = q ∧ Inv X0 U1 X2 X3 X4 X5 X6 X7 X8 M))
def Sim_marriages (Inv : InvT) : Prop := ∀ (X0 : St) (X1 : St) (X2 : St) (X3 : St) (X4 : (Nat → Int32)) (X5 : St) (X6 : St) (X7 : St) (X8 : St) (M : St) (a0 : Int32), Inv X0 X1 X2 X3 X4 X5 X6 X7 X8 M → wp_X6_marriages X0 X8 a0 (fun (r : Int32) (U8 : St) => wp_X7_marriages M a0 (fun (q : Int32) => r = q ∧ Inv X0 X1 X2 X3 X4 X5 X6 X7 U8 M))
def Sim_deaths (Inv : InvT) : Prop := ∀ (X0 : St) (X1 : St) (X2 : St) (X3 : St) (X4 : (Nat → Int32)) (X5 : St) (X6 : St) (X7 : St) (X8 : St) (M : St) (a0 : Int32) (a1 : Int32) (a2 : Int32) (a3 : Int32), Inv X0 X1 X2 X3 X4 X5 X6 X7 X8 M → wp_X6_deaths X0 a0 a1 a2 a3 (fun (r : Int64) => wp_X7_deaths M a0 a1 a2 a3 (fun (q : Int64) => r = q ∧ Inv X0 X1 X2 X3 X4 X5 X6 X7 X8 M))
def Sim_year (Inv : InvT) : Prop := ∀ (X0 : St) (X1 : St) (X2 : St) (X3 : St) (X4 : (Nat → Int32)) (X5 : St) (X6 : St) (X7 : St) (X8 : St) (M : St) (a0 : Int32) (a1 : Int32) (a2 : Int32), Inv X0 X1 X2 X3 X4 X5 X6 X7 X8 M → wp_X6_year X0 X1 a0 a1 a2 (fun (r : Int32) (U1 : St) => wp_X7_year M a0 a1 a2 (fun (q : Int32) (N : St) => r = q ∧ Inv X0 U1 X2 X3 X4 X5 X6 X7 X8 N))
def Sim_image (Inv : InvT) : Prop := ∀ (X0 : St) (X1 : St) (X2 : St) (X3 : St) (X4 : (Nat → Int32)) (X5 : St) (X6 : St) (X7 : St) (X8 : St) (M : St) (a0 : Int32), Inv X0 X1 X2 X3 X4 X5 X6 X7 X8 M → wp_X6_image X0 X2 X3 X4 a0 (fun (r : Int32) (U2 : St) (U3 : St) (U4 : (Nat → Int32)) => wp_X7_image M a0 (fun (q : Int32) (N : St) => r = q ∧ Inv X0 X1 U2 U3 U4 X5 X6 X7 X8 N))
def Sim_restore (Inv : InvT) : Prop := ∀ (X0 : St) (X1 : St) (X2 : St) (X3 : St) (X4 : (Nat → Int32)) (X5 : St) (X6 : St) (X7 : St) (X8 : St) (M : St) (a0 : Int32), Inv X0 X1 X2 X3 X4 X5 X6 X7 X8 M → wp_X6_restore X0 X2 X3 X4 a0 (fun (r : Int32) (U0 : St) => wp_X7_restore M a0 (fun (q : Int32) (N : St) => r = q ∧ Inv U0 X1 X2 X3 X4 X5 X6 X7 X8 N))
def Sim_told (Inv : InvT) : Prop := ∀ (X0 : St) (X1 : St) (X2 : St) (X3 : St) (X4 : (Nat → Int32)) (X5 : St) (X6 : St) (X7 : St) (X8 : St) (M : St) (a0 : Int32), Inv X0 X1 X2 X3 X4 X5 X6 X7 X8 M → wp_X7_told M a0 (fun (q : Int32) => (F_X6_told X0 X5 a0) = q ∧ Inv X0 X1 X2 X3 X4 X5 X6 X7 X8 M)
def Sim_init (Inv : InvT) : Prop := wp_X2_startAnew (sI Z0 1 90) 4 (fun (S : St) => wp_X7_clear (sI (sI Z0 0 4) 1 90) (fun (M : St) => Inv S Z0 Z0 Z0 (fun _ => 0) Z0 Z0 Z0 Z0 M))
def LW (p : Program) (l : Launch) (e : Env) (s : State) (m : MethodId) (b : Nat) (below : List Frame) (meth : Method) (c : Code) (H : Heap) (locs : List Loc) (pc : Nat) (ls : Array Slot) (st : List Value) : Prop :=
  W p l e room_1 s m #[Value.ref b] below meth c H locs 99 776 (lw_Z below #[Value.ref b] s) (F0 m pc ls st)
def lwA (s : State) : Nat → Prop := fun q => s.heap.size ≤ q
def LCont (Inv : InvT) (p : Program) (l : Launch) (e : Env) (s : State) (m : MethodId) (b : Nat) (below : List Frame) (meth : Method) (c : Code) (D : va_G) (cI cZ : ClassId) (ad am : Nat → Nat) (i : Nat) : Prop :=
  ∀ (X0 : St) (X1 : St) (X2 : St) (X3 : St) (X4 : (Nat → Int32)) (X5 : St) (X6 : St) (X7 : St) (X8 : St) (M : St) (H : Heap) (locs : List Loc) (ls : Array Slot), Inv X0 X1 X2 X3 X4 X5 X6 X7 X8 M → va_P D classes (jn (lwB cI cZ ad am X0 X1 X2 X3 X4 X5 X6 X7 X8 M)) H → va_D (lwA s) (jn (lwB cI cZ ad am X0 X1 X2 X3 X4 X5 X6 X7 X8 M)) → va_S (lwA s) s.heap H locs → lv_has ls 4 [(0, .ref b), (1, .ref (ad 0)), (2, .ref (am 0)), (3, .int (nI i))] → LW p l e s m b below meth c H locs 1200 ls []
theorem WT_lw {s : State} {b : Nat} (hts : ∀ w ∈ lw_tbl, w.before #[Value.ref b] s = true) : ∀ w ∈ WT, w.before #[Value.ref b] s = true := fun w h => hts w (WT_tbl w h)
theorem nI_k (i k : Nat) {x : Int32} (hx : x = nI k) : nI i + x = nI (i + k) := by rw [hx, nI_add]
theorem lw_ix {i L k : Nat} {x : Int32} (hx : x = nI k) (h : i + 5 ≤ L) (hk : k < 5) (hL : L ≤ 320) : vp_in (nI i + x) L := by rw [nI_k i k hx]; exact vp_in_nI (by omega) (by omega)
theorem lg_self (x : Int64) : lg_cmp x x = 0 := by simp [lg_cmp]
set_option maxHeartbeats 4000000 in
set_option maxRecDepth 100000 in
theorem law_case_0 {Inv : InvT} {p : Program} {l : Launch} {e : Env} {s : State} {m : MethodId} {below : List Frame} {meth : Method} {c : Code} {b L : Nat} {xs : Nat → Int32} (sim : Sim_lands Inv) (hL : L ≤ 320) (C0 : lw_At p s m meth c b L xs) (D : va_G) (cI cZ : ClassId) (ad am : Nat → Nat) (i : Nat) (h5 : i + 5 ≤ L) (hK : va_K D classes (tysOf cI cZ) s) (hN : NW s) (kont : LCont Inv p l e s m b below meth c D cI cZ ad am i)
    (X0 : St) (X1 : St) (X2 : St) (X3 : St) (X4 : (Nat → Int32)) (X5 : St) (X6 : St) (X7 : St) (X8 : St) (M : St) (H : Heap) (locs : List Loc) (ls : Array Slot) (hI : Inv X0 X1 X2 X3 X4 X5 X6 X7 X8 M) (hP : va_P D classes (jn (lwB cI cZ ad am X0 X1 X2 X3 X4 X5 X6 X7 X8 M)) H) (hD : va_D (lwA s) (jn (lwB cI cZ ad am X0 X1 X2 X3 X4 X5 X6 X7 X8 M))) (hS : va_S (lwA s) s.heap H locs) (hl : lv_has ls 4 [(0, .ref b), (1, .ref (ad 0)), (2, .ref (am 0)), (3, .int (nI i))]) : LW p l e s m b below meth c H locs 188 ls [] := by
  obtain ⟨hx, hb, hr, hml, hown, hts, hX, hbl, hlocks, hgv⟩ := C0
  have hW := WT_lw hts
  have hbA : ¬ lwA s b := Nat.not_le.mpr hbl
  refine lv_aload_n hx hb dL_law_188 rfl (lv_at hl 1 rfl) ?_
  refine lv_aload_n hx hb dL_law_189 rfl (lv_at hl 0 rfl) ?_
  refine lv_iload_n hx hb dL_law_190 rfl (lv_at hl 3 rfl) ?_
  refine lv_iconst (v := 1) hx hb dL_law_191 (by decide) ?_
  refine lv_iadd hx hb dL_law_192 ?_
  refine va_sld hx hb hX hbl hbA hS (lw_ix (k := 1) (by decide) h5 (by decide) hL) dL_law_193 ?_
  have hw := sim X0 X1 X2 X3 X4 X5 X6 X7 X8 M (xs ((nI i) + 1).toNatClampNeg) hI
  refine callW (Bs := lwB cI cZ ad am X0 X1 X2 X3 X4 X5 X6 X7 X8 M) (va_runV (As := [.int (xs ((nI i) + 1).toNatClampNeg)]) (rest := []) ⟨hx, hb, hml, hown, hW⟩ (c_X6_lands l D cI cZ ad X0 (xs ((nI i) + 1).toNatClampNeg) _ hw) (cwV0 hW mV_X6_lands ml_L_13 ⟨Nat.le_of_ble_eq_true rfl, Nat.le_of_ble_eq_true rfl⟩) (preV0 (Bs := lwB cI cZ ad am X0 X1 X2 X3 X4 X5 X6 X7 X8 M) 0 rfl rfl hK hN hP hD [0, 1] rfl rfl) rfl rfl hl.1 rfl (lv_room (Nat.le_of_ble_eq_true rfl)) dL_law_194 ⟨Nat.le_of_ble_eq_true rfl, Nat.le_of_ble_eq_true rfl⟩) hP hD hS [0, 1] rfl rfl (fun _ => rfl) (fun v9 u9 H locs hq hP hD hS => ?_)
  obtain ⟨r, rfl, hw⟩ := hq
  obtain ⟨U0, rfl⟩ : ∃ z, z = u9 := ⟨_, rfl⟩
  have hP : va_P D classes (jn (lwB cI cZ ad am U0 X1 X2 X3 X4 X5 X6 X7 X8 M)) H := hP
  have hD : va_D (lwA s) (jn (lwB cI cZ ad am U0 X1 X2 X3 X4 X5 X6 X7 X8 M)) := hD
  refine W.eq (g2 := F0 m 197 ls [.int r]) rfl ?_
  refine lv_aload_n hx hb dL_law_197 rfl (lv_at hl 2 rfl) ?_
  refine lv_aload_n hx hb dL_law_198 rfl (lv_at hl 0 rfl) ?_
  refine lv_iload_n hx hb dL_law_199 rfl (lv_at hl 3 rfl) ?_
  refine lv_iconst (v := 1) hx hb dL_law_200 (by decide) ?_
  refine lv_iadd hx hb dL_law_201 ?_
  refine va_sld hx hb hX hbl hbA hS (lw_ix (k := 1) (by decide) h5 (by decide) hL) dL_law_202 ?_
  refine callW (Bs := lwB cI cZ ad am U0 X1 X2 X3 X4 X5 X6 X7 X8 M) (va_runV (As := [.int (xs ((nI i) + 1).toNatClampNeg)]) (rest := [.int r]) ⟨hx, hb, hml, hown, hW⟩ (c_X7_lands l D cI cZ am M (xs ((nI i) + 1).toNatClampNeg) _ hw) (cwV0 hW mV_X7_lands ml_L_17 ⟨Nat.le_of_ble_eq_true rfl, Nat.le_of_ble_eq_true rfl⟩) (preV0 (Bs := lwB cI cZ ad am U0 X1 X2 X3 X4 X5 X6 X7 X8 M) 0 rfl rfl hK hN hP hD [10] rfl rfl) rfl rfl hl.1 rfl (lv_room (Nat.le_of_ble_eq_true rfl)) dL_law_203 ⟨Nat.le_of_ble_eq_true rfl, Nat.le_of_ble_eq_true rfl⟩) hP hD hS [10] rfl rfl (fun _ => rfl) (fun v9 u9 H locs hq hP hD hS => ?_)
  obtain ⟨q, rfl, hw⟩ := hq
  obtain ⟨N, rfl⟩ : ∃ z, z = u9 := ⟨_, rfl⟩
  have hP : va_P D classes (jn (lwB cI cZ ad am U0 X1 X2 X3 X4 X5 X6 X7 X8 N)) H := hP
  have hD : va_D (lwA s) (jn (lwB cI cZ ad am U0 X1 X2 X3 X4 X5 X6 X7 X8 N)) := hD
  refine W.eq (g2 := F0 m 206 ls [.int q, .int r]) rfl ?_
  refine lv_icmp_eq (tgt := 1200) hx hb dL_law_206 (by decide) (fun _ => ?_) (fun c9 => absurd hw.1 c9)
  exact kont U0 X1 X2 X3 X4 X5 X6 X7 X8 N _ _ _ hw.2 hP hD hS (lv_sub hl [0, 1, 2, 3] rfl)
set_option maxHeartbeats 4000000 in
set_option maxRecDepth 100000 in
theorem law_case_1 {Inv : InvT} {p : Program} {l : Launch} {e : Env} {s : State} {m : MethodId} {below : List Frame} {meth : Method} {c : Code} {b L : Nat} {xs : Nat → Int32} (sim : Sim_season Inv) (hL : L ≤ 320) (C0 : lw_At p s m meth c b L xs) (D : va_G) (cI cZ : ClassId) (ad am : Nat → Nat) (i : Nat) (h5 : i + 5 ≤ L) (hK : va_K D classes (tysOf cI cZ) s) (hN : NW s) (kont : LCont Inv p l e s m b below meth c D cI cZ ad am i)
    (X0 : St) (X1 : St) (X2 : St) (X3 : St) (X4 : (Nat → Int32)) (X5 : St) (X6 : St) (X7 : St) (X8 : St) (M : St) (H : Heap) (locs : List Loc) (ls : Array Slot) (hI : Inv X0 X1 X2 X3 X4 X5 X6 X7 X8 M) (hP : va_P D classes (jn (lwB cI cZ ad am X0 X1 X2 X3 X4 X5 X6 X7 X8 M)) H) (hD : va_D (lwA s) (jn (lwB cI cZ ad am X0 X1 X2 X3 X4 X5 X6 X7 X8 M))) (hS : va_S (lwA s) s.heap H locs) (hl : lv_has ls 4 [(0, .ref b), (1, .ref (ad 0)), (2, .ref (am 0)), (3, .int (nI i))]) : LW p l e s m b below meth c H locs 211 ls [] := by
  obtain ⟨hx, hb, hr, hml, hown, hts, hX, hbl, hlocks, hgv⟩ := C0
  have hW := WT_lw hts
  have hbA : ¬ lwA s b := Nat.not_le.mpr hbl
  refine lv_aload_n hx hb dL_law_211 rfl (lv_at hl 1 rfl) ?_
  refine lv_aload_n hx hb dL_law_212 rfl (lv_at hl 0 rfl) ?_
  refine lv_iload_n hx hb dL_law_213 rfl (lv_at hl 3 rfl) ?_
  refine lv_iconst (v := 1) hx hb dL_law_214 (by decide) ?_
  refine lv_iadd hx hb dL_law_215 ?_
  refine va_sld hx hb hX hbl hbA hS (lw_ix (k := 1) (by decide) h5 (by decide) hL) dL_law_216 ?_
  have hw := sim X0 X1 X2 X3 X4 X5 X6 X7 X8 M (xs ((nI i) + 1).toNatClampNeg) hI
  refine callW (Bs := lwB cI cZ ad am X0 X1 X2 X3 X4 X5 X6 X7 X8 M) (va_runV (As := [.int (xs ((nI i) + 1).toNatClampNeg)]) (rest := []) ⟨hx, hb, hml, hown, hW⟩ (c_X6_season l D cI cZ ad X0 (xs ((nI i) + 1).toNatClampNeg) _ hw) (cwV0 hW mV_X6_season ml_L_18 ⟨Nat.le_of_ble_eq_true rfl, Nat.le_of_ble_eq_true rfl⟩) (preV0 (Bs := lwB cI cZ ad am X0 X1 X2 X3 X4 X5 X6 X7 X8 M) 0 rfl rfl hK hN hP hD [0, 1] rfl rfl) rfl rfl hl.1 rfl (lv_room (Nat.le_of_ble_eq_true rfl)) dL_law_217 ⟨Nat.le_of_ble_eq_true rfl, Nat.le_of_ble_eq_true rfl⟩) hP hD hS [0, 1] rfl rfl (fun _ => rfl) (fun v9 u9 H locs hq hP hD hS => ?_)
  obtain ⟨r, rfl, hw⟩ := hq
  obtain ⟨U0, rfl⟩ : ∃ z, z = u9 := ⟨_, rfl⟩
  have hP : va_P D classes (jn (lwB cI cZ ad am U0 X1 X2 X3 X4 X5 X6 X7 X8 M)) H := hP
  have hD : va_D (lwA s) (jn (lwB cI cZ ad am U0 X1 X2 X3 X4 X5 X6 X7 X8 M)) := hD
  refine W.eq (g2 := F0 m 220 ls [.int r]) rfl ?_
  refine lv_aload_n hx hb dL_law_220 rfl (lv_at hl 2 rfl) ?_
  refine lv_aload_n hx hb dL_law_221 rfl (lv_at hl 0 rfl) ?_
  refine lv_iload_n hx hb dL_law_222 rfl (lv_at hl 3 rfl) ?_
  refine lv_iconst (v := 1) hx hb dL_law_223 (by decide) ?_
  refine lv_iadd hx hb dL_law_224 ?_
  refine va_sld hx hb hX hbl hbA hS (lw_ix (k := 1) (by decide) h5 (by decide) hL) dL_law_225 ?_
  refine callW (Bs := lwB cI cZ ad am U0 X1 X2 X3 X4 X5 X6 X7 X8 M) (va_runV (As := [.int (xs ((nI i) + 1).toNatClampNeg)]) (rest := [.int r]) ⟨hx, hb, hml, hown, hW⟩ (c_X7_season l D cI cZ am M (xs ((nI i) + 1).toNatClampNeg) _ hw) (cwV0 hW mV_X7_season ml_L_21 ⟨Nat.le_of_ble_eq_true rfl, Nat.le_of_ble_eq_true rfl⟩) (preV0 (Bs := lwB cI cZ ad am U0 X1 X2 X3 X4 X5 X6 X7 X8 M) 0 rfl rfl hK hN hP hD [10] rfl rfl) rfl rfl hl.1 rfl (lv_room (Nat.le_of_ble_eq_true rfl)) dL_law_226 ⟨Nat.le_of_ble_eq_true rfl, Nat.le_of_ble_eq_true rfl⟩) hP hD hS [10] rfl rfl (fun _ => rfl) (fun v9 u9 H locs hq hP hD hS => ?_)
  obtain ⟨q, rfl, hw⟩ := hq
  obtain ⟨N, rfl⟩ : ∃ z, z = u9 := ⟨_, rfl⟩
  have hP : va_P D classes (jn (lwB cI cZ ad am U0 X1 X2 X3 X4 X5 X6 X7 X8 N)) H := hP
  have hD : va_D (lwA s) (jn (lwB cI cZ ad am U0 X1 X2 X3 X4 X5 X6 X7 X8 N)) := hD
  refine W.eq (g2 := F0 m 229 ls [.int q, .int r]) rfl ?_
  refine lv_icmp_eq (tgt := 1200) hx hb dL_law_229 (by decide) (fun _ => ?_) (fun c9 => absurd hw.1 c9)
  exact kont U0 X1 X2 X3 X4 X5 X6 X7 X8 N _ _ _ hw.2 hP hD hS (lv_sub hl [0, 1, 2, 3] rfl)
set_option maxHeartbeats 4000000 in
set_option maxRecDepth 100000 in
theorem law_case_2 {Inv : InvT} {p : Program} {l : Launch} {e : Env} {s : State} {m : MethodId} {below : List Frame} {meth : Method} {c : Code} {b L : Nat} {xs : Nat → Int32} (sim : Sim_set Inv) (hL : L ≤ 320) (C0 : lw_At p s m meth c b L xs) (D : va_G) (cI cZ : ClassId) (ad am : Nat → Nat) (i : Nat) (h5 : i + 5 ≤ L) (hK : va_K D classes (tysOf cI cZ) s) (hN : NW s) (kont : LCont Inv p l e s m b below meth c D cI cZ ad am i)
    (X0 : St) (X1 : St) (X2 : St) (X3 : St) (X4 : (Nat → Int32)) (X5 : St) (X6 : St) (X7 : St) (X8 : St) (M : St) (H : Heap) (locs : List Loc) (ls : Array Slot) (hI : Inv X0 X1 X2 X3 X4 X5 X6 X7 X8 M) (hP : va_P D classes (jn (lwB cI cZ ad am X0 X1 X2 X3 X4 X5 X6 X7 X8 M)) H) (hD : va_D (lwA s) (jn (lwB cI cZ ad am X0 X1 X2 X3 X4 X5 X6 X7 X8 M))) (hS : va_S (lwA s) s.heap H locs) (hl : lv_has ls 4 [(0, .ref b), (1, .ref (ad 0)), (2, .ref (am 0)), (3, .int (nI i))]) : LW p l e s m b below meth c H locs 234 ls [] := by
  obtain ⟨hx, hb, hr, hml, hown, hts, hX, hbl, hlocks, hgv⟩ := C0
  have hW := WT_lw hts
  have hbA : ¬ lwA s b := Nat.not_le.mpr hbl
  refine lv_aload_n hx hb dL_law_234 rfl (lv_at hl 1 rfl) ?_
  refine lv_aload_n hx hb dL_law_235 rfl (lv_at hl 0 rfl) ?_
  refine lv_iload_n hx hb dL_law_236 rfl (lv_at hl 3 rfl) ?_
  refine lv_iconst (v := 1) hx hb dL_law_237 (by decide) ?_
  refine lv_iadd hx hb dL_law_238 ?_
  refine va_sld hx hb hX hbl hbA hS (lw_ix (k := 1) (by decide) h5 (by decide) hL) dL_law_239 ?_
  refine lv_aload_n hx hb dL_law_240 rfl (lv_at hl 0 rfl) ?_
  refine lv_iload_n hx hb dL_law_241 rfl (lv_at hl 3 rfl) ?_
  refine lv_iconst (v := 2) hx hb dL_law_242 (by decide) ?_
  refine lv_iadd hx hb dL_law_243 ?_
  refine va_sld hx hb hX hbl hbA hS (lw_ix (k := 2) (by decide) h5 (by decide) hL) dL_law_244 ?_
  refine lv_aload_n hx hb dL_law_245 rfl (lv_at hl 0 rfl) ?_
  refine lv_iload_n hx hb dL_law_246 rfl (lv_at hl 3 rfl) ?_
  refine lv_iconst (v := 3) hx hb dL_law_247 (by decide) ?_
  refine lv_iadd hx hb dL_law_248 ?_
  refine va_sld hx hb hX hbl hbA hS (lw_ix (k := 3) (by decide) h5 (by decide) hL) dL_law_249 ?_
  have hw := sim X0 X1 X2 X3 X4 X5 X6 X7 X8 M (xs ((nI i) + 1).toNatClampNeg) (xs ((nI i) + 2).toNatClampNeg) (xs ((nI i) + 3).toNatClampNeg) hI
  refine callW (Bs := lwB cI cZ ad am X0 X1 X2 X3 X4 X5 X6 X7 X8 M) (va_runV (As := [.int (xs ((nI i) + 1).toNatClampNeg), .int (xs ((nI i) + 2).toNatClampNeg), .int (xs ((nI i) + 3).toNatClampNeg)]) (rest := []) ⟨hx, hb, hml, hown, hW⟩ (c_X6_set l D cI cZ ad X0 (xs ((nI i) + 1).toNatClampNeg) (xs ((nI i) + 2).toNatClampNeg) (xs ((nI i) + 3).toNatClampNeg) _ hw) (cwV0 hW mV_X6_set ml_L_22 ⟨Nat.le_of_ble_eq_true rfl, Nat.le_of_ble_eq_true rfl⟩) (preV0 (Bs := lwB cI cZ ad am X0 X1 X2 X3 X4 X5 X6 X7 X8 M) 0 rfl rfl hK hN hP hD [0, 1] rfl rfl) rfl rfl hl.1 rfl (lv_room (Nat.le_of_ble_eq_true rfl)) dL_law_250 ⟨Nat.le_of_ble_eq_true rfl, Nat.le_of_ble_eq_true rfl⟩) hP hD hS [0, 1] rfl rfl (fun _ => rfl) (fun v9 u9 H locs hq hP hD hS => ?_)
  obtain ⟨r, rfl, hw⟩ := hq
  obtain ⟨U0, rfl⟩ : ∃ z, z = u9 := ⟨_, rfl⟩
  have hP : va_P D classes (jn (lwB cI cZ ad am U0 X1 X2 X3 X4 X5 X6 X7 X8 M)) H := hP
  have hD : va_D (lwA s) (jn (lwB cI cZ ad am U0 X1 X2 X3 X4 X5 X6 X7 X8 M)) := hD
  refine W.eq (g2 := F0 m 253 ls [.int r]) rfl ?_
  refine lv_aload_n hx hb dL_law_253 rfl (lv_at hl 2 rfl) ?_
  refine lv_aload_n hx hb dL_law_254 rfl (lv_at hl 0 rfl) ?_
  refine lv_iload_n hx hb dL_law_255 rfl (lv_at hl 3 rfl) ?_
  refine lv_iconst (v := 1) hx hb dL_law_256 (by decide) ?_
  refine lv_iadd hx hb dL_law_257 ?_
  refine va_sld hx hb hX hbl hbA hS (lw_ix (k := 1) (by decide) h5 (by decide) hL) dL_law_258 ?_
  refine lv_aload_n hx hb dL_law_259 rfl (lv_at hl 0 rfl) ?_
  refine lv_iload_n hx hb dL_law_260 rfl (lv_at hl 3 rfl) ?_
  refine lv_iconst (v := 2) hx hb dL_law_261 (by decide) ?_
  refine lv_iadd hx hb dL_law_262 ?_
  refine va_sld hx hb hX hbl hbA hS (lw_ix (k := 2) (by decide) h5 (by decide) hL) dL_law_263 ?_
  refine lv_aload_n hx hb dL_law_264 rfl (lv_at hl 0 rfl) ?_
  refine lv_iload_n hx hb dL_law_265 rfl (lv_at hl 3 rfl) ?_
  refine lv_iconst (v := 3) hx hb dL_law_266 (by decide) ?_
  refine lv_iadd hx hb dL_law_267 ?_
  refine va_sld hx hb hX hbl hbA hS (lw_ix (k := 3) (by decide) h5 (by decide) hL) dL_law_268 ?_
  refine callW (Bs := lwB cI cZ ad am U0 X1 X2 X3 X4 X5 X6 X7 X8 M) (va_runV (As := [.int (xs ((nI i) + 1).toNatClampNeg), .int (xs ((nI i) + 2).toNatClampNeg), .int (xs ((nI i) + 3).toNatClampNeg)]) (rest := [.int r]) ⟨hx, hb, hml, hown, hW⟩ (c_X7_set l D cI cZ am M (xs ((nI i) + 1).toNatClampNeg) (xs ((nI i) + 2).toNatClampNeg) (xs ((nI i) + 3).toNatClampNeg) _ hw) (cwV0 hW mV_X7_set ml_L_26 ⟨Nat.le_of_ble_eq_true rfl, Nat.le_of_ble_eq_true rfl⟩) (preV0 (Bs := lwB cI cZ ad am U0 X1 X2 X3 X4 X5 X6 X7 X8 M) 0 rfl rfl hK hN hP hD [10] rfl rfl) rfl rfl hl.1 rfl (lv_room (Nat.le_of_ble_eq_true rfl)) dL_law_269 ⟨Nat.le_of_ble_eq_true rfl, Nat.le_of_ble_eq_true rfl⟩) hP hD hS [10] rfl rfl (fun _ => rfl) (fun v9 u9 H locs hq hP hD hS => ?_)
  obtain ⟨q, rfl, hw⟩ := hq
  obtain ⟨N, rfl⟩ : ∃ z, z = u9 := ⟨_, rfl⟩
  have hP : va_P D classes (jn (lwB cI cZ ad am U0 X1 X2 X3 X4 X5 X6 X7 X8 N)) H := hP
  have hD : va_D (lwA s) (jn (lwB cI cZ ad am U0 X1 X2 X3 X4 X5 X6 X7 X8 N)) := hD
  refine W.eq (g2 := F0 m 272 ls [.int q, .int r]) rfl ?_
  refine lv_icmp_eq (tgt := 1200) hx hb dL_law_272 (by decide) (fun _ => ?_) (fun c9 => absurd hw.1 c9)
  exact kont U0 X1 X2 X3 X4 X5 X6 X7 X8 N _ _ _ hw.2 hP hD hS (lv_sub hl [0, 1, 2, 3] rfl)
set_option maxHeartbeats 4000000 in
set_option maxRecDepth 100000 in
theorem law_case_3 {Inv : InvT} {p : Program} {l : Launch} {e : Env} {s : State} {m : MethodId} {below : List Frame} {meth : Method} {c : Code} {b L : Nat} {xs : Nat → Int32} (sim : Sim_say Inv) (hL : L ≤ 320) (C0 : lw_At p s m meth c b L xs) (D : va_G) (cI cZ : ClassId) (ad am : Nat → Nat) (i : Nat) (h5 : i + 5 ≤ L) (hK : va_K D classes (tysOf cI cZ) s) (hN : NW s) (kont : LCont Inv p l e s m b below meth c D cI cZ ad am i)
    (X0 : St) (X1 : St) (X2 : St) (X3 : St) (X4 : (Nat → Int32)) (X5 : St) (X6 : St) (X7 : St) (X8 : St) (M : St) (H : Heap) (locs : List Loc) (ls : Array Slot) (hI : Inv X0 X1 X2 X3 X4 X5 X6 X7 X8 M) (hP : va_P D classes (jn (lwB cI cZ ad am X0 X1 X2 X3 X4 X5 X6 X7 X8 M)) H) (hD : va_D (lwA s) (jn (lwB cI cZ ad am X0 X1 X2 X3 X4 X5 X6 X7 X8 M))) (hS : va_S (lwA s) s.heap H locs) (hl : lv_has ls 4 [(0, .ref b), (1, .ref (ad 0)), (2, .ref (am 0)), (3, .int (nI i))]) : LW p l e s m b below meth c H locs 277 ls [] := by
  obtain ⟨hx, hb, hr, hml, hown, hts, hX, hbl, hlocks, hgv⟩ := C0
  have hW := WT_lw hts
  have hbA : ¬ lwA s b := Nat.not_le.mpr hbl
  refine lv_aload_n hx hb dL_law_277 rfl (lv_at hl 1 rfl) ?_
  refine lv_aload_n hx hb dL_law_278 rfl (lv_at hl 0 rfl) ?_
  refine lv_iload_n hx hb dL_law_279 rfl (lv_at hl 3 rfl) ?_
  refine lv_iconst (v := 1) hx hb dL_law_280 (by decide) ?_
  refine lv_iadd hx hb dL_law_281 ?_
  refine va_sld hx hb hX hbl hbA hS (lw_ix (k := 1) (by decide) h5 (by decide) hL) dL_law_282 ?_
  have hw := sim X0 X1 X2 X3 X4 X5 X6 X7 X8 M (xs ((nI i) + 1).toNatClampNeg) hI
  refine callW (Bs := lwB cI cZ ad am X0 X1 X2 X3 X4 X5 X6 X7 X8 M) (va_runV (As := [.int (xs ((nI i) + 1).toNatClampNeg)]) (rest := []) ⟨hx, hb, hml, hown, hW⟩ (c_X6_say l D cI cZ ad X5 (xs ((nI i) + 1).toNatClampNeg) _ hw) (cwV0 hW mV_X6_say ml_L_27 ⟨Nat.le_of_ble_eq_true rfl, Nat.le_of_ble_eq_true rfl⟩) (preV0 (Bs := lwB cI cZ ad am X0 X1 X2 X3 X4 X5 X6 X7 X8 M) 0 rfl rfl hK hN hP hD [0, 6] rfl rfl) rfl rfl hl.1 rfl (lv_room (Nat.le_of_ble_eq_true rfl)) dL_law_283 ⟨Nat.le_of_ble_eq_true rfl, Nat.le_of_ble_eq_true rfl⟩) hP hD hS [0, 6] rfl rfl (fun _ => rfl) (fun v9 u9 H locs hq hP hD hS => ?_)
  obtain ⟨r, rfl, hw⟩ := hq
  obtain ⟨U5, rfl⟩ : ∃ z, z = u9 := ⟨_, rfl⟩
  have hP : va_P D classes (jn (lwB cI cZ ad am X0 X1 X2 X3 X4 U5 X6 X7 X8 M)) H := hP
  have hD : va_D (lwA s) (jn (lwB cI cZ ad am X0 X1 X2 X3 X4 U5 X6 X7 X8 M)) := hD
  refine W.eq (g2 := F0 m 286 ls [.int r]) rfl ?_
  refine lv_aload_n hx hb dL_law_286 rfl (lv_at hl 2 rfl) ?_
  refine lv_aload_n hx hb dL_law_287 rfl (lv_at hl 0 rfl) ?_
  refine lv_iload_n hx hb dL_law_288 rfl (lv_at hl 3 rfl) ?_
  refine lv_iconst (v := 1) hx hb dL_law_289 (by decide) ?_
  refine lv_iadd hx hb dL_law_290 ?_
  refine va_sld hx hb hX hbl hbA hS (lw_ix (k := 1) (by decide) h5 (by decide) hL) dL_law_291 ?_
  refine callW (Bs := lwB cI cZ ad am X0 X1 X2 X3 X4 U5 X6 X7 X8 M) (va_runV (As := [.int (xs ((nI i) + 1).toNatClampNeg)]) (rest := [.int r]) ⟨hx, hb, hml, hown, hW⟩ (c_X7_say l D cI cZ am M (xs ((nI i) + 1).toNatClampNeg) _ hw) (cwV0 hW mV_X7_say ml_L_30 ⟨Nat.le_of_ble_eq_true rfl, Nat.le_of_ble_eq_true rfl⟩) (preV0 (Bs := lwB cI cZ ad am X0 X1 X2 X3 X4 U5 X6 X7 X8 M) 0 rfl rfl hK hN hP hD [10] rfl rfl) rfl rfl hl.1 rfl (lv_room (Nat.le_of_ble_eq_true rfl)) dL_law_292 ⟨Nat.le_of_ble_eq_true rfl, Nat.le_of_ble_eq_true rfl⟩) hP hD hS [10] rfl rfl (fun _ => rfl) (fun v9 u9 H locs hq hP hD hS => ?_)
  obtain ⟨q, rfl, hw⟩ := hq
  obtain ⟨N, rfl⟩ : ∃ z, z = u9 := ⟨_, rfl⟩
  have hP : va_P D classes (jn (lwB cI cZ ad am X0 X1 X2 X3 X4 U5 X6 X7 X8 N)) H := hP
  have hD : va_D (lwA s) (jn (lwB cI cZ ad am X0 X1 X2 X3 X4 U5 X6 X7 X8 N)) := hD
  refine W.eq (g2 := F0 m 295 ls [.int q, .int r]) rfl ?_
  refine lv_icmp_eq (tgt := 1200) hx hb dL_law_295 (by decide) (fun _ => ?_) (fun c9 => absurd hw.1 c9)
  exact kont X0 X1 X2 X3 X4 U5 X6 X7 X8 N _ _ _ hw.2 hP hD hS (lv_sub hl [0, 1, 2, 3] rfl)
set_option maxHeartbeats 4000000 in
set_option maxRecDepth 100000 in
theorem law_case_4 {Inv : InvT} {p : Program} {l : Launch} {e : Env} {s : State} {m : MethodId} {below : List Frame} {meth : Method} {c : Code} {b L : Nat} {xs : Nat → Int32} (sim : Sim_wipe Inv) (hL : L ≤ 320) (C0 : lw_At p s m meth c b L xs) (D : va_G) (cI cZ : ClassId) (ad am : Nat → Nat) (i : Nat) (h5 : i + 5 ≤ L) (hK : va_K D classes (tysOf cI cZ) s) (hN : NW s) (kont : LCont Inv p l e s m b below meth c D cI cZ ad am i)
    (X0 : St) (X1 : St) (X2 : St) (X3 : St) (X4 : (Nat → Int32)) (X5 : St) (X6 : St) (X7 : St) (X8 : St) (M : St) (H : Heap) (locs : List Loc) (ls : Array Slot) (hI : Inv X0 X1 X2 X3 X4 X5 X6 X7 X8 M) (hP : va_P D classes (jn (lwB cI cZ ad am X0 X1 X2 X3 X4 X5 X6 X7 X8 M)) H) (hD : va_D (lwA s) (jn (lwB cI cZ ad am X0 X1 X2 X3 X4 X5 X6 X7 X8 M))) (hS : va_S (lwA s) s.heap H locs) (hl : lv_has ls 4 [(0, .ref b), (1, .ref (ad 0)), (2, .ref (am 0)), (3, .int (nI i))]) : LW p l e s m b below meth c H locs 300 ls [] := by
  obtain ⟨hx, hb, hr, hml, hown, hts, hX, hbl, hlocks, hgv⟩ := C0
  have hW := WT_lw hts
  have hbA : ¬ lwA s b := Nat.not_le.mpr hbl
  refine lv_aload_n hx hb dL_law_300 rfl (lv_at hl 1 rfl) ?_
  have hw := sim X0 X1 X2 X3 X4 X5 X6 X7 X8 M hI
  refine callW (Bs := lwB cI cZ ad am X0 X1 X2 X3 X4 X5 X6 X7 X8 M) (va_runV (As := []) (rest := []) ⟨hx, hb, hml, hown, hW⟩ (c_X6_wipe l D cI cZ ad X5  _ hw) (cwV0 hW mV_X6_wipe ml_L_31 ⟨Nat.le_of_ble_eq_true rfl, Nat.le_of_ble_eq_true rfl⟩) (preV0 (Bs := lwB cI cZ ad am X0 X1 X2 X3 X4 X5 X6 X7 X8 M) 0 rfl rfl hK hN hP hD [0, 6] rfl rfl) rfl rfl hl.1 rfl (lv_room (Nat.le_of_ble_eq_true rfl)) dL_law_301 ⟨Nat.le_of_ble_eq_true rfl, Nat.le_of_ble_eq_true rfl⟩) hP hD hS [0, 6] rfl rfl (fun _ => rfl) (fun v9 u9 H locs hq hP hD hS => ?_)
  obtain ⟨r, rfl, hw⟩ := hq
  obtain ⟨U5, rfl⟩ : ∃ z, z = u9 := ⟨_, rfl⟩
  have hP : va_P D classes (jn (lwB cI cZ ad am X0 X1 X2 X3 X4 U5 X6 X7 X8 M)) H := hP
  have hD : va_D (lwA s) (jn (lwB cI cZ ad am X0 X1 X2 X3 X4 U5 X6 X7 X8 M)) := hD
  refine W.eq (g2 := F0 m 304 ls [.int r]) rfl ?_
  refine lv_aload_n hx hb dL_law_304 rfl (lv_at hl 2 rfl) ?_
  refine callW (Bs := lwB cI cZ ad am X0 X1 X2 X3 X4 U5 X6 X7 X8 M) (va_runV (As := []) (rest := [.int r]) ⟨hx, hb, hml, hown, hW⟩ (c_X7_wipe l D cI cZ am M  _ hw) (cwV0 hW mV_X7_wipe ml_L_35 ⟨Nat.le_of_ble_eq_true rfl, Nat.le_of_ble_eq_true rfl⟩) (preV0 (Bs := lwB cI cZ ad am X0 X1 X2 X3 X4 U5 X6 X7 X8 M) 0 rfl rfl hK hN hP hD [10] rfl rfl) rfl rfl hl.1 rfl (lv_room (Nat.le_of_ble_eq_true rfl)) dL_law_305 ⟨Nat.le_of_ble_eq_true rfl, Nat.le_of_ble_eq_true rfl⟩) hP hD hS [10] rfl rfl (fun _ => rfl) (fun v9 u9 H locs hq hP hD hS => ?_)
  obtain ⟨q, rfl, hw⟩ := hq
  obtain ⟨N, rfl⟩ : ∃ z, z = u9 := ⟨_, rfl⟩
  have hP : va_P D classes (jn (lwB cI cZ ad am X0 X1 X2 X3 X4 U5 X6 X7 X8 N)) H := hP
  have hD : va_D (lwA s) (jn (lwB cI cZ ad am X0 X1 X2 X3 X4 U5 X6 X7 X8 N)) := hD
  refine W.eq (g2 := F0 m 308 ls [.int q, .int r]) rfl ?_
  refine lv_icmp_eq (tgt := 1200) hx hb dL_law_308 (by decide) (fun _ => ?_) (fun c9 => absurd hw.1 c9)
  exact kont X0 X1 X2 X3 X4 U5 X6 X7 X8 N _ _ _ hw.2 hP hD hS (lv_sub hl [0, 1, 2, 3] rfl)
set_option maxHeartbeats 4000000 in
set_option maxRecDepth 100000 in
theorem law_case_5 {Inv : InvT} {p : Program} {l : Launch} {e : Env} {s : State} {m : MethodId} {below : List Frame} {meth : Method} {c : Code} {b L : Nat} {xs : Nat → Int32} (sim : Sim_fault Inv) (hL : L ≤ 320) (C0 : lw_At p s m meth c b L xs) (D : va_G) (cI cZ : ClassId) (ad am : Nat → Nat) (i : Nat) (h5 : i + 5 ≤ L) (hK : va_K D classes (tysOf cI cZ) s) (hN : NW s) (kont : LCont Inv p l e s m b below meth c D cI cZ ad am i)
    (X0 : St) (X1 : St) (X2 : St) (X3 : St) (X4 : (Nat → Int32)) (X5 : St) (X6 : St) (X7 : St) (X8 : St) (M : St) (H : Heap) (locs : List Loc) (ls : Array Slot) (hI : Inv X0 X1 X2 X3 X4 X5 X6 X7 X8 M) (hP : va_P D classes (jn (lwB cI cZ ad am X0 X1 X2 X3 X4 X5 X6 X7 X8 M)) H) (hD : va_D (lwA s) (jn (lwB cI cZ ad am X0 X1 X2 X3 X4 X5 X6 X7 X8 M))) (hS : va_S (lwA s) s.heap H locs) (hl : lv_has ls 4 [(0, .ref b), (1, .ref (ad 0)), (2, .ref (am 0)), (3, .int (nI i))]) : LW p l e s m b below meth c H locs 313 ls [] := by
  obtain ⟨hx, hb, hr, hml, hown, hts, hX, hbl, hlocks, hgv⟩ := C0
  have hW := WT_lw hts
  have hbA : ¬ lwA s b := Nat.not_le.mpr hbl
  refine lv_aload_n hx hb dL_law_313 rfl (lv_at hl 1 rfl) ?_
  have hw := sim X0 X1 X2 X3 X4 X5 X6 X7 X8 M hI
  refine callR (va_runV (As := []) (rest := []) ⟨hx, hb, hml, hown, hW⟩ (c_X6_fault l D cI cZ ad X0 X5  _ hw) (cwV0 hW mV_X6_fault ml_L_36 ⟨Nat.le_of_ble_eq_true rfl, Nat.le_of_ble_eq_true rfl⟩) (preV0 (Bs := lwB cI cZ ad am X0 X1 X2 X3 X4 X5 X6 X7 X8 M) 0 rfl rfl hK hN hP hD [0, 1, 6] rfl rfl) rfl rfl hl.1 rfl (lv_room (Nat.le_of_ble_eq_true rfl)) dL_law_314 ⟨Nat.le_of_ble_eq_true rfl, Nat.le_of_ble_eq_true rfl⟩) (fun v9 hq => ?_)
  obtain ⟨r, rfl, hw⟩ := hq
  refine W.eq (g2 := F0 m 317 ls [.int r]) rfl ?_
  refine lv_aload_n hx hb dL_law_317 rfl (lv_at hl 2 rfl) ?_
  refine callR (va_runV (As := []) (rest := [.int r]) ⟨hx, hb, hml, hown, hW⟩ (c_X7_fault l D cI cZ am M  _ hw) (cwV0 hW mV_X7_fault ml_L_39 ⟨Nat.le_of_ble_eq_true rfl, Nat.le_of_ble_eq_true rfl⟩) (preV0 (Bs := lwB cI cZ ad am X0 X1 X2 X3 X4 X5 X6 X7 X8 M) 0 rfl rfl hK hN hP hD [10] rfl rfl) rfl rfl hl.1 rfl (lv_room (Nat.le_of_ble_eq_true rfl)) dL_law_318 ⟨Nat.le_of_ble_eq_true rfl, Nat.le_of_ble_eq_true rfl⟩) (fun v9 hq => ?_)
  obtain ⟨q, rfl, hw⟩ := hq
  refine W.eq (g2 := F0 m 321 ls [.int q, .int r]) rfl ?_
  refine lv_icmp_eq (tgt := 1200) hx hb dL_law_321 (by decide) (fun _ => ?_) (fun c9 => absurd hw.1 c9)
  exact kont X0 X1 X2 X3 X4 X5 X6 X7 X8 M _ _ _ hw.2 hP hD hS (lv_sub hl [0, 1, 2, 3] rfl)
set_option maxHeartbeats 4000000 in
set_option maxRecDepth 100000 in
theorem law_case_6 {Inv : InvT} {p : Program} {l : Launch} {e : Env} {s : State} {m : MethodId} {below : List Frame} {meth : Method} {c : Code} {b L : Nat} {xs : Nat → Int32} (sim : Sim_judge Inv) (hL : L ≤ 320) (C0 : lw_At p s m meth c b L xs) (D : va_G) (cI cZ : ClassId) (ad am : Nat → Nat) (i : Nat) (h5 : i + 5 ≤ L) (hK : va_K D classes (tysOf cI cZ) s) (hN : NW s) (kont : LCont Inv p l e s m b below meth c D cI cZ ad am i)
    (X0 : St) (X1 : St) (X2 : St) (X3 : St) (X4 : (Nat → Int32)) (X5 : St) (X6 : St) (X7 : St) (X8 : St) (M : St) (H : Heap) (locs : List Loc) (ls : Array Slot) (hI : Inv X0 X1 X2 X3 X4 X5 X6 X7 X8 M) (hP : va_P D classes (jn (lwB cI cZ ad am X0 X1 X2 X3 X4 X5 X6 X7 X8 M)) H) (hD : va_D (lwA s) (jn (lwB cI cZ ad am X0 X1 X2 X3 X4 X5 X6 X7 X8 M))) (hS : va_S (lwA s) s.heap H locs) (hl : lv_has ls 4 [(0, .ref b), (1, .ref (ad 0)), (2, .ref (am 0)), (3, .int (nI i))]) : LW p l e s m b below meth c H locs 326 ls [] := by
  obtain ⟨hx, hb, hr, hml, hown, hts, hX, hbl, hlocks, hgv⟩ := C0
  have hW := WT_lw hts
  have hbA : ¬ lwA s b := Nat.not_le.mpr hbl
  refine lv_aload_n hx hb dL_law_326 rfl (lv_at hl 1 rfl) ?_
  refine lv_aload_n hx hb dL_law_327 rfl (lv_at hl 0 rfl) ?_
  refine lv_iload_n hx hb dL_law_328 rfl (lv_at hl 3 rfl) ?_
  refine lv_iconst (v := 1) hx hb dL_law_329 (by decide) ?_
  refine lv_iadd hx hb dL_law_330 ?_
  refine va_sld hx hb hX hbl hbA hS (lw_ix (k := 1) (by decide) h5 (by decide) hL) dL_law_331 ?_
  have hw := sim X0 X1 X2 X3 X4 X5 X6 X7 X8 M (xs ((nI i) + 1).toNatClampNeg) hI
  refine callW (Bs := lwB cI cZ ad am X0 X1 X2 X3 X4 X5 X6 X7 X8 M) (va_runV (As := [.int (xs ((nI i) + 1).toNatClampNeg)]) (rest := []) ⟨hx, hb, hml, hown, hW⟩ (c_X6_judge l D cI cZ ad X0 X1 X5 X6 (xs ((nI i) + 1).toNatClampNeg) _ hw) (cwV0 hW mV_X6_judge ml_L_40 ⟨Nat.le_of_ble_eq_true rfl, Nat.le_of_ble_eq_true rfl⟩) (preV0 (Bs := lwB cI cZ ad am X0 X1 X2 X3 X4 X5 X6 X7 X8 M) 0 rfl rfl hK hN hP hD [0, 1, 2, 6, 7] rfl rfl) rfl rfl hl.1 rfl (lv_room (Nat.le_of_ble_eq_true rfl)) dL_law_332 ⟨Nat.le_of_ble_eq_true rfl, Nat.le_of_ble_eq_true rfl⟩) hP hD hS [0, 1, 2, 6, 7] rfl rfl (fun _ => rfl) (fun v9 u9 H locs hq hP hD hS => ?_)
  obtain ⟨r, rfl, hw⟩ := hq
  obtain ⟨U1, U6⟩ := u9
  have hP : va_P D classes (jn (lwB cI cZ ad am X0 U1 X2 X3 X4 X5 U6 X7 X8 M)) H := hP
  have hD : va_D (lwA s) (jn (lwB cI cZ ad am X0 U1 X2 X3 X4 X5 U6 X7 X8 M)) := hD
  dsimp only at hw
  refine W.eq (g2 := F0 m 335 ls [.int r]) rfl ?_
  refine lv_aload_n hx hb dL_law_335 rfl (lv_at hl 2 rfl) ?_
  refine lv_aload_n hx hb dL_law_336 rfl (lv_at hl 0 rfl) ?_
  refine lv_iload_n hx hb dL_law_337 rfl (lv_at hl 3 rfl) ?_
  refine lv_iconst (v := 1) hx hb dL_law_338 (by decide) ?_
  refine lv_iadd hx hb dL_law_339 ?_
  refine va_sld hx hb hX hbl hbA hS (lw_ix (k := 1) (by decide) h5 (by decide) hL) dL_law_340 ?_
  refine callW (Bs := lwB cI cZ ad am X0 U1 X2 X3 X4 X5 U6 X7 X8 M) (va_runV (As := [.int (xs ((nI i) + 1).toNatClampNeg)]) (rest := [.int r]) ⟨hx, hb, hml, hown, hW⟩ (c_X7_judge l D cI cZ am M (xs ((nI i) + 1).toNatClampNeg) _ hw) (cwV0 hW mV_X7_judge ml_L_43 ⟨Nat.le_of_ble_eq_true rfl, Nat.le_of_ble_eq_true rfl⟩) (preV0 (Bs := lwB cI cZ ad am X0 U1 X2 X3 X4 X5 U6 X7 X8 M) 0 rfl rfl hK hN hP hD [10] rfl rfl) rfl rfl hl.1 rfl (lv_room (Nat.le_of_ble_eq_true rfl)) dL_law_341 ⟨Nat.le_of_ble_eq_true rfl, Nat.le_of_ble_eq_true rfl⟩) hP hD hS [10] rfl rfl (fun _ => rfl) (fun v9 u9 H locs hq hP hD hS => ?_)
  obtain ⟨q, rfl, hw⟩ := hq
  obtain ⟨N, rfl⟩ : ∃ z, z = u9 := ⟨_, rfl⟩
  have hP : va_P D classes (jn (lwB cI cZ ad am X0 U1 X2 X3 X4 X5 U6 X7 X8 N)) H := hP
  have hD : va_D (lwA s) (jn (lwB cI cZ ad am X0 U1 X2 X3 X4 X5 U6 X7 X8 N)) := hD
  refine W.eq (g2 := F0 m 344 ls [.int q, .int r]) rfl ?_
  refine lv_icmp_eq (tgt := 1200) hx hb dL_law_344 (by decide) (fun _ => ?_) (fun c9 => absurd hw.1 c9)
  exact kont X0 U1 X2 X3 X4 X5 U6 X7 X8 N _ _ _ hw.2 hP hD hS (lv_sub hl [0, 1, 2, 3] rfl)
set_option maxHeartbeats 4000000 in
set_option maxRecDepth 100000 in
theorem law_case_7 {Inv : InvT} {p : Program} {l : Launch} {e : Env} {s : State} {m : MethodId} {below : List Frame} {meth : Method} {c : Code} {b L : Nat} {xs : Nat → Int32} (sim : Sim_done Inv) (hL : L ≤ 320) (C0 : lw_At p s m meth c b L xs) (D : va_G) (cI cZ : ClassId) (ad am : Nat → Nat) (i : Nat) (h5 : i + 5 ≤ L) (hK : va_K D classes (tysOf cI cZ) s) (hN : NW s) (kont : LCont Inv p l e s m b below meth c D cI cZ ad am i)
    (X0 : St) (X1 : St) (X2 : St) (X3 : St) (X4 : (Nat → Int32)) (X5 : St) (X6 : St) (X7 : St) (X8 : St) (M : St) (H : Heap) (locs : List Loc) (ls : Array Slot) (hI : Inv X0 X1 X2 X3 X4 X5 X6 X7 X8 M) (hP : va_P D classes (jn (lwB cI cZ ad am X0 X1 X2 X3 X4 X5 X6 X7 X8 M)) H) (hD : va_D (lwA s) (jn (lwB cI cZ ad am X0 X1 X2 X3 X4 X5 X6 X7 X8 M))) (hS : va_S (lwA s) s.heap H locs) (hl : lv_has ls 4 [(0, .ref b), (1, .ref (ad 0)), (2, .ref (am 0)), (3, .int (nI i))]) : LW p l e s m b below meth c H locs 349 ls [] := by
  obtain ⟨hx, hb, hr, hml, hown, hts, hX, hbl, hlocks, hgv⟩ := C0
  have hW := WT_lw hts
  have hbA : ¬ lwA s b := Nat.not_le.mpr hbl
  refine lv_aload_n hx hb dL_law_349 rfl (lv_at hl 1 rfl) ?_
  have hw := sim X0 X1 X2 X3 X4 X5 X6 X7 X8 M hI
  refine callW (Bs := lwB cI cZ ad am X0 X1 X2 X3 X4 X5 X6 X7 X8 M) (va_runV (As := []) (rest := []) ⟨hx, hb, hml, hown, hW⟩ (c_X6_done l D cI cZ ad X0 X1 X5 X6  _ hw) (cwV0 hW mV_X6_done ml_L_44 ⟨Nat.le_of_ble_eq_true rfl, Nat.le_of_ble_eq_true rfl⟩) (preV0 (Bs := lwB cI cZ ad am X0 X1 X2 X3 X4 X5 X6 X7 X8 M) 0 rfl rfl hK hN hP hD [0, 1, 2, 6, 7] rfl rfl) rfl rfl hl.1 rfl (lv_room (Nat.le_of_ble_eq_true rfl)) dL_law_350 ⟨Nat.le_of_ble_eq_true rfl, Nat.le_of_ble_eq_true rfl⟩) hP hD hS [0, 1, 2, 6, 7] rfl rfl (fun _ => rfl) (fun v9 u9 H locs hq hP hD hS => ?_)
  obtain ⟨r, rfl, hw⟩ := hq
  obtain ⟨U0, U1, U5, U6⟩ := u9
  have hP : va_P D classes (jn (lwB cI cZ ad am U0 U1 X2 X3 X4 U5 U6 X7 X8 M)) H := hP
  have hD : va_D (lwA s) (jn (lwB cI cZ ad am U0 U1 X2 X3 X4 U5 U6 X7 X8 M)) := hD
  dsimp only at hw
  refine W.eq (g2 := F0 m 353 ls [.int r]) rfl ?_
  refine lv_aload_n hx hb dL_law_353 rfl (lv_at hl 2 rfl) ?_
  refine callW (Bs := lwB cI cZ ad am U0 U1 X2 X3 X4 U5 U6 X7 X8 M) (va_runV (As := []) (rest := [.int r]) ⟨hx, hb, hml, hown, hW⟩ (c_X7_done l D cI cZ am M  _ hw) (cwV0 hW mV_X7_done ml_L_47 ⟨Nat.le_of_ble_eq_true rfl, Nat.le_of_ble_eq_true rfl⟩) (preV0 (Bs := lwB cI cZ ad am U0 U1 X2 X3 X4 U5 U6 X7 X8 M) 0 rfl rfl hK hN hP hD [10] rfl rfl) rfl rfl hl.1 rfl (lv_room (Nat.le_of_ble_eq_true rfl)) dL_law_354 ⟨Nat.le_of_ble_eq_true rfl, Nat.le_of_ble_eq_true rfl⟩) hP hD hS [10] rfl rfl (fun _ => rfl) (fun v9 u9 H locs hq hP hD hS => ?_)
  obtain ⟨q, rfl, hw⟩ := hq
  obtain ⟨N, rfl⟩ : ∃ z, z = u9 := ⟨_, rfl⟩
  have hP : va_P D classes (jn (lwB cI cZ ad am U0 U1 X2 X3 X4 U5 U6 X7 X8 N)) H := hP
  have hD : va_D (lwA s) (jn (lwB cI cZ ad am U0 U1 X2 X3 X4 U5 U6 X7 X8 N)) := hD
  refine W.eq (g2 := F0 m 357 ls [.int q, .int r]) rfl ?_
  refine lv_icmp_eq (tgt := 1200) hx hb dL_law_357 (by decide) (fun _ => ?_) (fun c9 => absurd hw.1 c9)
  exact kont U0 U1 X2 X3 X4 U5 U6 X7 X8 N _ _ _ hw.2 hP hD hS (lv_sub hl [0, 1, 2, 3] rfl)
set_option maxHeartbeats 4000000 in
set_option maxRecDepth 100000 in
theorem law_case_8 {Inv : InvT} {p : Program} {l : Launch} {e : Env} {s : State} {m : MethodId} {below : List Frame} {meth : Method} {c : Code} {b L : Nat} {xs : Nat → Int32} (sim : Sim_state Inv) (hL : L ≤ 320) (C0 : lw_At p s m meth c b L xs) (D : va_G) (cI cZ : ClassId) (ad am : Nat → Nat) (i : Nat) (h5 : i + 5 ≤ L) (hK : va_K D classes (tysOf cI cZ) s) (hN : NW s) (kont : LCont Inv p l e s m b below meth c D cI cZ ad am i)
    (X0 : St) (X1 : St) (X2 : St) (X3 : St) (X4 : (Nat → Int32)) (X5 : St) (X6 : St) (X7 : St) (X8 : St) (M : St) (H : Heap) (locs : List Loc) (ls : Array Slot) (hI : Inv X0 X1 X2 X3 X4 X5 X6 X7 X8 M) (hP : va_P D classes (jn (lwB cI cZ ad am X0 X1 X2 X3 X4 X5 X6 X7 X8 M)) H) (hD : va_D (lwA s) (jn (lwB cI cZ ad am X0 X1 X2 X3 X4 X5 X6 X7 X8 M))) (hS : va_S (lwA s) s.heap H locs) (hl : lv_has ls 4 [(0, .ref b), (1, .ref (ad 0)), (2, .ref (am 0)), (3, .int (nI i))]) : LW p l e s m b below meth c H locs 362 ls [] := by
  obtain ⟨hx, hb, hr, hml, hown, hts, hX, hbl, hlocks, hgv⟩ := C0
  have hW := WT_lw hts
  have hbA : ¬ lwA s b := Nat.not_le.mpr hbl
  refine lv_aload_n hx hb dL_law_362 rfl (lv_at hl 1 rfl) ?_
  refine lv_aload_n hx hb dL_law_363 rfl (lv_at hl 0 rfl) ?_
  refine lv_iload_n hx hb dL_law_364 rfl (lv_at hl 3 rfl) ?_
  refine lv_iconst (v := 1) hx hb dL_law_365 (by decide) ?_
  refine lv_iadd hx hb dL_law_366 ?_
  refine va_sld hx hb hX hbl hbA hS (lw_ix (k := 1) (by decide) h5 (by decide) hL) dL_law_367 ?_
  refine lv_aload_n hx hb dL_law_368 rfl (lv_at hl 0 rfl) ?_
  refine lv_iload_n hx hb dL_law_369 rfl (lv_at hl 3 rfl) ?_
  refine lv_iconst (v := 2) hx hb dL_law_370 (by decide) ?_
  refine lv_iadd hx hb dL_law_371 ?_
  refine va_sld hx hb hX hbl hbA hS (lw_ix (k := 2) (by decide) h5 (by decide) hL) dL_law_372 ?_
  have hw := sim X0 X1 X2 X3 X4 X5 X6 X7 X8 M (xs ((nI i) + 1).toNatClampNeg) (xs ((nI i) + 2).toNatClampNeg) hI
  refine callF (va_runV (As := [.int (xs ((nI i) + 1).toNatClampNeg), .int (xs ((nI i) + 2).toNatClampNeg)]) (rest := []) ⟨hx, hb, hml, hown, hW⟩ (c_X6_state l D cI cZ ad X0 (xs ((nI i) + 1).toNatClampNeg) (xs ((nI i) + 2).toNatClampNeg) _ rfl) (cwV0 hW mV_X6_state ml_L_48 ⟨Nat.le_of_ble_eq_true rfl, Nat.le_of_ble_eq_true rfl⟩) (preV0 (Bs := lwB cI cZ ad am X0 X1 X2 X3 X4 X5 X6 X7 X8 M) 0 rfl rfl hK hN hP hD [0, 1] rfl rfl) rfl rfl hl.1 rfl (lv_room (Nat.le_of_ble_eq_true rfl)) dL_law_373 ⟨Nat.le_of_ble_eq_true rfl, Nat.le_of_ble_eq_true rfl⟩) ?_
  refine W.eq (g2 := F0 m 376 ls [.int (F_X6_state X0 (xs ((nI i) + 1).toNatClampNeg) (xs ((nI i) + 2).toNatClampNeg))]) rfl ?_
  refine lv_aload_n hx hb dL_law_376 rfl (lv_at hl 2 rfl) ?_
  refine lv_aload_n hx hb dL_law_377 rfl (lv_at hl 0 rfl) ?_
  refine lv_iload_n hx hb dL_law_378 rfl (lv_at hl 3 rfl) ?_
  refine lv_iconst (v := 1) hx hb dL_law_379 (by decide) ?_
  refine lv_iadd hx hb dL_law_380 ?_
  refine va_sld hx hb hX hbl hbA hS (lw_ix (k := 1) (by decide) h5 (by decide) hL) dL_law_381 ?_
  refine lv_aload_n hx hb dL_law_382 rfl (lv_at hl 0 rfl) ?_
  refine lv_iload_n hx hb dL_law_383 rfl (lv_at hl 3 rfl) ?_
  refine lv_iconst (v := 2) hx hb dL_law_384 (by decide) ?_
  refine lv_iadd hx hb dL_law_385 ?_
  refine va_sld hx hb hX hbl hbA hS (lw_ix (k := 2) (by decide) h5 (by decide) hL) dL_law_386 ?_
  refine callR (va_runV (As := [.int (xs ((nI i) + 1).toNatClampNeg), .int (xs ((nI i) + 2).toNatClampNeg)]) (rest := [.int (F_X6_state X0 (xs ((nI i) + 1).toNatClampNeg) (xs ((nI i) + 2).toNatClampNeg))]) ⟨hx, hb, hml, hown, hW⟩ (c_X7_state l D cI cZ am M (xs ((nI i) + 1).toNatClampNeg) (xs ((nI i) + 2).toNatClampNeg) _ hw) (cwV0 hW mV_X7_state ml_L_52 ⟨Nat.le_of_ble_eq_true rfl, Nat.le_of_ble_eq_true rfl⟩) (preV0 (Bs := lwB cI cZ ad am X0 X1 X2 X3 X4 X5 X6 X7 X8 M) 0 rfl rfl hK hN hP hD [10] rfl rfl) rfl rfl hl.1 rfl (lv_room (Nat.le_of_ble_eq_true rfl)) dL_law_387 ⟨Nat.le_of_ble_eq_true rfl, Nat.le_of_ble_eq_true rfl⟩) (fun v9 hq => ?_)
  obtain ⟨q, rfl, hw⟩ := hq
  refine W.eq (g2 := F0 m 390 ls [.int q, .int (F_X6_state X0 (xs ((nI i) + 1).toNatClampNeg) (xs ((nI i) + 2).toNatClampNeg))]) rfl ?_
  refine lv_icmp_eq (tgt := 1200) hx hb dL_law_390 (by decide) (fun _ => ?_) (fun c9 => absurd hw.1 c9)
  exact kont X0 X1 X2 X3 X4 X5 X6 X7 X8 M _ _ _ hw.2 hP hD hS (lv_sub hl [0, 1, 2, 3] rfl)
set_option maxHeartbeats 4000000 in
set_option maxRecDepth 100000 in
theorem law_case_9 {Inv : InvT} {p : Program} {l : Launch} {e : Env} {s : State} {m : MethodId} {below : List Frame} {meth : Method} {c : Code} {b L : Nat} {xs : Nat → Int32} (sim : Sim_behind Inv) (hL : L ≤ 320) (C0 : lw_At p s m meth c b L xs) (D : va_G) (cI cZ : ClassId) (ad am : Nat → Nat) (i : Nat) (h5 : i + 5 ≤ L) (hK : va_K D classes (tysOf cI cZ) s) (hN : NW s) (kont : LCont Inv p l e s m b below meth c D cI cZ ad am i)
    (X0 : St) (X1 : St) (X2 : St) (X3 : St) (X4 : (Nat → Int32)) (X5 : St) (X6 : St) (X7 : St) (X8 : St) (M : St) (H : Heap) (locs : List Loc) (ls : Array Slot) (hI : Inv X0 X1 X2 X3 X4 X5 X6 X7 X8 M) (hP : va_P D classes (jn (lwB cI cZ ad am X0 X1 X2 X3 X4 X5 X6 X7 X8 M)) H) (hD : va_D (lwA s) (jn (lwB cI cZ ad am X0 X1 X2 X3 X4 X5 X6 X7 X8 M))) (hS : va_S (lwA s) s.heap H locs) (hl : lv_has ls 4 [(0, .ref b), (1, .ref (ad 0)), (2, .ref (am 0)), (3, .int (nI i))]) : LW p l e s m b below meth c H locs 395 ls [] := by
  obtain ⟨hx, hb, hr, hml, hown, hts, hX, hbl, hlocks, hgv⟩ := C0
  have hW := WT_lw hts
  have hbA : ¬ lwA s b := Nat.not_le.mpr hbl
  refine lv_aload_n hx hb dL_law_395 rfl (lv_at hl 1 rfl) ?_
  refine lv_aload_n hx hb dL_law_396 rfl (lv_at hl 0 rfl) ?_
  refine lv_iload_n hx hb dL_law_397 rfl (lv_at hl 3 rfl) ?_
  refine lv_iconst (v := 1) hx hb dL_law_398 (by decide) ?_
  refine lv_iadd hx hb dL_law_399 ?_
  refine va_sld hx hb hX hbl hbA hS (lw_ix (k := 1) (by decide) h5 (by decide) hL) dL_law_400 ?_
  refine lv_aload_n hx hb dL_law_401 rfl (lv_at hl 0 rfl) ?_
  refine lv_iload_n hx hb dL_law_402 rfl (lv_at hl 3 rfl) ?_
  refine lv_iconst (v := 2) hx hb dL_law_403 (by decide) ?_
  refine lv_iadd hx hb dL_law_404 ?_
  refine va_sld hx hb hX hbl hbA hS (lw_ix (k := 2) (by decide) h5 (by decide) hL) dL_law_405 ?_
  have hw := sim X0 X1 X2 X3 X4 X5 X6 X7 X8 M (xs ((nI i) + 1).toNatClampNeg) (xs ((nI i) + 2).toNatClampNeg) hI
  refine callW (Bs := lwB cI cZ ad am X0 X1 X2 X3 X4 X5 X6 X7 X8 M) (va_runV (As := [.int (xs ((nI i) + 1).toNatClampNeg), .int (xs ((nI i) + 2).toNatClampNeg)]) (rest := []) ⟨hx, hb, hml, hown, hW⟩ (c_X6_behind l D cI cZ ad X0 X1 X5 X6 (xs ((nI i) + 1).toNatClampNeg) (xs ((nI i) + 2).toNatClampNeg) _ hw) (cwV0 hW mV_X6_behind ml_L_53 ⟨Nat.le_of_ble_eq_true rfl, Nat.le_of_ble_eq_true rfl⟩) (preV0 (Bs := lwB cI cZ ad am X0 X1 X2 X3 X4 X5 X6 X7 X8 M) 0 rfl rfl hK hN hP hD [0, 1, 2, 6, 7] rfl rfl) rfl rfl hl.1 rfl (lv_room (Nat.le_of_ble_eq_true rfl)) dL_law_406 ⟨Nat.le_of_ble_eq_true rfl, Nat.le_of_ble_eq_true rfl⟩) hP hD hS [0, 1, 2, 6, 7] rfl rfl (fun _ => rfl) (fun v9 u9 H locs hq hP hD hS => ?_)
  obtain ⟨r, rfl, hw⟩ := hq
  obtain ⟨U1, U6⟩ := u9
  have hP : va_P D classes (jn (lwB cI cZ ad am X0 U1 X2 X3 X4 X5 U6 X7 X8 M)) H := hP
  have hD : va_D (lwA s) (jn (lwB cI cZ ad am X0 U1 X2 X3 X4 X5 U6 X7 X8 M)) := hD
  dsimp only at hw
  refine W.eq (g2 := F0 m 409 ls [.int r]) rfl ?_
  refine lv_aload_n hx hb dL_law_409 rfl (lv_at hl 2 rfl) ?_
  refine lv_aload_n hx hb dL_law_410 rfl (lv_at hl 0 rfl) ?_
  refine lv_iload_n hx hb dL_law_411 rfl (lv_at hl 3 rfl) ?_
  refine lv_iconst (v := 1) hx hb dL_law_412 (by decide) ?_
  refine lv_iadd hx hb dL_law_413 ?_
  refine va_sld hx hb hX hbl hbA hS (lw_ix (k := 1) (by decide) h5 (by decide) hL) dL_law_414 ?_
  refine lv_aload_n hx hb dL_law_415 rfl (lv_at hl 0 rfl) ?_
  refine lv_iload_n hx hb dL_law_416 rfl (lv_at hl 3 rfl) ?_
  refine lv_iconst (v := 2) hx hb dL_law_417 (by decide) ?_
  refine lv_iadd hx hb dL_law_418 ?_
  refine va_sld hx hb hX hbl hbA hS (lw_ix (k := 2) (by decide) h5 (by decide) hL) dL_law_419 ?_
  refine callW (Bs := lwB cI cZ ad am X0 U1 X2 X3 X4 X5 U6 X7 X8 M) (va_runV (As := [.int (xs ((nI i) + 1).toNatClampNeg), .int (xs ((nI i) + 2).toNatClampNeg)]) (rest := [.int r]) ⟨hx, hb, hml, hown, hW⟩ (c_X7_behind l D cI cZ am M (xs ((nI i) + 1).toNatClampNeg) (xs ((nI i) + 2).toNatClampNeg) _ hw) (cwV0 hW mV_X7_behind ml_L_56 ⟨Nat.le_of_ble_eq_true rfl, Nat.le_of_ble_eq_true rfl⟩) (preV0 (Bs := lwB cI cZ ad am X0 U1 X2 X3 X4 X5 U6 X7 X8 M) 0 rfl rfl hK hN hP hD [10] rfl rfl) rfl rfl hl.1 rfl (lv_room (Nat.le_of_ble_eq_true rfl)) dL_law_420 ⟨Nat.le_of_ble_eq_true rfl, Nat.le_of_ble_eq_true rfl⟩) hP hD hS [10] rfl rfl (fun _ => rfl) (fun v9 u9 H locs hq hP hD hS => ?_)
  obtain ⟨q, rfl, hw⟩ := hq
  obtain ⟨N, rfl⟩ : ∃ z, z = u9 := ⟨_, rfl⟩
  have hP : va_P D classes (jn (lwB cI cZ ad am X0 U1 X2 X3 X4 X5 U6 X7 X8 N)) H := hP
  have hD : va_D (lwA s) (jn (lwB cI cZ ad am X0 U1 X2 X3 X4 X5 U6 X7 X8 N)) := hD
  refine W.eq (g2 := F0 m 423 ls [.int q, .int r]) rfl ?_
  refine lv_icmp_eq (tgt := 1200) hx hb dL_law_423 (by decide) (fun _ => ?_) (fun c9 => absurd hw.1 c9)
  exact kont X0 U1 X2 X3 X4 X5 U6 X7 X8 N _ _ _ hw.2 hP hD hS (lv_sub hl [0, 1, 2, 3] rfl)
set_option maxHeartbeats 4000000 in
set_option maxRecDepth 100000 in
theorem law_case_10 {Inv : InvT} {p : Program} {l : Launch} {e : Env} {s : State} {m : MethodId} {below : List Frame} {meth : Method} {c : Code} {b L : Nat} {xs : Nat → Int32} (sim : Sim_day Inv) (hL : L ≤ 320) (C0 : lw_At p s m meth c b L xs) (D : va_G) (cI cZ : ClassId) (ad am : Nat → Nat) (i : Nat) (h5 : i + 5 ≤ L) (hK : va_K D classes (tysOf cI cZ) s) (hN : NW s) (kont : LCont Inv p l e s m b below meth c D cI cZ ad am i)
    (X0 : St) (X1 : St) (X2 : St) (X3 : St) (X4 : (Nat → Int32)) (X5 : St) (X6 : St) (X7 : St) (X8 : St) (M : St) (H : Heap) (locs : List Loc) (ls : Array Slot) (hI : Inv X0 X1 X2 X3 X4 X5 X6 X7 X8 M) (hP : va_P D classes (jn (lwB cI cZ ad am X0 X1 X2 X3 X4 X5 X6 X7 X8 M)) H) (hD : va_D (lwA s) (jn (lwB cI cZ ad am X0 X1 X2 X3 X4 X5 X6 X7 X8 M))) (hS : va_S (lwA s) s.heap H locs) (hl : lv_has ls 4 [(0, .ref b), (1, .ref (ad 0)), (2, .ref (am 0)), (3, .int (nI i))]) : LW p l e s m b below meth c H locs 428 ls [] := by
  obtain ⟨hx, hb, hr, hml, hown, hts, hX, hbl, hlocks, hgv⟩ := C0
  have hW := WT_lw hts
  have hbA : ¬ lwA s b := Nat.not_le.mpr hbl
  refine lv_aload_n hx hb dL_law_428 rfl (lv_at hl 1 rfl) ?_
  have hw := sim X0 X1 X2 X3 X4 X5 X6 X7 X8 M hI
  refine callW (Bs := lwB cI cZ ad am X0 X1 X2 X3 X4 X5 X6 X7 X8 M) (va_runV (As := []) (rest := []) ⟨hx, hb, hml, hown, hW⟩ (c_X6_day l D cI cZ ad X0 X1 X5 X6  _ hw) (cwV0 hW mV_X6_day ml_L_57 ⟨Nat.le_of_ble_eq_true rfl, Nat.le_of_ble_eq_true rfl⟩) (preV0 (Bs := lwB cI cZ ad am X0 X1 X2 X3 X4 X5 X6 X7 X8 M) 0 rfl rfl hK hN hP hD [0, 1, 2, 6, 7] rfl rfl) rfl rfl hl.1 rfl (lv_room (Nat.le_of_ble_eq_true rfl)) dL_law_429 ⟨Nat.le_of_ble_eq_true rfl, Nat.le_of_ble_eq_true rfl⟩) hP hD hS [0, 1, 2, 6, 7] rfl rfl (fun _ => rfl) (fun v9 u9 H locs hq hP hD hS => ?_)
  obtain ⟨r, rfl, hw⟩ := hq
  obtain ⟨U1, U6⟩ := u9
  have hP : va_P D classes (jn (lwB cI cZ ad am X0 U1 X2 X3 X4 X5 U6 X7 X8 M)) H := hP
  have hD : va_D (lwA s) (jn (lwB cI cZ ad am X0 U1 X2 X3 X4 X5 U6 X7 X8 M)) := hD
  dsimp only at hw
  refine W.eq (g2 := F0 m 432 ls [.int r]) rfl ?_
  refine lv_aload_n hx hb dL_law_432 rfl (lv_at hl 2 rfl) ?_
  refine callW (Bs := lwB cI cZ ad am X0 U1 X2 X3 X4 X5 U6 X7 X8 M) (va_runV (As := []) (rest := [.int r]) ⟨hx, hb, hml, hown, hW⟩ (c_X7_day l D cI cZ am M  _ hw) (cwV0 hW mV_X7_day ml_L_60 ⟨Nat.le_of_ble_eq_true rfl, Nat.le_of_ble_eq_true rfl⟩) (preV0 (Bs := lwB cI cZ ad am X0 U1 X2 X3 X4 X5 U6 X7 X8 M) 0 rfl rfl hK hN hP hD [10] rfl rfl) rfl rfl hl.1 rfl (lv_room (Nat.le_of_ble_eq_true rfl)) dL_law_433 ⟨Nat.le_of_ble_eq_true rfl, Nat.le_of_ble_eq_true rfl⟩) hP hD hS [10] rfl rfl (fun _ => rfl) (fun v9 u9 H locs hq hP hD hS => ?_)
  obtain ⟨q, rfl, hw⟩ := hq
  obtain ⟨N, rfl⟩ : ∃ z, z = u9 := ⟨_, rfl⟩
  have hP : va_P D classes (jn (lwB cI cZ ad am X0 U1 X2 X3 X4 X5 U6 X7 X8 N)) H := hP
  have hD : va_D (lwA s) (jn (lwB cI cZ ad am X0 U1 X2 X3 X4 X5 U6 X7 X8 N)) := hD
  refine W.eq (g2 := F0 m 436 ls [.int q, .int r]) rfl ?_
  refine lv_icmp_eq (tgt := 1200) hx hb dL_law_436 (by decide) (fun _ => ?_) (fun c9 => absurd hw.1 c9)
  exact kont X0 U1 X2 X3 X4 X5 U6 X7 X8 N _ _ _ hw.2 hP hD hS (lv_sub hl [0, 1, 2, 3] rfl)
set_option maxHeartbeats 4000000 in
set_option maxRecDepth 100000 in
theorem law_case_11 {Inv : InvT} {p : Program} {l : Launch} {e : Env} {s : State} {m : MethodId} {below : List Frame} {meth : Method} {c : Code} {b L : Nat} {xs : Nat → Int32} (sim : Sim_where Inv) (hL : L ≤ 320) (C0 : lw_At p s m meth c b L xs) (D : va_G) (cI cZ : ClassId) (ad am : Nat → Nat) (i : Nat) (h5 : i + 5 ≤ L) (hK : va_K D classes (tysOf cI cZ) s) (hN : NW s) (kont : LCont Inv p l e s m b below meth c D cI cZ ad am i)
    (X0 : St) (X1 : St) (X2 : St) (X3 : St) (X4 : (Nat → Int32)) (X5 : St) (X6 : St) (X7 : St) (X8 : St) (M : St) (H : Heap) (locs : List Loc) (ls : Array Slot) (hI : Inv X0 X1 X2 X3 X4 X5 X6 X7 X8 M) (hP : va_P D classes (jn (lwB cI cZ ad am X0 X1 X2 X3 X4 X5 X6 X7 X8 M)) H) (hD : va_D (lwA s) (jn (lwB cI cZ ad am X0 X1 X2 X3 X4 X5 X6 X7 X8 M))) (hS : va_S (lwA s) s.heap H locs) (hl : lv_has ls 4 [(0, .ref b), (1, .ref (ad 0)), (2, .ref (am 0)), (3, .int (nI i))]) : LW p l e s m b below meth c H locs 441 ls [] := by
  obtain ⟨hx, hb, hr, hml, hown, hts, hX, hbl, hlocks, hgv⟩ := C0
  have hW := WT_lw hts
  have hbA : ¬ lwA s b := Nat.not_le.mpr hbl
  refine lv_aload_n hx hb dL_law_441 rfl (lv_at hl 1 rfl) ?_
  refine lv_aload_n hx hb dL_law_442 rfl (lv_at hl 0 rfl) ?_
  refine lv_iload_n hx hb dL_law_443 rfl (lv_at hl 3 rfl) ?_
  refine lv_iconst (v := 1) hx hb dL_law_444 (by decide) ?_
  refine lv_iadd hx hb dL_law_445 ?_
  refine va_sld hx hb hX hbl hbA hS (lw_ix (k := 1) (by decide) h5 (by decide) hL) dL_law_446 ?_
  refine lv_aload_n hx hb dL_law_447 rfl (lv_at hl 0 rfl) ?_
  refine lv_iload_n hx hb dL_law_448 rfl (lv_at hl 3 rfl) ?_
  refine lv_iconst (v := 2) hx hb dL_law_449 (by decide) ?_
  refine lv_iadd hx hb dL_law_450 ?_
  refine va_sld hx hb hX hbl hbA hS (lw_ix (k := 2) (by decide) h5 (by decide) hL) dL_law_451 ?_
  have hw := sim X0 X1 X2 X3 X4 X5 X6 X7 X8 M (xs ((nI i) + 1).toNatClampNeg) (xs ((nI i) + 2).toNatClampNeg) hI
  refine callF (va_runV (As := [.int (xs ((nI i) + 1).toNatClampNeg), .int (xs ((nI i) + 2).toNatClampNeg)]) (rest := []) ⟨hx, hb, hml, hown, hW⟩ (c_X6_where l D cI cZ ad X0 (xs ((nI i) + 1).toNatClampNeg) (xs ((nI i) + 2).toNatClampNeg) _ rfl) (cwV0 hW mV_X6_where ml_L_61 ⟨Nat.le_of_ble_eq_true rfl, Nat.le_of_ble_eq_true rfl⟩) (preV0 (Bs := lwB cI cZ ad am X0 X1 X2 X3 X4 X5 X6 X7 X8 M) 0 rfl rfl hK hN hP hD [0, 1] rfl rfl) rfl rfl hl.1 rfl (lv_room (Nat.le_of_ble_eq_true rfl)) dL_law_452 ⟨Nat.le_of_ble_eq_true rfl, Nat.le_of_ble_eq_true rfl⟩) ?_
  refine W.eq (g2 := F0 m 455 ls [.int (F_X6_where X0 (xs ((nI i) + 1).toNatClampNeg) (xs ((nI i) + 2).toNatClampNeg))]) rfl ?_
  refine lv_aload_n hx hb dL_law_455 rfl (lv_at hl 2 rfl) ?_
  refine lv_aload_n hx hb dL_law_456 rfl (lv_at hl 0 rfl) ?_
  refine lv_iload_n hx hb dL_law_457 rfl (lv_at hl 3 rfl) ?_
  refine lv_iconst (v := 1) hx hb dL_law_458 (by decide) ?_
  refine lv_iadd hx hb dL_law_459 ?_
  refine va_sld hx hb hX hbl hbA hS (lw_ix (k := 1) (by decide) h5 (by decide) hL) dL_law_460 ?_
  refine lv_aload_n hx hb dL_law_461 rfl (lv_at hl 0 rfl) ?_
  refine lv_iload_n hx hb dL_law_462 rfl (lv_at hl 3 rfl) ?_
  refine lv_iconst (v := 2) hx hb dL_law_463 (by decide) ?_
  refine lv_iadd hx hb dL_law_464 ?_
  refine va_sld hx hb hX hbl hbA hS (lw_ix (k := 2) (by decide) h5 (by decide) hL) dL_law_465 ?_
  refine callR (va_runV (As := [.int (xs ((nI i) + 1).toNatClampNeg), .int (xs ((nI i) + 2).toNatClampNeg)]) (rest := [.int (F_X6_where X0 (xs ((nI i) + 1).toNatClampNeg) (xs ((nI i) + 2).toNatClampNeg))]) ⟨hx, hb, hml, hown, hW⟩ (c_X7_where l D cI cZ am M (xs ((nI i) + 1).toNatClampNeg) (xs ((nI i) + 2).toNatClampNeg) _ hw) (cwV0 hW mV_X7_where ml_L_64 ⟨Nat.le_of_ble_eq_true rfl, Nat.le_of_ble_eq_true rfl⟩) (preV0 (Bs := lwB cI cZ ad am X0 X1 X2 X3 X4 X5 X6 X7 X8 M) 0 rfl rfl hK hN hP hD [10] rfl rfl) rfl rfl hl.1 rfl (lv_room (Nat.le_of_ble_eq_true rfl)) dL_law_466 ⟨Nat.le_of_ble_eq_true rfl, Nat.le_of_ble_eq_true rfl⟩) (fun v9 hq => ?_)
  obtain ⟨q, rfl, hw⟩ := hq
  refine W.eq (g2 := F0 m 469 ls [.int q, .int (F_X6_where X0 (xs ((nI i) + 1).toNatClampNeg) (xs ((nI i) + 2).toNatClampNeg))]) rfl ?_
  refine lv_icmp_eq (tgt := 1200) hx hb dL_law_469 (by decide) (fun _ => ?_) (fun c9 => absurd hw.1 c9)
  exact kont X0 X1 X2 X3 X4 X5 X6 X7 X8 M _ _ _ hw.2 hP hD hS (lv_sub hl [0, 1, 2, 3] rfl)
set_option maxHeartbeats 4000000 in
set_option maxRecDepth 100000 in
theorem law_case_12 {Inv : InvT} {p : Program} {l : Launch} {e : Env} {s : State} {m : MethodId} {below : List Frame} {meth : Method} {c : Code} {b L : Nat} {xs : Nat → Int32} (sim : Sim_who Inv) (hL : L ≤ 320) (C0 : lw_At p s m meth c b L xs) (D : va_G) (cI cZ : ClassId) (ad am : Nat → Nat) (i : Nat) (h5 : i + 5 ≤ L) (hK : va_K D classes (tysOf cI cZ) s) (hN : NW s) (kont : LCont Inv p l e s m b below meth c D cI cZ ad am i)
    (X0 : St) (X1 : St) (X2 : St) (X3 : St) (X4 : (Nat → Int32)) (X5 : St) (X6 : St) (X7 : St) (X8 : St) (M : St) (H : Heap) (locs : List Loc) (ls : Array Slot) (hI : Inv X0 X1 X2 X3 X4 X5 X6 X7 X8 M) (hP : va_P D classes (jn (lwB cI cZ ad am X0 X1 X2 X3 X4 X5 X6 X7 X8 M)) H) (hD : va_D (lwA s) (jn (lwB cI cZ ad am X0 X1 X2 X3 X4 X5 X6 X7 X8 M))) (hS : va_S (lwA s) s.heap H locs) (hl : lv_has ls 4 [(0, .ref b), (1, .ref (ad 0)), (2, .ref (am 0)), (3, .int (nI i))]) : LW p l e s m b below meth c H locs 474 ls [] := by
  obtain ⟨hx, hb, hr, hml, hown, hts, hX, hbl, hlocks, hgv⟩ := C0
  have hW := WT_lw hts
  have hbA : ¬ lwA s b := Nat.not_le.mpr hbl
  refine lv_aload_n hx hb dL_law_474 rfl (lv_at hl 1 rfl) ?_
  refine lv_aload_n hx hb dL_law_475 rfl (lv_at hl 0 rfl) ?_
  refine lv_iload_n hx hb dL_law_476 rfl (lv_at hl 3 rfl) ?_
  refine lv_iconst (v := 1) hx hb dL_law_477 (by decide) ?_
  refine lv_iadd hx hb dL_law_478 ?_
  refine va_sld hx hb hX hbl hbA hS (lw_ix (k := 1) (by decide) h5 (by decide) hL) dL_law_479 ?_
  refine lv_aload_n hx hb dL_law_480 rfl (lv_at hl 0 rfl) ?_
  refine lv_iload_n hx hb dL_law_481 rfl (lv_at hl 3 rfl) ?_
  refine lv_iconst (v := 2) hx hb dL_law_482 (by decide) ?_
  refine lv_iadd hx hb dL_law_483 ?_
  refine va_sld hx hb hX hbl hbA hS (lw_ix (k := 2) (by decide) h5 (by decide) hL) dL_law_484 ?_
  have hw := sim X0 X1 X2 X3 X4 X5 X6 X7 X8 M (xs ((nI i) + 1).toNatClampNeg) (xs ((nI i) + 2).toNatClampNeg) hI
  refine callR (va_runV (As := [.int (xs ((nI i) + 1).toNatClampNeg), .int (xs ((nI i) + 2).toNatClampNeg)]) (rest := []) ⟨hx, hb, hml, hown, hW⟩ (c_X6_who l D cI cZ ad X0 (xs ((nI i) + 1).toNatClampNeg) (xs ((nI i) + 2).toNatClampNeg) _ hw) (cwV0 hW mV_X6_who ml_L_65 ⟨Nat.le_of_ble_eq_true rfl, Nat.le_of_ble_eq_true rfl⟩) (preV0 (Bs := lwB cI cZ ad am X0 X1 X2 X3 X4 X5 X6 X7 X8 M) 0 rfl rfl hK hN hP hD [0, 1] rfl rfl) rfl rfl hl.1 rfl (lv_room (Nat.le_of_ble_eq_true rfl)) dL_law_485 ⟨Nat.le_of_ble_eq_true rfl, Nat.le_of_ble_eq_true rfl⟩) (fun v9 hq => ?_)
  obtain ⟨r, rfl, hw⟩ := hq
  refine W.eq (g2 := F0 m 488 ls [.int r]) rfl ?_
  refine lv_aload_n hx hb dL_law_488 rfl (lv_at hl 2 rfl) ?_
  refine lv_aload_n hx hb dL_law_489 rfl (lv_at hl 0 rfl) ?_
  refine lv_iload_n hx hb dL_law_490 rfl (lv_at hl 3 rfl) ?_
  refine lv_iconst (v := 1) hx hb dL_law_491 (by decide) ?_
  refine lv_iadd hx hb dL_law_492 ?_
  refine va_sld hx hb hX hbl hbA hS (lw_ix (k := 1) (by decide) h5 (by decide) hL) dL_law_493 ?_
  refine lv_aload_n hx hb dL_law_494 rfl (lv_at hl 0 rfl) ?_
  refine lv_iload_n hx hb dL_law_495 rfl (lv_at hl 3 rfl) ?_
  refine lv_iconst (v := 2) hx hb dL_law_496 (by decide) ?_
  refine lv_iadd hx hb dL_law_497 ?_
  refine va_sld hx hb hX hbl hbA hS (lw_ix (k := 2) (by decide) h5 (by decide) hL) dL_law_498 ?_
  refine callR (va_runV (As := [.int (xs ((nI i) + 1).toNatClampNeg), .int (xs ((nI i) + 2).toNatClampNeg)]) (rest := [.int r]) ⟨hx, hb, hml, hown, hW⟩ (c_X7_who l D cI cZ am M (xs ((nI i) + 1).toNatClampNeg) (xs ((nI i) + 2).toNatClampNeg) _ hw) (cwV0 hW mV_X7_who ml_L_68 ⟨Nat.le_of_ble_eq_true rfl, Nat.le_of_ble_eq_true rfl⟩) (preV0 (Bs := lwB cI cZ ad am X0 X1 X2 X3 X4 X5 X6 X7 X8 M) 0 rfl rfl hK hN hP hD [10] rfl rfl) rfl rfl hl.1 rfl (lv_room (Nat.le_of_ble_eq_true rfl)) dL_law_499 ⟨Nat.le_of_ble_eq_true rfl, Nat.le_of_ble_eq_true rfl⟩) (fun v9 hq => ?_)
  obtain ⟨q, rfl, hw⟩ := hq
  refine W.eq (g2 := F0 m 502 ls [.int q, .int r]) rfl ?_
  refine lv_icmp_eq (tgt := 1200) hx hb dL_law_502 (by decide) (fun _ => ?_) (fun c9 => absurd hw.1 c9)
  exact kont X0 X1 X2 X3 X4 X5 X6 X7 X8 M _ _ _ hw.2 hP hD hS (lv_sub hl [0, 1, 2, 3] rfl)
set_option maxHeartbeats 4000000 in
set_option maxRecDepth 100000 in
theorem law_case_13 {Inv : InvT} {p : Program} {l : Launch} {e : Env} {s : State} {m : MethodId} {below : List Frame} {meth : Method} {c : Code} {b L : Nat} {xs : Nat → Int32} (sim : Sim_meet Inv) (hL : L ≤ 320) (C0 : lw_At p s m meth c b L xs) (D : va_G) (cI cZ : ClassId) (ad am : Nat → Nat) (i : Nat) (h5 : i + 5 ≤ L) (hK : va_K D classes (tysOf cI cZ) s) (hN : NW s) (kont : LCont Inv p l e s m b below meth c D cI cZ ad am i)
    (X0 : St) (X1 : St) (X2 : St) (X3 : St) (X4 : (Nat → Int32)) (X5 : St) (X6 : St) (X7 : St) (X8 : St) (M : St) (H : Heap) (locs : List Loc) (ls : Array Slot) (hI : Inv X0 X1 X2 X3 X4 X5 X6 X7 X8 M) (hP : va_P D classes (jn (lwB cI cZ ad am X0 X1 X2 X3 X4 X5 X6 X7 X8 M)) H) (hD : va_D (lwA s) (jn (lwB cI cZ ad am X0 X1 X2 X3 X4 X5 X6 X7 X8 M))) (hS : va_S (lwA s) s.heap H locs) (hl : lv_has ls 4 [(0, .ref b), (1, .ref (ad 0)), (2, .ref (am 0)), (3, .int (nI i))]) : LW p l e s m b below meth c H locs 507 ls [] := by
  obtain ⟨hx, hb, hr, hml, hown, hts, hX, hbl, hlocks, hgv⟩ := C0
  have hW := WT_lw hts
  have hbA : ¬ lwA s b := Nat.not_le.mpr hbl
  refine lv_aload_n hx hb dL_law_507 rfl (lv_at hl 1 rfl) ?_
  refine lv_aload_n hx hb dL_law_508 rfl (lv_at hl 0 rfl) ?_
  refine lv_iload_n hx hb dL_law_509 rfl (lv_at hl 3 rfl) ?_
  refine lv_iconst (v := 1) hx hb dL_law_510 (by decide) ?_
  refine lv_iadd hx hb dL_law_511 ?_
  refine va_sld hx hb hX hbl hbA hS (lw_ix (k := 1) (by decide) h5 (by decide) hL) dL_law_512 ?_
  refine lv_aload_n hx hb dL_law_513 rfl (lv_at hl 0 rfl) ?_
  refine lv_iload_n hx hb dL_law_514 rfl (lv_at hl 3 rfl) ?_
  refine lv_iconst (v := 2) hx hb dL_law_515 (by decide) ?_
  refine lv_iadd hx hb dL_law_516 ?_
  refine va_sld hx hb hX hbl hbA hS (lw_ix (k := 2) (by decide) h5 (by decide) hL) dL_law_517 ?_
  have hw := sim X0 X1 X2 X3 X4 X5 X6 X7 X8 M (xs ((nI i) + 1).toNatClampNeg) (xs ((nI i) + 2).toNatClampNeg) hI
  refine callR (va_runV (As := [.int (xs ((nI i) + 1).toNatClampNeg), .int (xs ((nI i) + 2).toNatClampNeg)]) (rest := []) ⟨hx, hb, hml, hown, hW⟩ (c_X6_meet l D cI cZ ad X0 (xs ((nI i) + 1).toNatClampNeg) (xs ((nI i) + 2).toNatClampNeg) _ hw) (cwV0 hW mV_X6_meet ml_L_69 ⟨Nat.le_of_ble_eq_true rfl, Nat.le_of_ble_eq_true rfl⟩) (preV0 (Bs := lwB cI cZ ad am X0 X1 X2 X3 X4 X5 X6 X7 X8 M) 0 rfl rfl hK hN hP hD [0, 1] rfl rfl) rfl rfl hl.1 rfl (lv_room (Nat.le_of_ble_eq_true rfl)) dL_law_518 ⟨Nat.le_of_ble_eq_true rfl, Nat.le_of_ble_eq_true rfl⟩) (fun v9 hq => ?_)
  obtain ⟨r, rfl, hw⟩ := hq
  refine W.eq (g2 := F0 m 521 ls [.int r]) rfl ?_
  refine lv_aload_n hx hb dL_law_521 rfl (lv_at hl 2 rfl) ?_
  refine lv_aload_n hx hb dL_law_522 rfl (lv_at hl 0 rfl) ?_
  refine lv_iload_n hx hb dL_law_523 rfl (lv_at hl 3 rfl) ?_
  refine lv_iconst (v := 1) hx hb dL_law_524 (by decide) ?_
  refine lv_iadd hx hb dL_law_525 ?_
  refine va_sld hx hb hX hbl hbA hS (lw_ix (k := 1) (by decide) h5 (by decide) hL) dL_law_526 ?_
  refine lv_aload_n hx hb dL_law_527 rfl (lv_at hl 0 rfl) ?_
  refine lv_iload_n hx hb dL_law_528 rfl (lv_at hl 3 rfl) ?_
  refine lv_iconst (v := 2) hx hb dL_law_529 (by decide) ?_
  refine lv_iadd hx hb dL_law_530 ?_
  refine va_sld hx hb hX hbl hbA hS (lw_ix (k := 2) (by decide) h5 (by decide) hL) dL_law_531 ?_
  refine callR (va_runV (As := [.int (xs ((nI i) + 1).toNatClampNeg), .int (xs ((nI i) + 2).toNatClampNeg)]) (rest := [.int r]) ⟨hx, hb, hml, hown, hW⟩ (c_X7_meet l D cI cZ am M (xs ((nI i) + 1).toNatClampNeg) (xs ((nI i) + 2).toNatClampNeg) _ hw) (cwV0 hW mV_X7_meet ml_L_72 ⟨Nat.le_of_ble_eq_true rfl, Nat.le_of_ble_eq_true rfl⟩) (preV0 (Bs := lwB cI cZ ad am X0 X1 X2 X3 X4 X5 X6 X7 X8 M) 0 rfl rfl hK hN hP hD [10] rfl rfl) rfl rfl hl.1 rfl (lv_room (Nat.le_of_ble_eq_true rfl)) dL_law_532 ⟨Nat.le_of_ble_eq_true rfl, Nat.le_of_ble_eq_true rfl⟩) (fun v9 hq => ?_)
  obtain ⟨q, rfl, hw⟩ := hq
  refine W.eq (g2 := F0 m 535 ls [.int q, .int r]) rfl ?_
  refine lv_icmp_eq (tgt := 1200) hx hb dL_law_535 (by decide) (fun _ => ?_) (fun c9 => absurd hw.1 c9)
  exact kont X0 X1 X2 X3 X4 X5 X6 X7 X8 M _ _ _ hw.2 hP hD hS (lv_sub hl [0, 1, 2, 3] rfl)
set_option maxHeartbeats 4000000 in
set_option maxRecDepth 100000 in
theorem law_case_14 {Inv : InvT} {p : Program} {l : Launch} {e : Env} {s : State} {m : MethodId} {below : List Frame} {meth : Method} {c : Code} {b L : Nat} {xs : Nat → Int32} (sim : Sim_together Inv) (hL : L ≤ 320) (C0 : lw_At p s m meth c b L xs) (D : va_G) (cI cZ : ClassId) (ad am : Nat → Nat) (i : Nat) (h5 : i + 5 ≤ L) (hK : va_K D classes (tysOf cI cZ) s) (hN : NW s) (kont : LCont Inv p l e s m b below meth c D cI cZ ad am i)
    (X0 : St) (X1 : St) (X2 : St) (X3 : St) (X4 : (Nat → Int32)) (X5 : St) (X6 : St) (X7 : St) (X8 : St) (M : St) (H : Heap) (locs : List Loc) (ls : Array Slot) (hI : Inv X0 X1 X2 X3 X4 X5 X6 X7 X8 M) (hP : va_P D classes (jn (lwB cI cZ ad am X0 X1 X2 X3 X4 X5 X6 X7 X8 M)) H) (hD : va_D (lwA s) (jn (lwB cI cZ ad am X0 X1 X2 X3 X4 X5 X6 X7 X8 M))) (hS : va_S (lwA s) s.heap H locs) (hl : lv_has ls 4 [(0, .ref b), (1, .ref (ad 0)), (2, .ref (am 0)), (3, .int (nI i))]) : LW p l e s m b below meth c H locs 540 ls [] := by
  obtain ⟨hx, hb, hr, hml, hown, hts, hX, hbl, hlocks, hgv⟩ := C0
  have hW := WT_lw hts
  have hbA : ¬ lwA s b := Nat.not_le.mpr hbl
  refine lv_aload_n hx hb dL_law_540 rfl (lv_at hl 1 rfl) ?_
  refine lv_aload_n hx hb dL_law_541 rfl (lv_at hl 0 rfl) ?_
  refine lv_iload_n hx hb dL_law_542 rfl (lv_at hl 3 rfl) ?_
  refine lv_iconst (v := 1) hx hb dL_law_543 (by decide) ?_
  refine lv_iadd hx hb dL_law_544 ?_
  refine va_sld hx hb hX hbl hbA hS (lw_ix (k := 1) (by decide) h5 (by decide) hL) dL_law_545 ?_
  refine lv_aload_n hx hb dL_law_546 rfl (lv_at hl 0 rfl) ?_
  refine lv_iload_n hx hb dL_law_547 rfl (lv_at hl 3 rfl) ?_
  refine lv_iconst (v := 2) hx hb dL_law_548 (by decide) ?_
  refine lv_iadd hx hb dL_law_549 ?_
  refine va_sld hx hb hX hbl hbA hS (lw_ix (k := 2) (by decide) h5 (by decide) hL) dL_law_550 ?_
  refine lv_aload_n hx hb dL_law_551 rfl (lv_at hl 0 rfl) ?_
  refine lv_iload_n hx hb dL_law_552 rfl (lv_at hl 3 rfl) ?_
  refine lv_iconst (v := 3) hx hb dL_law_553 (by decide) ?_
  refine lv_iadd hx hb dL_law_554 ?_
  refine va_sld hx hb hX hbl hbA hS (lw_ix (k := 3) (by decide) h5 (by decide) hL) dL_law_555 ?_
  have hw := sim X0 X1 X2 X3 X4 X5 X6 X7 X8 M (xs ((nI i) + 1).toNatClampNeg) (xs ((nI i) + 2).toNatClampNeg) (xs ((nI i) + 3).toNatClampNeg) hI
  refine callR (va_runV (As := [.int (xs ((nI i) + 1).toNatClampNeg), .int (xs ((nI i) + 2).toNatClampNeg), .int (xs ((nI i) + 3).toNatClampNeg)]) (rest := []) ⟨hx, hb, hml, hown, hW⟩ (c_X6_together l D cI cZ ad X0 (xs ((nI i) + 1).toNatClampNeg) (xs ((nI i) + 2).toNatClampNeg) (xs ((nI i) + 3).toNatClampNeg) _ hw) (cwV0 hW mV_X6_together ml_L_73 ⟨Nat.le_of_ble_eq_true rfl, Nat.le_of_ble_eq_true rfl⟩) (preV0 (Bs := lwB cI cZ ad am X0 X1 X2 X3 X4 X5 X6 X7 X8 M) 0 rfl rfl hK hN hP hD [0, 1] rfl rfl) rfl rfl hl.1 rfl (lv_room (Nat.le_of_ble_eq_true rfl)) dL_law_556 ⟨Nat.le_of_ble_eq_true rfl, Nat.le_of_ble_eq_true rfl⟩) (fun v9 hq => ?_)
  obtain ⟨r, rfl, hw⟩ := hq
  refine W.eq (g2 := F0 m 559 ls [.int r]) rfl ?_
  refine lv_aload_n hx hb dL_law_559 rfl (lv_at hl 2 rfl) ?_
  refine lv_aload_n hx hb dL_law_560 rfl (lv_at hl 0 rfl) ?_
  refine lv_iload_n hx hb dL_law_561 rfl (lv_at hl 3 rfl) ?_
  refine lv_iconst (v := 1) hx hb dL_law_562 (by decide) ?_
  refine lv_iadd hx hb dL_law_563 ?_
  refine va_sld hx hb hX hbl hbA hS (lw_ix (k := 1) (by decide) h5 (by decide) hL) dL_law_564 ?_
  refine lv_aload_n hx hb dL_law_565 rfl (lv_at hl 0 rfl) ?_
  refine lv_iload_n hx hb dL_law_566 rfl (lv_at hl 3 rfl) ?_
  refine lv_iconst (v := 2) hx hb dL_law_567 (by decide) ?_
  refine lv_iadd hx hb dL_law_568 ?_
  refine va_sld hx hb hX hbl hbA hS (lw_ix (k := 2) (by decide) h5 (by decide) hL) dL_law_569 ?_
  refine lv_aload_n hx hb dL_law_570 rfl (lv_at hl 0 rfl) ?_
  refine lv_iload_n hx hb dL_law_571 rfl (lv_at hl 3 rfl) ?_
  refine lv_iconst (v := 3) hx hb dL_law_572 (by decide) ?_
  refine lv_iadd hx hb dL_law_573 ?_
  refine va_sld hx hb hX hbl hbA hS (lw_ix (k := 3) (by decide) h5 (by decide) hL) dL_law_574 ?_
  refine callR (va_runV (As := [.int (xs ((nI i) + 1).toNatClampNeg), .int (xs ((nI i) + 2).toNatClampNeg), .int (xs ((nI i) + 3).toNatClampNeg)]) (rest := [.int r]) ⟨hx, hb, hml, hown, hW⟩ (c_X7_together l D cI cZ am M (xs ((nI i) + 1).toNatClampNeg) (xs ((nI i) + 2).toNatClampNeg) (xs ((nI i) + 3).toNatClampNeg) _ hw) (cwV0 hW mV_X7_together ml_L_76 ⟨Nat.le_of_ble_eq_true rfl, Nat.le_of_ble_eq_true rfl⟩) (preV0 (Bs := lwB cI cZ ad am X0 X1 X2 X3 X4 X5 X6 X7 X8 M) 0 rfl rfl hK hN hP hD [10] rfl rfl) rfl rfl hl.1 rfl (lv_room (Nat.le_of_ble_eq_true rfl)) dL_law_575 ⟨Nat.le_of_ble_eq_true rfl, Nat.le_of_ble_eq_true rfl⟩) (fun v9 hq => ?_)
  obtain ⟨q, rfl, hw⟩ := hq
  refine W.eq (g2 := F0 m 578 ls [.int q, .int r]) rfl ?_
  refine lv_icmp_eq (tgt := 1200) hx hb dL_law_578 (by decide) (fun _ => ?_) (fun c9 => absurd hw.1 c9)
  exact kont X0 X1 X2 X3 X4 X5 X6 X7 X8 M _ _ _ hw.2 hP hD hS (lv_sub hl [0, 1, 2, 3] rfl)
set_option maxHeartbeats 4000000 in
set_option maxRecDepth 100000 in
theorem law_case_15 {Inv : InvT} {p : Program} {l : Launch} {e : Env} {s : State} {m : MethodId} {below : List Frame} {meth : Method} {c : Code} {b L : Nat} {xs : Nat → Int32} (sim : Sim_begin Inv) (hL : L ≤ 320) (C0 : lw_At p s m meth c b L xs) (D : va_G) (cI cZ : ClassId) (ad am : Nat → Nat) (i : Nat) (h5 : i + 5 ≤ L) (hK : va_K D classes (tysOf cI cZ) s) (hN : NW s) (kont : LCont Inv p l e s m b below meth c D cI cZ ad am i)
    (X0 : St) (X1 : St) (X2 : St) (X3 : St) (X4 : (Nat → Int32)) (X5 : St) (X6 : St) (X7 : St) (X8 : St) (M : St) (H : Heap) (locs : List Loc) (ls : Array Slot) (hI : Inv X0 X1 X2 X3 X4 X5 X6 X7 X8 M) (hP : va_P D classes (jn (lwB cI cZ ad am X0 X1 X2 X3 X4 X5 X6 X7 X8 M)) H) (hD : va_D (lwA s) (jn (lwB cI cZ ad am X0 X1 X2 X3 X4 X5 X6 X7 X8 M))) (hS : va_S (lwA s) s.heap H locs) (hl : lv_has ls 4 [(0, .ref b), (1, .ref (ad 0)), (2, .ref (am 0)), (3, .int (nI i))]) : LW p l e s m b below meth c H locs 583 ls [] := by
  obtain ⟨hx, hb, hr, hml, hown, hts, hX, hbl, hlocks, hgv⟩ := C0
  have hW := WT_lw hts
  have hbA : ¬ lwA s b := Nat.not_le.mpr hbl
  refine lv_aload_n hx hb dL_law_583 rfl (lv_at hl 1 rfl) ?_
  refine lv_aload_n hx hb dL_law_584 rfl (lv_at hl 0 rfl) ?_
  refine lv_iload_n hx hb dL_law_585 rfl (lv_at hl 3 rfl) ?_
  refine lv_iconst (v := 1) hx hb dL_law_586 (by decide) ?_
  refine lv_iadd hx hb dL_law_587 ?_
  refine va_sld hx hb hX hbl hbA hS (lw_ix (k := 1) (by decide) h5 (by decide) hL) dL_law_588 ?_
  refine lv_aload_n hx hb dL_law_589 rfl (lv_at hl 0 rfl) ?_
  refine lv_iload_n hx hb dL_law_590 rfl (lv_at hl 3 rfl) ?_
  refine lv_iconst (v := 2) hx hb dL_law_591 (by decide) ?_
  refine lv_iadd hx hb dL_law_592 ?_
  refine va_sld hx hb hX hbl hbA hS (lw_ix (k := 2) (by decide) h5 (by decide) hL) dL_law_593 ?_
  refine lv_aload_n hx hb dL_law_594 rfl (lv_at hl 0 rfl) ?_
  refine lv_iload_n hx hb dL_law_595 rfl (lv_at hl 3 rfl) ?_
  refine lv_iconst (v := 3) hx hb dL_law_596 (by decide) ?_
  refine lv_iadd hx hb dL_law_597 ?_
  refine va_sld hx hb hX hbl hbA hS (lw_ix (k := 3) (by decide) h5 (by decide) hL) dL_law_598 ?_
  have hw := sim X0 X1 X2 X3 X4 X5 X6 X7 X8 M (xs ((nI i) + 1).toNatClampNeg) (xs ((nI i) + 2).toNatClampNeg) (xs ((nI i) + 3).toNatClampNeg) hI
  refine callR (va_runV (As := [.int (xs ((nI i) + 1).toNatClampNeg), .int (xs ((nI i) + 2).toNatClampNeg), .int (xs ((nI i) + 3).toNatClampNeg)]) (rest := []) ⟨hx, hb, hml, hown, hW⟩ (c_X6_begin l D cI cZ ad X0 (xs ((nI i) + 1).toNatClampNeg) (xs ((nI i) + 2).toNatClampNeg) (xs ((nI i) + 3).toNatClampNeg) _ hw) (cwV0 hW mV_X6_begin ml_L_77 ⟨Nat.le_of_ble_eq_true rfl, Nat.le_of_ble_eq_true rfl⟩) (preV0 (Bs := lwB cI cZ ad am X0 X1 X2 X3 X4 X5 X6 X7 X8 M) 0 rfl rfl hK hN hP hD [0, 1] rfl rfl) rfl rfl hl.1 rfl (lv_room (Nat.le_of_ble_eq_true rfl)) dL_law_599 ⟨Nat.le_of_ble_eq_true rfl, Nat.le_of_ble_eq_true rfl⟩) (fun v9 hq => ?_)
  obtain ⟨r, rfl, hw⟩ := hq
  refine W.eq (g2 := F0 m 602 ls [.int r]) rfl ?_
  refine lv_aload_n hx hb dL_law_602 rfl (lv_at hl 2 rfl) ?_
  refine lv_aload_n hx hb dL_law_603 rfl (lv_at hl 0 rfl) ?_
  refine lv_iload_n hx hb dL_law_604 rfl (lv_at hl 3 rfl) ?_
  refine lv_iconst (v := 1) hx hb dL_law_605 (by decide) ?_
  refine lv_iadd hx hb dL_law_606 ?_
  refine va_sld hx hb hX hbl hbA hS (lw_ix (k := 1) (by decide) h5 (by decide) hL) dL_law_607 ?_
  refine lv_aload_n hx hb dL_law_608 rfl (lv_at hl 0 rfl) ?_
  refine lv_iload_n hx hb dL_law_609 rfl (lv_at hl 3 rfl) ?_
  refine lv_iconst (v := 2) hx hb dL_law_610 (by decide) ?_
  refine lv_iadd hx hb dL_law_611 ?_
  refine va_sld hx hb hX hbl hbA hS (lw_ix (k := 2) (by decide) h5 (by decide) hL) dL_law_612 ?_
  refine lv_aload_n hx hb dL_law_613 rfl (lv_at hl 0 rfl) ?_
  refine lv_iload_n hx hb dL_law_614 rfl (lv_at hl 3 rfl) ?_
  refine lv_iconst (v := 3) hx hb dL_law_615 (by decide) ?_
  refine lv_iadd hx hb dL_law_616 ?_
  refine va_sld hx hb hX hbl hbA hS (lw_ix (k := 3) (by decide) h5 (by decide) hL) dL_law_617 ?_
  refine callR (va_runV (As := [.int (xs ((nI i) + 1).toNatClampNeg), .int (xs ((nI i) + 2).toNatClampNeg), .int (xs ((nI i) + 3).toNatClampNeg)]) (rest := [.int r]) ⟨hx, hb, hml, hown, hW⟩ (c_X7_begin l D cI cZ am M (xs ((nI i) + 1).toNatClampNeg) (xs ((nI i) + 2).toNatClampNeg) (xs ((nI i) + 3).toNatClampNeg) _ hw) (cwV0 hW mV_X7_begin ml_L_80 ⟨Nat.le_of_ble_eq_true rfl, Nat.le_of_ble_eq_true rfl⟩) (preV0 (Bs := lwB cI cZ ad am X0 X1 X2 X3 X4 X5 X6 X7 X8 M) 0 rfl rfl hK hN hP hD [10] rfl rfl) rfl rfl hl.1 rfl (lv_room (Nat.le_of_ble_eq_true rfl)) dL_law_618 ⟨Nat.le_of_ble_eq_true rfl, Nat.le_of_ble_eq_true rfl⟩) (fun v9 hq => ?_)
  obtain ⟨q, rfl, hw⟩ := hq
  refine W.eq (g2 := F0 m 621 ls [.int q, .int r]) rfl ?_
  refine lv_icmp_eq (tgt := 1200) hx hb dL_law_621 (by decide) (fun _ => ?_) (fun c9 => absurd hw.1 c9)
  exact kont X0 X1 X2 X3 X4 X5 X6 X7 X8 M _ _ _ hw.2 hP hD hS (lv_sub hl [0, 1, 2, 3] rfl)
set_option maxHeartbeats 4000000 in
set_option maxRecDepth 100000 in
theorem law_case_16 {Inv : InvT} {p : Program} {l : Launch} {e : Env} {s : State} {m : MethodId} {below : List Frame} {meth : Method} {c : Code} {b L : Nat} {xs : Nat → Int32} (sim : Sim_longest Inv) (hL : L ≤ 320) (C0 : lw_At p s m meth c b L xs) (D : va_G) (cI cZ : ClassId) (ad am : Nat → Nat) (i : Nat) (h5 : i + 5 ≤ L) (hK : va_K D classes (tysOf cI cZ) s) (hN : NW s) (kont : LCont Inv p l e s m b below meth c D cI cZ ad am i)
    (X0 : St) (X1 : St) (X2 : St) (X3 : St) (X4 : (Nat → Int32)) (X5 : St) (X6 : St) (X7 : St) (X8 : St) (M : St) (H : Heap) (locs : List Loc) (ls : Array Slot) (hI : Inv X0 X1 X2 X3 X4 X5 X6 X7 X8 M) (hP : va_P D classes (jn (lwB cI cZ ad am X0 X1 X2 X3 X4 X5 X6 X7 X8 M)) H) (hD : va_D (lwA s) (jn (lwB cI cZ ad am X0 X1 X2 X3 X4 X5 X6 X7 X8 M))) (hS : va_S (lwA s) s.heap H locs) (hl : lv_has ls 4 [(0, .ref b), (1, .ref (ad 0)), (2, .ref (am 0)), (3, .int (nI i))]) : LW p l e s m b below meth c H locs 626 ls [] := by
  obtain ⟨hx, hb, hr, hml, hown, hts, hX, hbl, hlocks, hgv⟩ := C0
  have hW := WT_lw hts
  have hbA : ¬ lwA s b := Nat.not_le.mpr hbl
  refine lv_aload_n hx hb dL_law_626 rfl (lv_at hl 1 rfl) ?_
  refine lv_aload_n hx hb dL_law_627 rfl (lv_at hl 0 rfl) ?_
  refine lv_iload_n hx hb dL_law_628 rfl (lv_at hl 3 rfl) ?_
  refine lv_iconst (v := 1) hx hb dL_law_629 (by decide) ?_
  refine lv_iadd hx hb dL_law_630 ?_
  refine va_sld hx hb hX hbl hbA hS (lw_ix (k := 1) (by decide) h5 (by decide) hL) dL_law_631 ?_
  refine lv_aload_n hx hb dL_law_632 rfl (lv_at hl 0 rfl) ?_
  refine lv_iload_n hx hb dL_law_633 rfl (lv_at hl 3 rfl) ?_
  refine lv_iconst (v := 2) hx hb dL_law_634 (by decide) ?_
  refine lv_iadd hx hb dL_law_635 ?_
  refine va_sld hx hb hX hbl hbA hS (lw_ix (k := 2) (by decide) h5 (by decide) hL) dL_law_636 ?_
  refine lv_aload_n hx hb dL_law_637 rfl (lv_at hl 0 rfl) ?_
  refine lv_iload_n hx hb dL_law_638 rfl (lv_at hl 3 rfl) ?_
  refine lv_iconst (v := 3) hx hb dL_law_639 (by decide) ?_
  refine lv_iadd hx hb dL_law_640 ?_
  refine va_sld hx hb hX hbl hbA hS (lw_ix (k := 3) (by decide) h5 (by decide) hL) dL_law_641 ?_
  have hw := sim X0 X1 X2 X3 X4 X5 X6 X7 X8 M (xs ((nI i) + 1).toNatClampNeg) (xs ((nI i) + 2).toNatClampNeg) (xs ((nI i) + 3).toNatClampNeg) hI
  refine callR (va_runV (As := [.int (xs ((nI i) + 1).toNatClampNeg), .int (xs ((nI i) + 2).toNatClampNeg), .int (xs ((nI i) + 3).toNatClampNeg)]) (rest := []) ⟨hx, hb, hml, hown, hW⟩ (c_X6_longest l D cI cZ ad X0 (xs ((nI i) + 1).toNatClampNeg) (xs ((nI i) + 2).toNatClampNeg) (xs ((nI i) + 3).toNatClampNeg) _ hw) (cwV0 hW mV_X6_longest ml_L_81 ⟨Nat.le_of_ble_eq_true rfl, Nat.le_of_ble_eq_true rfl⟩) (preV0 (Bs := lwB cI cZ ad am X0 X1 X2 X3 X4 X5 X6 X7 X8 M) 0 rfl rfl hK hN hP hD [0, 1] rfl rfl) rfl rfl hl.1 rfl (lv_room (Nat.le_of_ble_eq_true rfl)) dL_law_642 ⟨Nat.le_of_ble_eq_true rfl, Nat.le_of_ble_eq_true rfl⟩) (fun v9 hq => ?_)
  obtain ⟨r, rfl, hw⟩ := hq
  refine W.eq (g2 := F0 m 645 ls [.int r]) rfl ?_
  refine lv_aload_n hx hb dL_law_645 rfl (lv_at hl 2 rfl) ?_
  refine lv_aload_n hx hb dL_law_646 rfl (lv_at hl 0 rfl) ?_
  refine lv_iload_n hx hb dL_law_647 rfl (lv_at hl 3 rfl) ?_
  refine lv_iconst (v := 1) hx hb dL_law_648 (by decide) ?_
  refine lv_iadd hx hb dL_law_649 ?_
  refine va_sld hx hb hX hbl hbA hS (lw_ix (k := 1) (by decide) h5 (by decide) hL) dL_law_650 ?_
  refine lv_aload_n hx hb dL_law_651 rfl (lv_at hl 0 rfl) ?_
  refine lv_iload_n hx hb dL_law_652 rfl (lv_at hl 3 rfl) ?_
  refine lv_iconst (v := 2) hx hb dL_law_653 (by decide) ?_
  refine lv_iadd hx hb dL_law_654 ?_
  refine va_sld hx hb hX hbl hbA hS (lw_ix (k := 2) (by decide) h5 (by decide) hL) dL_law_655 ?_
  refine lv_aload_n hx hb dL_law_656 rfl (lv_at hl 0 rfl) ?_
  refine lv_iload_n hx hb dL_law_657 rfl (lv_at hl 3 rfl) ?_
  refine lv_iconst (v := 3) hx hb dL_law_658 (by decide) ?_
  refine lv_iadd hx hb dL_law_659 ?_
  refine va_sld hx hb hX hbl hbA hS (lw_ix (k := 3) (by decide) h5 (by decide) hL) dL_law_660 ?_
  refine callR (va_runV (As := [.int (xs ((nI i) + 1).toNatClampNeg), .int (xs ((nI i) + 2).toNatClampNeg), .int (xs ((nI i) + 3).toNatClampNeg)]) (rest := [.int r]) ⟨hx, hb, hml, hown, hW⟩ (c_X7_longest l D cI cZ am M (xs ((nI i) + 1).toNatClampNeg) (xs ((nI i) + 2).toNatClampNeg) (xs ((nI i) + 3).toNatClampNeg) _ hw) (cwV0 hW mV_X7_longest ml_L_84 ⟨Nat.le_of_ble_eq_true rfl, Nat.le_of_ble_eq_true rfl⟩) (preV0 (Bs := lwB cI cZ ad am X0 X1 X2 X3 X4 X5 X6 X7 X8 M) 0 rfl rfl hK hN hP hD [10] rfl rfl) rfl rfl hl.1 rfl (lv_room (Nat.le_of_ble_eq_true rfl)) dL_law_661 ⟨Nat.le_of_ble_eq_true rfl, Nat.le_of_ble_eq_true rfl⟩) (fun v9 hq => ?_)
  obtain ⟨q, rfl, hw⟩ := hq
  refine W.eq (g2 := F0 m 664 ls [.int q, .int r]) rfl ?_
  refine lv_icmp_eq (tgt := 1200) hx hb dL_law_664 (by decide) (fun _ => ?_) (fun c9 => absurd hw.1 c9)
  exact kont X0 X1 X2 X3 X4 X5 X6 X7 X8 M _ _ _ hw.2 hP hD hS (lv_sub hl [0, 1, 2, 3] rfl)
set_option maxHeartbeats 4000000 in
set_option maxRecDepth 100000 in
theorem law_case_17 {Inv : InvT} {p : Program} {l : Launch} {e : Env} {s : State} {m : MethodId} {below : List Frame} {meth : Method} {c : Code} {b L : Nat} {xs : Nat → Int32} (sim : Sim_struck Inv) (hL : L ≤ 320) (C0 : lw_At p s m meth c b L xs) (D : va_G) (cI cZ : ClassId) (ad am : Nat → Nat) (i : Nat) (h5 : i + 5 ≤ L) (hK : va_K D classes (tysOf cI cZ) s) (hN : NW s) (kont : LCont Inv p l e s m b below meth c D cI cZ ad am i)
    (X0 : St) (X1 : St) (X2 : St) (X3 : St) (X4 : (Nat → Int32)) (X5 : St) (X6 : St) (X7 : St) (X8 : St) (M : St) (H : Heap) (locs : List Loc) (ls : Array Slot) (hI : Inv X0 X1 X2 X3 X4 X5 X6 X7 X8 M) (hP : va_P D classes (jn (lwB cI cZ ad am X0 X1 X2 X3 X4 X5 X6 X7 X8 M)) H) (hD : va_D (lwA s) (jn (lwB cI cZ ad am X0 X1 X2 X3 X4 X5 X6 X7 X8 M))) (hS : va_S (lwA s) s.heap H locs) (hl : lv_has ls 4 [(0, .ref b), (1, .ref (ad 0)), (2, .ref (am 0)), (3, .int (nI i))]) : LW p l e s m b below meth c H locs 669 ls [] := by
  obtain ⟨hx, hb, hr, hml, hown, hts, hX, hbl, hlocks, hgv⟩ := C0
  have hW := WT_lw hts
  have hbA : ¬ lwA s b := Nat.not_le.mpr hbl
  refine lv_aload_n hx hb dL_law_669 rfl (lv_at hl 1 rfl) ?_
  refine lv_aload_n hx hb dL_law_670 rfl (lv_at hl 0 rfl) ?_
  refine lv_iload_n hx hb dL_law_671 rfl (lv_at hl 3 rfl) ?_
  refine lv_iconst (v := 1) hx hb dL_law_672 (by decide) ?_
  refine lv_iadd hx hb dL_law_673 ?_
  refine va_sld hx hb hX hbl hbA hS (lw_ix (k := 1) (by decide) h5 (by decide) hL) dL_law_674 ?_
  refine lv_aload_n hx hb dL_law_675 rfl (lv_at hl 0 rfl) ?_
  refine lv_iload_n hx hb dL_law_676 rfl (lv_at hl 3 rfl) ?_
  refine lv_iconst (v := 2) hx hb dL_law_677 (by decide) ?_
  refine lv_iadd hx hb dL_law_678 ?_
  refine va_sld hx hb hX hbl hbA hS (lw_ix (k := 2) (by decide) h5 (by decide) hL) dL_law_679 ?_
  refine lv_aload_n hx hb dL_law_680 rfl (lv_at hl 0 rfl) ?_
  refine lv_iload_n hx hb dL_law_681 rfl (lv_at hl 3 rfl) ?_
  refine lv_iconst (v := 3) hx hb dL_law_682 (by decide) ?_
  refine lv_iadd hx hb dL_law_683 ?_
  refine va_sld hx hb hX hbl hbA hS (lw_ix (k := 3) (by decide) h5 (by decide) hL) dL_law_684 ?_
  have hw := sim X0 X1 X2 X3 X4 X5 X6 X7 X8 M (xs ((nI i) + 1).toNatClampNeg) (xs ((nI i) + 2).toNatClampNeg) (xs ((nI i) + 3).toNatClampNeg) hI
  refine callR (va_runV (As := [.int (xs ((nI i) + 1).toNatClampNeg), .int (xs ((nI i) + 2).toNatClampNeg), .int (xs ((nI i) + 3).toNatClampNeg)]) (rest := []) ⟨hx, hb, hml, hown, hW⟩ (c_X6_struck l D cI cZ ad X0 (xs ((nI i) + 1).toNatClampNeg) (xs ((nI i) + 2).toNatClampNeg) (xs ((nI i) + 3).toNatClampNeg) _ hw) (cwV0 hW mV_X6_struck ml_L_85 ⟨Nat.le_of_ble_eq_true rfl, Nat.le_of_ble_eq_true rfl⟩) (preV0 (Bs := lwB cI cZ ad am X0 X1 X2 X3 X4 X5 X6 X7 X8 M) 0 rfl rfl hK hN hP hD [0, 1] rfl rfl) rfl rfl hl.1 rfl (lv_room (Nat.le_of_ble_eq_true rfl)) dL_law_685 ⟨Nat.le_of_ble_eq_true rfl, Nat.le_of_ble_eq_true rfl⟩) (fun v9 hq => ?_)
  obtain ⟨r, rfl, hw⟩ := hq
  refine W.eq (g2 := F0 m 688 ls [.int r]) rfl ?_
  refine lv_aload_n hx hb dL_law_688 rfl (lv_at hl 2 rfl) ?_
  refine lv_aload_n hx hb dL_law_689 rfl (lv_at hl 0 rfl) ?_
  refine lv_iload_n hx hb dL_law_690 rfl (lv_at hl 3 rfl) ?_
  refine lv_iconst (v := 1) hx hb dL_law_691 (by decide) ?_
  refine lv_iadd hx hb dL_law_692 ?_
  refine va_sld hx hb hX hbl hbA hS (lw_ix (k := 1) (by decide) h5 (by decide) hL) dL_law_693 ?_
  refine lv_aload_n hx hb dL_law_694 rfl (lv_at hl 0 rfl) ?_
  refine lv_iload_n hx hb dL_law_695 rfl (lv_at hl 3 rfl) ?_
  refine lv_iconst (v := 2) hx hb dL_law_696 (by decide) ?_
  refine lv_iadd hx hb dL_law_697 ?_
  refine va_sld hx hb hX hbl hbA hS (lw_ix (k := 2) (by decide) h5 (by decide) hL) dL_law_698 ?_
  refine lv_aload_n hx hb dL_law_699 rfl (lv_at hl 0 rfl) ?_
  refine lv_iload_n hx hb dL_law_700 rfl (lv_at hl 3 rfl) ?_
  refine lv_iconst (v := 3) hx hb dL_law_701 (by decide) ?_
  refine lv_iadd hx hb dL_law_702 ?_
  refine va_sld hx hb hX hbl hbA hS (lw_ix (k := 3) (by decide) h5 (by decide) hL) dL_law_703 ?_
  refine callR (va_runV (As := [.int (xs ((nI i) + 1).toNatClampNeg), .int (xs ((nI i) + 2).toNatClampNeg), .int (xs ((nI i) + 3).toNatClampNeg)]) (rest := [.int r]) ⟨hx, hb, hml, hown, hW⟩ (c_X7_struck l D cI cZ am M (xs ((nI i) + 1).toNatClampNeg) (xs ((nI i) + 2).toNatClampNeg) (xs ((nI i) + 3).toNatClampNeg) _ hw) (cwV0 hW mV_X7_struck ml_L_88 ⟨Nat.le_of_ble_eq_true rfl, Nat.le_of_ble_eq_true rfl⟩) (preV0 (Bs := lwB cI cZ ad am X0 X1 X2 X3 X4 X5 X6 X7 X8 M) 0 rfl rfl hK hN hP hD [10] rfl rfl) rfl rfl hl.1 rfl (lv_room (Nat.le_of_ble_eq_true rfl)) dL_law_704 ⟨Nat.le_of_ble_eq_true rfl, Nat.le_of_ble_eq_true rfl⟩) (fun v9 hq => ?_)
  obtain ⟨q, rfl, hw⟩ := hq
  refine W.eq (g2 := F0 m 707 ls [.int q, .int r]) rfl ?_
  refine lv_icmp_eq (tgt := 1200) hx hb dL_law_707 (by decide) (fun _ => ?_) (fun c9 => absurd hw.1 c9)
  exact kont X0 X1 X2 X3 X4 X5 X6 X7 X8 M _ _ _ hw.2 hP hD hS (lv_sub hl [0, 1, 2, 3] rfl)
set_option maxHeartbeats 4000000 in
set_option maxRecDepth 100000 in
theorem law_case_18 {Inv : InvT} {p : Program} {l : Launch} {e : Env} {s : State} {m : MethodId} {below : List Frame} {meth : Method} {c : Code} {b L : Nat} {xs : Nat → Int32} (sim : Sim_sure Inv) (hL : L ≤ 320) (C0 : lw_At p s m meth c b L xs) (D : va_G) (cI cZ : ClassId) (ad am : Nat → Nat) (i : Nat) (h5 : i + 5 ≤ L) (hK : va_K D classes (tysOf cI cZ) s) (hN : NW s) (kont : LCont Inv p l e s m b below meth c D cI cZ ad am i)
    (X0 : St) (X1 : St) (X2 : St) (X3 : St) (X4 : (Nat → Int32)) (X5 : St) (X6 : St) (X7 : St) (X8 : St) (M : St) (H : Heap) (locs : List Loc) (ls : Array Slot) (hI : Inv X0 X1 X2 X3 X4 X5 X6 X7 X8 M) (hP : va_P D classes (jn (lwB cI cZ ad am X0 X1 X2 X3 X4 X5 X6 X7 X8 M)) H) (hD : va_D (lwA s) (jn (lwB cI cZ ad am X0 X1 X2 X3 X4 X5 X6 X7 X8 M))) (hS : va_S (lwA s) s.heap H locs) (hl : lv_has ls 4 [(0, .ref b), (1, .ref (ad 0)), (2, .ref (am 0)), (3, .int (nI i))]) : LW p l e s m b below meth c H locs 712 ls [] := by
  obtain ⟨hx, hb, hr, hml, hown, hts, hX, hbl, hlocks, hgv⟩ := C0
  have hW := WT_lw hts
  have hbA : ¬ lwA s b := Nat.not_le.mpr hbl
  refine lv_aload_n hx hb dL_law_712 rfl (lv_at hl 1 rfl) ?_
  refine lv_aload_n hx hb dL_law_713 rfl (lv_at hl 0 rfl) ?_
  refine lv_iload_n hx hb dL_law_714 rfl (lv_at hl 3 rfl) ?_
  refine lv_iconst (v := 1) hx hb dL_law_715 (by decide) ?_
  refine lv_iadd hx hb dL_law_716 ?_
  refine va_sld hx hb hX hbl hbA hS (lw_ix (k := 1) (by decide) h5 (by decide) hL) dL_law_717 ?_
  have hw := sim X0 X1 X2 X3 X4 X5 X6 X7 X8 M (xs ((nI i) + 1).toNatClampNeg) hI
  refine callR (va_runV (As := [.int (xs ((nI i) + 1).toNatClampNeg)]) (rest := []) ⟨hx, hb, hml, hown, hW⟩ (c_X6_sure l D cI cZ ad X0 (xs ((nI i) + 1).toNatClampNeg) _ hw) (cwV0 hW mV_X6_sure ml_L_89 ⟨Nat.le_of_ble_eq_true rfl, Nat.le_of_ble_eq_true rfl⟩) (preV0 (Bs := lwB cI cZ ad am X0 X1 X2 X3 X4 X5 X6 X7 X8 M) 0 rfl rfl hK hN hP hD [0, 1] rfl rfl) rfl rfl hl.1 rfl (lv_room (Nat.le_of_ble_eq_true rfl)) dL_law_718 ⟨Nat.le_of_ble_eq_true rfl, Nat.le_of_ble_eq_true rfl⟩) (fun v9 hq => ?_)
  obtain ⟨r, rfl, hw⟩ := hq
  refine W.eq (g2 := F0 m 721 ls [.int r]) rfl ?_
  refine lv_aload_n hx hb dL_law_721 rfl (lv_at hl 2 rfl) ?_
  refine lv_aload_n hx hb dL_law_722 rfl (lv_at hl 0 rfl) ?_
  refine lv_iload_n hx hb dL_law_723 rfl (lv_at hl 3 rfl) ?_
  refine lv_iconst (v := 1) hx hb dL_law_724 (by decide) ?_
  refine lv_iadd hx hb dL_law_725 ?_
  refine va_sld hx hb hX hbl hbA hS (lw_ix (k := 1) (by decide) h5 (by decide) hL) dL_law_726 ?_
  refine callR (va_runV (As := [.int (xs ((nI i) + 1).toNatClampNeg)]) (rest := [.int r]) ⟨hx, hb, hml, hown, hW⟩ (c_X7_sure l D cI cZ am M (xs ((nI i) + 1).toNatClampNeg) _ hw) (cwV0 hW mV_X7_sure ml_L_92 ⟨Nat.le_of_ble_eq_true rfl, Nat.le_of_ble_eq_true rfl⟩) (preV0 (Bs := lwB cI cZ ad am X0 X1 X2 X3 X4 X5 X6 X7 X8 M) 0 rfl rfl hK hN hP hD [10] rfl rfl) rfl rfl hl.1 rfl (lv_room (Nat.le_of_ble_eq_true rfl)) dL_law_727 ⟨Nat.le_of_ble_eq_true rfl, Nat.le_of_ble_eq_true rfl⟩) (fun v9 hq => ?_)
  obtain ⟨q, rfl, hw⟩ := hq
  refine W.eq (g2 := F0 m 730 ls [.int q, .int r]) rfl ?_
  refine lv_icmp_eq (tgt := 1200) hx hb dL_law_730 (by decide) (fun _ => ?_) (fun c9 => absurd hw.1 c9)
  exact kont X0 X1 X2 X3 X4 X5 X6 X7 X8 M _ _ _ hw.2 hP hD hS (lv_sub hl [0, 1, 2, 3] rfl)
set_option maxHeartbeats 4000000 in
set_option maxRecDepth 100000 in
theorem law_case_19 {Inv : InvT} {p : Program} {l : Launch} {e : Env} {s : State} {m : MethodId} {below : List Frame} {meth : Method} {c : Code} {b L : Nat} {xs : Nat → Int32} (sim : Sim_fooled Inv) (hL : L ≤ 320) (C0 : lw_At p s m meth c b L xs) (D : va_G) (cI cZ : ClassId) (ad am : Nat → Nat) (i : Nat) (h5 : i + 5 ≤ L) (hK : va_K D classes (tysOf cI cZ) s) (hN : NW s) (kont : LCont Inv p l e s m b below meth c D cI cZ ad am i)
    (X0 : St) (X1 : St) (X2 : St) (X3 : St) (X4 : (Nat → Int32)) (X5 : St) (X6 : St) (X7 : St) (X8 : St) (M : St) (H : Heap) (locs : List Loc) (ls : Array Slot) (hI : Inv X0 X1 X2 X3 X4 X5 X6 X7 X8 M) (hP : va_P D classes (jn (lwB cI cZ ad am X0 X1 X2 X3 X4 X5 X6 X7 X8 M)) H) (hD : va_D (lwA s) (jn (lwB cI cZ ad am X0 X1 X2 X3 X4 X5 X6 X7 X8 M))) (hS : va_S (lwA s) s.heap H locs) (hl : lv_has ls 4 [(0, .ref b), (1, .ref (ad 0)), (2, .ref (am 0)), (3, .int (nI i))]) : LW p l e s m b below meth c H locs 735 ls [] := by
  obtain ⟨hx, hb, hr, hml, hown, hts, hX, hbl, hlocks, hgv⟩ := C0
  have hW := WT_lw hts
  have hbA : ¬ lwA s b := Nat.not_le.mpr hbl
  refine lv_aload_n hx hb dL_law_735 rfl (lv_at hl 1 rfl) ?_
  refine lv_aload_n hx hb dL_law_736 rfl (lv_at hl 0 rfl) ?_
  refine lv_iload_n hx hb dL_law_737 rfl (lv_at hl 3 rfl) ?_
  refine lv_iconst (v := 1) hx hb dL_law_738 (by decide) ?_
  refine lv_iadd hx hb dL_law_739 ?_
  refine va_sld hx hb hX hbl hbA hS (lw_ix (k := 1) (by decide) h5 (by decide) hL) dL_law_740 ?_
  refine lv_aload_n hx hb dL_law_741 rfl (lv_at hl 0 rfl) ?_
  refine lv_iload_n hx hb dL_law_742 rfl (lv_at hl 3 rfl) ?_
  refine lv_iconst (v := 2) hx hb dL_law_743 (by decide) ?_
  refine lv_iadd hx hb dL_law_744 ?_
  refine va_sld hx hb hX hbl hbA hS (lw_ix (k := 2) (by decide) h5 (by decide) hL) dL_law_745 ?_
  refine lv_aload_n hx hb dL_law_746 rfl (lv_at hl 0 rfl) ?_
  refine lv_iload_n hx hb dL_law_747 rfl (lv_at hl 3 rfl) ?_
  refine lv_iconst (v := 3) hx hb dL_law_748 (by decide) ?_
  refine lv_iadd hx hb dL_law_749 ?_
  refine va_sld hx hb hX hbl hbA hS (lw_ix (k := 3) (by decide) h5 (by decide) hL) dL_law_750 ?_
  have hw := sim X0 X1 X2 X3 X4 X5 X6 X7 X8 M (xs ((nI i) + 1).toNatClampNeg) (xs ((nI i) + 2).toNatClampNeg) (xs ((nI i) + 3).toNatClampNeg) hI
  refine callR (va_runV (As := [.int (xs ((nI i) + 1).toNatClampNeg), .int (xs ((nI i) + 2).toNatClampNeg), .int (xs ((nI i) + 3).toNatClampNeg)]) (rest := []) ⟨hx, hb, hml, hown, hW⟩ (c_X6_fooled l D cI cZ ad X0 (xs ((nI i) + 1).toNatClampNeg) (xs ((nI i) + 2).toNatClampNeg) (xs ((nI i) + 3).toNatClampNeg) _ hw) (cwV0 hW mV_X6_fooled ml_L_93 ⟨Nat.le_of_ble_eq_true rfl, Nat.le_of_ble_eq_true rfl⟩) (preV0 (Bs := lwB cI cZ ad am X0 X1 X2 X3 X4 X5 X6 X7 X8 M) 0 rfl rfl hK hN hP hD [0, 1] rfl rfl) rfl rfl hl.1 rfl (lv_room (Nat.le_of_ble_eq_true rfl)) dL_law_751 ⟨Nat.le_of_ble_eq_true rfl, Nat.le_of_ble_eq_true rfl⟩) (fun v9 hq => ?_)
  obtain ⟨r, rfl, hw⟩ := hq
  refine W.eq (g2 := F0 m 754 ls [.int r]) rfl ?_
  refine lv_aload_n hx hb dL_law_754 rfl (lv_at hl 2 rfl) ?_
  refine lv_aload_n hx hb dL_law_755 rfl (lv_at hl 0 rfl) ?_
  refine lv_iload_n hx hb dL_law_756 rfl (lv_at hl 3 rfl) ?_
  refine lv_iconst (v := 1) hx hb dL_law_757 (by decide) ?_
  refine lv_iadd hx hb dL_law_758 ?_
  refine va_sld hx hb hX hbl hbA hS (lw_ix (k := 1) (by decide) h5 (by decide) hL) dL_law_759 ?_
  refine lv_aload_n hx hb dL_law_760 rfl (lv_at hl 0 rfl) ?_
  refine lv_iload_n hx hb dL_law_761 rfl (lv_at hl 3 rfl) ?_
  refine lv_iconst (v := 2) hx hb dL_law_762 (by decide) ?_
  refine lv_iadd hx hb dL_law_763 ?_
  refine va_sld hx hb hX hbl hbA hS (lw_ix (k := 2) (by decide) h5 (by decide) hL) dL_law_764 ?_
  refine lv_aload_n hx hb dL_law_765 rfl (lv_at hl 0 rfl) ?_
  refine lv_iload_n hx hb dL_law_766 rfl (lv_at hl 3 rfl) ?_
  refine lv_iconst (v := 3) hx hb dL_law_767 (by decide) ?_
  refine lv_iadd hx hb dL_law_768 ?_
  refine va_sld hx hb hX hbl hbA hS (lw_ix (k := 3) (by decide) h5 (by decide) hL) dL_law_769 ?_
  refine callR (va_runV (As := [.int (xs ((nI i) + 1).toNatClampNeg), .int (xs ((nI i) + 2).toNatClampNeg), .int (xs ((nI i) + 3).toNatClampNeg)]) (rest := [.int r]) ⟨hx, hb, hml, hown, hW⟩ (c_X7_fooled l D cI cZ am M (xs ((nI i) + 1).toNatClampNeg) (xs ((nI i) + 2).toNatClampNeg) (xs ((nI i) + 3).toNatClampNeg) _ hw) (cwV0 hW mV_X7_fooled ml_L_96 ⟨Nat.le_of_ble_eq_true rfl, Nat.le_of_ble_eq_true rfl⟩) (preV0 (Bs := lwB cI cZ ad am X0 X1 X2 X3 X4 X5 X6 X7 X8 M) 0 rfl rfl hK hN hP hD [10] rfl rfl) rfl rfl hl.1 rfl (lv_room (Nat.le_of_ble_eq_true rfl)) dL_law_770 ⟨Nat.le_of_ble_eq_true rfl, Nat.le_of_ble_eq_true rfl⟩) (fun v9 hq => ?_)
  obtain ⟨q, rfl, hw⟩ := hq
  refine W.eq (g2 := F0 m 773 ls [.int q, .int r]) rfl ?_
  refine lv_icmp_eq (tgt := 1200) hx hb dL_law_773 (by decide) (fun _ => ?_) (fun c9 => absurd hw.1 c9)
  exact kont X0 X1 X2 X3 X4 X5 X6 X7 X8 M _ _ _ hw.2 hP hD hS (lv_sub hl [0, 1, 2, 3] rfl)
set_option maxHeartbeats 4000000 in
set_option maxRecDepth 100000 in
theorem law_case_20 {Inv : InvT} {p : Program} {l : Launch} {e : Env} {s : State} {m : MethodId} {below : List Frame} {meth : Method} {c : Code} {b L : Nat} {xs : Nat → Int32} (sim : Sim_letter Inv) (hL : L ≤ 320) (C0 : lw_At p s m meth c b L xs) (D : va_G) (cI cZ : ClassId) (ad am : Nat → Nat) (i : Nat) (h5 : i + 5 ≤ L) (hK : va_K D classes (tysOf cI cZ) s) (hN : NW s) (kont : LCont Inv p l e s m b below meth c D cI cZ ad am i)
    (X0 : St) (X1 : St) (X2 : St) (X3 : St) (X4 : (Nat → Int32)) (X5 : St) (X6 : St) (X7 : St) (X8 : St) (M : St) (H : Heap) (locs : List Loc) (ls : Array Slot) (hI : Inv X0 X1 X2 X3 X4 X5 X6 X7 X8 M) (hP : va_P D classes (jn (lwB cI cZ ad am X0 X1 X2 X3 X4 X5 X6 X7 X8 M)) H) (hD : va_D (lwA s) (jn (lwB cI cZ ad am X0 X1 X2 X3 X4 X5 X6 X7 X8 M))) (hS : va_S (lwA s) s.heap H locs) (hl : lv_has ls 4 [(0, .ref b), (1, .ref (ad 0)), (2, .ref (am 0)), (3, .int (nI i))]) : LW p l e s m b below meth c H locs 778 ls [] := by
  obtain ⟨hx, hb, hr, hml, hown, hts, hX, hbl, hlocks, hgv⟩ := C0
  have hW := WT_lw hts
  have hbA : ¬ lwA s b := Nat.not_le.mpr hbl
  refine lv_aload_n hx hb dL_law_778 rfl (lv_at hl 1 rfl) ?_
  refine lv_aload_n hx hb dL_law_779 rfl (lv_at hl 0 rfl) ?_
  refine lv_iload_n hx hb dL_law_780 rfl (lv_at hl 3 rfl) ?_
  refine lv_iconst (v := 1) hx hb dL_law_781 (by decide) ?_
  refine lv_iadd hx hb dL_law_782 ?_
  refine va_sld hx hb hX hbl hbA hS (lw_ix (k := 1) (by decide) h5 (by decide) hL) dL_law_783 ?_
  refine lv_aload_n hx hb dL_law_784 rfl (lv_at hl 0 rfl) ?_
  refine lv_iload_n hx hb dL_law_785 rfl (lv_at hl 3 rfl) ?_
  refine lv_iconst (v := 2) hx hb dL_law_786 (by decide) ?_
  refine lv_iadd hx hb dL_law_787 ?_
  refine va_sld hx hb hX hbl hbA hS (lw_ix (k := 2) (by decide) h5 (by decide) hL) dL_law_788 ?_
  have hw := sim X0 X1 X2 X3 X4 X5 X6 X7 X8 M (xs ((nI i) + 1).toNatClampNeg) (xs ((nI i) + 2).toNatClampNeg) hI
  refine callF (va_runV (As := [.int (xs ((nI i) + 1).toNatClampNeg), .int (xs ((nI i) + 2).toNatClampNeg)]) (rest := []) ⟨hx, hb, hml, hown, hW⟩ (c_X6_letter l D cI cZ ad X0 (xs ((nI i) + 1).toNatClampNeg) (xs ((nI i) + 2).toNatClampNeg) _ rfl) (cwV0 hW mV_X6_letter ml_L_97 ⟨Nat.le_of_ble_eq_true rfl, Nat.le_of_ble_eq_true rfl⟩) (preV0 (Bs := lwB cI cZ ad am X0 X1 X2 X3 X4 X5 X6 X7 X8 M) 0 rfl rfl hK hN hP hD [0, 1] rfl rfl) rfl rfl hl.1 rfl (lv_room (Nat.le_of_ble_eq_true rfl)) dL_law_789 ⟨Nat.le_of_ble_eq_true rfl, Nat.le_of_ble_eq_true rfl⟩) ?_
  refine W.eq (g2 := F0 m 792 ls [.int (F_X6_letter X0 (xs ((nI i) + 1).toNatClampNeg) (xs ((nI i) + 2).toNatClampNeg))]) rfl ?_
  refine lv_aload_n hx hb dL_law_792 rfl (lv_at hl 2 rfl) ?_
  refine lv_aload_n hx hb dL_law_793 rfl (lv_at hl 0 rfl) ?_
  refine lv_iload_n hx hb dL_law_794 rfl (lv_at hl 3 rfl) ?_
  refine lv_iconst (v := 1) hx hb dL_law_795 (by decide) ?_
  refine lv_iadd hx hb dL_law_796 ?_
  refine va_sld hx hb hX hbl hbA hS (lw_ix (k := 1) (by decide) h5 (by decide) hL) dL_law_797 ?_
  refine lv_aload_n hx hb dL_law_798 rfl (lv_at hl 0 rfl) ?_
  refine lv_iload_n hx hb dL_law_799 rfl (lv_at hl 3 rfl) ?_
  refine lv_iconst (v := 2) hx hb dL_law_800 (by decide) ?_
  refine lv_iadd hx hb dL_law_801 ?_
  refine va_sld hx hb hX hbl hbA hS (lw_ix (k := 2) (by decide) h5 (by decide) hL) dL_law_802 ?_
  refine callR (va_runV (As := [.int (xs ((nI i) + 1).toNatClampNeg), .int (xs ((nI i) + 2).toNatClampNeg)]) (rest := [.int (F_X6_letter X0 (xs ((nI i) + 1).toNatClampNeg) (xs ((nI i) + 2).toNatClampNeg))]) ⟨hx, hb, hml, hown, hW⟩ (c_X7_letter l D cI cZ am M (xs ((nI i) + 1).toNatClampNeg) (xs ((nI i) + 2).toNatClampNeg) _ hw) (cwV0 hW mV_X7_letter ml_L_100 ⟨Nat.le_of_ble_eq_true rfl, Nat.le_of_ble_eq_true rfl⟩) (preV0 (Bs := lwB cI cZ ad am X0 X1 X2 X3 X4 X5 X6 X7 X8 M) 0 rfl rfl hK hN hP hD [10] rfl rfl) rfl rfl hl.1 rfl (lv_room (Nat.le_of_ble_eq_true rfl)) dL_law_803 ⟨Nat.le_of_ble_eq_true rfl, Nat.le_of_ble_eq_true rfl⟩) (fun v9 hq => ?_)
  obtain ⟨q, rfl, hw⟩ := hq
  refine W.eq (g2 := F0 m 806 ls [.int q, .int (F_X6_letter X0 (xs ((nI i) + 1).toNatClampNeg) (xs ((nI i) + 2).toNatClampNeg))]) rfl ?_
  refine lv_icmp_eq (tgt := 1200) hx hb dL_law_806 (by decide) (fun _ => ?_) (fun c9 => absurd hw.1 c9)
  exact kont X0 X1 X2 X3 X4 X5 X6 X7 X8 M _ _ _ hw.2 hP hD hS (lv_sub hl [0, 1, 2, 3] rfl)
set_option maxHeartbeats 4000000 in
set_option maxRecDepth 100000 in
theorem law_case_21 {Inv : InvT} {p : Program} {l : Launch} {e : Env} {s : State} {m : MethodId} {below : List Frame} {meth : Method} {c : Code} {b L : Nat} {xs : Nat → Int32} (sim : Sim_copy Inv) (hL : L ≤ 320) (C0 : lw_At p s m meth c b L xs) (D : va_G) (cI cZ : ClassId) (ad am : Nat → Nat) (i : Nat) (h5 : i + 5 ≤ L) (hK : va_K D classes (tysOf cI cZ) s) (hN : NW s) (kont : LCont Inv p l e s m b below meth c D cI cZ ad am i)
    (X0 : St) (X1 : St) (X2 : St) (X3 : St) (X4 : (Nat → Int32)) (X5 : St) (X6 : St) (X7 : St) (X8 : St) (M : St) (H : Heap) (locs : List Loc) (ls : Array Slot) (hI : Inv X0 X1 X2 X3 X4 X5 X6 X7 X8 M) (hP : va_P D classes (jn (lwB cI cZ ad am X0 X1 X2 X3 X4 X5 X6 X7 X8 M)) H) (hD : va_D (lwA s) (jn (lwB cI cZ ad am X0 X1 X2 X3 X4 X5 X6 X7 X8 M))) (hS : va_S (lwA s) s.heap H locs) (hl : lv_has ls 4 [(0, .ref b), (1, .ref (ad 0)), (2, .ref (am 0)), (3, .int (nI i))]) : LW p l e s m b below meth c H locs 811 ls [] := by
  obtain ⟨hx, hb, hr, hml, hown, hts, hX, hbl, hlocks, hgv⟩ := C0
  have hW := WT_lw hts
  have hbA : ¬ lwA s b := Nat.not_le.mpr hbl
  refine lv_aload_n hx hb dL_law_811 rfl (lv_at hl 1 rfl) ?_
  refine lv_aload_n hx hb dL_law_812 rfl (lv_at hl 0 rfl) ?_
  refine lv_iload_n hx hb dL_law_813 rfl (lv_at hl 3 rfl) ?_
  refine lv_iconst (v := 1) hx hb dL_law_814 (by decide) ?_
  refine lv_iadd hx hb dL_law_815 ?_
  refine va_sld hx hb hX hbl hbA hS (lw_ix (k := 1) (by decide) h5 (by decide) hL) dL_law_816 ?_
  have hw := sim X0 X1 X2 X3 X4 X5 X6 X7 X8 M (xs ((nI i) + 1).toNatClampNeg) hI
  refine callR (va_runV (As := [.int (xs ((nI i) + 1).toNatClampNeg)]) (rest := []) ⟨hx, hb, hml, hown, hW⟩ (c_X6_copy l D cI cZ ad X0 (xs ((nI i) + 1).toNatClampNeg) _ hw) (cwV0 hW mV_X6_copy ml_L_101 ⟨Nat.le_of_ble_eq_true rfl, Nat.le_of_ble_eq_true rfl⟩) (preV0 (Bs := lwB cI cZ ad am X0 X1 X2 X3 X4 X5 X6 X7 X8 M) 0 rfl rfl hK hN hP hD [0, 1] rfl rfl) rfl rfl hl.1 rfl (lv_room (Nat.le_of_ble_eq_true rfl)) dL_law_817 ⟨Nat.le_of_ble_eq_true rfl, Nat.le_of_ble_eq_true rfl⟩) (fun v9 hq => ?_)
  obtain ⟨r, rfl, hw⟩ := hq
  refine W.eq (g2 := F0 m 820 ls [.int r]) rfl ?_
  refine lv_aload_n hx hb dL_law_820 rfl (lv_at hl 2 rfl) ?_
  refine lv_aload_n hx hb dL_law_821 rfl (lv_at hl 0 rfl) ?_
  refine lv_iload_n hx hb dL_law_822 rfl (lv_at hl 3 rfl) ?_
  refine lv_iconst (v := 1) hx hb dL_law_823 (by decide) ?_
  refine lv_iadd hx hb dL_law_824 ?_
  refine va_sld hx hb hX hbl hbA hS (lw_ix (k := 1) (by decide) h5 (by decide) hL) dL_law_825 ?_
  refine callR (va_runV (As := [.int (xs ((nI i) + 1).toNatClampNeg)]) (rest := [.int r]) ⟨hx, hb, hml, hown, hW⟩ (c_X7_copy l D cI cZ am M (xs ((nI i) + 1).toNatClampNeg) _ hw) (cwV0 hW mV_X7_copy ml_L_104 ⟨Nat.le_of_ble_eq_true rfl, Nat.le_of_ble_eq_true rfl⟩) (preV0 (Bs := lwB cI cZ ad am X0 X1 X2 X3 X4 X5 X6 X7 X8 M) 0 rfl rfl hK hN hP hD [10] rfl rfl) rfl rfl hl.1 rfl (lv_room (Nat.le_of_ble_eq_true rfl)) dL_law_826 ⟨Nat.le_of_ble_eq_true rfl, Nat.le_of_ble_eq_true rfl⟩) (fun v9 hq => ?_)
  obtain ⟨q, rfl, hw⟩ := hq
  refine W.eq (g2 := F0 m 829 ls [.int q, .int r]) rfl ?_
  refine lv_icmp_eq (tgt := 1200) hx hb dL_law_829 (by decide) (fun _ => ?_) (fun c9 => absurd hw.1 c9)
  exact kont X0 X1 X2 X3 X4 X5 X6 X7 X8 M _ _ _ hw.2 hP hD hS (lv_sub hl [0, 1, 2, 3] rfl)
set_option maxHeartbeats 4000000 in
set_option maxRecDepth 100000 in
theorem law_case_22 {Inv : InvT} {p : Program} {l : Launch} {e : Env} {s : State} {m : MethodId} {below : List Frame} {meth : Method} {c : Code} {b L : Nat} {xs : Nat → Int32} (sim : Sim_furs Inv) (hL : L ≤ 320) (C0 : lw_At p s m meth c b L xs) (D : va_G) (cI cZ : ClassId) (ad am : Nat → Nat) (i : Nat) (h5 : i + 5 ≤ L) (hK : va_K D classes (tysOf cI cZ) s) (hN : NW s) (kont : LCont Inv p l e s m b below meth c D cI cZ ad am i)
    (X0 : St) (X1 : St) (X2 : St) (X3 : St) (X4 : (Nat → Int32)) (X5 : St) (X6 : St) (X7 : St) (X8 : St) (M : St) (H : Heap) (locs : List Loc) (ls : Array Slot) (hI : Inv X0 X1 X2 X3 X4 X5 X6 X7 X8 M) (hP : va_P D classes (jn (lwB cI cZ ad am X0 X1 X2 X3 X4 X5 X6 X7 X8 M)) H) (hD : va_D (lwA s) (jn (lwB cI cZ ad am X0 X1 X2 X3 X4 X5 X6 X7 X8 M))) (hS : va_S (lwA s) s.heap H locs) (hl : lv_has ls 4 [(0, .ref b), (1, .ref (ad 0)), (2, .ref (am 0)), (3, .int (nI i))]) : LW p l e s m b below meth c H locs 834 ls [] := by
  obtain ⟨hx, hb, hr, hml, hown, hts, hX, hbl, hlocks, hgv⟩ := C0
  have hW := WT_lw hts
  have hbA : ¬ lwA s b := Nat.not_le.mpr hbl
  refine lv_aload_n hx hb dL_law_834 rfl (lv_at hl 1 rfl) ?_
  refine lv_aload_n hx hb dL_law_835 rfl (lv_at hl 0 rfl) ?_
  refine lv_iload_n hx hb dL_law_836 rfl (lv_at hl 3 rfl) ?_
  refine lv_iconst (v := 1) hx hb dL_law_837 (by decide) ?_
  refine lv_iadd hx hb dL_law_838 ?_
  refine va_sld hx hb hX hbl hbA hS (lw_ix (k := 1) (by decide) h5 (by decide) hL) dL_law_839 ?_
  refine lv_aload_n hx hb dL_law_840 rfl (lv_at hl 0 rfl) ?_
  refine lv_iload_n hx hb dL_law_841 rfl (lv_at hl 3 rfl) ?_
  refine lv_iconst (v := 2) hx hb dL_law_842 (by decide) ?_
  refine lv_iadd hx hb dL_law_843 ?_
  refine va_sld hx hb hX hbl hbA hS (lw_ix (k := 2) (by decide) h5 (by decide) hL) dL_law_844 ?_
  have hw := sim X0 X1 X2 X3 X4 X5 X6 X7 X8 M (xs ((nI i) + 1).toNatClampNeg) (xs ((nI i) + 2).toNatClampNeg) hI
  refine callR (va_runV (As := [.int (xs ((nI i) + 1).toNatClampNeg), .int (xs ((nI i) + 2).toNatClampNeg)]) (rest := []) ⟨hx, hb, hml, hown, hW⟩ (c_X6_furs l D cI cZ ad X0 (xs ((nI i) + 1).toNatClampNeg) (xs ((nI i) + 2).toNatClampNeg) _ hw) (cwV0 hW mV_X6_furs ml_L_105 ⟨Nat.le_of_ble_eq_true rfl, Nat.le_of_ble_eq_true rfl⟩) (preV0 (Bs := lwB cI cZ ad am X0 X1 X2 X3 X4 X5 X6 X7 X8 M) 0 rfl rfl hK hN hP hD [0, 1] rfl rfl) rfl rfl hl.1 rfl (lv_room (Nat.le_of_ble_eq_true rfl)) dL_law_845 ⟨Nat.le_of_ble_eq_true rfl, Nat.le_of_ble_eq_true rfl⟩) (fun v9 hq => ?_)
  obtain ⟨r, rfl, hw⟩ := hq
  refine W.eq (g2 := F0 m 848 ls [.int r]) rfl ?_
  refine lv_aload_n hx hb dL_law_848 rfl (lv_at hl 2 rfl) ?_
  refine lv_aload_n hx hb dL_law_849 rfl (lv_at hl 0 rfl) ?_
  refine lv_iload_n hx hb dL_law_850 rfl (lv_at hl 3 rfl) ?_
  refine lv_iconst (v := 1) hx hb dL_law_851 (by decide) ?_
  refine lv_iadd hx hb dL_law_852 ?_
  refine va_sld hx hb hX hbl hbA hS (lw_ix (k := 1) (by decide) h5 (by decide) hL) dL_law_853 ?_
  refine lv_aload_n hx hb dL_law_854 rfl (lv_at hl 0 rfl) ?_
  refine lv_iload_n hx hb dL_law_855 rfl (lv_at hl 3 rfl) ?_
  refine lv_iconst (v := 2) hx hb dL_law_856 (by decide) ?_
  refine lv_iadd hx hb dL_law_857 ?_
  refine va_sld hx hb hX hbl hbA hS (lw_ix (k := 2) (by decide) h5 (by decide) hL) dL_law_858 ?_
  refine callR (va_runV (As := [.int (xs ((nI i) + 1).toNatClampNeg), .int (xs ((nI i) + 2).toNatClampNeg)]) (rest := [.int r]) ⟨hx, hb, hml, hown, hW⟩ (c_X7_furs l D cI cZ am M (xs ((nI i) + 1).toNatClampNeg) (xs ((nI i) + 2).toNatClampNeg) _ hw) (cwV0 hW mV_X7_furs ml_L_108 ⟨Nat.le_of_ble_eq_true rfl, Nat.le_of_ble_eq_true rfl⟩) (preV0 (Bs := lwB cI cZ ad am X0 X1 X2 X3 X4 X5 X6 X7 X8 M) 0 rfl rfl hK hN hP hD [10] rfl rfl) rfl rfl hl.1 rfl (lv_room (Nat.le_of_ble_eq_true rfl)) dL_law_859 ⟨Nat.le_of_ble_eq_true rfl, Nat.le_of_ble_eq_true rfl⟩) (fun v9 hq => ?_)
  obtain ⟨q, rfl, hw⟩ := hq
  refine W.eq (g2 := F0 m 862 ls [.int q, .int r]) rfl ?_
  refine lv_icmp_eq (tgt := 1200) hx hb dL_law_862 (by decide) (fun _ => ?_) (fun c9 => absurd hw.1 c9)
  exact kont X0 X1 X2 X3 X4 X5 X6 X7 X8 M _ _ _ hw.2 hP hD hS (lv_sub hl [0, 1, 2, 3] rfl)
set_option maxHeartbeats 4000000 in
set_option maxRecDepth 100000 in
theorem law_case_23 {Inv : InvT} {p : Program} {l : Launch} {e : Env} {s : State} {m : MethodId} {below : List Frame} {meth : Method} {c : Code} {b L : Nat} {xs : Nat → Int32} (sim : Sim_seen Inv) (hL : L ≤ 320) (C0 : lw_At p s m meth c b L xs) (D : va_G) (cI cZ : ClassId) (ad am : Nat → Nat) (i : Nat) (h5 : i + 5 ≤ L) (hK : va_K D classes (tysOf cI cZ) s) (hN : NW s) (kont : LCont Inv p l e s m b below meth c D cI cZ ad am i)
    (X0 : St) (X1 : St) (X2 : St) (X3 : St) (X4 : (Nat → Int32)) (X5 : St) (X6 : St) (X7 : St) (X8 : St) (M : St) (H : Heap) (locs : List Loc) (ls : Array Slot) (hI : Inv X0 X1 X2 X3 X4 X5 X6 X7 X8 M) (hP : va_P D classes (jn (lwB cI cZ ad am X0 X1 X2 X3 X4 X5 X6 X7 X8 M)) H) (hD : va_D (lwA s) (jn (lwB cI cZ ad am X0 X1 X2 X3 X4 X5 X6 X7 X8 M))) (hS : va_S (lwA s) s.heap H locs) (hl : lv_has ls 4 [(0, .ref b), (1, .ref (ad 0)), (2, .ref (am 0)), (3, .int (nI i))]) : LW p l e s m b below meth c H locs 867 ls [] := by
  obtain ⟨hx, hb, hr, hml, hown, hts, hX, hbl, hlocks, hgv⟩ := C0
  have hW := WT_lw hts
  have hbA : ¬ lwA s b := Nat.not_le.mpr hbl
  refine lv_aload_n hx hb dL_law_867 rfl (lv_at hl 1 rfl) ?_
  refine lv_aload_n hx hb dL_law_868 rfl (lv_at hl 0 rfl) ?_
  refine lv_iload_n hx hb dL_law_869 rfl (lv_at hl 3 rfl) ?_
  refine lv_iconst (v := 1) hx hb dL_law_870 (by decide) ?_
  refine lv_iadd hx hb dL_law_871 ?_
  refine va_sld hx hb hX hbl hbA hS (lw_ix (k := 1) (by decide) h5 (by decide) hL) dL_law_872 ?_
  refine lv_aload_n hx hb dL_law_873 rfl (lv_at hl 0 rfl) ?_
  refine lv_iload_n hx hb dL_law_874 rfl (lv_at hl 3 rfl) ?_
  refine lv_iconst (v := 2) hx hb dL_law_875 (by decide) ?_
  refine lv_iadd hx hb dL_law_876 ?_
  refine va_sld hx hb hX hbl hbA hS (lw_ix (k := 2) (by decide) h5 (by decide) hL) dL_law_877 ?_
  refine lv_if_eq (tgt := 885) hx hb dL_law_878 (by decide) (fun c1 => ?_) (fun c1 => ?_)
  · refine lv_iconst (v := 0) hx hb dL_law_885 (by decide) ?_
    have hw := sim X0 X1 X2 X3 X4 X5 X6 X7 X8 M (xs ((nI i) + 1).toNatClampNeg) 0 hI (by first | exact Or.inl rfl | exact Or.inr rfl)
    refine callW (Bs := lwB cI cZ ad am X0 X1 X2 X3 X4 X5 X6 X7 X8 M) (va_runV (As := [.int (xs ((nI i) + 1).toNatClampNeg), .int 0]) (rest := []) ⟨hx, hb, hml, hown, hW⟩ (c_X6_seen l D cI cZ ad X0 (xs ((nI i) + 1).toNatClampNeg) 0 _ hw) (cwV0 hW mV_X6_seen ml_L_109 ⟨Nat.le_of_ble_eq_true rfl, Nat.le_of_ble_eq_true rfl⟩) (preV0 (Bs := lwB cI cZ ad am X0 X1 X2 X3 X4 X5 X6 X7 X8 M) 0 rfl rfl hK hN hP hD [0, 1] rfl rfl) rfl rfl hl.1 rfl (lv_room (Nat.le_of_ble_eq_true rfl)) dL_law_886 ⟨Nat.le_of_ble_eq_true rfl, Nat.le_of_ble_eq_true rfl⟩) hP hD hS [0, 1] rfl rfl (fun _ => rfl) (fun v9 u9 H locs hq hP hD hS => ?_)
    obtain ⟨r, rfl, hw⟩ := hq
    obtain ⟨U0, rfl⟩ : ∃ z, z = u9 := ⟨_, rfl⟩
    have hP : va_P D classes (jn (lwB cI cZ ad am U0 X1 X2 X3 X4 X5 X6 X7 X8 M)) H := hP
    have hD : va_D (lwA s) (jn (lwB cI cZ ad am U0 X1 X2 X3 X4 X5 X6 X7 X8 M)) := hD
    refine W.eq (g2 := F0 m 889 ls [.int r]) rfl ?_
    refine lv_aload_n hx hb dL_law_889 rfl (lv_at hl 2 rfl) ?_
    refine lv_aload_n hx hb dL_law_890 rfl (lv_at hl 0 rfl) ?_
    refine lv_iload_n hx hb dL_law_891 rfl (lv_at hl 3 rfl) ?_
    refine lv_iconst (v := 1) hx hb dL_law_892 (by decide) ?_
    refine lv_iadd hx hb dL_law_893 ?_
    refine va_sld hx hb hX hbl hbA hS (lw_ix (k := 1) (by decide) h5 (by decide) hL) dL_law_894 ?_
    refine lv_aload_n hx hb dL_law_895 rfl (lv_at hl 0 rfl) ?_
    refine lv_iload_n hx hb dL_law_896 rfl (lv_at hl 3 rfl) ?_
    refine lv_iconst (v := 2) hx hb dL_law_897 (by decide) ?_
    refine lv_iadd hx hb dL_law_898 ?_
    refine va_sld hx hb hX hbl hbA hS (lw_ix (k := 2) (by decide) h5 (by decide) hL) dL_law_899 ?_
    refine lv_if_eq (tgt := 907) hx hb dL_law_900 (by decide) (fun _ => ?_) (fun c9 => absurd c1 c9)
    refine lv_iconst (v := 0) hx hb dL_law_907 (by decide) ?_
    refine callW (Bs := lwB cI cZ ad am U0 X1 X2 X3 X4 X5 X6 X7 X8 M) (va_runV (As := [.int (xs ((nI i) + 1).toNatClampNeg), .int 0]) (rest := [.int r]) ⟨hx, hb, hml, hown, hW⟩ (c_X7_seen l D cI cZ am M (xs ((nI i) + 1).toNatClampNeg) 0 _ hw) (cwV0 hW mV_X7_seen ml_L_113 ⟨Nat.le_of_ble_eq_true rfl, Nat.le_of_ble_eq_true rfl⟩) (preV0 (Bs := lwB cI cZ ad am U0 X1 X2 X3 X4 X5 X6 X7 X8 M) 0 rfl rfl hK hN hP hD [10] rfl rfl) rfl rfl hl.1 rfl (lv_room (Nat.le_of_ble_eq_true rfl)) dL_law_908 ⟨Nat.le_of_ble_eq_true rfl, Nat.le_of_ble_eq_true rfl⟩) hP hD hS [10] rfl rfl (fun _ => rfl) (fun v9 u9 H locs hq hP hD hS => ?_)
    obtain ⟨q, rfl, hw⟩ := hq
    obtain ⟨N, rfl⟩ : ∃ z, z = u9 := ⟨_, rfl⟩
    have hP : va_P D classes (jn (lwB cI cZ ad am U0 X1 X2 X3 X4 X5 X6 X7 X8 N)) H := hP
    have hD : va_D (lwA s) (jn (lwB cI cZ ad am U0 X1 X2 X3 X4 X5 X6 X7 X8 N)) := hD
    refine W.eq (g2 := F0 m 911 ls [.int q, .int r]) rfl ?_
    refine lv_icmp_eq (tgt := 1200) hx hb dL_law_911 (by decide) (fun _ => ?_) (fun c9 => absurd hw.1 c9)
    exact kont U0 X1 X2 X3 X4 X5 X6 X7 X8 N _ _ _ hw.2 hP hD hS (lv_sub hl [0, 1, 2, 3] rfl)
  · refine lv_iconst (v := 1) hx hb dL_law_881 (by decide) ?_
    refine lv_goto (tgt := 886) hx hb dL_law_882 (by decide) ?_
    have hw := sim X0 X1 X2 X3 X4 X5 X6 X7 X8 M (xs ((nI i) + 1).toNatClampNeg) 1 hI (by first | exact Or.inl rfl | exact Or.inr rfl)
    refine callW (Bs := lwB cI cZ ad am X0 X1 X2 X3 X4 X5 X6 X7 X8 M) (va_runV (As := [.int (xs ((nI i) + 1).toNatClampNeg), .int 1]) (rest := []) ⟨hx, hb, hml, hown, hW⟩ (c_X6_seen l D cI cZ ad X0 (xs ((nI i) + 1).toNatClampNeg) 1 _ hw) (cwV0 hW mV_X6_seen ml_L_109 ⟨Nat.le_of_ble_eq_true rfl, Nat.le_of_ble_eq_true rfl⟩) (preV0 (Bs := lwB cI cZ ad am X0 X1 X2 X3 X4 X5 X6 X7 X8 M) 0 rfl rfl hK hN hP hD [0, 1] rfl rfl) rfl rfl hl.1 rfl (lv_room (Nat.le_of_ble_eq_true rfl)) dL_law_886 ⟨Nat.le_of_ble_eq_true rfl, Nat.le_of_ble_eq_true rfl⟩) hP hD hS [0, 1] rfl rfl (fun _ => rfl) (fun v9 u9 H locs hq hP hD hS => ?_)
    obtain ⟨r, rfl, hw⟩ := hq
    obtain ⟨U0, rfl⟩ : ∃ z, z = u9 := ⟨_, rfl⟩
    have hP : va_P D classes (jn (lwB cI cZ ad am U0 X1 X2 X3 X4 X5 X6 X7 X8 M)) H := hP
    have hD : va_D (lwA s) (jn (lwB cI cZ ad am U0 X1 X2 X3 X4 X5 X6 X7 X8 M)) := hD
    refine W.eq (g2 := F0 m 889 ls [.int r]) rfl ?_
    refine lv_aload_n hx hb dL_law_889 rfl (lv_at hl 2 rfl) ?_
    refine lv_aload_n hx hb dL_law_890 rfl (lv_at hl 0 rfl) ?_
    refine lv_iload_n hx hb dL_law_891 rfl (lv_at hl 3 rfl) ?_
    refine lv_iconst (v := 1) hx hb dL_law_892 (by decide) ?_
    refine lv_iadd hx hb dL_law_893 ?_
    refine va_sld hx hb hX hbl hbA hS (lw_ix (k := 1) (by decide) h5 (by decide) hL) dL_law_894 ?_
    refine lv_aload_n hx hb dL_law_895 rfl (lv_at hl 0 rfl) ?_
    refine lv_iload_n hx hb dL_law_896 rfl (lv_at hl 3 rfl) ?_
    refine lv_iconst (v := 2) hx hb dL_law_897 (by decide) ?_
    refine lv_iadd hx hb dL_law_898 ?_
    refine va_sld hx hb hX hbl hbA hS (lw_ix (k := 2) (by decide) h5 (by decide) hL) dL_law_899 ?_
    refine lv_if_eq (tgt := 907) hx hb dL_law_900 (by decide) (fun c9 => absurd c9 c1) (fun _ => ?_)
    refine lv_iconst (v := 1) hx hb dL_law_903 (by decide) ?_
    refine lv_goto (tgt := 908) hx hb dL_law_904 (by decide) ?_
    refine callW (Bs := lwB cI cZ ad am U0 X1 X2 X3 X4 X5 X6 X7 X8 M) (va_runV (As := [.int (xs ((nI i) + 1).toNatClampNeg), .int 1]) (rest := [.int r]) ⟨hx, hb, hml, hown, hW⟩ (c_X7_seen l D cI cZ am M (xs ((nI i) + 1).toNatClampNeg) 1 _ hw) (cwV0 hW mV_X7_seen ml_L_113 ⟨Nat.le_of_ble_eq_true rfl, Nat.le_of_ble_eq_true rfl⟩) (preV0 (Bs := lwB cI cZ ad am U0 X1 X2 X3 X4 X5 X6 X7 X8 M) 0 rfl rfl hK hN hP hD [10] rfl rfl) rfl rfl hl.1 rfl (lv_room (Nat.le_of_ble_eq_true rfl)) dL_law_908 ⟨Nat.le_of_ble_eq_true rfl, Nat.le_of_ble_eq_true rfl⟩) hP hD hS [10] rfl rfl (fun _ => rfl) (fun v9 u9 H locs hq hP hD hS => ?_)
    obtain ⟨q, rfl, hw⟩ := hq
    obtain ⟨N, rfl⟩ : ∃ z, z = u9 := ⟨_, rfl⟩
    have hP : va_P D classes (jn (lwB cI cZ ad am U0 X1 X2 X3 X4 X5 X6 X7 X8 N)) H := hP
    have hD : va_D (lwA s) (jn (lwB cI cZ ad am U0 X1 X2 X3 X4 X5 X6 X7 X8 N)) := hD
    refine W.eq (g2 := F0 m 911 ls [.int q, .int r]) rfl ?_
    refine lv_icmp_eq (tgt := 1200) hx hb dL_law_911 (by decide) (fun _ => ?_) (fun c9 => absurd hw.1 c9)
    exact kont U0 X1 X2 X3 X4 X5 X6 X7 X8 N _ _ _ hw.2 hP hD hS (lv_sub hl [0, 1, 2, 3] rfl)
set_option maxHeartbeats 4000000 in
set_option maxRecDepth 100000 in
theorem law_case_24 {Inv : InvT} {p : Program} {l : Launch} {e : Env} {s : State} {m : MethodId} {below : List Frame} {meth : Method} {c : Code} {b L : Nat} {xs : Nat → Int32} (sim : Sim_forget Inv) (hL : L ≤ 320) (C0 : lw_At p s m meth c b L xs) (D : va_G) (cI cZ : ClassId) (ad am : Nat → Nat) (i : Nat) (h5 : i + 5 ≤ L) (hK : va_K D classes (tysOf cI cZ) s) (hN : NW s) (kont : LCont Inv p l e s m b below meth c D cI cZ ad am i)
    (X0 : St) (X1 : St) (X2 : St) (X3 : St) (X4 : (Nat → Int32)) (X5 : St) (X6 : St) (X7 : St) (X8 : St) (M : St) (H : Heap) (locs : List Loc) (ls : Array Slot) (hI : Inv X0 X1 X2 X3 X4 X5 X6 X7 X8 M) (hP : va_P D classes (jn (lwB cI cZ ad am X0 X1 X2 X3 X4 X5 X6 X7 X8 M)) H) (hD : va_D (lwA s) (jn (lwB cI cZ ad am X0 X1 X2 X3 X4 X5 X6 X7 X8 M))) (hS : va_S (lwA s) s.heap H locs) (hl : lv_has ls 4 [(0, .ref b), (1, .ref (ad 0)), (2, .ref (am 0)), (3, .int (nI i))]) : LW p l e s m b below meth c H locs 916 ls [] := by
  obtain ⟨hx, hb, hr, hml, hown, hts, hX, hbl, hlocks, hgv⟩ := C0
  have hW := WT_lw hts
  have hbA : ¬ lwA s b := Nat.not_le.mpr hbl
  refine lv_aload_n hx hb dL_law_916 rfl (lv_at hl 1 rfl) ?_
  have hw := sim X0 X1 X2 X3 X4 X5 X6 X7 X8 M hI
  refine callW (Bs := lwB cI cZ ad am X0 X1 X2 X3 X4 X5 X6 X7 X8 M) (va_runV (As := []) (rest := []) ⟨hx, hb, hml, hown, hW⟩ (c_X6_forget l D cI cZ ad X0  _ hw) (cwV0 hW mV_X6_forget ml_L_114 ⟨Nat.le_of_ble_eq_true rfl, Nat.le_of_ble_eq_true rfl⟩) (preV0 (Bs := lwB cI cZ ad am X0 X1 X2 X3 X4 X5 X6 X7 X8 M) 0 rfl rfl hK hN hP hD [0, 1] rfl rfl) rfl rfl hl.1 rfl (lv_room (Nat.le_of_ble_eq_true rfl)) dL_law_917 ⟨Nat.le_of_ble_eq_true rfl, Nat.le_of_ble_eq_true rfl⟩) hP hD hS [0, 1] rfl rfl (fun _ => rfl) (fun v9 u9 H locs hq hP hD hS => ?_)
  obtain ⟨r, rfl, hw⟩ := hq
  obtain ⟨U0, rfl⟩ : ∃ z, z = u9 := ⟨_, rfl⟩
  have hP : va_P D classes (jn (lwB cI cZ ad am U0 X1 X2 X3 X4 X5 X6 X7 X8 M)) H := hP
  have hD : va_D (lwA s) (jn (lwB cI cZ ad am U0 X1 X2 X3 X4 X5 X6 X7 X8 M)) := hD
  refine W.eq (g2 := F0 m 920 ls [.int r]) rfl ?_
  refine lv_aload_n hx hb dL_law_920 rfl (lv_at hl 2 rfl) ?_
  refine callW (Bs := lwB cI cZ ad am U0 X1 X2 X3 X4 X5 X6 X7 X8 M) (va_runV (As := []) (rest := [.int r]) ⟨hx, hb, hml, hown, hW⟩ (c_X7_forget l D cI cZ am M  _ hw) (cwV0 hW mV_X7_forget ml_L_117 ⟨Nat.le_of_ble_eq_true rfl, Nat.le_of_ble_eq_true rfl⟩) (preV0 (Bs := lwB cI cZ ad am U0 X1 X2 X3 X4 X5 X6 X7 X8 M) 0 rfl rfl hK hN hP hD [10] rfl rfl) rfl rfl hl.1 rfl (lv_room (Nat.le_of_ble_eq_true rfl)) dL_law_921 ⟨Nat.le_of_ble_eq_true rfl, Nat.le_of_ble_eq_true rfl⟩) hP hD hS [10] rfl rfl (fun _ => rfl) (fun v9 u9 H locs hq hP hD hS => ?_)
  obtain ⟨q, rfl, hw⟩ := hq
  obtain ⟨N, rfl⟩ : ∃ z, z = u9 := ⟨_, rfl⟩
  have hP : va_P D classes (jn (lwB cI cZ ad am U0 X1 X2 X3 X4 X5 X6 X7 X8 N)) H := hP
  have hD : va_D (lwA s) (jn (lwB cI cZ ad am U0 X1 X2 X3 X4 X5 X6 X7 X8 N)) := hD
  refine W.eq (g2 := F0 m 924 ls [.int q, .int r]) rfl ?_
  refine lv_icmp_eq (tgt := 1200) hx hb dL_law_924 (by decide) (fun _ => ?_) (fun c9 => absurd hw.1 c9)
  exact kont U0 X1 X2 X3 X4 X5 X6 X7 X8 N _ _ _ hw.2 hP hD hS (lv_sub hl [0, 1, 2, 3] rfl)
set_option maxHeartbeats 4000000 in
set_option maxRecDepth 100000 in
theorem law_case_25 {Inv : InvT} {p : Program} {l : Launch} {e : Env} {s : State} {m : MethodId} {below : List Frame} {meth : Method} {c : Code} {b L : Nat} {xs : Nat → Int32} (sim : Sim_changed Inv) (hL : L ≤ 320) (C0 : lw_At p s m meth c b L xs) (D : va_G) (cI cZ : ClassId) (ad am : Nat → Nat) (i : Nat) (h5 : i + 5 ≤ L) (hK : va_K D classes (tysOf cI cZ) s) (hN : NW s) (kont : LCont Inv p l e s m b below meth c D cI cZ ad am i)
    (X0 : St) (X1 : St) (X2 : St) (X3 : St) (X4 : (Nat → Int32)) (X5 : St) (X6 : St) (X7 : St) (X8 : St) (M : St) (H : Heap) (locs : List Loc) (ls : Array Slot) (hI : Inv X0 X1 X2 X3 X4 X5 X6 X7 X8 M) (hP : va_P D classes (jn (lwB cI cZ ad am X0 X1 X2 X3 X4 X5 X6 X7 X8 M)) H) (hD : va_D (lwA s) (jn (lwB cI cZ ad am X0 X1 X2 X3 X4 X5 X6 X7 X8 M))) (hS : va_S (lwA s) s.heap H locs) (hl : lv_has ls 4 [(0, .ref b), (1, .ref (ad 0)), (2, .ref (am 0)), (3, .int (nI i))]) : LW p l e s m b below meth c H locs 929 ls [] := by
  obtain ⟨hx, hb, hr, hml, hown, hts, hX, hbl, hlocks, hgv⟩ := C0
  have hW := WT_lw hts
  have hbA : ¬ lwA s b := Nat.not_le.mpr hbl
  refine lv_aload_n hx hb dL_law_929 rfl (lv_at hl 1 rfl) ?_
  refine lv_aload_n hx hb dL_law_930 rfl (lv_at hl 0 rfl) ?_
  refine lv_iload_n hx hb dL_law_931 rfl (lv_at hl 3 rfl) ?_
  refine lv_iconst (v := 1) hx hb dL_law_932 (by decide) ?_
  refine lv_iadd hx hb dL_law_933 ?_
  refine va_sld hx hb hX hbl hbA hS (lw_ix (k := 1) (by decide) h5 (by decide) hL) dL_law_934 ?_
  have hw := sim X0 X1 X2 X3 X4 X5 X6 X7 X8 M (xs ((nI i) + 1).toNatClampNeg) hI
  refine callW (Bs := lwB cI cZ ad am X0 X1 X2 X3 X4 X5 X6 X7 X8 M) (va_runV (As := [.int (xs ((nI i) + 1).toNatClampNeg)]) (rest := []) ⟨hx, hb, hml, hown, hW⟩ (c_X6_changed l D cI cZ ad X0 X7 (xs ((nI i) + 1).toNatClampNeg) _ hw) (cwV0 hW mV_X6_changed ml_L_118 ⟨Nat.le_of_ble_eq_true rfl, Nat.le_of_ble_eq_true rfl⟩) (preV0 (Bs := lwB cI cZ ad am X0 X1 X2 X3 X4 X5 X6 X7 X8 M) 0 rfl rfl hK hN hP hD [0, 1, 8] rfl rfl) rfl rfl hl.1 rfl (lv_room (Nat.le_of_ble_eq_true rfl)) dL_law_935 ⟨Nat.le_of_ble_eq_true rfl, Nat.le_of_ble_eq_true rfl⟩) hP hD hS [0, 1, 8] rfl rfl (fun _ => rfl) (fun v9 u9 H locs hq hP hD hS => ?_)
  obtain ⟨r, rfl, hw⟩ := hq
  obtain ⟨U7, rfl⟩ : ∃ z, z = u9 := ⟨_, rfl⟩
  have hP : va_P D classes (jn (lwB cI cZ ad am X0 X1 X2 X3 X4 X5 X6 U7 X8 M)) H := hP
  have hD : va_D (lwA s) (jn (lwB cI cZ ad am X0 X1 X2 X3 X4 X5 X6 U7 X8 M)) := hD
  refine W.eq (g2 := F0 m 938 ls [.int r]) rfl ?_
  refine lv_aload_n hx hb dL_law_938 rfl (lv_at hl 2 rfl) ?_
  refine lv_aload_n hx hb dL_law_939 rfl (lv_at hl 0 rfl) ?_
  refine lv_iload_n hx hb dL_law_940 rfl (lv_at hl 3 rfl) ?_
  refine lv_iconst (v := 1) hx hb dL_law_941 (by decide) ?_
  refine lv_iadd hx hb dL_law_942 ?_
  refine va_sld hx hb hX hbl hbA hS (lw_ix (k := 1) (by decide) h5 (by decide) hL) dL_law_943 ?_
  refine callW (Bs := lwB cI cZ ad am X0 X1 X2 X3 X4 X5 X6 U7 X8 M) (va_runV (As := [.int (xs ((nI i) + 1).toNatClampNeg)]) (rest := [.int r]) ⟨hx, hb, hml, hown, hW⟩ (c_X7_changed l D cI cZ am M (xs ((nI i) + 1).toNatClampNeg) _ hw) (cwV0 hW mV_X7_changed ml_L_121 ⟨Nat.le_of_ble_eq_true rfl, Nat.le_of_ble_eq_true rfl⟩) (preV0 (Bs := lwB cI cZ ad am X0 X1 X2 X3 X4 X5 X6 U7 X8 M) 0 rfl rfl hK hN hP hD [10] rfl rfl) rfl rfl hl.1 rfl (lv_room (Nat.le_of_ble_eq_true rfl)) dL_law_944 ⟨Nat.le_of_ble_eq_true rfl, Nat.le_of_ble_eq_true rfl⟩) hP hD hS [10] rfl rfl (fun _ => rfl) (fun v9 u9 H locs hq hP hD hS => ?_)
  obtain ⟨q, rfl, hw⟩ := hq
  obtain ⟨N, rfl⟩ : ∃ z, z = u9 := ⟨_, rfl⟩
  have hP : va_P D classes (jn (lwB cI cZ ad am X0 X1 X2 X3 X4 X5 X6 U7 X8 N)) H := hP
  have hD : va_D (lwA s) (jn (lwB cI cZ ad am X0 X1 X2 X3 X4 X5 X6 U7 X8 N)) := hD
  refine W.eq (g2 := F0 m 947 ls [.int q, .int r]) rfl ?_
  refine lv_icmp_eq (tgt := 1200) hx hb dL_law_947 (by decide) (fun _ => ?_) (fun c9 => absurd hw.1 c9)
  exact kont X0 X1 X2 X3 X4 X5 X6 U7 X8 N _ _ _ hw.2 hP hD hS (lv_sub hl [0, 1, 2, 3] rfl)
set_option maxHeartbeats 4000000 in
set_option maxRecDepth 100000 in
theorem law_case_26 {Inv : InvT} {p : Program} {l : Launch} {e : Env} {s : State} {m : MethodId} {below : List Frame} {meth : Method} {c : Code} {b L : Nat} {xs : Nat → Int32} (sim : Sim_names Inv) (hL : L ≤ 320) (C0 : lw_At p s m meth c b L xs) (D : va_G) (cI cZ : ClassId) (ad am : Nat → Nat) (i : Nat) (h5 : i + 5 ≤ L) (hK : va_K D classes (tysOf cI cZ) s) (hN : NW s) (kont : LCont Inv p l e s m b below meth c D cI cZ ad am i)
    (X0 : St) (X1 : St) (X2 : St) (X3 : St) (X4 : (Nat → Int32)) (X5 : St) (X6 : St) (X7 : St) (X8 : St) (M : St) (H : Heap) (locs : List Loc) (ls : Array Slot) (hI : Inv X0 X1 X2 X3 X4 X5 X6 X7 X8 M) (hP : va_P D classes (jn (lwB cI cZ ad am X0 X1 X2 X3 X4 X5 X6 X7 X8 M)) H) (hD : va_D (lwA s) (jn (lwB cI cZ ad am X0 X1 X2 X3 X4 X5 X6 X7 X8 M))) (hS : va_S (lwA s) s.heap H locs) (hl : lv_has ls 4 [(0, .ref b), (1, .ref (ad 0)), (2, .ref (am 0)), (3, .int (nI i))]) : LW p l e s m b below meth c H locs 952 ls [] := by
  obtain ⟨hx, hb, hr, hml, hown, hts, hX, hbl, hlocks, hgv⟩ := C0
  have hW := WT_lw hts
  have hbA : ¬ lwA s b := Nat.not_le.mpr hbl
  refine lv_aload_n hx hb dL_law_952 rfl (lv_at hl 1 rfl) ?_
  refine lv_aload_n hx hb dL_law_953 rfl (lv_at hl 0 rfl) ?_
  refine lv_iload_n hx hb dL_law_954 rfl (lv_at hl 3 rfl) ?_
  refine lv_iconst (v := 1) hx hb dL_law_955 (by decide) ?_
  refine lv_iadd hx hb dL_law_956 ?_
  refine va_sld hx hb hX hbl hbA hS (lw_ix (k := 1) (by decide) h5 (by decide) hL) dL_law_957 ?_
  have hw := sim X0 X1 X2 X3 X4 X5 X6 X7 X8 M (xs ((nI i) + 1).toNatClampNeg) hI
  refine callW (Bs := lwB cI cZ ad am X0 X1 X2 X3 X4 X5 X6 X7 X8 M) (va_runV (As := [.int (xs ((nI i) + 1).toNatClampNeg)]) (rest := []) ⟨hx, hb, hml, hown, hW⟩ (c_X6_names l D cI cZ ad X0 X7 (xs ((nI i) + 1).toNatClampNeg) _ hw) (cwV0 hW mV_X6_names ml_L_122 ⟨Nat.le_of_ble_eq_true rfl, Nat.le_of_ble_eq_true rfl⟩) (preV0 (Bs := lwB cI cZ ad am X0 X1 X2 X3 X4 X5 X6 X7 X8 M) 0 rfl rfl hK hN hP hD [0, 1, 8] rfl rfl) rfl rfl hl.1 rfl (lv_room (Nat.le_of_ble_eq_true rfl)) dL_law_958 ⟨Nat.le_of_ble_eq_true rfl, Nat.le_of_ble_eq_true rfl⟩) hP hD hS [0, 1, 8] rfl rfl (fun _ => rfl) (fun v9 u9 H locs hq hP hD hS => ?_)
  obtain ⟨r, rfl, hw⟩ := hq
  obtain ⟨U7, rfl⟩ : ∃ z, z = u9 := ⟨_, rfl⟩
  have hP : va_P D classes (jn (lwB cI cZ ad am X0 X1 X2 X3 X4 X5 X6 U7 X8 M)) H := hP
  have hD : va_D (lwA s) (jn (lwB cI cZ ad am X0 X1 X2 X3 X4 X5 X6 U7 X8 M)) := hD
  refine W.eq (g2 := F0 m 961 ls [.int r]) rfl ?_
  refine lv_aload_n hx hb dL_law_961 rfl (lv_at hl 2 rfl) ?_
  refine lv_aload_n hx hb dL_law_962 rfl (lv_at hl 0 rfl) ?_
  refine lv_iload_n hx hb dL_law_963 rfl (lv_at hl 3 rfl) ?_
  refine lv_iconst (v := 1) hx hb dL_law_964 (by decide) ?_
  refine lv_iadd hx hb dL_law_965 ?_
  refine va_sld hx hb hX hbl hbA hS (lw_ix (k := 1) (by decide) h5 (by decide) hL) dL_law_966 ?_
  refine callW (Bs := lwB cI cZ ad am X0 X1 X2 X3 X4 X5 X6 U7 X8 M) (va_runV (As := [.int (xs ((nI i) + 1).toNatClampNeg)]) (rest := [.int r]) ⟨hx, hb, hml, hown, hW⟩ (c_X7_names l D cI cZ am M (xs ((nI i) + 1).toNatClampNeg) _ hw) (cwV0 hW mV_X7_names ml_L_125 ⟨Nat.le_of_ble_eq_true rfl, Nat.le_of_ble_eq_true rfl⟩) (preV0 (Bs := lwB cI cZ ad am X0 X1 X2 X3 X4 X5 X6 U7 X8 M) 0 rfl rfl hK hN hP hD [10] rfl rfl) rfl rfl hl.1 rfl (lv_room (Nat.le_of_ble_eq_true rfl)) dL_law_967 ⟨Nat.le_of_ble_eq_true rfl, Nat.le_of_ble_eq_true rfl⟩) hP hD hS [10] rfl rfl (fun _ => rfl) (fun v9 u9 H locs hq hP hD hS => ?_)
  obtain ⟨q, rfl, hw⟩ := hq
  obtain ⟨N, rfl⟩ : ∃ z, z = u9 := ⟨_, rfl⟩
  have hP : va_P D classes (jn (lwB cI cZ ad am X0 X1 X2 X3 X4 X5 X6 U7 X8 N)) H := hP
  have hD : va_D (lwA s) (jn (lwB cI cZ ad am X0 X1 X2 X3 X4 X5 X6 U7 X8 N)) := hD
  refine W.eq (g2 := F0 m 970 ls [.int q, .int r]) rfl ?_
  refine lv_icmp_eq (tgt := 1200) hx hb dL_law_970 (by decide) (fun _ => ?_) (fun c9 => absurd hw.1 c9)
  exact kont X0 X1 X2 X3 X4 X5 X6 U7 X8 N _ _ _ hw.2 hP hD hS (lv_sub hl [0, 1, 2, 3] rfl)
set_option maxHeartbeats 4000000 in
set_option maxRecDepth 100000 in
theorem law_case_27 {Inv : InvT} {p : Program} {l : Launch} {e : Env} {s : State} {m : MethodId} {below : List Frame} {meth : Method} {c : Code} {b L : Nat} {xs : Nat → Int32} (sim : Sim_hear Inv) (hL : L ≤ 320) (C0 : lw_At p s m meth c b L xs) (D : va_G) (cI cZ : ClassId) (ad am : Nat → Nat) (i : Nat) (h5 : i + 5 ≤ L) (hK : va_K D classes (tysOf cI cZ) s) (hN : NW s) (kont : LCont Inv p l e s m b below meth c D cI cZ ad am i)
    (X0 : St) (X1 : St) (X2 : St) (X3 : St) (X4 : (Nat → Int32)) (X5 : St) (X6 : St) (X7 : St) (X8 : St) (M : St) (H : Heap) (locs : List Loc) (ls : Array Slot) (hI : Inv X0 X1 X2 X3 X4 X5 X6 X7 X8 M) (hP : va_P D classes (jn (lwB cI cZ ad am X0 X1 X2 X3 X4 X5 X6 X7 X8 M)) H) (hD : va_D (lwA s) (jn (lwB cI cZ ad am X0 X1 X2 X3 X4 X5 X6 X7 X8 M))) (hS : va_S (lwA s) s.heap H locs) (hl : lv_has ls 4 [(0, .ref b), (1, .ref (ad 0)), (2, .ref (am 0)), (3, .int (nI i))]) : LW p l e s m b below meth c H locs 975 ls [] := by
  obtain ⟨hx, hb, hr, hml, hown, hts, hX, hbl, hlocks, hgv⟩ := C0
  have hW := WT_lw hts
  have hbA : ¬ lwA s b := Nat.not_le.mpr hbl
  refine lv_aload_n hx hb dL_law_975 rfl (lv_at hl 1 rfl) ?_
  refine lv_aload_n hx hb dL_law_976 rfl (lv_at hl 0 rfl) ?_
  refine lv_iload_n hx hb dL_law_977 rfl (lv_at hl 3 rfl) ?_
  refine lv_iconst (v := 1) hx hb dL_law_978 (by decide) ?_
  refine lv_iadd hx hb dL_law_979 ?_
  refine va_sld hx hb hX hbl hbA hS (lw_ix (k := 1) (by decide) h5 (by decide) hL) dL_law_980 ?_
  have hw := sim X0 X1 X2 X3 X4 X5 X6 X7 X8 M (xs ((nI i) + 1).toNatClampNeg) hI
  refine callW (Bs := lwB cI cZ ad am X0 X1 X2 X3 X4 X5 X6 X7 X8 M) (va_runV (As := [.int (xs ((nI i) + 1).toNatClampNeg)]) (rest := []) ⟨hx, hb, hml, hown, hW⟩ (c_X6_hear l D cI cZ ad X0 X7 (xs ((nI i) + 1).toNatClampNeg) _ hw) (cwV0 hW mV_X6_hear ml_L_126 ⟨Nat.le_of_ble_eq_true rfl, Nat.le_of_ble_eq_true rfl⟩) (preV0 (Bs := lwB cI cZ ad am X0 X1 X2 X3 X4 X5 X6 X7 X8 M) 0 rfl rfl hK hN hP hD [0, 1, 8] rfl rfl) rfl rfl hl.1 rfl (lv_room (Nat.le_of_ble_eq_true rfl)) dL_law_981 ⟨Nat.le_of_ble_eq_true rfl, Nat.le_of_ble_eq_true rfl⟩) hP hD hS [0, 1, 8] rfl rfl (fun _ => rfl) (fun v9 u9 H locs hq hP hD hS => ?_)
  obtain ⟨r, rfl, hw⟩ := hq
  obtain ⟨U7, rfl⟩ : ∃ z, z = u9 := ⟨_, rfl⟩
  have hP : va_P D classes (jn (lwB cI cZ ad am X0 X1 X2 X3 X4 X5 X6 U7 X8 M)) H := hP
  have hD : va_D (lwA s) (jn (lwB cI cZ ad am X0 X1 X2 X3 X4 X5 X6 U7 X8 M)) := hD
  refine W.eq (g2 := F0 m 984 ls [.int r]) rfl ?_
  refine lv_aload_n hx hb dL_law_984 rfl (lv_at hl 2 rfl) ?_
  refine lv_aload_n hx hb dL_law_985 rfl (lv_at hl 0 rfl) ?_
  refine lv_iload_n hx hb dL_law_986 rfl (lv_at hl 3 rfl) ?_
  refine lv_iconst (v := 1) hx hb dL_law_987 (by decide) ?_
  refine lv_iadd hx hb dL_law_988 ?_
  refine va_sld hx hb hX hbl hbA hS (lw_ix (k := 1) (by decide) h5 (by decide) hL) dL_law_989 ?_
  refine callW (Bs := lwB cI cZ ad am X0 X1 X2 X3 X4 X5 X6 U7 X8 M) (va_runV (As := [.int (xs ((nI i) + 1).toNatClampNeg)]) (rest := [.int r]) ⟨hx, hb, hml, hown, hW⟩ (c_X7_hear l D cI cZ am M (xs ((nI i) + 1).toNatClampNeg) _ hw) (cwV0 hW mV_X7_hear ml_L_129 ⟨Nat.le_of_ble_eq_true rfl, Nat.le_of_ble_eq_true rfl⟩) (preV0 (Bs := lwB cI cZ ad am X0 X1 X2 X3 X4 X5 X6 U7 X8 M) 0 rfl rfl hK hN hP hD [10] rfl rfl) rfl rfl hl.1 rfl (lv_room (Nat.le_of_ble_eq_true rfl)) dL_law_990 ⟨Nat.le_of_ble_eq_true rfl, Nat.le_of_ble_eq_true rfl⟩) hP hD hS [10] rfl rfl (fun _ => rfl) (fun v9 u9 H locs hq hP hD hS => ?_)
  obtain ⟨q, rfl, hw⟩ := hq
  obtain ⟨N, rfl⟩ : ∃ z, z = u9 := ⟨_, rfl⟩
  have hP : va_P D classes (jn (lwB cI cZ ad am X0 X1 X2 X3 X4 X5 X6 U7 X8 N)) H := hP
  have hD : va_D (lwA s) (jn (lwB cI cZ ad am X0 X1 X2 X3 X4 X5 X6 U7 X8 N)) := hD
  refine W.eq (g2 := F0 m 993 ls [.int q, .int r]) rfl ?_
  refine lv_icmp_eq (tgt := 1200) hx hb dL_law_993 (by decide) (fun _ => ?_) (fun c9 => absurd hw.1 c9)
  exact kont X0 X1 X2 X3 X4 X5 X6 U7 X8 N _ _ _ hw.2 hP hD hS (lv_sub hl [0, 1, 2, 3] rfl)
set_option maxHeartbeats 4000000 in
set_option maxRecDepth 100000 in
theorem law_case_28 {Inv : InvT} {p : Program} {l : Launch} {e : Env} {s : State} {m : MethodId} {below : List Frame} {meth : Method} {c : Code} {b L : Nat} {xs : Nat → Int32} (sim : Sim_undo Inv) (hL : L ≤ 320) (C0 : lw_At p s m meth c b L xs) (D : va_G) (cI cZ : ClassId) (ad am : Nat → Nat) (i : Nat) (h5 : i + 5 ≤ L) (hK : va_K D classes (tysOf cI cZ) s) (hN : NW s) (kont : LCont Inv p l e s m b below meth c D cI cZ ad am i)
    (X0 : St) (X1 : St) (X2 : St) (X3 : St) (X4 : (Nat → Int32)) (X5 : St) (X6 : St) (X7 : St) (X8 : St) (M : St) (H : Heap) (locs : List Loc) (ls : Array Slot) (hI : Inv X0 X1 X2 X3 X4 X5 X6 X7 X8 M) (hP : va_P D classes (jn (lwB cI cZ ad am X0 X1 X2 X3 X4 X5 X6 X7 X8 M)) H) (hD : va_D (lwA s) (jn (lwB cI cZ ad am X0 X1 X2 X3 X4 X5 X6 X7 X8 M))) (hS : va_S (lwA s) s.heap H locs) (hl : lv_has ls 4 [(0, .ref b), (1, .ref (ad 0)), (2, .ref (am 0)), (3, .int (nI i))]) : LW p l e s m b below meth c H locs 998 ls [] := by
  obtain ⟨hx, hb, hr, hml, hown, hts, hX, hbl, hlocks, hgv⟩ := C0
  have hW := WT_lw hts
  have hbA : ¬ lwA s b := Nat.not_le.mpr hbl
  refine lv_aload_n hx hb dL_law_998 rfl (lv_at hl 1 rfl) ?_
  have hw := sim X0 X1 X2 X3 X4 X5 X6 X7 X8 M hI
  refine callW (Bs := lwB cI cZ ad am X0 X1 X2 X3 X4 X5 X6 X7 X8 M) (va_runV (As := []) (rest := []) ⟨hx, hb, hml, hown, hW⟩ (c_X6_undo l D cI cZ ad X0 X1  _ hw) (cwV0 hW mV_X6_undo ml_L_130 ⟨Nat.le_of_ble_eq_true rfl, Nat.le_of_ble_eq_true rfl⟩) (preV0 (Bs := lwB cI cZ ad am X0 X1 X2 X3 X4 X5 X6 X7 X8 M) 0 rfl rfl hK hN hP hD [0, 1, 2] rfl rfl) rfl rfl hl.1 rfl (lv_room (Nat.le_of_ble_eq_true rfl)) dL_law_999 ⟨Nat.le_of_ble_eq_true rfl, Nat.le_of_ble_eq_true rfl⟩) hP hD hS [0, 1, 2] rfl rfl (fun _ => rfl) (fun v9 u9 H locs hq hP hD hS => ?_)
  obtain ⟨r, rfl, hw⟩ := hq
  obtain ⟨U1, rfl⟩ : ∃ z, z = u9 := ⟨_, rfl⟩
  have hP : va_P D classes (jn (lwB cI cZ ad am X0 U1 X2 X3 X4 X5 X6 X7 X8 M)) H := hP
  have hD : va_D (lwA s) (jn (lwB cI cZ ad am X0 U1 X2 X3 X4 X5 X6 X7 X8 M)) := hD
  refine W.eq (g2 := F0 m 1002 ls [.int r]) rfl ?_
  refine lv_aload_n hx hb dL_law_1002 rfl (lv_at hl 2 rfl) ?_
  refine callR (va_runV (As := []) (rest := [.int r]) ⟨hx, hb, hml, hown, hW⟩ (c_X7_undo l D cI cZ am M  _ hw) (cwV0 hW mV_X7_undo ml_L_133 ⟨Nat.le_of_ble_eq_true rfl, Nat.le_of_ble_eq_true rfl⟩) (preV0 (Bs := lwB cI cZ ad am X0 U1 X2 X3 X4 X5 X6 X7 X8 M) 0 rfl rfl hK hN hP hD [10] rfl rfl) rfl rfl hl.1 rfl (lv_room (Nat.le_of_ble_eq_true rfl)) dL_law_1003 ⟨Nat.le_of_ble_eq_true rfl, Nat.le_of_ble_eq_true rfl⟩) (fun v9 hq => ?_)
  obtain ⟨q, rfl, hw⟩ := hq
  refine W.eq (g2 := F0 m 1006 ls [.int q, .int r]) rfl ?_
  refine lv_icmp_eq (tgt := 1200) hx hb dL_law_1006 (by decide) (fun _ => ?_) (fun c9 => absurd hw.1 c9)
  exact kont X0 U1 X2 X3 X4 X5 X6 X7 X8 M _ _ _ hw.2 hP hD hS (lv_sub hl [0, 1, 2, 3] rfl)
set_option maxHeartbeats 4000000 in
set_option maxRecDepth 100000 in
theorem law_case_29 {Inv : InvT} {p : Program} {l : Launch} {e : Env} {s : State} {m : MethodId} {below : List Frame} {meth : Method} {c : Code} {b L : Nat} {xs : Nat → Int32} (sim : Sim_marriages Inv) (hL : L ≤ 320) (C0 : lw_At p s m meth c b L xs) (D : va_G) (cI cZ : ClassId) (ad am : Nat → Nat) (i : Nat) (h5 : i + 5 ≤ L) (hK : va_K D classes (tysOf cI cZ) s) (hN : NW s) (kont : LCont Inv p l e s m b below meth c D cI cZ ad am i)
    (X0 : St) (X1 : St) (X2 : St) (X3 : St) (X4 : (Nat → Int32)) (X5 : St) (X6 : St) (X7 : St) (X8 : St) (M : St) (H : Heap) (locs : List Loc) (ls : Array Slot) (hI : Inv X0 X1 X2 X3 X4 X5 X6 X7 X8 M) (hP : va_P D classes (jn (lwB cI cZ ad am X0 X1 X2 X3 X4 X5 X6 X7 X8 M)) H) (hD : va_D (lwA s) (jn (lwB cI cZ ad am X0 X1 X2 X3 X4 X5 X6 X7 X8 M))) (hS : va_S (lwA s) s.heap H locs) (hl : lv_has ls 4 [(0, .ref b), (1, .ref (ad 0)), (2, .ref (am 0)), (3, .int (nI i))]) : LW p l e s m b below meth c H locs 1011 ls [] := by
  obtain ⟨hx, hb, hr, hml, hown, hts, hX, hbl, hlocks, hgv⟩ := C0
  have hW := WT_lw hts
  have hbA : ¬ lwA s b := Nat.not_le.mpr hbl
  refine lv_aload_n hx hb dL_law_1011 rfl (lv_at hl 1 rfl) ?_
  refine lv_aload_n hx hb dL_law_1012 rfl (lv_at hl 0 rfl) ?_
  refine lv_iload_n hx hb dL_law_1013 rfl (lv_at hl 3 rfl) ?_
  refine lv_iconst (v := 1) hx hb dL_law_1014 (by decide) ?_
  refine lv_iadd hx hb dL_law_1015 ?_
  refine va_sld hx hb hX hbl hbA hS (lw_ix (k := 1) (by decide) h5 (by decide) hL) dL_law_1016 ?_
  have hw := sim X0 X1 X2 X3 X4 X5 X6 X7 X8 M (xs ((nI i) + 1).toNatClampNeg) hI
  refine callW (Bs := lwB cI cZ ad am X0 X1 X2 X3 X4 X5 X6 X7 X8 M) (va_runV (As := [.int (xs ((nI i) + 1).toNatClampNeg)]) (rest := []) ⟨hx, hb, hml, hown, hW⟩ (c_X6_marriages l D cI cZ ad X0 X8 (xs ((nI i) + 1).toNatClampNeg) _ hw) (cwV0 hW mV_X6_marriages ml_L_134 ⟨Nat.le_of_ble_eq_true rfl, Nat.le_of_ble_eq_true rfl⟩) (preV0 (Bs := lwB cI cZ ad am X0 X1 X2 X3 X4 X5 X6 X7 X8 M) 0 rfl rfl hK hN hP hD [0, 1, 9] rfl rfl) rfl rfl hl.1 rfl (lv_room (Nat.le_of_ble_eq_true rfl)) dL_law_1017 ⟨Nat.le_of_ble_eq_true rfl, Nat.le_of_ble_eq_true rfl⟩) hP hD hS [0, 1, 9] rfl rfl (fun _ => rfl) (fun v9 u9 H locs hq hP hD hS => ?_)
  obtain ⟨r, rfl, hw⟩ := hq
  obtain ⟨U8, rfl⟩ : ∃ z, z = u9 := ⟨_, rfl⟩
  have hP : va_P D classes (jn (lwB cI cZ ad am X0 X1 X2 X3 X4 X5 X6 X7 U8 M)) H := hP
  have hD : va_D (lwA s) (jn (lwB cI cZ ad am X0 X1 X2 X3 X4 X5 X6 X7 U8 M)) := hD
  refine W.eq (g2 := F0 m 1020 ls [.int r]) rfl ?_
  refine lv_aload_n hx hb dL_law_1020 rfl (lv_at hl 2 rfl) ?_
  refine lv_aload_n hx hb dL_law_1021 rfl (lv_at hl 0 rfl) ?_
  refine lv_iload_n hx hb dL_law_1022 rfl (lv_at hl 3 rfl) ?_
  refine lv_iconst (v := 1) hx hb dL_law_1023 (by decide) ?_
  refine lv_iadd hx hb dL_law_1024 ?_
  refine va_sld hx hb hX hbl hbA hS (lw_ix (k := 1) (by decide) h5 (by decide) hL) dL_law_1025 ?_
  refine callR (va_runV (As := [.int (xs ((nI i) + 1).toNatClampNeg)]) (rest := [.int r]) ⟨hx, hb, hml, hown, hW⟩ (c_X7_marriages l D cI cZ am M (xs ((nI i) + 1).toNatClampNeg) _ hw) (cwV0 hW mV_X7_marriages ml_L_137 ⟨Nat.le_of_ble_eq_true rfl, Nat.le_of_ble_eq_true rfl⟩) (preV0 (Bs := lwB cI cZ ad am X0 X1 X2 X3 X4 X5 X6 X7 U8 M) 0 rfl rfl hK hN hP hD [10] rfl rfl) rfl rfl hl.1 rfl (lv_room (Nat.le_of_ble_eq_true rfl)) dL_law_1026 ⟨Nat.le_of_ble_eq_true rfl, Nat.le_of_ble_eq_true rfl⟩) (fun v9 hq => ?_)
  obtain ⟨q, rfl, hw⟩ := hq
  refine W.eq (g2 := F0 m 1029 ls [.int q, .int r]) rfl ?_
  refine lv_icmp_eq (tgt := 1200) hx hb dL_law_1029 (by decide) (fun _ => ?_) (fun c9 => absurd hw.1 c9)
  exact kont X0 X1 X2 X3 X4 X5 X6 X7 U8 M _ _ _ hw.2 hP hD hS (lv_sub hl [0, 1, 2, 3] rfl)
set_option maxHeartbeats 4000000 in
set_option maxRecDepth 100000 in
theorem law_case_30 {Inv : InvT} {p : Program} {l : Launch} {e : Env} {s : State} {m : MethodId} {below : List Frame} {meth : Method} {c : Code} {b L : Nat} {xs : Nat → Int32} (sim : Sim_deaths Inv) (hL : L ≤ 320) (C0 : lw_At p s m meth c b L xs) (D : va_G) (cI cZ : ClassId) (ad am : Nat → Nat) (i : Nat) (h5 : i + 5 ≤ L) (hK : va_K D classes (tysOf cI cZ) s) (hN : NW s) (kont : LCont Inv p l e s m b below meth c D cI cZ ad am i)
    (X0 : St) (X1 : St) (X2 : St) (X3 : St) (X4 : (Nat → Int32)) (X5 : St) (X6 : St) (X7 : St) (X8 : St) (M : St) (H : Heap) (locs : List Loc) (ls : Array Slot) (hI : Inv X0 X1 X2 X3 X4 X5 X6 X7 X8 M) (hP : va_P D classes (jn (lwB cI cZ ad am X0 X1 X2 X3 X4 X5 X6 X7 X8 M)) H) (hD : va_D (lwA s) (jn (lwB cI cZ ad am X0 X1 X2 X3 X4 X5 X6 X7 X8 M))) (hS : va_S (lwA s) s.heap H locs) (hl : lv_has ls 4 [(0, .ref b), (1, .ref (ad 0)), (2, .ref (am 0)), (3, .int (nI i))]) : LW p l e s m b below meth c H locs 1034 ls [] := by
  obtain ⟨hx, hb, hr, hml, hown, hts, hX, hbl, hlocks, hgv⟩ := C0
  have hW := WT_lw hts
  have hbA : ¬ lwA s b := Nat.not_le.mpr hbl
  refine lv_aload_n hx hb dL_law_1034 rfl (lv_at hl 1 rfl) ?_
  refine lv_aload_n hx hb dL_law_1035 rfl (lv_at hl 0 rfl) ?_
  refine lv_iload_n hx hb dL_law_1036 rfl (lv_at hl 3 rfl) ?_
  refine lv_iconst (v := 1) hx hb dL_law_1037 (by decide) ?_
  refine lv_iadd hx hb dL_law_1038 ?_
  refine va_sld hx hb hX hbl hbA hS (lw_ix (k := 1) (by decide) h5 (by decide) hL) dL_law_1039 ?_
  refine lv_aload_n hx hb dL_law_1040 rfl (lv_at hl 0 rfl) ?_
  refine lv_iload_n hx hb dL_law_1041 rfl (lv_at hl 3 rfl) ?_
  refine lv_iconst (v := 2) hx hb dL_law_1042 (by decide) ?_
  refine lv_iadd hx hb dL_law_1043 ?_
  refine va_sld hx hb hX hbl hbA hS (lw_ix (k := 2) (by decide) h5 (by decide) hL) dL_law_1044 ?_
  refine lv_aload_n hx hb dL_law_1045 rfl (lv_at hl 0 rfl) ?_
  refine lv_iload_n hx hb dL_law_1046 rfl (lv_at hl 3 rfl) ?_
  refine lv_iconst (v := 3) hx hb dL_law_1047 (by decide) ?_
  refine lv_iadd hx hb dL_law_1048 ?_
  refine va_sld hx hb hX hbl hbA hS (lw_ix (k := 3) (by decide) h5 (by decide) hL) dL_law_1049 ?_
  refine lv_aload_n hx hb dL_law_1050 rfl (lv_at hl 0 rfl) ?_
  refine lv_iload_n hx hb dL_law_1051 rfl (lv_at hl 3 rfl) ?_
  refine lv_iconst (v := 4) hx hb dL_law_1052 (by decide) ?_
  refine lv_iadd hx hb dL_law_1053 ?_
  refine va_sld hx hb hX hbl hbA hS (lw_ix (k := 4) (by decide) h5 (by decide) hL) dL_law_1054 ?_
  have hw := sim X0 X1 X2 X3 X4 X5 X6 X7 X8 M (xs ((nI i) + 1).toNatClampNeg) (xs ((nI i) + 2).toNatClampNeg) (xs ((nI i) + 3).toNatClampNeg) (xs ((nI i) + 4).toNatClampNeg) hI
  refine callR (va_runV (As := [.int (xs ((nI i) + 1).toNatClampNeg), .int (xs ((nI i) + 2).toNatClampNeg), .int (xs ((nI i) + 3).toNatClampNeg), .int (xs ((nI i) + 4).toNatClampNeg)]) (rest := []) ⟨hx, hb, hml, hown, hW⟩ (c_X6_deaths l D cI cZ ad X0 (xs ((nI i) + 1).toNatClampNeg) (xs ((nI i) + 2).toNatClampNeg) (xs ((nI i) + 3).toNatClampNeg) (xs ((nI i) + 4).toNatClampNeg) _ hw) (cwV0 hW mV_X6_deaths ml_L_138 ⟨Nat.le_of_ble_eq_true rfl, Nat.le_of_ble_eq_true rfl⟩) (preV0 (Bs := lwB cI cZ ad am X0 X1 X2 X3 X4 X5 X6 X7 X8 M) 0 rfl rfl hK hN hP hD [0, 1] rfl rfl) rfl rfl hl.1 rfl (lv_room (Nat.le_of_ble_eq_true rfl)) dL_law_1055 ⟨Nat.le_of_ble_eq_true rfl, Nat.le_of_ble_eq_true rfl⟩) (fun v9 hq => ?_)
  obtain ⟨r, rfl, hw⟩ := hq
  refine W.eq (g2 := F0 m 1058 ls [.long r]) rfl ?_
  refine lv_aload_n hx hb dL_law_1058 rfl (lv_at hl 2 rfl) ?_
  refine lv_aload_n hx hb dL_law_1059 rfl (lv_at hl 0 rfl) ?_
  refine lv_iload_n hx hb dL_law_1060 rfl (lv_at hl 3 rfl) ?_
  refine lv_iconst (v := 1) hx hb dL_law_1061 (by decide) ?_
  refine lv_iadd hx hb dL_law_1062 ?_
  refine va_sld hx hb hX hbl hbA hS (lw_ix (k := 1) (by decide) h5 (by decide) hL) dL_law_1063 ?_
  refine lv_aload_n hx hb dL_law_1064 rfl (lv_at hl 0 rfl) ?_
  refine lv_iload_n hx hb dL_law_1065 rfl (lv_at hl 3 rfl) ?_
  refine lv_iconst (v := 2) hx hb dL_law_1066 (by decide) ?_
  refine lv_iadd hx hb dL_law_1067 ?_
  refine va_sld hx hb hX hbl hbA hS (lw_ix (k := 2) (by decide) h5 (by decide) hL) dL_law_1068 ?_
  refine lv_aload_n hx hb dL_law_1069 rfl (lv_at hl 0 rfl) ?_
  refine lv_iload_n hx hb dL_law_1070 rfl (lv_at hl 3 rfl) ?_
  refine lv_iconst (v := 3) hx hb dL_law_1071 (by decide) ?_
  refine lv_iadd hx hb dL_law_1072 ?_
  refine va_sld hx hb hX hbl hbA hS (lw_ix (k := 3) (by decide) h5 (by decide) hL) dL_law_1073 ?_
  refine lv_aload_n hx hb dL_law_1074 rfl (lv_at hl 0 rfl) ?_
  refine lv_iload_n hx hb dL_law_1075 rfl (lv_at hl 3 rfl) ?_
  refine lv_iconst (v := 4) hx hb dL_law_1076 (by decide) ?_
  refine lv_iadd hx hb dL_law_1077 ?_
  refine va_sld hx hb hX hbl hbA hS (lw_ix (k := 4) (by decide) h5 (by decide) hL) dL_law_1078 ?_
  refine callR (va_runV (As := [.int (xs ((nI i) + 1).toNatClampNeg), .int (xs ((nI i) + 2).toNatClampNeg), .int (xs ((nI i) + 3).toNatClampNeg), .int (xs ((nI i) + 4).toNatClampNeg)]) (rest := [.long r]) ⟨hx, hb, hml, hown, hW⟩ (c_X7_deaths l D cI cZ am M (xs ((nI i) + 1).toNatClampNeg) (xs ((nI i) + 2).toNatClampNeg) (xs ((nI i) + 3).toNatClampNeg) (xs ((nI i) + 4).toNatClampNeg) _ hw) (cwV0 hW mV_X7_deaths ml_L_142 ⟨Nat.le_of_ble_eq_true rfl, Nat.le_of_ble_eq_true rfl⟩) (preV0 (Bs := lwB cI cZ ad am X0 X1 X2 X3 X4 X5 X6 X7 X8 M) 0 rfl rfl hK hN hP hD [10] rfl rfl) rfl rfl hl.1 rfl (lv_room (Nat.le_of_ble_eq_true rfl)) dL_law_1079 ⟨Nat.le_of_ble_eq_true rfl, Nat.le_of_ble_eq_true rfl⟩) (fun v9 hq => ?_)
  obtain ⟨q, rfl, hw⟩ := hq
  refine W.eq (g2 := F0 m 1082 ls [.long q, .long r]) rfl ?_
  refine W.lcmp hx hb dL_law_1082 ?_
  refine lv_if_eq (tgt := 1200) hx hb dL_law_1083 (by decide) (fun _ => ?_) (fun c9 => absurd (by rw [hw.1]; exact lg_self _) c9)
  exact kont X0 X1 X2 X3 X4 X5 X6 X7 X8 M _ _ _ hw.2 hP hD hS (lv_sub hl [0, 1, 2, 3] rfl)
set_option maxHeartbeats 4000000 in
set_option maxRecDepth 100000 in
theorem law_case_31 {Inv : InvT} {p : Program} {l : Launch} {e : Env} {s : State} {m : MethodId} {below : List Frame} {meth : Method} {c : Code} {b L : Nat} {xs : Nat → Int32} (sim : Sim_year Inv) (hL : L ≤ 320) (C0 : lw_At p s m meth c b L xs) (D : va_G) (cI cZ : ClassId) (ad am : Nat → Nat) (i : Nat) (h5 : i + 5 ≤ L) (hK : va_K D classes (tysOf cI cZ) s) (hN : NW s) (kont : LCont Inv p l e s m b below meth c D cI cZ ad am i)
    (X0 : St) (X1 : St) (X2 : St) (X3 : St) (X4 : (Nat → Int32)) (X5 : St) (X6 : St) (X7 : St) (X8 : St) (M : St) (H : Heap) (locs : List Loc) (ls : Array Slot) (hI : Inv X0 X1 X2 X3 X4 X5 X6 X7 X8 M) (hP : va_P D classes (jn (lwB cI cZ ad am X0 X1 X2 X3 X4 X5 X6 X7 X8 M)) H) (hD : va_D (lwA s) (jn (lwB cI cZ ad am X0 X1 X2 X3 X4 X5 X6 X7 X8 M))) (hS : va_S (lwA s) s.heap H locs) (hl : lv_has ls 4 [(0, .ref b), (1, .ref (ad 0)), (2, .ref (am 0)), (3, .int (nI i))]) : LW p l e s m b below meth c H locs 1088 ls [] := by
  obtain ⟨hx, hb, hr, hml, hown, hts, hX, hbl, hlocks, hgv⟩ := C0
  have hW := WT_lw hts
  have hbA : ¬ lwA s b := Nat.not_le.mpr hbl
  refine lv_aload_n hx hb dL_law_1088 rfl (lv_at hl 1 rfl) ?_
  refine lv_aload_n hx hb dL_law_1089 rfl (lv_at hl 0 rfl) ?_
  refine lv_iload_n hx hb dL_law_1090 rfl (lv_at hl 3 rfl) ?_
  refine lv_iconst (v := 1) hx hb dL_law_1091 (by decide) ?_
  refine lv_iadd hx hb dL_law_1092 ?_
  refine va_sld hx hb hX hbl hbA hS (lw_ix (k := 1) (by decide) h5 (by decide) hL) dL_law_1093 ?_
  refine lv_aload_n hx hb dL_law_1094 rfl (lv_at hl 0 rfl) ?_
  refine lv_iload_n hx hb dL_law_1095 rfl (lv_at hl 3 rfl) ?_
  refine lv_iconst (v := 2) hx hb dL_law_1096 (by decide) ?_
  refine lv_iadd hx hb dL_law_1097 ?_
  refine va_sld hx hb hX hbl hbA hS (lw_ix (k := 2) (by decide) h5 (by decide) hL) dL_law_1098 ?_
  refine lv_aload_n hx hb dL_law_1099 rfl (lv_at hl 0 rfl) ?_
  refine lv_iload_n hx hb dL_law_1100 rfl (lv_at hl 3 rfl) ?_
  refine lv_iconst (v := 3) hx hb dL_law_1101 (by decide) ?_
  refine lv_iadd hx hb dL_law_1102 ?_
  refine va_sld hx hb hX hbl hbA hS (lw_ix (k := 3) (by decide) h5 (by decide) hL) dL_law_1103 ?_
  have hw := sim X0 X1 X2 X3 X4 X5 X6 X7 X8 M (xs ((nI i) + 1).toNatClampNeg) (xs ((nI i) + 2).toNatClampNeg) (xs ((nI i) + 3).toNatClampNeg) hI
  refine callW (Bs := lwB cI cZ ad am X0 X1 X2 X3 X4 X5 X6 X7 X8 M) (va_runV (As := [.int (xs ((nI i) + 1).toNatClampNeg), .int (xs ((nI i) + 2).toNatClampNeg), .int (xs ((nI i) + 3).toNatClampNeg)]) (rest := []) ⟨hx, hb, hml, hown, hW⟩ (c_X6_year l D cI cZ ad X0 X1 (xs ((nI i) + 1).toNatClampNeg) (xs ((nI i) + 2).toNatClampNeg) (xs ((nI i) + 3).toNatClampNeg) _ hw) (cwV0 hW mV_X6_year ml_L_143 ⟨Nat.le_of_ble_eq_true rfl, Nat.le_of_ble_eq_true rfl⟩) (preV0 (Bs := lwB cI cZ ad am X0 X1 X2 X3 X4 X5 X6 X7 X8 M) 0 rfl rfl hK hN hP hD [0, 1, 2] rfl rfl) rfl rfl hl.1 rfl (lv_room (Nat.le_of_ble_eq_true rfl)) dL_law_1104 ⟨Nat.le_of_ble_eq_true rfl, Nat.le_of_ble_eq_true rfl⟩) hP hD hS [0, 1, 2] rfl rfl (fun _ => rfl) (fun v9 u9 H locs hq hP hD hS => ?_)
  obtain ⟨r, rfl, hw⟩ := hq
  obtain ⟨U1, rfl⟩ : ∃ z, z = u9 := ⟨_, rfl⟩
  have hP : va_P D classes (jn (lwB cI cZ ad am X0 U1 X2 X3 X4 X5 X6 X7 X8 M)) H := hP
  have hD : va_D (lwA s) (jn (lwB cI cZ ad am X0 U1 X2 X3 X4 X5 X6 X7 X8 M)) := hD
  refine W.eq (g2 := F0 m 1107 ls [.int r]) rfl ?_
  refine lv_aload_n hx hb dL_law_1107 rfl (lv_at hl 2 rfl) ?_
  refine lv_aload_n hx hb dL_law_1108 rfl (lv_at hl 0 rfl) ?_
  refine lv_iload_n hx hb dL_law_1109 rfl (lv_at hl 3 rfl) ?_
  refine lv_iconst (v := 1) hx hb dL_law_1110 (by decide) ?_
  refine lv_iadd hx hb dL_law_1111 ?_
  refine va_sld hx hb hX hbl hbA hS (lw_ix (k := 1) (by decide) h5 (by decide) hL) dL_law_1112 ?_
  refine lv_aload_n hx hb dL_law_1113 rfl (lv_at hl 0 rfl) ?_
  refine lv_iload_n hx hb dL_law_1114 rfl (lv_at hl 3 rfl) ?_
  refine lv_iconst (v := 2) hx hb dL_law_1115 (by decide) ?_
  refine lv_iadd hx hb dL_law_1116 ?_
  refine va_sld hx hb hX hbl hbA hS (lw_ix (k := 2) (by decide) h5 (by decide) hL) dL_law_1117 ?_
  refine lv_aload_n hx hb dL_law_1118 rfl (lv_at hl 0 rfl) ?_
  refine lv_iload_n hx hb dL_law_1119 rfl (lv_at hl 3 rfl) ?_
  refine lv_iconst (v := 3) hx hb dL_law_1120 (by decide) ?_
  refine lv_iadd hx hb dL_law_1121 ?_
  refine va_sld hx hb hX hbl hbA hS (lw_ix (k := 3) (by decide) h5 (by decide) hL) dL_law_1122 ?_
  refine callW (Bs := lwB cI cZ ad am X0 U1 X2 X3 X4 X5 X6 X7 X8 M) (va_runV (As := [.int (xs ((nI i) + 1).toNatClampNeg), .int (xs ((nI i) + 2).toNatClampNeg), .int (xs ((nI i) + 3).toNatClampNeg)]) (rest := [.int r]) ⟨hx, hb, hml, hown, hW⟩ (c_X7_year l D cI cZ am M (xs ((nI i) + 1).toNatClampNeg) (xs ((nI i) + 2).toNatClampNeg) (xs ((nI i) + 3).toNatClampNeg) _ hw) (cwV0 hW mV_X7_year ml_L_146 ⟨Nat.le_of_ble_eq_true rfl, Nat.le_of_ble_eq_true rfl⟩) (preV0 (Bs := lwB cI cZ ad am X0 U1 X2 X3 X4 X5 X6 X7 X8 M) 0 rfl rfl hK hN hP hD [10] rfl rfl) rfl rfl hl.1 rfl (lv_room (Nat.le_of_ble_eq_true rfl)) dL_law_1123 ⟨Nat.le_of_ble_eq_true rfl, Nat.le_of_ble_eq_true rfl⟩) hP hD hS [10] rfl rfl (fun _ => rfl) (fun v9 u9 H locs hq hP hD hS => ?_)
  obtain ⟨q, rfl, hw⟩ := hq
  obtain ⟨N, rfl⟩ : ∃ z, z = u9 := ⟨_, rfl⟩
  have hP : va_P D classes (jn (lwB cI cZ ad am X0 U1 X2 X3 X4 X5 X6 X7 X8 N)) H := hP
  have hD : va_D (lwA s) (jn (lwB cI cZ ad am X0 U1 X2 X3 X4 X5 X6 X7 X8 N)) := hD
  refine W.eq (g2 := F0 m 1126 ls [.int q, .int r]) rfl ?_
  refine lv_icmp_eq (tgt := 1200) hx hb dL_law_1126 (by decide) (fun _ => ?_) (fun c9 => absurd hw.1 c9)
  exact kont X0 U1 X2 X3 X4 X5 X6 X7 X8 N _ _ _ hw.2 hP hD hS (lv_sub hl [0, 1, 2, 3] rfl)
set_option maxHeartbeats 4000000 in
set_option maxRecDepth 100000 in
theorem law_case_32 {Inv : InvT} {p : Program} {l : Launch} {e : Env} {s : State} {m : MethodId} {below : List Frame} {meth : Method} {c : Code} {b L : Nat} {xs : Nat → Int32} (sim : Sim_image Inv) (hL : L ≤ 320) (C0 : lw_At p s m meth c b L xs) (D : va_G) (cI cZ : ClassId) (ad am : Nat → Nat) (i : Nat) (h5 : i + 5 ≤ L) (hK : va_K D classes (tysOf cI cZ) s) (hN : NW s) (kont : LCont Inv p l e s m b below meth c D cI cZ ad am i)
    (X0 : St) (X1 : St) (X2 : St) (X3 : St) (X4 : (Nat → Int32)) (X5 : St) (X6 : St) (X7 : St) (X8 : St) (M : St) (H : Heap) (locs : List Loc) (ls : Array Slot) (hI : Inv X0 X1 X2 X3 X4 X5 X6 X7 X8 M) (hP : va_P D classes (jn (lwB cI cZ ad am X0 X1 X2 X3 X4 X5 X6 X7 X8 M)) H) (hD : va_D (lwA s) (jn (lwB cI cZ ad am X0 X1 X2 X3 X4 X5 X6 X7 X8 M))) (hS : va_S (lwA s) s.heap H locs) (hl : lv_has ls 4 [(0, .ref b), (1, .ref (ad 0)), (2, .ref (am 0)), (3, .int (nI i))]) : LW p l e s m b below meth c H locs 1131 ls [] := by
  obtain ⟨hx, hb, hr, hml, hown, hts, hX, hbl, hlocks, hgv⟩ := C0
  have hW := WT_lw hts
  have hbA : ¬ lwA s b := Nat.not_le.mpr hbl
  refine lv_aload_n hx hb dL_law_1131 rfl (lv_at hl 1 rfl) ?_
  refine lv_aload_n hx hb dL_law_1132 rfl (lv_at hl 0 rfl) ?_
  refine lv_iload_n hx hb dL_law_1133 rfl (lv_at hl 3 rfl) ?_
  refine lv_iconst (v := 1) hx hb dL_law_1134 (by decide) ?_
  refine lv_iadd hx hb dL_law_1135 ?_
  refine va_sld hx hb hX hbl hbA hS (lw_ix (k := 1) (by decide) h5 (by decide) hL) dL_law_1136 ?_
  have hw := sim X0 X1 X2 X3 X4 X5 X6 X7 X8 M (xs ((nI i) + 1).toNatClampNeg) hI
  refine callW (Bs := lwB cI cZ ad am X0 X1 X2 X3 X4 X5 X6 X7 X8 M) (va_runV (As := [.int (xs ((nI i) + 1).toNatClampNeg)]) (rest := []) ⟨hx, hb, hml, hown, hW⟩ (c_X6_image l D cI cZ ad X0 X2 X3 X4 (xs ((nI i) + 1).toNatClampNeg) _ hw) (cwV0 hW mV_X6_image ml_L_147 ⟨Nat.le_of_ble_eq_true rfl, Nat.le_of_ble_eq_true rfl⟩) (preV0 (Bs := lwB cI cZ ad am X0 X1 X2 X3 X4 X5 X6 X7 X8 M) 0 rfl rfl hK hN hP hD [0, 1, 3, 4, 5] rfl rfl) rfl rfl hl.1 rfl (lv_room (Nat.le_of_ble_eq_true rfl)) dL_law_1137 ⟨Nat.le_of_ble_eq_true rfl, Nat.le_of_ble_eq_true rfl⟩) hP hD hS [0, 1, 3, 4, 5] rfl rfl (fun _ => rfl) (fun v9 u9 H locs hq hP hD hS => ?_)
  obtain ⟨r, rfl, hw⟩ := hq
  obtain ⟨U2, U3, U4⟩ := u9
  have hP : va_P D classes (jn (lwB cI cZ ad am X0 X1 U2 U3 U4 X5 X6 X7 X8 M)) H := hP
  have hD : va_D (lwA s) (jn (lwB cI cZ ad am X0 X1 U2 U3 U4 X5 X6 X7 X8 M)) := hD
  dsimp only at hw
  refine W.eq (g2 := F0 m 1140 ls [.int r]) rfl ?_
  refine lv_aload_n hx hb dL_law_1140 rfl (lv_at hl 2 rfl) ?_
  refine lv_aload_n hx hb dL_law_1141 rfl (lv_at hl 0 rfl) ?_
  refine lv_iload_n hx hb dL_law_1142 rfl (lv_at hl 3 rfl) ?_
  refine lv_iconst (v := 1) hx hb dL_law_1143 (by decide) ?_
  refine lv_iadd hx hb dL_law_1144 ?_
  refine va_sld hx hb hX hbl hbA hS (lw_ix (k := 1) (by decide) h5 (by decide) hL) dL_law_1145 ?_
  refine callW (Bs := lwB cI cZ ad am X0 X1 U2 U3 U4 X5 X6 X7 X8 M) (va_runV (As := [.int (xs ((nI i) + 1).toNatClampNeg)]) (rest := [.int r]) ⟨hx, hb, hml, hown, hW⟩ (c_X7_image l D cI cZ am M (xs ((nI i) + 1).toNatClampNeg) _ hw) (cwV0 hW mV_X7_image ml_L_150 ⟨Nat.le_of_ble_eq_true rfl, Nat.le_of_ble_eq_true rfl⟩) (preV0 (Bs := lwB cI cZ ad am X0 X1 U2 U3 U4 X5 X6 X7 X8 M) 0 rfl rfl hK hN hP hD [10] rfl rfl) rfl rfl hl.1 rfl (lv_room (Nat.le_of_ble_eq_true rfl)) dL_law_1146 ⟨Nat.le_of_ble_eq_true rfl, Nat.le_of_ble_eq_true rfl⟩) hP hD hS [10] rfl rfl (fun _ => rfl) (fun v9 u9 H locs hq hP hD hS => ?_)
  obtain ⟨q, rfl, hw⟩ := hq
  obtain ⟨N, rfl⟩ : ∃ z, z = u9 := ⟨_, rfl⟩
  have hP : va_P D classes (jn (lwB cI cZ ad am X0 X1 U2 U3 U4 X5 X6 X7 X8 N)) H := hP
  have hD : va_D (lwA s) (jn (lwB cI cZ ad am X0 X1 U2 U3 U4 X5 X6 X7 X8 N)) := hD
  refine W.eq (g2 := F0 m 1149 ls [.int q, .int r]) rfl ?_
  refine lv_icmp_eq (tgt := 1200) hx hb dL_law_1149 (by decide) (fun _ => ?_) (fun c9 => absurd hw.1 c9)
  exact kont X0 X1 U2 U3 U4 X5 X6 X7 X8 N _ _ _ hw.2 hP hD hS (lv_sub hl [0, 1, 2, 3] rfl)
set_option maxHeartbeats 4000000 in
set_option maxRecDepth 100000 in
theorem law_case_33 {Inv : InvT} {p : Program} {l : Launch} {e : Env} {s : State} {m : MethodId} {below : List Frame} {meth : Method} {c : Code} {b L : Nat} {xs : Nat → Int32} (sim : Sim_restore Inv) (hL : L ≤ 320) (C0 : lw_At p s m meth c b L xs) (D : va_G) (cI cZ : ClassId) (ad am : Nat → Nat) (i : Nat) (h5 : i + 5 ≤ L) (hK : va_K D classes (tysOf cI cZ) s) (hN : NW s) (kont : LCont Inv p l e s m b below meth c D cI cZ ad am i)
    (X0 : St) (X1 : St) (X2 : St) (X3 : St) (X4 : (Nat → Int32)) (X5 : St) (X6 : St) (X7 : St) (X8 : St) (M : St) (H : Heap) (locs : List Loc) (ls : Array Slot) (hI : Inv X0 X1 X2 X3 X4 X5 X6 X7 X8 M) (hP : va_P D classes (jn (lwB cI cZ ad am X0 X1 X2 X3 X4 X5 X6 X7 X8 M)) H) (hD : va_D (lwA s) (jn (lwB cI cZ ad am X0 X1 X2 X3 X4 X5 X6 X7 X8 M))) (hS : va_S (lwA s) s.heap H locs) (hl : lv_has ls 4 [(0, .ref b), (1, .ref (ad 0)), (2, .ref (am 0)), (3, .int (nI i))]) : LW p l e s m b below meth c H locs 1154 ls [] := by
  obtain ⟨hx, hb, hr, hml, hown, hts, hX, hbl, hlocks, hgv⟩ := C0
  have hW := WT_lw hts
  have hbA : ¬ lwA s b := Nat.not_le.mpr hbl
  refine lv_aload_n hx hb dL_law_1154 rfl (lv_at hl 1 rfl) ?_
  refine lv_aload_n hx hb dL_law_1155 rfl (lv_at hl 0 rfl) ?_
  refine lv_iload_n hx hb dL_law_1156 rfl (lv_at hl 3 rfl) ?_
  refine lv_iconst (v := 1) hx hb dL_law_1157 (by decide) ?_
  refine lv_iadd hx hb dL_law_1158 ?_
  refine va_sld hx hb hX hbl hbA hS (lw_ix (k := 1) (by decide) h5 (by decide) hL) dL_law_1159 ?_
  have hw := sim X0 X1 X2 X3 X4 X5 X6 X7 X8 M (xs ((nI i) + 1).toNatClampNeg) hI
  refine callW (Bs := lwB cI cZ ad am X0 X1 X2 X3 X4 X5 X6 X7 X8 M) (va_runV (As := [.int (xs ((nI i) + 1).toNatClampNeg)]) (rest := []) ⟨hx, hb, hml, hown, hW⟩ (c_X6_restore l D cI cZ ad X0 X2 X3 X4 (xs ((nI i) + 1).toNatClampNeg) _ hw) (cwV0 hW mV_X6_restore ml_L_151 ⟨Nat.le_of_ble_eq_true rfl, Nat.le_of_ble_eq_true rfl⟩) (preV0 (Bs := lwB cI cZ ad am X0 X1 X2 X3 X4 X5 X6 X7 X8 M) 0 rfl rfl hK hN hP hD [0, 1, 3, 4, 5] rfl rfl) rfl rfl hl.1 rfl (lv_room (Nat.le_of_ble_eq_true rfl)) dL_law_1160 ⟨Nat.le_of_ble_eq_true rfl, Nat.le_of_ble_eq_true rfl⟩) hP hD hS [0, 1, 3, 4, 5] rfl rfl (fun _ => rfl) (fun v9 u9 H locs hq hP hD hS => ?_)
  obtain ⟨r, rfl, hw⟩ := hq
  obtain ⟨U0, rfl⟩ : ∃ z, z = u9 := ⟨_, rfl⟩
  have hP : va_P D classes (jn (lwB cI cZ ad am U0 X1 X2 X3 X4 X5 X6 X7 X8 M)) H := hP
  have hD : va_D (lwA s) (jn (lwB cI cZ ad am U0 X1 X2 X3 X4 X5 X6 X7 X8 M)) := hD
  refine W.eq (g2 := F0 m 1163 ls [.int r]) rfl ?_
  refine lv_aload_n hx hb dL_law_1163 rfl (lv_at hl 2 rfl) ?_
  refine lv_aload_n hx hb dL_law_1164 rfl (lv_at hl 0 rfl) ?_
  refine lv_iload_n hx hb dL_law_1165 rfl (lv_at hl 3 rfl) ?_
  refine lv_iconst (v := 1) hx hb dL_law_1166 (by decide) ?_
  refine lv_iadd hx hb dL_law_1167 ?_
  refine va_sld hx hb hX hbl hbA hS (lw_ix (k := 1) (by decide) h5 (by decide) hL) dL_law_1168 ?_
  refine callW (Bs := lwB cI cZ ad am U0 X1 X2 X3 X4 X5 X6 X7 X8 M) (va_runV (As := [.int (xs ((nI i) + 1).toNatClampNeg)]) (rest := [.int r]) ⟨hx, hb, hml, hown, hW⟩ (c_X7_restore l D cI cZ am M (xs ((nI i) + 1).toNatClampNeg) _ hw) (cwV0 hW mV_X7_restore ml_L_154 ⟨Nat.le_of_ble_eq_true rfl, Nat.le_of_ble_eq_true rfl⟩) (preV0 (Bs := lwB cI cZ ad am U0 X1 X2 X3 X4 X5 X6 X7 X8 M) 0 rfl rfl hK hN hP hD [10] rfl rfl) rfl rfl hl.1 rfl (lv_room (Nat.le_of_ble_eq_true rfl)) dL_law_1169 ⟨Nat.le_of_ble_eq_true rfl, Nat.le_of_ble_eq_true rfl⟩) hP hD hS [10] rfl rfl (fun _ => rfl) (fun v9 u9 H locs hq hP hD hS => ?_)
  obtain ⟨q, rfl, hw⟩ := hq
  obtain ⟨N, rfl⟩ : ∃ z, z = u9 := ⟨_, rfl⟩
  have hP : va_P D classes (jn (lwB cI cZ ad am U0 X1 X2 X3 X4 X5 X6 X7 X8 N)) H := hP
  have hD : va_D (lwA s) (jn (lwB cI cZ ad am U0 X1 X2 X3 X4 X5 X6 X7 X8 N)) := hD
  refine W.eq (g2 := F0 m 1172 ls [.int q, .int r]) rfl ?_
  refine lv_icmp_eq (tgt := 1200) hx hb dL_law_1172 (by decide) (fun _ => ?_) (fun c9 => absurd hw.1 c9)
  exact kont U0 X1 X2 X3 X4 X5 X6 X7 X8 N _ _ _ hw.2 hP hD hS (lv_sub hl [0, 1, 2, 3] rfl)
set_option maxHeartbeats 4000000 in
set_option maxRecDepth 100000 in
theorem law_case_34 {Inv : InvT} {p : Program} {l : Launch} {e : Env} {s : State} {m : MethodId} {below : List Frame} {meth : Method} {c : Code} {b L : Nat} {xs : Nat → Int32} (sim : Sim_told Inv) (hL : L ≤ 320) (C0 : lw_At p s m meth c b L xs) (D : va_G) (cI cZ : ClassId) (ad am : Nat → Nat) (i : Nat) (h5 : i + 5 ≤ L) (hK : va_K D classes (tysOf cI cZ) s) (hN : NW s) (kont : LCont Inv p l e s m b below meth c D cI cZ ad am i)
    (X0 : St) (X1 : St) (X2 : St) (X3 : St) (X4 : (Nat → Int32)) (X5 : St) (X6 : St) (X7 : St) (X8 : St) (M : St) (H : Heap) (locs : List Loc) (ls : Array Slot) (hI : Inv X0 X1 X2 X3 X4 X5 X6 X7 X8 M) (hP : va_P D classes (jn (lwB cI cZ ad am X0 X1 X2 X3 X4 X5 X6 X7 X8 M)) H) (hD : va_D (lwA s) (jn (lwB cI cZ ad am X0 X1 X2 X3 X4 X5 X6 X7 X8 M))) (hS : va_S (lwA s) s.heap H locs) (hl : lv_has ls 4 [(0, .ref b), (1, .ref (ad 0)), (2, .ref (am 0)), (3, .int (nI i))]) : LW p l e s m b below meth c H locs 1177 ls [] := by
  obtain ⟨hx, hb, hr, hml, hown, hts, hX, hbl, hlocks, hgv⟩ := C0
  have hW := WT_lw hts
  have hbA : ¬ lwA s b := Nat.not_le.mpr hbl
  refine lv_aload_n hx hb dL_law_1177 rfl (lv_at hl 1 rfl) ?_
  refine lv_aload_n hx hb dL_law_1178 rfl (lv_at hl 0 rfl) ?_
  refine lv_iload_n hx hb dL_law_1179 rfl (lv_at hl 3 rfl) ?_
  refine lv_iconst (v := 1) hx hb dL_law_1180 (by decide) ?_
  refine lv_iadd hx hb dL_law_1181 ?_
  refine va_sld hx hb hX hbl hbA hS (lw_ix (k := 1) (by decide) h5 (by decide) hL) dL_law_1182 ?_
  have hw := sim X0 X1 X2 X3 X4 X5 X6 X7 X8 M (xs ((nI i) + 1).toNatClampNeg) hI
  refine callF (va_runV (As := [.int (xs ((nI i) + 1).toNatClampNeg)]) (rest := []) ⟨hx, hb, hml, hown, hW⟩ (c_X6_told l D cI cZ ad X0 X5 (xs ((nI i) + 1).toNatClampNeg) _ rfl) (cwV0 hW mV_X6_told ml_L_155 ⟨Nat.le_of_ble_eq_true rfl, Nat.le_of_ble_eq_true rfl⟩) (preV0 (Bs := lwB cI cZ ad am X0 X1 X2 X3 X4 X5 X6 X7 X8 M) 0 rfl rfl hK hN hP hD [0, 1, 6] rfl rfl) rfl rfl hl.1 rfl (lv_room (Nat.le_of_ble_eq_true rfl)) dL_law_1183 ⟨Nat.le_of_ble_eq_true rfl, Nat.le_of_ble_eq_true rfl⟩) ?_
  refine W.eq (g2 := F0 m 1186 ls [.int (F_X6_told X0 X5 (xs ((nI i) + 1).toNatClampNeg))]) rfl ?_
  refine lv_aload_n hx hb dL_law_1186 rfl (lv_at hl 2 rfl) ?_
  refine lv_aload_n hx hb dL_law_1187 rfl (lv_at hl 0 rfl) ?_
  refine lv_iload_n hx hb dL_law_1188 rfl (lv_at hl 3 rfl) ?_
  refine lv_iconst (v := 1) hx hb dL_law_1189 (by decide) ?_
  refine lv_iadd hx hb dL_law_1190 ?_
  refine va_sld hx hb hX hbl hbA hS (lw_ix (k := 1) (by decide) h5 (by decide) hL) dL_law_1191 ?_
  refine callR (va_runV (As := [.int (xs ((nI i) + 1).toNatClampNeg)]) (rest := [.int (F_X6_told X0 X5 (xs ((nI i) + 1).toNatClampNeg))]) ⟨hx, hb, hml, hown, hW⟩ (c_X7_told l D cI cZ am M (xs ((nI i) + 1).toNatClampNeg) _ hw) (cwV0 hW mV_X7_told ml_L_158 ⟨Nat.le_of_ble_eq_true rfl, Nat.le_of_ble_eq_true rfl⟩) (preV0 (Bs := lwB cI cZ ad am X0 X1 X2 X3 X4 X5 X6 X7 X8 M) 0 rfl rfl hK hN hP hD [10] rfl rfl) rfl rfl hl.1 rfl (lv_room (Nat.le_of_ble_eq_true rfl)) dL_law_1192 ⟨Nat.le_of_ble_eq_true rfl, Nat.le_of_ble_eq_true rfl⟩) (fun v9 hq => ?_)
  obtain ⟨q, rfl, hw⟩ := hq
  refine W.eq (g2 := F0 m 1195 ls [.int q, .int (F_X6_told X0 X5 (xs ((nI i) + 1).toNatClampNeg))]) rfl ?_
  refine lv_icmp_eq (tgt := 1200) hx hb dL_law_1195 (by decide) (fun _ => ?_) (fun c9 => absurd hw.1 c9)
  exact kont X0 X1 X2 X3 X4 X5 X6 X7 X8 M _ _ _ hw.2 hP hD hS (lv_sub hl [0, 1, 2, 3] rfl)
