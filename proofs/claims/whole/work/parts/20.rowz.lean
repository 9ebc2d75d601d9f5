-- laid by wip/whole/all.py: Row's contracts over the worlds that hold a Row
set_option maxRecDepth 100000 in
theorem c_X3_fill__deal_0 (l : Launch) (D : va_G) (cI cZ : ClassId) (ad : Nat → Nat) (o0 : Nat) (S0 : St) (x1 : Int32) (k : (Nat → Int32) → Prop) (hw : wp_X3_fill 6 (S0.2 0) x1 k) : KW l yX3_fill cX3_fill 3 none 0 0 D cI cZ [.ref (ad (o0 + 1)), .int x1] [dcells cI ad o0 S0] (fun v (u : (Nat → Int32)) => v = none ∧ k u) (fun u => [dcells cI ad o0 (sA S0 0 u)]) :=
  KW_sub (c_X3_fill l D cI cZ (ad (o0 + 1)) (ad (o0 + 2)) 6 (by decide) (S0.2 0) x1 k hw) [1, 2] rfl rfl (fun _ => rfl) _ (fun _ => rfl)
set_option maxRecDepth 100000 in
theorem c_X3_fill__round_7 (l : Launch) (D : va_G) (cI cZ : ClassId) (ad : Nat → Nat) (o0 : Nat) (S0 : St) (x1 : Int32) (k : (Nat → Int32) → Prop) (hw : wp_X3_fill 6 (S0.2 7) x1 k) : KW l yX3_fill cX3_fill 3 none 0 0 D cI cZ [.ref (ad (o0 + 1)), .int x1] [rcells cI ad o0 S0] (fun v (u : (Nat → Int32)) => v = none ∧ k u) (fun u => [rcells cI ad o0 (sA S0 7 u)]) :=
  KW_sub (c_X3_fill l D cI cZ (ad (o0 + 1)) (ad (o0 + 9)) 6 (by decide) (S0.2 7) x1 k hw) [1, 9] rfl rfl (fun _ => rfl) _ (fun _ => rfl)
set_option maxRecDepth 100000 in
theorem c_X3_fill__round_9 (l : Launch) (D : va_G) (cI cZ : ClassId) (ad : Nat → Nat) (o0 : Nat) (S0 : St) (x1 : Int32) (k : (Nat → Int32) → Prop) (hw : wp_X3_fill 6 (S0.2 9) x1 k) : KW l yX3_fill cX3_fill 3 none 0 0 D cI cZ [.ref (ad (o0 + 3)), .int x1] [rcells cI ad o0 S0] (fun v (u : (Nat → Int32)) => v = none ∧ k u) (fun u => [rcells cI ad o0 (sA S0 9 u)]) :=
  KW_sub (c_X3_fill l D cI cZ (ad (o0 + 3)) (ad (o0 + 11)) 6 (by decide) (S0.2 9) x1 k hw) [3, 11] rfl rfl (fun _ => rfl) _ (fun _ => rfl)
set_option maxRecDepth 100000 in
theorem c_X3_fill__round_10 (l : Launch) (D : va_G) (cI cZ : ClassId) (ad : Nat → Nat) (o0 : Nat) (S0 : St) (x1 : Int32) (k : (Nat → Int32) → Prop) (hw : wp_X3_fill 6 (S0.2 10) x1 k) : KW l yX3_fill cX3_fill 3 none 0 0 D cI cZ [.ref (ad (o0 + 4)), .int x1] [rcells cI ad o0 S0] (fun v (u : (Nat → Int32)) => v = none ∧ k u) (fun u => [rcells cI ad o0 (sA S0 10 u)]) :=
  KW_sub (c_X3_fill l D cI cZ (ad (o0 + 4)) (ad (o0 + 12)) 6 (by decide) (S0.2 10) x1 k hw) [4, 12] rfl rfl (fun _ => rfl) _ (fun _ => rfl)
set_option maxRecDepth 100000 in
theorem c_X3_fill__round_11 (l : Launch) (D : va_G) (cI cZ : ClassId) (ad : Nat → Nat) (o0 : Nat) (S0 : St) (x1 : Int32) (k : (Nat → Int32) → Prop) (hw : wp_X3_fill 6 (S0.2 11) x1 k) : KW l yX3_fill cX3_fill 3 none 0 0 D cI cZ [.ref (ad (o0 + 5)), .int x1] [rcells cI ad o0 S0] (fun v (u : (Nat → Int32)) => v = none ∧ k u) (fun u => [rcells cI ad o0 (sA S0 11 u)]) :=
  KW_sub (c_X3_fill l D cI cZ (ad (o0 + 5)) (ad (o0 + 13)) 6 (by decide) (S0.2 11) x1 k hw) [5, 13] rfl rfl (fun _ => rfl) _ (fun _ => rfl)
set_option maxRecDepth 100000 in
theorem c_X3_fill__round_12 (l : Launch) (D : va_G) (cI cZ : ClassId) (ad : Nat → Nat) (o0 : Nat) (S0 : St) (x1 : Int32) (k : (Nat → Int32) → Prop) (hw : wp_X3_fill 6 (S0.2 12) x1 k) : KW l yX3_fill cX3_fill 3 none 0 0 D cI cZ [.ref (ad (o0 + 6)), .int x1] [rcells cI ad o0 S0] (fun v (u : (Nat → Int32)) => v = none ∧ k u) (fun u => [rcells cI ad o0 (sA S0 12 u)]) :=
  KW_sub (c_X3_fill l D cI cZ (ad (o0 + 6)) (ad (o0 + 14)) 6 (by decide) (S0.2 12) x1 k hw) [6, 14] rfl rfl (fun _ => rfl) _ (fun _ => rfl)
set_option maxRecDepth 100000 in
theorem c_X3_get__deal_0 (l : Launch) (D : va_G) (cI cZ : ClassId) (ad : Nat → Nat) (o0 : Nat) (S0 : St) (x1 : Int32) (r9 : Int32) (hw : F_X3_get 6 (S0.2 0) x1 = r9) : KF l yX3_get cX3_get 2 (some .int) 0 0 D cI cZ [.ref (ad (o0 + 1)), .int x1] [dcells cI ad o0 S0] (some (.int r9)) :=
  KF_sub (c_X3_get l D cI cZ (ad (o0 + 1)) (ad (o0 + 2)) 6 (by decide) (S0.2 0) x1 r9 hw) [1, 2] rfl rfl
set_option maxRecDepth 100000 in
theorem c_X3_get__pad_0 (l : Launch) (D : va_G) (cI cZ : ClassId) (ad : Nat → Nat) (o0 : Nat) (S0 : St) (x1 : Int32) (r9 : Int32) (hw : F_X3_get 60 (S0.2 0) x1 = r9) : KF l yX3_get cX3_get 2 (some .int) 0 0 D cI cZ [.ref (ad (o0 + 1)), .int x1] [pcells cI ad o0 S0] (some (.int r9)) :=
  KF_sub (c_X3_get l D cI cZ (ad (o0 + 1)) (ad (o0 + 2)) 60 (by decide) (S0.2 0) x1 r9 hw) [1, 2] rfl rfl
set_option maxRecDepth 100000 in
theorem c_X3_get__round_7 (l : Launch) (D : va_G) (cI cZ : ClassId) (ad : Nat → Nat) (o0 : Nat) (S0 : St) (x1 : Int32) (r9 : Int32) (hw : F_X3_get 6 (S0.2 7) x1 = r9) : KF l yX3_get cX3_get 2 (some .int) 0 0 D cI cZ [.ref (ad (o0 + 1)), .int x1] [rcells cI ad o0 S0] (some (.int r9)) :=
  KF_sub (c_X3_get l D cI cZ (ad (o0 + 1)) (ad (o0 + 9)) 6 (by decide) (S0.2 7) x1 r9 hw) [1, 9] rfl rfl
set_option maxRecDepth 100000 in
theorem c_X3_get__round_8 (l : Launch) (D : va_G) (cI cZ : ClassId) (ad : Nat → Nat) (o0 : Nat) (S0 : St) (x1 : Int32) (r9 : Int32) (hw : F_X3_get 6 (S0.2 8) x1 = r9) : KF l yX3_get cX3_get 2 (some .int) 0 0 D cI cZ [.ref (ad (o0 + 2)), .int x1] [rcells cI ad o0 S0] (some (.int r9)) :=
  KF_sub (c_X3_get l D cI cZ (ad (o0 + 2)) (ad (o0 + 10)) 6 (by decide) (S0.2 8) x1 r9 hw) [2, 10] rfl rfl
set_option maxRecDepth 100000 in
theorem c_X3_get__round_9 (l : Launch) (D : va_G) (cI cZ : ClassId) (ad : Nat → Nat) (o0 : Nat) (S0 : St) (x1 : Int32) (r9 : Int32) (hw : F_X3_get 6 (S0.2 9) x1 = r9) : KF l yX3_get cX3_get 2 (some .int) 0 0 D cI cZ [.ref (ad (o0 + 3)), .int x1] [rcells cI ad o0 S0] (some (.int r9)) :=
  KF_sub (c_X3_get l D cI cZ (ad (o0 + 3)) (ad (o0 + 11)) 6 (by decide) (S0.2 9) x1 r9 hw) [3, 11] rfl rfl
set_option maxRecDepth 100000 in
theorem c_X3_get__round_10 (l : Launch) (D : va_G) (cI cZ : ClassId) (ad : Nat → Nat) (o0 : Nat) (S0 : St) (x1 : Int32) (r9 : Int32) (hw : F_X3_get 6 (S0.2 10) x1 = r9) : KF l yX3_get cX3_get 2 (some .int) 0 0 D cI cZ [.ref (ad (o0 + 4)), .int x1] [rcells cI ad o0 S0] (some (.int r9)) :=
  KF_sub (c_X3_get l D cI cZ (ad (o0 + 4)) (ad (o0 + 12)) 6 (by decide) (S0.2 10) x1 r9 hw) [4, 12] rfl rfl
set_option maxRecDepth 100000 in
theorem c_X3_get__round_11 (l : Launch) (D : va_G) (cI cZ : ClassId) (ad : Nat → Nat) (o0 : Nat) (S0 : St) (x1 : Int32) (r9 : Int32) (hw : F_X3_get 6 (S0.2 11) x1 = r9) : KF l yX3_get cX3_get 2 (some .int) 0 0 D cI cZ [.ref (ad (o0 + 5)), .int x1] [rcells cI ad o0 S0] (some (.int r9)) :=
  KF_sub (c_X3_get l D cI cZ (ad (o0 + 5)) (ad (o0 + 13)) 6 (by decide) (S0.2 11) x1 r9 hw) [5, 13] rfl rfl
set_option maxRecDepth 100000 in
theorem c_X3_get__round_12 (l : Launch) (D : va_G) (cI cZ : ClassId) (ad : Nat → Nat) (o0 : Nat) (S0 : St) (x1 : Int32) (r9 : Int32) (hw : F_X3_get 6 (S0.2 12) x1 = r9) : KF l yX3_get cX3_get 2 (some .int) 0 0 D cI cZ [.ref (ad (o0 + 6)), .int x1] [rcells cI ad o0 S0] (some (.int r9)) :=
  KF_sub (c_X3_get l D cI cZ (ad (o0 + 6)) (ad (o0 + 14)) 6 (by decide) (S0.2 12) x1 r9 hw) [6, 14] rfl rfl
set_option maxRecDepth 100000 in
theorem c_X3_get__round_13 (l : Launch) (D : va_G) (cI cZ : ClassId) (ad : Nat → Nat) (o0 : Nat) (S0 : St) (x1 : Int32) (r9 : Int32) (hw : F_X3_get 8 (S0.2 13) x1 = r9) : KF l yX3_get cX3_get 2 (some .int) 0 0 D cI cZ [.ref (ad (o0 + 7)), .int x1] [rcells cI ad o0 S0] (some (.int r9)) :=
  KF_sub (c_X3_get l D cI cZ (ad (o0 + 7)) (ad (o0 + 15)) 8 (by decide) (S0.2 13) x1 r9 hw) [7, 15] rfl rfl
set_option maxRecDepth 100000 in
theorem c_X3_get__round_14 (l : Launch) (D : va_G) (cI cZ : ClassId) (ad : Nat → Nat) (o0 : Nat) (S0 : St) (x1 : Int32) (r9 : Int32) (hw : F_X3_get 8 (S0.2 14) x1 = r9) : KF l yX3_get cX3_get 2 (some .int) 0 0 D cI cZ [.ref (ad (o0 + 8)), .int x1] [rcells cI ad o0 S0] (some (.int r9)) :=
  KF_sub (c_X3_get l D cI cZ (ad (o0 + 8)) (ad (o0 + 16)) 8 (by decide) (S0.2 14) x1 r9 hw) [8, 16] rfl rfl
set_option maxRecDepth 100000 in
theorem c_X3_get__wed_0 (l : Launch) (D : va_G) (cI cZ : ClassId) (ad : Nat → Nat) (o0 : Nat) (S0 : St) (x1 : Int32) (r9 : Int32) (hw : F_X3_get 6 (S0.2 0) x1 = r9) : KF l yX3_get cX3_get 2 (some .int) 0 0 D cI cZ [.ref (ad (o0 + 1)), .int x1] [wcells cI ad o0 S0] (some (.int r9)) :=
  KF_sub (c_X3_get l D cI cZ (ad (o0 + 1)) (ad (o0 + 3)) 6 (by decide) (S0.2 0) x1 r9 hw) [1, 3] rfl rfl
set_option maxRecDepth 100000 in
theorem c_X3_get__wed_1 (l : Launch) (D : va_G) (cI cZ : ClassId) (ad : Nat → Nat) (o0 : Nat) (S0 : St) (x1 : Int32) (r9 : Int32) (hw : F_X3_get 64 (S0.2 1) x1 = r9) : KF l yX3_get cX3_get 2 (some .int) 0 0 D cI cZ [.ref (ad (o0 + 2)), .int x1] [wcells cI ad o0 S0] (some (.int r9)) :=
  KF_sub (c_X3_get l D cI cZ (ad (o0 + 2)) (ad (o0 + 4)) 64 (by decide) (S0.2 1) x1 r9 hw) [2, 4] rfl rfl
set_option maxRecDepth 100000 in
theorem c_X3_put__deal_0 (l : Launch) (D : va_G) (cI cZ : ClassId) (ad : Nat → Nat) (o0 : Nat) (S0 : St) (x1 : Int32) (x2 : Int32) (k : (Nat → Int32) → Prop) (hw : wp_X3_put 6 (S0.2 0) x1 x2 k) : KW l yX3_put cX3_put 3 none 0 0 D cI cZ [.ref (ad (o0 + 1)), .int x1, .int x2] [dcells cI ad o0 S0] (fun v (u : (Nat → Int32)) => v = none ∧ k u) (fun u => [dcells cI ad o0 (sA S0 0 u)]) :=
  KW_sub (c_X3_put l D cI cZ (ad (o0 + 1)) (ad (o0 + 2)) 6 (by decide) (S0.2 0) x1 x2 k hw) [1, 2] rfl rfl (fun _ => rfl) _ (fun _ => rfl)
set_option maxRecDepth 100000 in
theorem c_X3_put__pad_0 (l : Launch) (D : va_G) (cI cZ : ClassId) (ad : Nat → Nat) (o0 : Nat) (S0 : St) (x1 : Int32) (x2 : Int32) (k : (Nat → Int32) → Prop) (hw : wp_X3_put 60 (S0.2 0) x1 x2 k) : KW l yX3_put cX3_put 3 none 0 0 D cI cZ [.ref (ad (o0 + 1)), .int x1, .int x2] [pcells cI ad o0 S0] (fun v (u : (Nat → Int32)) => v = none ∧ k u) (fun u => [pcells cI ad o0 (sA S0 0 u)]) :=
  KW_sub (c_X3_put l D cI cZ (ad (o0 + 1)) (ad (o0 + 2)) 60 (by decide) (S0.2 0) x1 x2 k hw) [1, 2] rfl rfl (fun _ => rfl) _ (fun _ => rfl)
set_option maxRecDepth 100000 in
theorem c_X3_put__round_7 (l : Launch) (D : va_G) (cI cZ : ClassId) (ad : Nat → Nat) (o0 : Nat) (S0 : St) (x1 : Int32) (x2 : Int32) (k : (Nat → Int32) → Prop) (hw : wp_X3_put 6 (S0.2 7) x1 x2 k) : KW l yX3_put cX3_put 3 none 0 0 D cI cZ [.ref (ad (o0 + 1)), .int x1, .int x2] [rcells cI ad o0 S0] (fun v (u : (Nat → Int32)) => v = none ∧ k u) (fun u => [rcells cI ad o0 (sA S0 7 u)]) :=
  KW_sub (c_X3_put l D cI cZ (ad (o0 + 1)) (ad (o0 + 9)) 6 (by decide) (S0.2 7) x1 x2 k hw) [1, 9] rfl rfl (fun _ => rfl) _ (fun _ => rfl)
set_option maxRecDepth 100000 in
theorem c_X3_put__round_8 (l : Launch) (D : va_G) (cI cZ : ClassId) (ad : Nat → Nat) (o0 : Nat) (S0 : St) (x1 : Int32) (x2 : Int32) (k : (Nat → Int32) → Prop) (hw : wp_X3_put 6 (S0.2 8) x1 x2 k) : KW l yX3_put cX3_put 3 none 0 0 D cI cZ [.ref (ad (o0 + 2)), .int x1, .int x2] [rcells cI ad o0 S0] (fun v (u : (Nat → Int32)) => v = none ∧ k u) (fun u => [rcells cI ad o0 (sA S0 8 u)]) :=
  KW_sub (c_X3_put l D cI cZ (ad (o0 + 2)) (ad (o0 + 10)) 6 (by decide) (S0.2 8) x1 x2 k hw) [2, 10] rfl rfl (fun _ => rfl) _ (fun _ => rfl)
set_option maxRecDepth 100000 in
theorem c_X3_put__round_9 (l : Launch) (D : va_G) (cI cZ : ClassId) (ad : Nat → Nat) (o0 : Nat) (S0 : St) (x1 : Int32) (x2 : Int32) (k : (Nat → Int32) → Prop) (hw : wp_X3_put 6 (S0.2 9) x1 x2 k) : KW l yX3_put cX3_put 3 none 0 0 D cI cZ [.ref (ad (o0 + 3)), .int x1, .int x2] [rcells cI ad o0 S0] (fun v (u : (Nat → Int32)) => v = none ∧ k u) (fun u => [rcells cI ad o0 (sA S0 9 u)]) :=
  KW_sub (c_X3_put l D cI cZ (ad (o0 + 3)) (ad (o0 + 11)) 6 (by decide) (S0.2 9) x1 x2 k hw) [3, 11] rfl rfl (fun _ => rfl) _ (fun _ => rfl)
set_option maxRecDepth 100000 in
theorem c_X3_put__round_10 (l : Launch) (D : va_G) (cI cZ : ClassId) (ad : Nat → Nat) (o0 : Nat) (S0 : St) (x1 : Int32) (x2 : Int32) (k : (Nat → Int32) → Prop) (hw : wp_X3_put 6 (S0.2 10) x1 x2 k) : KW l yX3_put cX3_put 3 none 0 0 D cI cZ [.ref (ad (o0 + 4)), .int x1, .int x2] [rcells cI ad o0 S0] (fun v (u : (Nat → Int32)) => v = none ∧ k u) (fun u => [rcells cI ad o0 (sA S0 10 u)]) :=
  KW_sub (c_X3_put l D cI cZ (ad (o0 + 4)) (ad (o0 + 12)) 6 (by decide) (S0.2 10) x1 x2 k hw) [4, 12] rfl rfl (fun _ => rfl) _ (fun _ => rfl)
set_option maxRecDepth 100000 in
theorem c_X3_put__round_11 (l : Launch) (D : va_G) (cI cZ : ClassId) (ad : Nat → Nat) (o0 : Nat) (S0 : St) (x1 : Int32) (x2 : Int32) (k : (Nat → Int32) → Prop) (hw : wp_X3_put 6 (S0.2 11) x1 x2 k) : KW l yX3_put cX3_put 3 none 0 0 D cI cZ [.ref (ad (o0 + 5)), .int x1, .int x2] [rcells cI ad o0 S0] (fun v (u : (Nat → Int32)) => v = none ∧ k u) (fun u => [rcells cI ad o0 (sA S0 11 u)]) :=
  KW_sub (c_X3_put l D cI cZ (ad (o0 + 5)) (ad (o0 + 13)) 6 (by decide) (S0.2 11) x1 x2 k hw) [5, 13] rfl rfl (fun _ => rfl) _ (fun _ => rfl)
set_option maxRecDepth 100000 in
theorem c_X3_put__round_12 (l : Launch) (D : va_G) (cI cZ : ClassId) (ad : Nat → Nat) (o0 : Nat) (S0 : St) (x1 : Int32) (x2 : Int32) (k : (Nat → Int32) → Prop) (hw : wp_X3_put 6 (S0.2 12) x1 x2 k) : KW l yX3_put cX3_put 3 none 0 0 D cI cZ [.ref (ad (o0 + 6)), .int x1, .int x2] [rcells cI ad o0 S0] (fun v (u : (Nat → Int32)) => v = none ∧ k u) (fun u => [rcells cI ad o0 (sA S0 12 u)]) :=
  KW_sub (c_X3_put l D cI cZ (ad (o0 + 6)) (ad (o0 + 14)) 6 (by decide) (S0.2 12) x1 x2 k hw) [6, 14] rfl rfl (fun _ => rfl) _ (fun _ => rfl)
set_option maxRecDepth 100000 in
theorem c_X3_put__round_13 (l : Launch) (D : va_G) (cI cZ : ClassId) (ad : Nat → Nat) (o0 : Nat) (S0 : St) (x1 : Int32) (x2 : Int32) (k : (Nat → Int32) → Prop) (hw : wp_X3_put 8 (S0.2 13) x1 x2 k) : KW l yX3_put cX3_put 3 none 0 0 D cI cZ [.ref (ad (o0 + 7)), .int x1, .int x2] [rcells cI ad o0 S0] (fun v (u : (Nat → Int32)) => v = none ∧ k u) (fun u => [rcells cI ad o0 (sA S0 13 u)]) :=
  KW_sub (c_X3_put l D cI cZ (ad (o0 + 7)) (ad (o0 + 15)) 8 (by decide) (S0.2 13) x1 x2 k hw) [7, 15] rfl rfl (fun _ => rfl) _ (fun _ => rfl)
set_option maxRecDepth 100000 in
theorem c_X3_put__round_14 (l : Launch) (D : va_G) (cI cZ : ClassId) (ad : Nat → Nat) (o0 : Nat) (S0 : St) (x1 : Int32) (x2 : Int32) (k : (Nat → Int32) → Prop) (hw : wp_X3_put 8 (S0.2 14) x1 x2 k) : KW l yX3_put cX3_put 3 none 0 0 D cI cZ [.ref (ad (o0 + 8)), .int x1, .int x2] [rcells cI ad o0 S0] (fun v (u : (Nat → Int32)) => v = none ∧ k u) (fun u => [rcells cI ad o0 (sA S0 14 u)]) :=
  KW_sub (c_X3_put l D cI cZ (ad (o0 + 8)) (ad (o0 + 16)) 8 (by decide) (S0.2 14) x1 x2 k hw) [8, 16] rfl rfl (fun _ => rfl) _ (fun _ => rfl)
set_option maxRecDepth 100000 in
theorem c_X3_put__wed_0 (l : Launch) (D : va_G) (cI cZ : ClassId) (ad : Nat → Nat) (o0 : Nat) (S0 : St) (x1 : Int32) (x2 : Int32) (k : (Nat → Int32) → Prop) (hw : wp_X3_put 6 (S0.2 0) x1 x2 k) : KW l yX3_put cX3_put 3 none 0 0 D cI cZ [.ref (ad (o0 + 1)), .int x1, .int x2] [wcells cI ad o0 S0] (fun v (u : (Nat → Int32)) => v = none ∧ k u) (fun u => [wcells cI ad o0 (sA S0 0 u)]) :=
  KW_sub (c_X3_put l D cI cZ (ad (o0 + 1)) (ad (o0 + 3)) 6 (by decide) (S0.2 0) x1 x2 k hw) [1, 3] rfl rfl (fun _ => rfl) _ (fun _ => rfl)
set_option maxRecDepth 100000 in
theorem c_X3_put__wed_1 (l : Launch) (D : va_G) (cI cZ : ClassId) (ad : Nat → Nat) (o0 : Nat) (S0 : St) (x1 : Int32) (x2 : Int32) (k : (Nat → Int32) → Prop) (hw : wp_X3_put 64 (S0.2 1) x1 x2 k) : KW l yX3_put cX3_put 3 none 0 0 D cI cZ [.ref (ad (o0 + 2)), .int x1, .int x2] [wcells cI ad o0 S0] (fun v (u : (Nat → Int32)) => v = none ∧ k u) (fun u => [wcells cI ad o0 (sA S0 1 u)]) :=
  KW_sub (c_X3_put l D cI cZ (ad (o0 + 2)) (ad (o0 + 4)) 64 (by decide) (S0.2 1) x1 x2 k hw) [2, 4] rfl rfl (fun _ => rfl) _ (fun _ => rfl)
set_option maxRecDepth 100000 in
theorem c_X3_takeOver__round_7 (l : Launch) (D : va_G) (cI cZ : ClassId) (ad : Nat → Nat) (o0 : Nat) (S0 : St) (o1 : Nat) (S1 : St)  (k : (Nat → Int32) → Prop) (hw : wp_X3_takeOver 6 (S0.2 7) (S1.2 7)  k) : KW l yX3_takeOver cX3_takeOver 3 none 1 21 D cI cZ [.ref (ad (o0 + 1)), .ref (ad (o1 + 1))] [rcells cI ad o0 S0, rcells cI ad o1 S1] (fun v (u : (Nat → Int32)) => v = none ∧ k u) (fun u => [rcells cI ad o0 (sA S0 7 u), rcells cI ad o1 S1]) :=
  KW_sub (c_X3_takeOver l D cI cZ (ad (o0 + 1)) (ad (o0 + 9)) 6 (by decide) (S0.2 7) (ad (o1 + 1)) (ad (o1 + 9)) (S1.2 7)  k hw) [1, 9, 18, 26] rfl rfl (fun _ => rfl) _ (fun _ => rfl)
set_option maxRecDepth 100000 in
theorem c_X3_takeOver__round_8 (l : Launch) (D : va_G) (cI cZ : ClassId) (ad : Nat → Nat) (o0 : Nat) (S0 : St) (o1 : Nat) (S1 : St)  (k : (Nat → Int32) → Prop) (hw : wp_X3_takeOver 6 (S0.2 8) (S1.2 8)  k) : KW l yX3_takeOver cX3_takeOver 3 none 1 21 D cI cZ [.ref (ad (o0 + 2)), .ref (ad (o1 + 2))] [rcells cI ad o0 S0, rcells cI ad o1 S1] (fun v (u : (Nat → Int32)) => v = none ∧ k u) (fun u => [rcells cI ad o0 (sA S0 8 u), rcells cI ad o1 S1]) :=
  KW_sub (c_X3_takeOver l D cI cZ (ad (o0 + 2)) (ad (o0 + 10)) 6 (by decide) (S0.2 8) (ad (o1 + 2)) (ad (o1 + 10)) (S1.2 8)  k hw) [2, 10, 19, 27] rfl rfl (fun _ => rfl) _ (fun _ => rfl)
set_option maxRecDepth 100000 in
theorem c_X3_takeOver__round_9 (l : Launch) (D : va_G) (cI cZ : ClassId) (ad : Nat → Nat) (o0 : Nat) (S0 : St) (o1 : Nat) (S1 : St)  (k : (Nat → Int32) → Prop) (hw : wp_X3_takeOver 6 (S0.2 9) (S1.2 9)  k) : KW l yX3_takeOver cX3_takeOver 3 none 1 21 D cI cZ [.ref (ad (o0 + 3)), .ref (ad (o1 + 3))] [rcells cI ad o0 S0, rcells cI ad o1 S1] (fun v (u : (Nat → Int32)) => v = none ∧ k u) (fun u => [rcells cI ad o0 (sA S0 9 u), rcells cI ad o1 S1]) :=
  KW_sub (c_X3_takeOver l D cI cZ (ad (o0 + 3)) (ad (o0 + 11)) 6 (by decide) (S0.2 9) (ad (o1 + 3)) (ad (o1 + 11)) (S1.2 9)  k hw) [3, 11, 20, 28] rfl rfl (fun _ => rfl) _ (fun _ => rfl)
set_option maxRecDepth 100000 in
theorem c_X3_takeOver__round_11 (l : Launch) (D : va_G) (cI cZ : ClassId) (ad : Nat → Nat) (o0 : Nat) (S0 : St) (o1 : Nat) (S1 : St)  (k : (Nat → Int32) → Prop) (hw : wp_X3_takeOver 6 (S0.2 11) (S1.2 11)  k) : KW l yX3_takeOver cX3_takeOver 3 none 1 21 D cI cZ [.ref (ad (o0 + 5)), .ref (ad (o1 + 5))] [rcells cI ad o0 S0, rcells cI ad o1 S1] (fun v (u : (Nat → Int32)) => v = none ∧ k u) (fun u => [rcells cI ad o0 (sA S0 11 u), rcells cI ad o1 S1]) :=
  KW_sub (c_X3_takeOver l D cI cZ (ad (o0 + 5)) (ad (o0 + 13)) 6 (by decide) (S0.2 11) (ad (o1 + 5)) (ad (o1 + 13)) (S1.2 11)  k hw) [5, 13, 22, 30] rfl rfl (fun _ => rfl) _ (fun _ => rfl)
set_option maxRecDepth 100000 in
theorem c_X3_takeOver__round_12 (l : Launch) (D : va_G) (cI cZ : ClassId) (ad : Nat → Nat) (o0 : Nat) (S0 : St) (o1 : Nat) (S1 : St)  (k : (Nat → Int32) → Prop) (hw : wp_X3_takeOver 6 (S0.2 12) (S1.2 12)  k) : KW l yX3_takeOver cX3_takeOver 3 none 1 21 D cI cZ [.ref (ad (o0 + 6)), .ref (ad (o1 + 6))] [rcells cI ad o0 S0, rcells cI ad o1 S1] (fun v (u : (Nat → Int32)) => v = none ∧ k u) (fun u => [rcells cI ad o0 (sA S0 12 u), rcells cI ad o1 S1]) :=
  KW_sub (c_X3_takeOver l D cI cZ (ad (o0 + 6)) (ad (o0 + 14)) 6 (by decide) (S0.2 12) (ad (o1 + 6)) (ad (o1 + 14)) (S1.2 12)  k hw) [6, 14, 23, 31] rfl rfl (fun _ => rfl) _ (fun _ => rfl)
set_option maxRecDepth 100000 in
theorem c_X3_takeOver__round_13 (l : Launch) (D : va_G) (cI cZ : ClassId) (ad : Nat → Nat) (o0 : Nat) (S0 : St) (o1 : Nat) (S1 : St)  (k : (Nat → Int32) → Prop) (hw : wp_X3_takeOver 8 (S0.2 13) (S1.2 13)  k) : KW l yX3_takeOver cX3_takeOver 3 none 1 21 D cI cZ [.ref (ad (o0 + 7)), .ref (ad (o1 + 7))] [rcells cI ad o0 S0, rcells cI ad o1 S1] (fun v (u : (Nat → Int32)) => v = none ∧ k u) (fun u => [rcells cI ad o0 (sA S0 13 u), rcells cI ad o1 S1]) :=
  KW_sub (c_X3_takeOver l D cI cZ (ad (o0 + 7)) (ad (o0 + 15)) 8 (by decide) (S0.2 13) (ad (o1 + 7)) (ad (o1 + 15)) (S1.2 13)  k hw) [7, 15, 24, 32] rfl rfl (fun _ => rfl) _ (fun _ => rfl)
set_option maxRecDepth 100000 in
theorem c_X3_takeOver__round_14 (l : Launch) (D : va_G) (cI cZ : ClassId) (ad : Nat → Nat) (o0 : Nat) (S0 : St) (o1 : Nat) (S1 : St)  (k : (Nat → Int32) → Prop) (hw : wp_X3_takeOver 8 (S0.2 14) (S1.2 14)  k) : KW l yX3_takeOver cX3_takeOver 3 none 1 21 D cI cZ [.ref (ad (o0 + 8)), .ref (ad (o1 + 8))] [rcells cI ad o0 S0, rcells cI ad o1 S1] (fun v (u : (Nat → Int32)) => v = none ∧ k u) (fun u => [rcells cI ad o0 (sA S0 14 u), rcells cI ad o1 S1]) :=
  KW_sub (c_X3_takeOver l D cI cZ (ad (o0 + 8)) (ad (o0 + 16)) 8 (by decide) (S0.2 14) (ad (o1 + 8)) (ad (o1 + 16)) (S1.2 14)  k hw) [8, 16, 25, 33] rfl rfl (fun _ => rfl) _ (fun _ => rfl)
