-- laid by wip/whole/mkctor.py: the constructors
def PreC (D : va_G) (cI cZ : ClassId) (av : List Value) (ws : va_W) (sz : Nat) : Array Value → State → Prop :=
  va_Pc av (fun U => U.heap.size = sz ∧ va_P D classes ws U.heap ∧ va_K D classes (tysOf cI cZ) U ∧ va_D (fun _ => True) ws ∧ NW U)
def QC {S : Type} (post : S → Prop) (D : va_G) (cl : S → va_W) (ws : va_W) (sz : Nat) : Array Value → State → Outcome → State → Prop :=
  fun _ st oc t => (∃ u : S, oc = .returned none ∧ post u ∧ va_P D classes (cl u) t.heap ∧ va_D (va_A ws sz) (cl u)) ∧ va_F (va_A ws sz) st t
/-- a constructor: the cell that it is given, and those that it makes -/
def KC {S : Type} (l : Launch) (y : MethodName) (b : ByteArray) (nL fr lo mc ms : Nat) (D : va_G) (cI cZ : ClassId) (av : List Value) (ws : va_W) (sz : Nat) (post : S → Prop) (cl : S → va_W) : Prop :=
  Met l y (Cond.code y b nL none :: WT) { frames := fr, cells := mc, slots := ms, locals := lo } (PreC D cI cZ av ws sz) (QC post D cl ws sz) mc ms (va_A ws sz)
theorem Met.ofC {l : Launch} {y : MethodName} {b : ByteArray} {nL fr lo mc ms : Nat} {D : va_G} {cI cZ : ClassId} {av : List Value} {ws : va_W} {sz : Nat} {Qc : Array Value → State → Outcome → State → Prop} {free : Addr → Prop}
    (hy : plainFor y = true) (hn : (lg_sl av).length ≤ nL)
    (body : ∀ (p : Program) (e : Env) (s : State) (m : MethodId) (below : List Frame) (meth : Method) (c : Code), Ent p s m av.toArray meth c b nL none y.cls D cI cZ ws → meth.name = y.name → s.heap.size = sz → ∀ ls : Array Slot, lv_has ls nL (lv_args 0 av) →
      W p l e { frames := fr, cells := mc, slots := ms, locals := lo } s m av.toArray below meth c s.heap [] 0 0 (MQ below Qc av.toArray s mc ms free) (F0 m 0 ls [])) :
    Met l y (Cond.code y b nL none :: WT) { frames := fr, cells := mc, slots := ms, locals := lo } (PreC D cI cZ av ws sz) Qc mc ms free := by
  refine va_MetF (cc := b) (maxL := nL) (ret := none) hy rfl ?_
  intro p e s m args below meth c s₁ B hml hv
  obtain ⟨rfl, hz, hP, hK, hD, hN⟩ := hv
  have hts := atoms_spec (ws := Cond.code y b nL none :: WT) B.pre
  have hl := lv_entry av (n := nL) hn
  rw [lg_entry_eq]
  exact body p e s m below meth c ⟨B.exec, B.bytes, B.returns, hml, fun w h => hts w (List.mem_cons_of_mem _ h), findClass_of_methodNamed B.named, B.notSynchronized, hP, hK, hD.own, hN⟩ (name_of_methodNamed B.named B.method).1 hz _ hl
theorem PreC.blind {D : va_G} {cI cZ : ClassId} {av : List Value} {ws : va_W} {sz : Nat} : FrameBlind (PreC D cI cZ av ws sz) := by
  intro a U g mk q
  obtain ⟨q0, qz, qP, qK, qD, qN⟩ := q
  exact ⟨q0, qz, qP, va_K.moved (u := U) (U := U.calling g mk a) (Vm.Alike.refl U.vm) qK, qD, NW.same (s := U) (U := U.calling g mk a) rfl qN⟩
theorem jn_app : ∀ (A B : List va_W), jn (A ++ B) = jn A ++ jn B := by
  intro A
  induction A with
  | nil => intro B; rfl
  | cons a t ih => intro B; show a ++ jn (t ++ B) = (a ++ jn t) ++ jn B; rw [ih, List.append_assoc]
theorem jn_one (x : va_W) : jn [x] = x := List.append_nil x
theorem jn_push (Bs : List va_W) (x : Nat × va_E) : jn Bs ++ [x] = jn (Bs ++ [[x]]) := by rw [jn_app, jn_one]
theorem preC0 {s : State} {H : Heap} {D : va_G} {cI cZ : ClassId} {A : Nat → Prop} {Bs : List va_W} {x : Nat × va_E} {av : List Value} (hK : va_K D classes (tysOf cI cZ) s) (hN : NW s) (hP : va_P D classes (jn (Bs ++ [[x]])) H) : PreS s H (PreC D cI cZ av [x] H.size) av := by
  refine ⟨PreC.blind, fun U hU hW => ⟨rfl, by rw [hU], ?_, va_K.moved hW.alike hK, D_iff.mpr ⟨List.pairwise_singleton _ _, fun _ _ => trivial⟩, hN.warm hW⟩⟩
  rw [hU]
  exact P_mem.mpr (fun q hq => P_mem.mp hP q (jn_mem.mpr ⟨[x], by simp, hq⟩))
theorem cwI0 {R : Room} {s : State} {args : Array Value} {own : String} {index n fr lo nL mc ms : Nat} {y : MethodName} {b : ByteArray} (hW : ∀ w ∈ WT, w.before args s = true) (mv : MI y b nL n) (ml : Cond.methodLink own index y ∈ WT) (hR : fr + 1 ≤ R.frames ∧ 8 + (nL + 11) + lo ≤ R.locals) :
    CallB R s args own index y b nL none (Cond.code y b nL none :: WT) { frames := fr, cells := mc, slots := ms, locals := lo } mc ms n ∧ y.name = "<init>" ∧ (Cond.instanceMethod y).before args s = true := by
  obtain ⟨h1, h2, h3, h4, h5⟩ := mv
  refine cwI n hW (WT_gi ?_) rfl rfl rfl (hW _ h2) (hW _ ml) (hW _ h1) h4 h5 hR
  intro w hw
  rcases List.mem_cons.mp hw with rfl | hw
  · exact h3
  · exact hw
theorem cwIN0 {R : Room} {s : State} {args : Array Value} {own host : String} {index n fr lo nL mc ms : Nat} {y : MethodName} {b : ByteArray} (hW : ∀ w ∈ WT, w.before args s = true) (hN : NW s) (mv : MI y b nL n) (ml : Cond.methodLinkNest own index y host ∈ nestW) (hR : fr + 1 ≤ R.frames ∧ 8 + (nL + 11) + lo ≤ R.locals) :
    va_CN R s args own index y host b nL none (Cond.code y b nL none :: WT) { frames := fr, cells := mc, slots := ms, locals := lo } mc ms n ∧ y.name = "<init>" ∧ (Cond.instanceMethod y).before args s = true := by
  obtain ⟨h1, h2, h3, h4, h5⟩ := mv
  refine ⟨va_cnB n hW (WT_gi ?_) rfl rfl rfl (hN _ ml) (hW _ h2) h5 hR, h4, hW _ h1⟩
  intro w hw
  rcases List.mem_cons.mp hw with rfl | hw
  · exact h3
  · exact hw
section CALLC
variable {p : Program} {l : Launch} {e : Env} {R : Room} {s : State} {m : MethodId} {args : Array Value} {below : List Frame} {meth : Method} {c : Code} {H : Heap} {locs : List Loc} {cells slots mc ms : Nat} {Q : State → Prop}
variable {pc : Nat} {ls : Array Slot} {rest st0 : List Value} {a : Array Value} {A0 : Nat → Prop} {H0 : Heap} {D : va_G} {Bs : List va_W} {x : Nat × va_E}
theorem callC {S : Type} {post : S → Prop} {cl : S → va_W} (hr : va_Run p l e R s m args below meth c H locs cells slots mc ms (F0 m pc ls st0) rest (QC post D cl [x] H.size a) (va_A [x] H.size)) (hP : va_P D classes (jn (Bs ++ [[x]])) H) (hD : va_D A0 (jn (Bs ++ [[x]]))) (hS : va_S A0 H0 H locs) (hA : ∀ q, H0.size ≤ q → A0 q)
    (kk : ∀ (u : S) (H1 : Heap) (locs1 : List Loc), post u → va_P D classes (jn (Bs ++ [cl u])) H1 → va_D A0 (jn (Bs ++ [cl u])) → va_S A0 H0 H1 locs1 → W p l e R s m args below meth c H1 locs1 (cells + mc) (slots + ms) Q (F0 m (pc + 3) ls rest)) : W p l e R s m args below meth c H locs cells slots Q (F0 m pc ls st0) := by
  intro T hT X
  obtain ⟨v', st₀, t, T', L, h0, X', hL, e1, e2, ⟨⟨u, hv, hp, hb, hbD⟩, hz, hk⟩, st⟩ := hr T hT X
  cases hv
  rw [h0] at hz hk
  have hxm : x ∈ jn (Bs ++ [[x]]) := jn_mem.mpr ⟨[x], by simp, by simp⟩
  have hin : ∀ q, va_A [x] H.size q → A0 q := by
    intro q hq
    rcases hq with ⟨k, e9, h9⟩ | h9
    · have hm : (q, e9) ∈ [x] := List.mem_of_getElem? h9
      rw [List.mem_singleton] at hm
      subst hm
      exact (D_iff.mp hD).2 _ hxm
    · exact hA q (Nat.le_trans hS.1 h9)
  obtain ⟨n1, n2⟩ := D_iff.mp hD
  rw [jn_app, jn_one] at n1
  obtain ⟨n3, n4, n5⟩ := List.pairwise_append.mp n1
  have apart : ∀ q ∈ jn Bs, q.1 < H.size ∧ ¬ va_A [x] H.size q.1 := by
    intro q hq
    have hl : q.1 < H.size := (P_mem.mp hP q (by rw [jn_app]; exact List.mem_append_left _ hq)).lt
    refine ⟨hl, fun h => ?_⟩
    rcases h with ⟨k, e9, h9⟩ | h9
    · have hm : (q.1, e9) ∈ [x] := List.mem_of_getElem? h9
      exact n5 q hq _ hm rfl
    · omega
  obtain ⟨m1, m2⟩ := D_iff.mp hbD
  obtain ⟨t2, a1, b1⟩ := kk u t.heap (locs ++ L) hp (by
      refine P_mem.mpr (fun q hq => ?_)
      rw [jn_app, jn_one] at hq
      rcases List.mem_append.mp hq with hq | hq
      · obtain ⟨g1, g2⟩ := apart q hq
        exact (P_mem.mp hP q (by rw [jn_app]; exact List.mem_append_left _ hq)).kept (hk q.1 g1 g2)
      · exact P_mem.mp hb q hq) (by
      refine D_iff.mpr ⟨?_, fun q hq => ?_⟩
      · rw [jn_app, jn_one]
        refine List.pairwise_append.mpr ⟨n3, m1, fun q hq r hr he => ?_⟩
        exact (apart q hq).2 (by rw [he]; exact m2 r hr)
      · rw [jn_app, jn_one] at hq
        rcases List.mem_append.mp hq with hq | hq
        · exact n2 q (by rw [jn_app]; exact List.mem_append_left _ hq)
        · exact hin _ (m2 q hq))
    ⟨Nat.le_trans hS.1 hz, fun q h1 h2 => by rw [hk q (Nat.lt_of_lt_of_le h1 hS.1) (fun z => h2 (hin q z))]; exact hS.2.1 q h1 h2, fun q hq => by
      rcases List.mem_append.mp hq with h | h
      · exact hS.2.2 q h
      · exact hin _ (hL q h)⟩ T' e1 X'
  exact ⟨t2, st t2 a1, b1⟩
end CALLC
theorem cA_eq {D : va_G} {cI cZ cA : ClassId} {s : State} {ty : FieldType} (hK : va_K D classes (tysOf cI cZ ++ [(cA, ty)]) s) (i : Nat) {cB : ClassId} (hi : (tysOf cI cZ)[i]? = some (cB, ty)) (hty : ∀ U c, va_RA U c ty → U.vm.findClass ("[" ++ ty.toString) = some c) : cA = cB := by
  have h1 := hty _ _ (hK.2 2 (cA, ty) rfl).2
  have h2 := hty _ _ (hK.2 i (cB, ty) (by rw [List.getElem?_append_left (List.getElem?_eq_some_iff.mp hi).1]; exact hi)).2
  exact Option.some.inj (h1.symm.trans h2)
def Z0 : St := (fun _ => 0, fun _ _ => 0)
set_option maxHeartbeats 4000000 in
set_option maxRecDepth 100000 in
/-- Row(n): n cells of 0 -/
theorem c_X3_init (l : Launch) (D : va_G) (cI cZ : ClassId) (r n : Nat) (hn : n < 2 ^ 20) (sz : Nat) : KC l yX3_init cX3_init 2 1 20 1 n D cI cZ [.ref r, .int (nI n)] [(r, .inr (3, [.null]))] sz (fun _ : Nat => True) (fun a => kcells cI r a n (fun _ => 0)) := by
  refine Met.ofC (by decide +kernel) (Nat.le_of_ble_eq_true rfl) ?_
  intro p e s m below meth c E hin hsz ls hl
  obtain ⟨hx, hb, hr, hml, hW, hown, hlocks, hP, hK, hD0, hN⟩ := E
  subst hsz
  have hD : va_D (va_A [(r, .inr (3, [.null]))] s.heap.size) [(r, .inr (3, [.null]))] := hD0.weaken (fun _ _ _ h => Or.inl h)
  have hA : ∀ q : Nat, s.heap.size ≤ q → va_A [(r, .inr (3, [.null]))] s.heap.size q := fun q h => Or.inr h
  have hS : va_S (va_A [(r, .inr (3, [.null]))] s.heap.size) s.heap s.heap [] := va_S.rf
  have hl : lv_has ls 2 [(0, .ref r), (1, .int (nI n))] := hl
  refine lv_aload_n hx hb dX3_init_0 rfl (lv_at hl 0 rfl) ?_
  refine W.objInit hx hb hown (hW _ ml_X3_1) (hW _ im_obj) (hW _ cd_obj) rfl (by rw [hml]; exact hl.1) rfl dX3_init_1 (Nat.le_of_ble_eq_true rfl) (Nat.le_of_ble_eq_true rfl) ?_
  refine W.eq (g2 := F0 m 4 ls []) rfl ?_
  refine lv_aload_n hx hb dX3_init_4 rfl (lv_at hl 0 rfl) ?_
  refine lv_iload_n hx hb dX3_init_5 rfl (lv_at hl 1 rfl) ?_
  refine lv_if_ge (tgt := 13) hx hb dX3_init_6 (by decide) (fun _ => ?_) (fun c9 => absurd (nI_pos' (by omega)) c9)
  refine lv_iload_n hx hb dX3_init_13 rfl (lv_at hl 1 rfl) ?_
  refine va_newa (a0 := (n, .inl (fun _ => 0))) (N' := n) (atype := .int) (ty := .int) hx hb (hW _ ac_int) rfl hK hP hD hS hA (fun _ => rfl) (nI_pos (by omega)) (nI_clamp (by omega)) (by show n * 4 ≤ 536870912; omega) (Nat.le_refl _) (by show 0 + n ≤ n; omega) dX3_init_14 (fun q cA H hK2 hP hD hS => ?_)
  have hc : cA = cI := cA_eq hK2 0 rfl (fun _ _ h => h)
  subst hc
  refine va_putF (D := D) (ci := 3) (v := .ref q) (ty := .array .int) (C := RX3) (T := TX3) (N := 1) hx hb hW inW_X3 tyX3 tyX3_ok nmX3 hown hK hP hD hS 0 rfl rfl 0 (by decide) (hW _ fl_X3_7) (fun _ h9 => h9) rfl hin rfl (by decide +kernel) rfl rfl (Nat.le_of_ble_eq_true rfl) dX3_init_16 (fun H locs hP hD hS => ?_)
  refine W.widen (k := 1) (n := n) (by omega) (by omega) ?_
  exact W.vret hx hb hr (fun t ht _ => ⟨⟨q, rfl, trivial, by rw [ht]; exact hP, hD⟩, hS.F ht⟩) hS.2.2 dX3_init_19
set_option maxHeartbeats 4000000 in
set_option maxRecDepth 100000 in
/-- X1(): its rows of 0 -/
theorem c_X1_init (l : Launch) (D : va_G) (cI cZ : ClassId) (h0 sz : Nat) : KC l yX1_init cX1_init 1 2 41 2 61 D cI cZ [.ref h0] [(h0, .inr (1, [.null, .int 0]))] sz (fun ad : Nat → Nat => ad 0 = h0) (fun ad => pcells cI ad 0 Z0) := by
  refine Met.ofC (by decide +kernel) (Nat.le_of_ble_eq_true rfl) ?_
  intro p e s m below meth c E hin hsz ls hl
  obtain ⟨hx, hb, hr, hml, hW, hown, hlocks, hP, hK, hD0, hN⟩ := E
  subst hsz
  have hD : va_D (va_A [(h0, .inr (1, [.null, .int 0]))] s.heap.size) [(h0, .inr (1, [.null, .int 0]))] := hD0.weaken (fun _ _ _ h => Or.inl h)
  have hA : ∀ q : Nat, s.heap.size ≤ q → va_A [(h0, .inr (1, [.null, .int 0]))] s.heap.size q := fun q h => Or.inr h
  have hS : va_S (va_A [(h0, .inr (1, [.null, .int 0]))] s.heap.size) s.heap s.heap [] := va_S.rf
  have hl : lv_has ls 1 [(0, .ref h0)] := hl
  rw [← jn_one [(h0, .inr (1, [.null, .int 0]))]] at hP hD
  refine lv_aload_n hx hb dX1_init_0 rfl (lv_at hl 0 rfl) ?_
  refine W.objInit hx hb hown (hW _ ml_X1_3) (hW _ im_obj) (hW _ cd_obj) rfl (by rw [hml]; exact hl.1) rfl dX1_init_1 (Nat.le_of_ble_eq_true rfl) (Nat.le_of_ble_eq_true rfl) ?_
  refine W.eq (g2 := F0 m 4 ls []) rfl ?_
  refine lv_aload_n hx hb dX1_init_4 rfl (lv_at hl 0 rfl) ?_
  refine va_new (ci := 3) (fs := [.null]) (C := RX3) (T := TX3) (N := 1) hx hb hW inW_X3 tyX3 tyX3_ok hown (hW _ cl_X1_9) (hW _ isb_X3) (hW _ ini_X3) hK hP hD hS hA rfl (fun j hj => by rcases (show j = 0 by omega) with rfl; rfl) (Nat.le_of_ble_eq_true rfl) (Nat.le_of_ble_eq_true rfl) dX1_init_5 (fun q0 H hP hD hS => ?_)
  rw [jn_push] at hP hD
  refine lv_dup hx hb dX1_init_8 rfl ?_
  refine lv_bipush (v := nI 60) hx hb dX1_init_9 (by decide) ?_
  refine callC (Bs := [[(h0, .inr (1, [.null, .int 0]))]]) (va_runI (As := [.int (nI 60)]) (rest := [.ref q0, .ref h0]) ⟨hx, hb, hml, hown, hW⟩ (c_X3_init l D cI cZ q0 60 (by decide) H.size) (cwI0 hW mI_X3_init ml_X1_11 ⟨Nat.le_of_ble_eq_true rfl, Nat.le_of_ble_eq_true rfl⟩) (preC0 (A := (va_A [(h0, .inr (1, [.null, .int 0]))] s.heap.size)) hK hN hP) rfl rfl hl.1 rfl (lv_room (Nat.le_of_ble_eq_true rfl)) dX1_init_11 ⟨Nat.le_of_ble_eq_true rfl, Nat.le_of_ble_eq_true rfl⟩) hP hD hS hA (fun a0 H locs _ hP hD hS => ?_)
  have hP : va_P D classes (jn [[(h0, .inr (1, [.null, .int 0]))], kcells cI q0 a0 60 (fun _ => 0)]) H := hP
  have hD : va_D (va_A [(h0, .inr (1, [.null, .int 0]))] s.heap.size) (jn [[(h0, .inr (1, [.null, .int 0]))], kcells cI q0 a0 60 (fun _ => 0)]) := hD
  refine va_putF (D := D) (ci := 1) (v := .ref q0) (ty := .object "HostageRound$Row") (C := RX1) (T := TX1) (N := 2) hx hb hW inW_X1 tyX1 tyX1_ok nmX1 hown hK hP hD hS 0 rfl rfl 0 (by decide) (hW _ fl_X1_14) (fun _ h9 => h9) rfl hin rfl (by decide +kernel) rfl rfl (Nat.le_of_ble_eq_true rfl) dX1_init_14 (fun H locs hP hD hS => ?_)
  have hP : va_P D classes (jn [[(h0, .inr (1, [.ref q0, .int 0]))], kcells cI q0 a0 60 (fun _ => 0)]) H := hP
  have hD : va_D (va_A [(h0, .inr (1, [.null, .int 0]))] s.heap.size) (jn [[(h0, .inr (1, [.ref q0, .int 0]))], kcells cI q0 a0 60 (fun _ => 0)]) := hD
  have hP9 := hP.sub (ws' := pcells cI (fun k => [h0, q0, a0].getD k 0) 0 Z0) [0, 1, 2] rfl
  have hD9 := hD.sub (ws' := pcells cI (fun k => [h0, q0, a0].getD k 0) 0 Z0) [0, 1, 2] (by decide) rfl
  refine W.widen (k := 2) (n := 61) (Nat.le_of_ble_eq_true rfl) (Nat.le_of_ble_eq_true rfl) ?_
  exact W.vret hx hb hr (fun t ht _ => ⟨⟨(fun k => [h0, q0, a0].getD k 0), rfl, rfl, by rw [ht]; exact hP9, hD9⟩, hS.F ht⟩) hS.2.2 dX1_init_17
set_option maxHeartbeats 4000000 in
set_option maxRecDepth 100000 in
/-- X0(): its rows of 0 -/
theorem c_X0_init (l : Launch) (D : va_G) (cI cZ : ClassId) (h0 sz : Nat) : KC l yX0_init cX0_init 1 2 41 2 7 D cI cZ [.ref h0] [(h0, .inr (0, [.null, .int 0, .int 0, .int 0, .int 0, .int 0, .int 0]))] sz (fun ad : Nat → Nat => ad 0 = h0) (fun ad => dcells cI ad 0 Z0) := by
  refine Met.ofC (by decide +kernel) (Nat.le_of_ble_eq_true rfl) ?_
  intro p e s m below meth c E hin hsz ls hl
  obtain ⟨hx, hb, hr, hml, hW, hown, hlocks, hP, hK, hD0, hN⟩ := E
  subst hsz
  have hD : va_D (va_A [(h0, .inr (0, [.null, .int 0, .int 0, .int 0, .int 0, .int 0, .int 0]))] s.heap.size) [(h0, .inr (0, [.null, .int 0, .int 0, .int 0, .int 0, .int 0, .int 0]))] := hD0.weaken (fun _ _ _ h => Or.inl h)
  have hA : ∀ q : Nat, s.heap.size ≤ q → va_A [(h0, .inr (0, [.null, .int 0, .int 0, .int 0, .int 0, .int 0, .int 0]))] s.heap.size q := fun q h => Or.inr h
  have hS : va_S (va_A [(h0, .inr (0, [.null, .int 0, .int 0, .int 0, .int 0, .int 0, .int 0]))] s.heap.size) s.heap s.heap [] := va_S.rf
  have hl : lv_has ls 1 [(0, .ref h0)] := hl
  rw [← jn_one [(h0, .inr (0, [.null, .int 0, .int 0, .int 0, .int 0, .int 0, .int 0]))]] at hP hD
  refine lv_aload_n hx hb dX0_init_0 rfl (lv_at hl 0 rfl) ?_
  refine W.objInit hx hb hown (hW _ ml_X0_3) (hW _ im_obj) (hW _ cd_obj) rfl (by rw [hml]; exact hl.1) rfl dX0_init_1 (Nat.le_of_ble_eq_true rfl) (Nat.le_of_ble_eq_true rfl) ?_
  refine W.eq (g2 := F0 m 4 ls []) rfl ?_
  refine lv_aload_n hx hb dX0_init_4 rfl (lv_at hl 0 rfl) ?_
  refine va_new (ci := 3) (fs := [.null]) (C := RX3) (T := TX3) (N := 1) hx hb hW inW_X3 tyX3 tyX3_ok hown (hW _ cl_X0_9) (hW _ isb_X3) (hW _ ini_X3) hK hP hD hS hA rfl (fun j hj => by rcases (show j = 0 by omega) with rfl; rfl) (Nat.le_of_ble_eq_true rfl) (Nat.le_of_ble_eq_true rfl) dX0_init_5 (fun q0 H hP hD hS => ?_)
  rw [jn_push] at hP hD
  refine lv_dup hx hb dX0_init_8 rfl ?_
  refine lv_bipush (v := nI 6) hx hb dX0_init_9 (by decide) ?_
  refine callC (Bs := [[(h0, .inr (0, [.null, .int 0, .int 0, .int 0, .int 0, .int 0, .int 0]))]]) (va_runI (As := [.int (nI 6)]) (rest := [.ref q0, .ref h0]) ⟨hx, hb, hml, hown, hW⟩ (c_X3_init l D cI cZ q0 6 (by decide) H.size) (cwI0 hW mI_X3_init ml_X0_11 ⟨Nat.le_of_ble_eq_true rfl, Nat.le_of_ble_eq_true rfl⟩) (preC0 (A := (va_A [(h0, .inr (0, [.null, .int 0, .int 0, .int 0, .int 0, .int 0, .int 0]))] s.heap.size)) hK hN hP) rfl rfl hl.1 rfl (lv_room (Nat.le_of_ble_eq_true rfl)) dX0_init_11 ⟨Nat.le_of_ble_eq_true rfl, Nat.le_of_ble_eq_true rfl⟩) hP hD hS hA (fun a0 H locs _ hP hD hS => ?_)
  have hP : va_P D classes (jn [[(h0, .inr (0, [.null, .int 0, .int 0, .int 0, .int 0, .int 0, .int 0]))], kcells cI q0 a0 6 (fun _ => 0)]) H := hP
  have hD : va_D (va_A [(h0, .inr (0, [.null, .int 0, .int 0, .int 0, .int 0, .int 0, .int 0]))] s.heap.size) (jn [[(h0, .inr (0, [.null, .int 0, .int 0, .int 0, .int 0, .int 0, .int 0]))], kcells cI q0 a0 6 (fun _ => 0)]) := hD
  refine va_putF (D := D) (ci := 0) (v := .ref q0) (ty := .object "HostageRound$Row") (C := RX0) (T := TX0) (N := 7) hx hb hW inW_X0 tyX0 tyX0_ok nmX0 hown hK hP hD hS 0 rfl rfl 0 (by decide) (hW _ fl_X0_14) (fun _ h9 => h9) rfl hin rfl (by decide +kernel) rfl rfl (Nat.le_of_ble_eq_true rfl) dX0_init_14 (fun H locs hP hD hS => ?_)
  have hP : va_P D classes (jn [[(h0, .inr (0, [.ref q0, .int 0, .int 0, .int 0, .int 0, .int 0, .int 0]))], kcells cI q0 a0 6 (fun _ => 0)]) H := hP
  have hD : va_D (va_A [(h0, .inr (0, [.null, .int 0, .int 0, .int 0, .int 0, .int 0, .int 0]))] s.heap.size) (jn [[(h0, .inr (0, [.ref q0, .int 0, .int 0, .int 0, .int 0, .int 0, .int 0]))], kcells cI q0 a0 6 (fun _ => 0)]) := hD
  have hP9 := hP.sub (ws' := dcells cI (fun k => [h0, q0, a0].getD k 0) 0 Z0) [0, 1, 2] rfl
  have hD9 := hD.sub (ws' := dcells cI (fun k => [h0, q0, a0].getD k 0) 0 Z0) [0, 1, 2] (by decide) rfl
  refine W.widen (k := 2) (n := 7) (Nat.le_of_ble_eq_true rfl) (Nat.le_of_ble_eq_true rfl) ?_
  exact W.vret hx hb hr (fun t ht _ => ⟨⟨(fun k => [h0, q0, a0].getD k 0), rfl, rfl, by rw [ht]; exact hP9, hD9⟩, hS.F ht⟩) hS.2.2 dX0_init_17
set_option maxHeartbeats 4000000 in
set_option maxRecDepth 100000 in
/-- X4(): its rows of 0 -/
theorem c_X4_init (l : Launch) (D : va_G) (cI cZ : ClassId) (h0 sz : Nat) : KC l yX4_init cX4_init 1 2 41 4 72 D cI cZ [.ref h0] [(h0, .inr (4, [.null, .null]))] sz (fun ad : Nat → Nat => ad 0 = h0) (fun ad => wcells cI ad 0 Z0) := by
  refine Met.ofC (by decide +kernel) (Nat.le_of_ble_eq_true rfl) ?_
  intro p e s m below meth c E hin hsz ls hl
  obtain ⟨hx, hb, hr, hml, hW, hown, hlocks, hP, hK, hD0, hN⟩ := E
  subst hsz
  have hD : va_D (va_A [(h0, .inr (4, [.null, .null]))] s.heap.size) [(h0, .inr (4, [.null, .null]))] := hD0.weaken (fun _ _ _ h => Or.inl h)
  have hA : ∀ q : Nat, s.heap.size ≤ q → va_A [(h0, .inr (4, [.null, .null]))] s.heap.size q := fun q h => Or.inr h
  have hS : va_S (va_A [(h0, .inr (4, [.null, .null]))] s.heap.size) s.heap s.heap [] := va_S.rf
  have hl : lv_has ls 1 [(0, .ref h0)] := hl
  rw [← jn_one [(h0, .inr (4, [.null, .null]))]] at hP hD
  refine lv_aload_n hx hb dX4_init_0 rfl (lv_at hl 0 rfl) ?_
  refine W.objInit hx hb hown (hW _ ml_X4_3) (hW _ im_obj) (hW _ cd_obj) rfl (by rw [hml]; exact hl.1) rfl dX4_init_1 (Nat.le_of_ble_eq_true rfl) (Nat.le_of_ble_eq_true rfl) ?_
  refine W.eq (g2 := F0 m 4 ls []) rfl ?_
  refine lv_aload_n hx hb dX4_init_4 rfl (lv_at hl 0 rfl) ?_
  refine va_new (ci := 3) (fs := [.null]) (C := RX3) (T := TX3) (N := 1) hx hb hW inW_X3 tyX3 tyX3_ok hown (hW _ cl_X4_9) (hW _ isb_X3) (hW _ ini_X3) hK hP hD hS hA rfl (fun j hj => by rcases (show j = 0 by omega) with rfl; rfl) (Nat.le_of_ble_eq_true rfl) (Nat.le_of_ble_eq_true rfl) dX4_init_5 (fun q0 H hP hD hS => ?_)
  rw [jn_push] at hP hD
  refine lv_dup hx hb dX4_init_8 rfl ?_
  refine lv_bipush (v := nI 6) hx hb dX4_init_9 (by decide) ?_
  refine callC (Bs := [[(h0, .inr (4, [.null, .null]))]]) (va_runI (As := [.int (nI 6)]) (rest := [.ref q0, .ref h0]) ⟨hx, hb, hml, hown, hW⟩ (c_X3_init l D cI cZ q0 6 (by decide) H.size) (cwI0 hW mI_X3_init ml_X4_11 ⟨Nat.le_of_ble_eq_true rfl, Nat.le_of_ble_eq_true rfl⟩) (preC0 (A := (va_A [(h0, .inr (4, [.null, .null]))] s.heap.size)) hK hN hP) rfl rfl hl.1 rfl (lv_room (Nat.le_of_ble_eq_true rfl)) dX4_init_11 ⟨Nat.le_of_ble_eq_true rfl, Nat.le_of_ble_eq_true rfl⟩) hP hD hS hA (fun a0 H locs _ hP hD hS => ?_)
  have hP : va_P D classes (jn [[(h0, .inr (4, [.null, .null]))], kcells cI q0 a0 6 (fun _ => 0)]) H := hP
  have hD : va_D (va_A [(h0, .inr (4, [.null, .null]))] s.heap.size) (jn [[(h0, .inr (4, [.null, .null]))], kcells cI q0 a0 6 (fun _ => 0)]) := hD
  refine va_putF (D := D) (ci := 4) (v := .ref q0) (ty := .object "HostageRound$Row") (C := RX4) (T := TX4) (N := 2) hx hb hW inW_X4 tyX4 tyX4_ok nmX4 hown hK hP hD hS 0 rfl rfl 0 (by decide) (hW _ fl_X4_14) (fun _ h9 => h9) rfl hin rfl (by decide +kernel) rfl rfl (Nat.le_of_ble_eq_true rfl) dX4_init_14 (fun H locs hP hD hS => ?_)
  have hP : va_P D classes (jn [[(h0, .inr (4, [.ref q0, .null]))], kcells cI q0 a0 6 (fun _ => 0)]) H := hP
  have hD : va_D (va_A [(h0, .inr (4, [.null, .null]))] s.heap.size) (jn [[(h0, .inr (4, [.ref q0, .null]))], kcells cI q0 a0 6 (fun _ => 0)]) := hD
  refine lv_aload_n hx hb dX4_init_17 rfl (lv_at hl 0 rfl) ?_
  refine va_new (ci := 3) (fs := [.null]) (C := RX3) (T := TX3) (N := 1) hx hb hW inW_X3 tyX3 tyX3_ok hown (hW _ cl_X4_9) (hW _ isb_X3) (hW _ ini_X3) hK hP hD hS hA rfl (fun j hj => by rcases (show j = 0 by omega) with rfl; rfl) (Nat.le_of_ble_eq_true rfl) (Nat.le_of_ble_eq_true rfl) dX4_init_18 (fun q1 H hP hD hS => ?_)
  rw [jn_push] at hP hD
  refine lv_dup hx hb dX4_init_21 rfl ?_
  refine lv_bipush (v := nI 64) hx hb dX4_init_22 (by decide) ?_
  refine callC (Bs := [[(h0, .inr (4, [.ref q0, .null]))], kcells cI q0 a0 6 (fun _ => 0)]) (va_runI (As := [.int (nI 64)]) (rest := [.ref q1, .ref h0]) ⟨hx, hb, hml, hown, hW⟩ (c_X3_init l D cI cZ q1 64 (by decide) H.size) (cwI0 hW mI_X3_init ml_X4_11 ⟨Nat.le_of_ble_eq_true rfl, Nat.le_of_ble_eq_true rfl⟩) (preC0 (A := (va_A [(h0, .inr (4, [.null, .null]))] s.heap.size)) hK hN hP) rfl rfl hl.1 rfl (lv_room (Nat.le_of_ble_eq_true rfl)) dX4_init_24 ⟨Nat.le_of_ble_eq_true rfl, Nat.le_of_ble_eq_true rfl⟩) hP hD hS hA (fun a1 H locs _ hP hD hS => ?_)
  have hP : va_P D classes (jn [[(h0, .inr (4, [.ref q0, .null]))], kcells cI q0 a0 6 (fun _ => 0), kcells cI q1 a1 64 (fun _ => 0)]) H := hP
  have hD : va_D (va_A [(h0, .inr (4, [.null, .null]))] s.heap.size) (jn [[(h0, .inr (4, [.ref q0, .null]))], kcells cI q0 a0 6 (fun _ => 0), kcells cI q1 a1 64 (fun _ => 0)]) := hD
  refine va_putF (D := D) (ci := 4) (v := .ref q1) (ty := .object "HostageRound$Row") (C := RX4) (T := TX4) (N := 2) hx hb hW inW_X4 tyX4 tyX4_ok nmX4 hown hK hP hD hS 0 rfl rfl 1 (by decide) (hW _ fl_X4_20) (fun _ h9 => h9) rfl hin rfl (by decide +kernel) rfl rfl (Nat.le_of_ble_eq_true rfl) dX4_init_27 (fun H locs hP hD hS => ?_)
  have hP : va_P D classes (jn [[(h0, .inr (4, [.ref q0, .ref q1]))], kcells cI q0 a0 6 (fun _ => 0), kcells cI q1 a1 64 (fun _ => 0)]) H := hP
  have hD : va_D (va_A [(h0, .inr (4, [.null, .null]))] s.heap.size) (jn [[(h0, .inr (4, [.ref q0, .ref q1]))], kcells cI q0 a0 6 (fun _ => 0), kcells cI q1 a1 64 (fun _ => 0)]) := hD
  have hP9 := hP.sub (ws' := wcells cI (fun k => [h0, q0, q1, a0, a1].getD k 0) 0 Z0) [0, 1, 3, 2, 4] rfl
  have hD9 := hD.sub (ws' := wcells cI (fun k => [h0, q0, q1, a0, a1].getD k 0) 0 Z0) [0, 1, 3, 2, 4] (by decide) rfl
  refine W.widen (k := 4) (n := 72) (Nat.le_of_ble_eq_true rfl) (Nat.le_of_ble_eq_true rfl) ?_
  exact W.vret hx hb hr (fun t ht _ => ⟨⟨(fun k => [h0, q0, q1, a0, a1].getD k 0), rfl, rfl, by rw [ht]; exact hP9, hD9⟩, hS.F ht⟩) hS.2.2 dX4_init_30
set_option maxHeartbeats 4000000 in
set_option maxRecDepth 100000 in
/-- X2(): its rows of 0 -/
theorem c_X2_init (l : Launch) (D : va_G) (cI cZ : ClassId) (h0 sz : Nat) : KC l yX2_init cX2_init 1 2 41 16 60 D cI cZ [.ref h0] [(h0, .inr (2, [.int 0, .int 0, .int 0, .int 0, .int 0, .int 0, .int 0, .null, .null, .null, .null, .null, .null, .null, .null]))] sz (fun ad : Nat → Nat => ad 0 = h0) (fun ad => rcells cI ad 0 Z0) := by
  refine Met.ofC (by decide +kernel) (Nat.le_of_ble_eq_true rfl) ?_
  intro p e s m below meth c E hin hsz ls hl
  obtain ⟨hx, hb, hr, hml, hW, hown, hlocks, hP, hK, hD0, hN⟩ := E
  subst hsz
  have hD : va_D (va_A [(h0, .inr (2, [.int 0, .int 0, .int 0, .int 0, .int 0, .int 0, .int 0, .null, .null, .null, .null, .null, .null, .null, .null]))] s.heap.size) [(h0, .inr (2, [.int 0, .int 0, .int 0, .int 0, .int 0, .int 0, .int 0, .null, .null, .null, .null, .null, .null, .null, .null]))] := hD0.weaken (fun _ _ _ h => Or.inl h)
  have hA : ∀ q : Nat, s.heap.size ≤ q → va_A [(h0, .inr (2, [.int 0, .int 0, .int 0, .int 0, .int 0, .int 0, .int 0, .null, .null, .null, .null, .null, .null, .null, .null]))] s.heap.size q := fun q h => Or.inr h
  have hS : va_S (va_A [(h0, .inr (2, [.int 0, .int 0, .int 0, .int 0, .int 0, .int 0, .int 0, .null, .null, .null, .null, .null, .null, .null, .null]))] s.heap.size) s.heap s.heap [] := va_S.rf
  have hl : lv_has ls 1 [(0, .ref h0)] := hl
  rw [← jn_one [(h0, .inr (2, [.int 0, .int 0, .int 0, .int 0, .int 0, .int 0, .int 0, .null, .null, .null, .null, .null, .null, .null, .null]))]] at hP hD
  refine lv_aload_n hx hb dX2_init_0 rfl (lv_at hl 0 rfl) ?_
  refine W.objInit hx hb hown (hW _ ml_X2_3) (hW _ im_obj) (hW _ cd_obj) rfl (by rw [hml]; exact hl.1) rfl dX2_init_1 (Nat.le_of_ble_eq_true rfl) (Nat.le_of_ble_eq_true rfl) ?_
  refine W.eq (g2 := F0 m 4 ls []) rfl ?_
  refine lv_aload_n hx hb dX2_init_4 rfl (lv_at hl 0 rfl) ?_
  refine va_new (ci := 3) (fs := [.null]) (C := RX3) (T := TX3) (N := 1) hx hb hW inW_X3 tyX3 tyX3_ok hown (hW _ cl_X2_9) (hW _ isb_X3) (hW _ ini_X3) hK hP hD hS hA rfl (fun j hj => by rcases (show j = 0 by omega) with rfl; rfl) (Nat.le_of_ble_eq_true rfl) (Nat.le_of_ble_eq_true rfl) dX2_init_5 (fun q0 H hP hD hS => ?_)
  rw [jn_push] at hP hD
  refine lv_dup hx hb dX2_init_8 rfl ?_
  refine lv_bipush (v := nI 6) hx hb dX2_init_9 (by decide) ?_
  refine callC (Bs := [[(h0, .inr (2, [.int 0, .int 0, .int 0, .int 0, .int 0, .int 0, .int 0, .null, .null, .null, .null, .null, .null, .null, .null]))]]) (va_runI (As := [.int (nI 6)]) (rest := [.ref q0, .ref h0]) ⟨hx, hb, hml, hown, hW⟩ (c_X3_init l D cI cZ q0 6 (by decide) H.size) (cwI0 hW mI_X3_init ml_X2_11 ⟨Nat.le_of_ble_eq_true rfl, Nat.le_of_ble_eq_true rfl⟩) (preC0 (A := (va_A [(h0, .inr (2, [.int 0, .int 0, .int 0, .int 0, .int 0, .int 0, .int 0, .null, .null, .null, .null, .null, .null, .null, .null]))] s.heap.size)) hK hN hP) rfl rfl hl.1 rfl (lv_room (Nat.le_of_ble_eq_true rfl)) dX2_init_11 ⟨Nat.le_of_ble_eq_true rfl, Nat.le_of_ble_eq_true rfl⟩) hP hD hS hA (fun a0 H locs _ hP hD hS => ?_)
  have hP : va_P D classes (jn [[(h0, .inr (2, [.int 0, .int 0, .int 0, .int 0, .int 0, .int 0, .int 0, .null, .null, .null, .null, .null, .null, .null, .null]))], kcells cI q0 a0 6 (fun _ => 0)]) H := hP
  have hD : va_D (va_A [(h0, .inr (2, [.int 0, .int 0, .int 0, .int 0, .int 0, .int 0, .int 0, .null, .null, .null, .null, .null, .null, .null, .null]))] s.heap.size) (jn [[(h0, .inr (2, [.int 0, .int 0, .int 0, .int 0, .int 0, .int 0, .int 0, .null, .null, .null, .null, .null, .null, .null, .null]))], kcells cI q0 a0 6 (fun _ => 0)]) := hD
  refine va_putF (D := D) (ci := 2) (v := .ref q0) (ty := .object "HostageRound$Row") (C := RX2) (T := TX2) (N := 15) hx hb hW inW_X2 tyX2 tyX2_ok nmX2 hown hK hP hD hS 0 rfl rfl 7 (by decide) (hW _ fl_X2_14) (fun _ h9 => h9) rfl hin rfl (by decide +kernel) rfl rfl (Nat.le_of_ble_eq_true rfl) dX2_init_14 (fun H locs hP hD hS => ?_)
  have hP : va_P D classes (jn [[(h0, .inr (2, [.int 0, .int 0, .int 0, .int 0, .int 0, .int 0, .int 0, .ref q0, .null, .null, .null, .null, .null, .null, .null]))], kcells cI q0 a0 6 (fun _ => 0)]) H := hP
  have hD : va_D (va_A [(h0, .inr (2, [.int 0, .int 0, .int 0, .int 0, .int 0, .int 0, .int 0, .null, .null, .null, .null, .null, .null, .null, .null]))] s.heap.size) (jn [[(h0, .inr (2, [.int 0, .int 0, .int 0, .int 0, .int 0, .int 0, .int 0, .ref q0, .null, .null, .null, .null, .null, .null, .null]))], kcells cI q0 a0 6 (fun _ => 0)]) := hD
  refine lv_aload_n hx hb dX2_init_17 rfl (lv_at hl 0 rfl) ?_
  refine va_new (ci := 3) (fs := [.null]) (C := RX3) (T := TX3) (N := 1) hx hb hW inW_X3 tyX3 tyX3_ok hown (hW _ cl_X2_9) (hW _ isb_X3) (hW _ ini_X3) hK hP hD hS hA rfl (fun j hj => by rcases (show j = 0 by omega) with rfl; rfl) (Nat.le_of_ble_eq_true rfl) (Nat.le_of_ble_eq_true rfl) dX2_init_18 (fun q1 H hP hD hS => ?_)
  rw [jn_push] at hP hD
  refine lv_dup hx hb dX2_init_21 rfl ?_
  refine lv_bipush (v := nI 6) hx hb dX2_init_22 (by decide) ?_
  refine callC (Bs := [[(h0, .inr (2, [.int 0, .int 0, .int 0, .int 0, .int 0, .int 0, .int 0, .ref q0, .null, .null, .null, .null, .null, .null, .null]))], kcells cI q0 a0 6 (fun _ => 0)]) (va_runI (As := [.int (nI 6)]) (rest := [.ref q1, .ref h0]) ⟨hx, hb, hml, hown, hW⟩ (c_X3_init l D cI cZ q1 6 (by decide) H.size) (cwI0 hW mI_X3_init ml_X2_11 ⟨Nat.le_of_ble_eq_true rfl, Nat.le_of_ble_eq_true rfl⟩) (preC0 (A := (va_A [(h0, .inr (2, [.int 0, .int 0, .int 0, .int 0, .int 0, .int 0, .int 0, .null, .null, .null, .null, .null, .null, .null, .null]))] s.heap.size)) hK hN hP) rfl rfl hl.1 rfl (lv_room (Nat.le_of_ble_eq_true rfl)) dX2_init_24 ⟨Nat.le_of_ble_eq_true rfl, Nat.le_of_ble_eq_true rfl⟩) hP hD hS hA (fun a1 H locs _ hP hD hS => ?_)
  have hP : va_P D classes (jn [[(h0, .inr (2, [.int 0, .int 0, .int 0, .int 0, .int 0, .int 0, .int 0, .ref q0, .null, .null, .null, .null, .null, .null, .null]))], kcells cI q0 a0 6 (fun _ => 0), kcells cI q1 a1 6 (fun _ => 0)]) H := hP
  have hD : va_D (va_A [(h0, .inr (2, [.int 0, .int 0, .int 0, .int 0, .int 0, .int 0, .int 0, .null, .null, .null, .null, .null, .null, .null, .null]))] s.heap.size) (jn [[(h0, .inr (2, [.int 0, .int 0, .int 0, .int 0, .int 0, .int 0, .int 0, .ref q0, .null, .null, .null, .null, .null, .null, .null]))], kcells cI q0 a0 6 (fun _ => 0), kcells cI q1 a1 6 (fun _ => 0)]) := hD
  refine va_putF (D := D) (ci := 2) (v := .ref q1) (ty := .object "HostageRound$Row") (C := RX2) (T := TX2) (N := 15) hx hb hW inW_X2 tyX2 tyX2_ok nmX2 hown hK hP hD hS 0 rfl rfl 8 (by decide) (hW _ fl_X2_20) (fun _ h9 => h9) rfl hin rfl (by decide +kernel) rfl rfl (Nat.le_of_ble_eq_true rfl) dX2_init_27 (fun H locs hP hD hS => ?_)
  have hP : va_P D classes (jn [[(h0, .inr (2, [.int 0, .int 0, .int 0, .int 0, .int 0, .int 0, .int 0, .ref q0, .ref q1, .null, .null, .null, .null, .null, .null]))], kcells cI q0 a0 6 (fun _ => 0), kcells cI q1 a1 6 (fun _ => 0)]) H := hP
  have hD : va_D (va_A [(h0, .inr (2, [.int 0, .int 0, .int 0, .int 0, .int 0, .int 0, .int 0, .null, .null, .null, .null, .null, .null, .null, .null]))] s.heap.size) (jn [[(h0, .inr (2, [.int 0, .int 0, .int 0, .int 0, .int 0, .int 0, .int 0, .ref q0, .ref q1, .null, .null, .null, .null, .null, .null]))], kcells cI q0 a0 6 (fun _ => 0), kcells cI q1 a1 6 (fun _ => 0)]) := hD
  refine lv_aload_n hx hb dX2_init_30 rfl (lv_at hl 0 rfl) ?_
  refine va_new (ci := 3) (fs := [.null]) (C := RX3) (T := TX3) (N := 1) hx hb hW inW_X3 tyX3 tyX3_ok hown (hW _ cl_X2_9) (hW _ isb_X3) (hW _ ini_X3) hK hP hD hS hA rfl (fun j hj => by rcases (show j = 0 by omega) with rfl; rfl) (Nat.le_of_ble_eq_true rfl) (Nat.le_of_ble_eq_true rfl) dX2_init_31 (fun q2 H hP hD hS => ?_)
  rw [jn_push] at hP hD
  refine lv_dup hx hb dX2_init_34 rfl ?_
  refine lv_bipush (v := nI 6) hx hb dX2_init_35 (by decide) ?_
  refine callC (Bs := [[(h0, .inr (2, [.int 0, .int 0, .int 0, .int 0, .int 0, .int 0, .int 0, .ref q0, .ref q1, .null, .null, .null, .null, .null, .null]))], kcells cI q0 a0 6 (fun _ => 0), kcells cI q1 a1 6 (fun _ => 0)]) (va_runI (As := [.int (nI 6)]) (rest := [.ref q2, .ref h0]) ⟨hx, hb, hml, hown, hW⟩ (c_X3_init l D cI cZ q2 6 (by decide) H.size) (cwI0 hW mI_X3_init ml_X2_11 ⟨Nat.le_of_ble_eq_true rfl, Nat.le_of_ble_eq_true rfl⟩) (preC0 (A := (va_A [(h0, .inr (2, [.int 0, .int 0, .int 0, .int 0, .int 0, .int 0, .int 0, .null, .null, .null, .null, .null, .null, .null, .null]))] s.heap.size)) hK hN hP) rfl rfl hl.1 rfl (lv_room (Nat.le_of_ble_eq_true rfl)) dX2_init_37 ⟨Nat.le_of_ble_eq_true rfl, Nat.le_of_ble_eq_true rfl⟩) hP hD hS hA (fun a2 H locs _ hP hD hS => ?_)
  have hP : va_P D classes (jn [[(h0, .inr (2, [.int 0, .int 0, .int 0, .int 0, .int 0, .int 0, .int 0, .ref q0, .ref q1, .null, .null, .null, .null, .null, .null]))], kcells cI q0 a0 6 (fun _ => 0), kcells cI q1 a1 6 (fun _ => 0), kcells cI q2 a2 6 (fun _ => 0)]) H := hP
  have hD : va_D (va_A [(h0, .inr (2, [.int 0, .int 0, .int 0, .int 0, .int 0, .int 0, .int 0, .null, .null, .null, .null, .null, .null, .null, .null]))] s.heap.size) (jn [[(h0, .inr (2, [.int 0, .int 0, .int 0, .int 0, .int 0, .int 0, .int 0, .ref q0, .ref q1, .null, .null, .null, .null, .null, .null]))], kcells cI q0 a0 6 (fun _ => 0), kcells cI q1 a1 6 (fun _ => 0), kcells cI q2 a2 6 (fun _ => 0)]) := hD
  refine va_putF (D := D) (ci := 2) (v := .ref q2) (ty := .object "HostageRound$Row") (C := RX2) (T := TX2) (N := 15) hx hb hW inW_X2 tyX2 tyX2_ok nmX2 hown hK hP hD hS 0 rfl rfl 9 (by decide) (hW _ fl_X2_23) (fun _ h9 => h9) rfl hin rfl (by decide +kernel) rfl rfl (Nat.le_of_ble_eq_true rfl) dX2_init_40 (fun H locs hP hD hS => ?_)
  have hP : va_P D classes (jn [[(h0, .inr (2, [.int 0, .int 0, .int 0, .int 0, .int 0, .int 0, .int 0, .ref q0, .ref q1, .ref q2, .null, .null, .null, .null, .null]))], kcells cI q0 a0 6 (fun _ => 0), kcells cI q1 a1 6 (fun _ => 0), kcells cI q2 a2 6 (fun _ => 0)]) H := hP
  have hD : va_D (va_A [(h0, .inr (2, [.int 0, .int 0, .int 0, .int 0, .int 0, .int 0, .int 0, .null, .null, .null, .null, .null, .null, .null, .null]))] s.heap.size) (jn [[(h0, .inr (2, [.int 0, .int 0, .int 0, .int 0, .int 0, .int 0, .int 0, .ref q0, .ref q1, .ref q2, .null, .null, .null, .null, .null]))], kcells cI q0 a0 6 (fun _ => 0), kcells cI q1 a1 6 (fun _ => 0), kcells cI q2 a2 6 (fun _ => 0)]) := hD
  refine lv_aload_n hx hb dX2_init_43 rfl (lv_at hl 0 rfl) ?_
  refine va_new (ci := 3) (fs := [.null]) (C := RX3) (T := TX3) (N := 1) hx hb hW inW_X3 tyX3 tyX3_ok hown (hW _ cl_X2_9) (hW _ isb_X3) (hW _ ini_X3) hK hP hD hS hA rfl (fun j hj => by rcases (show j = 0 by omega) with rfl; rfl) (Nat.le_of_ble_eq_true rfl) (Nat.le_of_ble_eq_true rfl) dX2_init_44 (fun q3 H hP hD hS => ?_)
  rw [jn_push] at hP hD
  refine lv_dup hx hb dX2_init_47 rfl ?_
  refine lv_bipush (v := nI 6) hx hb dX2_init_48 (by decide) ?_
  refine callC (Bs := [[(h0, .inr (2, [.int 0, .int 0, .int 0, .int 0, .int 0, .int 0, .int 0, .ref q0, .ref q1, .ref q2, .null, .null, .null, .null, .null]))], kcells cI q0 a0 6 (fun _ => 0), kcells cI q1 a1 6 (fun _ => 0), kcells cI q2 a2 6 (fun _ => 0)]) (va_runI (As := [.int (nI 6)]) (rest := [.ref q3, .ref h0]) ⟨hx, hb, hml, hown, hW⟩ (c_X3_init l D cI cZ q3 6 (by decide) H.size) (cwI0 hW mI_X3_init ml_X2_11 ⟨Nat.le_of_ble_eq_true rfl, Nat.le_of_ble_eq_true rfl⟩) (preC0 (A := (va_A [(h0, .inr (2, [.int 0, .int 0, .int 0, .int 0, .int 0, .int 0, .int 0, .null, .null, .null, .null, .null, .null, .null, .null]))] s.heap.size)) hK hN hP) rfl rfl hl.1 rfl (lv_room (Nat.le_of_ble_eq_true rfl)) dX2_init_50 ⟨Nat.le_of_ble_eq_true rfl, Nat.le_of_ble_eq_true rfl⟩) hP hD hS hA (fun a3 H locs _ hP hD hS => ?_)
  have hP : va_P D classes (jn [[(h0, .inr (2, [.int 0, .int 0, .int 0, .int 0, .int 0, .int 0, .int 0, .ref q0, .ref q1, .ref q2, .null, .null, .null, .null, .null]))], kcells cI q0 a0 6 (fun _ => 0), kcells cI q1 a1 6 (fun _ => 0), kcells cI q2 a2 6 (fun _ => 0), kcells cI q3 a3 6 (fun _ => 0)]) H := hP
  have hD : va_D (va_A [(h0, .inr (2, [.int 0, .int 0, .int 0, .int 0, .int 0, .int 0, .int 0, .null, .null, .null, .null, .null, .null, .null, .null]))] s.heap.size) (jn [[(h0, .inr (2, [.int 0, .int 0, .int 0, .int 0, .int 0, .int 0, .int 0, .ref q0, .ref q1, .ref q2, .null, .null, .null, .null, .null]))], kcells cI q0 a0 6 (fun _ => 0), kcells cI q1 a1 6 (fun _ => 0), kcells cI q2 a2 6 (fun _ => 0), kcells cI q3 a3 6 (fun _ => 0)]) := hD
  refine va_putF (D := D) (ci := 2) (v := .ref q3) (ty := .object "HostageRound$Row") (C := RX2) (T := TX2) (N := 15) hx hb hW inW_X2 tyX2 tyX2_ok nmX2 hown hK hP hD hS 0 rfl rfl 10 (by decide) (hW _ fl_X2_26) (fun _ h9 => h9) rfl hin rfl (by decide +kernel) rfl rfl (Nat.le_of_ble_eq_true rfl) dX2_init_53 (fun H locs hP hD hS => ?_)
  have hP : va_P D classes (jn [[(h0, .inr (2, [.int 0, .int 0, .int 0, .int 0, .int 0, .int 0, .int 0, .ref q0, .ref q1, .ref q2, .ref q3, .null, .null, .null, .null]))], kcells cI q0 a0 6 (fun _ => 0), kcells cI q1 a1 6 (fun _ => 0), kcells cI q2 a2 6 (fun _ => 0), kcells cI q3 a3 6 (fun _ => 0)]) H := hP
  have hD : va_D (va_A [(h0, .inr (2, [.int 0, .int 0, .int 0, .int 0, .int 0, .int 0, .int 0, .null, .null, .null, .null, .null, .null, .null, .null]))] s.heap.size) (jn [[(h0, .inr (2, [.int 0, .int 0, .int 0, .int 0, .int 0, .int 0, .int 0, .ref q0, .ref q1, .ref q2, .ref q3, .null, .null, .null, .null]))], kcells cI q0 a0 6 (fun _ => 0), kcells cI q1 a1 6 (fun _ => 0), kcells cI q2 a2 6 (fun _ => 0), kcells cI q3 a3 6 (fun _ => 0)]) := hD
  refine lv_aload_n hx hb dX2_init_56 rfl (lv_at hl 0 rfl) ?_
  refine va_new (ci := 3) (fs := [.null]) (C := RX3) (T := TX3) (N := 1) hx hb hW inW_X3 tyX3 tyX3_ok hown (hW _ cl_X2_9) (hW _ isb_X3) (hW _ ini_X3) hK hP hD hS hA rfl (fun j hj => by rcases (show j = 0 by omega) with rfl; rfl) (Nat.le_of_ble_eq_true rfl) (Nat.le_of_ble_eq_true rfl) dX2_init_57 (fun q4 H hP hD hS => ?_)
  rw [jn_push] at hP hD
  refine lv_dup hx hb dX2_init_60 rfl ?_
  refine lv_bipush (v := nI 6) hx hb dX2_init_61 (by decide) ?_
  refine callC (Bs := [[(h0, .inr (2, [.int 0, .int 0, .int 0, .int 0, .int 0, .int 0, .int 0, .ref q0, .ref q1, .ref q2, .ref q3, .null, .null, .null, .null]))], kcells cI q0 a0 6 (fun _ => 0), kcells cI q1 a1 6 (fun _ => 0), kcells cI q2 a2 6 (fun _ => 0), kcells cI q3 a3 6 (fun _ => 0)]) (va_runI (As := [.int (nI 6)]) (rest := [.ref q4, .ref h0]) ⟨hx, hb, hml, hown, hW⟩ (c_X3_init l D cI cZ q4 6 (by decide) H.size) (cwI0 hW mI_X3_init ml_X2_11 ⟨Nat.le_of_ble_eq_true rfl, Nat.le_of_ble_eq_true rfl⟩) (preC0 (A := (va_A [(h0, .inr (2, [.int 0, .int 0, .int 0, .int 0, .int 0, .int 0, .int 0, .null, .null, .null, .null, .null, .null, .null, .null]))] s.heap.size)) hK hN hP) rfl rfl hl.1 rfl (lv_room (Nat.le_of_ble_eq_true rfl)) dX2_init_63 ⟨Nat.le_of_ble_eq_true rfl, Nat.le_of_ble_eq_true rfl⟩) hP hD hS hA (fun a4 H locs _ hP hD hS => ?_)
  have hP : va_P D classes (jn [[(h0, .inr (2, [.int 0, .int 0, .int 0, .int 0, .int 0, .int 0, .int 0, .ref q0, .ref q1, .ref q2, .ref q3, .null, .null, .null, .null]))], kcells cI q0 a0 6 (fun _ => 0), kcells cI q1 a1 6 (fun _ => 0), kcells cI q2 a2 6 (fun _ => 0), kcells cI q3 a3 6 (fun _ => 0), kcells cI q4 a4 6 (fun _ => 0)]) H := hP
  have hD : va_D (va_A [(h0, .inr (2, [.int 0, .int 0, .int 0, .int 0, .int 0, .int 0, .int 0, .null, .null, .null, .null, .null, .null, .null, .null]))] s.heap.size) (jn [[(h0, .inr (2, [.int 0, .int 0, .int 0, .int 0, .int 0, .int 0, .int 0, .ref q0, .ref q1, .ref q2, .ref q3, .null, .null, .null, .null]))], kcells cI q0 a0 6 (fun _ => 0), kcells cI q1 a1 6 (fun _ => 0), kcells cI q2 a2 6 (fun _ => 0), kcells cI q3 a3 6 (fun _ => 0), kcells cI q4 a4 6 (fun _ => 0)]) := hD
  refine va_putF (D := D) (ci := 2) (v := .ref q4) (ty := .object "HostageRound$Row") (C := RX2) (T := TX2) (N := 15) hx hb hW inW_X2 tyX2 tyX2_ok nmX2 hown hK hP hD hS 0 rfl rfl 11 (by decide) (hW _ fl_X2_29) (fun _ h9 => h9) rfl hin rfl (by decide +kernel) rfl rfl (Nat.le_of_ble_eq_true rfl) dX2_init_66 (fun H locs hP hD hS => ?_)
  have hP : va_P D classes (jn [[(h0, .inr (2, [.int 0, .int 0, .int 0, .int 0, .int 0, .int 0, .int 0, .ref q0, .ref q1, .ref q2, .ref q3, .ref q4, .null, .null, .null]))], kcells cI q0 a0 6 (fun _ => 0), kcells cI q1 a1 6 (fun _ => 0), kcells cI q2 a2 6 (fun _ => 0), kcells cI q3 a3 6 (fun _ => 0), kcells cI q4 a4 6 (fun _ => 0)]) H := hP
  have hD : va_D (va_A [(h0, .inr (2, [.int 0, .int 0, .int 0, .int 0, .int 0, .int 0, .int 0, .null, .null, .null, .null, .null, .null, .null, .null]))] s.heap.size) (jn [[(h0, .inr (2, [.int 0, .int 0, .int 0, .int 0, .int 0, .int 0, .int 0, .ref q0, .ref q1, .ref q2, .ref q3, .ref q4, .null, .null, .null]))], kcells cI q0 a0 6 (fun _ => 0), kcells cI q1 a1 6 (fun _ => 0), kcells cI q2 a2 6 (fun _ => 0), kcells cI q3 a3 6 (fun _ => 0), kcells cI q4 a4 6 (fun _ => 0)]) := hD
  refine lv_aload_n hx hb dX2_init_69 rfl (lv_at hl 0 rfl) ?_
  refine va_new (ci := 3) (fs := [.null]) (C := RX3) (T := TX3) (N := 1) hx hb hW inW_X3 tyX3 tyX3_ok hown (hW _ cl_X2_9) (hW _ isb_X3) (hW _ ini_X3) hK hP hD hS hA rfl (fun j hj => by rcases (show j = 0 by omega) with rfl; rfl) (Nat.le_of_ble_eq_true rfl) (Nat.le_of_ble_eq_true rfl) dX2_init_70 (fun q5 H hP hD hS => ?_)
  rw [jn_push] at hP hD
  refine lv_dup hx hb dX2_init_73 rfl ?_
  refine lv_bipush (v := nI 6) hx hb dX2_init_74 (by decide) ?_
  refine callC (Bs := [[(h0, .inr (2, [.int 0, .int 0, .int 0, .int 0, .int 0, .int 0, .int 0, .ref q0, .ref q1, .ref q2, .ref q3, .ref q4, .null, .null, .null]))], kcells cI q0 a0 6 (fun _ => 0), kcells cI q1 a1 6 (fun _ => 0), kcells cI q2 a2 6 (fun _ => 0), kcells cI q3 a3 6 (fun _ => 0), kcells cI q4 a4 6 (fun _ => 0)]) (va_runI (As := [.int (nI 6)]) (rest := [.ref q5, .ref h0]) ⟨hx, hb, hml, hown, hW⟩ (c_X3_init l D cI cZ q5 6 (by decide) H.size) (cwI0 hW mI_X3_init ml_X2_11 ⟨Nat.le_of_ble_eq_true rfl, Nat.le_of_ble_eq_true rfl⟩) (preC0 (A := (va_A [(h0, .inr (2, [.int 0, .int 0, .int 0, .int 0, .int 0, .int 0, .int 0, .null, .null, .null, .null, .null, .null, .null, .null]))] s.heap.size)) hK hN hP) rfl rfl hl.1 rfl (lv_room (Nat.le_of_ble_eq_true rfl)) dX2_init_76 ⟨Nat.le_of_ble_eq_true rfl, Nat.le_of_ble_eq_true rfl⟩) hP hD hS hA (fun a5 H locs _ hP hD hS => ?_)
  have hP : va_P D classes (jn [[(h0, .inr (2, [.int 0, .int 0, .int 0, .int 0, .int 0, .int 0, .int 0, .ref q0, .ref q1, .ref q2, .ref q3, .ref q4, .null, .null, .null]))], kcells cI q0 a0 6 (fun _ => 0), kcells cI q1 a1 6 (fun _ => 0), kcells cI q2 a2 6 (fun _ => 0), kcells cI q3 a3 6 (fun _ => 0), kcells cI q4 a4 6 (fun _ => 0), kcells cI q5 a5 6 (fun _ => 0)]) H := hP
  have hD : va_D (va_A [(h0, .inr (2, [.int 0, .int 0, .int 0, .int 0, .int 0, .int 0, .int 0, .null, .null, .null, .null, .null, .null, .null, .null]))] s.heap.size) (jn [[(h0, .inr (2, [.int 0, .int 0, .int 0, .int 0, .int 0, .int 0, .int 0, .ref q0, .ref q1, .ref q2, .ref q3, .ref q4, .null, .null, .null]))], kcells cI q0 a0 6 (fun _ => 0), kcells cI q1 a1 6 (fun _ => 0), kcells cI q2 a2 6 (fun _ => 0), kcells cI q3 a3 6 (fun _ => 0), kcells cI q4 a4 6 (fun _ => 0), kcells cI q5 a5 6 (fun _ => 0)]) := hD
  refine va_putF (D := D) (ci := 2) (v := .ref q5) (ty := .object "HostageRound$Row") (C := RX2) (T := TX2) (N := 15) hx hb hW inW_X2 tyX2 tyX2_ok nmX2 hown hK hP hD hS 0 rfl rfl 12 (by decide) (hW _ fl_X2_32) (fun _ h9 => h9) rfl hin rfl (by decide +kernel) rfl rfl (Nat.le_of_ble_eq_true rfl) dX2_init_79 (fun H locs hP hD hS => ?_)
  have hP : va_P D classes (jn [[(h0, .inr (2, [.int 0, .int 0, .int 0, .int 0, .int 0, .int 0, .int 0, .ref q0, .ref q1, .ref q2, .ref q3, .ref q4, .ref q5, .null, .null]))], kcells cI q0 a0 6 (fun _ => 0), kcells cI q1 a1 6 (fun _ => 0), kcells cI q2 a2 6 (fun _ => 0), kcells cI q3 a3 6 (fun _ => 0), kcells cI q4 a4 6 (fun _ => 0), kcells cI q5 a5 6 (fun _ => 0)]) H := hP
  have hD : va_D (va_A [(h0, .inr (2, [.int 0, .int 0, .int 0, .int 0, .int 0, .int 0, .int 0, .null, .null, .null, .null, .null, .null, .null, .null]))] s.heap.size) (jn [[(h0, .inr (2, [.int 0, .int 0, .int 0, .int 0, .int 0, .int 0, .int 0, .ref q0, .ref q1, .ref q2, .ref q3, .ref q4, .ref q5, .null, .null]))], kcells cI q0 a0 6 (fun _ => 0), kcells cI q1 a1 6 (fun _ => 0), kcells cI q2 a2 6 (fun _ => 0), kcells cI q3 a3 6 (fun _ => 0), kcells cI q4 a4 6 (fun _ => 0), kcells cI q5 a5 6 (fun _ => 0)]) := hD
  refine lv_aload_n hx hb dX2_init_82 rfl (lv_at hl 0 rfl) ?_
  refine va_new (ci := 3) (fs := [.null]) (C := RX3) (T := TX3) (N := 1) hx hb hW inW_X3 tyX3 tyX3_ok hown (hW _ cl_X2_9) (hW _ isb_X3) (hW _ ini_X3) hK hP hD hS hA rfl (fun j hj => by rcases (show j = 0 by omega) with rfl; rfl) (Nat.le_of_ble_eq_true rfl) (Nat.le_of_ble_eq_true rfl) dX2_init_83 (fun q6 H hP hD hS => ?_)
  rw [jn_push] at hP hD
  refine lv_dup hx hb dX2_init_86 rfl ?_
  refine lv_bipush (v := nI 8) hx hb dX2_init_87 (by decide) ?_
  refine callC (Bs := [[(h0, .inr (2, [.int 0, .int 0, .int 0, .int 0, .int 0, .int 0, .int 0, .ref q0, .ref q1, .ref q2, .ref q3, .ref q4, .ref q5, .null, .null]))], kcells cI q0 a0 6 (fun _ => 0), kcells cI q1 a1 6 (fun _ => 0), kcells cI q2 a2 6 (fun _ => 0), kcells cI q3 a3 6 (fun _ => 0), kcells cI q4 a4 6 (fun _ => 0), kcells cI q5 a5 6 (fun _ => 0)]) (va_runI (As := [.int (nI 8)]) (rest := [.ref q6, .ref h0]) ⟨hx, hb, hml, hown, hW⟩ (c_X3_init l D cI cZ q6 8 (by decide) H.size) (cwI0 hW mI_X3_init ml_X2_11 ⟨Nat.le_of_ble_eq_true rfl, Nat.le_of_ble_eq_true rfl⟩) (preC0 (A := (va_A [(h0, .inr (2, [.int 0, .int 0, .int 0, .int 0, .int 0, .int 0, .int 0, .null, .null, .null, .null, .null, .null, .null, .null]))] s.heap.size)) hK hN hP) rfl rfl hl.1 rfl (lv_room (Nat.le_of_ble_eq_true rfl)) dX2_init_89 ⟨Nat.le_of_ble_eq_true rfl, Nat.le_of_ble_eq_true rfl⟩) hP hD hS hA (fun a6 H locs _ hP hD hS => ?_)
  have hP : va_P D classes (jn [[(h0, .inr (2, [.int 0, .int 0, .int 0, .int 0, .int 0, .int 0, .int 0, .ref q0, .ref q1, .ref q2, .ref q3, .ref q4, .ref q5, .null, .null]))], kcells cI q0 a0 6 (fun _ => 0), kcells cI q1 a1 6 (fun _ => 0), kcells cI q2 a2 6 (fun _ => 0), kcells cI q3 a3 6 (fun _ => 0), kcells cI q4 a4 6 (fun _ => 0), kcells cI q5 a5 6 (fun _ => 0), kcells cI q6 a6 8 (fun _ => 0)]) H := hP
  have hD : va_D (va_A [(h0, .inr (2, [.int 0, .int 0, .int 0, .int 0, .int 0, .int 0, .int 0, .null, .null, .null, .null, .null, .null, .null, .null]))] s.heap.size) (jn [[(h0, .inr (2, [.int 0, .int 0, .int 0, .int 0, .int 0, .int 0, .int 0, .ref q0, .ref q1, .ref q2, .ref q3, .ref q4, .ref q5, .null, .null]))], kcells cI q0 a0 6 (fun _ => 0), kcells cI q1 a1 6 (fun _ => 0), kcells cI q2 a2 6 (fun _ => 0), kcells cI q3 a3 6 (fun _ => 0), kcells cI q4 a4 6 (fun _ => 0), kcells cI q5 a5 6 (fun _ => 0), kcells cI q6 a6 8 (fun _ => 0)]) := hD
  refine va_putF (D := D) (ci := 2) (v := .ref q6) (ty := .object "HostageRound$Row") (C := RX2) (T := TX2) (N := 15) hx hb hW inW_X2 tyX2 tyX2_ok nmX2 hown hK hP hD hS 0 rfl rfl 13 (by decide) (hW _ fl_X2_35) (fun _ h9 => h9) rfl hin rfl (by decide +kernel) rfl rfl (Nat.le_of_ble_eq_true rfl) dX2_init_92 (fun H locs hP hD hS => ?_)
  have hP : va_P D classes (jn [[(h0, .inr (2, [.int 0, .int 0, .int 0, .int 0, .int 0, .int 0, .int 0, .ref q0, .ref q1, .ref q2, .ref q3, .ref q4, .ref q5, .ref q6, .null]))], kcells cI q0 a0 6 (fun _ => 0), kcells cI q1 a1 6 (fun _ => 0), kcells cI q2 a2 6 (fun _ => 0), kcells cI q3 a3 6 (fun _ => 0), kcells cI q4 a4 6 (fun _ => 0), kcells cI q5 a5 6 (fun _ => 0), kcells cI q6 a6 8 (fun _ => 0)]) H := hP
  have hD : va_D (va_A [(h0, .inr (2, [.int 0, .int 0, .int 0, .int 0, .int 0, .int 0, .int 0, .null, .null, .null, .null, .null, .null, .null, .null]))] s.heap.size) (jn [[(h0, .inr (2, [.int 0, .int 0, .int 0, .int 0, .int 0, .int 0, .int 0, .ref q0, .ref q1, .ref q2, .ref q3, .ref q4, .ref q5, .ref q6, .null]))], kcells cI q0 a0 6 (fun _ => 0), kcells cI q1 a1 6 (fun _ => 0), kcells cI q2 a2 6 (fun _ => 0), kcells cI q3 a3 6 (fun _ => 0), kcells cI q4 a4 6 (fun _ => 0), kcells cI q5 a5 6 (fun _ => 0), kcells cI q6 a6 8 (fun _ => 0)]) := hD
  refine lv_aload_n hx hb dX2_init_95 rfl (lv_at hl 0 rfl) ?_
  refine va_new (ci := 3) (fs := [.null]) (C := RX3) (T := TX3) (N := 1) hx hb hW inW_X3 tyX3 tyX3_ok hown (hW _ cl_X2_9) (hW _ isb_X3) (hW _ ini_X3) hK hP hD hS hA rfl (fun j hj => by rcases (show j = 0 by omega) with rfl; rfl) (Nat.le_of_ble_eq_true rfl) (Nat.le_of_ble_eq_true rfl) dX2_init_96 (fun q7 H hP hD hS => ?_)
  rw [jn_push] at hP hD
  refine lv_dup hx hb dX2_init_99 rfl ?_
  refine lv_bipush (v := nI 8) hx hb dX2_init_100 (by decide) ?_
  refine callC (Bs := [[(h0, .inr (2, [.int 0, .int 0, .int 0, .int 0, .int 0, .int 0, .int 0, .ref q0, .ref q1, .ref q2, .ref q3, .ref q4, .ref q5, .ref q6, .null]))], kcells cI q0 a0 6 (fun _ => 0), kcells cI q1 a1 6 (fun _ => 0), kcells cI q2 a2 6 (fun _ => 0), kcells cI q3 a3 6 (fun _ => 0), kcells cI q4 a4 6 (fun _ => 0), kcells cI q5 a5 6 (fun _ => 0), kcells cI q6 a6 8 (fun _ => 0)]) (va_runI (As := [.int (nI 8)]) (rest := [.ref q7, .ref h0]) ⟨hx, hb, hml, hown, hW⟩ (c_X3_init l D cI cZ q7 8 (by decide) H.size) (cwI0 hW mI_X3_init ml_X2_11 ⟨Nat.le_of_ble_eq_true rfl, Nat.le_of_ble_eq_true rfl⟩) (preC0 (A := (va_A [(h0, .inr (2, [.int 0, .int 0, .int 0, .int 0, .int 0, .int 0, .int 0, .null, .null, .null, .null, .null, .null, .null, .null]))] s.heap.size)) hK hN hP) rfl rfl hl.1 rfl (lv_room (Nat.le_of_ble_eq_true rfl)) dX2_init_102 ⟨Nat.le_of_ble_eq_true rfl, Nat.le_of_ble_eq_true rfl⟩) hP hD hS hA (fun a7 H locs _ hP hD hS => ?_)
  have hP : va_P D classes (jn [[(h0, .inr (2, [.int 0, .int 0, .int 0, .int 0, .int 0, .int 0, .int 0, .ref q0, .ref q1, .ref q2, .ref q3, .ref q4, .ref q5, .ref q6, .null]))], kcells cI q0 a0 6 (fun _ => 0), kcells cI q1 a1 6 (fun _ => 0), kcells cI q2 a2 6 (fun _ => 0), kcells cI q3 a3 6 (fun _ => 0), kcells cI q4 a4 6 (fun _ => 0), kcells cI q5 a5 6 (fun _ => 0), kcells cI q6 a6 8 (fun _ => 0), kcells cI q7 a7 8 (fun _ => 0)]) H := hP
  have hD : va_D (va_A [(h0, .inr (2, [.int 0, .int 0, .int 0, .int 0, .int 0, .int 0, .int 0, .null, .null, .null, .null, .null, .null, .null, .null]))] s.heap.size) (jn [[(h0, .inr (2, [.int 0, .int 0, .int 0, .int 0, .int 0, .int 0, .int 0, .ref q0, .ref q1, .ref q2, .ref q3, .ref q4, .ref q5, .ref q6, .null]))], kcells cI q0 a0 6 (fun _ => 0), kcells cI q1 a1 6 (fun _ => 0), kcells cI q2 a2 6 (fun _ => 0), kcells cI q3 a3 6 (fun _ => 0), kcells cI q4 a4 6 (fun _ => 0), kcells cI q5 a5 6 (fun _ => 0), kcells cI q6 a6 8 (fun _ => 0), kcells cI q7 a7 8 (fun _ => 0)]) := hD
  refine va_putF (D := D) (ci := 2) (v := .ref q7) (ty := .object "HostageRound$Row") (C := RX2) (T := TX2) (N := 15) hx hb hW inW_X2 tyX2 tyX2_ok nmX2 hown hK hP hD hS 0 rfl rfl 14 (by decide) (hW _ fl_X2_38) (fun _ h9 => h9) rfl hin rfl (by decide +kernel) rfl rfl (Nat.le_of_ble_eq_true rfl) dX2_init_105 (fun H locs hP hD hS => ?_)
  have hP : va_P D classes (jn [[(h0, .inr (2, [.int 0, .int 0, .int 0, .int 0, .int 0, .int 0, .int 0, .ref q0, .ref q1, .ref q2, .ref q3, .ref q4, .ref q5, .ref q6, .ref q7]))], kcells cI q0 a0 6 (fun _ => 0), kcells cI q1 a1 6 (fun _ => 0), kcells cI q2 a2 6 (fun _ => 0), kcells cI q3 a3 6 (fun _ => 0), kcells cI q4 a4 6 (fun _ => 0), kcells cI q5 a5 6 (fun _ => 0), kcells cI q6 a6 8 (fun _ => 0), kcells cI q7 a7 8 (fun _ => 0)]) H := hP
  have hD : va_D (va_A [(h0, .inr (2, [.int 0, .int 0, .int 0, .int 0, .int 0, .int 0, .int 0, .null, .null, .null, .null, .null, .null, .null, .null]))] s.heap.size) (jn [[(h0, .inr (2, [.int 0, .int 0, .int 0, .int 0, .int 0, .int 0, .int 0, .ref q0, .ref q1, .ref q2, .ref q3, .ref q4, .ref q5, .ref q6, .ref q7]))], kcells cI q0 a0 6 (fun _ => 0), kcells cI q1 a1 6 (fun _ => 0), kcells cI q2 a2 6 (fun _ => 0), kcells cI q3 a3 6 (fun _ => 0), kcells cI q4 a4 6 (fun _ => 0), kcells cI q5 a5 6 (fun _ => 0), kcells cI q6 a6 8 (fun _ => 0), kcells cI q7 a7 8 (fun _ => 0)]) := hD
  have hP9 := hP.sub (ws' := rcells cI (fun k => [h0, q0, q1, q2, q3, q4, q5, q6, q7, a0, a1, a2, a3, a4, a5, a6, a7].getD k 0) 0 Z0) [0, 1, 3, 5, 7, 9, 11, 13, 15, 2, 4, 6, 8, 10, 12, 14, 16] rfl
  have hD9 := hD.sub (ws' := rcells cI (fun k => [h0, q0, q1, q2, q3, q4, q5, q6, q7, a0, a1, a2, a3, a4, a5, a6, a7].getD k 0) 0 Z0) [0, 1, 3, 5, 7, 9, 11, 13, 15, 2, 4, 6, 8, 10, 12, 14, 16] (by decide) rfl
  refine W.widen (k := 16) (n := 60) (Nat.le_of_ble_eq_true rfl) (Nat.le_of_ble_eq_true rfl) ?_
  exact W.vret hx hb hr (fun t ht _ => ⟨⟨(fun k => [h0, q0, q1, q2, q3, q4, q5, q6, q7, a0, a1, a2, a3, a4, a5, a6, a7].getD k 0), rfl, rfl, by rw [ht]; exact hP9, hD9⟩, hS.F ht⟩) hS.2.2 dX2_init_108
set_option maxHeartbeats 4000000 in
set_option maxRecDepth 100000 in
theorem c_X5_init (l : Launch) (D : va_G) (cI cZ : ClassId) (h0 sz : Nat) : KC l yX5_init cX5_init 1 1 12 0 0 D cI cZ [.ref h0] [(h0, .inr (5, [.int 0, .int 0]))] sz (fun ad : Nat → Nat => ad 0 = h0) (fun ad => ycells ad 0 Z0) := by
  refine Met.ofC (by decide +kernel) (Nat.le_of_ble_eq_true rfl) ?_
  intro p e s m below meth c E hin hsz ls hl
  obtain ⟨hx, hb, hr, hml, hW, hown, hlocks, hP, hK, hD0, hN⟩ := E
  subst hsz
  have hD : va_D (va_A [(h0, .inr (5, [.int 0, .int 0]))] s.heap.size) [(h0, .inr (5, [.int 0, .int 0]))] := hD0.weaken (fun _ _ _ h => Or.inl h)
  have hA : ∀ q : Nat, s.heap.size ≤ q → va_A [(h0, .inr (5, [.int 0, .int 0]))] s.heap.size q := fun q h => Or.inr h
  have hS : va_S (va_A [(h0, .inr (5, [.int 0, .int 0]))] s.heap.size) s.heap s.heap [] := va_S.rf
  have hl : lv_has ls 1 [(0, .ref h0)] := hl
  refine lv_aload_n hx hb dX5_init_0 rfl (lv_at hl 0 rfl) ?_
  refine W.objInit hx hb hown (hW _ ml_X5_3) (hW _ im_obj) (hW _ cd_obj) rfl (by rw [hml]; exact hl.1) rfl dX5_init_1 (Nat.le_of_ble_eq_true rfl) (Nat.le_of_ble_eq_true rfl) ?_
  refine W.eq (g2 := F0 m 4 ls []) rfl ?_
  exact W.vret hx hb hr (fun t ht _ => ⟨⟨(fun _ => h0), rfl, rfl, by rw [ht]; exact hP, hD⟩, hS.F ht⟩) hS.2.2 dX5_init_4
set_option maxHeartbeats 4000000 in
set_option maxRecDepth 100000 in
/-- HostageRound(): four Rounds, all else of 0 -/
theorem c_X6_init (l : Launch) (D : va_G) (cI cZ : ClassId) (h0 sz : Nat) (k : St → Prop) (hw : wp_X2_startAnew (sI Z0 1 90) 4 k) : KC l yX6_init cX6_init 1 3 61 82 456 D cI cZ [.ref h0] [(h0, .inr (6, [.null, .null, .null, .null, .null, .null, .null, .null, .null]))] sz (fun u : (Nat → Nat) × St => u.1 0 = h0 ∧ k u.2) (fun u => jn [xcell u.1, rcells cI u.1 1 u.2, rcells cI u.1 18 Z0, rcells cI u.1 35 Z0, rcells cI u.1 52 Z0, kcells cI (u.1 69) (u.1 70) 2 (fun _ => 0), pcells cI u.1 71 Z0, ycells u.1 74 Z0, dcells cI u.1 75 Z0, wcells cI u.1 78 Z0]) := by
  refine Met.ofC (by decide +kernel) (Nat.le_of_ble_eq_true rfl) ?_
  intro p e s m below meth c E hin hsz ls hl
  obtain ⟨hx, hb, hr, hml, hW, hown, hlocks, hP, hK, hD0, hN⟩ := E
  subst hsz
  have hD : va_D (va_A [(h0, .inr (6, [.null, .null, .null, .null, .null, .null, .null, .null, .null]))] s.heap.size) [(h0, .inr (6, [.null, .null, .null, .null, .null, .null, .null, .null, .null]))] := hD0.weaken (fun _ _ _ h => Or.inl h)
  have hA : ∀ q : Nat, s.heap.size ≤ q → va_A [(h0, .inr (6, [.null, .null, .null, .null, .null, .null, .null, .null, .null]))] s.heap.size q := fun q h => Or.inr h
  have hS : va_S (va_A [(h0, .inr (6, [.null, .null, .null, .null, .null, .null, .null, .null, .null]))] s.heap.size) s.heap s.heap [] := va_S.rf
  have hl : lv_has ls 1 [(0, .ref h0)] := hl
  rw [← jn_one [(h0, .inr (6, [.null, .null, .null, .null, .null, .null, .null, .null, .null]))]] at hP hD
  refine lv_aload_n hx hb dX6_init_0 rfl (lv_at hl 0 rfl) ?_
  refine W.objInit hx hb hown (hW _ ml_X6_1) (hW _ im_obj) (hW _ cd_obj) rfl (by rw [hml]; exact hl.1) rfl dX6_init_1 (Nat.le_of_ble_eq_true rfl) (Nat.le_of_ble_eq_true rfl) ?_
  refine W.eq (g2 := F0 m 4 ls []) rfl ?_
  refine lv_aload_n hx hb dX6_init_4 rfl (lv_at hl 0 rfl) ?_
  refine va_new (ci := 2) (fs := [.int 0, .int 0, .int 0, .int 0, .int 0, .int 0, .int 0, .null, .null, .null, .null, .null, .null, .null, .null]) (C := RX2) (T := TX2) (N := 15) hx hb hW inW_X2 tyX2 tyX2_ok hown (hW _ cl_X6_7) (hW _ isb_X2) (hW _ ini_X2) hK hP hD hS hA rfl (fun j hj => by rcases (show j = 0 ∨ j = 1 ∨ j = 2 ∨ j = 3 ∨ j = 4 ∨ j = 5 ∨ j = 6 ∨ j = 7 ∨ j = 8 ∨ j = 9 ∨ j = 10 ∨ j = 11 ∨ j = 12 ∨ j = 13 ∨ j = 14 by omega) with rfl | rfl | rfl | rfl | rfl | rfl | rfl | rfl | rfl | rfl | rfl | rfl | rfl | rfl | rfl <;> rfl) (Nat.le_of_ble_eq_true rfl) (Nat.le_of_ble_eq_true rfl) dX6_init_5 (fun q0 H hP hD hS => ?_)
  rw [jn_push] at hP hD
  refine lv_dup hx hb dX6_init_8 rfl ?_
  refine callC (Bs := [[(h0, .inr (6, [.null, .null, .null, .null, .null, .null, .null, .null, .null]))]]) (va_runIN (As := []) (rest := [.ref q0, .ref h0]) ⟨hx, hb, hml, hown, hW⟩ (c_X2_init l D cI cZ q0 H.size) (cwIN0 hW hN mI_X2_init nl_X6_9 ⟨Nat.le_of_ble_eq_true rfl, Nat.le_of_ble_eq_true rfl⟩) (preC0 (A := (va_A [(h0, .inr (6, [.null, .null, .null, .null, .null, .null, .null, .null, .null]))] s.heap.size)) hK hN hP) rfl rfl hl.1 rfl (lv_room (Nat.le_of_ble_eq_true rfl)) dX6_init_9 ⟨Nat.le_of_ble_eq_true rfl, Nat.le_of_ble_eq_true rfl⟩) hP hD hS hA (fun a0 H locs hq9 hP hD hS => ?_)
  have hP : va_P D classes (jn [[(h0, .inr (6, [.null, .null, .null, .null, .null, .null, .null, .null, .null]))], rcells cI a0 0 Z0]) H := hP
  have hD : va_D (va_A [(h0, .inr (6, [.null, .null, .null, .null, .null, .null, .null, .null, .null]))] s.heap.size) (jn [[(h0, .inr (6, [.null, .null, .null, .null, .null, .null, .null, .null, .null]))], rcells cI a0 0 Z0]) := hD
  rw [← hq9]
  refine va_putF (D := D) (ci := 6) (v := .ref (a0 0)) (ty := .object "HostageRound$Round") (C := RX6) (T := TX6) (N := 9) hx hb hW inW_X6 tyX6 tyX6_ok nmX6 hown hK hP hD hS 0 rfl rfl 0 (by decide) (hW _ fl_X6_10) (fun _ h9 => h9) rfl hin rfl (by decide +kernel) rfl rfl (Nat.le_of_ble_eq_true rfl) dX6_init_12 (fun H locs hP hD hS => ?_)
  have hP : va_P D classes (jn [[(h0, .inr (6, [.ref (a0 0), .null, .null, .null, .null, .null, .null, .null, .null]))], rcells cI a0 0 Z0]) H := hP
  have hD : va_D (va_A [(h0, .inr (6, [.null, .null, .null, .null, .null, .null, .null, .null, .null]))] s.heap.size) (jn [[(h0, .inr (6, [.ref (a0 0), .null, .null, .null, .null, .null, .null, .null, .null]))], rcells cI a0 0 Z0]) := hD
  refine lv_aload_n hx hb dX6_init_15 rfl (lv_at hl 0 rfl) ?_
  refine va_new (ci := 2) (fs := [.int 0, .int 0, .int 0, .int 0, .int 0, .int 0, .int 0, .null, .null, .null, .null, .null, .null, .null, .null]) (C := RX2) (T := TX2) (N := 15) hx hb hW inW_X2 tyX2 tyX2_ok hown (hW _ cl_X6_7) (hW _ isb_X2) (hW _ ini_X2) hK hP hD hS hA rfl (fun j hj => by rcases (show j = 0 ∨ j = 1 ∨ j = 2 ∨ j = 3 ∨ j = 4 ∨ j = 5 ∨ j = 6 ∨ j = 7 ∨ j = 8 ∨ j = 9 ∨ j = 10 ∨ j = 11 ∨ j = 12 ∨ j = 13 ∨ j = 14 by omega) with rfl | rfl | rfl | rfl | rfl | rfl | rfl | rfl | rfl | rfl | rfl | rfl | rfl | rfl | rfl <;> rfl) (Nat.le_of_ble_eq_true rfl) (Nat.le_of_ble_eq_true rfl) dX6_init_16 (fun q1 H hP hD hS => ?_)
  rw [jn_push] at hP hD
  refine lv_dup hx hb dX6_init_19 rfl ?_
  refine callC (Bs := [[(h0, .inr (6, [.ref (a0 0), .null, .null, .null, .null, .null, .null, .null, .null]))], rcells cI a0 0 Z0]) (va_runIN (As := []) (rest := [.ref q1, .ref h0]) ⟨hx, hb, hml, hown, hW⟩ (c_X2_init l D cI cZ q1 H.size) (cwIN0 hW hN mI_X2_init nl_X6_9 ⟨Nat.le_of_ble_eq_true rfl, Nat.le_of_ble_eq_true rfl⟩) (preC0 (A := (va_A [(h0, .inr (6, [.null, .null, .null, .null, .null, .null, .null, .null, .null]))] s.heap.size)) hK hN hP) rfl rfl hl.1 rfl (lv_room (Nat.le_of_ble_eq_true rfl)) dX6_init_20 ⟨Nat.le_of_ble_eq_true rfl, Nat.le_of_ble_eq_true rfl⟩) hP hD hS hA (fun a1 H locs hq9 hP hD hS => ?_)
  have hP : va_P D classes (jn [[(h0, .inr (6, [.ref (a0 0), .null, .null, .null, .null, .null, .null, .null, .null]))], rcells cI a0 0 Z0, rcells cI a1 0 Z0]) H := hP
  have hD : va_D (va_A [(h0, .inr (6, [.null, .null, .null, .null, .null, .null, .null, .null, .null]))] s.heap.size) (jn [[(h0, .inr (6, [.ref (a0 0), .null, .null, .null, .null, .null, .null, .null, .null]))], rcells cI a0 0 Z0, rcells cI a1 0 Z0]) := hD
  rw [← hq9]
  refine va_putF (D := D) (ci := 6) (v := .ref (a1 0)) (ty := .object "HostageRound$Round") (C := RX6) (T := TX6) (N := 9) hx hb hW inW_X6 tyX6 tyX6_ok nmX6 hown hK hP hD hS 0 rfl rfl 1 (by decide) (hW _ fl_X6_16) (fun _ h9 => h9) rfl hin rfl (by decide +kernel) rfl rfl (Nat.le_of_ble_eq_true rfl) dX6_init_23 (fun H locs hP hD hS => ?_)
  have hP : va_P D classes (jn [[(h0, .inr (6, [.ref (a0 0), .ref (a1 0), .null, .null, .null, .null, .null, .null, .null]))], rcells cI a0 0 Z0, rcells cI a1 0 Z0]) H := hP
  have hD : va_D (va_A [(h0, .inr (6, [.null, .null, .null, .null, .null, .null, .null, .null, .null]))] s.heap.size) (jn [[(h0, .inr (6, [.ref (a0 0), .ref (a1 0), .null, .null, .null, .null, .null, .null, .null]))], rcells cI a0 0 Z0, rcells cI a1 0 Z0]) := hD
  refine lv_aload_n hx hb dX6_init_26 rfl (lv_at hl 0 rfl) ?_
  refine va_new (ci := 2) (fs := [.int 0, .int 0, .int 0, .int 0, .int 0, .int 0, .int 0, .null, .null, .null, .null, .null, .null, .null, .null]) (C := RX2) (T := TX2) (N := 15) hx hb hW inW_X2 tyX2 tyX2_ok hown (hW _ cl_X6_7) (hW _ isb_X2) (hW _ ini_X2) hK hP hD hS hA rfl (fun j hj => by rcases (show j = 0 ∨ j = 1 ∨ j = 2 ∨ j = 3 ∨ j = 4 ∨ j = 5 ∨ j = 6 ∨ j = 7 ∨ j = 8 ∨ j = 9 ∨ j = 10 ∨ j = 11 ∨ j = 12 ∨ j = 13 ∨ j = 14 by omega) with rfl | rfl | rfl | rfl | rfl | rfl | rfl | rfl | rfl | rfl | rfl | rfl | rfl | rfl | rfl <;> rfl) (Nat.le_of_ble_eq_true rfl) (Nat.le_of_ble_eq_true rfl) dX6_init_27 (fun q2 H hP hD hS => ?_)
  rw [jn_push] at hP hD
  refine lv_dup hx hb dX6_init_30 rfl ?_
  refine callC (Bs := [[(h0, .inr (6, [.ref (a0 0), .ref (a1 0), .null, .null, .null, .null, .null, .null, .null]))], rcells cI a0 0 Z0, rcells cI a1 0 Z0]) (va_runIN (As := []) (rest := [.ref q2, .ref h0]) ⟨hx, hb, hml, hown, hW⟩ (c_X2_init l D cI cZ q2 H.size) (cwIN0 hW hN mI_X2_init nl_X6_9 ⟨Nat.le_of_ble_eq_true rfl, Nat.le_of_ble_eq_true rfl⟩) (preC0 (A := (va_A [(h0, .inr (6, [.null, .null, .null, .null, .null, .null, .null, .null, .null]))] s.heap.size)) hK hN hP) rfl rfl hl.1 rfl (lv_room (Nat.le_of_ble_eq_true rfl)) dX6_init_31 ⟨Nat.le_of_ble_eq_true rfl, Nat.le_of_ble_eq_true rfl⟩) hP hD hS hA (fun a2 H locs hq9 hP hD hS => ?_)
  have hP : va_P D classes (jn [[(h0, .inr (6, [.ref (a0 0), .ref (a1 0), .null, .null, .null, .null, .null, .null, .null]))], rcells cI a0 0 Z0, rcells cI a1 0 Z0, rcells cI a2 0 Z0]) H := hP
  have hD : va_D (va_A [(h0, .inr (6, [.null, .null, .null, .null, .null, .null, .null, .null, .null]))] s.heap.size) (jn [[(h0, .inr (6, [.ref (a0 0), .ref (a1 0), .null, .null, .null, .null, .null, .null, .null]))], rcells cI a0 0 Z0, rcells cI a1 0 Z0, rcells cI a2 0 Z0]) := hD
  rw [← hq9]
  refine va_putF (D := D) (ci := 6) (v := .ref (a2 0)) (ty := .object "HostageRound$Round") (C := RX6) (T := TX6) (N := 9) hx hb hW inW_X6 tyX6 tyX6_ok nmX6 hown hK hP hD hS 0 rfl rfl 2 (by decide) (hW _ fl_X6_19) (fun _ h9 => h9) rfl hin rfl (by decide +kernel) rfl rfl (Nat.le_of_ble_eq_true rfl) dX6_init_34 (fun H locs hP hD hS => ?_)
  have hP : va_P D classes (jn [[(h0, .inr (6, [.ref (a0 0), .ref (a1 0), .ref (a2 0), .null, .null, .null, .null, .null, .null]))], rcells cI a0 0 Z0, rcells cI a1 0 Z0, rcells cI a2 0 Z0]) H := hP
  have hD : va_D (va_A [(h0, .inr (6, [.null, .null, .null, .null, .null, .null, .null, .null, .null]))] s.heap.size) (jn [[(h0, .inr (6, [.ref (a0 0), .ref (a1 0), .ref (a2 0), .null, .null, .null, .null, .null, .null]))], rcells cI a0 0 Z0, rcells cI a1 0 Z0, rcells cI a2 0 Z0]) := hD
  refine lv_aload_n hx hb dX6_init_37 rfl (lv_at hl 0 rfl) ?_
  refine va_new (ci := 2) (fs := [.int 0, .int 0, .int 0, .int 0, .int 0, .int 0, .int 0, .null, .null, .null, .null, .null, .null, .null, .null]) (C := RX2) (T := TX2) (N := 15) hx hb hW inW_X2 tyX2 tyX2_ok hown (hW _ cl_X6_7) (hW _ isb_X2) (hW _ ini_X2) hK hP hD hS hA rfl (fun j hj => by rcases (show j = 0 ∨ j = 1 ∨ j = 2 ∨ j = 3 ∨ j = 4 ∨ j = 5 ∨ j = 6 ∨ j = 7 ∨ j = 8 ∨ j = 9 ∨ j = 10 ∨ j = 11 ∨ j = 12 ∨ j = 13 ∨ j = 14 by omega) with rfl | rfl | rfl | rfl | rfl | rfl | rfl | rfl | rfl | rfl | rfl | rfl | rfl | rfl | rfl <;> rfl) (Nat.le_of_ble_eq_true rfl) (Nat.le_of_ble_eq_true rfl) dX6_init_38 (fun q3 H hP hD hS => ?_)
  rw [jn_push] at hP hD
  refine lv_dup hx hb dX6_init_41 rfl ?_
  refine callC (Bs := [[(h0, .inr (6, [.ref (a0 0), .ref (a1 0), .ref (a2 0), .null, .null, .null, .null, .null, .null]))], rcells cI a0 0 Z0, rcells cI a1 0 Z0, rcells cI a2 0 Z0]) (va_runIN (As := []) (rest := [.ref q3, .ref h0]) ⟨hx, hb, hml, hown, hW⟩ (c_X2_init l D cI cZ q3 H.size) (cwIN0 hW hN mI_X2_init nl_X6_9 ⟨Nat.le_of_ble_eq_true rfl, Nat.le_of_ble_eq_true rfl⟩) (preC0 (A := (va_A [(h0, .inr (6, [.null, .null, .null, .null, .null, .null, .null, .null, .null]))] s.heap.size)) hK hN hP) rfl rfl hl.1 rfl (lv_room (Nat.le_of_ble_eq_true rfl)) dX6_init_42 ⟨Nat.le_of_ble_eq_true rfl, Nat.le_of_ble_eq_true rfl⟩) hP hD hS hA (fun a3 H locs hq9 hP hD hS => ?_)
  have hP : va_P D classes (jn [[(h0, .inr (6, [.ref (a0 0), .ref (a1 0), .ref (a2 0), .null, .null, .null, .null, .null, .null]))], rcells cI a0 0 Z0, rcells cI a1 0 Z0, rcells cI a2 0 Z0, rcells cI a3 0 Z0]) H := hP
  have hD : va_D (va_A [(h0, .inr (6, [.null, .null, .null, .null, .null, .null, .null, .null, .null]))] s.heap.size) (jn [[(h0, .inr (6, [.ref (a0 0), .ref (a1 0), .ref (a2 0), .null, .null, .null, .null, .null, .null]))], rcells cI a0 0 Z0, rcells cI a1 0 Z0, rcells cI a2 0 Z0, rcells cI a3 0 Z0]) := hD
  rw [← hq9]
  refine va_putF (D := D) (ci := 6) (v := .ref (a3 0)) (ty := .object "HostageRound$Round") (C := RX6) (T := TX6) (N := 9) hx hb hW inW_X6 tyX6 tyX6_ok nmX6 hown hK hP hD hS 0 rfl rfl 3 (by decide) (hW _ fl_X6_22) (fun _ h9 => h9) rfl hin rfl (by decide +kernel) rfl rfl (Nat.le_of_ble_eq_true rfl) dX6_init_45 (fun H locs hP hD hS => ?_)
  have hP : va_P D classes (jn [[(h0, .inr (6, [.ref (a0 0), .ref (a1 0), .ref (a2 0), .ref (a3 0), .null, .null, .null, .null, .null]))], rcells cI a0 0 Z0, rcells cI a1 0 Z0, rcells cI a2 0 Z0, rcells cI a3 0 Z0]) H := hP
  have hD : va_D (va_A [(h0, .inr (6, [.null, .null, .null, .null, .null, .null, .null, .null, .null]))] s.heap.size) (jn [[(h0, .inr (6, [.ref (a0 0), .ref (a1 0), .ref (a2 0), .ref (a3 0), .null, .null, .null, .null, .null]))], rcells cI a0 0 Z0, rcells cI a1 0 Z0, rcells cI a2 0 Z0, rcells cI a3 0 Z0]) := hD
  refine lv_aload_n hx hb dX6_init_48 rfl (lv_at hl 0 rfl) ?_
  refine va_new (ci := 3) (fs := [.null]) (C := RX3) (T := TX3) (N := 1) hx hb hW inW_X3 tyX3 tyX3_ok hown (hW _ cl_X6_25) (hW _ isb_X3) (hW _ ini_X3) hK hP hD hS hA rfl (fun j hj => by rcases (show j = 0 by omega) with rfl <;> rfl) (Nat.le_of_ble_eq_true rfl) (Nat.le_of_ble_eq_true rfl) dX6_init_49 (fun q4 H hP hD hS => ?_)
  rw [jn_push] at hP hD
  refine lv_dup hx hb dX6_init_52 rfl ?_
  refine lv_iconst (v := nI 2) hx hb dX6_init_53 (by decide) ?_
  refine callC (Bs := [[(h0, .inr (6, [.ref (a0 0), .ref (a1 0), .ref (a2 0), .ref (a3 0), .null, .null, .null, .null, .null]))], rcells cI a0 0 Z0, rcells cI a1 0 Z0, rcells cI a2 0 Z0, rcells cI a3 0 Z0]) (va_runI (As := [.int (nI 2)]) (rest := [.ref q4, .ref h0]) ⟨hx, hb, hml, hown, hW⟩ (c_X3_init l D cI cZ q4 2 (by decide) H.size) (cwI0 hW mI_X3_init ml_X6_27 ⟨Nat.le_of_ble_eq_true rfl, Nat.le_of_ble_eq_true rfl⟩) (preC0 (A := (va_A [(h0, .inr (6, [.null, .null, .null, .null, .null, .null, .null, .null, .null]))] s.heap.size)) hK hN hP) rfl rfl hl.1 rfl (lv_room (Nat.le_of_ble_eq_true rfl)) dX6_init_54 ⟨Nat.le_of_ble_eq_true rfl, Nat.le_of_ble_eq_true rfl⟩) hP hD hS hA (fun a4 H locs hq9 hP hD hS => ?_)
  have hP : va_P D classes (jn [[(h0, .inr (6, [.ref (a0 0), .ref (a1 0), .ref (a2 0), .ref (a3 0), .null, .null, .null, .null, .null]))], rcells cI a0 0 Z0, rcells cI a1 0 Z0, rcells cI a2 0 Z0, rcells cI a3 0 Z0, kcells cI q4 a4 2 (fun _ => 0)]) H := hP
  have hD : va_D (va_A [(h0, .inr (6, [.null, .null, .null, .null, .null, .null, .null, .null, .null]))] s.heap.size) (jn [[(h0, .inr (6, [.ref (a0 0), .ref (a1 0), .ref (a2 0), .ref (a3 0), .null, .null, .null, .null, .null]))], rcells cI a0 0 Z0, rcells cI a1 0 Z0, rcells cI a2 0 Z0, rcells cI a3 0 Z0, kcells cI q4 a4 2 (fun _ => 0)]) := hD
  refine va_putF (D := D) (ci := 6) (v := .ref q4) (ty := .object "HostageRound$Row") (C := RX6) (T := TX6) (N := 9) hx hb hW inW_X6 tyX6 tyX6_ok nmX6 hown hK hP hD hS 0 rfl rfl 4 (by decide) (hW _ fl_X6_30) (fun _ h9 => h9) rfl hin rfl (by decide +kernel) rfl rfl (Nat.le_of_ble_eq_true rfl) dX6_init_57 (fun H locs hP hD hS => ?_)
  have hP : va_P D classes (jn [[(h0, .inr (6, [.ref (a0 0), .ref (a1 0), .ref (a2 0), .ref (a3 0), .ref q4, .null, .null, .null, .null]))], rcells cI a0 0 Z0, rcells cI a1 0 Z0, rcells cI a2 0 Z0, rcells cI a3 0 Z0, kcells cI q4 a4 2 (fun _ => 0)]) H := hP
  have hD : va_D (va_A [(h0, .inr (6, [.null, .null, .null, .null, .null, .null, .null, .null, .null]))] s.heap.size) (jn [[(h0, .inr (6, [.ref (a0 0), .ref (a1 0), .ref (a2 0), .ref (a3 0), .ref q4, .null, .null, .null, .null]))], rcells cI a0 0 Z0, rcells cI a1 0 Z0, rcells cI a2 0 Z0, rcells cI a3 0 Z0, kcells cI q4 a4 2 (fun _ => 0)]) := hD
  refine lv_aload_n hx hb dX6_init_60 rfl (lv_at hl 0 rfl) ?_
  refine va_new (ci := 1) (fs := [.null, .int 0]) (C := RX1) (T := TX1) (N := 2) hx hb hW inW_X1 tyX1 tyX1_ok hown (hW _ cl_X6_34) (hW _ isb_X1) (hW _ ini_X1) hK hP hD hS hA rfl (fun j hj => by rcases (show j = 0 ∨ j = 1 by omega) with rfl | rfl <;> rfl) (Nat.le_of_ble_eq_true rfl) (Nat.le_of_ble_eq_true rfl) dX6_init_61 (fun q5 H hP hD hS => ?_)
  rw [jn_push] at hP hD
  refine lv_dup hx hb dX6_init_64 rfl ?_
  refine callC (Bs := [[(h0, .inr (6, [.ref (a0 0), .ref (a1 0), .ref (a2 0), .ref (a3 0), .ref q4, .null, .null, .null, .null]))], rcells cI a0 0 Z0, rcells cI a1 0 Z0, rcells cI a2 0 Z0, rcells cI a3 0 Z0, kcells cI q4 a4 2 (fun _ => 0)]) (va_runIN (As := []) (rest := [.ref q5, .ref h0]) ⟨hx, hb, hml, hown, hW⟩ (c_X1_init l D cI cZ q5 H.size) (cwIN0 hW hN mI_X1_init nl_X6_36 ⟨Nat.le_of_ble_eq_true rfl, Nat.le_of_ble_eq_true rfl⟩) (preC0 (A := (va_A [(h0, .inr (6, [.null, .null, .null, .null, .null, .null, .null, .null, .null]))] s.heap.size)) hK hN hP) rfl rfl hl.1 rfl (lv_room (Nat.le_of_ble_eq_true rfl)) dX6_init_65 ⟨Nat.le_of_ble_eq_true rfl, Nat.le_of_ble_eq_true rfl⟩) hP hD hS hA (fun a5 H locs hq9 hP hD hS => ?_)
  have hP : va_P D classes (jn [[(h0, .inr (6, [.ref (a0 0), .ref (a1 0), .ref (a2 0), .ref (a3 0), .ref q4, .null, .null, .null, .null]))], rcells cI a0 0 Z0, rcells cI a1 0 Z0, rcells cI a2 0 Z0, rcells cI a3 0 Z0, kcells cI q4 a4 2 (fun _ => 0), pcells cI a5 0 Z0]) H := hP
  have hD : va_D (va_A [(h0, .inr (6, [.null, .null, .null, .null, .null, .null, .null, .null, .null]))] s.heap.size) (jn [[(h0, .inr (6, [.ref (a0 0), .ref (a1 0), .ref (a2 0), .ref (a3 0), .ref q4, .null, .null, .null, .null]))], rcells cI a0 0 Z0, rcells cI a1 0 Z0, rcells cI a2 0 Z0, rcells cI a3 0 Z0, kcells cI q4 a4 2 (fun _ => 0), pcells cI a5 0 Z0]) := hD
  rw [← hq9]
  refine va_putF (D := D) (ci := 6) (v := .ref (a5 0)) (ty := .object "HostageRound$Pad") (C := RX6) (T := TX6) (N := 9) hx hb hW inW_X6 tyX6 tyX6_ok nmX6 hown hK hP hD hS 0 rfl rfl 5 (by decide) (hW _ fl_X6_37) (fun _ h9 => h9) rfl hin rfl (by decide +kernel) rfl rfl (Nat.le_of_ble_eq_true rfl) dX6_init_68 (fun H locs hP hD hS => ?_)
  have hP : va_P D classes (jn [[(h0, .inr (6, [.ref (a0 0), .ref (a1 0), .ref (a2 0), .ref (a3 0), .ref q4, .ref (a5 0), .null, .null, .null]))], rcells cI a0 0 Z0, rcells cI a1 0 Z0, rcells cI a2 0 Z0, rcells cI a3 0 Z0, kcells cI q4 a4 2 (fun _ => 0), pcells cI a5 0 Z0]) H := hP
  have hD : va_D (va_A [(h0, .inr (6, [.null, .null, .null, .null, .null, .null, .null, .null, .null]))] s.heap.size) (jn [[(h0, .inr (6, [.ref (a0 0), .ref (a1 0), .ref (a2 0), .ref (a3 0), .ref q4, .ref (a5 0), .null, .null, .null]))], rcells cI a0 0 Z0, rcells cI a1 0 Z0, rcells cI a2 0 Z0, rcells cI a3 0 Z0, kcells cI q4 a4 2 (fun _ => 0), pcells cI a5 0 Z0]) := hD
  refine lv_aload_n hx hb dX6_init_71 rfl (lv_at hl 0 rfl) ?_
  refine va_new (ci := 5) (fs := [.int 0, .int 0]) (C := RX5) (T := TX5) (N := 2) hx hb hW inW_X5 tyX5 tyX5_ok hown (hW _ cl_X6_41) (hW _ isb_X5) (hW _ ini_X5) hK hP hD hS hA rfl (fun j hj => by rcases (show j = 0 ∨ j = 1 by omega) with rfl | rfl <;> rfl) (Nat.le_of_ble_eq_true rfl) (Nat.le_of_ble_eq_true rfl) dX6_init_72 (fun q6 H hP hD hS => ?_)
  rw [jn_push] at hP hD
  refine lv_dup hx hb dX6_init_75 rfl ?_
  refine callC (Bs := [[(h0, .inr (6, [.ref (a0 0), .ref (a1 0), .ref (a2 0), .ref (a3 0), .ref q4, .ref (a5 0), .null, .null, .null]))], rcells cI a0 0 Z0, rcells cI a1 0 Z0, rcells cI a2 0 Z0, rcells cI a3 0 Z0, kcells cI q4 a4 2 (fun _ => 0), pcells cI a5 0 Z0]) (va_runIN (As := []) (rest := [.ref q6, .ref h0]) ⟨hx, hb, hml, hown, hW⟩ (c_X5_init l D cI cZ q6 H.size) (cwIN0 hW hN mI_X5_init nl_X6_43 ⟨Nat.le_of_ble_eq_true rfl, Nat.le_of_ble_eq_true rfl⟩) (preC0 (A := (va_A [(h0, .inr (6, [.null, .null, .null, .null, .null, .null, .null, .null, .null]))] s.heap.size)) hK hN hP) rfl rfl hl.1 rfl (lv_room (Nat.le_of_ble_eq_true rfl)) dX6_init_76 ⟨Nat.le_of_ble_eq_true rfl, Nat.le_of_ble_eq_true rfl⟩) hP hD hS hA (fun a6 H locs hq9 hP hD hS => ?_)
  have hP : va_P D classes (jn [[(h0, .inr (6, [.ref (a0 0), .ref (a1 0), .ref (a2 0), .ref (a3 0), .ref q4, .ref (a5 0), .null, .null, .null]))], rcells cI a0 0 Z0, rcells cI a1 0 Z0, rcells cI a2 0 Z0, rcells cI a3 0 Z0, kcells cI q4 a4 2 (fun _ => 0), pcells cI a5 0 Z0, ycells a6 0 Z0]) H := hP
  have hD : va_D (va_A [(h0, .inr (6, [.null, .null, .null, .null, .null, .null, .null, .null, .null]))] s.heap.size) (jn [[(h0, .inr (6, [.ref (a0 0), .ref (a1 0), .ref (a2 0), .ref (a3 0), .ref q4, .ref (a5 0), .null, .null, .null]))], rcells cI a0 0 Z0, rcells cI a1 0 Z0, rcells cI a2 0 Z0, rcells cI a3 0 Z0, kcells cI q4 a4 2 (fun _ => 0), pcells cI a5 0 Z0, ycells a6 0 Z0]) := hD
  rw [← hq9]
  refine va_putF (D := D) (ci := 6) (v := .ref (a6 0)) (ty := .object "HostageRound$Years") (C := RX6) (T := TX6) (N := 9) hx hb hW inW_X6 tyX6 tyX6_ok nmX6 hown hK hP hD hS 0 rfl rfl 6 (by decide) (hW _ fl_X6_44) (fun _ h9 => h9) rfl hin rfl (by decide +kernel) rfl rfl (Nat.le_of_ble_eq_true rfl) dX6_init_79 (fun H locs hP hD hS => ?_)
  have hP : va_P D classes (jn [[(h0, .inr (6, [.ref (a0 0), .ref (a1 0), .ref (a2 0), .ref (a3 0), .ref q4, .ref (a5 0), .ref (a6 0), .null, .null]))], rcells cI a0 0 Z0, rcells cI a1 0 Z0, rcells cI a2 0 Z0, rcells cI a3 0 Z0, kcells cI q4 a4 2 (fun _ => 0), pcells cI a5 0 Z0, ycells a6 0 Z0]) H := hP
  have hD : va_D (va_A [(h0, .inr (6, [.null, .null, .null, .null, .null, .null, .null, .null, .null]))] s.heap.size) (jn [[(h0, .inr (6, [.ref (a0 0), .ref (a1 0), .ref (a2 0), .ref (a3 0), .ref q4, .ref (a5 0), .ref (a6 0), .null, .null]))], rcells cI a0 0 Z0, rcells cI a1 0 Z0, rcells cI a2 0 Z0, rcells cI a3 0 Z0, kcells cI q4 a4 2 (fun _ => 0), pcells cI a5 0 Z0, ycells a6 0 Z0]) := hD
  refine lv_aload_n hx hb dX6_init_82 rfl (lv_at hl 0 rfl) ?_
  refine va_new (ci := 0) (fs := [.null, .int 0, .int 0, .int 0, .int 0, .int 0, .int 0]) (C := RX0) (T := TX0) (N := 7) hx hb hW inW_X0 tyX0 tyX0_ok hown (hW _ cl_X6_48) (hW _ isb_X0) (hW _ ini_X0) hK hP hD hS hA rfl (fun j hj => by rcases (show j = 0 ∨ j = 1 ∨ j = 2 ∨ j = 3 ∨ j = 4 ∨ j = 5 ∨ j = 6 by omega) with rfl | rfl | rfl | rfl | rfl | rfl | rfl <;> rfl) (Nat.le_of_ble_eq_true rfl) (Nat.le_of_ble_eq_true rfl) dX6_init_83 (fun q7 H hP hD hS => ?_)
  rw [jn_push] at hP hD
  refine lv_dup hx hb dX6_init_86 rfl ?_
  refine callC (Bs := [[(h0, .inr (6, [.ref (a0 0), .ref (a1 0), .ref (a2 0), .ref (a3 0), .ref q4, .ref (a5 0), .ref (a6 0), .null, .null]))], rcells cI a0 0 Z0, rcells cI a1 0 Z0, rcells cI a2 0 Z0, rcells cI a3 0 Z0, kcells cI q4 a4 2 (fun _ => 0), pcells cI a5 0 Z0, ycells a6 0 Z0]) (va_runIN (As := []) (rest := [.ref q7, .ref h0]) ⟨hx, hb, hml, hown, hW⟩ (c_X0_init l D cI cZ q7 H.size) (cwIN0 hW hN mI_X0_init nl_X6_50 ⟨Nat.le_of_ble_eq_true rfl, Nat.le_of_ble_eq_true rfl⟩) (preC0 (A := (va_A [(h0, .inr (6, [.null, .null, .null, .null, .null, .null, .null, .null, .null]))] s.heap.size)) hK hN hP) rfl rfl hl.1 rfl (lv_room (Nat.le_of_ble_eq_true rfl)) dX6_init_87 ⟨Nat.le_of_ble_eq_true rfl, Nat.le_of_ble_eq_true rfl⟩) hP hD hS hA (fun a7 H locs hq9 hP hD hS => ?_)
  have hP : va_P D classes (jn [[(h0, .inr (6, [.ref (a0 0), .ref (a1 0), .ref (a2 0), .ref (a3 0), .ref q4, .ref (a5 0), .ref (a6 0), .null, .null]))], rcells cI a0 0 Z0, rcells cI a1 0 Z0, rcells cI a2 0 Z0, rcells cI a3 0 Z0, kcells cI q4 a4 2 (fun _ => 0), pcells cI a5 0 Z0, ycells a6 0 Z0, dcells cI a7 0 Z0]) H := hP
  have hD : va_D (va_A [(h0, .inr (6, [.null, .null, .null, .null, .null, .null, .null, .null, .null]))] s.heap.size) (jn [[(h0, .inr (6, [.ref (a0 0), .ref (a1 0), .ref (a2 0), .ref (a3 0), .ref q4, .ref (a5 0), .ref (a6 0), .null, .null]))], rcells cI a0 0 Z0, rcells cI a1 0 Z0, rcells cI a2 0 Z0, rcells cI a3 0 Z0, kcells cI q4 a4 2 (fun _ => 0), pcells cI a5 0 Z0, ycells a6 0 Z0, dcells cI a7 0 Z0]) := hD
  rw [← hq9]
  refine va_putF (D := D) (ci := 6) (v := .ref (a7 0)) (ty := .object "HostageRound$Deal") (C := RX6) (T := TX6) (N := 9) hx hb hW inW_X6 tyX6 tyX6_ok nmX6 hown hK hP hD hS 0 rfl rfl 7 (by decide) (hW _ fl_X6_51) (fun _ h9 => h9) rfl hin rfl (by decide +kernel) rfl rfl (Nat.le_of_ble_eq_true rfl) dX6_init_90 (fun H locs hP hD hS => ?_)
  have hP : va_P D classes (jn [[(h0, .inr (6, [.ref (a0 0), .ref (a1 0), .ref (a2 0), .ref (a3 0), .ref q4, .ref (a5 0), .ref (a6 0), .ref (a7 0), .null]))], rcells cI a0 0 Z0, rcells cI a1 0 Z0, rcells cI a2 0 Z0, rcells cI a3 0 Z0, kcells cI q4 a4 2 (fun _ => 0), pcells cI a5 0 Z0, ycells a6 0 Z0, dcells cI a7 0 Z0]) H := hP
  have hD : va_D (va_A [(h0, .inr (6, [.null, .null, .null, .null, .null, .null, .null, .null, .null]))] s.heap.size) (jn [[(h0, .inr (6, [.ref (a0 0), .ref (a1 0), .ref (a2 0), .ref (a3 0), .ref q4, .ref (a5 0), .ref (a6 0), .ref (a7 0), .null]))], rcells cI a0 0 Z0, rcells cI a1 0 Z0, rcells cI a2 0 Z0, rcells cI a3 0 Z0, kcells cI q4 a4 2 (fun _ => 0), pcells cI a5 0 Z0, ycells a6 0 Z0, dcells cI a7 0 Z0]) := hD
  refine lv_aload_n hx hb dX6_init_93 rfl (lv_at hl 0 rfl) ?_
  refine va_new (ci := 4) (fs := [.null, .null]) (C := RX4) (T := TX4) (N := 2) hx hb hW inW_X4 tyX4 tyX4_ok hown (hW _ cl_X6_55) (hW _ isb_X4) (hW _ ini_X4) hK hP hD hS hA rfl (fun j hj => by rcases (show j = 0 ∨ j = 1 by omega) with rfl | rfl <;> rfl) (Nat.le_of_ble_eq_true rfl) (Nat.le_of_ble_eq_true rfl) dX6_init_94 (fun q8 H hP hD hS => ?_)
  rw [jn_push] at hP hD
  refine lv_dup hx hb dX6_init_97 rfl ?_
  refine callC (Bs := [[(h0, .inr (6, [.ref (a0 0), .ref (a1 0), .ref (a2 0), .ref (a3 0), .ref q4, .ref (a5 0), .ref (a6 0), .ref (a7 0), .null]))], rcells cI a0 0 Z0, rcells cI a1 0 Z0, rcells cI a2 0 Z0, rcells cI a3 0 Z0, kcells cI q4 a4 2 (fun _ => 0), pcells cI a5 0 Z0, ycells a6 0 Z0, dcells cI a7 0 Z0]) (va_runIN (As := []) (rest := [.ref q8, .ref h0]) ⟨hx, hb, hml, hown, hW⟩ (c_X4_init l D cI cZ q8 H.size) (cwIN0 hW hN mI_X4_init nl_X6_57 ⟨Nat.le_of_ble_eq_true rfl, Nat.le_of_ble_eq_true rfl⟩) (preC0 (A := (va_A [(h0, .inr (6, [.null, .null, .null, .null, .null, .null, .null, .null, .null]))] s.heap.size)) hK hN hP) rfl rfl hl.1 rfl (lv_room (Nat.le_of_ble_eq_true rfl)) dX6_init_98 ⟨Nat.le_of_ble_eq_true rfl, Nat.le_of_ble_eq_true rfl⟩) hP hD hS hA (fun a8 H locs hq9 hP hD hS => ?_)
  have hP : va_P D classes (jn [[(h0, .inr (6, [.ref (a0 0), .ref (a1 0), .ref (a2 0), .ref (a3 0), .ref q4, .ref (a5 0), .ref (a6 0), .ref (a7 0), .null]))], rcells cI a0 0 Z0, rcells cI a1 0 Z0, rcells cI a2 0 Z0, rcells cI a3 0 Z0, kcells cI q4 a4 2 (fun _ => 0), pcells cI a5 0 Z0, ycells a6 0 Z0, dcells cI a7 0 Z0, wcells cI a8 0 Z0]) H := hP
  have hD : va_D (va_A [(h0, .inr (6, [.null, .null, .null, .null, .null, .null, .null, .null, .null]))] s.heap.size) (jn [[(h0, .inr (6, [.ref (a0 0), .ref (a1 0), .ref (a2 0), .ref (a3 0), .ref q4, .ref (a5 0), .ref (a6 0), .ref (a7 0), .null]))], rcells cI a0 0 Z0, rcells cI a1 0 Z0, rcells cI a2 0 Z0, rcells cI a3 0 Z0, kcells cI q4 a4 2 (fun _ => 0), pcells cI a5 0 Z0, ycells a6 0 Z0, dcells cI a7 0 Z0, wcells cI a8 0 Z0]) := hD
  rw [← hq9]
  refine va_putF (D := D) (ci := 6) (v := .ref (a8 0)) (ty := .object "HostageRound$Weddings") (C := RX6) (T := TX6) (N := 9) hx hb hW inW_X6 tyX6 tyX6_ok nmX6 hown hK hP hD hS 0 rfl rfl 8 (by decide) (hW _ fl_X6_58) (fun _ h9 => h9) rfl hin rfl (by decide +kernel) rfl rfl (Nat.le_of_ble_eq_true rfl) dX6_init_101 (fun H locs hP hD hS => ?_)
  have hP : va_P D classes (jn [[(h0, .inr (6, [.ref (a0 0), .ref (a1 0), .ref (a2 0), .ref (a3 0), .ref q4, .ref (a5 0), .ref (a6 0), .ref (a7 0), .ref (a8 0)]))], rcells cI a0 0 Z0, rcells cI a1 0 Z0, rcells cI a2 0 Z0, rcells cI a3 0 Z0, kcells cI q4 a4 2 (fun _ => 0), pcells cI a5 0 Z0, ycells a6 0 Z0, dcells cI a7 0 Z0, wcells cI a8 0 Z0]) H := hP
  have hD : va_D (va_A [(h0, .inr (6, [.null, .null, .null, .null, .null, .null, .null, .null, .null]))] s.heap.size) (jn [[(h0, .inr (6, [.ref (a0 0), .ref (a1 0), .ref (a2 0), .ref (a3 0), .ref q4, .ref (a5 0), .ref (a6 0), .ref (a7 0), .ref (a8 0)]))], rcells cI a0 0 Z0, rcells cI a1 0 Z0, rcells cI a2 0 Z0, rcells cI a3 0 Z0, kcells cI q4 a4 2 (fun _ => 0), pcells cI a5 0 Z0, ycells a6 0 Z0, dcells cI a7 0 Z0, wcells cI a8 0 Z0]) := hD
  refine lv_aload_n hx hb dX6_init_104 rfl (lv_at hl 0 rfl) ?_
  refine va_get (D := D) (ci := 6) (v := .ref (a0 0)) (C := RX6) (T := TX6) (N := 9) hx hb hW inW_X6 hown hK hP 0 rfl rfl 0 (by decide) (hW _ fl_X6_10) (fun _ h9 => h9) rfl dX6_init_105 ?_
  refine lv_bipush (v := 90) hx hb dX6_init_108 (by decide) ?_
  refine va_put (D := D) (ci := 2) (v := .int 90) (ty := .int) (C := RX2) (T := TX2) (N := 15) hx hb hW inW_X2 tyX2 tyX2_ok nmX2 hown hK hP hD hS 1 rfl rfl 1 (by decide) (hW _ fl_X6_62) (fun _ h9 => h9) rfl (by decide +kernel) rfl rfl (Nat.le_of_ble_eq_true rfl) dX6_init_110 (fun H locs hP hD hS => ?_)
  have hP : va_P D classes (jn [[(h0, .inr (6, [.ref (a0 0), .ref (a1 0), .ref (a2 0), .ref (a3 0), .ref q4, .ref (a5 0), .ref (a6 0), .ref (a7 0), .ref (a8 0)]))], rcells cI a0 0 (sI Z0 1 90), rcells cI a1 0 Z0, rcells cI a2 0 Z0, rcells cI a3 0 Z0, kcells cI q4 a4 2 (fun _ => 0), pcells cI a5 0 Z0, ycells a6 0 Z0, dcells cI a7 0 Z0, wcells cI a8 0 Z0]) H := hP
  have hD : va_D (va_A [(h0, .inr (6, [.null, .null, .null, .null, .null, .null, .null, .null, .null]))] s.heap.size) (jn [[(h0, .inr (6, [.ref (a0 0), .ref (a1 0), .ref (a2 0), .ref (a3 0), .ref q4, .ref (a5 0), .ref (a6 0), .ref (a7 0), .ref (a8 0)]))], rcells cI a0 0 (sI Z0 1 90), rcells cI a1 0 Z0, rcells cI a2 0 Z0, rcells cI a3 0 Z0, kcells cI q4 a4 2 (fun _ => 0), pcells cI a5 0 Z0, ycells a6 0 Z0, dcells cI a7 0 Z0, wcells cI a8 0 Z0]) := hD
  refine lv_aload_n hx hb dX6_init_113 rfl (lv_at hl 0 rfl) ?_
  refine va_get (D := D) (ci := 6) (v := .ref (a0 0)) (C := RX6) (T := TX6) (N := 9) hx hb hW inW_X6 hown hK hP 0 rfl rfl 0 (by decide) (hW _ fl_X6_10) (fun _ h9 => h9) rfl dX6_init_114 ?_
  refine lv_iconst (v := 4) hx hb dX6_init_117 (by decide) ?_
  refine callW (va_runV (As := [.int 4]) (rest := []) ⟨hx, hb, hml, hown, hW⟩ (c_X2_startAnew l D cI cZ a0 0 (sI Z0 1 90) 4 _ hw) (cwV0 hW mV_X2_startAnew ml_X6_66 ⟨Nat.le_of_ble_eq_true rfl, Nat.le_of_ble_eq_true rfl⟩) (preV0 0 rfl rfl hK hN hP hD [1] rfl rfl) rfl rfl hl.1 rfl (lv_room (Nat.le_of_ble_eq_true rfl)) dX6_init_118 ⟨Nat.le_of_ble_eq_true rfl, Nat.le_of_ble_eq_true rfl⟩) hP hD hS [1] rfl rfl (fun _ => rfl) (fun v9 S9 H locs hq hP hD hS => ?_)
  obtain ⟨rfl, hw⟩ := hq
  refine W.eq (g2 := F0 m 121 ls []) rfl ?_
  have hP : va_P D classes (jn [[(h0, .inr (6, [.ref (a0 0), .ref (a1 0), .ref (a2 0), .ref (a3 0), .ref q4, .ref (a5 0), .ref (a6 0), .ref (a7 0), .ref (a8 0)]))], rcells cI a0 0 S9, rcells cI a1 0 Z0, rcells cI a2 0 Z0, rcells cI a3 0 Z0, kcells cI q4 a4 2 (fun _ => 0), pcells cI a5 0 Z0, ycells a6 0 Z0, dcells cI a7 0 Z0, wcells cI a8 0 Z0]) H := hP
  have hD : va_D (va_A [(h0, .inr (6, [.null, .null, .null, .null, .null, .null, .null, .null, .null]))] s.heap.size) (jn [[(h0, .inr (6, [.ref (a0 0), .ref (a1 0), .ref (a2 0), .ref (a3 0), .ref q4, .ref (a5 0), .ref (a6 0), .ref (a7 0), .ref (a8 0)]))], rcells cI a0 0 S9, rcells cI a1 0 Z0, rcells cI a2 0 Z0, rcells cI a3 0 Z0, kcells cI q4 a4 2 (fun _ => 0), pcells cI a5 0 Z0, ycells a6 0 Z0, dcells cI a7 0 Z0, wcells cI a8 0 Z0]) := hD
  obtain ⟨ad9, had⟩ : ∃ f : Nat → Nat, f = (fun k => if k = 0 then h0 else if k < 18 then a0 (k - 1) else if k < 35 then a1 (k - 18) else if k < 52 then a2 (k - 35) else if k < 69 then a3 (k - 52) else if k = 69 then q4 else if k = 70 then a4 else if k < 74 then a5 (k - 71) else if k < 75 then a6 (k - 74) else if k < 78 then a7 (k - 75) else a8 (k - 78)) := ⟨_, rfl⟩
  have hP9 : va_P D classes (jn [xcell ad9, rcells cI ad9 1 S9, rcells cI ad9 18 Z0, rcells cI ad9 35 Z0, rcells cI ad9 52 Z0, kcells cI (ad9 69) (ad9 70) 2 (fun _ => 0), pcells cI ad9 71 Z0, ycells ad9 74 Z0, dcells cI ad9 75 Z0, wcells cI ad9 78 Z0]) H := by rw [had]; exact hP
  have hD9 : va_D (va_A [(h0, .inr (6, [.null, .null, .null, .null, .null, .null, .null, .null, .null]))] s.heap.size) (jn [xcell ad9, rcells cI ad9 1 S9, rcells cI ad9 18 Z0, rcells cI ad9 35 Z0, rcells cI ad9 52 Z0, kcells cI (ad9 69) (ad9 70) 2 (fun _ => 0), pcells cI ad9 71 Z0, ycells ad9 74 Z0, dcells cI ad9 75 Z0, wcells cI ad9 78 Z0]) := by rw [had]; exact hD
  refine W.widen (k := 82) (n := 456) (Nat.le_of_ble_eq_true rfl) (Nat.le_of_ble_eq_true rfl) ?_
  exact W.vret hx hb hr (fun t ht _ => ⟨⟨(ad9, S9), rfl, ⟨by rw [had]; rfl, hw⟩, by rw [ht]; exact hP9, hD9⟩, hS.F ht⟩) hS.2.2 dX6_init_121
set_option maxHeartbeats 4000000 in
set_option maxRecDepth 100000 in
/-- HostageRoundModel() -/
theorem c_X7_init (l : Launch) (D : va_G) (cI cZ : ClassId) (h0 sz : Nat) (k : St → Prop) (hw : wp_X7_clear (sI (sI Z0 0 4) 1 90) k) : KC l yX7_init cX7_init 1 1 21 15 284 D cI cZ [.ref h0] [(h0, .inr (7, [.int 0, .int 0, .int 0, .int 0, .int 0, .null, .null, .null, .null, .null, .int 0, .null, .int 0, .null, .int 0, .int 0, .int 0, .null, .null, .null, .null, .int 0, .int 0, .null, .null, .null, .null]))] sz (fun u : (Nat → Nat) × St => u.1 0 = h0 ∧ k u.2) (fun u => jn [mcells cI cZ u.1 0 u.2]) := by
  refine Met.ofC (by decide +kernel) (Nat.le_of_ble_eq_true rfl) ?_
  intro p e s m below meth c E hin hsz ls hl
  obtain ⟨hx, hb, hr, hml, hW, hown, hlocks, hP, hK, hD0, hN⟩ := E
  subst hsz
  have hD : va_D (va_A [(h0, .inr (7, [.int 0, .int 0, .int 0, .int 0, .int 0, .null, .null, .null, .null, .null, .int 0, .null, .int 0, .null, .int 0, .int 0, .int 0, .null, .null, .null, .null, .int 0, .int 0, .null, .null, .null, .null]))] s.heap.size) [(h0, .inr (7, [.int 0, .int 0, .int 0, .int 0, .int 0, .null, .null, .null, .null, .null, .int 0, .null, .int 0, .null, .int 0, .int 0, .int 0, .null, .null, .null, .null, .int 0, .int 0, .null, .null, .null, .null]))] := hD0.weaken (fun _ _ _ h => Or.inl h)
  have hA : ∀ q : Nat, s.heap.size ≤ q → va_A [(h0, .inr (7, [.int 0, .int 0, .int 0, .int 0, .int 0, .null, .null, .null, .null, .null, .int 0, .null, .int 0, .null, .int 0, .int 0, .int 0, .null, .null, .null, .null, .int 0, .int 0, .null, .null, .null, .null]))] s.heap.size q := fun q h => Or.inr h
  have hS : va_S (va_A [(h0, .inr (7, [.int 0, .int 0, .int 0, .int 0, .int 0, .null, .null, .null, .null, .null, .int 0, .null, .int 0, .null, .int 0, .int 0, .int 0, .null, .null, .null, .null, .int 0, .int 0, .null, .null, .null, .null]))] s.heap.size) s.heap s.heap [] := va_S.rf
  have hl : lv_has ls 1 [(0, .ref h0)] := hl
  refine lv_aload_n hx hb dX7_init_0 rfl (lv_at hl 0 rfl) ?_
  refine W.objInit hx hb hown (hW _ ml_X7_1) (hW _ im_obj) (hW _ cd_obj) rfl (by rw [hml]; exact hl.1) rfl dX7_init_1 (Nat.le_of_ble_eq_true rfl) (Nat.le_of_ble_eq_true rfl) ?_
  refine W.eq (g2 := F0 m 4 ls []) rfl ?_
  refine lv_aload_n hx hb dX7_init_4 rfl (lv_at hl 0 rfl) ?_
  refine lv_iconst (v := 4) hx hb dX7_init_5 (by decide) ?_
  refine va_put (D := D) (ci := 7) (v := .int 4) (ty := .int) (C := RX7) (T := TX7) (N := 27) hx hb hW inW_X7 tyX7 tyX7_ok nmX7 hown hK hP hD hS 0 rfl rfl 0 (by decide) (hW _ fl_X7_7) (fun _ h9 => h9) rfl (by decide +kernel) rfl rfl (Nat.le_of_ble_eq_true rfl) dX7_init_6 (fun H locs hP hD hS => ?_)
  have hP : va_P D classes ([(h0, .inr (7, [.int 4, .int 0, .int 0, .int 0, .int 0, .null, .null, .null, .null, .null, .int 0, .null, .int 0, .null, .int 0, .int 0, .int 0, .null, .null, .null, .null, .int 0, .int 0, .null, .null, .null, .null]))]) H := hP
  have hD : va_D (va_A [(h0, .inr (7, [.int 0, .int 0, .int 0, .int 0, .int 0, .null, .null, .null, .null, .null, .int 0, .null, .int 0, .null, .int 0, .int 0, .int 0, .null, .null, .null, .null, .int 0, .int 0, .null, .null, .null, .null]))] s.heap.size) ([(h0, .inr (7, [.int 4, .int 0, .int 0, .int 0, .int 0, .null, .null, .null, .null, .null, .int 0, .null, .int 0, .null, .int 0, .int 0, .int 0, .null, .null, .null, .null, .int 0, .int 0, .null, .null, .null, .null]))]) := hD
  refine lv_aload_n hx hb dX7_init_9 rfl (lv_at hl 0 rfl) ?_
  refine lv_bipush (v := 90) hx hb dX7_init_10 (by decide) ?_
  refine va_put (D := D) (ci := 7) (v := .int 90) (ty := .int) (C := RX7) (T := TX7) (N := 27) hx hb hW inW_X7 tyX7 tyX7_ok nmX7 hown hK hP hD hS 0 rfl rfl 1 (by decide) (hW _ fl_X7_13) (fun _ h9 => h9) rfl (by decide +kernel) rfl rfl (Nat.le_of_ble_eq_true rfl) dX7_init_12 (fun H locs hP hD hS => ?_)
  have hP : va_P D classes ([(h0, .inr (7, [.int 4, .int 90, .int 0, .int 0, .int 0, .null, .null, .null, .null, .null, .int 0, .null, .int 0, .null, .int 0, .int 0, .int 0, .null, .null, .null, .null, .int 0, .int 0, .null, .null, .null, .null]))]) H := hP
  have hD : va_D (va_A [(h0, .inr (7, [.int 0, .int 0, .int 0, .int 0, .int 0, .null, .null, .null, .null, .null, .int 0, .null, .int 0, .null, .int 0, .int 0, .int 0, .null, .null, .null, .null, .int 0, .int 0, .null, .null, .null, .null]))] s.heap.size) ([(h0, .inr (7, [.int 4, .int 90, .int 0, .int 0, .int 0, .null, .null, .null, .null, .null, .int 0, .null, .int 0, .null, .int 0, .int 0, .int 0, .null, .null, .null, .null, .int 0, .int 0, .null, .null, .null, .null]))]) := hD
  refine lv_aload_n hx hb dX7_init_15 rfl (lv_at hl 0 rfl) ?_
  refine lv_bipush (v := nI 6) hx hb dX7_init_16 (by decide) ?_
  refine va_newa (a0 := (6, .inl (fun _ => 0))) (N' := 6) (atype := .int) (ty := .int) hx hb (hW _ ac_int) rfl hK hP hD hS hA (fun _ => rfl) (nI_pos (by decide)) (nI_clamp (by decide)) (by decide) (Nat.le_of_ble_eq_true rfl) (Nat.le_of_ble_eq_true rfl) dX7_init_18 (fun q1 cA H hK2 hP hD hS => ?_)
  rw [cA_eq hK2 0 rfl (fun _ _ h => h)] at hP hD
  refine va_putF (D := D) (ci := 7) (v := .ref q1) (ty := .array .int) (C := RX7) (T := TX7) (N := 27) hx hb hW inW_X7 tyX7 tyX7_ok nmX7 hown hK hP hD hS 0 rfl rfl 5 (by decide) (hW _ fl_X7_16) (fun _ h9 => h9) rfl hin rfl (by decide +kernel) rfl rfl (Nat.le_of_ble_eq_true rfl) dX7_init_20 (fun H locs hP hD hS => ?_)
  have hP : va_P D classes ([(h0, .inr (7, [.int 4, .int 90, .int 0, .int 0, .int 0, .ref q1, .null, .null, .null, .null, .int 0, .null, .int 0, .null, .int 0, .int 0, .int 0, .null, .null, .null, .null, .int 0, .int 0, .null, .null, .null, .null])), (q1, .inl (cI, 6, .inl (fun _ => 0)))]) H := hP
  have hD : va_D (va_A [(h0, .inr (7, [.int 0, .int 0, .int 0, .int 0, .int 0, .null, .null, .null, .null, .null, .int 0, .null, .int 0, .null, .int 0, .int 0, .int 0, .null, .null, .null, .null, .int 0, .int 0, .null, .null, .null, .null]))] s.heap.size) ([(h0, .inr (7, [.int 4, .int 90, .int 0, .int 0, .int 0, .ref q1, .null, .null, .null, .null, .int 0, .null, .int 0, .null, .int 0, .int 0, .int 0, .null, .null, .null, .null, .int 0, .int 0, .null, .null, .null, .null])), (q1, .inl (cI, 6, .inl (fun _ => 0)))]) := hD
  refine lv_aload_n hx hb dX7_init_23 rfl (lv_at hl 0 rfl) ?_
  refine lv_bipush (v := nI 6) hx hb dX7_init_24 (by decide) ?_
  refine va_newa (a0 := (6, .inl (fun _ => 0))) (N' := 6) (atype := .int) (ty := .int) hx hb (hW _ ac_int) rfl hK hP hD hS hA (fun _ => rfl) (nI_pos (by decide)) (nI_clamp (by decide)) (by decide) (Nat.le_of_ble_eq_true rfl) (Nat.le_of_ble_eq_true rfl) dX7_init_26 (fun q2 cA H hK2 hP hD hS => ?_)
  rw [cA_eq hK2 0 rfl (fun _ _ h => h)] at hP hD
  refine va_putF (D := D) (ci := 7) (v := .ref q2) (ty := .array .int) (C := RX7) (T := TX7) (N := 27) hx hb hW inW_X7 tyX7 tyX7_ok nmX7 hown hK hP hD hS 0 rfl rfl 6 (by decide) (hW _ fl_X7_20) (fun _ h9 => h9) rfl hin rfl (by decide +kernel) rfl rfl (Nat.le_of_ble_eq_true rfl) dX7_init_28 (fun H locs hP hD hS => ?_)
  have hP : va_P D classes ([(h0, .inr (7, [.int 4, .int 90, .int 0, .int 0, .int 0, .ref q1, .ref q2, .null, .null, .null, .int 0, .null, .int 0, .null, .int 0, .int 0, .int 0, .null, .null, .null, .null, .int 0, .int 0, .null, .null, .null, .null])), (q1, .inl (cI, 6, .inl (fun _ => 0))), (q2, .inl (cI, 6, .inl (fun _ => 0)))]) H := hP
  have hD : va_D (va_A [(h0, .inr (7, [.int 0, .int 0, .int 0, .int 0, .int 0, .null, .null, .null, .null, .null, .int 0, .null, .int 0, .null, .int 0, .int 0, .int 0, .null, .null, .null, .null, .int 0, .int 0, .null, .null, .null, .null]))] s.heap.size) ([(h0, .inr (7, [.int 4, .int 90, .int 0, .int 0, .int 0, .ref q1, .ref q2, .null, .null, .null, .int 0, .null, .int 0, .null, .int 0, .int 0, .int 0, .null, .null, .null, .null, .int 0, .int 0, .null, .null, .null, .null])), (q1, .inl (cI, 6, .inl (fun _ => 0))), (q2, .inl (cI, 6, .inl (fun _ => 0)))]) := hD
  refine lv_aload_n hx hb dX7_init_31 rfl (lv_at hl 0 rfl) ?_
  refine lv_bipush (v := nI 6) hx hb dX7_init_32 (by decide) ?_
  refine va_newa (a0 := (6, .inl (fun _ => 0))) (N' := 6) (atype := .int) (ty := .int) hx hb (hW _ ac_int) rfl hK hP hD hS hA (fun _ => rfl) (nI_pos (by decide)) (nI_clamp (by decide)) (by decide) (Nat.le_of_ble_eq_true rfl) (Nat.le_of_ble_eq_true rfl) dX7_init_34 (fun q3 cA H hK2 hP hD hS => ?_)
  rw [cA_eq hK2 0 rfl (fun _ _ h => h)] at hP hD
  refine va_putF (D := D) (ci := 7) (v := .ref q3) (ty := .array .int) (C := RX7) (T := TX7) (N := 27) hx hb hW inW_X7 tyX7 tyX7_ok nmX7 hown hK hP hD hS 0 rfl rfl 7 (by decide) (hW _ fl_X7_23) (fun _ h9 => h9) rfl hin rfl (by decide +kernel) rfl rfl (Nat.le_of_ble_eq_true rfl) dX7_init_36 (fun H locs hP hD hS => ?_)
  have hP : va_P D classes ([(h0, .inr (7, [.int 4, .int 90, .int 0, .int 0, .int 0, .ref q1, .ref q2, .ref q3, .null, .null, .int 0, .null, .int 0, .null, .int 0, .int 0, .int 0, .null, .null, .null, .null, .int 0, .int 0, .null, .null, .null, .null])), (q1, .inl (cI, 6, .inl (fun _ => 0))), (q2, .inl (cI, 6, .inl (fun _ => 0))), (q3, .inl (cI, 6, .inl (fun _ => 0)))]) H := hP
  have hD : va_D (va_A [(h0, .inr (7, [.int 0, .int 0, .int 0, .int 0, .int 0, .null, .null, .null, .null, .null, .int 0, .null, .int 0, .null, .int 0, .int 0, .int 0, .null, .null, .null, .null, .int 0, .int 0, .null, .null, .null, .null]))] s.heap.size) ([(h0, .inr (7, [.int 4, .int 90, .int 0, .int 0, .int 0, .ref q1, .ref q2, .ref q3, .null, .null, .int 0, .null, .int 0, .null, .int 0, .int 0, .int 0, .null, .null, .null, .null, .int 0, .int 0, .null, .null, .null, .null])), (q1, .inl (cI, 6, .inl (fun _ => 0))), (q2, .inl (cI, 6, .inl (fun _ => 0))), (q3, .inl (cI, 6, .inl (fun _ => 0)))]) := hD
  refine lv_aload_n hx hb dX7_init_39 rfl (lv_at hl 0 rfl) ?_
  refine lv_bipush (v := nI 6) hx hb dX7_init_40 (by decide) ?_
  refine va_newa (a0 := (6, .inl (fun _ => 0))) (N' := 6) (atype := .int) (ty := .int) hx hb (hW _ ac_int) rfl hK hP hD hS hA (fun _ => rfl) (nI_pos (by decide)) (nI_clamp (by decide)) (by decide) (Nat.le_of_ble_eq_true rfl) (Nat.le_of_ble_eq_true rfl) dX7_init_42 (fun q4 cA H hK2 hP hD hS => ?_)
  rw [cA_eq hK2 0 rfl (fun _ _ h => h)] at hP hD
  refine va_putF (D := D) (ci := 7) (v := .ref q4) (ty := .array .int) (C := RX7) (T := TX7) (N := 27) hx hb hW inW_X7 tyX7 tyX7_ok nmX7 hown hK hP hD hS 0 rfl rfl 8 (by decide) (hW _ fl_X7_26) (fun _ h9 => h9) rfl hin rfl (by decide +kernel) rfl rfl (Nat.le_of_ble_eq_true rfl) dX7_init_44 (fun H locs hP hD hS => ?_)
  have hP : va_P D classes ([(h0, .inr (7, [.int 4, .int 90, .int 0, .int 0, .int 0, .ref q1, .ref q2, .ref q3, .ref q4, .null, .int 0, .null, .int 0, .null, .int 0, .int 0, .int 0, .null, .null, .null, .null, .int 0, .int 0, .null, .null, .null, .null])), (q1, .inl (cI, 6, .inl (fun _ => 0))), (q2, .inl (cI, 6, .inl (fun _ => 0))), (q3, .inl (cI, 6, .inl (fun _ => 0))), (q4, .inl (cI, 6, .inl (fun _ => 0)))]) H := hP
  have hD : va_D (va_A [(h0, .inr (7, [.int 0, .int 0, .int 0, .int 0, .int 0, .null, .null, .null, .null, .null, .int 0, .null, .int 0, .null, .int 0, .int 0, .int 0, .null, .null, .null, .null, .int 0, .int 0, .null, .null, .null, .null]))] s.heap.size) ([(h0, .inr (7, [.int 4, .int 90, .int 0, .int 0, .int 0, .ref q1, .ref q2, .ref q3, .ref q4, .null, .int 0, .null, .int 0, .null, .int 0, .int 0, .int 0, .null, .null, .null, .null, .int 0, .int 0, .null, .null, .null, .null])), (q1, .inl (cI, 6, .inl (fun _ => 0))), (q2, .inl (cI, 6, .inl (fun _ => 0))), (q3, .inl (cI, 6, .inl (fun _ => 0))), (q4, .inl (cI, 6, .inl (fun _ => 0)))]) := hD
  refine lv_aload_n hx hb dX7_init_47 rfl (lv_at hl 0 rfl) ?_
  refine lv_bipush (v := nI 6) hx hb dX7_init_48 (by decide) ?_
  refine va_newa (a0 := (6, .inl (fun _ => 0))) (N' := 6) (atype := .int) (ty := .int) hx hb (hW _ ac_int) rfl hK hP hD hS hA (fun _ => rfl) (nI_pos (by decide)) (nI_clamp (by decide)) (by decide) (Nat.le_of_ble_eq_true rfl) (Nat.le_of_ble_eq_true rfl) dX7_init_50 (fun q5 cA H hK2 hP hD hS => ?_)
  rw [cA_eq hK2 0 rfl (fun _ _ h => h)] at hP hD
  refine va_putF (D := D) (ci := 7) (v := .ref q5) (ty := .array .int) (C := RX7) (T := TX7) (N := 27) hx hb hW inW_X7 tyX7 tyX7_ok nmX7 hown hK hP hD hS 0 rfl rfl 9 (by decide) (hW _ fl_X7_29) (fun _ h9 => h9) rfl hin rfl (by decide +kernel) rfl rfl (Nat.le_of_ble_eq_true rfl) dX7_init_52 (fun H locs hP hD hS => ?_)
  have hP : va_P D classes ([(h0, .inr (7, [.int 4, .int 90, .int 0, .int 0, .int 0, .ref q1, .ref q2, .ref q3, .ref q4, .ref q5, .int 0, .null, .int 0, .null, .int 0, .int 0, .int 0, .null, .null, .null, .null, .int 0, .int 0, .null, .null, .null, .null])), (q1, .inl (cI, 6, .inl (fun _ => 0))), (q2, .inl (cI, 6, .inl (fun _ => 0))), (q3, .inl (cI, 6, .inl (fun _ => 0))), (q4, .inl (cI, 6, .inl (fun _ => 0))), (q5, .inl (cI, 6, .inl (fun _ => 0)))]) H := hP
  have hD : va_D (va_A [(h0, .inr (7, [.int 0, .int 0, .int 0, .int 0, .int 0, .null, .null, .null, .null, .null, .int 0, .null, .int 0, .null, .int 0, .int 0, .int 0, .null, .null, .null, .null, .int 0, .int 0, .null, .null, .null, .null]))] s.heap.size) ([(h0, .inr (7, [.int 4, .int 90, .int 0, .int 0, .int 0, .ref q1, .ref q2, .ref q3, .ref q4, .ref q5, .int 0, .null, .int 0, .null, .int 0, .int 0, .int 0, .null, .null, .null, .null, .int 0, .int 0, .null, .null, .null, .null])), (q1, .inl (cI, 6, .inl (fun _ => 0))), (q2, .inl (cI, 6, .inl (fun _ => 0))), (q3, .inl (cI, 6, .inl (fun _ => 0))), (q4, .inl (cI, 6, .inl (fun _ => 0))), (q5, .inl (cI, 6, .inl (fun _ => 0)))]) := hD
  refine lv_aload_n hx hb dX7_init_55 rfl (lv_at hl 0 rfl) ?_
  refine lv_bipush (v := nI 16) hx hb dX7_init_56 (by decide) ?_
  refine va_newa (a0 := (16, .inl (fun _ => 0))) (N' := 16) (atype := .int) (ty := .int) hx hb (hW _ ac_int) rfl hK hP hD hS hA (fun _ => rfl) (nI_pos (by decide)) (nI_clamp (by decide)) (by decide) (Nat.le_of_ble_eq_true rfl) (Nat.le_of_ble_eq_true rfl) dX7_init_58 (fun q6 cA H hK2 hP hD hS => ?_)
  rw [cA_eq hK2 0 rfl (fun _ _ h => h)] at hP hD
  refine va_putF (D := D) (ci := 7) (v := .ref q6) (ty := .array .int) (C := RX7) (T := TX7) (N := 27) hx hb hW inW_X7 tyX7 tyX7_ok nmX7 hown hK hP hD hS 0 rfl rfl 11 (by decide) (hW _ fl_X7_32) (fun _ h9 => h9) rfl hin rfl (by decide +kernel) rfl rfl (Nat.le_of_ble_eq_true rfl) dX7_init_60 (fun H locs hP hD hS => ?_)
  have hP : va_P D classes ([(h0, .inr (7, [.int 4, .int 90, .int 0, .int 0, .int 0, .ref q1, .ref q2, .ref q3, .ref q4, .ref q5, .int 0, .ref q6, .int 0, .null, .int 0, .int 0, .int 0, .null, .null, .null, .null, .int 0, .int 0, .null, .null, .null, .null])), (q1, .inl (cI, 6, .inl (fun _ => 0))), (q2, .inl (cI, 6, .inl (fun _ => 0))), (q3, .inl (cI, 6, .inl (fun _ => 0))), (q4, .inl (cI, 6, .inl (fun _ => 0))), (q5, .inl (cI, 6, .inl (fun _ => 0))), (q6, .inl (cI, 16, .inl (fun _ => 0)))]) H := hP
  have hD : va_D (va_A [(h0, .inr (7, [.int 0, .int 0, .int 0, .int 0, .int 0, .null, .null, .null, .null, .null, .int 0, .null, .int 0, .null, .int 0, .int 0, .int 0, .null, .null, .null, .null, .int 0, .int 0, .null, .null, .null, .null]))] s.heap.size) ([(h0, .inr (7, [.int 4, .int 90, .int 0, .int 0, .int 0, .ref q1, .ref q2, .ref q3, .ref q4, .ref q5, .int 0, .ref q6, .int 0, .null, .int 0, .int 0, .int 0, .null, .null, .null, .null, .int 0, .int 0, .null, .null, .null, .null])), (q1, .inl (cI, 6, .inl (fun _ => 0))), (q2, .inl (cI, 6, .inl (fun _ => 0))), (q3, .inl (cI, 6, .inl (fun _ => 0))), (q4, .inl (cI, 6, .inl (fun _ => 0))), (q5, .inl (cI, 6, .inl (fun _ => 0))), (q6, .inl (cI, 16, .inl (fun _ => 0)))]) := hD
  refine lv_aload_n hx hb dX7_init_63 rfl (lv_at hl 0 rfl) ?_
  refine lv_bipush (v := nI 60) hx hb dX7_init_64 (by decide) ?_
  refine va_newa (a0 := (60, .inl (fun _ => 0))) (N' := 60) (atype := .int) (ty := .int) hx hb (hW _ ac_int) rfl hK hP hD hS hA (fun _ => rfl) (nI_pos (by decide)) (nI_clamp (by decide)) (by decide) (Nat.le_of_ble_eq_true rfl) (Nat.le_of_ble_eq_true rfl) dX7_init_66 (fun q7 cA H hK2 hP hD hS => ?_)
  rw [cA_eq hK2 0 rfl (fun _ _ h => h)] at hP hD
  refine va_putF (D := D) (ci := 7) (v := .ref q7) (ty := .array .int) (C := RX7) (T := TX7) (N := 27) hx hb hW inW_X7 tyX7 tyX7_ok nmX7 hown hK hP hD hS 0 rfl rfl 13 (by decide) (hW _ fl_X7_35) (fun _ h9 => h9) rfl hin rfl (by decide +kernel) rfl rfl (Nat.le_of_ble_eq_true rfl) dX7_init_68 (fun H locs hP hD hS => ?_)
  have hP : va_P D classes ([(h0, .inr (7, [.int 4, .int 90, .int 0, .int 0, .int 0, .ref q1, .ref q2, .ref q3, .ref q4, .ref q5, .int 0, .ref q6, .int 0, .ref q7, .int 0, .int 0, .int 0, .null, .null, .null, .null, .int 0, .int 0, .null, .null, .null, .null])), (q1, .inl (cI, 6, .inl (fun _ => 0))), (q2, .inl (cI, 6, .inl (fun _ => 0))), (q3, .inl (cI, 6, .inl (fun _ => 0))), (q4, .inl (cI, 6, .inl (fun _ => 0))), (q5, .inl (cI, 6, .inl (fun _ => 0))), (q6, .inl (cI, 16, .inl (fun _ => 0))), (q7, .inl (cI, 60, .inl (fun _ => 0)))]) H := hP
  have hD : va_D (va_A [(h0, .inr (7, [.int 0, .int 0, .int 0, .int 0, .int 0, .null, .null, .null, .null, .null, .int 0, .null, .int 0, .null, .int 0, .int 0, .int 0, .null, .null, .null, .null, .int 0, .int 0, .null, .null, .null, .null]))] s.heap.size) ([(h0, .inr (7, [.int 4, .int 90, .int 0, .int 0, .int 0, .ref q1, .ref q2, .ref q3, .ref q4, .ref q5, .int 0, .ref q6, .int 0, .ref q7, .int 0, .int 0, .int 0, .null, .null, .null, .null, .int 0, .int 0, .null, .null, .null, .null])), (q1, .inl (cI, 6, .inl (fun _ => 0))), (q2, .inl (cI, 6, .inl (fun _ => 0))), (q3, .inl (cI, 6, .inl (fun _ => 0))), (q4, .inl (cI, 6, .inl (fun _ => 0))), (q5, .inl (cI, 6, .inl (fun _ => 0))), (q6, .inl (cI, 16, .inl (fun _ => 0))), (q7, .inl (cI, 60, .inl (fun _ => 0)))]) := hD
  refine lv_aload_n hx hb dX7_init_71 rfl (lv_at hl 0 rfl) ?_
  refine lv_bipush (v := nI 6) hx hb dX7_init_72 (by decide) ?_
  refine va_newa (a0 := (6, .inl (fun _ => 0))) (N' := 6) (atype := .int) (ty := .int) hx hb (hW _ ac_int) rfl hK hP hD hS hA (fun _ => rfl) (nI_pos (by decide)) (nI_clamp (by decide)) (by decide) (Nat.le_of_ble_eq_true rfl) (Nat.le_of_ble_eq_true rfl) dX7_init_74 (fun q8 cA H hK2 hP hD hS => ?_)
  rw [cA_eq hK2 0 rfl (fun _ _ h => h)] at hP hD
  refine va_putF (D := D) (ci := 7) (v := .ref q8) (ty := .array .int) (C := RX7) (T := TX7) (N := 27) hx hb hW inW_X7 tyX7 tyX7_ok nmX7 hown hK hP hD hS 0 rfl rfl 17 (by decide) (hW _ fl_X7_38) (fun _ h9 => h9) rfl hin rfl (by decide +kernel) rfl rfl (Nat.le_of_ble_eq_true rfl) dX7_init_76 (fun H locs hP hD hS => ?_)
  have hP : va_P D classes ([(h0, .inr (7, [.int 4, .int 90, .int 0, .int 0, .int 0, .ref q1, .ref q2, .ref q3, .ref q4, .ref q5, .int 0, .ref q6, .int 0, .ref q7, .int 0, .int 0, .int 0, .ref q8, .null, .null, .null, .int 0, .int 0, .null, .null, .null, .null])), (q1, .inl (cI, 6, .inl (fun _ => 0))), (q2, .inl (cI, 6, .inl (fun _ => 0))), (q3, .inl (cI, 6, .inl (fun _ => 0))), (q4, .inl (cI, 6, .inl (fun _ => 0))), (q5, .inl (cI, 6, .inl (fun _ => 0))), (q6, .inl (cI, 16, .inl (fun _ => 0))), (q7, .inl (cI, 60, .inl (fun _ => 0))), (q8, .inl (cI, 6, .inl (fun _ => 0)))]) H := hP
  have hD : va_D (va_A [(h0, .inr (7, [.int 0, .int 0, .int 0, .int 0, .int 0, .null, .null, .null, .null, .null, .int 0, .null, .int 0, .null, .int 0, .int 0, .int 0, .null, .null, .null, .null, .int 0, .int 0, .null, .null, .null, .null]))] s.heap.size) ([(h0, .inr (7, [.int 4, .int 90, .int 0, .int 0, .int 0, .ref q1, .ref q2, .ref q3, .ref q4, .ref q5, .int 0, .ref q6, .int 0, .ref q7, .int 0, .int 0, .int 0, .ref q8, .null, .null, .null, .int 0, .int 0, .null, .null, .null, .null])), (q1, .inl (cI, 6, .inl (fun _ => 0))), (q2, .inl (cI, 6, .inl (fun _ => 0))), (q3, .inl (cI, 6, .inl (fun _ => 0))), (q4, .inl (cI, 6, .inl (fun _ => 0))), (q5, .inl (cI, 6, .inl (fun _ => 0))), (q6, .inl (cI, 16, .inl (fun _ => 0))), (q7, .inl (cI, 60, .inl (fun _ => 0))), (q8, .inl (cI, 6, .inl (fun _ => 0)))]) := hD
  refine lv_aload_n hx hb dX7_init_79 rfl (lv_at hl 0 rfl) ?_
  refine lv_bipush (v := nI 6) hx hb dX7_init_80 (by decide) ?_
  refine va_newa (a0 := (6, .inl (fun _ => 0))) (N' := 6) (atype := .int) (ty := .int) hx hb (hW _ ac_int) rfl hK hP hD hS hA (fun _ => rfl) (nI_pos (by decide)) (nI_clamp (by decide)) (by decide) (Nat.le_of_ble_eq_true rfl) (Nat.le_of_ble_eq_true rfl) dX7_init_82 (fun q9 cA H hK2 hP hD hS => ?_)
  rw [cA_eq hK2 0 rfl (fun _ _ h => h)] at hP hD
  refine va_putF (D := D) (ci := 7) (v := .ref q9) (ty := .array .int) (C := RX7) (T := TX7) (N := 27) hx hb hW inW_X7 tyX7 tyX7_ok nmX7 hown hK hP hD hS 0 rfl rfl 18 (by decide) (hW _ fl_X7_41) (fun _ h9 => h9) rfl hin rfl (by decide +kernel) rfl rfl (Nat.le_of_ble_eq_true rfl) dX7_init_84 (fun H locs hP hD hS => ?_)
  have hP : va_P D classes ([(h0, .inr (7, [.int 4, .int 90, .int 0, .int 0, .int 0, .ref q1, .ref q2, .ref q3, .ref q4, .ref q5, .int 0, .ref q6, .int 0, .ref q7, .int 0, .int 0, .int 0, .ref q8, .ref q9, .null, .null, .int 0, .int 0, .null, .null, .null, .null])), (q1, .inl (cI, 6, .inl (fun _ => 0))), (q2, .inl (cI, 6, .inl (fun _ => 0))), (q3, .inl (cI, 6, .inl (fun _ => 0))), (q4, .inl (cI, 6, .inl (fun _ => 0))), (q5, .inl (cI, 6, .inl (fun _ => 0))), (q6, .inl (cI, 16, .inl (fun _ => 0))), (q7, .inl (cI, 60, .inl (fun _ => 0))), (q8, .inl (cI, 6, .inl (fun _ => 0))), (q9, .inl (cI, 6, .inl (fun _ => 0)))]) H := hP
  have hD : va_D (va_A [(h0, .inr (7, [.int 0, .int 0, .int 0, .int 0, .int 0, .null, .null, .null, .null, .null, .int 0, .null, .int 0, .null, .int 0, .int 0, .int 0, .null, .null, .null, .null, .int 0, .int 0, .null, .null, .null, .null]))] s.heap.size) ([(h0, .inr (7, [.int 4, .int 90, .int 0, .int 0, .int 0, .ref q1, .ref q2, .ref q3, .ref q4, .ref q5, .int 0, .ref q6, .int 0, .ref q7, .int 0, .int 0, .int 0, .ref q8, .ref q9, .null, .null, .int 0, .int 0, .null, .null, .null, .null])), (q1, .inl (cI, 6, .inl (fun _ => 0))), (q2, .inl (cI, 6, .inl (fun _ => 0))), (q3, .inl (cI, 6, .inl (fun _ => 0))), (q4, .inl (cI, 6, .inl (fun _ => 0))), (q5, .inl (cI, 6, .inl (fun _ => 0))), (q6, .inl (cI, 16, .inl (fun _ => 0))), (q7, .inl (cI, 60, .inl (fun _ => 0))), (q8, .inl (cI, 6, .inl (fun _ => 0))), (q9, .inl (cI, 6, .inl (fun _ => 0)))]) := hD
  refine lv_aload_n hx hb dX7_init_87 rfl (lv_at hl 0 rfl) ?_
  refine lv_bipush (v := nI 6) hx hb dX7_init_88 (by decide) ?_
  refine va_newa (a0 := (6, .inl (fun _ => 0))) (N' := 6) (atype := .int) (ty := .int) hx hb (hW _ ac_int) rfl hK hP hD hS hA (fun _ => rfl) (nI_pos (by decide)) (nI_clamp (by decide)) (by decide) (Nat.le_of_ble_eq_true rfl) (Nat.le_of_ble_eq_true rfl) dX7_init_90 (fun q10 cA H hK2 hP hD hS => ?_)
  rw [cA_eq hK2 0 rfl (fun _ _ h => h)] at hP hD
  refine va_putF (D := D) (ci := 7) (v := .ref q10) (ty := .array .int) (C := RX7) (T := TX7) (N := 27) hx hb hW inW_X7 tyX7 tyX7_ok nmX7 hown hK hP hD hS 0 rfl rfl 19 (by decide) (hW _ fl_X7_44) (fun _ h9 => h9) rfl hin rfl (by decide +kernel) rfl rfl (Nat.le_of_ble_eq_true rfl) dX7_init_92 (fun H locs hP hD hS => ?_)
  have hP : va_P D classes ([(h0, .inr (7, [.int 4, .int 90, .int 0, .int 0, .int 0, .ref q1, .ref q2, .ref q3, .ref q4, .ref q5, .int 0, .ref q6, .int 0, .ref q7, .int 0, .int 0, .int 0, .ref q8, .ref q9, .ref q10, .null, .int 0, .int 0, .null, .null, .null, .null])), (q1, .inl (cI, 6, .inl (fun _ => 0))), (q2, .inl (cI, 6, .inl (fun _ => 0))), (q3, .inl (cI, 6, .inl (fun _ => 0))), (q4, .inl (cI, 6, .inl (fun _ => 0))), (q5, .inl (cI, 6, .inl (fun _ => 0))), (q6, .inl (cI, 16, .inl (fun _ => 0))), (q7, .inl (cI, 60, .inl (fun _ => 0))), (q8, .inl (cI, 6, .inl (fun _ => 0))), (q9, .inl (cI, 6, .inl (fun _ => 0))), (q10, .inl (cI, 6, .inl (fun _ => 0)))]) H := hP
  have hD : va_D (va_A [(h0, .inr (7, [.int 0, .int 0, .int 0, .int 0, .int 0, .null, .null, .null, .null, .null, .int 0, .null, .int 0, .null, .int 0, .int 0, .int 0, .null, .null, .null, .null, .int 0, .int 0, .null, .null, .null, .null]))] s.heap.size) ([(h0, .inr (7, [.int 4, .int 90, .int 0, .int 0, .int 0, .ref q1, .ref q2, .ref q3, .ref q4, .ref q5, .int 0, .ref q6, .int 0, .ref q7, .int 0, .int 0, .int 0, .ref q8, .ref q9, .ref q10, .null, .int 0, .int 0, .null, .null, .null, .null])), (q1, .inl (cI, 6, .inl (fun _ => 0))), (q2, .inl (cI, 6, .inl (fun _ => 0))), (q3, .inl (cI, 6, .inl (fun _ => 0))), (q4, .inl (cI, 6, .inl (fun _ => 0))), (q5, .inl (cI, 6, .inl (fun _ => 0))), (q6, .inl (cI, 16, .inl (fun _ => 0))), (q7, .inl (cI, 60, .inl (fun _ => 0))), (q8, .inl (cI, 6, .inl (fun _ => 0))), (q9, .inl (cI, 6, .inl (fun _ => 0))), (q10, .inl (cI, 6, .inl (fun _ => 0)))]) := hD
  refine lv_aload_n hx hb dX7_init_95 rfl (lv_at hl 0 rfl) ?_
  refine lv_bipush (v := nI 6) hx hb dX7_init_96 (by decide) ?_
  refine va_newa (a0 := (6, .inl (fun _ => 0))) (N' := 6) (atype := .int) (ty := .int) hx hb (hW _ ac_int) rfl hK hP hD hS hA (fun _ => rfl) (nI_pos (by decide)) (nI_clamp (by decide)) (by decide) (Nat.le_of_ble_eq_true rfl) (Nat.le_of_ble_eq_true rfl) dX7_init_98 (fun q11 cA H hK2 hP hD hS => ?_)
  rw [cA_eq hK2 0 rfl (fun _ _ h => h)] at hP hD
  refine va_putF (D := D) (ci := 7) (v := .ref q11) (ty := .array .int) (C := RX7) (T := TX7) (N := 27) hx hb hW inW_X7 tyX7 tyX7_ok nmX7 hown hK hP hD hS 0 rfl rfl 20 (by decide) (hW _ fl_X7_47) (fun _ h9 => h9) rfl hin rfl (by decide +kernel) rfl rfl (Nat.le_of_ble_eq_true rfl) dX7_init_100 (fun H locs hP hD hS => ?_)
  have hP : va_P D classes ([(h0, .inr (7, [.int 4, .int 90, .int 0, .int 0, .int 0, .ref q1, .ref q2, .ref q3, .ref q4, .ref q5, .int 0, .ref q6, .int 0, .ref q7, .int 0, .int 0, .int 0, .ref q8, .ref q9, .ref q10, .ref q11, .int 0, .int 0, .null, .null, .null, .null])), (q1, .inl (cI, 6, .inl (fun _ => 0))), (q2, .inl (cI, 6, .inl (fun _ => 0))), (q3, .inl (cI, 6, .inl (fun _ => 0))), (q4, .inl (cI, 6, .inl (fun _ => 0))), (q5, .inl (cI, 6, .inl (fun _ => 0))), (q6, .inl (cI, 16, .inl (fun _ => 0))), (q7, .inl (cI, 60, .inl (fun _ => 0))), (q8, .inl (cI, 6, .inl (fun _ => 0))), (q9, .inl (cI, 6, .inl (fun _ => 0))), (q10, .inl (cI, 6, .inl (fun _ => 0))), (q11, .inl (cI, 6, .inl (fun _ => 0)))]) H := hP
  have hD : va_D (va_A [(h0, .inr (7, [.int 0, .int 0, .int 0, .int 0, .int 0, .null, .null, .null, .null, .null, .int 0, .null, .int 0, .null, .int 0, .int 0, .int 0, .null, .null, .null, .null, .int 0, .int 0, .null, .null, .null, .null]))] s.heap.size) ([(h0, .inr (7, [.int 4, .int 90, .int 0, .int 0, .int 0, .ref q1, .ref q2, .ref q3, .ref q4, .ref q5, .int 0, .ref q6, .int 0, .ref q7, .int 0, .int 0, .int 0, .ref q8, .ref q9, .ref q10, .ref q11, .int 0, .int 0, .null, .null, .null, .null])), (q1, .inl (cI, 6, .inl (fun _ => 0))), (q2, .inl (cI, 6, .inl (fun _ => 0))), (q3, .inl (cI, 6, .inl (fun _ => 0))), (q4, .inl (cI, 6, .inl (fun _ => 0))), (q5, .inl (cI, 6, .inl (fun _ => 0))), (q6, .inl (cI, 16, .inl (fun _ => 0))), (q7, .inl (cI, 60, .inl (fun _ => 0))), (q8, .inl (cI, 6, .inl (fun _ => 0))), (q9, .inl (cI, 6, .inl (fun _ => 0))), (q10, .inl (cI, 6, .inl (fun _ => 0))), (q11, .inl (cI, 6, .inl (fun _ => 0)))]) := hD
  refine lv_aload_n hx hb dX7_init_103 rfl (lv_at hl 0 rfl) ?_
  refine lv_bipush (v := nI 6) hx hb dX7_init_104 (by decide) ?_
  refine va_newa (a0 := (6, .inl (fun _ => 0))) (N' := 6) (atype := .int) (ty := .int) hx hb (hW _ ac_int) rfl hK hP hD hS hA (fun _ => rfl) (nI_pos (by decide)) (nI_clamp (by decide)) (by decide) (Nat.le_of_ble_eq_true rfl) (Nat.le_of_ble_eq_true rfl) dX7_init_106 (fun q12 cA H hK2 hP hD hS => ?_)
  rw [cA_eq hK2 0 rfl (fun _ _ h => h)] at hP hD
  refine va_putF (D := D) (ci := 7) (v := .ref q12) (ty := .array .int) (C := RX7) (T := TX7) (N := 27) hx hb hW inW_X7 tyX7 tyX7_ok nmX7 hown hK hP hD hS 0 rfl rfl 23 (by decide) (hW _ fl_X7_50) (fun _ h9 => h9) rfl hin rfl (by decide +kernel) rfl rfl (Nat.le_of_ble_eq_true rfl) dX7_init_108 (fun H locs hP hD hS => ?_)
  have hP : va_P D classes ([(h0, .inr (7, [.int 4, .int 90, .int 0, .int 0, .int 0, .ref q1, .ref q2, .ref q3, .ref q4, .ref q5, .int 0, .ref q6, .int 0, .ref q7, .int 0, .int 0, .int 0, .ref q8, .ref q9, .ref q10, .ref q11, .int 0, .int 0, .ref q12, .null, .null, .null])), (q1, .inl (cI, 6, .inl (fun _ => 0))), (q2, .inl (cI, 6, .inl (fun _ => 0))), (q3, .inl (cI, 6, .inl (fun _ => 0))), (q4, .inl (cI, 6, .inl (fun _ => 0))), (q5, .inl (cI, 6, .inl (fun _ => 0))), (q6, .inl (cI, 16, .inl (fun _ => 0))), (q7, .inl (cI, 60, .inl (fun _ => 0))), (q8, .inl (cI, 6, .inl (fun _ => 0))), (q9, .inl (cI, 6, .inl (fun _ => 0))), (q10, .inl (cI, 6, .inl (fun _ => 0))), (q11, .inl (cI, 6, .inl (fun _ => 0))), (q12, .inl (cI, 6, .inl (fun _ => 0)))]) H := hP
  have hD : va_D (va_A [(h0, .inr (7, [.int 0, .int 0, .int 0, .int 0, .int 0, .null, .null, .null, .null, .null, .int 0, .null, .int 0, .null, .int 0, .int 0, .int 0, .null, .null, .null, .null, .int 0, .int 0, .null, .null, .null, .null]))] s.heap.size) ([(h0, .inr (7, [.int 4, .int 90, .int 0, .int 0, .int 0, .ref q1, .ref q2, .ref q3, .ref q4, .ref q5, .int 0, .ref q6, .int 0, .ref q7, .int 0, .int 0, .int 0, .ref q8, .ref q9, .ref q10, .ref q11, .int 0, .int 0, .ref q12, .null, .null, .null])), (q1, .inl (cI, 6, .inl (fun _ => 0))), (q2, .inl (cI, 6, .inl (fun _ => 0))), (q3, .inl (cI, 6, .inl (fun _ => 0))), (q4, .inl (cI, 6, .inl (fun _ => 0))), (q5, .inl (cI, 6, .inl (fun _ => 0))), (q6, .inl (cI, 16, .inl (fun _ => 0))), (q7, .inl (cI, 60, .inl (fun _ => 0))), (q8, .inl (cI, 6, .inl (fun _ => 0))), (q9, .inl (cI, 6, .inl (fun _ => 0))), (q10, .inl (cI, 6, .inl (fun _ => 0))), (q11, .inl (cI, 6, .inl (fun _ => 0))), (q12, .inl (cI, 6, .inl (fun _ => 0)))]) := hD
  refine lv_aload_n hx hb dX7_init_111 rfl (lv_at hl 0 rfl) ?_
  refine lv_bipush (v := nI 6) hx hb dX7_init_112 (by decide) ?_
  refine va_newa (a0 := (6, .inl (fun _ => 0))) (N' := 6) (atype := .int) (ty := .int) hx hb (hW _ ac_int) rfl hK hP hD hS hA (fun _ => rfl) (nI_pos (by decide)) (nI_clamp (by decide)) (by decide) (Nat.le_of_ble_eq_true rfl) (Nat.le_of_ble_eq_true rfl) dX7_init_114 (fun q13 cA H hK2 hP hD hS => ?_)
  rw [cA_eq hK2 0 rfl (fun _ _ h => h)] at hP hD
  refine va_putF (D := D) (ci := 7) (v := .ref q13) (ty := .array .int) (C := RX7) (T := TX7) (N := 27) hx hb hW inW_X7 tyX7 tyX7_ok nmX7 hown hK hP hD hS 0 rfl rfl 24 (by decide) (hW _ fl_X7_53) (fun _ h9 => h9) rfl hin rfl (by decide +kernel) rfl rfl (Nat.le_of_ble_eq_true rfl) dX7_init_116 (fun H locs hP hD hS => ?_)
  have hP : va_P D classes ([(h0, .inr (7, [.int 4, .int 90, .int 0, .int 0, .int 0, .ref q1, .ref q2, .ref q3, .ref q4, .ref q5, .int 0, .ref q6, .int 0, .ref q7, .int 0, .int 0, .int 0, .ref q8, .ref q9, .ref q10, .ref q11, .int 0, .int 0, .ref q12, .ref q13, .null, .null])), (q1, .inl (cI, 6, .inl (fun _ => 0))), (q2, .inl (cI, 6, .inl (fun _ => 0))), (q3, .inl (cI, 6, .inl (fun _ => 0))), (q4, .inl (cI, 6, .inl (fun _ => 0))), (q5, .inl (cI, 6, .inl (fun _ => 0))), (q6, .inl (cI, 16, .inl (fun _ => 0))), (q7, .inl (cI, 60, .inl (fun _ => 0))), (q8, .inl (cI, 6, .inl (fun _ => 0))), (q9, .inl (cI, 6, .inl (fun _ => 0))), (q10, .inl (cI, 6, .inl (fun _ => 0))), (q11, .inl (cI, 6, .inl (fun _ => 0))), (q12, .inl (cI, 6, .inl (fun _ => 0))), (q13, .inl (cI, 6, .inl (fun _ => 0)))]) H := hP
  have hD : va_D (va_A [(h0, .inr (7, [.int 0, .int 0, .int 0, .int 0, .int 0, .null, .null, .null, .null, .null, .int 0, .null, .int 0, .null, .int 0, .int 0, .int 0, .null, .null, .null, .null, .int 0, .int 0, .null, .null, .null, .null]))] s.heap.size) ([(h0, .inr (7, [.int 4, .int 90, .int 0, .int 0, .int 0, .ref q1, .ref q2, .ref q3, .ref q4, .ref q5, .int 0, .ref q6, .int 0, .ref q7, .int 0, .int 0, .int 0, .ref q8, .ref q9, .ref q10, .ref q11, .int 0, .int 0, .ref q12, .ref q13, .null, .null])), (q1, .inl (cI, 6, .inl (fun _ => 0))), (q2, .inl (cI, 6, .inl (fun _ => 0))), (q3, .inl (cI, 6, .inl (fun _ => 0))), (q4, .inl (cI, 6, .inl (fun _ => 0))), (q5, .inl (cI, 6, .inl (fun _ => 0))), (q6, .inl (cI, 16, .inl (fun _ => 0))), (q7, .inl (cI, 60, .inl (fun _ => 0))), (q8, .inl (cI, 6, .inl (fun _ => 0))), (q9, .inl (cI, 6, .inl (fun _ => 0))), (q10, .inl (cI, 6, .inl (fun _ => 0))), (q11, .inl (cI, 6, .inl (fun _ => 0))), (q12, .inl (cI, 6, .inl (fun _ => 0))), (q13, .inl (cI, 6, .inl (fun _ => 0)))]) := hD
  refine lv_aload_n hx hb dX7_init_119 rfl (lv_at hl 0 rfl) ?_
  refine lv_sipush (v := nI 140) hx hb dX7_init_120 (by decide) ?_
  refine va_newa (a0 := (140, .inl (fun _ => 0))) (N' := 140) (atype := .int) (ty := .int) hx hb (hW _ ac_int) rfl hK hP hD hS hA (fun _ => rfl) (nI_pos (by decide)) (nI_clamp (by decide)) (by decide) (Nat.le_of_ble_eq_true rfl) (Nat.le_of_ble_eq_true rfl) dX7_init_123 (fun q14 cA H hK2 hP hD hS => ?_)
  rw [cA_eq hK2 0 rfl (fun _ _ h => h)] at hP hD
  refine va_putF (D := D) (ci := 7) (v := .ref q14) (ty := .array .int) (C := RX7) (T := TX7) (N := 27) hx hb hW inW_X7 tyX7 tyX7_ok nmX7 hown hK hP hD hS 0 rfl rfl 25 (by decide) (hW _ fl_X7_56) (fun _ h9 => h9) rfl hin rfl (by decide +kernel) rfl rfl (Nat.le_of_ble_eq_true rfl) dX7_init_125 (fun H locs hP hD hS => ?_)
  have hP : va_P D classes ([(h0, .inr (7, [.int 4, .int 90, .int 0, .int 0, .int 0, .ref q1, .ref q2, .ref q3, .ref q4, .ref q5, .int 0, .ref q6, .int 0, .ref q7, .int 0, .int 0, .int 0, .ref q8, .ref q9, .ref q10, .ref q11, .int 0, .int 0, .ref q12, .ref q13, .ref q14, .null])), (q1, .inl (cI, 6, .inl (fun _ => 0))), (q2, .inl (cI, 6, .inl (fun _ => 0))), (q3, .inl (cI, 6, .inl (fun _ => 0))), (q4, .inl (cI, 6, .inl (fun _ => 0))), (q5, .inl (cI, 6, .inl (fun _ => 0))), (q6, .inl (cI, 16, .inl (fun _ => 0))), (q7, .inl (cI, 60, .inl (fun _ => 0))), (q8, .inl (cI, 6, .inl (fun _ => 0))), (q9, .inl (cI, 6, .inl (fun _ => 0))), (q10, .inl (cI, 6, .inl (fun _ => 0))), (q11, .inl (cI, 6, .inl (fun _ => 0))), (q12, .inl (cI, 6, .inl (fun _ => 0))), (q13, .inl (cI, 6, .inl (fun _ => 0))), (q14, .inl (cI, 140, .inl (fun _ => 0)))]) H := hP
  have hD : va_D (va_A [(h0, .inr (7, [.int 0, .int 0, .int 0, .int 0, .int 0, .null, .null, .null, .null, .null, .int 0, .null, .int 0, .null, .int 0, .int 0, .int 0, .null, .null, .null, .null, .int 0, .int 0, .null, .null, .null, .null]))] s.heap.size) ([(h0, .inr (7, [.int 4, .int 90, .int 0, .int 0, .int 0, .ref q1, .ref q2, .ref q3, .ref q4, .ref q5, .int 0, .ref q6, .int 0, .ref q7, .int 0, .int 0, .int 0, .ref q8, .ref q9, .ref q10, .ref q11, .int 0, .int 0, .ref q12, .ref q13, .ref q14, .null])), (q1, .inl (cI, 6, .inl (fun _ => 0))), (q2, .inl (cI, 6, .inl (fun _ => 0))), (q3, .inl (cI, 6, .inl (fun _ => 0))), (q4, .inl (cI, 6, .inl (fun _ => 0))), (q5, .inl (cI, 6, .inl (fun _ => 0))), (q6, .inl (cI, 16, .inl (fun _ => 0))), (q7, .inl (cI, 60, .inl (fun _ => 0))), (q8, .inl (cI, 6, .inl (fun _ => 0))), (q9, .inl (cI, 6, .inl (fun _ => 0))), (q10, .inl (cI, 6, .inl (fun _ => 0))), (q11, .inl (cI, 6, .inl (fun _ => 0))), (q12, .inl (cI, 6, .inl (fun _ => 0))), (q13, .inl (cI, 6, .inl (fun _ => 0))), (q14, .inl (cI, 140, .inl (fun _ => 0)))]) := hD
  refine lv_aload_n hx hb dX7_init_128 rfl (lv_at hl 0 rfl) ?_
  refine lv_iconst (v := nI 2) hx hb dX7_init_129 (by decide) ?_
  refine va_newa (a0 := (2, .inl (fun _ => 0))) (N' := 2) (atype := .boolean) (ty := .boolean) hx hb (hW _ ac_boolean) rfl hK hP hD hS hA (fun _ => rfl) (nI_pos (by decide)) (nI_clamp (by decide)) (by decide) (Nat.le_of_ble_eq_true rfl) (Nat.le_of_ble_eq_true rfl) dX7_init_130 (fun q15 cA H hK2 hP hD hS => ?_)
  rw [cA_eq hK2 1 rfl (fun _ _ h => h)] at hP hD
  refine va_putF (D := D) (ci := 7) (v := .ref q15) (ty := .array .boolean) (C := RX7) (T := TX7) (N := 27) hx hb hW inW_X7 tyX7 tyX7_ok nmX7 hown hK hP hD hS 0 rfl rfl 26 (by decide) (hW _ fl_X7_59) (fun _ h9 => h9) rfl hin rfl (by decide +kernel) rfl rfl (Nat.le_of_ble_eq_true rfl) dX7_init_132 (fun H locs hP hD hS => ?_)
  have hP : va_P D classes ([(h0, .inr (7, [.int 4, .int 90, .int 0, .int 0, .int 0, .ref q1, .ref q2, .ref q3, .ref q4, .ref q5, .int 0, .ref q6, .int 0, .ref q7, .int 0, .int 0, .int 0, .ref q8, .ref q9, .ref q10, .ref q11, .int 0, .int 0, .ref q12, .ref q13, .ref q14, .ref q15])), (q1, .inl (cI, 6, .inl (fun _ => 0))), (q2, .inl (cI, 6, .inl (fun _ => 0))), (q3, .inl (cI, 6, .inl (fun _ => 0))), (q4, .inl (cI, 6, .inl (fun _ => 0))), (q5, .inl (cI, 6, .inl (fun _ => 0))), (q6, .inl (cI, 16, .inl (fun _ => 0))), (q7, .inl (cI, 60, .inl (fun _ => 0))), (q8, .inl (cI, 6, .inl (fun _ => 0))), (q9, .inl (cI, 6, .inl (fun _ => 0))), (q10, .inl (cI, 6, .inl (fun _ => 0))), (q11, .inl (cI, 6, .inl (fun _ => 0))), (q12, .inl (cI, 6, .inl (fun _ => 0))), (q13, .inl (cI, 6, .inl (fun _ => 0))), (q14, .inl (cI, 140, .inl (fun _ => 0))), (q15, .inl (cZ, 2, .inl (fun _ => 0)))]) H := hP
  have hD : va_D (va_A [(h0, .inr (7, [.int 0, .int 0, .int 0, .int 0, .int 0, .null, .null, .null, .null, .null, .int 0, .null, .int 0, .null, .int 0, .int 0, .int 0, .null, .null, .null, .null, .int 0, .int 0, .null, .null, .null, .null]))] s.heap.size) ([(h0, .inr (7, [.int 4, .int 90, .int 0, .int 0, .int 0, .ref q1, .ref q2, .ref q3, .ref q4, .ref q5, .int 0, .ref q6, .int 0, .ref q7, .int 0, .int 0, .int 0, .ref q8, .ref q9, .ref q10, .ref q11, .int 0, .int 0, .ref q12, .ref q13, .ref q14, .ref q15])), (q1, .inl (cI, 6, .inl (fun _ => 0))), (q2, .inl (cI, 6, .inl (fun _ => 0))), (q3, .inl (cI, 6, .inl (fun _ => 0))), (q4, .inl (cI, 6, .inl (fun _ => 0))), (q5, .inl (cI, 6, .inl (fun _ => 0))), (q6, .inl (cI, 16, .inl (fun _ => 0))), (q7, .inl (cI, 60, .inl (fun _ => 0))), (q8, .inl (cI, 6, .inl (fun _ => 0))), (q9, .inl (cI, 6, .inl (fun _ => 0))), (q10, .inl (cI, 6, .inl (fun _ => 0))), (q11, .inl (cI, 6, .inl (fun _ => 0))), (q12, .inl (cI, 6, .inl (fun _ => 0))), (q13, .inl (cI, 6, .inl (fun _ => 0))), (q14, .inl (cI, 140, .inl (fun _ => 0))), (q15, .inl (cZ, 2, .inl (fun _ => 0)))]) := hD
  obtain ⟨ad9, had⟩ : ∃ f : Nat → Nat, f = (fun k => [h0, q1, q2, q3, q4, q5, q6, q7, q8, q9, q10, q11, q12, q13, q14, q15].getD k 0) := ⟨_, rfl⟩
  have hh : h0 = ad9 0 := by rw [had]; rfl
  have hP : va_P D classes (jn [mcells cI cZ ad9 0 (sI (sI Z0 0 4) 1 90)]) H := by rw [had]; exact hP
  have hD : va_D (va_A [(h0, .inr (7, [.int 0, .int 0, .int 0, .int 0, .int 0, .null, .null, .null, .null, .null, .int 0, .null, .int 0, .null, .int 0, .int 0, .int 0, .null, .null, .null, .null, .int 0, .int 0, .null, .null, .null, .null]))] s.heap.size) (jn [mcells cI cZ ad9 0 (sI (sI Z0 0 4) 1 90)]) := by rw [had]; exact hD
  refine lv_aload_n hx hb dX7_init_135 rfl (lv_at hl 0 rfl) ?_
  refine W.eq (g2 := F0 m 136 ls [.ref (ad9 0)]) (by rw [← hh]) ?_
  refine callW (va_runV (As := []) (rest := []) ⟨hx, hb, hml, hown, hW⟩ (c_X7_clear l D cI cZ ad9 (sI (sI Z0 0 4) 1 90) _ hw) (cwV0 hW mV_X7_clear ml_X7_63 ⟨Nat.le_of_ble_eq_true rfl, Nat.le_of_ble_eq_true rfl⟩) (preV0 0 rfl rfl hK hN hP hD [0] rfl rfl) rfl rfl hl.1 rfl (lv_room (Nat.le_of_ble_eq_true rfl)) dX7_init_136 ⟨Nat.le_of_ble_eq_true rfl, Nat.le_of_ble_eq_true rfl⟩) hP hD hS [0] rfl rfl (fun _ => rfl) (fun v9 S9 H locs hq hP hD hS => ?_)
  obtain ⟨rfl, hw⟩ := hq
  refine W.eq (g2 := F0 m 139 ls []) rfl ?_
  have hP : va_P D classes (jn [mcells cI cZ ad9 0 S9]) H := hP
  have hD : va_D (va_A [(h0, .inr (7, [.int 0, .int 0, .int 0, .int 0, .int 0, .null, .null, .null, .null, .null, .int 0, .null, .int 0, .null, .int 0, .int 0, .int 0, .null, .null, .null, .null, .int 0, .int 0, .null, .null, .null, .null]))] s.heap.size) (jn [mcells cI cZ ad9 0 S9]) := hD
  refine W.widen (k := 15) (n := 284) (Nat.le_of_ble_eq_true rfl) (Nat.le_of_ble_eq_true rfl) ?_
  exact W.vret hx hb hr (fun t ht _ => ⟨⟨(ad9, S9), rfl, ⟨hh.symm, hw⟩, by rw [ht]; exact hP, hD⟩, hS.F ht⟩) hS.2.2 dX7_init_139
