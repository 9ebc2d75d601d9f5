-- the classes of the worlds, the standard start and ends of a method that makes nothing, and its calls
abbrev classes : List vw_C := [(RX0, TX0, 7), (RX1, TX1, 2), (RX2, TX2, 15), (RX3, TX3, 1), (RX4, TX4, 2), (RX5, TX5, 2), (RX6, TX6, 9), (RX7, TX7, 27)]
abbrev tysOf (cI cZ : ClassId) : List (ClassId × FieldType) := [(cI, .int), (cZ, .boolean)]
def NW (U : State) : Prop := ∀ w ∈ nestW, va_Nw w U
theorem nestW_form : ∀ w ∈ nestW, ∃ a i x h, w = Cond.methodLinkNest a i x h := by
  intro w hw
  simp only [nestW, List.mem_cons, List.not_mem_nil, or_false] at hw
  rcases hw with rfl | rfl | rfl | rfl | rfl | rfl | rfl <;> exact ⟨_, _, _, _, rfl⟩
theorem NW.warm {s U : State} (hW : s.WarmedH U.vm) (h : NW s) : NW U := by
  intro w hw
  obtain ⟨a, i, x, hh, rfl⟩ := nestW_form w hw
  exact va_Nw.warmM hW (h _ hw)
theorem NW.same {s U : State} (hv : s.vm = U.vm) (h : NW s) : NW U := by
  intro w hw
  obtain ⟨a, i, x, hh, rfl⟩ := nestW_form w hw
  exact va_Nw.same rfl hv (h _ hw)
def PreW (D : va_G) (cI cZ : ClassId) (av : List Value) (ws : va_W) : Array Value → State → Prop :=
  va_Pc av (fun U => va_P D classes ws U.heap ∧ va_K D classes (tysOf cI cZ) U ∧ va_D (fun _ => True) ws ∧ NW U)
theorem PreW.blind {D : va_G} {cI cZ : ClassId} {av : List Value} {ws : va_W} : FrameBlind (PreW D cI cZ av ws) := by
  intro a U g mk q
  obtain ⟨q0, qP, qK, qD, qN⟩ := q
  exact ⟨q0, qP, va_K.moved (u := U) (U := U.calling g mk a) (Vm.Alike.refl U.vm) qK, qD, NW.same (s := U) (U := U.calling g mk a) rfl qN⟩
def cOf (ws : va_W) : Nat → Prop := fun q => ∃ (k : Nat) (e : va_E), ws[k]? = some (q, e)
def QF (v : Option Value) : Array Value → State → Outcome → State → Prop := fun _ st oc t => oc = .returned v ∧ t.heap = st.heap
/-- a method that writes nothing, and its answer -/
def KF (l : Launch) (y : MethodName) (b : ByteArray) (nL : Nat) (ret : Option FieldType) (fr lo : Nat) (D : va_G) (cI cZ : ClassId) (av : List Value) (ws : va_W) (v : Option Value) : Prop :=
  Met l y (Cond.code y b nL ret :: WT) { frames := fr, cells := 0, slots := 0, locals := lo } (PreW D cI cZ av ws) (QF v) 0 0 (fun _ => False)
/-- a method that writes nothing, and what holds of its answer -/
def QR (post : Option Value → Prop) : Array Value → State → Outcome → State → Prop := fun _ st oc t => (∃ v, oc = .returned v ∧ post v) ∧ t.heap = st.heap
def KR (l : Launch) (y : MethodName) (b : ByteArray) (nL : Nat) (ret : Option FieldType) (fr lo : Nat) (D : va_G) (cI cZ : ClassId) (av : List Value) (ws : va_W) (post : Option Value → Prop) : Prop :=
  Met l y (Cond.code y b nL ret :: WT) { frames := fr, cells := 0, slots := 0, locals := lo } (PreW D cI cZ av ws) (QR post) 0 0 (fun _ => False)
/-- a method that writes in its world -/
def QW {S : Type} (post : Option Value → S → Prop) (D : va_G) (cells : S → va_W) (ws : va_W) : Array Value → State → Outcome → State → Prop :=
  fun _ st oc t => (∃ (v : Option Value) (u : S), oc = .returned v ∧ post v u ∧ va_P D classes (cells u) t.heap) ∧ va_F (cOf ws) st t
def KW {S : Type} (l : Launch) (y : MethodName) (b : ByteArray) (nL : Nat) (ret : Option FieldType) (fr lo : Nat) (D : va_G) (cI cZ : ClassId) (av : List Value) (ws : va_W) (post : Option Value → S → Prop) (cells : S → va_W) : Prop :=
  Met l y (Cond.code y b nL ret :: WT) { frames := fr, cells := 0, slots := 0, locals := lo } (PreW D cI cZ av ws) (QW post D cells ws) 0 0 (cOf ws)
/-- what a walk has in hand at a method's entry -/
def Ent (p : Program) (s : State) (m : MethodId) (args : Array Value) (meth : Method) (c : Code) (b : ByteArray) (nL : Nat) (ret : Option FieldType) (own : String) (D : va_G) (cI cZ : ClassId) (ws : va_W) : Prop :=
  p.tables.exec = Jvm.exec ∧ c.code = b ∧ meth.sig.returnType = ret ∧ c.maxLocals = nL ∧ (∀ w ∈ WT, w.before args s = true) ∧ s.vm.findClass own = some m.cls ∧ meth.locks = false ∧
  va_P D classes ws s.heap ∧ va_K D classes (tysOf cI cZ) s ∧ va_D (cOf ws) ws ∧ NW s
theorem va_D.own {ws : va_W} {A : Nat → Prop} (h : va_D A ws) : va_D (cOf ws) ws := ⟨h.1, fun k q hk => ⟨k, q.2, hk⟩⟩
theorem Met.ofE {l : Launch} {y : MethodName} {b : ByteArray} {nL : Nat} {ret : Option FieldType} {fr lo : Nat} {D : va_G} {cI cZ : ClassId} {av : List Value} {ws : va_W} {Qc : Array Value → State → Outcome → State → Prop} {free : Addr → Prop}
    (hy : plainFor y = true) (hn : (lg_sl av).length ≤ nL)
    (body : ∀ (p : Program) (e : Env) (s : State) (m : MethodId) (below : List Frame) (meth : Method) (c : Code), Ent p s m av.toArray meth c b nL ret y.cls D cI cZ ws → ∀ ls : Array Slot, lv_has ls nL (lv_args 0 av) →
      W p l e { frames := fr, cells := 0, slots := 0, locals := lo } s m av.toArray below meth c s.heap [] 0 0 (MQ below Qc av.toArray s 0 0 free) (F0 m 0 ls [])) :
    Met l y (Cond.code y b nL ret :: WT) { frames := fr, cells := 0, slots := 0, locals := lo } (PreW D cI cZ av ws) Qc 0 0 free := by
  refine va_MetF (cc := b) (maxL := nL) (ret := ret) hy rfl ?_
  intro p e s m args below meth c s₁ B hml hv
  obtain ⟨rfl, hP, hK, hD, hN⟩ := hv
  have hts := atoms_spec (ws := Cond.code y b nL ret :: WT) B.pre
  have hl := lv_entry av (n := nL) hn
  rw [lg_entry_eq]
  exact body p e s m below meth c ⟨B.exec, B.bytes, B.returns, hml, fun w h => hts w (List.mem_cons_of_mem _ h), findClass_of_methodNamed B.named, B.notSynchronized, hP, hK, hD.own, hN⟩ _ hl
/-! calls -/
theorem WT_gi {ws : List Cond} (h : ∀ w ∈ ws, w ∈ WT) : GoodIn WT ws := fun w hw => ⟨h w hw, WT_good w (h w hw)⟩
theorem cwV0 {R : Room} {s : State} {args : Array Value} {own C : String} {index n fr lo nL : Nat} {y : MethodName} {b : ByteArray} {ret : Option FieldType} (hW : ∀ w ∈ WT, w.before args s = true) (mv : MV C y b nL ret n) (ml : Cond.methodLink own index y ∈ WT) (hR : fr + 1 ≤ R.frames ∧ 8 + (nL + 11) + lo ≤ R.locals) :
    CallW R s args own C index y b nL ret (Cond.code y b nL ret :: WT) { frames := fr, cells := 0, slots := 0, locals := lo } 0 0 n := by
  obtain ⟨h1, h2, h3, h4, h5⟩ := mv
  refine cwV n hW (WT_gi ?_) rfl rfl rfl h5 hR
  intro w hw
  simp only [wsV, List.cons_append, List.nil_append, List.mem_cons] at hw
  rcases hw with rfl | rfl | rfl | rfl | rfl | hw
  · exact ml
  · exact h1
  · exact h2
  · exact h3
  · exact h4
  · exact hw
theorem cwS0 {R : Room} {s : State} {args : Array Value} {own : String} {index n fr lo nL : Nat} {y : MethodName} {b : ByteArray} {ret : Option FieldType} (hW : ∀ w ∈ WT, w.before args s = true) (mv : MS y b nL ret n) (ml : Cond.methodLink own index y ∈ WT) (hR : fr + 1 ≤ R.frames ∧ 8 + (nL + 11) + lo ≤ R.locals) :
    CallB R s args own index y b nL ret (Cond.code y b nL ret :: WT) { frames := fr, cells := 0, slots := 0, locals := lo } 0 0 n ∧ (Cond.static y).before args s = true := by
  obtain ⟨h1, h2, h3, h4⟩ := mv
  refine va_cwS n hW (WT_gi ?_) rfl rfl rfl h4 hR
  intro w hw
  simp only [va_wsS, List.cons_append, List.nil_append, List.mem_cons] at hw
  rcases hw with rfl | rfl | rfl | rfl | hw
  · exact ml
  · exact h1
  · exact h2
  · exact h3
  · exact hw
theorem cwSN0 {R : Room} {s : State} {args : Array Value} {own host : String} {index n fr lo nL : Nat} {y : MethodName} {b : ByteArray} {ret : Option FieldType} (hW : ∀ w ∈ WT, w.before args s = true) (hN : NW s) (mv : MS y b nL ret n) (ml : Cond.methodLinkNest own index y host ∈ nestW) (hR : fr + 1 ≤ R.frames ∧ 8 + (nL + 11) + lo ≤ R.locals) :
    va_CN R s args own index y host b nL ret (Cond.code y b nL ret :: WT) { frames := fr, cells := 0, slots := 0, locals := lo } 0 0 n ∧ (Cond.static y).before args s = true ∧ True := by
  obtain ⟨h1, h2, h3, h4⟩ := mv
  refine ⟨va_cnB n hW (WT_gi ?_) rfl rfl rfl (hN _ ml) (hW _ h2) h4 hR, hW _ h1, trivial⟩
  intro w hw
  rcases List.mem_cons.mp hw with rfl | hw
  · exact h3
  · exact hw
theorem sub_of {ws wc : va_W} {is : List Nat} (h : is.map (fun i => ws[i]?) = wc.map some) : is.filterMap (fun i => ws[i]?) = wc := by
  have h2 : ∀ (l : List Nat) (w : va_W), l.map (fun i => ws[i]?) = w.map some → l.filterMap (fun i => ws[i]?) = w := by
    intro l
    induction l with
    | nil =>
      intro w hw
      cases w with
      | nil => rfl
      | cons a t => simp at hw
    | cons a t ih =>
      intro w hw
      cases w with
      | nil => simp at hw
      | cons b u =>
        simp only [List.map_cons, List.cons.injEq] at hw
        rw [List.filterMap_cons, hw.1, ih u hw.2]
  exact h2 is wc h
theorem preS0 {s : State} {H : Heap} {D : va_G} {cI cZ : ClassId} {A : Nat → Prop} {ws wc : va_W} {av : List Value} (hK : va_K D classes (tysOf cI cZ) s) (hN : NW s) (hP : va_P D classes ws H) (hD : va_D A ws) (is : List Nat) (hC : is.map (fun i => ws[i]?) = wc.map some) (nd : va_nd is = true) : PreS s H (PreW D cI cZ av wc) av :=
  ⟨PreW.blind, fun U hU hW => ⟨rfl, by rw [hU]; exact hP.sub is (sub_of hC), va_K.moved hW.alike hK, (hD.sub is nd hC).weaken (fun _ _ _ _ => trivial), hN.warm hW⟩⟩
theorem preV0 {s : State} {H : Heap} {D : va_G} {cI cZ : ClassId} {A : Nat → Prop} {ws wc : va_W} {a : Nat} {As : List Value} {C : String} {T : u_T} {N ci : Nat} {fs : List Value} (q0 : Nat) (hq : ws[q0]? = some (a, .inr (ci, fs))) (hc : classes[ci]? = some (C, T, N)) (hK : va_K D classes (tysOf cI cZ) s) (hN : NW s) (hP : va_P D classes ws H) (hD : va_D A ws) (is : List Nat) (hC : is.map (fun i => ws[i]?) = wc.map some) (nd : va_nd is = true) : PreV s H C a (PreW D cI cZ (.ref a :: As) wc) As :=
  ⟨PreW.blind, va_recv hK hP hc hq, (preS0 (av := .ref a :: As) hK hN hP hD is hC nd).2⟩
section CALLS
variable {p : Program} {l : Launch} {e : Env} {R : Room} {s : State} {m : MethodId} {args : Array Value} {below : List Frame} {meth : Method} {c : Code} {H : Heap} {locs : List Loc} {cells slots : Nat} {Q : State → Prop}
variable {pc : Nat} {ls : Array Slot} {rest st0 : List Value} {a : Array Value} {A0 : Nat → Prop} {H0 : Heap} {D : va_G} {ws wc : va_W}
theorem nil_of {L : List Loc} (h : ∀ q ∈ L, False) : L = [] := by
  cases L with
  | nil => rfl
  | cons b t => exact (h b List.mem_cons_self).elim
theorem callF {v : Option Value} (hr : va_Run p l e R s m args below meth c H locs cells slots 0 0 (F0 m pc ls st0) rest (QF v a) (fun _ => False)) (kk : W p l e R s m args below meth c H locs cells slots Q (F0 m (pc + 3) ls (v.toList ++ rest))) : W p l e R s m args below meth c H locs cells slots Q (F0 m pc ls st0) := by
  intro T hT X
  obtain ⟨v', st₀, t, T', L, h0, X', hL, e1, e2, ⟨hv, hh⟩, st⟩ := hr T hT X
  cases hv
  have hn := nil_of hL
  subst hn
  rw [List.append_nil] at X'
  obtain ⟨t2, a1, b1⟩ := kk T' (by rw [e1, hh, h0]) X'
  exact ⟨t2, st t2 a1, b1⟩
theorem callR {post : Option Value → Prop} (hr : va_Run p l e R s m args below meth c H locs cells slots 0 0 (F0 m pc ls st0) rest (QR post a) (fun _ => False)) (kk : ∀ v, post v → W p l e R s m args below meth c H locs cells slots Q (F0 m (pc + 3) ls (v.toList ++ rest))) : W p l e R s m args below meth c H locs cells slots Q (F0 m pc ls st0) := by
  intro T hT X
  obtain ⟨v', st₀, t, T', L, h0, X', hL, e1, e2, ⟨⟨v, hv, hp⟩, hh⟩, st⟩ := hr T hT X
  cases hv
  have hn := nil_of hL
  subst hn
  rw [List.append_nil] at X'
  obtain ⟨t2, a1, b1⟩ := kk _ hp T' (by rw [e1, hh, h0]) X'
  exact ⟨t2, st t2 a1, b1⟩
end CALLS
/-- a world with the cells at some places put anew -/
def sets (ws : va_W) : List Nat → va_W → va_W
  | [], _ => ws
  | _ :: _, [] => ws
  | i :: is, e :: es => sets (ws.set i e) is es
theorem sets_len : ∀ (is : List Nat) (ws es : va_W), (sets ws is es).length = ws.length := by
  intro is
  induction is with
  | nil => intro ws es; cases es <;> rfl
  | cons i is ih =>
    intro ws es
    cases es with
    | nil => rfl
    | cons e es => show (sets (ws.set i e) is es).length = _; rw [ih]; simp
theorem sets_get : ∀ (is : List Nat) (ws es : va_W) (k : Nat) (q : Nat × va_E), va_nd is = true → (sets ws is es)[k]? = some q → (∃ j : Nat, is[j]? = some k ∧ es[j]? = some q) ∨ (ws[k]? = some q ∧ ∀ j : Nat, j < es.length → is[j]? ≠ some k) := by
  intro is
  induction is with
  | nil => intro ws es k q _ h; exact Or.inr ⟨by cases es <;> exact h, fun j _ => by simp⟩
  | cons i is ih =>
    intro ws es k q hn h
    cases es with
    | nil => exact Or.inr ⟨h, fun j hj => absurd hj (Nat.not_lt_zero _)⟩
    | cons e es =>
      have hinj := va_nd_inj (i :: is) hn
      have hn2 : va_nd is = true := by simp only [va_nd, Bool.and_eq_true] at hn; exact hn.2
      rcases ih (ws.set i e) es k q hn2 h with ⟨j, h1, h2⟩ | ⟨h1, h2⟩
      · exact Or.inl ⟨j + 1, by simpa using h1, by simpa using h2⟩
      · by_cases hk : i = k
        · subst hk
          rw [List.getElem?_set] at h1
          rw [if_pos rfl] at h1
          split at h1
          · exact Or.inl ⟨0, by simp, by simpa using h1⟩
          · cases h1
        · rw [List.getElem?_set, if_neg hk] at h1
          refine Or.inr ⟨h1, fun j hj => ?_⟩
          cases j with
          | zero => simpa using hk
          | succ j => simpa using h2 j (by simpa using hj)
theorem fst_at {a b : va_W} (h : a.map Prod.fst = b.map Prod.fst) {j : Nat} {q : Nat × va_E} (hq : a[j]? = some q) : ∃ r, b[j]? = some r ∧ r.1 = q.1 := by
  have h1 : (a.map Prod.fst)[j]? = some q.1 := by rw [List.getElem?_map, hq]; rfl
  rw [h, List.getElem?_map] at h1
  cases hb : b[j]? with
  | none => rw [hb] at h1; cases h1
  | some r => rw [hb] at h1; exact ⟨r, rfl, Option.some.inj h1⟩
theorem at_of {ws wc : va_W} {is : List Nat} (hC : is.map (fun i => ws[i]?) = wc.map some) {j i : Nat} (hj : is[j]? = some i) : ∃ q, wc[j]? = some q ∧ ws[i]? = some q := by
  have h1 : (is.map (fun i => ws[i]?))[j]? = some (ws[i]?) := by rw [List.getElem?_map, hj]; rfl
  rw [hC, List.getElem?_map] at h1
  cases hw : wc[j]? with
  | none => rw [hw] at h1; cases h1
  | some q => rw [hw] at h1; exact ⟨q, rfl, (Option.some.inj h1).symm⟩
theorem ix_of {ws wc : va_W} {is : List Nat} (hC : is.map (fun i => ws[i]?) = wc.map some) {j : Nat} {q : Nat × va_E} (hj : wc[j]? = some q) : ∃ i, is[j]? = some i ∧ ws[i]? = some q := by
  have h1 : (wc.map some)[j]? = some (some q) := by rw [List.getElem?_map, hj]; rfl
  rw [← hC, List.getElem?_map] at h1
  cases hi : is[j]? with
  | none => rw [hi] at h1; cases h1
  | some i => rw [hi] at h1; exact ⟨i, rfl, Option.some.inj h1⟩
theorem sets_D {A0 : Nat → Prop} {ws wc w1 : va_W} (hD : va_D A0 ws) {is : List Nat} (hC : is.map (fun i => ws[i]?) = wc.map some) (nd : va_nd is = true) (hf : w1.map Prod.fst = wc.map Prod.fst) : va_D A0 (sets ws is w1) := by
  have key : ∀ (k : Nat) (q : Nat × va_E), (sets ws is w1)[k]? = some q → ∃ r, ws[k]? = some r ∧ r.1 = q.1 := by
    intro k q hq
    rcases sets_get is ws w1 k q nd hq with ⟨j, h1, h2⟩ | ⟨h1, -⟩
    · obtain ⟨r, h3, h4⟩ := fst_at hf h2
      obtain ⟨q', h5, h6⟩ := at_of hC h1
      rw [h3] at h5
      cases h5
      exact ⟨r, h6, h4⟩
    · exact ⟨q, h1, rfl⟩
  refine ⟨fun i j x y hi hj hxy => ?_, fun k q hk => ?_⟩
  · obtain ⟨r1, a1, b1⟩ := key i x hi
    obtain ⟨r2, a2, b2⟩ := key j y hj
    exact hD.1 i j r1 r2 a1 a2 (by rw [b1, b2, hxy])
  · obtain ⟨r, a1, b1⟩ := key k q hk
    rw [← b1]; exact hD.2 k r a1
theorem sets_P {A0 : Nat → Prop} {D : va_G} {ws wc w1 : va_W} {H H1 : Heap} (hP : va_P D classes ws H) (hD : va_D A0 ws) {is : List Nat} (hC : is.map (fun i => ws[i]?) = wc.map some) (nd : va_nd is = true) (hf : w1.map Prod.fst = wc.map Prod.fst) (hk : ∀ q : Nat, q < H.size → ¬ cOf wc q → H1[q]? = H[q]?) (hP1 : va_P D classes w1 H1) : va_P D classes (sets ws is w1) H1 := by
  intro k q hq
  rcases sets_get is ws w1 k q nd hq with ⟨j, h1, h2⟩ | ⟨h1, h2⟩
  · exact hP1 j q h2
  · have hl := (hP k q h1).lt
    refine (hP k q h1).kept (hk q.1 hl (fun hc => ?_))
    obtain ⟨j, e, hj⟩ := hc
    obtain ⟨i, h3, h4⟩ := ix_of hC hj
    have hik : k = i := hD.1 k i q (q.1, e) h1 h4 rfl
    subst hik
    have hlen : w1.length = wc.length := by
      have := congrArg List.length hf
      simpa using this
    exact h2 j (by rw [hlen]; exact (List.getElem?_eq_some_iff.mp hj).1) h3
theorem cOf_in {A0 : Nat → Prop} {ws wc : va_W} (hD : va_D A0 ws) {is : List Nat} (hC : is.map (fun i => ws[i]?) = wc.map some) : ∀ q, cOf wc q → A0 q := by
  intro q ⟨j, e, hj⟩
  obtain ⟨i, h3, h4⟩ := ix_of hC hj
  exact hD.2 i (q, e) h4
section CALLW
variable {p : Program} {l : Launch} {e : Env} {R : Room} {s : State} {m : MethodId} {args : Array Value} {below : List Frame} {meth : Method} {c : Code} {H : Heap} {locs : List Loc} {cells slots : Nat} {Q : State → Prop}
variable {pc : Nat} {ls : Array Slot} {rest st0 : List Value} {a : Array Value} {A0 : Nat → Prop} {H0 : Heap} {D : va_G} {ws wc : va_W}
theorem callW {S : Type} {post : Option Value → S → Prop} {cl : S → va_W} (hr : va_Run p l e R s m args below meth c H locs cells slots 0 0 (F0 m pc ls st0) rest (QW post D cl wc a) (cOf wc)) (hP : va_P D classes ws H) (hD : va_D A0 ws) (hS : va_S A0 H0 H locs) (is : List Nat) (hC : is.map (fun i => ws[i]?) = wc.map some) (nd : va_nd is = true) (hf : ∀ u, (cl u).map Prod.fst = wc.map Prod.fst)
    (kk : ∀ (v : Option Value) (u : S) (H1 : Heap) (locs1 : List Loc), post v u → va_P D classes (sets ws is (cl u)) H1 → va_D A0 (sets ws is (cl u)) → va_S A0 H0 H1 locs1 → W p l e R s m args below meth c H1 locs1 cells slots Q (F0 m (pc + 3) ls (v.toList ++ rest))) : W p l e R s m args below meth c H locs cells slots Q (F0 m pc ls st0) := by
  intro T hT X
  obtain ⟨v', st₀, t, T', L, h0, X', hL, e1, e2, ⟨⟨v, u, hv, hp, hb⟩, hz, hk⟩, st⟩ := hr T hT X
  cases hv
  rw [h0] at hz hk
  have hin := cOf_in hD hC
  obtain ⟨t2, a1, b1⟩ := kk _ u t.heap (locs ++ L) hp (sets_P hP hD hC nd (hf u) hk hb) (sets_D hD hC nd (hf u))
    ⟨Nat.le_trans hS.1 hz, fun q h1 h2 => by rw [hk q (Nat.lt_of_lt_of_le h1 hS.1) (fun z => h2 (hin q z))]; exact hS.2.1 q h1 h2, fun q hq => by
      rcases List.mem_append.mp hq with h | h
      · exact hS.2.2 q h
      · exact hin _ (hL q h)⟩ T' e1 X'
  exact ⟨t2, st t2 a1, b1⟩
end CALLW
