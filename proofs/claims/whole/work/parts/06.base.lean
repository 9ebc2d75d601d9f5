-- the classes of the worlds, the standard start and ends of a method that makes nothing, and its calls
abbrev classes : List vw_C := [(RX0, TX0, 7), (RX1, TX1, 2), (RX2, TX2, 15), (RX3, TX3, 1), (RX4, TX4, 2), (RX5, TX5, 2), (RX6, TX6, 9), (RX7, TX7, 27)]
abbrev tysOf (cI cZ : ClassId) : List (ClassId × FieldType) := [(cI, .int), (cZ, .boolean)]
/-- a world out of blocks -/
def jn : List va_W → va_W
  | [] => []
  | b :: bs => b ++ jn bs
def NW (U : State) : Prop := ∀ w ∈ nestW, va_Nw w U
theorem nestW_form : ∀ w ∈ nestW, ∃ a i x h, w = Cond.methodLinkNest a i x h := by
  intro w hw
  simp only [nestW, List.mem_cons, List.not_mem_nil, or_false] at hw
  rcases hw with rfl | rfl | rfl | rfl | rfl | rfl | rfl <;> exact ⟨_, _, _, _, rfl⟩
theorem NW.warm {s U : State} (hW : s.WarmedH U.vm) (h : NW s) : NW U := by
  intro w hw
  obtain ⟨a, i, x, hh, rfl⟩ := nestW_form w hw
  exact va_Nw.warmM hW (h _ hw)
theorem NW.same {s U : State} (hv : s.vm = U.vm) (h : NW s) : NW U := by
  intro w hw
  obtain ⟨a, i, x, hh, rfl⟩ := nestW_form w hw
  exact va_Nw.same rfl hv (h _ hw)
def PreW (D : va_G) (cI cZ : ClassId) (av : List Value) (ws : va_W) : Array Value → State → Prop :=
  va_Pc av (fun U => va_P D classes ws U.heap ∧ va_K D classes (tysOf cI cZ) U ∧ va_D (fun _ => True) ws ∧ NW U)
theorem PreW.blind {D : va_G} {cI cZ : ClassId} {av : List Value} {ws : va_W} : FrameBlind (PreW D cI cZ av ws) := by
  intro a U g mk q
  obtain ⟨q0, qP, qK, qD, qN⟩ := q
  exact ⟨q0, qP, va_K.moved (u := U) (U := U.calling g mk a) (Vm.Alike.refl U.vm) qK, qD, NW.same (s := U) (U := U.calling g mk a) rfl qN⟩
def cOf (ws : va_W) : Nat → Prop := fun q => ∃ (k : Nat) (e : va_E), ws[k]? = some (q, e)
def QF (v : Option Value) : Array Value → State → Outcome → State → Prop := fun _ st oc t => oc = .returned v ∧ t.heap = st.heap
/-- a method that writes nothing, and its answer -/
def KF (l : Launch) (y : MethodName) (b : ByteArray) (nL : Nat) (ret : Option FieldType) (fr lo : Nat) (D : va_G) (cI cZ : ClassId) (av : List Value) (Bs : List va_W) (v : Option Value) : Prop :=
  Met l y (Cond.code y b nL ret :: WT) { frames := fr, cells := 0, slots := 0, locals := lo } (PreW D cI cZ av (jn Bs)) (QF v) 0 0 (fun _ => False)
/-- a method that writes nothing, and what holds of its answer -/
def QR (post : Option Value → Prop) : Array Value → State → Outcome → State → Prop := fun _ st oc t => (∃ v, oc = .returned v ∧ post v) ∧ t.heap = st.heap
def KR (l : Launch) (y : MethodName) (b : ByteArray) (nL : Nat) (ret : Option FieldType) (fr lo : Nat) (D : va_G) (cI cZ : ClassId) (av : List Value) (Bs : List va_W) (post : Option Value → Prop) : Prop :=
  Met l y (Cond.code y b nL ret :: WT) { frames := fr, cells := 0, slots := 0, locals := lo } (PreW D cI cZ av (jn Bs)) (QR post) 0 0 (fun _ => False)
/-- a method that writes in its world -/
def QW {S : Type} (post : Option Value → S → Prop) (D : va_G) (cells : S → List va_W) (Bs : List va_W) : Array Value → State → Outcome → State → Prop :=
  fun _ st oc t => (∃ (v : Option Value) (u : S), oc = .returned v ∧ post v u ∧ va_P D classes (jn (cells u)) t.heap) ∧ va_F (cOf (jn Bs)) st t
def KW {S : Type} (l : Launch) (y : MethodName) (b : ByteArray) (nL : Nat) (ret : Option FieldType) (fr lo : Nat) (D : va_G) (cI cZ : ClassId) (av : List Value) (Bs : List va_W) (post : Option Value → S → Prop) (cells : S → List va_W) : Prop :=
  Met l y (Cond.code y b nL ret :: WT) { frames := fr, cells := 0, slots := 0, locals := lo } (PreW D cI cZ av (jn Bs)) (QW post D cells Bs) 0 0 (cOf (jn Bs))
/-- what a walk has in hand at a method's entry -/
def Ent (p : Program) (s : State) (m : MethodId) (args : Array Value) (meth : Method) (c : Code) (b : ByteArray) (nL : Nat) (ret : Option FieldType) (own : String) (D : va_G) (cI cZ : ClassId) (ws : va_W) : Prop :=
  p.tables.exec = Jvm.exec ∧ c.code = b ∧ meth.sig.returnType = ret ∧ c.maxLocals = nL ∧ (∀ w ∈ WT, w.before args s = true) ∧ s.vm.findClass own = some m.cls ∧ meth.locks = false ∧
  va_P D classes ws s.heap ∧ va_K D classes (tysOf cI cZ) s ∧ va_D (cOf ws) ws ∧ NW s
theorem va_D.own {ws : va_W} {A : Nat → Prop} (h : va_D A ws) : va_D (cOf ws) ws := ⟨h.1, fun k q hk => ⟨k, q.2, hk⟩⟩
theorem Met.ofE {l : Launch} {y : MethodName} {b : ByteArray} {nL : Nat} {ret : Option FieldType} {fr lo : Nat} {D : va_G} {cI cZ : ClassId} {av : List Value} {ws : va_W} {Qc : Array Value → State → Outcome → State → Prop} {free : Addr → Prop}
    (hy : plainFor y = true) (hn : (lg_sl av).length ≤ nL)
    (body : ∀ (p : Program) (e : Env) (s : State) (m : MethodId) (below : List Frame) (meth : Method) (c : Code), Ent p s m av.toArray meth c b nL ret y.cls D cI cZ ws → ∀ ls : Array Slot, lv_has ls nL (lv_args 0 av) →
      W p l e { frames := fr, cells := 0, slots := 0, locals := lo } s m av.toArray below meth c s.heap [] 0 0 (MQ below Qc av.toArray s 0 0 free) (F0 m 0 ls [])) :
    Met l y (Cond.code y b nL ret :: WT) { frames := fr, cells := 0, slots := 0, locals := lo } (PreW D cI cZ av ws) Qc 0 0 free := by
  refine va_MetF (cc := b) (maxL := nL) (ret := ret) hy rfl ?_
  intro p e s m args below meth c s₁ B hml hv
  obtain ⟨rfl, hP, hK, hD, hN⟩ := hv
  have hts := atoms_spec (ws := Cond.code y b nL ret :: WT) B.pre
  have hl := lv_entry av (n := nL) hn
  rw [lg_entry_eq]
  exact body p e s m below meth c ⟨B.exec, B.bytes, B.returns, hml, fun w h => hts w (List.mem_cons_of_mem _ h), findClass_of_methodNamed B.named, B.notSynchronized, hP, hK, hD.own, hN⟩ _ hl
/-! calls -/
theorem WT_gi {ws : List Cond} (h : ∀ w ∈ ws, w ∈ WT) : GoodIn WT ws := fun w hw => ⟨h w hw, WT_good w (h w hw)⟩
theorem cwV0 {R : Room} {s : State} {args : Array Value} {own C : String} {index n fr lo nL : Nat} {y : MethodName} {b : ByteArray} {ret : Option FieldType} (hW : ∀ w ∈ WT, w.before args s = true) (mv : MV C y b nL ret n) (ml : Cond.methodLink own index y ∈ WT) (hR : fr + 1 ≤ R.frames ∧ 8 + (nL + 11) + lo ≤ R.locals) :
    CallW R s args own C index y b nL ret (Cond.code y b nL ret :: WT) { frames := fr, cells := 0, slots := 0, locals := lo } 0 0 n := by
  obtain ⟨h1, h2, h3, h4, h5⟩ := mv
  refine cwV n hW (WT_gi ?_) rfl rfl rfl h5 hR
  intro w hw
  simp only [wsV, List.cons_append, List.nil_append, List.mem_cons] at hw
  rcases hw with rfl | rfl | rfl | rfl | rfl | hw
  · exact ml
  · exact h1
  · exact h2
  · exact h3
  · exact h4
  · exact hw
theorem cwS0 {R : Room} {s : State} {args : Array Value} {own : String} {index n fr lo nL : Nat} {y : MethodName} {b : ByteArray} {ret : Option FieldType} (hW : ∀ w ∈ WT, w.before args s = true) (mv : MS y b nL ret n) (ml : Cond.methodLink own index y ∈ WT) (hR : fr + 1 ≤ R.frames ∧ 8 + (nL + 11) + lo ≤ R.locals) :
    CallB R s args own index y b nL ret (Cond.code y b nL ret :: WT) { frames := fr, cells := 0, slots := 0, locals := lo } 0 0 n ∧ (Cond.static y).before args s = true := by
  obtain ⟨h1, h2, h3, h4⟩ := mv
  refine va_cwS n hW (WT_gi ?_) rfl rfl rfl h4 hR
  intro w hw
  simp only [va_wsS, List.cons_append, List.nil_append, List.mem_cons] at hw
  rcases hw with rfl | rfl | rfl | rfl | hw
  · exact ml
  · exact h1
  · exact h2
  · exact h3
  · exact hw
theorem cwSN0 {R : Room} {s : State} {args : Array Value} {own host : String} {index n fr lo nL : Nat} {y : MethodName} {b : ByteArray} {ret : Option FieldType} (hW : ∀ w ∈ WT, w.before args s = true) (hN : NW s) (mv : MS y b nL ret n) (ml : Cond.methodLinkNest own index y host ∈ nestW) (hR : fr + 1 ≤ R.frames ∧ 8 + (nL + 11) + lo ≤ R.locals) :
    va_CN R s args own index y host b nL ret (Cond.code y b nL ret :: WT) { frames := fr, cells := 0, slots := 0, locals := lo } 0 0 n ∧ (Cond.static y).before args s = true ∧ True := by
  obtain ⟨h1, h2, h3, h4⟩ := mv
  refine ⟨va_cnB n hW (WT_gi ?_) rfl rfl rfl (hN _ ml) (hW _ h2) h4 hR, hW _ h1, trivial⟩
  intro w hw
  rcases List.mem_cons.mp hw with rfl | hw
  · exact h3
  · exact hw
theorem sub_of {ws wc : va_W} {is : List Nat} (h : is.map (fun i => ws[i]?) = wc.map some) : is.filterMap (fun i => ws[i]?) = wc := by
  have h2 : ∀ (l : List Nat) (w : va_W), l.map (fun i => ws[i]?) = w.map some → l.filterMap (fun i => ws[i]?) = w := by
    intro l
    induction l with
    | nil =>
      intro w hw
      cases w with
      | nil => rfl
      | cons a t => simp at hw
    | cons a t ih =>
      intro w hw
      cases w with
      | nil => simp at hw
      | cons b u =>
        simp only [List.map_cons, List.cons.injEq] at hw
        rw [List.filterMap_cons, hw.1, ih u hw.2]
  exact h2 is wc h
theorem P_mem {D : va_G} {ws : va_W} {H : Heap} : va_P D classes ws H ↔ ∀ q ∈ ws, va_at D classes q H :=
  ⟨fun h q hq => by obtain ⟨i, hi⟩ := List.getElem?_of_mem hq; exact h i q hi, fun h k q hk => h q (List.mem_of_getElem? hk)⟩
def nds (ws : va_W) : Prop := ws.Pairwise (fun p q => p.1 ≠ q.1)
theorem D_iff {A : Nat → Prop} {ws : va_W} : va_D A ws ↔ nds ws ∧ ∀ q ∈ ws, A q.1 := by
  constructor
  · intro h
    refine ⟨List.pairwise_iff_getElem.mpr (fun i j hi hj hij e => ?_), fun q hq => ?_⟩
    · have := h.1 i j ws[i] ws[j] (List.getElem?_eq_getElem hi) (List.getElem?_eq_getElem hj) e
      omega
    · obtain ⟨i, hi⟩ := List.getElem?_of_mem hq
      exact h.2 i q hi
  · intro ⟨h1, h2⟩
    have h1 := List.pairwise_iff_getElem.mp h1
    refine ⟨fun i j p q hp hq e => ?_, fun k q hk => h2 q (List.mem_of_getElem? hk)⟩
    obtain ⟨hi, rfl⟩ := List.getElem?_eq_some_iff.mp hp
    obtain ⟨hj, rfl⟩ := List.getElem?_eq_some_iff.mp hq
    rcases Nat.lt_trichotomy i j with h | h | h
    · exact absurd e (h1 i j hi hj h)
    · exact h
    · exact absurd e.symm (h1 j i hj hi h)
theorem jn_mem {q : Nat × va_E} : ∀ {Bs : List va_W}, q ∈ jn Bs ↔ ∃ B ∈ Bs, q ∈ B := by
  intro Bs
  induction Bs with
  | nil => simp [jn]
  | cons b bs ih => simp [jn, ih]
def apt (B C : va_W) : Prop := ∀ p ∈ B, ∀ q ∈ C, p.1 ≠ q.1
theorem nds_jn : ∀ {Bs : List va_W}, nds (jn Bs) ↔ (∀ B ∈ Bs, nds B) ∧ Bs.Pairwise apt := by
  intro Bs
  induction Bs with
  | nil => simp [jn, nds]
  | cons b bs ih =>
    have e : nds (jn (b :: bs)) ↔ nds b ∧ nds (jn bs) ∧ ∀ p ∈ b, ∀ q ∈ jn bs, p.1 ≠ q.1 := List.pairwise_append
    rw [e, ih, List.pairwise_cons]
    constructor
    · rintro ⟨h1, ⟨h2, h3⟩, h4⟩
      refine ⟨fun B hB => ?_, fun C hC p hp q hq => h4 p hp q (jn_mem.mpr ⟨C, hC, hq⟩), h3⟩
      rcases List.mem_cons.mp hB with rfl | hB
      · exact h1
      · exact h2 B hB
    · rintro ⟨h1, h2, h3⟩
      refine ⟨h1 b List.mem_cons_self, ⟨fun B hB => h1 B (List.mem_cons_of_mem _ hB), h3⟩, fun p hp q hq => ?_⟩
      obtain ⟨C, hC, hq⟩ := jn_mem.mp hq
      exact h2 C hC p hp q hq
theorem apt_ne {Bs : List va_W} (h : Bs.Pairwise apt) {i j : Nat} {B C : va_W} (hi : Bs[i]? = some B) (hj : Bs[j]? = some C) (hne : i ≠ j) : apt B C := by
  have h1 := List.pairwise_iff_getElem.mp h
  obtain ⟨hi', rfl⟩ := List.getElem?_eq_some_iff.mp hi
  obtain ⟨hj', rfl⟩ := List.getElem?_eq_some_iff.mp hj
  rcases Nat.lt_or_gt_of_ne hne with h | h
  · exact h1 i j hi' hj' h
  · exact fun p hp q hq e => h1 j i hj' hi' h q hq p hp e.symm
theorem atB {Bs Cs : List va_W} {is : List Nat} (hC : is.map (fun i => Bs[i]?) = Cs.map some) {j i : Nat} (hj : is[j]? = some i) : ∃ q, Cs[j]? = some q ∧ Bs[i]? = some q := by
  have h1 : (is.map (fun i => Bs[i]?))[j]? = some (Bs[i]?) := by rw [List.getElem?_map, hj]; rfl
  rw [hC, List.getElem?_map] at h1
  cases hw : Cs[j]? with
  | none => rw [hw] at h1; cases h1
  | some q => rw [hw] at h1; exact ⟨q, rfl, (Option.some.inj h1).symm⟩
theorem ixB {Bs Cs : List va_W} {is : List Nat} (hC : is.map (fun i => Bs[i]?) = Cs.map some) {j : Nat} {q : va_W} (hj : Cs[j]? = some q) : ∃ i, is[j]? = some i ∧ Bs[i]? = some q := by
  have h1 : (Cs.map some)[j]? = some (some q) := by rw [List.getElem?_map, hj]; rfl
  rw [← hC, List.getElem?_map] at h1
  cases hi : is[j]? with
  | none => rw [hi] at h1; cases h1
  | some i => rw [hi] at h1; exact ⟨i, rfl, Option.some.inj h1⟩
theorem jn_sub {Bs Cs : List va_W} {is : List Nat} (hC : is.map (fun i => Bs[i]?) = Cs.map some) {q : Nat × va_E} (hq : q ∈ jn Cs) : q ∈ jn Bs := by
  obtain ⟨C, hC1, hq⟩ := jn_mem.mp hq
  obtain ⟨j, hj⟩ := List.getElem?_of_mem hC1
  obtain ⟨i, -, hi⟩ := ixB hC hj
  exact jn_mem.mpr ⟨C, List.mem_of_getElem? hi, hq⟩
theorem jn_nds {Bs Cs : List va_W} {is : List Nat} (hC : is.map (fun i => Bs[i]?) = Cs.map some) (nd : va_nd is = true) (h : nds (jn Bs)) : nds (jn Cs) := by
  obtain ⟨h1, h2⟩ := nds_jn.mp h
  refine nds_jn.mpr ⟨fun C hC1 => ?_, List.pairwise_iff_getElem.mpr (fun a b ha hb hab => ?_)⟩
  · obtain ⟨j, hj⟩ := List.getElem?_of_mem hC1
    obtain ⟨i, -, hi⟩ := ixB hC hj
    exact h1 C (List.mem_of_getElem? hi)
  · obtain ⟨i1, e1, f1⟩ := ixB hC (List.getElem?_eq_getElem ha)
    obtain ⟨i2, e2, f2⟩ := ixB hC (List.getElem?_eq_getElem hb)
    refine apt_ne h2 f1 f2 (fun e => ?_)
    subst e
    exact absurd (va_nd_inj is nd a b i1 e1 e2) (by omega)
theorem preS0 {s : State} {H : Heap} {D : va_G} {cI cZ : ClassId} {A : Nat → Prop} {Bs Cs : List va_W} {av : List Value} (hK : va_K D classes (tysOf cI cZ) s) (hN : NW s) (hP : va_P D classes (jn Bs) H) (hD : va_D A (jn Bs)) (is : List Nat) (hC : is.map (fun i => Bs[i]?) = Cs.map some) (nd : va_nd is = true) : PreS s H (PreW D cI cZ av (jn Cs)) av :=
  ⟨PreW.blind, fun U hU hW => ⟨rfl, by rw [hU]; exact P_mem.mpr (fun q hq => P_mem.mp hP q (jn_sub hC hq)), va_K.moved hW.alike hK, D_iff.mpr ⟨jn_nds hC nd (D_iff.mp hD).1, fun _ _ => trivial⟩, hN.warm hW⟩⟩
theorem preV0 {s : State} {H : Heap} {D : va_G} {cI cZ : ClassId} {A : Nat → Prop} {Bs Cs : List va_W} {a : Nat} {As : List Value} {C : String} {T : u_T} {N ci : Nat} {fs : List Value} (q0 : Nat) (hq : (jn Cs)[q0]? = some (a, .inr (ci, fs))) (hc : classes[ci]? = some (C, T, N)) (hK : va_K D classes (tysOf cI cZ) s) (hN : NW s) (hP : va_P D classes (jn Bs) H) (hD : va_D A (jn Bs)) (is : List Nat) (hC : is.map (fun i => Bs[i]?) = Cs.map some) (nd : va_nd is = true) : PreV s H C a (PreW D cI cZ (.ref a :: As) (jn Cs)) As :=
  ⟨PreW.blind, va_recv hK (P_mem.mpr (fun q hq => P_mem.mp hP q (jn_sub hC hq))) hc hq, (preS0 (av := .ref a :: As) hK hN hP hD is hC nd).2⟩
section CALLS
variable {p : Program} {l : Launch} {e : Env} {R : Room} {s : State} {m : MethodId} {args : Array Value} {below : List Frame} {meth : Method} {c : Code} {H : Heap} {locs : List Loc} {cells slots : Nat} {Q : State → Prop}
variable {pc : Nat} {ls : Array Slot} {rest st0 : List Value} {a : Array Value} {A0 : Nat → Prop} {H0 : Heap} {D : va_G} {ws wc : va_W}
theorem nil_of {L : List Loc} (h : ∀ q ∈ L, False) : L = [] := by
  cases L with
  | nil => rfl
  | cons b t => exact (h b List.mem_cons_self).elim
theorem callF {v : Option Value} (hr : va_Run p l e R s m args below meth c H locs cells slots 0 0 (F0 m pc ls st0) rest (QF v a) (fun _ => False)) (kk : W p l e R s m args below meth c H locs cells slots Q (F0 m (pc + 3) ls (v.toList ++ rest))) : W p l e R s m args below meth c H locs cells slots Q (F0 m pc ls st0) := by
  intro T hT X
  obtain ⟨v', st₀, t, T', L, h0, X', hL, e1, e2, ⟨hv, hh⟩, st⟩ := hr T hT X
  cases hv
  have hn := nil_of hL
  subst hn
  rw [List.append_nil] at X'
  obtain ⟨t2, a1, b1⟩ := kk T' (by rw [e1, hh, h0]) X'
  exact ⟨t2, st t2 a1, b1⟩
theorem callR {post : Option Value → Prop} (hr : va_Run p l e R s m args below meth c H locs cells slots 0 0 (F0 m pc ls st0) rest (QR post a) (fun _ => False)) (kk : ∀ v, post v → W p l e R s m args below meth c H locs cells slots Q (F0 m (pc + 3) ls (v.toList ++ rest))) : W p l e R s m args below meth c H locs cells slots Q (F0 m pc ls st0) := by
  intro T hT X
  obtain ⟨v', st₀, t, T', L, h0, X', hL, e1, e2, ⟨⟨v, hv, hp⟩, hh⟩, st⟩ := hr T hT X
  cases hv
  have hn := nil_of hL
  subst hn
  rw [List.append_nil] at X'
  obtain ⟨t2, a1, b1⟩ := kk _ hp T' (by rw [e1, hh, h0]) X'
  exact ⟨t2, st t2 a1, b1⟩
end CALLS
/-- a world with the cells at some places put anew -/
def sets {α : Type} (ws : List α) : List Nat → List α → List α
  | [], _ => ws
  | _ :: _, [] => ws
  | i :: is, e :: es => sets (ws.set i e) is es
theorem sets_len {α : Type} : ∀ (is : List Nat) (ws es : List α), (sets ws is es).length = ws.length := by
  intro is
  induction is with
  | nil => intro ws es; cases es <;> rfl
  | cons i is ih =>
    intro ws es
    cases es with
    | nil => rfl
    | cons e es => show (sets (ws.set i e) is es).length = _; rw [ih]; simp
theorem sets_get {α : Type} : ∀ (is : List Nat) (ws es : List α) (k : Nat) (q : α), va_nd is = true → (sets ws is es)[k]? = some q → (∃ j : Nat, is[j]? = some k ∧ es[j]? = some q) ∨ (ws[k]? = some q ∧ ∀ j : Nat, j < es.length → is[j]? ≠ some k) := by
  intro is
  induction is with
  | nil => intro ws es k q _ h; exact Or.inr ⟨by cases es <;> exact h, fun j _ => by simp⟩
  | cons i is ih =>
    intro ws es k q hn h
    cases es with
    | nil => exact Or.inr ⟨h, fun j hj => absurd hj (Nat.not_lt_zero _)⟩
    | cons e es =>
      have hinj := va_nd_inj (i :: is) hn
      have hn2 : va_nd is = true := by simp only [va_nd, Bool.and_eq_true] at hn; exact hn.2
      rcases ih (ws.set i e) es k q hn2 h with ⟨j, h1, h2⟩ | ⟨h1, h2⟩
      · exact Or.inl ⟨j + 1, by simpa using h1, by simpa using h2⟩
      · by_cases hk : i = k
        · subst hk
          rw [List.getElem?_set] at h1
          rw [if_pos rfl] at h1
          split at h1
          · exact Or.inl ⟨0, by simp, by simpa using h1⟩
          · cases h1
        · rw [List.getElem?_set, if_neg hk] at h1
          refine Or.inr ⟨h1, fun j hj => ?_⟩
          cases j with
          | zero => simpa using hk
          | succ j => simpa using h2 j (by simpa using hj)
theorem fst_at {a b : va_W} (h : a.map Prod.fst = b.map Prod.fst) {j : Nat} {q : Nat × va_E} (hq : a[j]? = some q) : ∃ r, b[j]? = some r ∧ r.1 = q.1 := by
  have h1 : (a.map Prod.fst)[j]? = some q.1 := by rw [List.getElem?_map, hq]; rfl
  rw [h, List.getElem?_map] at h1
  cases hb : b[j]? with
  | none => rw [hb] at h1; cases h1
  | some r => rw [hb] at h1; exact ⟨r, rfl, Option.some.inj h1⟩
theorem at_of {ws wc : va_W} {is : List Nat} (hC : is.map (fun i => ws[i]?) = wc.map some) {j i : Nat} (hj : is[j]? = some i) : ∃ q, wc[j]? = some q ∧ ws[i]? = some q := by
  have h1 : (is.map (fun i => ws[i]?))[j]? = some (ws[i]?) := by rw [List.getElem?_map, hj]; rfl
  rw [hC, List.getElem?_map] at h1
  cases hw : wc[j]? with
  | none => rw [hw] at h1; cases h1
  | some q => rw [hw] at h1; exact ⟨q, rfl, (Option.some.inj h1).symm⟩
theorem ix_of {ws wc : va_W} {is : List Nat} (hC : is.map (fun i => ws[i]?) = wc.map some) {j : Nat} {q : Nat × va_E} (hj : wc[j]? = some q) : ∃ i, is[j]? = some i ∧ ws[i]? = some q := by
  have h1 : (wc.map some)[j]? = some (some q) := by rw [List.getElem?_map, hj]; rfl
  rw [← hC, List.getElem?_map] at h1
  cases hi : is[j]? with
  | none => rw [hi] at h1; cases h1
  | some i => rw [hi] at h1; exact ⟨i, rfl, Option.some.inj h1⟩
theorem sets_D {A0 : Nat → Prop} {ws wc w1 : va_W} (hD : va_D A0 ws) {is : List Nat} (hC : is.map (fun i => ws[i]?) = wc.map some) (nd : va_nd is = true) (hf : w1.map Prod.fst = wc.map Prod.fst) : va_D A0 (sets ws is w1) := by
  have key : ∀ (k : Nat) (q : Nat × va_E), (sets ws is w1)[k]? = some q → ∃ r, ws[k]? = some r ∧ r.1 = q.1 := by
    intro k q hq
    rcases sets_get is ws w1 k q nd hq with ⟨j, h1, h2⟩ | ⟨h1, -⟩
    · obtain ⟨r, h3, h4⟩ := fst_at hf h2
      obtain ⟨q', h5, h6⟩ := at_of hC h1
      rw [h3] at h5
      cases h5
      exact ⟨r, h6, h4⟩
    · exact ⟨q, h1, rfl⟩
  refine ⟨fun i j x y hi hj hxy => ?_, fun k q hk => ?_⟩
  · obtain ⟨r1, a1, b1⟩ := key i x hi
    obtain ⟨r2, a2, b2⟩ := key j y hj
    exact hD.1 i j r1 r2 a1 a2 (by rw [b1, b2, hxy])
  · obtain ⟨r, a1, b1⟩ := key k q hk
    rw [← b1]; exact hD.2 k r a1
theorem sets_P {A0 : Nat → Prop} {D : va_G} {ws wc w1 : va_W} {H H1 : Heap} (hP : va_P D classes ws H) (hD : va_D A0 ws) {is : List Nat} (hC : is.map (fun i => ws[i]?) = wc.map some) (nd : va_nd is = true) (hf : w1.map Prod.fst = wc.map Prod.fst) (hk : ∀ q : Nat, q < H.size → ¬ cOf wc q → H1[q]? = H[q]?) (hP1 : va_P D classes w1 H1) : va_P D classes (sets ws is w1) H1 := by
  intro k q hq
  rcases sets_get is ws w1 k q nd hq with ⟨j, h1, h2⟩ | ⟨h1, h2⟩
  · exact hP1 j q h2
  · have hl := (hP k q h1).lt
    refine (hP k q h1).kept (hk q.1 hl (fun hc => ?_))
    obtain ⟨j, e, hj⟩ := hc
    obtain ⟨i, h3, h4⟩ := ix_of hC hj
    have hik : k = i := hD.1 k i q (q.1, e) h1 h4 rfl
    subst hik
    have hlen : w1.length = wc.length := by
      have := congrArg List.length hf
      simpa using this
    exact h2 j (by rw [hlen]; exact (List.getElem?_eq_some_iff.mp hj).1) h3
theorem cOf_in {A0 : Nat → Prop} {ws wc : va_W} (hD : va_D A0 ws) {is : List Nat} (hC : is.map (fun i => ws[i]?) = wc.map some) : ∀ q, cOf wc q → A0 q := by
  intro q ⟨j, e, hj⟩
  obtain ⟨i, h3, h4⟩ := ix_of hC hj
  exact hD.2 i (q, e) h4
/-! blocks put anew -/
theorem jn_fst : ∀ {L M : List va_W}, L.map (List.map Prod.fst) = M.map (List.map Prod.fst) → (jn L).map Prod.fst = (jn M).map Prod.fst := by
  intro L
  induction L with
  | nil =>
    intro M h
    cases M with
    | nil => rfl
    | cons a t => simp at h
  | cons a t ih =>
    intro M h
    cases M with
    | nil => simp at h
    | cons b u =>
      simp only [List.map_cons, List.cons.injEq] at h
      show (a ++ jn t).map Prod.fst = (b ++ jn u).map Prod.fst
      rw [List.map_append, List.map_append, h.1, ih h.2]
theorem nds_fst {a b : va_W} (h : a.map Prod.fst = b.map Prod.fst) (hb : nds b) : nds a := by
  have h1 : (b.map Prod.fst).Pairwise (fun x y => x ≠ y) := List.pairwise_map.mpr hb
  rw [← h] at h1
  exact List.pairwise_map.mp h1
theorem setsB_fst {Bs Cs Es : List va_W} {is : List Nat} (hC : is.map (fun i => Bs[i]?) = Cs.map some) (nd : va_nd is = true) (hf : Es.map (List.map Prod.fst) = Cs.map (List.map Prod.fst)) : (sets Bs is Es).map (List.map Prod.fst) = Bs.map (List.map Prod.fst) := by
  apply List.ext_getElem?
  intro k
  rw [List.getElem?_map, List.getElem?_map]
  cases hk : (sets Bs is Es)[k]? with
  | none =>
    have h1 := List.getElem?_eq_none_iff.mp hk
    rw [sets_len] at h1
    rw [List.getElem?_eq_none_iff.mpr h1]
  | some B =>
    rcases sets_get is Bs Es k B nd hk with ⟨j, h1, h2⟩ | ⟨h1, -⟩
    · obtain ⟨q, h3, h4⟩ := atB hC h1
      rw [h4]
      have h5 : (Es.map (List.map Prod.fst))[j]? = some (B.map Prod.fst) := by rw [List.getElem?_map, h2]; rfl
      rw [hf, List.getElem?_map, h3] at h5
      exact congrArg some (Option.some.inj h5).symm
    · rw [h1]
theorem setsB_D {A0 : Nat → Prop} {Bs Cs Es : List va_W} (hD : va_D A0 (jn Bs)) {is : List Nat} (hC : is.map (fun i => Bs[i]?) = Cs.map some) (nd : va_nd is = true) (hf : Es.map (List.map Prod.fst) = Cs.map (List.map Prod.fst)) : va_D A0 (jn (sets Bs is Es)) := by
  have h := jn_fst (setsB_fst hC nd hf)
  obtain ⟨h1, h2⟩ := D_iff.mp hD
  refine D_iff.mpr ⟨nds_fst h h1, fun q hq => ?_⟩
  have h3 : q.1 ∈ (jn (sets Bs is Es)).map Prod.fst := List.mem_map.mpr ⟨q, hq, rfl⟩
  rw [h] at h3
  obtain ⟨r, h4, h5⟩ := List.mem_map.mp h3
  rw [← h5]
  exact h2 r h4
theorem cOf_mem {ws : va_W} {a : Nat} : cOf ws a ↔ ∃ q ∈ ws, q.1 = a := by
  constructor
  · rintro ⟨k, e, h⟩
    exact ⟨(a, e), List.mem_of_getElem? h, rfl⟩
  · rintro ⟨q, h, rfl⟩
    obtain ⟨k, hk⟩ := List.getElem?_of_mem h
    exact ⟨k, q.2, hk⟩
theorem setsB_P {A0 : Nat → Prop} {D : va_G} {Bs Cs Es : List va_W} {H H1 : Heap} (hP : va_P D classes (jn Bs) H) (hD : va_D A0 (jn Bs)) {is : List Nat} (hC : is.map (fun i => Bs[i]?) = Cs.map some) (nd : va_nd is = true) (hf : Es.map (List.map Prod.fst) = Cs.map (List.map Prod.fst)) (hk : ∀ q : Nat, q < H.size → ¬ cOf (jn Cs) q → H1[q]? = H[q]?) (hP1 : va_P D classes (jn Es) H1) : va_P D classes (jn (sets Bs is Es)) H1 := by
  refine P_mem.mpr (fun q hq => ?_)
  obtain ⟨B, hB, hq⟩ := jn_mem.mp hq
  obtain ⟨k, hk1⟩ := List.getElem?_of_mem hB
  rcases sets_get is Bs Es k B nd hk1 with ⟨j, h1, h2⟩ | ⟨h1, h2⟩
  · exact P_mem.mp hP1 q (jn_mem.mpr ⟨B, List.mem_of_getElem? h2, hq⟩)
  · have hat := P_mem.mp hP q (jn_mem.mpr ⟨B, List.mem_of_getElem? h1, hq⟩)
    refine hat.kept (hk q.1 hat.lt (fun hc => ?_))
    obtain ⟨r, hr, he⟩ := cOf_mem.mp hc
    obtain ⟨C, hCm, hr⟩ := jn_mem.mp hr
    obtain ⟨j, hj⟩ := List.getElem?_of_mem hCm
    obtain ⟨i, e1, e2⟩ := ixB hC hj
    have hlen : Es.length = Cs.length := by
      have := congrArg List.length hf
      simpa using this
    have hne : k ≠ i := fun e => h2 j (by rw [hlen]; exact (List.getElem?_eq_some_iff.mp hj).1) (by rw [e1, e])
    exact apt_ne (nds_jn.mp (D_iff.mp hD).1).2 h1 e2 hne q hq r hr he.symm
theorem cOf_inB {A0 : Nat → Prop} {Bs Cs : List va_W} (hD : va_D A0 (jn Bs)) {is : List Nat} (hC : is.map (fun i => Bs[i]?) = Cs.map some) : ∀ q, cOf (jn Cs) q → A0 q := by
  intro q hq
  obtain ⟨r, hr, rfl⟩ := cOf_mem.mp hq
  exact (D_iff.mp hD).2 r (jn_sub hC hr)
section CALLW
variable {p : Program} {l : Launch} {e : Env} {R : Room} {s : State} {m : MethodId} {args : Array Value} {below : List Frame} {meth : Method} {c : Code} {H : Heap} {locs : List Loc} {cells slots : Nat} {Q : State → Prop}
variable {pc : Nat} {ls : Array Slot} {rest st0 : List Value} {a : Array Value} {A0 : Nat → Prop} {H0 : Heap} {D : va_G} {Bs Cs : List va_W}
theorem callW {S : Type} {post : Option Value → S → Prop} {cl : S → List va_W} (hr : va_Run p l e R s m args below meth c H locs cells slots 0 0 (F0 m pc ls st0) rest (QW post D cl Cs a) (cOf (jn Cs))) (hP : va_P D classes (jn Bs) H) (hD : va_D A0 (jn Bs)) (hS : va_S A0 H0 H locs) (is : List Nat) (hC : is.map (fun i => Bs[i]?) = Cs.map some) (nd : va_nd is = true) (hf : ∀ u, (cl u).map (List.map Prod.fst) = Cs.map (List.map Prod.fst))
    (kk : ∀ (v : Option Value) (u : S) (H1 : Heap) (locs1 : List Loc), post v u → va_P D classes (jn (sets Bs is (cl u))) H1 → va_D A0 (jn (sets Bs is (cl u))) → va_S A0 H0 H1 locs1 → W p l e R s m args below meth c H1 locs1 cells slots Q (F0 m (pc + 3) ls (v.toList ++ rest))) : W p l e R s m args below meth c H locs cells slots Q (F0 m pc ls st0) := by
  intro T hT X
  obtain ⟨v', st₀, t, T', L, h0, X', hL, e1, e2, ⟨⟨v, u, hv, hp, hb⟩, hz, hk⟩, st⟩ := hr T hT X
  cases hv
  rw [h0] at hz hk
  have hin := cOf_inB hD hC
  obtain ⟨t2, a1, b1⟩ := kk _ u t.heap (locs ++ L) hp (setsB_P hP hD hC nd (hf u) hk hb) (setsB_D hD hC nd (hf u))
    ⟨Nat.le_trans hS.1 hz, fun q h1 h2 => by rw [hk q (Nat.lt_of_lt_of_le h1 hS.1) (fun z => h2 (hin q z))]; exact hS.2.1 q h1 h2, fun q hq => by
      rcases List.mem_append.mp hq with h | h
      · exact hS.2.2 q h
      · exact hin _ (hL q h)⟩ T' e1 X'
  exact ⟨t2, st t2 a1, b1⟩
end CALLW
/-! a method's contract over a larger world -/
theorem Met.weaken {l : Launch} {y : MethodName} {ws : List Cond} {rm : Room} {Pc Pc' : Array Value → State → Prop} {Qc Qc' : Array Value → State → Outcome → State → Prop} {mc ms : Nat} {free free' : Addr → Prop} (h : Met l y ws rm Pc Qc mc ms free) (hp : ∀ a s, Pc' a s → Pc a s) (hq : ∀ a st o t, Pc' a st → Qc a st o t → Qc' a st o t) (hf : ∀ q, free q → free' q) : Met l y ws rm Pc' Qc' mc ms free' := by
  intro p e ha hc hk s m args below hfr happ hP hK
  obtain ⟨n, o, h1, h2, h3, h4, L, h5, h6⟩ := h p e ha hc hk s m args below hfr happ (hp _ _ hP) hK
  exact ⟨n, o, h1, h2, h3, hq _ _ _ _ hP h4, L, h5, fun q hq => hf _ (h6 q hq)⟩
section SUB
variable {l : Launch} {y : MethodName} {b : ByteArray} {nL : Nat} {ret : Option FieldType} {fr lo : Nat} {D : va_G} {cI cZ : ClassId} {av : List Value} {Bs Cs : List va_W}
theorem preSub (is : List Nat) (hC : is.map (fun i => (jn Bs)[i]?) = (jn Cs).map some) (nd : va_nd is = true) : ∀ a s, PreW D cI cZ av (jn Bs) a s → PreW D cI cZ av (jn Cs) a s := by
  intro a s ⟨h0, hP, hK, hD, hN⟩
  exact ⟨h0, hP.sub is (sub_of hC), hK, (hD.sub is nd hC).weaken (fun _ _ _ _ => trivial), hN⟩
theorem KF_sub {v : Option Value} (h : KF l y b nL ret fr lo D cI cZ av Cs v) (is : List Nat) (hC : is.map (fun i => (jn Bs)[i]?) = (jn Cs).map some) (nd : va_nd is = true) : KF l y b nL ret fr lo D cI cZ av Bs v :=
  Met.weaken h (preSub is hC nd) (fun _ _ _ _ _ q => q) (fun _ h => h)
theorem KW_sub {S : Type} {post : Option Value → S → Prop} {cells : S → List va_W} (h : KW l y b nL ret fr lo D cI cZ av Cs post cells) (is : List Nat) (hC : is.map (fun i => (jn Bs)[i]?) = (jn Cs).map some) (nd : va_nd is = true) (hf : ∀ u, (jn (cells u)).map Prod.fst = (jn Cs).map Prod.fst) (cells' : S → List va_W) (he : ∀ u, sets (jn Bs) is (jn (cells u)) = jn (cells' u)) : KW l y b nL ret fr lo D cI cZ av Bs post cells' := by
  refine Met.weaken h (preSub is hC nd) (fun a st o t hp hq => ?_) (fun q ⟨j, e, hj⟩ => by obtain ⟨i, -, hi⟩ := ix_of hC hj; exact ⟨i, e, hi⟩)
  obtain ⟨h0, hP, hK, hD, hN⟩ := hp
  obtain ⟨⟨v, u, h1, h2, h3⟩, h4, h5⟩ := hq
  refine ⟨⟨v, u, h1, h2, ?_⟩, h4, fun q q1 q2 => h5 q q1 (fun q3 => q2 (cOf_in hD.own hC q q3))⟩
  rw [← he u]
  exact sets_P hP hD hC nd (hf u) h5 h3
end SUB
