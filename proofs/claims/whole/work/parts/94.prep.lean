-- deals: the Java prepares
def DXS (Z : St) (C Q : Nat) (O : Nat → Bool) (w : Nat → Nat) (nf : Nat) : Prop := ∃ v, v < 64 ∧ bts v = O ∧ DX Z v C Q (oN O w 1) (oN O w 2) nf w
theorem t_scb : ∀ v, v < 64 → ∀ q, q < 6 → v / 2 ^ q % 2 = 1 → setB (clrB v q) q = v := by decide +kernel
theorem bts_cle {v q : Nat} (hv : v < 64) (hq : q < 6) : bts (clrB v q) = mns (bts v) q := by
  funext x
  rw [Bool.eq_iff_iff]
  exact bts_cl hv hq
theorem oN_if {O : Nat → Bool} {w : Nat → Nat} {q x : Nat} (h : O q = true) (hq : q < 6) : (if w q = x then oN O w x - 1 else oN O w x) = oN (mns O q) w x ∧ (if w q = x then oN (mns O q) w x + 1 else oN (mns O q) w x) = oN O w x ∧ (w q = x → 0 < oN O w x) := by
  by_cases e : w q = x
  · have := oN_m h hq e
    rw [if_pos e, if_pos e]
    exact ⟨by omega, this, fun _ => by omega⟩
  · rw [if_neg e, if_neg e, oN_n e]
    exact ⟨rfl, rfl, fun y => absurd y e⟩
theorem gvX {Z : St} {C Q : Nat} {O : Nat → Bool} {w : Nat → Nat} {nf q : Nat} (h : DXS Z C Q O w nf) (hw2 : ∀ q, w q ≤ 2) (hq : q < 6) (ho : O q = true) {c : Bool} {C' Q' : Nat} (eC : C = if c = true then C' + 1 else C') (eQ : Q = if c = true then Q' else Q' + 1) {K : St → Prop} (hK : ∀ Z', DXS Z' C' Q' (mns O q) w nf → K Z') : wp_X0_give Z (nI q) (cI c) K := by
  obtain ⟨v, hv, e, hx⟩ := h
  subst e
  obtain ⟨a1, a2, a3⟩ := oN_if (w := w) (x := 1) ho hq
  obtain ⟨b1, b2, b3⟩ := oN_if (w := w) (x := 2) ho hq
  refine giveX hx hv hq (hw2 q) (c := c) (fun y => by rw [eC, if_pos y]; omega) (fun y => by rw [eQ, y, if_neg (by decide)]; omega) a3 b3 (fun Z1 h1 => hK Z1 ⟨clrB v q, clrB_lt hv, bts_cle hv hq, ?_⟩)
  rw [a1, b1] at h1
  have e1 : (if c = true then C - 1 else C) = C' := by
    rw [eC]
    cases c <;> rfl
  have e2 : (if c = true then Q else Q - 1) = Q' := by
    rw [eQ]
    cases c <;> rfl
  rw [e1, e2] at h1
  exact h1
theorem wwX {Z : St} {C Q : Nat} {O : Nat → Bool} {w : Nat → Nat} {nf q : Nat} (h : DXS Z C Q O w nf) (hc : crd O = C + Q) (h6 : C + Q ≤ 6) (hw2 : ∀ q, w q ≤ 2) (hn : nf < 2) (hq : q < 6) {c : Bool} {C' Q' : Nat} (eC : C = if c = true then C' + 1 else C') (eQ : Q = if c = true then Q' else Q' + 1) {K : Int32 → St → Prop} (hK : ∀ Z', DXS Z' C Q O w nf → K (nI (if O q = true ∧ sutB w q c = true then (if nf = 0 then wyN C' Q' (oN (mns O q) w 1) (oN (mns O q) w 2) else 0) else 0)) Z') : wp_X0_waysWith Z (nI q) (cI c) K := by
  have h0 := h
  obtain ⟨v, hv, e, hx⟩ := h
  subst e
  unfold wp_X0_waysWith
  by_cases s : bts v q = true ∧ sutB w q c = true
  · rw [if_pos s] at hK
    rw [if_neg (fun y => (suitX hx hv hq (hw2 q)).1 y s)]
    refine gvX h0 hw2 hq s.1 eC eQ (fun Z1 h1 => ?_)
    obtain ⟨u, hu, eu, hx1⟩ := h1
    have al := oN_all (O := mns (bts v) q) hw2
    have cr := crd_m s.1 hq
    have sum : C' + Q' + 1 = C + Q := by
      rw [eC, eQ]
      cases c
      · rw [if_neg (by decide), if_neg (by decide)]; omega
      · rw [if_pos rfl, if_pos rfl]; omega
    refine waysX hx1 (by omega) (by omega) hn ?_
    -- the mask given back
    obtain ⟨a1, a2, a3⟩ := oN_if (w := w) (x := 1) s.1 hq
    obtain ⟨b1, b2, b3⟩ := oN_if (w := w) (x := 2) s.1 hq
    refine takeX hx1 hu hq (hw2 q) (c := c) (fun Z2 h2 => hK Z2 ⟨setB u q, (t_seb u hu q hq).1, ?_, ?_⟩)
    · funext x
      rw [Bool.eq_iff_iff, bts_t, bts_t]
      have t : ∀ x, x < 6 → (u / 2 ^ x % 2 = 1 ↔ v / 2 ^ x % 2 = 1 ∧ x ≠ q) := by
        intro x hx'
        have := congrFun eu x
        rw [Bool.eq_iff_iff, bts_t, mns_t, bts_t] at this
        exact ⟨fun y => ⟨(this.1 ⟨hx', y⟩).1.2, (this.1 ⟨hx', y⟩).2⟩, fun y => (this.2 ⟨⟨hx', y.1⟩, y.2⟩).2⟩
      constructor
      · intro ⟨hx', hb⟩
        refine ⟨hx', ?_⟩
        rw [(t_seb u hu q hq).2 x hx'] at hb
        by_cases ex : x = q
        · rw [ex]; exact (bts_t.1 s.1).2
        · rw [if_neg ex] at hb
          exact ((t x hx').1 hb).1
      · intro ⟨hx', hb⟩
        refine ⟨hx', ?_⟩
        rw [(t_seb u hu q hq).2 x hx']
        by_cases ex : x = q
        · rw [if_pos ex]
        · rw [if_neg ex]
          exact (t x hx').2 ⟨hb, ex⟩
    · rw [a2, b2, ← eC, ← eQ] at h2
      exact h2
  · rw [if_neg s, nI_0] at hK
    rw [if_pos ((suitX hx hv hq (hw2 q)).2 s)]
    exact hK Z h0
/-- the children so far -/
def pcN (D : Nat → Nat) (cg : Nat → Bool) (c : Bool) : Nat → Nat
  | 0 => 0
  | j + 1 => pcN D cg c j + (if D j = 7 ∧ cg j = c then 1 else 0)
theorem cN_pc (D : Nat → Nat) (cg : Nat → Bool) (c : Bool) : ∀ m j, cN D cg c m j + pcN D cg c j = pcN D cg c (j + m) := by
  intro m
  induction m with
  | zero => exact fun j => by show 0 + pcN D cg c j = pcN D cg c j; omega
  | succ m ih =>
    intro j
    have := ih (j + 1)
    rw [show j + 1 + m = j + (m + 1) by omega] at this
    rw [← this]
    show (if D j = 7 ∧ cg j = c then 1 else 0) + cN D cg c m (j + 1) + pcN D cg c j = _ + (pcN D cg c j + (if D j = 7 ∧ cg j = c then 1 else 0))
    omega
theorem oN_w {O : Nat → Bool} {w : Nat → Nat} {q x : Nat} (h : O q = true) (hq : q < 6) (e : w q = 0) (hx : x ≠ 0) : oN O (nup w q x) x = oN O w x + 1 ∧ ∀ y, y ≠ 0 → y ≠ x → oN O (nup w q x) y = oN O w y := by
  constructor
  · have t : (fun p => O p && decide (w p = x)) = mns (fun p => O p && decide (nup w q x p = x)) q := by
      funext p
      unfold nup
      by_cases ep : p = q
      · rw [ep, mns_at, e, decide_eq_false (fun y => hx y.symm), Bool.and_false]
      · rw [mns_ne ep, if_neg ep]
    unfold oN
    rw [t]
    refine (crd_m (S := fun p => O p && decide (nup w q x p = x)) ?_ hq).symm
    unfold nup
    rw [if_pos rfl, h, decide_eq_true rfl]
    rfl
  · intro y hy hyx
    unfold oN
    congr 1
    funext p
    unfold nup
    by_cases ep : p = q
    · rw [if_pos ep, ep, e, decide_eq_false (fun z => hyx z.symm), decide_eq_false (fun z => hy z.symm)]
    · rw [if_neg ep]
theorem wa_2 (s : Nat) : wa s ≠ 0 ∧ wa s ≤ 2 := by
  unfold wa
  split <;> omega
theorem heedC {r : NS} (hw : WF r) {Z : St} {v C Q nf i : Nat} {w : Nat → Nat} (h : DX Z v C Q (oN (dA r) w 1) (oN (dA r) w 2) nf w) (hv : v < 64) (ev : bts v = dA r) (hi : i < r.1 6) (hs : WS r i w nf) (hn : nf < 2) {K : St → Prop} (hK : ∀ Z' w' nf', DX Z' v C Q (oN (dA r) w' 1) (oN (dA r) w' 2) nf' w' → WS r (i + 1) w' nf' → nf' < 2 → K Z') : (if (F_X0_isOpen Z (nI (r.2 13 i))) = 0 then (K (sI Z 6 1)) else (if (F_X3_get 6 (Z.2 0) (nI (r.2 13 i))) = 0 then (wp_X3_put 6 (Z.2 0) (nI (r.2 13 i)) (nI (wa (r.2 14 i))) (fun (Z4 : (Nat → Int32)) => (wp_X0_countWant (sA Z 0 Z4) (nI (r.2 13 i)) 1 K))) else (if (F_X3_get 6 (Z.2 0) (nI (r.2 13 i))) = nI (wa (r.2 14 i)) then (K Z) else (K (sI Z 6 1))))) := by
  have h6 := hw.2.1
  have w13 := (hw.2.2.2.2.2.2.2.2.2 i hi).1
  obtain ⟨s1, s2, s3⟩ := hs
  obtain ⟨x0, x2⟩ := wa_2 (r.2 14 i)
  have q6 : r.2 13 i < 6 := by omega
  have wq := (s3 (r.2 13 i)).1
  have h' := h
  obtain ⟨z1, z2, z3, z4, z5, z6, z0⟩ := h
  have bad : ((¬ dA r (r.2 13 i) = true) ∨ (w (r.2 13 i) ≠ 0 ∧ w (r.2 13 i) ≠ wa (r.2 14 i))) → K (sI Z 6 1) := by
    intro hb
    refine hK (sI Z 6 1) w 1 ⟨z1, z2, z3, z4, z5, ?_, z0⟩ ⟨fun y => absurd y (by omega), fun _ => ?_, fun q => ⟨(s3 q).1, fun y => ?_⟩⟩ (by omega)
    · rw [sI_1, if_pos rfl, i1]
    · rcases hb with hb | ⟨hb1, hb2⟩
      · exact ⟨i, by omega, Or.inl hb⟩
      · obtain ⟨-, i', a, b, e⟩ := (s3 (r.2 13 i)).2 hb1
        refine ⟨i, by omega, Or.inr ⟨i', by omega, b, fun y => ?_⟩⟩
        rw [y] at e
        exact hb2 e
    · obtain ⟨a, i', b, e, f⟩ := (s3 q).2 y
      exact ⟨a, i', by omega, e, f⟩
  by_cases o : dA r (r.2 13 i) = true
  · rw [if_neg (fun y => (openX h' hv q6).1 y (by rw [ev]; exact o)), get_nI _ q6 (by omega), z0 _ q6]
    by_cases e0 : w (r.2 13 i) = 0
    · rw [if_pos (by rw [e0]; decide)]
      refine put_nI q6 (by omega) ?_
      obtain ⟨t1, t2⟩ := oN_w (w := w) o q6 e0 x0
      have hnew : ∀ q, nup w (r.2 13 i) (wa (r.2 14 i)) q = if q = r.2 13 i then wa (r.2 14 i) else w q := fun q => rfl
      have hd : DX (sA Z 0 (upd (Z.2 0) (r.2 13 i) (nI (wa (r.2 14 i))))) v C Q (oN (dA r) w 1) (oN (dA r) w 2) nf (nup w (r.2 13 i) (wa (r.2 14 i))) := by
        refine ⟨z1, z2, z3, z4, z5, z6, fun q hq => ?_⟩
        rw [sA_2, if_pos rfl, upd_at, hnew]
        by_cases eq : q = r.2 13 i
        · rw [if_pos eq, if_pos eq]
        · rw [if_neg eq, if_neg eq]; exact z0 q hq
      have e1 : nup w (r.2 13 i) (wa (r.2 14 i)) (r.2 13 i) = wa (r.2 14 i) := by rw [hnew, if_pos rfl]
      refine wantX hd q6 (by rw [e1]; exact x2) (a' := oN (dA r) (nup w (r.2 13 i) (wa (r.2 14 i))) 1) (b' := oN (dA r) (nup w (r.2 13 i) (wa (r.2 14 i))) 2) ?_ ?_ ?_ ?_ (fun Z' hz => hK Z' _ nf hz ⟨fun n0 i' hi' => ?_, fun y => ?_, fun q => ?_⟩ hn)
      · intro y
        rw [e1] at y
        rw [y] at t1
        rw [y, t1, nI_1]
      · intro y
        rw [e1] at y
        rw [y] at t1
        rw [y, t1, nI_1]
      · intro y
        rw [e1] at y
        exact t2 1 (by omega) (fun z => y z.symm)
      · intro y
        rw [e1] at y
        exact t2 2 (by omega) (fun z => y z.symm)
      · by_cases ei : i' = i
        · rw [ei, e1]
          exact ⟨o, rfl⟩
        · obtain ⟨u1, u2⟩ := s1 n0 i' (by omega)
          refine ⟨u1, ?_⟩
          rw [hnew]
          by_cases eq : r.2 13 i' = r.2 13 i
          · rw [eq, e0] at u2
            exact absurd u2.symm (wa_2 _).1
          · rw [if_neg eq]; exact u2
      · obtain ⟨i', a, b⟩ := s2 y
        refine ⟨i', by omega, ?_⟩
        rcases b with b | ⟨i'', b1, b2, b3⟩
        · exact Or.inl b
        · exact Or.inr ⟨i'', by omega, b2, b3⟩
      · rw [hnew]
        by_cases eq : q = r.2 13 i
        · rw [if_pos eq]
          exact ⟨x2, fun _ => ⟨by rw [eq]; exact o, i, by omega, eq.symm, rfl⟩⟩
        · rw [if_neg eq]
          refine ⟨(s3 q).1, fun y => ?_⟩
          obtain ⟨a, i', b, e, f⟩ := (s3 q).2 y
          exact ⟨a, i', by omega, e, f⟩
    · rw [if_neg (nI_ne0 (by omega) (by omega))]
      by_cases ex : w (r.2 13 i) = wa (r.2 14 i)
      · rw [if_pos (by rw [ex])]
        refine hK Z w nf h' ⟨fun n0 i' hi' => ?_, fun y => ?_, fun q => ⟨(s3 q).1, fun y => ?_⟩⟩ hn
        · by_cases ei : i' = i
          · rw [ei]; exact ⟨o, ex⟩
          · exact s1 n0 i' (by omega)
        · obtain ⟨i', a, b⟩ := s2 y
          refine ⟨i', by omega, ?_⟩
          rcases b with b | ⟨i'', b1, b2, b3⟩
          · exact Or.inl b
          · exact Or.inr ⟨i'', by omega, b2, b3⟩
        · obtain ⟨a, i', b, e, f⟩ := (s3 q).2 y
          exact ⟨a, i', by omega, e, f⟩
      · rw [if_neg (by rw [nI_eq (by omega) (by omega)]; exact ex)]
        exact bad (Or.inr ⟨e0, ex⟩)
  · rw [if_pos ((openX h' hv q6).2 (by rw [ev]; exact o))]
    exact bad (Or.inl o)
theorem prepX {r : NS} (hw : WF r) {Z0 : St} {K : St → Prop} (hK : ∀ Z wt nf, WS r (r.1 6) wt nf → nf < 2 → DXS Z (cN (dD r) (cgB r) true (r.1 0) 0) (cN (dD r) (cgB r) false (r.1 0) 0) (dA r) wt nf → K Z) : wp_X0_prepare Z0 (NI r) K := by
  have h6 := hw.2.1
  have h8 := hw.2.2.2.2.2.2.1
  have pt : cN (dD r) (cgB r) true (r.1 0) 0 = pcN (dD r) (cgB r) true (r.1 0) := by
    have := cN_pc (dD r) (cgB r) true (r.1 0) 0
    rw [Nat.zero_add] at this
    exact this
  have pf : cN (dD r) (cgB r) false (r.1 0) 0 = pcN (dD r) (cgB r) false (r.1 0) := by
    have := cN_pc (dD r) (cgB r) false (r.1 0) 0
    rw [Nat.zero_add] at this
    exact this
  rw [pt, pf] at hK
  obtain ⟨lv, -⟩ := livN_ok hw (r.1 0) (Nat.le_refl _)
  have l2 : ∀ (m i nf : Nat) (w : Nat → Nat) (Z : St), i + m = r.1 6 → nf < 2 → WS r i w nf → DX Z (livN r (r.1 0)) (pcN (dD r) (cgB r) true (r.1 0)) (pcN (dD r) (cgB r) false (r.1 0)) (oN (dA r) w 1) (oN (dA r) w 2) nf w → wl_X0_prepare_93 (NI r) K (m + 1) (nI i) Z := by
    intro m
    induction m with
    | zero =>
      intro i nf w Z hi hn hs hd
      unfold wl_X0_prepare_93
      rw [NI_1, show i = r.1 6 by omega, if_pos (Int32.le_refl _)]
      rw [show i = r.1 6 by omega] at hs
      exact hK Z w nf hs hn ⟨_, lv, rfl, hd⟩
    | succ m ih =>
      intro i nf w Z hi hn hs hd
      have w14 := (hw.2.2.2.2.2.2.2.2.2 i (by omega)).2
      have hc := heedC hw hd lv rfl (show i < r.1 6 by omega) hs hn (K := fun Z' => wl_X0_prepare_93 (NI r) K (m + 1) (nI (i + 1)) Z') (fun Z' w' nf' hd' hs' hn' => ih (i + 1) nf' w' Z' (by omega) hn' hs' hd')
      unfold wl_X0_prepare_93
      rw [NI_1, if_neg (nI_ge (show i < r.1 6 by omega) (by omega)), getR _ _ (show i < 8 by omega) (by omega), getR _ _ (show i < 8 by omega) (by omega), nI_1]
      by_cases e : r.2 14 i = 1
      · rw [e, show wa 1 = 1 from rfl, ← i1] at hc
        rw [if_pos (by rw [e, i1])]
        unfold wp_X0_heed
        rw [if_neg (by decide)]
        exact hc
      · rw [show wa (r.2 14 i) = 2 by unfold wa; rw [if_neg e], ← i2] at hc
        rw [if_neg (by rw [i1, nI_eq (by omega) (by omega)]; exact e)]
        unfold wp_X0_heed
        rw [if_pos rfl]
        exact hc
  have l1 : ∀ m i (Z : St), i + m = r.1 0 → DX Z (livN r i) (pcN (dD r) (cgB r) true i) (pcN (dD r) (cgB r) false i) 0 0 0 (fun _ => 0) → wl_X0_prepare_40 (NI r) (fun (Z7 : St) => (∃ M13, wl_X0_prepare_93 (NI r) K M13 0 Z7)) (m + 1) (nI i) Z := by
    intro m
    induction m with
    | zero =>
      intro i Z hi hd
      unfold wl_X0_prepare_40
      rw [NI_1, show i = r.1 0 by omega, if_pos (Int32.le_refl _)]
      rw [show i = r.1 0 by omega] at hd
      have z : ∀ x, x ≠ 0 → oN (dA r) (fun _ => 0) x = 0 := by
        intro x hx
        unfold oN
        rw [show (fun q => dA r q && decide (0 = x)) = fun _ => false by
          funext q
          rw [decide_eq_false (fun y => hx y.symm), Bool.and_false]]
        rfl
      have key := l2 (r.1 6) 0 0 (fun _ => 0) Z (by omega) (by omega) ⟨fun _ i hi => absurd hi (by omega), fun y => absurd rfl y, fun q => ⟨Nat.zero_le _, fun y => absurd rfl y⟩⟩ (by rw [z 1 (by omega), z 2 (by omega)]; exact hd)
      rw [nI_0] at key
      exact ⟨_, key⟩
    | succ m ih =>
      intro i Z hi hd
      obtain ⟨li, -⟩ := livN_ok hw i (by omega)
      have w8 := (hw.2.2.2.2.2.2.2.1 i (by omega)).2.1
      have w11 := (hw.2.2.2.2.2.2.2.1 i (by omega)).2.2.2.1
      unfold wl_X0_prepare_40
      rw [NI_1, if_neg (nI_ge (show i < r.1 0 by omega) (by omega)), nI_1]
      by_cases ha : alB r i = true
      · rw [if_neg (fun y => (al_f hw (by omega)).1 y ha), getR _ _ (show i < 6 by omega) (by omega), getR _ _ (show i < 6 by omega) (by omega)]
        have eL : livN r (i + 1) = setB (livN r i) (r.2 8 i) := by
          show (if alB r i = true then _ else _) = _
          rw [if_pos ha]
        have g := ih (i + 1)
        rw [eL] at g
        unfold pcN at g
        have d7 := dD_7.2 ha
        by_cases e : r.2 11 i = 1
        · have hc : cgB r i = true := cgB_t.2 e
          rw [if_pos (by rw [e, i1])]
          refine takeX hd li (show r.2 8 i < 6 by omega) (by omega) (c := true) (fun Z' hz => g Z' (by omega) ?_)
          rw [hc, if_pos ⟨d7, rfl⟩, if_neg (fun y => absurd y.2 (by decide))]
          exact hz
        · have hc : cgB r i = false := by
            cases hb : cgB r i with
            | false => rfl
            | true => exact absurd (cgB_t.1 hb) e
          rw [if_neg (by rw [i1, nI_eq (by omega) (by omega)]; exact e)]
          refine takeX hd li (show r.2 8 i < 6 by omega) (by omega) (c := false) (fun Z' hz => g Z' (by omega) ?_)
          rw [hc, if_neg (fun y => absurd y.2 (by decide)), if_pos ⟨d7, rfl⟩]
          exact hz
      · rw [if_pos ((al_f hw (by omega)).2 ha)]
        refine ih (i + 1) Z (by omega) ?_
        have eL : livN r (i + 1) = livN r i := by
          show (if alB r i = true then _ else _) = _
          rw [if_neg ha]
        have d7 : ¬ dD r i = 7 := fun y => ha (dD_7.1 y)
        rw [eL]
        unfold pcN
        rw [if_neg (fun y => d7 y.1), if_neg (fun y => d7 y.1)]
        exact hd
  unfold wp_X0_prepare
  refine fill_nI (by omega) ?_
  have key := l1 (r.1 0) 0 (sA (sI (sI (sI (sI (sI (sI Z0 1 0) 2 0) 3 0) 4 0) 5 0) 6 0) 0 (fun j => if j < 6 then 0 else Z0.2 0 j)) (by omega) ⟨rfl, rfl, rfl, rfl, rfl, rfl, fun q hq => by
    rw [sA_2, if_pos rfl, if_pos hq]
    rfl⟩
  rw [nI_0] at key
  exact ⟨_, key⟩
