-- deals: what the sights want
def wa (s : Nat) : Nat := if s = 1 then 1 else 2
def WS (r : NS) (s : Nat) (wt : Nat → Nat) (nf : Nat) : Prop :=
  (nf = 0 → ∀ i, i < s → dA r (r.2 13 i) = true ∧ wt (r.2 13 i) = wa (r.2 14 i)) ∧
  (nf ≠ 0 → ∃ i, i < s ∧ (¬ dA r (r.2 13 i) = true ∨ ∃ i', i' < s ∧ r.2 13 i' = r.2 13 i ∧ r.2 14 i' ≠ r.2 14 i)) ∧
  (∀ q, wt q ≤ 2 ∧ (wt q ≠ 0 → dA r q = true ∧ ∃ i, i < s ∧ r.2 13 i = q ∧ wt q = wa (r.2 14 i)))
def cgB (r : NS) (k : Nat) : Bool := decide (r.2 11 k = 1)
theorem cgB_t {r : NS} {k : Nat} : cgB r k = true ↔ r.2 11 k = 1 := decide_eq_true_iff
theorem crd_liv {r : NS} (hw : WF r) : ∀ k, k ≤ r.1 0 → crd (bts (livN r k)) = acN (dD r) k := by
  have h6 := hw.2.1
  intro k
  induction k with
  | zero =>
    intro _
    show crd (bts 0) = 0
    decide
  | succ k ih =>
    intro hk
    have g := ih (by omega)
    obtain ⟨l1, l2⟩ := livN_ok hw k (by omega)
    have h8 := (hw.2.2.2.2.2.2.2.1 k (by omega)).2.1
    unfold acN
    rw [← g]
    by_cases ha : alB r k = true
    · have q6 : r.2 8 k < 6 := by omega
      obtain ⟨s1, s2⟩ := t_seb _ l1 _ q6
      have eL : livN r (k + 1) = setB (livN r k) (r.2 8 k) := by
        show (if alB r k = true then _ else _) = _
        rw [if_pos ha]
      rw [if_pos (dD_7.2 ha), eL]
      have nb : ¬ livN r k / 2 ^ (r.2 8 k) % 2 = 1 := by
        intro y
        obtain ⟨i, a, b, c⟩ := (l2 _ q6).1 y
        have := hw.2.2.2.2.2.2.2.2.1 i k (by omega) (by omega) c
        omega
      have e : bts (livN r k) = mns (bts (setB (livN r k) (r.2 8 k))) (r.2 8 k) := by
        funext x
        rw [Bool.eq_iff_iff, mns_t, bts_t, bts_t]
        constructor
        · intro ⟨hx, hb⟩
          have ne : x ≠ r.2 8 k := fun y => nb (by rw [← y]; exact hb)
          refine ⟨⟨hx, ?_⟩, ne⟩
          rw [s2 x hx, if_neg ne]
          exact hb
        · intro ⟨⟨hx, hb⟩, ne⟩
          rw [s2 x hx, if_neg ne] at hb
          exact ⟨hx, hb⟩
      rw [e]
      exact (crd_m (bts_t.2 ⟨q6, by rw [s2 _ q6, if_pos rfl]⟩) q6).symm
    · have eL : livN r (k + 1) = livN r k := by
        show (if alB r k = true then _ else _) = _
        rw [if_neg ha]
      rw [if_neg (fun y => ha (dD_7.1 y)), eL, Nat.add_zero]
theorem crd_dA {r : NS} (hw : WF r) : crd (dA r) = acN (dD r) (r.1 0) := crd_liv hw _ (Nat.le_refl _)
theorem dD_6 {r : NS} {k : Nat} (h : dD r k ≠ 7) : dD r k = 6 := by
  unfold dD at h ⊢
  by_cases a : alB r k = true
  · rw [if_pos a] at h; exact absurd rfl h
  · rw [if_neg a]
/-- a row is one that is dealt and fits -/
theorem Vr_iff {r : NS} (hw : WF r) {wt : Nat → Nat} {nf : Nat} (h : WS r (r.1 6) wt nf) {c : Nat} : Vr r c ↔ nf = 0 ∧ gd (dD r) (cgB r) wt (dA r) (r.1 0) c = true := by
  have h6 := hw.2.1
  obtain ⟨ws1, ws2, ws3⟩ := h
  constructor
  · intro ⟨hd, hs⟩
    have hd' := hd
    rw [rfK_t dA_6 _ _ _ (by omega)] at hd'
    have bear : ∀ q, q < 6 → ∀ k, k < r.1 0 → dg (r.1 0) c k = q → dD r k = 7 := fun q hq k hk e => Classical.byContradiction (fun y => by have := (hd' k hk).2 y; omega)
    refine ⟨Classical.byContradiction (fun y => ?_), ?_⟩
    · obtain ⟨i, hi, z⟩ := ws2 y
      obtain ⟨k, a, b, e⟩ := hs i hi
      have w13 := (hw.2.2.2.2.2.2.2.2.2 i hi).1
      have k7 := bear _ (by omega) k a b
      rcases z with z | ⟨i', hi', e1, e2⟩
      · have t := ((hd' k a).1 k7).1
        rw [b] at t
        exact z t
      · obtain ⟨k', a', b', e'⟩ := hs i' hi'
        have := one_k hd a' a (by omega) (by omega)
        rw [this] at e'
        omega
    · rw [gd_t]
      intro k hk
      refine ⟨fun h7 => ?_, fun h7 => by rw [(hd' k hk).2 h7, dD_6 h7]⟩
      obtain ⟨t1, t2, t3⟩ := (hd' k hk).1 h7
      refine ⟨t1, ?_, t3⟩
      have q6 := dA_6 _ t1
      obtain ⟨w2, w3⟩ := ws3 (dg (r.1 0) c k)
      unfold sutB
      by_cases hc : cgB r k = true
      · rw [if_pos hc, decide_eq_true_eq]
        intro y
        obtain ⟨-, i, hi, e1, e2⟩ := w3 (by omega)
        obtain ⟨k', a', b', e'⟩ := hs i hi
        have ek := one_k hd a' hk (by omega) q6
        rw [ek, cgB_t.1 hc] at e'
        rw [y, ← e'] at e2
        exact absurd e2 (by decide)
      · rw [if_neg hc, decide_eq_true_eq]
        intro y
        obtain ⟨-, i, hi, e1, e2⟩ := w3 (by omega)
        obtain ⟨k', a', b', e'⟩ := hs i hi
        have ek := one_k hd a' hk (by omega) q6
        rw [ek] at e'
        rw [cgB_t] at hc
        unfold wa at e2
        rw [y, ← e', if_neg hc] at e2
        exact absurd e2 (by decide)
  · intro ⟨n0, hg⟩
    have hg' := hg
    rw [gd_t] at hg'
    have hd : rfK (dD r) (dA r) (r.1 0) c 0 = true := by
      rw [rfK_t dA_6 _ _ _ (by omega)]
      intro k hk
      exact ⟨fun h7 => ⟨((hg' k hk).1 h7).1, by rw [Nat.zero_div], ((hg' k hk).1 h7).2.2⟩, fun h7 => by rw [(hg' k hk).2 h7, dD_6 h7]⟩
    refine ⟨hd, fun i hi => ?_⟩
    obtain ⟨a1, a2⟩ := ws1 n0 i hi
    obtain ⟨k, hk, k7, e⟩ := gd_all dA_6 (crd_dA hw) hg a1
    refine ⟨k, hk, e, ?_⟩
    have t := ((hg' k hk).1 k7).2.1
    have w14 := (hw.2.2.2.2.2.2.2.2.2 i hi).2
    have w11 := (hw.2.2.2.2.2.2.2.1 k hk).2.2.2.1
    unfold sutB at t
    rw [e, a2] at t
    unfold wa at t
    by_cases hc : cgB r k = true
    · rw [if_pos hc, decide_eq_true_eq] at t
      rw [cgB_t] at hc
      by_cases e1 : r.2 14 i = 1
      · omega
      · rw [if_neg e1] at t; exact absurd rfl t
    · rw [if_neg hc, decide_eq_true_eq] at t
      rw [cgB_t] at hc
      by_cases e1 : r.2 14 i = 1
      · rw [if_pos e1] at t; exact absurd rfl t
      · omega
-- the Java's state of a deal
def cI (c : Bool) : Int32 := if c = true then 1 else 0
def DX (Z : St) (v C Q a b nf : Nat) (w : Nat → Nat) : Prop := Z.1 1 = nI v ∧ Z.1 2 = nI C ∧ Z.1 3 = nI Q ∧ Z.1 4 = nI a ∧ Z.1 5 = nI b ∧ Z.1 6 = nI nf ∧ ∀ q, q < 6 → Z.2 0 q = nI (w q)
theorem wantX {Z : St} {v C Q a b nf q : Nat} {w : Nat → Nat} (h : DX Z v C Q a b nf w) (hq : q < 6) (hw2 : w q ≤ 2) {x : Int32} {a' b' : Nat} (ea : w q = 1 → nI a + x = nI a') (eb : w q = 2 → nI b + x = nI b') (ea' : w q ≠ 1 → a' = a) (eb' : w q ≠ 2 → b' = b) {K : St → Prop} (hK : ∀ Z', DX Z' v C Q a' b' nf w → K Z') : wp_X0_countWant Z (nI q) x K := by
  obtain ⟨z1, z2, z3, z4, z5, z6, z0⟩ := h
  unfold wp_X0_countWant
  rw [get_nI _ hq (by omega), z0 q hq, i1, i2]
  by_cases e1 : w q = 1
  · rw [if_pos (by rw [e1]), z4, ea e1]
    refine hK _ ⟨z1, z2, z3, rfl, ?_, z6, z0⟩
    rw [eb' (by omega)]
    exact z5
  · rw [if_neg (by rw [nI_eq (by omega) (by omega)]; exact e1)]
    by_cases e2 : w q = 2
    · rw [if_pos (by rw [e2]), z5, eb e2]
      refine hK _ ⟨z1, z2, z3, ?_, rfl, z6, z0⟩
      rw [ea' e1]
      exact z4
    · rw [if_neg (by rw [nI_eq (by omega) (by omega)]; exact e2)]
      rw [ea' e1, eb' e2] at hK
      exact hK _ ⟨z1, z2, z3, z4, z5, z6, z0⟩
theorem bearX {Z : St} {v C Q a b nf : Nat} {w : Nat → Nat} (h : DX Z v C Q a b nf w) {c : Bool} {x : Int32} {C' Q' : Nat} (ec : c = true → nI C + x = nI C' ∧ Q' = Q) (eq : c = false → nI Q + x = nI Q' ∧ C' = C) {K : St → Prop} (hK : ∀ Z', DX Z' v C' Q' a b nf w → K Z') : wp_X0_countBearer Z (cI c) x K := by
  obtain ⟨z1, z2, z3, z4, z5, z6, z0⟩ := h
  unfold wp_X0_countBearer
  cases hc : c with
  | true =>
    obtain ⟨e1, e2⟩ := ec hc
    rw [if_neg (show ¬ cI true = 0 by decide), z2, e1]
    refine hK _ ⟨z1, rfl, ?_, z4, z5, z6, z0⟩
    rw [e2]
    exact z3
  | false =>
    obtain ⟨e1, e2⟩ := eq hc
    rw [if_pos (show cI false = 0 by decide), z3, e1]
    refine hK _ ⟨z1, ?_, rfl, z4, z5, z6, z0⟩
    rw [e2]
    exact z2
theorem DX_1 {Z : St} {v C Q a b nf : Nat} {w : Nat → Nat} (h : DX Z v C Q a b nf w) (u : Nat) : DX (sI Z 1 (nI u)) u C Q a b nf w := by
  obtain ⟨z1, z2, z3, z4, z5, z6, z0⟩ := h
  exact ⟨rfl, z2, z3, z4, z5, z6, z0⟩
theorem nI_d {a : Nat} (h : 0 < a) : nI a + (-1) = nI (a - 1) := by
  have := nI_dec (a - 1)
  rw [show a - 1 + 1 = a by omega] at this
  exact this
theorem takeX {Z : St} {v C Q a b nf q : Nat} {w : Nat → Nat} (h : DX Z v C Q a b nf w) (hv : v < 64) (hq : q < 6) (hw2 : w q ≤ 2) {c : Bool} {K : St → Prop} (hK : ∀ Z', DX Z' (setB v q) (if c = true then C + 1 else C) (if c = true then Q else Q + 1) (if w q = 1 then a + 1 else a) (if w q = 2 then b + 1 else b) nf w → K Z') : wp_X0_takeBack Z (nI q) (cI c) K := by
  unfold wp_X0_takeBack
  rw [h.1, t_or v hv q hq]
  refine wantX (DX_1 h (setB v q)) hq hw2 (a' := if w q = 1 then a + 1 else a) (b' := if w q = 2 then b + 1 else b) (fun e => by rw [if_pos e, nI_1]) (fun e => by rw [if_pos e, nI_1]) (fun e => if_neg e) (fun e => if_neg e) (fun Z1 h1 => ?_)
  exact bearX h1 (c := c) (C' := if c = true then C + 1 else C) (Q' := if c = true then Q else Q + 1) (fun e => by rw [if_pos e, if_pos e, nI_1]; exact ⟨rfl, rfl⟩) (fun e => by rw [e, if_neg (by decide), if_neg (by decide), nI_1]; exact ⟨rfl, rfl⟩) hK
theorem giveX {Z : St} {v C Q a b nf q : Nat} {w : Nat → Nat} (h : DX Z v C Q a b nf w) (hv : v < 64) (hq : q < 6) (hw2 : w q ≤ 2) {c : Bool} (hc : c = true → 0 < C) (hc' : c = false → 0 < Q) (ha : w q = 1 → 0 < a) (hb : w q = 2 → 0 < b) {K : St → Prop} (hK : ∀ Z', DX Z' (clrB v q) (if c = true then C - 1 else C) (if c = true then Q else Q - 1) (if w q = 1 then a - 1 else a) (if w q = 2 then b - 1 else b) nf w → K Z') : wp_X0_give Z (nI q) (cI c) K := by
  unfold wp_X0_give
  rw [h.1, t_clb v hv q hq]
  refine wantX (DX_1 h (clrB v q)) hq hw2 (a' := if w q = 1 then a - 1 else a) (b' := if w q = 2 then b - 1 else b) (fun e => by rw [if_pos e, nI_d (ha e)]) (fun e => by rw [if_pos e, nI_d (hb e)]) (fun e => if_neg e) (fun e => if_neg e) (fun Z1 h1 => ?_)
  exact bearX h1 (c := c) (C' := if c = true then C - 1 else C) (Q' := if c = true then Q else Q - 1) (fun e => by rw [if_pos e, if_pos e, nI_d (hc e)]; exact ⟨rfl, rfl⟩) (fun e => by rw [nI_d (hc' e), e, if_neg (by decide), if_neg (by decide)]; exact ⟨rfl, rfl⟩) hK
theorem picksX {f m : Nat} (hf : f < 2 ^ 30) (hm : m < 2 ^ 30) {K : Int32 → Prop} (hK : K (nI (pkN f m))) : wp_X0_picks (nI f) (nI m) K := by
  unfold wp_X0_picks
  unfold pkN at hK
  by_cases l : f < m
  · rw [if_pos l] at hK
    rw [if_neg (nI_ge l (by omega))]
    exact hK
  · rw [if_neg l] at hK
    rw [if_pos (nI_le (by omega) (by omega))]
    have lp : ∀ d i, i + d = m → wl_X0_picks_11 (nI f) (nI m) K (d + 1) (nI (prN f i)) (nI i) := by
      intro d
      induction d with
      | zero =>
        intro i hi
        unfold wl_X0_picks_11
        rw [show i = m by omega, if_pos (Int32.le_refl _)]
        exact hK
      | succ d ih =>
        intro i hi
        unfold wl_X0_picks_11
        rw [if_neg (nI_ge (show i < m by omega) (by omega)), pk_sub (show i ≤ f by omega), pk_mul, nI_1]
        exact ih (i + 1) (by omega)
    have key := lp m 0 (by omega)
    rw [show prN f 0 = 1 from rfl, nI_0, ← i1] at key
    exact ⟨_, key⟩
theorem waysIfX {Z : St} {v C Q a b nf : Nat} {w : Nat → Nat} (h : DX Z v C Q a b nf w) (hC : C + Q ≤ 6) {a' b' : Nat} (hab : a' + b' ≤ C + Q) {K : Int32 → Prop} (hK : K (nI (wyN C Q a' b'))) : wp_X0_waysIf Z (nI a') (nI b') K := by
  obtain ⟨z1, z2, z3, z4, z5, z6, z0⟩ := h
  unfold wp_X0_waysIf
  rw [z2, z3, nI_add, pk_sub (show a' ≤ C + Q by omega), pk_sub (show b' ≤ C + Q - a' by omega)]
  refine picksX (by omega) (by omega) (picksX (by omega) (by omega) (picksX (by omega) (by omega) ?_))
  rw [pk_mul, pk_mul]
  exact hK
theorem waysX {Z : St} {v C Q a b nf : Nat} {w : Nat → Nat} (h : DX Z v C Q a b nf w) (hC : C + Q ≤ 6) (hab : a + b ≤ C + Q) (hn : nf < 2) {K : Int32 → Prop} (hK : K (nI (if nf = 0 then wyN C Q a b else 0))) : wp_X0_ways Z K := by
  have h' := h
  obtain ⟨z1, z2, z3, z4, z5, z6, z0⟩ := h
  unfold wp_X0_ways
  rw [z6]
  by_cases e : nf = 0
  · rw [if_pos e] at hK
    rw [if_pos (by rw [e]; decide), z4, z5]
    exact waysIfX h' hC hab hK
  · rw [if_neg e] at hK
    rw [if_neg (nI_ne0 (by omega) (by omega))]
    rw [nI_0] at hK
    exact hK
theorem openX {Z : St} {v C Q a b nf q : Nat} {w : Nat → Nat} (h : DX Z v C Q a b nf w) (hv : v < 64) (hq : q < 6) : F_X0_isOpen Z (nI q) = 0 ↔ ¬ bts v q = true := by
  have hm := Nat.mod_lt (v / 2 ^ q) (show 0 < 2 by omega)
  unfold F_X0_isOpen
  rw [h.1, bit_f v hv q hq, bts_t]
  by_cases e : v / 2 ^ q % 2 = 1
  · rw [if_pos ((nI_eq1 (by omega)).2 e)]
    exact ⟨fun x => absurd x (by decide), fun x => absurd ⟨hq, e⟩ x⟩
  · rw [if_neg (fun x => e ((nI_eq1 (by omega)).1 x))]
    exact ⟨fun _ y => e y.2, fun _ => rfl⟩
theorem suitX {Z : St} {v C Q a b nf q : Nat} {w : Nat → Nat} (h : DX Z v C Q a b nf w) (hv : v < 64) (hq : q < 6) (hw2 : w q ≤ 2) {c : Bool} : F_X0_suits Z (nI q) (cI c) = 0 ↔ ¬ (bts v q = true ∧ sutB w q c = true) := by
  have z0 := h.2.2.2.2.2.2
  unfold F_X0_suits
  by_cases o : bts v q = true
  · rw [if_neg (fun y => (openX h hv hq).1 y o), get_nI _ hq (by omega), z0 q hq, i1, i2]
    unfold sutB
    cases c with
    | true =>
      rw [if_neg (show ¬ cI true = 0 by decide), if_pos rfl, decide_eq_true_eq]
      by_cases e : w q = 2
      · rw [if_pos (by rw [e])]
        exact ⟨fun _ y => y.2 e, fun _ => rfl⟩
      · rw [if_neg (by rw [nI_eq (by omega) (by omega)]; exact e)]
        exact ⟨fun y => absurd y (by decide), fun y => absurd ⟨o, e⟩ y⟩
    | false =>
      rw [if_pos (show cI false = 0 by decide), if_neg (show ¬ (false = true) by decide), decide_eq_true_eq]
      by_cases e : w q = 1
      · rw [if_pos (by rw [e])]
        exact ⟨fun _ y => y.2 e, fun _ => rfl⟩
      · rw [if_neg (by rw [nI_eq (by omega) (by omega)]; exact e)]
        exact ⟨fun y => absurd y (by decide), fun y => absurd ⟨o, e⟩ y⟩
  · rw [if_pos ((openX h hv hq).2 o)]
    exact ⟨fun _ y => o y.1, fun _ => rfl⟩
