-- changed, names
def Vb (r : NS) (wt : Nat → Nat) (nf : Nat) (c : Nat) : Bool := decide (nf = 0) && gd (dD r) (cgB r) wt (dA r) (r.1 0) c
theorem Vb_t {r : NS} (hw : WF r) {wt : Nat → Nat} {nf : Nat} (h : WS r (r.1 6) wt nf) (c : Nat) : Vb r wt nf c = true ↔ Vr r c := by
  rw [Vr_iff hw h]
  unfold Vb
  rw [Bool.and_eq_true, decide_eq_true_eq]
theorem Vb_0 {r : NS} {wt : Nat → Nat} : Vb r wt 0 = gd (dD r) (cgB r) wt (dA r) (r.1 0) := by
  funext c
  unfold Vb
  rw [decide_eq_true rfl, Bool.true_and]
theorem crd_c {r : NS} (hw : WF r) : crd (dA r) = cN (dD r) (cgB r) true (r.1 0) 0 + cN (dD r) (cgB r) false (r.1 0) 0 := by
  have h := cN_ac (dD r) (cgB r) (r.1 0) 0
  rw [Nat.zero_add, show acN (dD r) 0 = 0 from rfl, Nat.add_zero] at h
  rw [h]
  exact crd_dA hw
theorem tot_W {r : NS} (hw : WF r) {wt : Nat → Nat} (hw2 : ∀ q, wt q ≤ 2) : sm (vI (gd (dD r) (cgB r) wt (dA r) (r.1 0))) (7 ^ r.1 0) = wyN (cN (dD r) (cgB r) true (r.1 0) 0) (cN (dD r) (cgB r) false (r.1 0) 0) (oN (dA r) wt 1) (oN (dA r) wt 2) := by
  have h6 := hw.2.1
  rw [all_cnt (D := dD r) (fun k _ => dD_l k) dA_6, cnt_W hw2 _ _ _ h6 (crd_c hw)]
theorem Vb_n {r : NS} (hw : WF r) {wt : Nat → Nat} {nf : Nat} (hw2 : ∀ q, wt q ≤ 2) : sm (vI (Vb r wt nf)) (7 ^ r.1 0) = if nf = 0 then wyN (cN (dD r) (cgB r) true (r.1 0) 0) (cN (dD r) (cgB r) false (r.1 0) 0) (oN (dA r) wt 1) (oN (dA r) wt 2) else 0 := by
  by_cases e : nf = 0
  · subst e
    rw [if_pos rfl, Vb_0]
    exact tot_W hw hw2
  · rw [if_neg e]
    refine sm_0 _ (fun c _ => ?_)
    unfold vI Vb
    rw [decide_eq_false e, Bool.false_and]
    rfl
theorem waysZ {r : NS} (hw : WF r) {Z : St} {wt : Nat → Nat} {nf : Nat} (hw2 : ∀ q, wt q ≤ 2) (hn : nf < 2) (hz : DXS Z (cN (dD r) (cgB r) true (r.1 0) 0) (cN (dD r) (cgB r) false (r.1 0) 0) (dA r) wt nf) {K : Int32 → Prop} (hK : K (nI (sm (vI (Vb r wt nf)) (7 ^ r.1 0)))) : wp_X0_ways Z K := by
  have h6 := hw.2.1
  have l := cN_le (dD r) (cgB r) (r.1 0) 0
  have al := oN_all (O := dA r) hw2
  have cc := crd_c hw
  obtain ⟨v, hv, e, hx⟩ := hz
  refine waysX hx (by omega) (by omega) hn ?_
  rw [Vb_n hw hw2] at hK
  exact hK
theorem chgM {M : St} {r : NS} (hw : WF r) (hm : MR M r) {x : Int32} {V : Nat → Bool} (hV : ∀ c, V c = true ↔ Vr r c) {K : Int32 → St → Prop} (hF : ∀ c S', c < 7 ^ r.1 0 → V c = true → nI (sm (vI V) c) = x → Keep M S' → K (nI (dcP (r.1 0) c)) S') (hE : (∀ c, c < 7 ^ r.1 0 → V c = true → nI (sm (vI V) c) ≠ x) → ∀ S', Keep M S' → if x = -1 then K (nI (sm (vI V) (7 ^ r.1 0))) S' else K (-6) S') : wp_X7_changed M x K := by
  have b := p7 hw.2.1
  unfold wp_X7_changed
  refine codesM hw hm ?_
  have key := chg_lp hw hm (x := x) (N := 7 ^ r.1 0) (by omega) hV (k := K) (kx := fun (v11 : Int32) (Z12 : St) => (if x = (-1) then (K v11 Z12) else (K (-6) Z12))) hF hE (7 ^ r.1 0) 0 M (by omega) (Keep.refl M) (fun c hc => absurd hc (by omega))
  rw [nI_0, show sm (vI V) 0 = 0 from rfl, nI_0] at key
  exact ⟨_, key⟩
theorem sim_changed : Sim_changed Inv := by
  intro X0 X1 X2 X3 X4 X5 X6 X7 X8 M a0 hI
  obtain ⟨⟨r, h0, hw, hm⟩, -⟩ := id hI
  subst h0
  have h6 := hw.2.1
  have b7 := p7 h6
  unfold wp_X6_changed
  refine prepX hw (fun Z wt nf hs hn hz => ?_)
  have hw2 : ∀ q, wt q ≤ 2 := fun q => (hs.2.2 q).1
  have hV := Vb_t hw hs
  have sl := sm_vl (Vb r wt nf)
  have neg : a0 < 0 → ∀ c, c < 7 ^ r.1 0 → nI (sm (vI (Vb r wt nf)) c) ≠ a0 := fun hx c hc y => by
    have := sl c
    exact nI_pos (n := sm (vI (Vb r wt nf)) c) (by omega) (y ▸ hx)
  by_cases e1 : a0 = -1
  · have hlt : a0 < 0 := by rw [e1]; decide
    rw [if_pos e1]
    refine waysZ hw hw2 hn hz ?_
    refine chgM hw hm hV (fun c S' hc _ y _ => absurd y (neg hlt c hc)) (fun _ S' kS => ?_)
    rw [if_pos e1]
    exact ⟨rfl, Inv_keep hI kS X1 X6 Z X8⟩
  · rw [if_neg e1]
    rcases cases_ix a0 (n := sm (vI (Vb r wt nf)) (7 ^ r.1 0)) (by have := sl (7 ^ r.1 0); omega) with ⟨j, hj, ej⟩ | hlt | ⟨hge, hle⟩
    · rw [if_neg (by rw [ej]; exact nI_pos (by have := sl (7 ^ r.1 0); omega))]
      refine waysZ hw hw2 hn hz ?_
      rw [if_pos (by rw [ej]; exact nI_lt hj (by have := sl (7 ^ r.1 0); omega))]
      have n0 : nf = 0 := by
        rw [Vb_n hw hw2] at hj
        by_cases e : nf = 0
        · exact e
        · rw [if_neg e] at hj
          exact absurd hj (by omega)
      subst n0
      rw [Vb_0] at hj hV sl
      have l7 := sl (7 ^ r.1 0)
      have key := rowX hw hw2 (i0 := j) (K := fun (v7 : Int32) (Z8 : St) => wp_X7_changed M a0 (fun (q : Int32) (N : St) => v7 = q ∧ Inv (NI r) X1 X2 X3 X4 X5 X6 Z8 X8 N)) (fun c Z' hc hg hsm => by
        refine chgM hw hm hV (fun c' S' hc' hg' y kS => ?_) (fun y => ?_)
        · have l1 := sl c'
          rw [ej, nI_eq (by omega) (by omega)] at y
          have e : c' = c := sm_inj hg' hg (by omega)
          rw [e]
          exact ⟨rfl, Inv_keep hI kS X1 X6 Z' X8⟩
        · exact absurd (by rw [ej, hsm]) (y c hc hg)) (r.1 0) 0 0 j Z (by omega) (by omega) rfl (by
        rw [Nat.zero_mul]
        show 0 + j = j
        omega) (by
        show j < cntA (dD r) (cgB r) wt (r.1 0) 0 (dA r)
        rw [← all_cnt (D := dD r) (fun k _ => dD_l k) dA_6]
        exact hj) hz
      rw [show dcP 0 0 = 0 from rfl, nI_0, ← ej] at key
      exact ⟨_, key⟩
    · rw [if_pos hlt]
      refine chgM hw hm hV (fun c S' hc _ y _ => absurd y (neg hlt c hc)) (fun _ S' kS => ?_)
      rw [if_neg e1]
      exact ⟨rfl, Inv_keep hI kS X1 X6 Z X8⟩
    · rw [if_neg hge]
      refine waysZ hw hw2 hn hz ?_
      rw [if_neg (fun y => Int32.lt_irrefl (Int32.lt_of_lt_of_le y hle))]
      refine chgM hw hm hV (fun c S' hc hvc y _ => ?_) (fun _ S' kS => ?_)
      · rw [← y] at hle
        have l1 := sm_lt hvc hc
        have l7 := sl (7 ^ r.1 0)
        exact absurd hle (nI_ge l1 (by omega))
      · rw [if_neg e1]
        exact ⟨rfl, Inv_keep hI kS X1 X6 Z X8⟩
-- names
theorem cN_u {D : Nat → Nat} {cg : Nat → Bool} {k v : Nat} (hv : v ≠ 7) (hk : D k = 7) (c : Bool) : ∀ m j, cN D cg c m j = cN (nup D k v) cg c m j + if j ≤ k ∧ k < j + m ∧ cg k = c then 1 else 0 := by
  intro m
  induction m with
  | zero =>
    intro j
    rw [if_neg (fun y => by have := y.1; have := y.2.1; omega)]
    rfl
  | succ m ih =>
    intro j
    show (if D j = 7 ∧ cg j = c then 1 else 0) + cN D cg c m (j + 1) = (if nup D k v j = 7 ∧ cg j = c then 1 else 0) + cN (nup D k v) cg c m (j + 1) + _
    rw [ih (j + 1)]
    by_cases e : j = k
    · subst e
      have e1 : nup D j v j = v := by unfold nup; rw [if_pos rfl]
      rw [e1, if_neg (show ¬ (v = 7 ∧ cg j = c) from fun y => hv y.1), if_neg (show ¬ (j + 1 ≤ j ∧ j < j + 1 + m ∧ cg j = c) from fun y => by have := y.1; omega)]
      by_cases hc : cg j = c
      · rw [if_pos ⟨hk, hc⟩, if_pos ⟨Nat.le_refl _, by omega, hc⟩]; omega
      · rw [if_neg (fun y => hc y.2), if_neg (fun y => hc y.2.2)]; omega
    · have e1 : nup D k v j = D j := by unfold nup; rw [if_neg e]
      rw [e1]
      by_cases p : j + 1 ≤ k ∧ k < j + 1 + m ∧ cg k = c
      · rw [if_pos p, if_pos (show j ≤ k ∧ k < j + (m + 1) ∧ cg k = c from ⟨by omega, by omega, p.2.2⟩)]; omega
      · rw [if_neg p, if_neg (show ¬ (j ≤ k ∧ k < j + (m + 1) ∧ cg k = c) from fun y => p ⟨by have := y.1; omega, by have := y.2.1; omega, y.2.2⟩)]; omega
/-- child k's name fixed -/
theorem gd_fix {D : Nat → Nat} {cg : Nat → Bool} {wt : Nat → Nat} {O : Nat → Bool} {n k q c : Nat} (hk : k < n) (d7 : D k = 7) (hq : q < 6) (ho : O q = true) (hsu : sutB wt q (cg k) = true) : gd (nup D k q) cg wt (mns O q) n c = true ↔ gd D cg wt O n c = true ∧ dg n c k = q := by
  have ek : nup D k q k = q := by unfold nup; rw [if_pos rfl]
  have en : ∀ i, i ≠ k → nup D k q i = D i := fun i h => by unfold nup; rw [if_neg h]
  rw [gd_t, gd_t]
  constructor
  · intro h
    have hdk : dg n c k = q := by
      have := (h k hk).2 (by rw [ek]; omega)
      rw [ek] at this
      exact this
    refine ⟨fun i hi => ?_, hdk⟩
    by_cases e : i = k
    · rw [e, hdk]
      refine ⟨fun _ => ⟨ho, hsu, fun i' hi' h7 => ?_⟩, fun y => absurd d7 y⟩
      have t := ((h i' (by omega)).1 (by rw [en i' (by omega)]; exact h7)).1
      exact (mns_t.1 t).2
    · have hi' := h i hi
      rw [en i e] at hi'
      refine ⟨fun h7 => ?_, hi'.2⟩
      obtain ⟨t1, t2, t3⟩ := hi'.1 h7
      refine ⟨(mns_t.1 t1).1, t2, fun i2 hi2 h2 => ?_⟩
      by_cases e2 : i2 = k
      · rw [e2, hdk]
        exact fun y => (mns_t.1 t1).2 y.symm
      · exact t3 i2 hi2 (by rw [en i2 e2]; exact h2)
  · intro ⟨h, hdk⟩ i hi
    by_cases e : i = k
    · rw [e, ek, hdk]
      exact ⟨fun y => absurd y (by omega), fun _ => rfl⟩
    · rw [en i e]
      refine ⟨fun h7 => ?_, (h i hi).2⟩
      obtain ⟨t1, t2, t3⟩ := (h i hi).1 h7
      refine ⟨mns_t.2 ⟨t1, ?_⟩, t2, fun i2 hi2 h2 => ?_⟩
      · rw [← hdk]
        by_cases l : i < k
        · exact ((h k hk).1 d7).2.2 i l h7
        · exact fun y => t3 k (by omega) d7 y.symm
      · by_cases e2 : i2 = k
        · rw [e2] at h2
          rw [ek] at h2
          omega
        · rw [en i2 e2] at h2
          exact t3 i2 hi2 h2
theorem bit_ext {u v : Nat} (hu : u < 64) (hv : v < 64) (h : ∀ q, q < 6 → (u / 2 ^ q % 2 = 1 ↔ v / 2 ^ q % 2 = 1)) : u = v := by
  have e := msk_congr (P := fun k => decide (u / 2 ^ k % 2 = 1)) (Q := fun k => decide (v / 2 ^ k % 2 = 1)) (n := 6) (fun k hk => by
    rw [Bool.eq_iff_iff, decide_eq_true_eq, decide_eq_true_eq]
    exact h k hk)
  rw [msk_bits 6 (by omega) u hu hu, msk_bits 6 (by omega) v hv hv] at e
  exact e
def uN (V : Nat → Bool) (n k : Nat) : Nat → Nat
  | 0 => 0
  | c + 1 => if V c = true then setB (uN V n k c) (dg n c k) else uN V n k c
theorem uN_t {V : Nat → Bool} {n k : Nat} (h6 : ∀ c, V c = true → dg n c k < 6) : ∀ i, uN V n k i < 64 ∧ ∀ q, q < 6 → (uN V n k i / 2 ^ q % 2 = 1 ↔ ∃ c, c < i ∧ V c = true ∧ dg n c k = q) := by
  intro i
  induction i with
  | zero =>
    refine ⟨by show 0 < 64; omega, fun q _ => ⟨fun h => ?_, fun ⟨c, hc, _⟩ => absurd hc (by omega)⟩⟩
    rw [show uN V n k 0 = 0 from rfl, Nat.zero_div] at h
    omega
  | succ i ih =>
    obtain ⟨a1, a2⟩ := ih
    unfold uN
    by_cases hv : V i = true
    · rw [if_pos hv]
      obtain ⟨s1, s2⟩ := t_seb _ a1 _ (h6 i hv)
      refine ⟨s1, fun q hq => ?_⟩
      rw [s2 q hq]
      by_cases e : q = dg n i k
      · rw [if_pos e]
        exact ⟨fun _ => ⟨i, by omega, hv, e.symm⟩, fun _ => rfl⟩
      · rw [if_neg e, a2 q hq]
        exact ⟨fun ⟨c, x, y, z⟩ => ⟨c, by omega, y, z⟩, fun ⟨c, x, y, z⟩ => ⟨c, by
          by_cases ec : c = i
          · rw [ec] at z; exact absurd z.symm e
          · omega, y, z⟩⟩
    · rw [if_neg hv]
      refine ⟨a1, fun q hq => ?_⟩
      rw [a2 q hq]
      exact ⟨fun ⟨c, x, y, z⟩ => ⟨c, by omega, y, z⟩, fun ⟨c, x, y, z⟩ => ⟨c, by
        by_cases ec : c = i
        · rw [ec] at y; exact absurd y hv
        · omega, y, z⟩⟩
theorem nam_lp {M : St} {r : NS} (hw : WF r) (hm : MR M r) {k N : Nat} (hk : k < r.1 0) (hN : N < 2 ^ 30) {V : Nat → Bool} (hV : ∀ c, V c = true ↔ Vr r c) (h6v : ∀ c, V c = true → dg (r.1 0) c k < 6) {kx : Int32 → St → Prop} (hK : ∀ S', Keep M S' → kx (nI (uN V (r.1 0) k N)) S') : ∀ m i S, i + m = N → Keep M S → wl_X7_names_29 (nI k) (nI N) kx (m + 1) (nI (uN V (r.1 0) k i)) (nI i) S := by
  have h6 := hw.2.1
  intro m
  induction m with
  | zero =>
    intro i S hi hS
    unfold wl_X7_names_29
    rw [show i = N by omega, if_pos (Int32.le_refl _)]
    exact hK S hS
  | succ m ih =>
    intro i S hi hS
    obtain ⟨u1, -⟩ := uN_t h6v i
    have g := fun S' kS => ih (i + 1) S' (by omega) kS
    unfold uN at g
    unfold wl_X7_names_29
    rw [if_neg (nI_ge (show i < N by omega) (by omega)), nI_1]
    refine isRowM hw hm (by omega) hS (fun hv S' kS hr => ?_) (fun hv S' kS => ?_)
    · have hv' := (hV i).2 hv
      rw [if_pos hv'] at g
      rw [if_neg (by decide), clamp_nI (by omega), hr k hk, t_or _ u1 _ (h6v i hv')]
      exact ⟨vp6 (by omega), g S' kS⟩
    · have hv' : ¬ V i = true := fun y => hv ((hV i).1 y)
      rw [if_neg hv'] at g
      rw [if_pos rfl, t_or0 _ u1]
      exact g S' kS
def nvN (r : NS) (wt : Nat → Nat) (nf k q : Nat) : Nat := if dA r q = true ∧ sutB wt q (cgB r k) = true then (if nf = 0 then wyN (cN (nup (dD r) k 0) (cgB r) true (r.1 0) 0) (cN (nup (dD r) k 0) (cgB r) false (r.1 0) 0) (oN (mns (dA r) q) wt 1) (oN (mns (dA r) q) wt 2) else 0) else 0
theorem cN_v {D : Nat → Nat} {cg : Nat → Bool} {k a b : Nat} (ha : a ≠ 7) (hb : b ≠ 7) (c : Bool) : ∀ m j, cN (nup D k a) cg c m j = cN (nup D k b) cg c m j := by
  intro m
  induction m with
  | zero => exact fun _ => rfl
  | succ m ih =>
    intro j
    show (if nup D k a j = 7 ∧ cg j = c then 1 else 0) + cN (nup D k a) cg c m (j + 1) = (if nup D k b j = 7 ∧ cg j = c then 1 else 0) + cN (nup D k b) cg c m (j + 1)
    rw [ih (j + 1)]
    unfold nup
    by_cases e : j = k
    · rw [if_pos e, if_pos e, if_neg (fun y => ha y.1), if_neg (fun y => hb y.1)]
    · rw [if_neg e, if_neg e]
theorem nv_pos {r : NS} (hw : WF r) {wt : Nat → Nat} {nf k q : Nat} (hw2 : ∀ q, wt q ≤ 2) (hk : k < r.1 0) (ha : alB r k = true) (hq : q < 6) : 0 < nvN r wt nf k q ↔ ∃ c, c < 7 ^ r.1 0 ∧ Vb r wt nf c = true ∧ dg (r.1 0) c k = q := by
  have h6 := hw.2.1
  have d7 := dD_7.2 ha
  unfold nvN
  by_cases s : dA r q = true ∧ sutB wt q (cgB r k) = true
  · rw [if_pos s]
    by_cases n0 : nf = 0
    · subst n0
      rw [if_pos rfl, Vb_0]
      have cr := crd_m s.1 hq
      have c0 := crd_c hw
      have c1 := cN_u (D := dD r) (cg := cgB r) (v := q) (by omega) d7 true (r.1 0) 0
      have c2 := cN_u (D := dD r) (cg := cgB r) (v := q) (by omega) d7 false (r.1 0) 0
      have cs : crd (mns (dA r) q) = cN (nup (dD r) k q) (cgB r) true (r.1 0) 0 + cN (nup (dD r) k q) (cgB r) false (r.1 0) 0 := by
        cases hb : cgB r k with
        | true =>
          rw [hb, if_pos ⟨by omega, by omega, rfl⟩] at c1
          rw [hb, if_neg (fun y => absurd y.2.2 (by decide))] at c2
          omega
        | false =>
          rw [hb, if_neg (fun y => absurd y.2.2 (by decide))] at c1
          rw [hb, if_pos ⟨by omega, by omega, rfl⟩] at c2
          omega
      rw [cN_v (a := 0) (b := q) (by omega) (by omega), cN_v (a := 0) (b := q) (by omega) (by omega), ← cnt_W hw2 (r.1 0) 0 (mns (dA r) q) h6 cs, ← all_cnt (D := nup (dD r) k q) (fun i _ => by
        unfold nup
        split
        · omega
        · exact dD_l i) (fun i hi => dA_6 i (mns_t.1 hi).1), sm_pos]
      constructor
      · intro ⟨c, a, b⟩
        have := (gd_fix hk d7 hq s.1 s.2).1 (vI_t.1 b)
        exact ⟨c, a, this.1, this.2⟩
      · intro ⟨c, a, b, e⟩
        exact ⟨c, a, vI_t.2 ((gd_fix hk d7 hq s.1 s.2).2 ⟨b, e⟩)⟩
    · rw [if_neg n0]
      refine ⟨fun y => absurd y (by omega), fun ⟨c, _, b, _⟩ => ?_⟩
      unfold Vb at b
      rw [decide_eq_false n0, Bool.false_and] at b
      exact absurd b (by decide)
  · rw [if_neg s]
    refine ⟨fun y => absurd y (by omega), fun ⟨c, _, b, e⟩ => ?_⟩
    unfold Vb at b
    rw [Bool.and_eq_true, gd_t] at b
    have t := ((b.2 k hk).1 d7)
    rw [e] at t
    exact absurd ⟨t.1, t.2.1⟩ s
theorem wy_b : ∀ C, C < 7 → ∀ Q, Q < 7 → ∀ a, a < 7 → ∀ b, b < 7 → C + Q ≤ 6 → wyN C Q a b < 2 ^ 30 := by decide +kernel
theorem namesX {r : NS} (hw : WF r) {wt : Nat → Nat} {nf k : Nat} (hw2 : ∀ q, wt q ≤ 2) (hn : nf < 2) (hk : k < r.1 0) (ha : alB r k = true) {K : Int32 → St → Prop} (hK : ∀ Z, K (nI (msk (fun q => decide (0 < nvN r wt nf k q)) (r.1 0))) Z) {Z : St} (hz : DXS Z (cN (dD r) (cgB r) true (r.1 0) 0) (cN (dD r) (cgB r) false (r.1 0) 0) (dA r) wt nf) : wp_X0_namesFor Z (NI r) (nI k) K := by
  have h6 := hw.2.1
  have d7 := dD_7.2 ha
  have w11 := (hw.2.2.2.2.2.2.2.1 k hk).2.2.2.1
  have c1 := cN_u (D := dD r) (cg := cgB r) (v := 0) (by omega) d7 true (r.1 0) 0
  have c2 := cN_u (D := dD r) (cg := cgB r) (v := 0) (by omega) d7 false (r.1 0) 0
  have l := cN_le (dD r) (cgB r) (r.1 0) 0
  have l' := cN_le (nup (dD r) k 0) (cgB r) (r.1 0) 0
  have e1 : cN (dD r) (cgB r) true (r.1 0) 0 = if cgB r k = true then cN (nup (dD r) k 0) (cgB r) true (r.1 0) 0 + 1 else cN (nup (dD r) k 0) (cgB r) true (r.1 0) 0 := by
    rw [c1]
    by_cases y : cgB r k = true
    · rw [if_pos y, if_pos ⟨by omega, by omega, y⟩]
    · rw [if_neg y, if_neg (fun z => y z.2.2), Nat.add_zero]
  have e2 : cN (dD r) (cgB r) false (r.1 0) 0 = if cgB r k = true then cN (nup (dD r) k 0) (cgB r) false (r.1 0) 0 else cN (nup (dD r) k 0) (cgB r) false (r.1 0) 0 + 1 := by
    rw [c2]
    by_cases y : cgB r k = true
    · rw [if_pos y, if_neg (fun z => by rw [y] at z; exact absurd z.2.2 (by decide)), Nat.add_zero]
    · rw [if_neg y, if_pos ⟨by omega, by omega, by cases h : cgB r k with
        | false => rfl
        | true => exact absurd h y⟩]
  have ww := fun (q : Nat) (hq : q < 6) (Z : St) (hz : DXS Z (cN (dD r) (cgB r) true (r.1 0) 0) (cN (dD r) (cgB r) false (r.1 0) 0) (dA r) wt nf) (K : Int32 → St → Prop) (hK : ∀ Z', DXS Z' (cN (dD r) (cgB r) true (r.1 0) 0) (cN (dD r) (cgB r) false (r.1 0) 0) (dA r) wt nf → K (nI (nvN r wt nf k q)) Z') => wwX hz (crd_c hw) (by omega) hw2 hn hq (c := cgB r k) e1 e2 (K := K) hK
  have nb : ∀ q, nvN r wt nf k q < 2 ^ 30 := by
    intro q
    have al := oN_all (O := mns (dA r) q) hw2
    have c6 := crd_6 (mns (dA r) q)
    unfold nvN
    split
    · split
      · exact wy_b _ (by omega) _ (by omega) _ (by omega) _ (by omega) (by omega)
      · decide
    · decide
  have lp : ∀ m i (Z : St), i + m = r.1 0 → DXS Z (cN (dD r) (cgB r) true (r.1 0) 0) (cN (dD r) (cgB r) false (r.1 0) 0) (dA r) wt nf → wl_X0_namesFor_5 (NI r) (nI k) K (m + 1) (nI (msk (fun q => decide (0 < nvN r wt nf k q)) i)) (nI i) Z := by
    intro m
    induction m with
    | zero =>
      intro i Z hi hz
      unfold wl_X0_namesFor_5
      rw [NI_1, show i = r.1 0 by omega, if_pos (Int32.le_refl _)]
      exact hK Z
    | succ m ih =>
      intro i Z hi hz
      have b := nb i
      have both : ∀ (Z' : St), DXS Z' (cN (dD r) (cgB r) true (r.1 0) 0) (cN (dD r) (cgB r) false (r.1 0) 0) (dA r) wt nf → (if nI (nvN r wt nf k i) ≤ 0 then (wl_X0_namesFor_5 (NI r) (nI k) K (m + 1) (nI (msk (fun q => decide (0 < nvN r wt nf k q)) i)) (nI (i + 1)) Z') else (wl_X0_namesFor_5 (NI r) (nI k) K (m + 1) (nI (msk (fun q => decide (0 < nvN r wt nf k q)) i) ||| ((1 : Int32) <<< (nI i &&& 31))) (nI (i + 1)) Z')) := by
        intro Z' hz'
        have g := ih (i + 1) Z' (by omega) hz'
        by_cases p : 0 < nvN r wt nf k i
        · rw [if_neg (by rw [← nI_0]; exact nI_ge p (by omega)), msk_or (by omega) (decide_eq_true p)]
          exact g
        · rw [if_pos (by rw [← nI_0]; exact nI_le (by omega) (by omega)), msk_no (fun y => p (of_decide_eq_true y))]
          exact g
      unfold wl_X0_namesFor_5
      rw [NI_1, if_neg (nI_ge (show i < r.1 0 by omega) (by omega)), getR _ _ (show k < 6 by omega) (by omega), nI_1]
      by_cases e : r.2 11 k = 1
      · rw [if_pos (by rw [e, i1])]
        have t := ww i (by omega) Z hz (fun (v : Int32) (Z' : St) => (if v ≤ 0 then (wl_X0_namesFor_5 (NI r) (nI k) K (m + 1) (nI (msk (fun q => decide (0 < nvN r wt nf k q)) i)) (nI (i + 1)) Z') else (wl_X0_namesFor_5 (NI r) (nI k) K (m + 1) (nI (msk (fun q => decide (0 < nvN r wt nf k q)) i) ||| ((1 : Int32) <<< (nI i &&& 31))) (nI (i + 1)) Z'))) both
        rw [show cI (cgB r k) = 1 by rw [cgB_t.2 e]; rfl] at t
        exact t
      · have hf : cgB r k = false := by
          cases hb : cgB r k with
          | false => rfl
          | true => exact absurd (cgB_t.1 hb) e
        rw [if_neg (by rw [i1, nI_eq (by omega) (by omega)]; exact e)]
        have t := ww i (by omega) Z hz (fun (v : Int32) (Z' : St) => (if v ≤ 0 then (wl_X0_namesFor_5 (NI r) (nI k) K (m + 1) (nI (msk (fun q => decide (0 < nvN r wt nf k q)) i)) (nI (i + 1)) Z') else (wl_X0_namesFor_5 (NI r) (nI k) K (m + 1) (nI (msk (fun q => decide (0 < nvN r wt nf k q)) i) ||| ((1 : Int32) <<< (nI i &&& 31))) (nI (i + 1)) Z'))) both
        rw [show cI (cgB r k) = 0 by rw [hf]; rfl] at t
        exact t
  have key := lp (r.1 0) 0 Z (by omega) hz
  rw [nI_0, show msk (fun q => decide (0 < nvN r wt nf k q)) 0 = 0 from rfl, nI_0] at key
  exact ⟨_, key⟩
theorem sim_names : Sim_names Inv := by
  intro X0 X1 X2 X3 X4 X5 X6 X7 X8 M a0 hI
  obtain ⟨⟨r, h0, hw, hm⟩, -⟩ := id hI
  subst h0
  have h6 := hw.2.1
  have b7 := p7 h6
  obtain ⟨ho, hc⟩ := has_one hw hm a0
  unfold wp_X6_names
  rw [ho]
  rcases hc with hc | ⟨k, hk, ek, hc⟩
  · rw [if_pos hc]
    unfold wp_X7_names
    dsimp only
    rw [if_pos hc]
    exact ⟨rfl, hI⟩
  · subst ek
    obtain ⟨a1, -⟩ := hm.2.2.2.2.2.2.1 k hk
    obtain ⟨l1, l2⟩ := land_al hw (k := k)
    have hne : ¬ F_X7_isOne M (nI k) = 0 := by rw [hc]; decide
    rw [if_neg hne]
    by_cases ha : alB r k = true
    · rw [if_neg (fun y => (al_f hw hk).1 y ha)]
      refine prepX hw (fun Z wt nf hs hn hz => ?_)
      have hw2 : ∀ q, wt q ≤ 2 := fun q => (hs.2.2 q).1
      have hV := Vb_t hw hs
      have v6 : ∀ c, Vb r wt nf c = true → dA r (dg (r.1 0) c k) = true := by
        intro c y
        unfold Vb at y
        rw [Bool.and_eq_true, gd_t] at y
        exact ((y.2 k hk).1 (dD_7.2 ha)).1
      have h6v : ∀ c, Vb r wt nf c = true → dg (r.1 0) c k < 6 := fun c y => dA_6 _ (v6 c y)
      have eq : uN (Vb r wt nf) (r.1 0) k (7 ^ r.1 0) = msk (fun q => decide (0 < nvN r wt nf k q)) (r.1 0) := by
        obtain ⟨u1, u2⟩ := uN_t h6v (7 ^ r.1 0)
        refine bit_ext u1 (msk_64 _ h6) (fun q hq => ?_)
        rw [u2 q hq, ← nv_pos hw hw2 hk ha hq]
        by_cases l : q < r.1 0
        · rw [msk_bit _ h6 q l, decide_eq_true_eq]
        · have ml := msk_lt (fun q => decide (0 < nvN r wt nf k q)) (r.1 0)
          have pw := Nat.pow_le_pow_right (show 2 > 0 by omega) (show r.1 0 ≤ q by omega)
          rw [Nat.div_eq_of_lt (by omega)]
          refine ⟨fun y => ?_, fun y => absurd y (by decide)⟩
          obtain ⟨c, _, b, e⟩ := (nv_pos hw hw2 hk ha hq).1 y
          have := dA_n hw (v6 c b)
          omega
      refine namesX hw hw2 hn hk ha (fun Z' => ?_) hz
      unfold wp_X7_names
      dsimp only
      rw [if_neg hne, clamp_nI (by omega), a1]
      refine ⟨vp6 (by omega), ?_⟩
      rw [if_pos (l1 ha).2]
      refine codesM hw hm ?_
      have key := nam_lp hw hm (N := 7 ^ r.1 0) hk (by omega) hV h6v (kx := fun (q : Int32) (N : St) => nI (msk (fun q => decide (0 < nvN r wt nf k q)) (r.1 0)) = q ∧ Inv (NI r) X1 X2 X3 X4 X5 X6 Z' X8 N) (fun S' kS => ⟨by rw [eq], Inv_keep hI kS X1 X6 Z' X8⟩) (7 ^ r.1 0) 0 M (by omega) (Keep.refl M)
      rw [show uN (Vb r wt nf) (r.1 0) k 0 = 0 from rfl, nI_0] at key
      exact ⟨_, key⟩
    · rw [if_pos ((al_f hw hk).2 ha)]
      unfold wp_X7_names
      dsimp only
      rw [if_neg hne, clamp_nI (by omega), a1]
      refine ⟨vp6 (by omega), ?_⟩
      rw [if_neg (l2 ha).2]
      exact ⟨rfl, hI⟩
