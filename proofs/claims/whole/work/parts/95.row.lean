-- changed
theorem sm_tail {g : Nat → Nat} {n : Nat} (h : ∀ i, n ≤ i → g i = 0) : ∀ d, sm g (n + d) = sm g n := by
  intro d
  induction d with
  | zero => rfl
  | succ d ih =>
    show sm g (n + d) + g (n + d) = _
    rw [ih, h _ (by omega), Nat.add_zero]
theorem sm_vl (V : Nat → Bool) : ∀ c, sm (vI V) c ≤ c := by
  intro c
  induction c with
  | zero => exact Nat.le_refl _
  | succ c ih =>
    show sm (vI V) c + vI V c ≤ c + 1
    have : vI V c ≤ 1 := by unfold vI; split <;> omega
    omega
theorem sm_lt {V : Nat → Bool} {c N : Nat} (hV : V c = true) (h : c < N) : sm (vI V) c < sm (vI V) N := by
  have h1 := sm_le (g := vI V) N (c + 1) (by omega)
  have h2 : sm (vI V) (c + 1) = sm (vI V) c + vI V c := rfl
  have h3 := vI_t.2 hV
  omega
theorem p7 {n : Nat} (h : n ≤ 6) : 7 ^ n ≤ 117649 := Nat.pow_le_pow_right (n := 7) (by omega) h
def dcF (rho : Nat → Nat) : Nat → Nat
  | 0 => 0
  | k + 1 => 10 * dcF rho k + rho k
def dcP : Nat → Nat → Nat
  | 0, _ => 0
  | j + 1, p => 10 * dcP j (p / 7) + p % 7
theorem dcF_congr {f g : Nat → Nat} : ∀ k, (∀ i, i < k → f i = g i) → dcF f k = dcF g k := by
  intro k
  induction k with
  | zero => exact fun _ => rfl
  | succ k ih =>
    intro h
    show 10 * dcF f k + f k = 10 * dcF g k + g k
    rw [ih (fun i hi => h i (by omega)), h k (by omega)]
theorem dcF_P : ∀ j p, dcF (dg j p) j = dcP j p := by
  intro j
  induction j with
  | zero => exact fun _ => rfl
  | succ j ih =>
    intro p
    show 10 * dcF (dg (j + 1) p) j + dg (j + 1) p j = 10 * dcP j (p / 7) + p % 7
    rw [← ih, dcF_congr (g := dg j (p / 7)) j (fun i hi => by
      show (if i = j then _ else _) = _
      rw [if_neg (by omega)]), show dg (j + 1) p j = p % 7 by
      show (if j = j then _ else _) = _
      rw [if_pos rfl]]
theorem toldM {S : St} {r : NS} (hw : WF r) (hm : MR S r) {rho : Nat → Nat} (hr : ∀ k, k < r.1 0 → S.2 23 k = nI (rho k)) {K : Int32 → Prop} (hK : K (nI (dcF rho (r.1 0)))) : ∀ m i, i + m = r.1 0 → wl_X7_changed_36 S K (m + 1) (nI (dcF rho i)) (nI i) := by
  have h6 := hw.2.1
  intro m
  induction m with
  | zero =>
    intro i hi
    unfold wl_X7_changed_36
    rw [hm.1, show i = r.1 0 by omega, if_pos (Int32.le_refl _)]
    exact hK
  | succ m ih =>
    intro i hi
    unfold wl_X7_changed_36
    rw [hm.1, if_neg (nI_ge (show i < r.1 0 by omega) (by omega)), clamp_nI (by omega), hr i (by omega), show (10 : Int32) = nI 10 by decide, pk_mul, nI_add, nI_1]
    exact ⟨vp6 (by omega), ih (i + 1) (by omega)⟩
theorem chg_lp {M : St} {r : NS} (hw : WF r) (hm : MR M r) {x : Int32} {N : Nat} (hN : N < 2 ^ 30) {V : Nat → Bool} (hV : ∀ c, V c = true ↔ Vr r c) {kx k : Int32 → St → Prop} (hF : ∀ c S', c < N → V c = true → nI (sm (vI V) c) = x → Keep M S' → k (nI (dcP (r.1 0) c)) S') (hE : (∀ c, c < N → V c = true → nI (sm (vI V) c) ≠ x) → ∀ S', Keep M S' → kx (nI (sm (vI V) N)) S') : ∀ m i S, i + m = N → Keep M S → (∀ c, c < i → V c = true → nI (sm (vI V) c) ≠ x) → wl_X7_changed_10 x (nI N) kx k (m + 1) (nI (sm (vI V) i)) (nI i) S := by
  intro m
  induction m with
  | zero =>
    intro i S hi hS hn
    unfold wl_X7_changed_10
    rw [show i = N by omega, if_pos (Int32.le_refl _)]
    rw [show i = N by omega] at hn
    exact hE hn S hS
  | succ m ih =>
    intro i S hi hS hn
    have s1 : sm (vI V) (i + 1) = sm (vI V) i + vI V i := rfl
    unfold wl_X7_changed_10
    rw [if_neg (nI_ge (show i < N by omega) (by omega)), nI_1, nI_1]
    refine isRowM hw hm (by omega) hS (fun hv S' kS hr => ?_) (fun hv S' kS => ?_)
    · have hv' := (hV i).2 hv
      rw [if_neg (by decide)]
      by_cases e : nI (sm (vI V) i) = x
      · rw [if_pos e]
        have t := toldM hw (MRk hm kS) hr (K := fun v => k v S') (by rw [dcF_P]; exact hF i S' (by omega) hv' e kS) (r.1 0) 0 (by omega)
        rw [nI_0, show dcF (dg (r.1 0) i) 0 = 0 from rfl, nI_0] at t
        exact ⟨_, t⟩
      · rw [if_neg e]
        have g := ih (i + 1) S' (by omega) kS (fun c hc hvc => by
          by_cases ec : c = i
          · rw [ec]; exact e
          · exact hn c (by omega) hvc)
        rw [s1, show vI V i = 1 by unfold vI; rw [if_pos hv']] at g
        exact g
    · have hv' : ¬ V i = true := fun y => hv ((hV i).1 y)
      rw [if_pos rfl]
      have g := ih (i + 1) S' (by omega) kS (fun c hc hvc => by
        by_cases ec : c = i
        · rw [ec] at hvc; exact absurd hvc hv'
        · exact hn c (by omega) hvc)
      rw [s1, show vI V i = 0 by unfold vI; rw [if_neg hv'], Nat.add_zero] at g
      exact g
-- the Java's row
theorem dA_n {r : NS} (hw : WF r) {q : Nat} (h : dA r q = true) : q < r.1 0 := by
  obtain ⟨q6, hb⟩ := bts_t.1 h
  obtain ⟨l1, l2⟩ := livN_ok hw (r.1 0) (Nat.le_refl _)
  obtain ⟨i, a, b, c⟩ := (l2 q q6).1 hb
  have := (hw.2.2.2.2.2.2.2.1 i a).2.1
  omega
theorem cN_s {D : Nat → Nat} {cg : Nat → Bool} {m j : Nat} (d : D j = 7) : cN D cg true (m + 1) j = (if cg j = true then cN D cg true m (j + 1) + 1 else cN D cg true m (j + 1)) ∧ cN D cg false (m + 1) j = (if cg j = true then cN D cg false m (j + 1) else cN D cg false m (j + 1) + 1) := by
  constructor
  · show (if D j = 7 ∧ cg j = true then 1 else 0) + _ = _
    by_cases e : cg j = true
    · rw [if_pos ⟨d, e⟩, if_pos e, Nat.add_comm]
    · rw [if_neg (fun y => e y.2), if_neg e, Nat.zero_add]
  · show (if D j = 7 ∧ cg j = false then 1 else 0) + _ = _
    by_cases e : cg j = true
    · rw [if_neg (fun y => by rw [e] at y; exact absurd y.2 (by decide)), if_pos e, Nat.zero_add]
    · rw [if_pos ⟨d, by cases h : cg j with
        | false => rfl
        | true => exact absurd h e⟩, if_neg e, Nat.add_comm]
theorem wwC {D : Nat → Nat} {cg : Nat → Bool} {wt : Nat → Nat} {nf : Nat} {Z : St} {m j : Nat} {O : Nat → Bool} (h : DXS Z (cN D cg true (m + 1) j) (cN D cg false (m + 1) j) O wt nf) (d : D j = 7) (hc : crd O = cN D cg true (m + 1) j + cN D cg false (m + 1) j) (hm : m + 1 ≤ 6) (hw2 : ∀ q, wt q ≤ 2) (hn : nf < 2) {q : Nat} (hq : q < 6) {K : Int32 → St → Prop} (hK : ∀ Z', DXS Z' (cN D cg true (m + 1) j) (cN D cg false (m + 1) j) O wt nf → K (nI (if O q = true ∧ sutB wt q (cg j) = true then (if nf = 0 then cntA D cg wt m (j + 1) (mns O q) else 0) else 0)) Z') : wp_X0_waysWith Z (nI q) (cI (cg j)) K := by
  obtain ⟨e1, e2⟩ := cN_s (cg := cg) (m := m) d
  have l := cN_le D cg (m + 1) j
  refine wwX h hc (by omega) hw2 hn hq (c := cg j) e1 e2 (fun Z' hz => ?_)
  have k := hK Z' hz
  by_cases s : O q = true ∧ sutB wt q (cg j) = true
  · rw [if_pos s] at k ⊢
    have cr := crd_m s.1 hq
    have sum : cN D cg true (m + 1) j + cN D cg false (m + 1) j = cN D cg true m (j + 1) + cN D cg false m (j + 1) + 1 := by
      rw [e1, e2]
      by_cases y : cg j = true
      · rw [if_pos y, if_pos y]; omega
      · rw [if_neg y, if_neg y]; omega
    rw [cnt_W hw2 m (j + 1) (mns O q) (by omega) (by omega)] at k
    exact k
  · rw [if_neg s] at k ⊢
    exact k
theorem gdc_T {D : Nat → Nat} {cg : Nat → Bool} {wt : Nat → Nat} {O0 : Nat → Bool} {n : Nat} (hD : ∀ k, k < n → D k ≤ 7) (h6 : ∀ q, O0 q = true → q < 6) {m j p : Nat} (hj : j + (m + 1) = n) (hg : gd D cg wt O0 j p = true) (d7 : D j = 7) {d : Nat} (hd : d < 7) : cc (gd D cg wt O0 n) m (7 * p + d) = if opn D O0 j p d = true ∧ sutB wt d (cg j) = true then cntA D cg wt m (j + 1) (mns (opn D O0 j p) d) else 0 := by
  rw [cc_cnt hD h6 m (j + 1) _ (by omega), gd_s hd, hg, Bool.true_and, opn_s hd, if_pos d7]
  unfold okD
  rw [if_pos d7]
  by_cases o : opn D O0 j p d = true ∧ sutB wt d (cg j) = true
  · rw [if_pos o, if_pos (by rw [Bool.and_eq_true]; exact o)]
  · rw [if_neg o, if_neg (by rw [Bool.and_eq_true]; exact o)]
theorem dD_l {r : NS} (k : Nat) : dD r k ≤ 7 := by
  unfold dD
  split <;> omega
theorem dcP_s {j p d : Nat} (h : d < 7) : dcP (j + 1) (7 * p + d) = 10 * dcP j p + d := by
  show 10 * dcP j ((7 * p + d) / 7) + (7 * p + d) % 7 = _
  rw [div7 h, mod7 h]
/-- the name of one child -/
theorem nameX {r : NS} {n : Nat} (hn6 : n ≤ 6) (hn : r.1 0 = n) {D : Nat → Nat} {cg : Nat → Bool} {wt : Nat → Nat} {m j : Nat} {O : Nat → Bool} (d7 : D j = 7) (hm : m + 1 ≤ 6) (hw2 : ∀ q, wt q ≤ 2) (hc : crd O = cN D cg true (m + 1) j + cN D cg false (m + 1) j) (hO : ∀ q, O q = true → q < n) {h0 : Nat} (hh : h0 < cntA D cg wt (m + 1) j O) (hb : h0 < 2 ^ 30) {T : Nat → Nat} (hT : ∀ d, T d = if O d = true ∧ sutB wt d (cg j) = true then cntA D cg wt m (j + 1) (mns O d) else 0) (hTb : ∀ d, T d < 2 ^ 30) {x : Int32} (hx : x = cI (cg j)) {kx : Int32 → Int32 → St → Prop} (hK : ∀ d g Z, d < n → O d = true → sutB wt d (cg j) = true → g + sm T d = h0 → g < cntA D cg wt m (j + 1) (mns O d) → DXS Z (cN D cg true (m + 1) j) (cN D cg false (m + 1) j) O wt 0 → kx (nI g) (nI d) Z) : ∀ e d g Z, d + e = n → g + sm T d = h0 → DXS Z (cN D cg true (m + 1) j) (cN D cg false (m + 1) j) O wt 0 → wl_X0_rowAt_53 (NI r) x kx (e + 1) (nI g) (nI d) Z := by
  have tot : cntA D cg wt (m + 1) j O = sm T 6 := by
    unfold cntA
    rw [if_pos d7]
    exact sm_congr 6 (fun d _ => (hT d).symm)
  have tail : sm T 6 = sm T n := by
    have := sm_tail (g := T) (n := n) (fun i hi => by
      rw [hT, if_neg]
      intro y
      have := hO i y.1
      omega) (6 - n)
    rw [show n + (6 - n) = 6 by omega] at this
    exact this
  subst hx
  intro e
  induction e with
  | zero =>
    intro d g Z hd hg hz
    rw [show d = n by omega] at hg
    omega
  | succ e ih =>
    intro d g Z hd hg hz
    have gT : (if O d = true ∧ sutB wt d (cg j) = true then (if (0 : Nat) = 0 then cntA D cg wt m (j + 1) (mns O d) else 0) else 0) = T d := by
      rw [if_pos rfl]
      exact (hT d).symm
    unfold wl_X0_rowAt_53
    rw [NI_1, hn, if_neg (nI_ge (show d < n by omega) (by omega)), nI_1]
    refine wwC hz d7 hc hm hw2 (by omega) (show d < 6 by omega) (fun Z1 h1 => ?_)
    rw [gT]
    have bT := hTb d
    by_cases l : g < T d
    · rw [if_pos (nI_lt l (by omega))]
      have t := hT d
      by_cases s : O d = true ∧ sutB wt d (cg j) = true
      · rw [if_pos s] at t
        exact hK d g Z1 (by omega) s.1 s.2 hg (by omega) h1
      · rw [if_neg s] at t
        omega
    · rw [if_neg (nI_nlt (by omega) (by omega))]
      refine wwC h1 d7 hc hm hw2 (by omega) (show d < 6 by omega) (fun Z2 h2 => ?_)
      rw [gT, pk_sub (show T d ≤ g by omega)]
      refine ih (d + 1) (g - T d) Z2 (by omega) ?_ h2
      show g - T d + (sm T d + T d) = h0
      omega
theorem cnt_b {D : Nat → Nat} {cg : Nat → Bool} {wt : Nat → Nat} : ∀ m j (O : Nat → Bool), cntA D cg wt m j O ≤ 6 ^ m := by
  intro m
  induction m with
  | zero => exact fun _ _ => Nat.le_refl _
  | succ m ih =>
    intro j O
    unfold cntA
    have p : 6 ^ (m + 1) = 6 ^ m * 6 := Nat.pow_succ 6 m
    split
    · have t : ∀ (g : Nat → Nat) (B : Nat), (∀ i, g i ≤ B) → ∀ k, sm g k ≤ k * B := by
        intro g B h k
        induction k with
        | zero => show 0 ≤ 0 * B; omega
        | succ k ihk =>
          show sm g k + g k ≤ (k + 1) * B
          rw [Nat.add_mul, Nat.one_mul]
          have := h k
          omega
      have := t (fun q => if O q = true ∧ sutB wt q (cg j) = true then cntA D cg wt m (j + 1) (mns O q) else 0) (6 ^ m) (fun i => by
        split
        · exact ih _ _
        · exact Nat.zero_le _) 6
      omega
    · have := ih (j + 1) O
      omega
theorem p6 {m : Nat} (h : m ≤ 6) : 6 ^ m ≤ 46656 := Nat.pow_le_pow_right (n := 6) (by omega) h
theorem rowX {r : NS} (hw : WF r) {wt : Nat → Nat} (hw2 : ∀ q, wt q ≤ 2) {i0 : Nat} {K : Int32 → St → Prop} (hK : ∀ c Z', c < 7 ^ r.1 0 → gd (dD r) (cgB r) wt (dA r) (r.1 0) c = true → sm (vI (gd (dD r) (cgB r) wt (dA r) (r.1 0))) c = i0 → K (nI (dcP (r.1 0) c)) Z') : ∀ m j p h Z, j + m = r.1 0 → p < 7 ^ j → gd (dD r) (cgB r) wt (dA r) j p = true → sm (vI (gd (dD r) (cgB r) wt (dA r) (r.1 0))) (p * 7 ^ m) + h = i0 → h < cntA (dD r) (cgB r) wt m j (opn (dD r) (dA r) j p) → DXS Z (cN (dD r) (cgB r) true m j) (cN (dD r) (cgB r) false m j) (opn (dD r) (dA r) j p) wt 0 → wl_X0_rowAt_8 (NI r) K (m + 1) (nI (dcP j p)) (nI h) (nI j) Z := by
  have h6 := hw.2.1
  have e10 : (10 : Int32) = nI 10 := by decide
  intro m
  induction m with
  | zero =>
    intro j p h Z hj hp hg hs hh hz
    have hh : h < 1 := hh
    have ej : j = r.1 0 := by omega
    unfold wl_X0_rowAt_8
    rw [NI_1, if_pos (nI_le (by omega) (by omega))]
    rw [show h = 0 by omega, Nat.pow_zero, Nat.mul_one, Nat.add_zero] at hs
    rw [ej] at hp hg ⊢
    exact hK p Z hp hg hs
  | succ m ih =>
    intro j p h Z hj hp hg hs hh hz
    have w11 := (hw.2.2.2.2.2.2.2.1 j (by omega)).2.2.2.1
    have oc := opn_crd (dA_6 (r := r)) j p hg
    have ac := cN_ac (dD r) (cgB r) (m + 1) j
    rw [hj] at ac
    have hc : crd (opn (dD r) (dA r) j p) = cN (dD r) (cgB r) true (m + 1) j + cN (dD r) (cgB r) false (m + 1) j := by
      have := crd_dA hw
      omega
    have hcb := cnt_b (D := dD r) (cg := cgB r) (wt := wt) (m + 1) j (opn (dD r) (dA r) j p)
    have h66 := p6 (m := m + 1) (by omega)
    have pos := fun d => cc_d (V := gd (dD r) (cgB r) wt (dA r) (r.1 0)) (cc_N _ m) p d
    have plt : ∀ d, d < 7 → 7 * p + d < 7 ^ (j + 1) := fun d hd => by
      rw [Nat.pow_succ]
      omega
    unfold wl_X0_rowAt_8
    rw [NI_1, if_neg (nI_ge (show j < r.1 0 by omega) (by omega)), nI_1]
    by_cases ha : alB r j = true
    · have d7 := dD_7.2 ha
      rw [if_neg (fun y => (al_f hw (by omega)).1 y ha), getR _ _ (show j < 6 by omega) (by omega)]
      obtain ⟨e1, e2⟩ := cN_s (cg := cgB r) (m := m) d7
      have nm := fun (x : Int32) (hx : x = cI (cgB r j)) => nameX (r := r) h6 rfl (D := dD r) (cg := cgB r) (wt := wt) (m := m) (j := j) (O := opn (dD r) (dA r) j p) d7 (by omega) hw2 hc (fun q hq => opn_lt (fun q h => dA_n hw h) j p q hq) hh (by omega) (T := fun d => if opn (dD r) (dA r) j p d = true ∧ sutB wt d (cgB r j) = true then cntA (dD r) (cgB r) wt m (j + 1) (mns (opn (dD r) (dA r) j p) d) else 0) (fun d => rfl) (fun d => by
        have b := cnt_b (D := dD r) (cg := cgB r) (wt := wt) m (j + 1) (mns (opn (dD r) (dA r) j p) d)
        have b2 := p6 (m := m) (by omega)
        split <;> omega) (x := x) hx (kx := fun (v10 : Int32) (v11 : Int32) (Z12 : St) => (wp_X0_give Z12 v11 x (fun (Z13 : St) => (wl_X0_rowAt_8 (NI r) K (m + 1) (((10 : Int32) * nI (dcP j p)) + v11) v10 (nI (j + 1)) Z13)))) (fun d g Z1 hd ho hsu hgs hgl hz1 => by
        rw [hx]
        refine gvX hz1 hw2 (by omega) ho (c := cgB r j) e1 e2 (fun Z2 hz2 => ?_)
        rw [e10, pk_mul, nI_add, ← dcP_s (show d < 7 by omega)]
        have gd1 : gd (dD r) (cgB r) wt (dA r) (j + 1) (7 * p + d) = true := by
          rw [gd_s (by omega), hg, Bool.true_and]
          unfold okD
          rw [if_pos d7, ho, hsu]
          rfl
        have on1 : opn (dD r) (dA r) (j + 1) (7 * p + d) = mns (opn (dD r) (dA r) j p) d := by
          rw [opn_s (by omega), if_pos d7]
        refine ih (j + 1) (7 * p + d) g Z2 (by omega) (plt d (by omega)) gd1 ?_ (by rw [on1]; exact hgl) (by rw [on1]; exact hz2)
        have sc : sm (fun d => cc (gd (dD r) (cgB r) wt (dA r) (r.1 0)) m (7 * p + d)) d = sm (fun d => if opn (dD r) (dA r) j p d = true ∧ sutB wt d (cgB r j) = true then cntA (dD r) (cgB r) wt m (j + 1) (mns (opn (dD r) (dA r) j p) d) else 0) d := sm_congr d (fun d' hd' => gdc_T (fun k _ => dD_l k) dA_6 hj hg d7 (show d' < 7 by omega))
        rw [pos d, sc]
        omega)
      have run := fun (x : Int32) (hx : x = cI (cgB r j)) => nm x hx (r.1 0) 0 h Z (by omega) (by show h + 0 = h; omega) hz
      rw [nI_0] at run
      by_cases e : r.2 11 j = 1
      · rw [if_pos (by rw [e, i1])]
        exact ⟨_, run 1 (by rw [cgB_t.2 e]; rfl)⟩
      · have hf : cgB r j = false := by
          cases hb : cgB r j with
          | false => rfl
          | true => exact absurd (cgB_t.1 hb) e
        rw [if_neg (by rw [i1, nI_eq (by omega) (by omega)]; exact e)]
        exact ⟨_, run 0 (by rw [hf]; rfl)⟩
    · have d7 : ¬ dD r j = 7 := fun y => ha (dD_7.1 y)
      have d6 := dD_6 d7
      rw [if_pos ((al_f hw (by omega)).2 ha), e10, show (6 : Int32) = nI 6 by decide, pk_mul, nI_add, ← dcP_s (show 6 < 7 by omega)]
      have gd1 : gd (dD r) (cgB r) wt (dA r) (j + 1) (7 * p + 6) = true := by
        rw [gd_s (by omega), hg, Bool.true_and]
        unfold okD
        rw [if_neg d7, d6]
        rfl
      have on1 : opn (dD r) (dA r) (j + 1) (7 * p + 6) = opn (dD r) (dA r) j p := by
        rw [opn_s (by omega), if_neg d7]
      have cn : ∀ c, cN (dD r) (cgB r) c (m + 1) j = cN (dD r) (cgB r) c m (j + 1) := by
        intro c
        show (if dD r j = 7 ∧ cgB r j = c then 1 else 0) + _ = _
        rw [if_neg (fun y => d7 y.1), Nat.zero_add]
      have ct : cntA (dD r) (cgB r) wt (m + 1) j (opn (dD r) (dA r) j p) = cntA (dD r) (cgB r) wt m (j + 1) (opn (dD r) (dA r) j p) := by
        show (if dD r j = 7 then _ else _) = _
        rw [if_neg d7]
      rw [ct] at hh
      rw [cn, cn] at hz
      refine ih (j + 1) (7 * p + 6) h Z (by omega) (plt 6 (by omega)) gd1 ?_ (by rw [on1]; exact hh) (by rw [on1]; exact hz)
      have sc : sm (fun d => cc (gd (dD r) (cgB r) wt (dA r) (r.1 0)) m (7 * p + d)) 6 = 0 := sm_0 6 (fun d' hd' => by
        rw [cc_cnt (D := dD r) (fun k _ => dD_l k) dA_6 m (j + 1) _ (by omega), gd_s (show d' < 7 by omega), hg, Bool.true_and]
        unfold okD
        rw [if_neg d7, d6, decide_eq_false (show ¬ d' = 6 by omega)]
        rfl)
      rw [pos 6, sc]
      omega
