-- deals: counted by codes
def okD (D : Nat → Nat) (cg : Nat → Bool) (wt : Nat → Nat) (O : Nat → Bool) (j d : Nat) : Bool := if D j = 7 then O d && sutB wt d (cg j) else decide (d = D j)
def opn (D : Nat → Nat) (O0 : Nat → Bool) : Nat → Nat → Nat → Bool
  | 0, _ => O0
  | j + 1, p => if D j = 7 then mns (opn D O0 j (p / 7)) (p % 7) else opn D O0 j (p / 7)
def gd (D : Nat → Nat) (cg : Nat → Bool) (wt : Nat → Nat) (O0 : Nat → Bool) : Nat → Nat → Bool
  | 0, _ => true
  | j + 1, p => gd D cg wt O0 j (p / 7) && okD D cg wt (opn D O0 j (p / 7)) j (p % 7)
def cc (V : Nat → Bool) : Nat → Nat → Nat
  | 0, p => if V p = true then 1 else 0
  | m + 1, p => sm (fun d => cc V m (7 * p + d)) 7
def vI (V : Nat → Bool) : Nat → Nat := fun c => if V c = true then 1 else 0
theorem cc_d {V : Nat → Bool} {m : Nat} (ih : ∀ p, sm (vI V) ((p + 1) * 7 ^ m) = sm (vI V) (p * 7 ^ m) + cc V m p) (p : Nat) : ∀ d, sm (vI V) ((7 * p + d) * 7 ^ m) = sm (vI V) (p * 7 ^ (m + 1)) + sm (fun d => cc V m (7 * p + d)) d := by
  intro d
  induction d with
  | zero =>
    show _ = _ + 0
    rw [Nat.add_zero, Nat.add_zero, Nat.pow_succ, Nat.mul_comm 7 p, Nat.mul_assoc, Nat.mul_comm 7 (7 ^ m)]
  | succ d hd =>
    show _ = _ + (sm (fun d => cc V m (7 * p + d)) d + cc V m (7 * p + d))
    rw [← Nat.add_assoc, ih, hd, Nat.add_assoc]
theorem cc_N (V : Nat → Bool) : ∀ m p, sm (vI V) ((p + 1) * 7 ^ m) = sm (vI V) (p * 7 ^ m) + cc V m p := by
  intro m
  induction m with
  | zero =>
    intro p
    rw [Nat.pow_zero, Nat.mul_one, Nat.mul_one]
    rfl
  | succ m ih =>
    intro p
    have h := cc_d ih p 7
    rw [show (p + 1) * 7 ^ (m + 1) = (7 * p + 7) * 7 ^ m by rw [Nat.pow_succ, Nat.mul_comm (7 ^ m) 7, ← Nat.mul_assoc, Nat.add_mul, Nat.mul_comm p 7, Nat.one_mul], h]
    rfl
theorem mod7 {p d : Nat} (h : d < 7) : (7 * p + d) % 7 = d := by omega
theorem div7 {p d : Nat} (h : d < 7) : (7 * p + d) / 7 = p := by omega
theorem gd_s {D : Nat → Nat} {cg : Nat → Bool} {wt : Nat → Nat} {O0 : Nat → Bool} {j p d : Nat} (h : d < 7) : gd D cg wt O0 (j + 1) (7 * p + d) = (gd D cg wt O0 j p && okD D cg wt (opn D O0 j p) j d) := by
  show (gd D cg wt O0 j ((7 * p + d) / 7) && okD D cg wt (opn D O0 j ((7 * p + d) / 7)) j ((7 * p + d) % 7)) = _
  rw [mod7 h, div7 h]
theorem opn_s {D : Nat → Nat} {O0 : Nat → Bool} {j p d : Nat} (h : d < 7) : opn D O0 (j + 1) (7 * p + d) = if D j = 7 then mns (opn D O0 j p) d else opn D O0 j p := by
  show (if D j = 7 then mns (opn D O0 j ((7 * p + d) / 7)) ((7 * p + d) % 7) else opn D O0 j ((7 * p + d) / 7)) = _
  rw [mod7 h, div7 h]
theorem opn_lt {D : Nat → Nat} {O0 : Nat → Bool} {n : Nat} (h : ∀ q, O0 q = true → q < n) : ∀ j p q, opn D O0 j p q = true → q < n := by
  intro j
  induction j with
  | zero => exact fun p q hq => h q hq
  | succ j ih =>
    intro p q hq
    unfold opn at hq
    split at hq
    · exact ih _ _ (mns_t.1 hq).1
    · exact ih _ _ hq
/-- the codes that begin with p, counted -/
theorem cc_cnt {D : Nat → Nat} {cg : Nat → Bool} {wt : Nat → Nat} {O0 : Nat → Bool} {n : Nat} (hD : ∀ k, k < n → D k ≤ 7) (h6 : ∀ q, O0 q = true → q < 6) : ∀ m j p, j + m = n → cc (gd D cg wt O0 n) m p = if gd D cg wt O0 j p = true then cntA D cg wt m j (opn D O0 j p) else 0 := by
  intro m
  induction m with
  | zero =>
    intro j p hj
    rw [show j = n by omega]
    rfl
  | succ m ih =>
    intro j p hj
    show sm (fun d => cc (gd D cg wt O0 n) m (7 * p + d)) 7 = _
    by_cases g : gd D cg wt O0 j p = true
    · rw [if_pos g]
      have ed : ∀ d, d < 7 → cc (gd D cg wt O0 n) m (7 * p + d) = if okD D cg wt (opn D O0 j p) j d = true then cntA D cg wt m (j + 1) (opn D O0 (j + 1) (7 * p + d)) else 0 := by
        intro d hd
        rw [ih (j + 1) _ (by omega), gd_s hd, g, Bool.true_and]
      unfold cntA
      by_cases d7 : D j = 7
      · rw [if_pos d7]
        show sm (fun d => cc (gd D cg wt O0 n) m (7 * p + d)) 6 + cc (gd D cg wt O0 n) m (7 * p + 6) = _
        have z : ¬ okD D cg wt (opn D O0 j p) j 6 = true := by
          intro y
          unfold okD at y
          rw [if_pos d7, Bool.and_eq_true] at y
          exact absurd (opn_lt h6 j p 6 y.1) (by decide)
        rw [ed 6 (by omega), if_neg z, Nat.add_zero]
        refine sm_congr 6 (fun d hd => ?_)
        rw [ed d (by omega), opn_s (by omega), if_pos d7]
        unfold okD
        rw [if_pos d7]
        by_cases o : opn D O0 j p d = true ∧ sutB wt d (cg j) = true
        · rw [if_pos o, if_pos (by rw [Bool.and_eq_true]; exact o)]
        · rw [if_neg o, if_neg (by rw [Bool.and_eq_true]; exact o)]
      · rw [if_neg d7]
        have hl := hD j (by omega)
        refine sm_one (d := D j) ?_ 7 (by omega) (fun d hd ne => ?_)
        · rw [ed _ (by omega), opn_s (by omega), if_neg d7, if_pos]
          unfold okD
          rw [if_neg d7]
          exact decide_eq_true rfl
        · rw [ed d hd, if_neg]
          unfold okD
          rw [if_neg d7, decide_eq_true_eq]
          exact ne
    · rw [if_neg g]
      refine sm_0 7 (fun d hd => ?_)
      rw [ih (j + 1) _ (by omega), gd_s hd, if_neg]
      rw [Bool.and_eq_true]
      exact fun y => g y.1
theorem all_cnt {D : Nat → Nat} {cg : Nat → Bool} {wt : Nat → Nat} {O0 : Nat → Bool} {n : Nat} (hD : ∀ k, k < n → D k ≤ 7) (h6 : ∀ q, O0 q = true → q < 6) : sm (vI (gd D cg wt O0 n)) (7 ^ n) = cntA D cg wt n 0 O0 := by
  have h := cc_N (gd D cg wt O0 n) n 0
  rw [Nat.zero_add, Nat.one_mul, Nat.zero_mul, cc_cnt hD h6 n 0 0 (by omega)] at h
  rw [h]
  show 0 + (if true = true then _ else 0) = _
  rw [if_pos rfl, Nat.zero_add]
  rfl
-- digits
def dg : Nat → Nat → Nat → Nat
  | 0, _, _ => 0
  | j + 1, p, k => if k = j then p % 7 else dg j (p / 7) k
theorem dg_7 : ∀ j p k, dg j p k < 7 := by
  intro j
  induction j with
  | zero => exact fun _ _ => by show 0 < 7; omega
  | succ j ih =>
    intro p k
    unfold dg
    split
    · omega
    · exact ih _ _
theorem opn_t {D : Nat → Nat} {O0 : Nat → Bool} : ∀ j p q, opn D O0 j p q = true ↔ O0 q = true ∧ ∀ k, k < j → D k = 7 → dg j p k ≠ q := by
  intro j
  induction j with
  | zero => exact fun p q => ⟨fun h => ⟨h, fun k hk => absurd hk (by omega)⟩, fun h => h.1⟩
  | succ j ih =>
    intro p q
    have e : ∀ k, k < j → dg (j + 1) p k = dg j (p / 7) k := fun k hk => by
      show (if k = j then _ else _) = _
      rw [if_neg (by omega)]
    have ej : dg (j + 1) p j = p % 7 := by
      show (if j = j then _ else _) = _
      rw [if_pos rfl]
    unfold opn
    by_cases d : D j = 7
    · rw [if_pos d, mns_t, ih]
      constructor
      · intro ⟨⟨a, b⟩, c⟩
        refine ⟨a, fun k hk h7 => ?_⟩
        by_cases ek : k = j
        · rw [ek, ej]; exact fun y => c y.symm
        · rw [e k (by omega)]; exact b k (by omega) h7
      · intro ⟨a, b⟩
        refine ⟨⟨a, fun k hk h7 => ?_⟩, fun y => b j (by omega) d (by rw [ej]; exact y.symm)⟩
        rw [← e k hk]
        exact b k (by omega) h7
    · rw [if_neg d, ih]
      constructor
      · intro ⟨a, b⟩
        refine ⟨a, fun k hk h7 => ?_⟩
        by_cases ek : k = j
        · rw [ek] at h7; exact absurd h7 d
        · rw [e k (by omega)]; exact b k (by omega) h7
      · intro ⟨a, b⟩
        refine ⟨a, fun k hk h7 => ?_⟩
        rw [← e k hk]
        exact b k (by omega) h7
theorem gd_t {D : Nat → Nat} {cg : Nat → Bool} {wt : Nat → Nat} {O0 : Nat → Bool} : ∀ j p, gd D cg wt O0 j p = true ↔ ∀ k, k < j → (D k = 7 → O0 (dg j p k) = true ∧ sutB wt (dg j p k) (cg k) = true ∧ ∀ i, i < k → D i = 7 → dg j p i ≠ dg j p k) ∧ (D k ≠ 7 → dg j p k = D k) := by
  intro j
  induction j with
  | zero => exact fun p => ⟨fun _ k hk => absurd hk (by omega), fun _ => rfl⟩
  | succ j ih =>
    intro p
    have e : ∀ k, k < j → dg (j + 1) p k = dg j (p / 7) k := fun k hk => by
      show (if k = j then _ else _) = _
      rw [if_neg (by omega)]
    have ej : dg (j + 1) p j = p % 7 := by
      show (if j = j then _ else _) = _
      rw [if_pos rfl]
    have old : (∀ k, k < j → (D k = 7 → O0 (dg (j + 1) p k) = true ∧ sutB wt (dg (j + 1) p k) (cg k) = true ∧ ∀ i, i < k → D i = 7 → dg (j + 1) p i ≠ dg (j + 1) p k) ∧ (D k ≠ 7 → dg (j + 1) p k = D k)) ↔ gd D cg wt O0 j (p / 7) = true := by
      rw [ih]
      constructor
      · intro h k hk
        have := h k hk
        rw [e k hk] at this
        refine ⟨fun h7 => ⟨(this.1 h7).1, (this.1 h7).2.1, fun i hi hd => ?_⟩, this.2⟩
        have t := (this.1 h7).2.2 i hi hd
        rw [e i (by omega)] at t
        exact t
      · intro h k hk
        have := h k hk
        rw [e k hk]
        refine ⟨fun h7 => ⟨(this.1 h7).1, (this.1 h7).2.1, fun i hi hd => ?_⟩, this.2⟩
        rw [e i (by omega)]
        exact (this.1 h7).2.2 i hi hd
    have new : ((D j = 7 → O0 (dg (j + 1) p j) = true ∧ sutB wt (dg (j + 1) p j) (cg j) = true ∧ ∀ i, i < j → D i = 7 → dg (j + 1) p i ≠ dg (j + 1) p j) ∧ (D j ≠ 7 → dg (j + 1) p j = D j)) ↔ okD D cg wt (opn D O0 j (p / 7)) j (p % 7) = true := by
      unfold okD
      rw [ej]
      by_cases d : D j = 7
      · rw [if_pos d, Bool.and_eq_true, opn_t]
        constructor
        · intro ⟨h, _⟩
          refine ⟨⟨(h d).1, fun k hk h7 => ?_⟩, (h d).2.1⟩
          rw [← e k hk]
          exact (h d).2.2 k hk h7
        · intro ⟨⟨a, b⟩, c⟩
          refine ⟨fun _ => ⟨a, c, fun i hi hd => ?_⟩, fun y => absurd d y⟩
          rw [e i hi]
          exact b i hi hd
      · rw [if_neg d, decide_eq_true_eq]
        exact ⟨fun h => h.2 d, fun h => ⟨fun y => absurd y d, fun _ => h⟩⟩
    show (gd D cg wt O0 j (p / 7) && okD D cg wt (opn D O0 j (p / 7)) j (p % 7)) = true ↔ _
    rw [Bool.and_eq_true, ← old, ← new]
    constructor
    · intro ⟨a, b⟩ k hk
      by_cases ek : k = j
      · rw [ek]; exact b
      · exact a k (by omega)
    · intro h
      exact ⟨fun k hk => h k (by omega), h j (by omega)⟩
/-- what is left unborne, counted -/
def acN (D : Nat → Nat) : Nat → Nat
  | 0 => 0
  | j + 1 => acN D j + (if D j = 7 then 1 else 0)
theorem opn_crd {D : Nat → Nat} {cg : Nat → Bool} {wt : Nat → Nat} {O0 : Nat → Bool} (h6 : ∀ q, O0 q = true → q < 6) : ∀ j p, gd D cg wt O0 j p = true → crd (opn D O0 j p) + acN D j = crd O0 := by
  intro j
  induction j with
  | zero => exact fun p _ => rfl
  | succ j ih =>
    intro p h
    have h : (gd D cg wt O0 j (p / 7) && okD D cg wt (opn D O0 j (p / 7)) j (p % 7)) = true := h
    rw [Bool.and_eq_true] at h
    have g := ih (p / 7) h.1
    have hk := h.2
    unfold okD at hk
    unfold opn acN
    by_cases d : D j = 7
    · rw [if_pos d, Bool.and_eq_true] at hk
      rw [if_pos d, if_pos d]
      have := crd_m hk.1 (opn_lt h6 _ _ _ hk.1)
      omega
    · rw [if_neg d, if_neg d, Nat.add_zero]
      exact g
theorem cN_ac (D : Nat → Nat) (cg : Nat → Bool) : ∀ m j, cN D cg true m j + cN D cg false m j + acN D j = acN D (j + m) := by
  intro m
  induction m with
  | zero => exact fun j => by show 0 + 0 + acN D j = acN D j; omega
  | succ m ih =>
    intro j
    have := ih (j + 1)
    rw [show j + 1 + m = j + (m + 1) by omega] at this
    rw [← this]
    show (if D j = 7 ∧ cg j = true then 1 else 0) + cN D cg true m (j + 1) + ((if D j = 7 ∧ cg j = false then 1 else 0) + cN D cg false m (j + 1)) + acN D j = _ + (acN D j + (if D j = 7 then 1 else 0))
    by_cases d : D j = 7
    · cases cg j with
      | true => rw [if_pos ⟨d, rfl⟩, if_neg (show ¬ (D j = 7 ∧ true = false) from fun y => absurd y.2 (by decide)), if_pos d]; omega
      | false => rw [if_neg (show ¬ (D j = 7 ∧ false = true) from fun y => absurd y.2 (by decide)), if_pos (show D j = 7 ∧ false = false from ⟨d, rfl⟩), if_pos d]; omega
    · rw [if_neg (fun y => d y.1), if_neg (fun y => d y.1), if_neg d]; omega
theorem crd_0 {S : Nat → Bool} (h : crd S = 0) {q : Nat} (hq : q < 6) : ¬ S q = true := by
  intro y
  have := crd_m y hq
  omega
/-- every unborne name is borne -/
theorem gd_all {D : Nat → Nat} {cg : Nat → Bool} {wt : Nat → Nat} {O0 : Nat → Bool} {n p : Nat} (h6 : ∀ q, O0 q = true → q < 6) (hc : crd O0 = acN D n) (hg : gd D cg wt O0 n p = true) {q : Nat} (hq : O0 q = true) : ∃ k, k < n ∧ D k = 7 ∧ dg n p k = q := by
  have h := opn_crd h6 n p hg
  have z := crd_0 (S := opn D O0 n p) (by omega) (h6 q hq)
  rw [opn_t] at z
  apply Classical.byContradiction
  intro y
  exact z ⟨hq, fun k hk h7 e => y ⟨k, hk, h7, e⟩⟩
theorem vI_t {V : Nat → Bool} {c : Nat} : 0 < vI V c ↔ V c = true := by
  unfold vI
  split
  · rename_i h; exact ⟨fun _ => h, fun _ => by omega⟩
  · rename_i h; exact ⟨fun y => absurd y (by omega), fun y => absurd y h⟩
theorem sm_inj {V : Nat → Bool} {c p : Nat} (hc : V c = true) (hp : V p = true) (e : sm (vI V) c = sm (vI V) p) : c = p := by
  have s : ∀ a b, V a = true → a < b → sm (vI V) a < sm (vI V) b := by
    intro a b ha hab
    have h1 := sm_le (g := vI V) b (a + 1) (by omega)
    have h2 : sm (vI V) (a + 1) = sm (vI V) a + vI V a := rfl
    have h3 := vI_t.2 ha
    omega
  by_cases l : c < p
  · have := s c p hc l; omega
  · by_cases l2 : p < c
    · have := s p c hp l2; omega
    · omega
