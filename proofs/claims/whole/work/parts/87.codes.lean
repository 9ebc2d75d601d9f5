-- marriages: the reference's codes
def pm (r : NS) (x a b : Nat) : Bool := decide (a < r.1 0) && (decide (b < r.1 0) && mate r x a b)
theorem pm_t {r : NS} {x a b : Nat} : pm r x a b = true ↔ a < r.1 0 ∧ b < r.1 0 ∧ mate r x a b = true := by
  unfold pm
  rw [Bool.and_eq_true, Bool.and_eq_true, decide_eq_true_eq, decide_eq_true_eq]
theorem mate_t {r : NS} {x a b : Nat} : mate r x a b = true ↔ b ≠ a ∧ frB r a = true ∧ frB r b = true ∧ apB r a b x = true := by
  unfold mate
  rw [Bool.and_eq_true, Bool.and_eq_true, Bool.and_eq_true, decide_eq_true_eq]
theorem pm_sym {r : NS} {x : Nat} (a b : Nat) (h : pm r x a b = true) : pm r x b a = true := by
  obtain ⟨p, q, t⟩ := pm_t.1 h
  obtain ⟨t1, t2, t3, t4⟩ := mate_t.1 t
  exact pm_t.2 ⟨q, p, mate_t.2 ⟨fun y => t1 y.symm, t3, t2, by rw [apB_sym]; exact t4⟩⟩
def runM (P : Nat → Nat → Bool) : Nat → Nat → Nat → Nat → Option Nat
  | 0, _, _, k => some k
  | s + 1, c, u, k =>
    if c % 6 = 0 ∧ c / 6 % 6 = 0 then runM P s (c / 36) u k
    else if c % 6 < c / 6 % 6 ∧ P (c % 6) (c / 6 % 6) = true ∧ u / 2 ^ (c % 6) % 2 = 0 ∧ u / 2 ^ (c / 6 % 6) % 2 = 0 then runM P s (c / 36) (setB (setB u (c % 6)) (c / 6 % 6)) (k + 1)
    else none
theorem runM_le (P : Nat → Nat → Bool) : ∀ s c u k q, runM P s c u k = some q → q ≤ k + s := by
  intro s
  induction s with
  | zero =>
    intro c u k q h
    have : k = q := Option.some.inj h
    omega
  | succ s ih =>
    intro c u k q h
    unfold runM at h
    split at h
    · have := ih _ _ _ _ h; omega
    · split at h
      · have := ih _ _ _ _ h; omega
      · exact absurd h (by simp)
theorem hasM {Q : Nat → Bool} {n a : Nat} (hn : n ≤ 6) (ha : a < 6) : F_X7_has (nI (msk Q n)) (nI a) = 0 ↔ ¬ (a < n ∧ Q a = true) := by
  rw [has_b (msk_64 Q hn) ha]
  by_cases l : a < n
  · rw [msk_bit n hn a l]
    exact ⟨fun h y => h y.2, fun h y => h ⟨l, y⟩⟩
  · have := msk_lt Q n
    have := Nat.pow_le_pow_right (show 2 > 0 by omega) (show n ≤ a by omega)
    rw [Nat.div_eq_of_lt (by omega)]
    exact ⟨fun _ y => l y.1, fun _ => by decide⟩
theorem t_or2 : ∀ u, u < 64 → ∀ a, a < 6 → ∀ b, b < 6 → (nI u ||| (((1 : Int32) <<< (nI a &&& 31)) ||| ((1 : Int32) <<< (nI b &&& 31)))) = nI (setB (setB u a) b) := by decide +kernel
theorem core_lp {M : St} {r : NS} (hw : WF r) (hm : MR M r) {x : Nat} (hx : x < 2 ^ 20) {a b u : Nat} (ha : a < 6) (hb : b < 6) (hu : u < 64) {R : Int32 → Prop} (h1 : (a < b ∧ pm r x a b = true ∧ u / 2 ^ a % 2 = 0 ∧ u / 2 ^ b % 2 = 0) → R 1) (h0 : ¬ (a < b ∧ pm r x a b = true ∧ u / 2 ^ a % 2 = 0 ∧ u / 2 ^ b % 2 = 0) → R 0) : (if nI b ≤ nI a then R 0 else (if (F_X7_has (nI (msk (frB r) (r.1 0))) (nI a)) = 0 then R 0 else (if (F_X7_has (nI (msk (frB r) (r.1 0))) (nI b)) = 0 then R 0 else (if (F_X7_has (nI u) (nI a)) = 0 then (if (F_X7_has (nI u) (nI b)) = 0 then (wp_X7_doMeet M (nI a) (nI b) (nI x) (fun (v : Int32) => if v = 0 then R 1 else R 0)) else R 0) else R 0)))) := by
  have h6 := hw.2.1
  by_cases l : a < b
  · rw [if_neg (nI_ge l (by omega))]
    by_cases fa : a < r.1 0 ∧ frB r a = true
    · rw [if_neg (fun y => (hasM h6 ha).1 y fa)]
      by_cases fb : b < r.1 0 ∧ frB r b = true
      · rw [if_neg (fun y => (hasM h6 hb).1 y fb)]
        by_cases ua : u / 2 ^ a % 2 = 1
        · rw [if_neg (fun y => (has_b hu ha).1 y ua)]
          exact h0 (fun y => by have := y.2.2.1; omega)
        · rw [if_pos ((has_b hu ha).2 ua)]
          by_cases ub : u / 2 ^ b % 2 = 1
          · rw [if_neg (fun y => (has_b hu hb).1 y ub)]
            exact h0 (fun y => by have := y.2.2.2; omega)
          · rw [if_pos ((has_b hu hb).2 ub)]
            refine dmM hw hm fa.1 fb.1 hx ?_
            by_cases ap : apB r a b x = true
            · rw [if_pos ap, if_pos rfl]
              exact h1 ⟨l, pm_t.2 ⟨fa.1, fb.1, mate_t.2 ⟨by omega, fa.2, fb.2, ap⟩⟩, by omega, by omega⟩
            · rw [if_neg ap, if_neg (by decide)]
              exact h0 (fun y => ap (mate_t.1 (pm_t.1 y.2.1).2.2).2.2.2)
      · rw [if_pos ((hasM h6 hb).2 fb)]
        exact h0 (fun y => fb ⟨(pm_t.1 y.2.1).2.1, (mate_t.1 (pm_t.1 y.2.1).2.2).2.2.1⟩)
    · rw [if_pos ((hasM h6 ha).2 fa)]
      exact h0 (fun y => fa ⟨(pm_t.1 y.2.1).1, (mate_t.1 (pm_t.1 y.2.1).2.2).2.1⟩)
  · rw [if_pos (nI_le (by omega) (by omega))]
    exact h0 (fun y => l y.1)
theorem ref_no {M : St} {x F : Int32} {kx : Int32 → Int32 → Prop} (h : ∀ y, kx y 0) (s : Nat) (a b c d : Int32) : wl_X7_marriages_88 M x F kx (s + 1) a b c 0 d := by
  unfold wl_X7_marriages_88
  by_cases l : (3 : Int32) ≤ d
  · rw [if_pos l]
    exact h _
  · rw [if_neg l, if_pos rfl]
    exact h _
theorem run_lp {M : St} {r : NS} (hw : WF r) (hm : MR M r) {x : Nat} (hx : x < 2 ^ 20) {kx : Int32 → Int32 → Prop} : ∀ s i c u k, i + s = 3 → c < 2 ^ 30 → u < 64 → (∀ q, runM (pm r x) s c u k = some q → kx (nI q) 1) → (runM (pm r x) s c u k = none → ∀ y, kx y 0) → wl_X7_marriages_88 M (nI x) (nI (msk (frB r) (r.1 0))) kx (s + 1) (nI c) (nI u) (nI k) 1 (nI i) := by
  have e3 : (3 : Int32) = nI 3 := by decide
  have e6 : (6 : Int32) = nI 6 := by decide
  have e36 : (36 : Int32) = nI 36 := by decide
  intro s
  induction s with
  | zero =>
    intro i c u k hi hc hu h1 h0
    unfold wl_X7_marriages_88
    rw [e3, show i = 3 by omega, if_pos (Int32.le_refl _)]
    exact h1 k rfl
  | succ s ih =>
    intro i c u k hi hc hu h1 h0
    have q1 : nI c - nI c / 6 * 6 = nI (c % 6) := by rw [e6, pk_rem (by omega) (by omega) (by omega)]
    have q2 : nI c / 6 = nI (c / 6) := by rw [e6, pk_div (by omega) (by omega) (by omega)]
    have q3 : nI (c / 6) - nI (c / 6) / 6 * 6 = nI (c / 6 % 6) := by rw [e6, pk_rem (by omega) (by omega) (by omega)]
    have q4 : nI c / 36 = nI (c / 36) := by rw [e36, pk_div (by omega) (by omega) (by omega)]
    have a6 : c % 6 < 6 := Nat.mod_lt _ (by omega)
    have b6 : c / 6 % 6 < 6 := Nat.mod_lt _ (by omega)
    obtain ⟨s1, -⟩ := t_seb u hu _ a6
    obtain ⟨s2, -⟩ := t_seb _ s1 _ b6
    have core : ¬ (c % 6 = 0 ∧ c / 6 % 6 = 0) → _ := fun nz => core_lp hw hm hx a6 b6 hu (R := fun z => wl_X7_marriages_88 M (nI x) (nI (msk (frB r) (r.1 0))) kx (s + 1) (nI (c / 36)) (nI (setB (setB u (c % 6)) (c / 6 % 6))) (nI (k + 1)) z (nI (i + 1))) (fun g => by
      unfold runM at h1 h0
      rw [if_neg nz, if_pos g] at h1 h0
      exact ih (i + 1) _ _ _ (by omega) (by omega) s2 h1 h0) (fun g => by
      unfold runM at h0
      rw [if_neg nz, if_neg g] at h0
      exact ref_no (h0 rfl) _ _ _ _ _)
    unfold wl_X7_marriages_88
    rw [if_neg (by rw [e3]; exact nI_ge (show i < 3 by omega) (by omega)), if_neg (by decide), q1, q2, q3, q4, t_or2 u hu _ a6 _ b6, nI_1, nI_1]
    by_cases z1 : c % 6 = 0
    · rw [if_pos (by rw [z1]; decide)]
      by_cases z2 : c / 6 % 6 = 0
      · rw [if_pos (by rw [z2]; decide)]
        unfold runM at h1 h0
        rw [if_pos ⟨z1, z2⟩] at h1 h0
        exact ih (i + 1) _ _ _ (by omega) (by omega) hu h1 h0
      · rw [if_neg (nI_ne0 (by omega) (by omega))]
        exact core (fun y => z2 y.2)
    · rw [if_neg (nI_ne0 (by omega) (by omega))]
      exact core (fun y => z1 y.1)
def mxF (P : Nat → Nat → Bool) : Nat → Nat
  | 0 => 0
  | i + 1 => max (mxF P i) ((runM P 3 i 0 0).getD 0)
theorem mx_3 (P : Nat → Nat → Bool) : ∀ i, mxF P i ≤ 3 := by
  intro i
  induction i with
  | zero => exact Nat.zero_le _
  | succ i ih =>
    unfold mxF
    have : (runM P 3 i 0 0).getD 0 ≤ 3 := by
      cases h : runM P 3 i 0 0 with
      | none => exact Nat.zero_le _
      | some q =>
        have := runM_le P 3 i 0 0 q h
        show q ≤ 3
        omega
    omega
theorem mx_ge {P : Nat → Nat → Bool} {c q : Nat} (h : runM P 3 c 0 0 = some q) : ∀ B, c < B → q ≤ mxF P B := by
  intro B
  induction B with
  | zero => exact fun h => absurd h (by omega)
  | succ B ih =>
    intro hc
    unfold mxF
    by_cases e : c = B
    · rw [← e, h]
      exact Nat.le_max_right _ _
    · exact Nat.le_trans (ih (by omega)) (Nat.le_max_left _ _)
theorem mx_in (P : Nat → Nat → Bool) : ∀ B, mxF P B = 0 ∨ ∃ c, c < B ∧ runM P 3 c 0 0 = some (mxF P B) := by
  intro B
  induction B with
  | zero => exact Or.inl rfl
  | succ B ih =>
    unfold mxF
    cases h : runM P 3 B 0 0 with
    | none =>
      rw [show (none : Option Nat).getD 0 = 0 from rfl, Nat.max_eq_left (Nat.zero_le _)]
      cases ih with
      | inl e => exact Or.inl e
      | inr e =>
        obtain ⟨c, a, b⟩ := e
        exact Or.inr ⟨c, by omega, b⟩
    | some q =>
      rw [show (some q).getD 0 = q from rfl]
      by_cases l : mxF P B ≤ q
      · rw [Nat.max_eq_right l]
        exact Or.inr ⟨B, by omega, h⟩
      · rw [Nat.max_eq_left (by omega)]
        cases ih with
        | inl e => exact Or.inl e
        | inr e =>
          obtain ⟨c, a, b⟩ := e
          exact Or.inr ⟨c, by omega, b⟩
theorem mar_lp {M : St} {r : NS} (hw : WF r) (hm : MR M r) {x B : Nat} (hx : x < 2 ^ 20) (hB : (46656 : Int32) = nI B) (hB2 : B < 2 ^ 30) {K : Int32 → Prop} (hK : K (nI (mxF (pm r x) B))) : ∀ m i, i + m = B → wl_X7_marriages_65 M (nI x) (nI (msk (frB r) (r.1 0))) K (m + 1) (nI (mxF (pm r x) i)) (nI i) := by
  intro m
  induction m with
  | zero =>
    intro i hi
    unfold wl_X7_marriages_65
    rw [hB, show i = B by omega, if_pos (Int32.le_refl _)]
    exact hK
  | succ m ih =>
    intro i hi
    have g := ih (i + 1) (by omega)
    have l3 := mx_3 (pm r x) i
    unfold wl_X7_marriages_65
    rw [hB, if_neg (nI_ge (show i < B by omega) (by omega))]
    have key := run_lp hw hm hx (kx := fun (v25 : Int32) (v26 : Int32) => (if v26 = 0 then (wl_X7_marriages_65 M (nI x) (nI (msk (frB r) (r.1 0))) K (m + 1) (nI (mxF (pm r x) i)) (nI i + 1)) else (if v25 ≤ (nI (mxF (pm r x) i)) then (wl_X7_marriages_65 M (nI x) (nI (msk (frB r) (r.1 0))) K (m + 1) (nI (mxF (pm r x) i)) (nI i + 1)) else (wl_X7_marriages_65 M (nI x) (nI (msk (frB r) (r.1 0))) K (m + 1) v25 (nI i + 1))))) 3 0 i 0 0 (by omega) (by omega) (by omega) (fun q hq => by
      have q3 := runM_le _ _ _ _ _ _ hq
      have e : mxF (pm r x) (i + 1) = max (mxF (pm r x) i) q := by
        show max _ ((runM (pm r x) 3 i 0 0).getD 0) = _
        rw [hq]
        rfl
      rw [if_neg (by decide), nI_1]
      by_cases l : q ≤ mxF (pm r x) i
      · rw [if_pos (nI_le l (by omega))]
        rw [e, Nat.max_eq_left l] at g
        exact g
      · rw [if_neg (nI_ge (by omega) (by omega))]
        rw [e, Nat.max_eq_right (by omega)] at g
        exact g) (fun hq y => by
      have e : mxF (pm r x) (i + 1) = mxF (pm r x) i := by
        show max _ ((runM (pm r x) 3 i 0 0).getD 0) = _
        rw [hq]
        exact Nat.max_eq_left (Nat.zero_le _)
      rw [if_pos rfl, nI_1]
      rw [e] at g
      exact g)
    rw [nI_0] at key
    exact ⟨_, key⟩
