-- deals: counted by children
def sm (g : Nat → Nat) : Nat → Nat
  | 0 => 0
  | m + 1 => sm g m + g m
theorem sm_congr {f g : Nat → Nat} : ∀ m, (∀ i, i < m → f i = g i) → sm f m = sm g m := by
  intro m
  induction m with
  | zero => exact fun _ => rfl
  | succ m ih =>
    intro h
    show sm f m + f m = sm g m + g m
    rw [ih (fun i hi => h i (by omega)), h m (by omega)]
theorem sm_0 {g : Nat → Nat} : ∀ m, (∀ i, i < m → g i = 0) → sm g m = 0 := by
  intro m
  induction m with
  | zero => exact fun _ => rfl
  | succ m ih =>
    intro h
    show sm g m + g m = 0
    rw [ih (fun i hi => h i (by omega)), h m (by omega)]
theorem sm_one {g : Nat → Nat} {d v : Nat} (hv : g d = v) : ∀ m, d < m → (∀ i, i < m → i ≠ d → g i = 0) → sm g m = v := by
  intro m
  induction m with
  | zero => exact fun h => absurd h (by omega)
  | succ m ih =>
    intro hd h
    show sm g m + g m = v
    by_cases e : m = d
    · rw [sm_0 m (fun i hi => h i (by omega) (by omega)), e, hv, Nat.zero_add]
    · rw [ih (by omega) (fun i hi => h i (by omega)), h m (by omega) e, Nat.add_zero]
theorem sm_le {g : Nat → Nat} : ∀ m i, i ≤ m → sm g i ≤ sm g m := by
  intro m
  induction m with
  | zero => exact fun i hi => by rw [show i = 0 by omega]; exact Nat.le_refl _
  | succ m ih =>
    intro i hi
    show sm g i ≤ sm g m + g m
    by_cases e : i = m + 1
    · rw [e]; exact Nat.le_refl _
    · have := ih i (by omega)
      omega
theorem sm_pos {g : Nat → Nat} : ∀ m, 0 < sm g m ↔ ∃ i, i < m ∧ 0 < g i := by
  intro m
  induction m with
  | zero => exact ⟨fun h => absurd h (Nat.lt_irrefl 0), fun ⟨i, h, _⟩ => absurd h (by omega)⟩
  | succ m ih =>
    show 0 < sm g m + g m ↔ _
    constructor
    · intro h
      by_cases e : 0 < g m
      · exact ⟨m, by omega, e⟩
      · obtain ⟨i, a, b⟩ := ih.1 (by omega)
        exact ⟨i, by omega, b⟩
    · intro ⟨i, a, b⟩
      by_cases e : i = m
      · subst e; omega
      · have := ih.2 ⟨i, by omega, b⟩
        omega
theorem sm_lin (A B : Nat → Bool) (X Y : Nat) : ∀ m, sm (fun q => (if A q = true then X else 0) + (if B q = true then Y else 0)) m = sm (fun q => if A q = true then 1 else 0) m * X + sm (fun q => if B q = true then 1 else 0) m * Y := by
  intro m
  induction m with
  | zero => show 0 = 0 * X + 0 * Y; rw [Nat.zero_mul, Nat.zero_mul]
  | succ m ih =>
    show sm _ m + ((if A m = true then X else 0) + (if B m = true then Y else 0)) = (sm _ m + (if A m = true then 1 else 0)) * X + (sm _ m + (if B m = true then 1 else 0)) * Y
    rw [ih, Nat.add_mul, Nat.add_mul]
    by_cases a : A m = true
    · rw [if_pos a, if_pos a, Nat.one_mul]
      by_cases b : B m = true
      · rw [if_pos b, if_pos b, Nat.one_mul]; omega
      · rw [if_neg b, if_neg b, Nat.zero_mul]; omega
    · rw [if_neg a, if_neg a, Nat.zero_mul]
      by_cases b : B m = true
      · rw [if_pos b, if_pos b, Nat.one_mul]; omega
      · rw [if_neg b, if_neg b, Nat.zero_mul]; omega
theorem crd_sm (A : Nat → Bool) : sm (fun q => if A q = true then 1 else 0) 6 = crd A := by
  have t : ∀ b : Bool, (if b = true then 1 else 0) = b.toNat := fun b => by cases b <;> rfl
  show 0 + (if A 0 = true then 1 else 0) + (if A 1 = true then 1 else 0) + (if A 2 = true then 1 else 0) + (if A 3 = true then 1 else 0) + (if A 4 = true then 1 else 0) + (if A 5 = true then 1 else 0) = _
  rw [t, t, t, t, t, t, Nat.zero_add]
  rfl
def sutB (wt : Nat → Nat) (q : Nat) (c : Bool) : Bool := if c = true then decide (wt q ≠ 2) else decide (wt q ≠ 1)
def cntA (D : Nat → Nat) (cg : Nat → Bool) (wt : Nat → Nat) : Nat → Nat → (Nat → Bool) → Nat
  | 0, _, _ => 1
  | m + 1, j, O => if D j = 7 then sm (fun q => if O q = true ∧ sutB wt q (cg j) = true then cntA D cg wt m (j + 1) (mns O q) else 0) 6 else cntA D cg wt m (j + 1) O
def cN (D : Nat → Nat) (cg : Nat → Bool) (c : Bool) : Nat → Nat → Nat
  | 0, _ => 0
  | m + 1, j => (if D j = 7 ∧ cg j = c then 1 else 0) + cN D cg c m (j + 1)
def oN (O : Nat → Bool) (wt : Nat → Nat) (v : Nat) : Nat := crd (fun q => O q && decide (wt q = v))
def prN (f : Nat) : Nat → Nat
  | 0 => 1
  | i + 1 => prN f i * (f - i)
def pkN (f m : Nat) : Nat := if f < m then 0 else prN f m
def wyN (C Q a b : Nat) : Nat := pkN C a * pkN Q b * pkN (C + Q - a - b) (C + Q - a - b)
theorem oN_m {O : Nat → Bool} {wt : Nat → Nat} {q v : Nat} (h : O q = true) (hq : q < 6) (e : wt q = v) : oN (mns O q) wt v + 1 = oN O wt v := by
  have t : (fun x => mns O q x && decide (wt x = v)) = mns (fun x => O x && decide (wt x = v)) q := by
    funext x
    show (O x && !decide (x = q) && decide (wt x = v)) = (O x && decide (wt x = v) && !decide (x = q))
    cases O x <;> cases decide (wt x = v) <;> cases decide (x = q) <;> rfl
  unfold oN
  rw [t]
  exact crd_m (S := fun x => O x && decide (wt x = v)) (by rw [Bool.and_eq_true, decide_eq_true_eq]; exact ⟨h, e⟩) hq
theorem oN_n {O : Nat → Bool} {wt : Nat → Nat} {q v : Nat} (e : wt q ≠ v) : oN (mns O q) wt v = oN O wt v := by
  unfold oN
  congr 1
  funext x
  unfold mns
  by_cases h : x = q
  · rw [h, decide_eq_false e, Bool.and_false, Bool.and_false]
  · rw [decide_eq_false h, Bool.not_false, Bool.and_true]
theorem oN_all {O : Nat → Bool} {wt : Nat → Nat} (h : ∀ q, wt q ≤ 2) : oN O wt 0 + oN O wt 1 + oN O wt 2 = crd O := by
  have t : ∀ q, (O q && decide (wt q = 0)).toNat + (O q && decide (wt q = 1)).toNat + (O q && decide (wt q = 2)).toNat = (O q).toNat := by
    intro q
    have := h q
    cases hO : O q with
    | false => rfl
    | true =>
      have c : wt q = 0 ∨ wt q = 1 ∨ wt q = 2 := by omega
      rcases c with e | e | e <;> rw [e] <;> rfl
  have h0 := t 0
  have h1 := t 1
  have h2 := t 2
  have h3 := t 3
  have h4 := t 4
  have h5 := t 5
  unfold oN crd
  dsimp only
  omega
theorem cN_le (D : Nat → Nat) (cg : Nat → Bool) : ∀ m j, cN D cg true m j + cN D cg false m j ≤ m := by
  intro m
  induction m with
  | zero => exact fun _ => Nat.le_refl _
  | succ m ih =>
    intro j
    have := ih (j + 1)
    show (if D j = 7 ∧ cg j = true then 1 else 0) + cN D cg true m (j + 1) + ((if D j = 7 ∧ cg j = false then 1 else 0) + cN D cg false m (j + 1)) ≤ m + 1
    cases cg j with
    | true => rw [if_neg (show ¬ (D j = 7 ∧ true = false) from fun y => absurd y.2 (by decide))]; split <;> omega
    | false => rw [if_neg (show ¬ (D j = 7 ∧ false = true) from fun y => absurd y.2 (by decide))]; split <;> omega
theorem t_wyc : ∀ C, C < 6 → ∀ Q, Q < 7 → ∀ a, a < 7 → ∀ b, b < 7 → C + 1 + Q ≤ 6 ∧ a + b ≤ C + 1 + Q → wyN (C + 1) Q a b = a * wyN C Q (a - 1) b + (C + 1 + Q - a - b) * wyN C Q a b := by decide +kernel
theorem t_wyq : ∀ C, C < 7 → ∀ Q, Q < 6 → ∀ a, a < 7 → ∀ b, b < 7 → C + (Q + 1) ≤ 6 ∧ a + b ≤ C + (Q + 1) → wyN C (Q + 1) a b = b * wyN C Q a (b - 1) + (C + (Q + 1) - a - b) * wyN C Q a b := by decide +kernel
theorem cnt_W {D : Nat → Nat} {cg : Nat → Bool} {wt : Nat → Nat} (h2 : ∀ q, wt q ≤ 2) : ∀ m j (O : Nat → Bool), m ≤ 6 → crd O = cN D cg true m j + cN D cg false m j → cntA D cg wt m j O = wyN (cN D cg true m j) (cN D cg false m j) (oN O wt 1) (oN O wt 2) := by
  intro m
  induction m with
  | zero =>
    intro j O _ hc
    have ha := oN_all (O := O) h2
    have z : crd O = 0 := hc
    show 1 = wyN 0 0 (oN O wt 1) (oN O wt 2)
    rw [show oN O wt 1 = 0 by omega, show oN O wt 2 = 0 by omega]
    rfl
  | succ m ih =>
    intro j O hm hc
    have ha := oN_all (O := O) h2
    have hle := cN_le D cg m (j + 1)
    unfold cntA
    by_cases d : D j = 7
    · rw [if_pos d]
      have one : ∀ q, q < 6 → O q = true → crd (mns O q) + 1 = crd O := fun q hq h => crd_m h hq
      cases hcg : cg j with
      | true =>
        have eC : cN D cg true (m + 1) j = cN D cg true m (j + 1) + 1 := by
          show (if D j = 7 ∧ cg j = true then 1 else 0) + _ = _
          rw [if_pos ⟨d, hcg⟩, Nat.add_comm]
        have eQ : cN D cg false (m + 1) j = cN D cg false m (j + 1) := by
          show (if D j = 7 ∧ cg j = false then 1 else 0) + _ = _
          rw [if_neg (fun y => by rw [hcg] at y; exact absurd y.2 (by decide)), Nat.zero_add]
        rw [eC, eQ] at hc ⊢
        rw [t_wyc _ (by omega) _ (by omega) _ (by omega) _ (by omega) ⟨by omega, by omega⟩]
        rw [show cN D cg true m (j + 1) + 1 + cN D cg false m (j + 1) - oN O wt 1 - oN O wt 2 = oN O wt 0 by omega]
        have lin := sm_lin (fun q => O q && decide (wt q = 1)) (fun q => O q && decide (wt q = 0)) (wyN (cN D cg true m (j + 1)) (cN D cg false m (j + 1)) (oN O wt 1 - 1) (oN O wt 2)) (wyN (cN D cg true m (j + 1)) (cN D cg false m (j + 1)) (oN O wt 1) (oN O wt 2)) 6
        rw [crd_sm, crd_sm] at lin
        refine Eq.trans (sm_congr 6 (fun q hq => ?_)) lin
        by_cases o : O q = true
        · have hq2 := h2 q
          have o1 := one q hq o
          simp only [o, Bool.true_and, decide_eq_true_eq, true_and]
          have c : wt q = 0 ∨ wt q = 1 ∨ wt q = 2 := by omega
          rcases c with e | e | e
          · rw [if_pos (show sutB wt q true = true by unfold sutB; rw [if_pos rfl, e]; rfl), if_neg (by omega), if_pos e, Nat.zero_add, ih (j + 1) (mns O q) (by omega) (by omega), oN_n (by omega), oN_n (by omega)]
          · have := oN_m (wt := wt) o hq e
            rw [if_pos (show sutB wt q true = true by unfold sutB; rw [if_pos rfl, e]; rfl), if_pos e, if_neg (show ¬ wt q = 0 by omega), ih (j + 1) (mns O q) (by omega) (by omega), oN_n (v := 2) (by omega), show oN (mns O q) wt 1 = oN O wt 1 - 1 by omega]; rfl
          · rw [if_neg (show ¬ sutB wt q true = true by unfold sutB; rw [if_pos rfl, e]; decide), if_neg (by omega), if_neg (by omega)]
        · have o' : O q = false := by cases h : O q with
            | false => rfl
            | true => exact absurd h o
          simp only [o', Bool.false_and]
          rfl
      | false =>
        have eC : cN D cg true (m + 1) j = cN D cg true m (j + 1) := by
          show (if D j = 7 ∧ cg j = true then 1 else 0) + _ = _
          rw [if_neg (fun y => by rw [hcg] at y; exact absurd y.2 (by decide)), Nat.zero_add]
        have eQ : cN D cg false (m + 1) j = cN D cg false m (j + 1) + 1 := by
          show (if D j = 7 ∧ cg j = false then 1 else 0) + _ = _
          rw [if_pos ⟨d, hcg⟩, Nat.add_comm]
        rw [eC, eQ] at hc ⊢
        rw [t_wyq _ (by omega) _ (by omega) _ (by omega) _ (by omega) ⟨by omega, by omega⟩]
        rw [show cN D cg true m (j + 1) + (cN D cg false m (j + 1) + 1) - oN O wt 1 - oN O wt 2 = oN O wt 0 by omega]
        have lin := sm_lin (fun q => O q && decide (wt q = 2)) (fun q => O q && decide (wt q = 0)) (wyN (cN D cg true m (j + 1)) (cN D cg false m (j + 1)) (oN O wt 1) (oN O wt 2 - 1)) (wyN (cN D cg true m (j + 1)) (cN D cg false m (j + 1)) (oN O wt 1) (oN O wt 2)) 6
        rw [crd_sm, crd_sm] at lin
        refine Eq.trans (sm_congr 6 (fun q hq => ?_)) lin
        by_cases o : O q = true
        · have hq2 := h2 q
          have o1 := one q hq o
          simp only [o, Bool.true_and, decide_eq_true_eq, true_and]
          have c : wt q = 0 ∨ wt q = 1 ∨ wt q = 2 := by omega
          rcases c with e | e | e
          · rw [if_pos (show sutB wt q false = true by unfold sutB; rw [if_neg (by decide), e]; rfl), if_neg (by omega), if_pos e, Nat.zero_add, ih (j + 1) (mns O q) (by omega) (by omega), oN_n (by omega), oN_n (by omega)]
          · rw [if_neg (show ¬ sutB wt q false = true by unfold sutB; rw [if_neg (by decide), e]; decide), if_neg (by omega), if_neg (by omega)]
          · have := oN_m (wt := wt) o hq e
            rw [if_pos (show sutB wt q false = true by unfold sutB; rw [if_neg (by decide), e]; rfl), if_pos e, if_neg (show ¬ wt q = 0 by omega), ih (j + 1) (mns O q) (by omega) (by omega), oN_n (v := 1) (by omega), show oN (mns O q) wt 2 = oN O wt 2 - 1 by omega]; rfl
        · have o' : O q = false := by cases h : O q with
            | false => rfl
            | true => exact absurd h o
          simp only [o', Bool.false_and]
          rfl
    · rw [if_neg d]
      have eC : ∀ c, cN D cg c (m + 1) j = cN D cg c m (j + 1) := by
        intro c
        show (if D j = 7 ∧ cg j = c then 1 else 0) + _ = _
        rw [if_neg (fun y => d y.1), Nat.zero_add]
      rw [eC, eC] at hc ⊢
      exact ih (j + 1) O (by omega) hc
