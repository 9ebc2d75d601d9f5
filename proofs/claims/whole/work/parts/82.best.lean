-- marriages: the Java's best of a set
def clrB (v L : Nat) : Nat := if v / 2 ^ L % 2 = 1 then v - 2 ^ L else v
theorem t_clb : ∀ v, v < 64 → ∀ L, L < 6 → (nI v &&& (((1 : Int32) <<< (nI L &&& 31)) ^^^ (-1))) = nI (clrB v L) := by decide +kernel
theorem clrB_le (v L : Nat) : clrB v L ≤ v := by
  unfold clrB
  split
  · exact Nat.sub_le _ _
  · exact Nat.le_refl _
theorem clrB_lt {v L : Nat} (h : v < 64) : clrB v L < 64 := Nat.lt_of_le_of_lt (clrB_le v L) h
theorem t_and : ∀ a, a < 64 → ∀ k, k < 6 → ∀ b, b < 64 → decide (((nI a &&& nI b) &&& ((1 : Int32) <<< (nI k &&& 31))) = 0) = !(decide (a / 2 ^ k % 2 = 1) && decide (b / 2 ^ k % 2 = 1)) := by decide +kernel
/-- best of: rest y, mates w of the lowest, f the bests found -/
def bsN (f : Nat → Nat) (y w : Nat) : Nat → Nat → Nat → Nat
  | 0, _, c => c
  | m + 1, i, c => if y / 2 ^ i % 2 = 1 ∧ w / 2 ^ i % 2 = 1 then bsN f y w m (i + 1) (max c (1 + f (clrB y i))) else bsN f y w m (i + 1) c
theorem jmax_nI {a b : Nat} (ha : a < 2 ^ 31) (hb : b < 2 ^ 31) : jmax (nI a) (nI b) = nI (max a b) := by
  unfold jmax
  by_cases h : a ≤ b
  · rw [Nat.max_eq_right h]
    by_cases e : a = b
    · subst e
      split <;> rfl
    · first
        | rw [if_pos (nI_lt (by omega) hb)]
        | rw [if_neg (nI_ge (by omega) hb)]
        | rw [if_neg (nI_nlt (by omega) hb)]
        | rw [if_pos (nI_le h hb)]
  · rw [Nat.max_eq_left (by omega)]
    first
      | rw [if_pos (nI_lt (by omega) ha)]
      | rw [if_neg (nI_ge (by omega) ha)]
      | rw [if_neg (nI_nlt (by omega) ha)]
      | rw [if_pos (nI_le (by omega) ha)]
theorem bsX {S : St} {f : Nat → Nat} {lo y w : Nat} (hlo : lo < 6) (hy : y < 64) (hww : w < 64) (h0 : S.2 0 lo = nI w) (hf : ∀ v, v < 64 → v ≤ y → S.2 1 v = nI (f v) ∧ f v ≤ 64) {K : Int32 → Prop} : ∀ m i c, i + m = 6 → c ≤ 65 → K (nI (bsN f y w m i c)) → wl_X4_bestOf_28 S (nI lo) (nI y) K (m + 1) (nI c) (nI i) := by
  have e6 : (6 : Int32) = nI 6 := by decide
  intro m
  induction m with
  | zero =>
    intro i c hi hc hK
    unfold wl_X4_bestOf_28
    rw [if_pos (by rw [e6, show i = 6 by omega]; exact Int32.le_refl _)]
    exact hK
  | succ m ih =>
    intro i c hi hc hK
    have t := t_and y hy i (by omega) w hww
    unfold bsN at hK
    unfold wl_X4_bestOf_28
    rw [if_neg (by rw [e6]; exact nI_ge (by omega) (by omega)), get_nI _ (show lo < 6 by omega) (by omega), h0, nI_1]
    by_cases h : y / 2 ^ i % 2 = 1 ∧ w / 2 ^ i % 2 = 1
    · rw [if_pos h] at hK
      rw [decide_eq_true h.1, decide_eq_true h.2] at t
      rw [if_neg (of_decide_eq_false t), t_clb y hy i (by omega), get_nI _ (clrB_lt hy) (by omega)]
      obtain ⟨f1, f2⟩ := hf (clrB y i) (clrB_lt hy) (clrB_le y i)
      rw [f1, i1, nI_add, jmax_nI (by omega) (by omega)]
      exact ih (i + 1) _ (by omega) (by omega) hK
    · rw [if_neg h] at hK
      have tt : (decide (y / 2 ^ i % 2 = 1) && decide (w / 2 ^ i % 2 = 1)) = false := by
        cases hb : (decide (y / 2 ^ i % 2 = 1) && decide (w / 2 ^ i % 2 = 1)) with
        | false => rfl
        | true =>
          rw [Bool.and_eq_true, decide_eq_true_eq, decide_eq_true_eq] at hb
          exact absurd hb h
      rw [tt] at t
      rw [if_pos (of_decide_eq_true t)]
      exact ih (i + 1) c (by omega) hc hK
