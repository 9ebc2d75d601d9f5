-- sets as bits; the first place
def msk (P : Nat → Bool) : Nat → Nat
  | 0 => 0
  | n + 1 => msk P n + (if P n = true then 2 ^ n else 0)
theorem msk_lt (P : Nat → Bool) : ∀ n, msk P n < 2 ^ n := by
  intro n
  induction n with
  | zero => exact Nat.one_pos
  | succ n ih =>
    show msk P n + _ < 2 ^ (n + 1)
    rw [Nat.pow_succ]
    split <;> omega
theorem or_f : ∀ i, i < 6 → ∀ a, a < 64 → a < 2 ^ i → nI a ||| ((1 : Int32) <<< (nI i &&& 31)) = nI (a + 2 ^ i) := by decide +kernel
theorem or_0 : ∀ a, a < 64 → nI a ||| 0 = nI a := by decide +kernel
theorem two64 {i : Nat} (h : i ≤ 6) : 2 ^ i ≤ 64 := Nat.pow_le_pow_right (n := 2) (by omega) h
theorem msk_64 (P : Nat → Bool) {i : Nat} (h : i ≤ 6) : msk P i < 64 := Nat.lt_of_lt_of_le (msk_lt P i) (two64 h)
theorem msk_or {P : Nat → Bool} {i : Nat} (hi : i < 6) (h : P i = true) : nI (msk P i) ||| ((1 : Int32) <<< (nI i &&& 31)) = nI (msk P (i + 1)) := by
  rw [or_f i hi _ (msk_64 P (by omega)) (msk_lt P i)]
  show _ = nI (msk P i + (if P i = true then 2 ^ i else 0))
  rw [if_pos h]
theorem msk_no {P : Nat → Bool} {i : Nat} (h : ¬ P i = true) : nI (msk P i) = nI (msk P (i + 1)) := by
  show _ = nI (msk P i + (if P i = true then 2 ^ i else 0))
  rw [if_neg h, Nat.add_zero]
theorem msk_or0 {P : Nat → Bool} {i : Nat} (hi : i < 6) (h : ¬ P i = true) : nI (msk P i) ||| 0 = nI (msk P (i + 1)) := by
  rw [or_0 _ (msk_64 P (by omega)), msk_no h]
theorem msk_congr {P Q : Nat → Bool} : ∀ {n : Nat}, (∀ k, k < n → P k = Q k) → msk P n = msk Q n := by
  intro n
  induction n with
  | zero => intro _; rfl
  | succ n ih =>
    intro h
    show msk P n + _ = msk Q n + _
    rw [ih (fun k hk => h k (by omega)), h n (by omega)]
theorem msk_bits : ∀ n, n < 7 → ∀ lv, lv < 64 → lv < 2 ^ n → msk (fun k => decide (lv / 2 ^ k % 2 = 1)) n = lv := by decide +kernel
/-- the first place from i on, of d -/
def findP (P : Nat → Bool) : Nat → Nat → Option Nat
  | 0, _ => none
  | d + 1, i => if P i = true then some i else findP P d (i + 1)
theorem findP_some {P : Nat → Bool} : ∀ {d i e : Nat}, findP P d i = some e → i ≤ e ∧ e < i + d ∧ P e = true ∧ ∀ j, i ≤ j → j < e → ¬ P j = true := by
  intro d
  induction d with
  | zero => intro i e h; cases h
  | succ d ih =>
    intro i e h
    unfold findP at h
    by_cases hp : P i = true
    · rw [if_pos hp] at h
      cases h
      exact ⟨Nat.le_refl _, by omega, hp, fun j h1 h2 => absurd h2 (by omega)⟩
    · rw [if_neg hp] at h
      obtain ⟨a, b, c, f⟩ := ih h
      refine ⟨by omega, by omega, c, fun j h1 h2 => ?_⟩
      by_cases hj : j = i
      · subst hj; exact hp
      · exact f j (by omega) h2
theorem findP_none {P : Nat → Bool} : ∀ {d i : Nat}, findP P d i = none → ∀ j, i ≤ j → j < i + d → ¬ P j = true := by
  intro d
  induction d with
  | zero => intro i _ j h1 h2; omega
  | succ d ih =>
    intro i h j h1 h2
    unfold findP at h
    by_cases hp : P i = true
    · rw [if_pos hp] at h; cases h
    · rw [if_neg hp] at h
      by_cases hj : j = i
      · subst hj; exact hp
      · exact ih h j (by omega) (by omega)
theorem findP_eq {P : Nat → Bool} {d i e : Nat} (h1 : i ≤ e) (h2 : e < i + d) (h3 : P e = true) (h4 : ∀ j, i ≤ j → j < e → ¬ P j = true) : findP P d i = some e := by
  cases h : findP P d i with
  | none => exact absurd h3 (findP_none h e h1 h2)
  | some q =>
    obtain ⟨a, b, c, f⟩ := findP_some h
    rcases Nat.lt_trichotomy q e with g | g | g
    · exact absurd c (h4 q a g)
    · rw [g]
    · exact absurd h3 (f e h1 g)
theorem findP_eq0 {P : Nat → Bool} {d i : Nat} (h : ∀ j, i ≤ j → j < i + d → ¬ P j = true) : findP P d i = none := by
  cases h1 : findP P d i with
  | none => rfl
  | some q =>
    obtain ⟨a, b, c, f⟩ := findP_some h1
    exact absurd c (h q a b)
/-- what comes round again from i0 on is seen in one round -/
theorem per_none {P : Nat → Bool} {i i0 m p : Nat} (hp : 0 < p) (hi : i ≤ m) (h0 : i0 ≤ m) (hP : ∀ e, i0 ≤ e → P (e + p) = P e) (h : ∀ j, i ≤ j → j < m + p → ¬ P j = true) : ∀ e, i ≤ e → ¬ P e = true := by
  intro e
  induction e using Nat.strongRecOn with
  | _ e ih =>
    intro he
    by_cases h1 : e < m + p
    · exact h e he h1
    · have h2 : P e = P (e - p) := by
        have := hP (e - p) (by omega)
        rw [show e - p + p = e by omega] at this
        exact this
      rw [h2]
      exact ih (e - p) (by omega) (by omega)
theorem find_per {P : Nat → Bool} {i i0 m p d1 d2 : Nat} (hp : 0 < p) (hi : i ≤ m) (h0 : i0 ≤ m) (hP : ∀ e, i0 ≤ e → P (e + p) = P e) (h1 : m + p ≤ i + d1) (h2 : m + p ≤ i + d2) : findP P d1 i = findP P d2 i := by
  cases h : findP P d1 i with
  | none =>
    have h3 := per_none hp hi h0 hP (fun j a b => findP_none h j a (by omega))
    exact (findP_eq0 (fun j a _ => h3 j a)).symm
  | some e =>
    obtain ⟨a, b, c, f⟩ := findP_some h
    have he : e < m + p := by
      refine Nat.lt_of_not_le (fun hge => ?_)
      exact per_none hp hi h0 hP (fun j g1 g2 => f j g1 (by omega)) e a c
    exact (findP_eq a (by omega) c f).symm
