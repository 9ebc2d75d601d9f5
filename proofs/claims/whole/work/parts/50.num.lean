-- numbers: Int32 as nI of naturals
abbrev NS : Type := (Nat → Nat) × (Nat → Nat → Nat)
def NI (r : NS) : St := (fun i => nI (r.1 i), fun j k => nI (r.2 j k))
def nsI (r : NS) (k v : Nat) : NS := (va_up r.1 k v, r.2)
def nsA (r : NS) (k : Nat) (g : Nat → Nat) : NS := (r.1, va_up r.2 k g)
def nup (g : Nat → Nat) (k v : Nat) : Nat → Nat := fun j => if j = k then v else g j
theorem NI_1 (r : NS) (i : Nat) : (NI r).1 i = nI (r.1 i) := rfl
theorem NI_2 (r : NS) (j k : Nat) : (NI r).2 j k = nI (r.2 j k) := rfl
theorem NI_2f (r : NS) (j : Nat) : (NI r).2 j = fun k => nI (r.2 j k) := rfl
theorem sI_NI (r : NS) (k v : Nat) : sI (NI r) k (nI v) = NI (nsI r k v) := by
  unfold sI NI nsI
  refine Prod.ext ?_ rfl
  funext i
  show va_up _ _ _ _ = nI (va_up _ _ _ _)
  unfold va_up
  split <;> rfl
theorem sA_NI (r : NS) (k : Nat) (g : Nat → Nat) : sA (NI r) k (fun j => nI (g j)) = NI (nsA r k g) := by
  unfold sA NI nsA
  refine Prod.ext rfl ?_
  funext i
  funext j
  show (if i = k then (fun j => nI (g j)) else (fun k => nI (r.2 i k))) j = nI ((if i = k then g else r.2 i) j)
  by_cases h : i = k
  · rw [if_pos h, if_pos h]
  · rw [if_neg h, if_neg h]
theorem upd_nI (g : Nat → Nat) (k v : Nat) : upd (fun j => nI (g j)) k (nI v) = fun j => nI (nup g k v j) := by
  funext j
  unfold upd nup
  split <;> rfl
theorem nsI_1 (r : NS) (k v i : Nat) : (nsI r k v).1 i = if i = k then v else r.1 i := rfl
theorem nsI_2 (r : NS) (k v : Nat) : (nsI r k v).2 = r.2 := rfl
theorem nsA_1 (r : NS) (k : Nat) (g : Nat → Nat) : (nsA r k g).1 = r.1 := rfl
theorem nsA_2 (r : NS) (k : Nat) (g : Nat → Nat) (j : Nat) : (nsA r k g).2 j = if j = k then g else r.2 j := rfl
/-- every Int32 is nI of a natural -/
theorem ex_nI (x : Int32) : ∃ n : Nat, n < 2 ^ 32 ∧ x = nI n := by
  refine ⟨x.toBitVec.toNat, x.toBitVec.isLt, ?_⟩
  apply Int32.toBitVec_inj.mp
  apply BitVec.eq_of_toNat_eq
  show _ = (Int32.ofNat _).toBitVec.toNat
  simp [Int32.ofNat]
theorem ex_NI (S : St) : ∃ r : NS, S = NI r := by
  have h1 : ∀ i, ∃ n, S.1 i = nI n := fun i => by obtain ⟨n, -, h⟩ := ex_nI (S.1 i); exact ⟨n, h⟩
  have h2 : ∀ j k, ∃ n, S.2 j k = nI n := fun j k => by obtain ⟨n, -, h⟩ := ex_nI (S.2 j k); exact ⟨n, h⟩
  refine ⟨(fun i => Classical.choose (h1 i), fun j k => Classical.choose (h2 j k)), ?_⟩
  refine Prod.ext ?_ ?_
  · funext i; exact Classical.choose_spec (h1 i)
  · funext j k; exact Classical.choose_spec (h2 j k)
theorem clamp_nI {k : Nat} (h : k < 2 ^ 31) : (nI k).toNatClampNeg = k := nI_clamp h
/-- an Int32 that is no place below n -/
theorem cases_ix (x : Int32) {n : Nat} (hn : n < 2 ^ 31) : (∃ j, j < n ∧ x = nI j) ∨ x < 0 ∨ (¬ x < 0 ∧ nI n ≤ x) := by
  rcases pk_ix x hn with h | h | h
  · exact Or.inr (Or.inl h)
  · by_cases h0 : x < 0
    · exact Or.inr (Or.inl h0)
    · exact Or.inr (Or.inr ⟨h0, h⟩)
  · exact Or.inl h
/-! Row -/
theorem get_nI {n k : Nat} (f : Nat → Int32) (hk : k < n) (hn : n < 2 ^ 31) : F_X3_get n f (nI k) = f k := by
  unfold F_X3_get
  rw [if_neg (nI_pos (by omega)), if_neg (nI_ge hk hn), nI_clamp (by omega)]
theorem put_nI {n k : Nat} {f : Nat → Int32} {v : Int32} {K : (Nat → Int32) → Prop} (hk : k < n) (hn : n < 2 ^ 31) (h : K (upd f k v)) : wp_X3_put n f (nI k) v K := by
  unfold wp_X3_put
  rw [if_neg (nI_pos (by omega)), if_neg (nI_ge hk hn), nI_clamp (by omega)]
  exact h
theorem fill_lp {n : Nat} {v : Int32} {kx : (Nat → Int32) → Prop} (hn : n < 2 ^ 30) : ∀ (d i : Nat) (f : Nat → Int32), i + d = n → kx (fun j => if i ≤ j ∧ j < n then v else f j) → wl_X3_fill_2 n v kx (d + 1) (nI i) f := by
  intro d
  induction d with
  | zero =>
    intro i f hi h
    unfold wl_X3_fill_2
    rw [if_pos (nI_le (by omega) (by omega))]
    have e : (fun j => if i ≤ j ∧ j < n then v else f j) = f := by
      funext j
      rw [if_neg (by omega)]
    rw [e] at h
    exact h
  | succ d ih =>
    intro i f hi h
    unfold wl_X3_fill_2
    rw [if_neg (nI_ge (by omega) (by omega)), nI_clamp (by omega), nI_1]
    refine ⟨vp_in_nI (by omega) (by omega), ih (i + 1) _ (by omega) ?_⟩
    have e : (fun j => if i + 1 ≤ j ∧ j < n then v else upd f i v j) = (fun j => if i ≤ j ∧ j < n then v else f j) := by
      funext j
      unfold upd
      by_cases h1 : j = i
      · subst h1
        rw [if_neg (by omega), if_pos rfl, if_pos (by omega)]
      · rw [if_neg h1]
        by_cases h2 : i + 1 ≤ j ∧ j < n
        · rw [if_pos h2, if_pos (by omega)]
        · rw [if_neg h2, if_neg (by omega)]
    rw [e]
    exact h
theorem fill_nI {n : Nat} {f : Nat → Int32} {v : Int32} {K : (Nat → Int32) → Prop} (hn : n < 2 ^ 30) (h : K (fun j => if j < n then v else f j)) : wp_X3_fill n f v K := by
  unfold wp_X3_fill
  refine ⟨n + 1, ?_⟩
  have := fill_lp (n := n) (v := v) (kx := fun Z => K Z) hn n 0 f (by omega) (by simpa using h)
  exact this
theorem take_lp {n : Nat} {f1 : Nat → Int32} {kx : (Nat → Int32) → Prop} (hn : n < 2 ^ 30) : ∀ (d i : Nat) (f : Nat → Int32), i + d = n → kx (fun j => if i ≤ j ∧ j < n then f1 j else f j) → wl_X3_takeOver_2 n f1 kx (d + 1) (nI i) f := by
  intro d
  induction d with
  | zero =>
    intro i f hi h
    unfold wl_X3_takeOver_2
    rw [if_pos (nI_le (by omega) (by omega))]
    have e : (fun j => if i ≤ j ∧ j < n then f1 j else f j) = f := by
      funext j
      rw [if_neg (by omega)]
    rw [e] at h
    exact h
  | succ d ih =>
    intro i f hi h
    unfold wl_X3_takeOver_2
    rw [if_neg (nI_ge (by omega) (by omega)), nI_clamp (by omega), nI_1, get_nI f1 (by omega) (by omega)]
    refine ⟨vp_in_nI (by omega) (by omega), ih (i + 1) _ (by omega) ?_⟩
    have e : (fun j => if i + 1 ≤ j ∧ j < n then f1 j else upd f i (f1 i) j) = (fun j => if i ≤ j ∧ j < n then f1 j else f j) := by
      funext j
      unfold upd
      by_cases h1 : j = i
      · subst h1
        rw [if_neg (by omega), if_pos rfl, if_pos (by omega)]
      · rw [if_neg h1]
        by_cases h2 : i + 1 ≤ j ∧ j < n
        · rw [if_pos h2, if_pos (by omega)]
        · rw [if_neg h2, if_neg (by omega)]
    rw [e]
    exact h
theorem take_nI {n : Nat} {f f1 : Nat → Int32} {K : (Nat → Int32) → Prop} (hn : n < 2 ^ 30) (h : K (fun j => if j < n then f1 j else f j)) : wp_X3_takeOver n f f1 K := by
  unfold wp_X3_takeOver
  refine ⟨n + 1, ?_⟩
  have := take_lp (n := n) (f1 := f1) (kx := fun Z => K Z) hn n 0 f (by omega) (by simpa using h)
  exact this
/-! small functions of the face -/
theorem within_in (x lo hi : Int32) : F_X6_within x lo hi = F_X7_in x lo hi := rfl
theorem in_ne (x lo hi : Int32) : ¬ F_X7_in x lo hi = 0 ↔ lo ≤ x ∧ x ≤ hi := by
  unfold F_X7_in
  by_cases h1 : x < lo
  · rw [if_pos h1]
    exact ⟨fun h => absurd rfl h, fun h => absurd h1 (Int32.not_lt.mpr h.1)⟩
  · rw [if_neg h1]
    by_cases h2 : hi < x
    · rw [if_pos h2]
      exact ⟨fun h => absurd rfl h, fun h => absurd h2 (Int32.not_lt.mpr h.2)⟩
    · rw [if_neg h2]
      exact ⟨fun _ => ⟨Int32.not_lt.mp h1, Int32.not_lt.mp h2⟩, fun _ => by decide⟩
theorem in_nat {x : Int32} {a b : Nat} (hb : b + 1 < 2 ^ 31) (ha : a ≤ b) (h : ¬ F_X7_in x (nI a) (nI b) = 0) : ∃ n : Nat, a ≤ n ∧ n ≤ b ∧ x = nI n := by
  obtain ⟨h1, h2⟩ := (in_ne _ _ _).mp h
  rcases cases_ix x (n := b + 1) (by omega) with ⟨j, hj, rfl⟩ | h3 | ⟨-, h3⟩
  · exact ⟨j, (nI_leI (by omega) (by omega)).mp h1, by omega, rfl⟩
  · exact absurd (Int32.lt_of_lt_of_le h3 (nI_pos' (by omega))) (Int32.not_lt.mpr h1)
  · exact absurd (Int32.le_trans h3 h2) (nI_ge (by omega) (by omega))
