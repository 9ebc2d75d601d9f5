-- laid by wip/whole/mkstate.py: what the objects hold, as cells
abbrev St : Type := (Nat → Int32) × (Nat → Nat → Int32)
def sI (S : St) (k : Nat) (v : Int32) : St := (va_up S.1 k v, S.2)
def sA (S : St) (k : Nat) (f : Nat → Int32) : St := (S.1, va_up S.2 k f)
def jmax (x y : Int32) : Int32 := if x < y then y else x
def jmin (x y : Int32) : Int32 := if y < x then y else x
theorem ne_toInt {x y : Int32} (h : ¬ x = y) : x.toInt ≠ y.toInt := fun e => h (Int32.toInt_inj.mp e)
theorem nb_of {v : Int32} (h : v = 0 ∨ v = 1) : narrow .boolean (.int v) = .int v := by rcases h with rfl | rfl <;> rfl
theorem vp_two {x : Int32} {n : Nat} (h0 : ¬ x < 0) (h1 : ¬ nI n ≤ x) (hn : n < 2 ^ 31) : vp_in x n := by
  rcases pk_ix x hn with h | h | ⟨j, hj, rfl⟩
  · exact absurd h h0
  · exact absurd h h1
  · exact vp_in_nI hj hn
theorem ne_of_nle {x : Int32} (h : ¬ x ≤ 0) : ¬ x = 0 := fun e => h (by rw [e]; decide)
theorem ne_of_pos {x : Int32} (h : 0 < x) : ¬ x = 0 := fun e => absurd h (by rw [e]; decide)
theorem ne_of_lg {x : Int64} (h : ¬ lg_cmp x 0 ≤ 0) : ¬ x = 0 := fun e => h (by rw [e]; decide)
def kcells (cI : ClassId) (r a n : Nat) (f : Nat → Int32) : va_W := [(r, .inr (3, [.ref a])), (a, .inl (cI, n, .inl f))]
def rcells (cI : ClassId) (ad : Nat → Nat) (o : Nat) (S : St) : va_W := [((ad o), .inr (2, [.int (S.1 0), .int (S.1 1), .int (S.1 2), .int (S.1 3), .int (S.1 4), .int (S.1 5), .int (S.1 6), .ref (ad (o + 1)), .ref (ad (o + 2)), .ref (ad (o + 3)), .ref (ad (o + 4)), .ref (ad (o + 5)), .ref (ad (o + 6)), .ref (ad (o + 7)), .ref (ad (o + 8))])), ((ad (o + 1)), .inr (3, [.ref (ad (o + 9))])), ((ad (o + 2)), .inr (3, [.ref (ad (o + 10))])), ((ad (o + 3)), .inr (3, [.ref (ad (o + 11))])), ((ad (o + 4)), .inr (3, [.ref (ad (o + 12))])), ((ad (o + 5)), .inr (3, [.ref (ad (o + 13))])), ((ad (o + 6)), .inr (3, [.ref (ad (o + 14))])), ((ad (o + 7)), .inr (3, [.ref (ad (o + 15))])), ((ad (o + 8)), .inr (3, [.ref (ad (o + 16))])), ((ad (o + 9)), .inl (cI, 6, .inl (S.2 7))), ((ad (o + 10)), .inl (cI, 6, .inl (S.2 8))), ((ad (o + 11)), .inl (cI, 6, .inl (S.2 9))), ((ad (o + 12)), .inl (cI, 6, .inl (S.2 10))), ((ad (o + 13)), .inl (cI, 6, .inl (S.2 11))), ((ad (o + 14)), .inl (cI, 6, .inl (S.2 12))), ((ad (o + 15)), .inl (cI, 8, .inl (S.2 13))), ((ad (o + 16)), .inl (cI, 8, .inl (S.2 14)))]
def pcells (cI : ClassId) (ad : Nat → Nat) (o : Nat) (S : St) : va_W := [((ad o), .inr (1, [.ref (ad (o + 1)), .int (S.1 1)])), ((ad (o + 1)), .inr (3, [.ref (ad (o + 2))])), ((ad (o + 2)), .inl (cI, 60, .inl (S.2 0)))]
def dcells (cI : ClassId) (ad : Nat → Nat) (o : Nat) (S : St) : va_W := [((ad o), .inr (0, [.ref (ad (o + 1)), .int (S.1 1), .int (S.1 2), .int (S.1 3), .int (S.1 4), .int (S.1 5), .int (S.1 6)])), ((ad (o + 1)), .inr (3, [.ref (ad (o + 2))])), ((ad (o + 2)), .inl (cI, 6, .inl (S.2 0)))]
def wcells (cI : ClassId) (ad : Nat → Nat) (o : Nat) (S : St) : va_W := [((ad o), .inr (4, [.ref (ad (o + 1)), .ref (ad (o + 2))])), ((ad (o + 1)), .inr (3, [.ref (ad (o + 3))])), ((ad (o + 2)), .inr (3, [.ref (ad (o + 4))])), ((ad (o + 3)), .inl (cI, 6, .inl (S.2 0))), ((ad (o + 4)), .inl (cI, 64, .inl (S.2 1)))]
def ycells (ad : Nat → Nat) (o : Nat) (S : St) : va_W := [((ad o), .inr (5, [.int (S.1 0), .int (S.1 1)]))]
def xcell (ad : Nat → Nat) : va_W := [((ad 0), .inr (6, [.ref (ad 1), .ref (ad 18), .ref (ad 35), .ref (ad 52), .ref (ad 69), .ref (ad 71), .ref (ad 74), .ref (ad 75), .ref (ad 78)]))]
def mcells (cI cZ : ClassId) (ad : Nat → Nat) (o : Nat) (S : St) : va_W := [((ad o), .inr (7, [.int (S.1 0), .int (S.1 1), .int (S.1 2), .int (S.1 3), .int (S.1 4), .ref (ad (o + 1)), .ref (ad (o + 2)), .ref (ad (o + 3)), .ref (ad (o + 4)), .ref (ad (o + 5)), .int (S.1 10), .ref (ad (o + 6)), .int (S.1 12), .ref (ad (o + 7)), .int (S.1 14), .int (S.1 15), .int (S.1 16), .ref (ad (o + 8)), .ref (ad (o + 9)), .ref (ad (o + 10)), .ref (ad (o + 11)), .int (S.1 21), .int (S.1 22), .ref (ad (o + 12)), .ref (ad (o + 13)), .ref (ad (o + 14)), .ref (ad (o + 15))])), ((ad (o + 1)), .inl (cI, 6, .inl (S.2 5))), ((ad (o + 2)), .inl (cI, 6, .inl (S.2 6))), ((ad (o + 3)), .inl (cI, 6, .inl (S.2 7))), ((ad (o + 4)), .inl (cI, 6, .inl (S.2 8))), ((ad (o + 5)), .inl (cI, 6, .inl (S.2 9))), ((ad (o + 6)), .inl (cI, 16, .inl (S.2 11))), ((ad (o + 7)), .inl (cI, 60, .inl (S.2 13))), ((ad (o + 8)), .inl (cI, 6, .inl (S.2 17))), ((ad (o + 9)), .inl (cI, 6, .inl (S.2 18))), ((ad (o + 10)), .inl (cI, 6, .inl (S.2 19))), ((ad (o + 11)), .inl (cI, 6, .inl (S.2 20))), ((ad (o + 12)), .inl (cI, 6, .inl (S.2 23))), ((ad (o + 13)), .inl (cI, 6, .inl (S.2 24))), ((ad (o + 14)), .inl (cI, 140, .inl (S.2 25))), ((ad (o + 15)), .inl (cZ, 2, .inl (S.2 26)))]
