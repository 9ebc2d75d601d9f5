-- marriages: the Java's answer
theorem twosX {n : Nat} {w : Nat → Nat} (h6 : n ≤ 6) (hww : ∀ a, a < n → w a < 64) {K : St → Prop} (hK : ∀ S : St, (∀ u, u < 2 ^ n → S.2 1 u = nI (dpF w (2 ^ n) u)) → K S) : ∀ m i (S : St), i + m = 2 ^ n → 1 ≤ i → (∀ a, a < n → S.2 0 a = nI (w a)) → (∀ u, u < i → S.2 1 u = nI (dpF w i u)) → wl_X4_mostTwos_51 (nI (2 ^ n - 1)) K (m + 1) (nI i) S := by
  have hp : 2 ^ n ≤ 64 := two64 h6
  intro m
  induction m with
  | zero =>
    intro i S hi h1 hA hB
    have e : i = 2 ^ n := by omega
    subst e
    unfold wl_X4_mostTwos_51
    rw [if_pos (nI_lt (by omega) (by omega))]
    exact hK S hB
  | succ m ih =>
    intro i S hi h1 hA hB
    unfold wl_X4_mostTwos_51
    rw [if_neg (nI_nlt (by omega) (by omega)), nI_1]
    refine bestX h1 (by omega) (fun k hk hb => ?_) hB ?_
    · have hkn : k < n := by
        by_cases hlt : k < n
        · exact hlt
        · have h2 : 2 ^ n ≤ 2 ^ k := Nat.pow_le_pow_right (by omega) (by omega)
          rw [Nat.div_eq_of_lt (by omega)] at hb
          exact absurd hb (by decide)
      exact ⟨hA k hkn, hww k hkn⟩
    · refine put_nI (show i < 64 by omega) (by omega) ?_
      refine ih (i + 1) _ (by omega) (by omega) hA (fun u hu => ?_)
      show upd (S.2 1) i (nI (dpF w (i + 1) i)) u = nI (dpF w (i + 1) u)
      unfold upd
      by_cases e : u = i
      · rw [if_pos e, e]
      · rw [if_neg e, hB u (by omega)]
        show _ = nI (nup (dpF w i) i _ u)
        unfold nup
        rw [if_neg e]
