-- marriages: the Java's best of every set
theorem t_cll : ∀ v, v < 64 → ∀ i, i < 6 → v / 2 ^ i % 2 = 1 → clrB v i < v := by decide +kernel
theorem t_low : ∀ v, v < 64 → v ≠ 0 → ntzN v < 6 ∧ v / 2 ^ (ntzN v) % 2 = 1 := by decide +kernel
theorem bs_le {f : Nat → Nat} {y w B : Nat} (hf : ∀ i, i < 6 → y / 2 ^ i % 2 = 1 → 1 + f (clrB y i) ≤ B) : ∀ m i c, i + m = 6 → c ≤ B → bsN f y w m i c ≤ B := by
  intro m
  induction m with
  | zero => exact fun i c _ h => h
  | succ m ih =>
    intro i c hi hc
    unfold bsN
    by_cases h : y / 2 ^ i % 2 = 1 ∧ w / 2 ^ i % 2 = 1
    · rw [if_pos h]
      have := hf i (by omega) h.1
      exact ih (i + 1) _ (by omega) (by omega)
    · rw [if_neg h]
      exact ih (i + 1) c (by omega) hc
/-- bests of the sets below i, of mates w -/
def dpF (w : Nat → Nat) : Nat → Nat → Nat
  | 0 => fun _ => 0
  | i + 1 => nup (dpF w i) i (if i = 0 then 0 else bsN (dpF w i) (clrB i (ntzN i)) (w (ntzN i)) (5 - ntzN i) (ntzN i + 1) (dpF w i (clrB i (ntzN i))))
theorem dp_le (w : Nat → Nat) : ∀ i, i ≤ 64 → ∀ v, v < i → dpF w i v ≤ v := by
  intro i
  induction i with
  | zero => exact fun _ v hv => absurd hv (by omega)
  | succ i ih =>
    intro hi v hv
    show nup (dpF w i) i _ v ≤ v
    unfold nup
    by_cases e : v = i
    · rw [if_pos e]
      by_cases z : i = 0
      · rw [if_pos z]; omega
      · rw [if_neg z]
        obtain ⟨l1, l2⟩ := t_low i (by omega) z
        have hc := t_cll i (by omega) _ l1 l2
        have h0 := ih (by omega) (clrB i (ntzN i)) hc
        refine bs_le (fun j hj hb => ?_) _ _ _ (by omega) (by omega)
        have c2 := t_cll (clrB i (ntzN i)) (by omega) j hj hb
        have h1 := ih (by omega) (clrB (clrB i (ntzN i)) j) (by omega)
        omega
    · rw [if_neg e]
      exact ih (by omega) v (by omega)
theorem bestX {S : St} {w : Nat → Nat} {v : Nat} (h1 : 0 < v) (hv : v < 64) (hww : ∀ k, k < 6 → v / 2 ^ k % 2 = 1 → S.2 0 k = nI (w k) ∧ w k < 64) (hf : ∀ u, u < v → S.2 1 u = nI (dpF w v u)) {K : Int32 → Prop} (hK : K (nI (dpF w (v + 1) v))) : wp_X4_bestOf S (nI v) K := by
  obtain ⟨l1, l2⟩ := t_low v hv (by omega)
  have hc := t_cll v hv _ l1 l2
  obtain ⟨w1, w2⟩ := hww _ l1 l2
  have t := t_ntz v hv
  rw [if_neg (by omega), if_neg (by omega)] at t
  have le0 := dp_le w v (by omega) (clrB v (ntzN v)) hc
  unfold wp_X4_bestOf
  rw [t, t_clb v hv _ l1, get_nI _ (clrB_lt hv) (by omega), hf _ hc, nI_1]
  have e : dpF w (v + 1) v = bsN (dpF w v) (clrB v (ntzN v)) (w (ntzN v)) (5 - ntzN v) (ntzN v + 1) (dpF w v (clrB v (ntzN v))) := by
    show nup (dpF w v) v _ v = _
    unfold nup
    rw [if_pos rfl, if_neg (by omega)]
  rw [e] at hK
  exact ⟨_, bsX l1 (clrB_lt hv) w2 w1 (fun u hu hu2 => ⟨hf u (by omega), by have := dp_le w v (by omega) u (by omega); omega⟩) (5 - ntzN v) (ntzN v + 1) _ (by omega) (by omega) hK⟩
