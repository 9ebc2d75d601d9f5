-- marriages: mostTwos
theorem t_all : ∀ n, n < 7 → ((1 : Int32) <<< (nI n &&& 31)) - 1 = nI (2 ^ n - 1) := by decide +kernel
def twN (r : NS) (x : Nat) : Nat := dpF (fun a => msk (mate r x a) (r.1 0)) (2 ^ r.1 0) (2 ^ r.1 0 - 1)
theorem mostX {r : NS} (hw : WF r) {x : Nat} (hx : x < 2 ^ 20) {S0 : St} {K : Int32 → St → Prop} (hK : ∀ S, K (nI (twN r x)) S) : wp_X4_mostTwos S0 (NI r) (nI x) K := by
  have h6 := hw.2.1
  have hp : 2 ^ r.1 0 ≤ 64 := two64 h6
  have h0 : 0 < 2 ^ r.1 0 := Nat.two_pow_pos _
  unfold wp_X4_mostTwos
  rw [NI_1, t_all _ (by omega)]
  have key := matesRow hw hx (K := fun (Z4 : St) => (wp_X3_put 64 (Z4.2 1) 0 0 (fun (Z5 : (Nat → Int32)) => (∃ M10, wl_X4_mostTwos_51 (nI (2 ^ r.1 0 - 1)) (fun (Z9 : St) => (K (F_X3_get 64 (Z9.2 1) (nI (2 ^ r.1 0 - 1))) Z9)) M10 1 (sA Z4 1 Z5))))) (fun S hS => by
    have p := put_nI (n := 64) (k := 0) (f := S.2 1) (v := 0) (K := fun (Z5 : (Nat → Int32)) => (∃ M10, wl_X4_mostTwos_51 (nI (2 ^ r.1 0 - 1)) (fun (Z9 : St) => (K (F_X3_get 64 (Z9.2 1) (nI (2 ^ r.1 0 - 1))) Z9)) M10 1 (sA S 1 Z5))) (by omega) (by omega) (by
      have t := twosX (n := r.1 0) (w := fun a => msk (mate r x a) (r.1 0)) h6 (fun a _ => msk_64 _ h6) (K := fun (Z9 : St) => (K (F_X3_get 64 (Z9.2 1) (nI (2 ^ r.1 0 - 1))) Z9)) (fun Z hZ => by
        rw [get_nI _ (show 2 ^ r.1 0 - 1 < 64 by omega) (by omega), hZ _ (by omega)]
        exact hK Z) (2 ^ r.1 0 - 1) 1 (sA S 1 (upd (S.2 1) 0 0)) (by omega) (Nat.le_refl _) hS (fun u hu => by
        have e : u = 0 := by omega
        subst e
        show upd (S.2 1) 0 0 0 = nI 0
        unfold upd
        rw [if_pos rfl, nI_0])
      rw [← i1] at t
      exact ⟨_, t⟩)
    rw [nI_0] at p
    exact p) (r.1 0) 0 S0 (by omega) (fun a ha => absurd ha (by omega))
  rw [nI_0] at key
  exact ⟨_, key⟩
