-- marriages: codes are pairings
def avl (u : Nat) : Nat → Bool := fun x => decide (x < 6) && decide (u / 2 ^ x % 2 = 0)
theorem avl_t {u x : Nat} : avl u x = true ↔ x < 6 ∧ u / 2 ^ x % 2 = 0 := by
  unfold avl
  rw [Bool.and_eq_true, decide_eq_true_eq, decide_eq_true_eq]
theorem avl_set {u a b : Nat} (hu : u < 64) (ha : a < 6) (hb : b < 6) (x : Nat) : avl (setB (setB u a) b) x = true ↔ mns (mns (avl u) a) b x = true := by
  obtain ⟨s1, s2⟩ := t_seb u hu a ha
  obtain ⟨-, s4⟩ := t_seb _ s1 b hb
  rw [mns_t, mns_t, avl_t, avl_t]
  constructor
  · intro ⟨h, y⟩
    rw [s4 x h] at y
    by_cases e : x = b
    · rw [if_pos e] at y; omega
    · rw [if_neg e, s2 x h] at y
      by_cases e2 : x = a
      · rw [if_pos e2] at y; omega
      · rw [if_neg e2] at y
        exact ⟨⟨⟨h, y⟩, e2⟩, e⟩
  · intro ⟨⟨⟨h, y⟩, e2⟩, e⟩
    refine ⟨h, ?_⟩
    rw [s4 x h, if_neg e, s2 x h, if_neg e2]
    exact y
theorem run_mat (P : Nat → Nat → Bool) : ∀ s c u k q, u < 64 → runM P s c u k = some q → k ≤ q ∧ Mat P (q - k) (avl u) := by
  intro s
  induction s with
  | zero =>
    intro c u k q _ h
    have e : k = q := Option.some.inj h
    subst e
    rw [Nat.sub_self]
    exact ⟨Nat.le_refl _, trivial⟩
  | succ s ih =>
    intro c u k q hu h
    have a6 : c % 6 < 6 := Nat.mod_lt _ (by omega)
    have b6 : c / 6 % 6 < 6 := Nat.mod_lt _ (by omega)
    obtain ⟨s1, -⟩ := t_seb u hu _ a6
    obtain ⟨s2, -⟩ := t_seb _ s1 _ b6
    unfold runM at h
    split at h
    · exact ih _ _ _ _ hu h
    · split at h
      · rename_i g
        obtain ⟨l, hm⟩ := ih _ _ _ _ s2 h
        refine ⟨by omega, ?_⟩
        rw [show q - k = (q - (k + 1)) + 1 by omega]
        exact ⟨c % 6, c / 6 % 6, avl_t.2 ⟨a6, g.2.2.1⟩, avl_t.2 ⟨b6, g.2.2.2⟩, by omega, g.2.1, mat_sub _ (fun x hx => (avl_set hu a6 b6 x).1 hx) hm⟩
      · exact absurd h (by simp)
theorem run_0 (P : Nat → Nat → Bool) (u k : Nat) : ∀ s, runM P s 0 u k = some k := by
  intro s
  induction s with
  | zero => rfl
  | succ s ih =>
    unfold runM
    rw [if_pos ⟨by decide, by decide⟩]
    exact ih
theorem mat_run {P : Nat → Nat → Bool} (sym : ∀ a b, P a b = true → P b a = true) : ∀ s k u k0, u < 64 → k ≤ s → Mat P k (avl u) → ∃ c, c < 36 ^ s ∧ runM P s c u k0 = some (k0 + k) := by
  intro s
  induction s with
  | zero =>
    intro k u k0 _ hk _
    refine ⟨0, by decide, ?_⟩
    rw [show k0 + k = k0 by omega]
    rfl
  | succ s ih =>
    intro k u k0 hu hk hm
    cases k with
    | zero => exact ⟨0, Nat.pow_pos (by omega), run_0 P u k0 _⟩
    | succ k =>
      obtain ⟨a, b, ha, hb, ne, p, hm⟩ := hm
      have fin : ∀ a b, avl u a = true → avl u b = true → a < b → P a b = true → Mat P k (mns (mns (avl u) a) b) → ∃ c, c < 36 ^ (s + 1) ∧ runM P (s + 1) c u k0 = some (k0 + (k + 1)) := by
        intro a b ha hb l p hm
        obtain ⟨a6, ua⟩ := avl_t.1 ha
        obtain ⟨b6, ub⟩ := avl_t.1 hb
        obtain ⟨s1, -⟩ := t_seb u hu _ a6
        obtain ⟨s2, -⟩ := t_seb _ s1 _ b6
        obtain ⟨c, hc, hr⟩ := ih k _ (k0 + 1) s2 (by omega) (mat_sub k (fun x hx => (avl_set hu a6 b6 x).2 hx) hm)
        have e1 : (a + 6 * b + 36 * c) % 6 = a := by omega
        have e2 : (a + 6 * b + 36 * c) / 6 % 6 = b := by omega
        have e3 : (a + 6 * b + 36 * c) / 36 = c := by omega
        refine ⟨a + 6 * b + 36 * c, ?_, ?_⟩
        · rw [Nat.pow_succ]
          generalize 36 ^ s = t at hc
          omega
        · unfold runM
          rw [e1, e2, e3, if_neg (by omega), if_pos ⟨l, p, ua, ub⟩, hr]
          congr 1
          omega
      by_cases l : a < b
      · exact fin a b ha hb l p hm
      · exact fin b a hb ha (by omega) (sym _ _ p) (mat_sub k (fun x hx => by
          simp only [mns_t] at hx ⊢
          exact ⟨⟨hx.1.1, hx.2⟩, hx.1.2⟩) hm)
def crd (S : Nat → Bool) : Nat := (S 0).toNat + (S 1).toNat + (S 2).toNat + (S 3).toNat + (S 4).toNat + (S 5).toNat
theorem crd_6 (S : Nat → Bool) : crd S ≤ 6 := by
  have h : ∀ b : Bool, b.toNat ≤ 1 := fun b => by cases b <;> decide
  have h0 := h (S 0)
  have h1 := h (S 1)
  have h2 := h (S 2)
  have h3 := h (S 3)
  have h4 := h (S 4)
  have h5 := h (S 5)
  unfold crd
  omega
theorem mns_at {S : Nat → Bool} {a : Nat} : mns S a a = false := by
  unfold mns
  rw [decide_eq_true rfl, Bool.not_true, Bool.and_false]
theorem mns_ne {S : Nat → Bool} {a x : Nat} (h : x ≠ a) : mns S a x = S x := by
  unfold mns
  rw [decide_eq_false h, Bool.not_false, Bool.and_true]
theorem crd_m {S : Nat → Bool} {a : Nat} (h : S a = true) (ha : a < 6) : crd (mns S a) + 1 = crd S := by
  have t1 : true.toNat = 1 := rfl
  have t0 : false.toNat = 0 := rfl
  have c : a = 0 ∨ a = 1 ∨ a = 2 ∨ a = 3 ∨ a = 4 ∨ a = 5 := by omega
  unfold crd
  rcases c with e | e | e | e | e | e
  · subst e
    rw [mns_at, mns_ne (x := 1) (by omega), mns_ne (x := 2) (by omega), mns_ne (x := 3) (by omega), mns_ne (x := 4) (by omega), mns_ne (x := 5) (by omega), h, t1, t0]
    omega
  · subst e
    rw [mns_at, mns_ne (x := 0) (by omega), mns_ne (x := 2) (by omega), mns_ne (x := 3) (by omega), mns_ne (x := 4) (by omega), mns_ne (x := 5) (by omega), h, t1, t0]
    omega
  · subst e
    rw [mns_at, mns_ne (x := 0) (by omega), mns_ne (x := 1) (by omega), mns_ne (x := 3) (by omega), mns_ne (x := 4) (by omega), mns_ne (x := 5) (by omega), h, t1, t0]
    omega
  · subst e
    rw [mns_at, mns_ne (x := 0) (by omega), mns_ne (x := 1) (by omega), mns_ne (x := 2) (by omega), mns_ne (x := 4) (by omega), mns_ne (x := 5) (by omega), h, t1, t0]
    omega
  · subst e
    rw [mns_at, mns_ne (x := 0) (by omega), mns_ne (x := 1) (by omega), mns_ne (x := 2) (by omega), mns_ne (x := 3) (by omega), mns_ne (x := 5) (by omega), h, t1, t0]
    omega
  · subst e
    rw [mns_at, mns_ne (x := 0) (by omega), mns_ne (x := 1) (by omega), mns_ne (x := 2) (by omega), mns_ne (x := 3) (by omega), mns_ne (x := 4) (by omega), h, t1, t0]
theorem mat_crd {P : Nat → Nat → Bool} : ∀ k (S : Nat → Bool), (∀ x, S x = true → x < 6) → Mat P k S → 2 * k ≤ crd S := by
  intro k
  induction k with
  | zero => exact fun _ _ _ => Nat.zero_le _
  | succ k ih =>
    intro S h6 ⟨a, b, ha, hb, ne, p, hm⟩
    have h1 := crd_m ha (h6 a ha)
    have h2 := crd_m (S := mns S a) (a := b) (mns_t.2 ⟨hb, fun y => ne y.symm⟩) (h6 b hb)
    have := ih (mns (mns S a) b) (fun x hx => h6 x (mns_t.1 (mns_t.1 hx).1).1) hm
    omega
theorem t_full1 : ∀ n, n < 7 → ∀ x, x < 6 → x < n → (2 ^ n - 1) / 2 ^ x % 2 = 1 := by decide +kernel
theorem mx_tw {r : NS} (hw : WF r) {x B : Nat} (hB : B = 36 ^ 3) : mxF (pm r x) B = twN r x := by
  have h6 := hw.2.1
  have h0 : 0 < 2 ^ r.1 0 := Nat.two_pow_pos _
  have e : twN r x = bst (fun a => msk (mate r x a) (r.1 0)) (2 ^ r.1 0 - 1) := dp_st _ _ (by omega)
  have hP : ∀ a b, a < r.1 0 → b < r.1 0 → (msk (mate r x a) (r.1 0) / 2 ^ b % 2 = 1 ↔ pm r x a b = true) := by
    intro a b ha hb
    rw [msk_bit _ h6 b hb, pm_t]
    exact ⟨fun h => ⟨ha, hb, h⟩, fun h => h.2.2⟩
  refine Nat.le_antisymm ?_ ?_
  · cases mx_in (pm r x) B with
    | inl z => rw [z]; exact Nat.zero_le _
    | inr z =>
      obtain ⟨c, -, hr⟩ := z
      obtain ⟨-, hm⟩ := run_mat _ _ _ _ _ _ (by omega) hr
      rw [e]
      refine best_up h6 (fun a b => pm_sym a b) hP _ (by omega) _ ?_
      rw [Nat.sub_zero] at hm
      exact mat_mono (T := fun y => y < r.1 0) (fun a b h => ⟨(pm_t.1 h).1, (pm_t.1 h).2.1⟩) _ _ _ (fun y hy hs => bts_t.2 ⟨(avl_t.1 hs).1, t_full1 _ (by omega) y (avl_t.1 hs).1 hy⟩) hm
  · have hm := best_in (P := pm r x) (w := fun a => msk (mate r x a) (r.1 0)) h6 hP (2 ^ r.1 0 - 1) (by omega)
    rw [← e] at hm
    have hm2 : Mat (pm r x) (twN r x) (avl 0) := mat_sub _ (fun y hy => avl_t.2 ⟨(bts_t.1 hy).1, by rw [Nat.zero_div]⟩) hm
    have hc := mat_crd (twN r x) (avl 0) (fun y hy => (avl_t.1 hy).1) hm2
    have h6c := crd_6 (avl 0)
    obtain ⟨c, hc, hr⟩ := mat_run (fun a b => pm_sym a b) 3 (twN r x) 0 0 (by omega) (by omega) hm2
    rw [Nat.zero_add] at hr
    exact mx_ge hr B (by rw [hB]; exact hc)
theorem sim_marriages : Sim_marriages Inv := by
  intro X0 X1 X2 X3 X4 X5 X6 X7 X8 M a0 hI
  obtain ⟨⟨r, h0, hw, hm⟩, -⟩ := id hI
  subst h0
  have h6 := hw.2.1
  unfold wp_X6_marriages
  by_cases b0 : F_X7_in a0 1 24 = 0
  · rw [if_pos (show F_X6_within a0 1 24 = 0 from b0)]
    unfold wp_X7_marriages
    dsimp only
    rw [if_pos b0]
    exact ⟨rfl, hI⟩
  rw [if_neg (show ¬ F_X6_within a0 1 24 = 0 from b0)]
  obtain ⟨x, -, hx, e⟩ := inN (a := 1) (b := 24) b0 (by decide) (by decide) (by omega) (by omega)
  subst e
  refine mostX hw (by omega) (fun S => ?_)
  unfold wp_X7_marriages
  dsimp only
  rw [if_neg b0]
  obtain ⟨B, eB⟩ : ∃ B, B = 36 ^ 3 := ⟨_, rfl⟩
  have hB : (46656 : Int32) = nI B := by rw [eB]; decide
  have hB2 : B < 2 ^ 30 := by rw [eB]; decide
  have t := mar_lp hw hm (x := x) (by omega) hB hB2 (K := fun (q : Int32) => nI (twN r x) = q ∧ Inv (NI r) X1 X2 X3 X4 X5 X6 X7 S M) ⟨by rw [mx_tw hw eB], by have k := Inv_keep hI (Keep.refl M) X1 X6 X7 S; exact k⟩ B 0 (by omega)
  rw [show mxF (pm r x) 0 = 0 from rfl, nI_0] at t
  have f := freeM hw hm (K := fun (v5 : Int32) => ∃ M32, wl_X7_marriages_65 M (nI x) v5 (fun (q : Int32) => nI (twN r x) = q ∧ Inv (NI r) X1 X2 X3 X4 X5 X6 X7 S M) M32 0 0) ⟨_, t⟩ (r.1 0) 0 (by omega)
  rw [show msk (frB r) 0 = 0 from rfl, nI_0] at f
  exact ⟨_, f⟩
