-- marriages: pairings
def mns (S : Nat → Bool) (a : Nat) : Nat → Bool := fun x => S x && !decide (x = a)
theorem mns_t {S : Nat → Bool} {a x : Nat} : mns S a x = true ↔ S x = true ∧ x ≠ a := by
  unfold mns
  rw [Bool.and_eq_true, Bool.not_eq_true', decide_eq_false_iff_not]
def Mat (P : Nat → Nat → Bool) : Nat → (Nat → Bool) → Prop
  | 0, _ => True
  | k + 1, S => ∃ a b, S a = true ∧ S b = true ∧ a ≠ b ∧ P a b = true ∧ Mat P k (mns (mns S a) b)
theorem mat_mono {P : Nat → Nat → Bool} {T : Nat → Prop} (hP : ∀ a b, P a b = true → T a ∧ T b) : ∀ k (S U : Nat → Bool), (∀ x, T x → S x = true → U x = true) → Mat P k S → Mat P k U := by
  intro k
  induction k with
  | zero => exact fun _ _ _ _ => trivial
  | succ k ih =>
    intro S U h ⟨a, b, ha, hb, ne, p, hm⟩
    refine ⟨a, b, h a (hP a b p).1 ha, h b (hP a b p).2 hb, ne, p, ih _ _ (fun x hx hs => ?_) hm⟩
    simp only [mns_t] at hs ⊢
    exact ⟨⟨h x hx hs.1.1, hs.1.2⟩, hs.2⟩
theorem mat_sub {P : Nat → Nat → Bool} (k : Nat) {S U : Nat → Bool} (h : ∀ x, S x = true → U x = true) : Mat P k S → Mat P k U :=
  mat_mono (T := fun _ => True) (fun _ _ _ => ⟨trivial, trivial⟩) k S U (fun x _ => h x)
theorem mat_split {P : Nat → Nat → Bool} (sym : ∀ a b, P a b = true → P b a = true) {i : Nat} : ∀ k (S : Nat → Bool), S i = true → Mat P k S → Mat P k (mns S i) ∨ ∃ j k', k = k' + 1 ∧ S j = true ∧ j ≠ i ∧ P i j = true ∧ Mat P k' (mns (mns S i) j) := by
  intro k
  induction k with
  | zero => exact fun _ _ _ => Or.inl trivial
  | succ k ih =>
    intro S hi ⟨a, b, ha, hb, ne, p, hm⟩
    by_cases ea : i = a
    · subst ea
      exact Or.inr ⟨b, k, rfl, hb, fun y => ne y.symm, p, hm⟩
    · by_cases eb : i = b
      · subst eb
        refine Or.inr ⟨a, k, rfl, ha, ne, sym _ _ p, mat_sub k (fun x hx => ?_) hm⟩
        simp only [mns_t] at hx ⊢
        exact ⟨⟨hx.1.1, hx.2⟩, hx.1.2⟩
      · have hi' : mns (mns S a) b i = true := by
          simp only [mns_t]
          exact ⟨⟨hi, ea⟩, eb⟩
        cases ih _ hi' hm with
        | inl h =>
          refine Or.inl ⟨a, b, ?_, ?_, ne, p, mat_sub k (fun x hx => ?_) h⟩
          · rw [mns_t]; exact ⟨ha, fun y => ea y.symm⟩
          · rw [mns_t]; exact ⟨hb, fun y => eb y.symm⟩
          · simp only [mns_t] at hx ⊢
            exact ⟨⟨⟨hx.1.1.1, hx.2⟩, hx.1.1.2⟩, hx.1.2⟩
        | inr h =>
          obtain ⟨j, k', e, hj, nj, pj, hm'⟩ := h
          subst e
          simp only [mns_t] at hj
          refine Or.inr ⟨j, k' + 1, rfl, hj.1.1, nj, pj, a, b, ?_, ?_, ne, p, mat_sub k' (fun x hx => ?_) hm'⟩
          · simp only [mns_t]; exact ⟨⟨ha, fun y => ea y.symm⟩, fun y => hj.1.2 y.symm⟩
          · simp only [mns_t]; exact ⟨⟨hb, fun y => eb y.symm⟩, fun y => hj.2 y.symm⟩
          · simp only [mns_t] at hx ⊢
            exact ⟨⟨⟨⟨hx.1.1.1.1, hx.1.2⟩, hx.2⟩, hx.1.1.1.2⟩, hx.1.1.2⟩
-- the Java's bests are the most
def bts (v : Nat) : Nat → Bool := fun x => decide (x < 6) && decide (v / 2 ^ x % 2 = 1)
theorem bts_t {v x : Nat} : bts v x = true ↔ x < 6 ∧ v / 2 ^ x % 2 = 1 := by
  unfold bts
  rw [Bool.and_eq_true, decide_eq_true_eq, decide_eq_true_eq]
theorem t_cbt : ∀ v, v < 64 → ∀ i, i < 6 → ∀ j, j < 6 → clrB v i / 2 ^ j % 2 = if j = i then 0 else v / 2 ^ j % 2 := by decide +kernel
theorem t_lst : ∀ v, v < 64 → ∀ j, j < 6 → v / 2 ^ j % 2 = 1 → ntzN v ≤ j := by decide +kernel
theorem bts_cl {v i : Nat} (hv : v < 64) (hi : i < 6) {x : Nat} : bts (clrB v i) x = true ↔ mns (bts v) i x = true := by
  rw [mns_t, bts_t, bts_t]
  constructor
  · intro ⟨h, b⟩
    rw [t_cbt v hv i hi x h] at b
    by_cases e : x = i
    · rw [if_pos e] at b; omega
    · rw [if_neg e] at b; exact ⟨⟨h, b⟩, e⟩
  · intro ⟨⟨h, b⟩, e⟩
    refine ⟨h, ?_⟩
    rw [t_cbt v hv i hi x h, if_neg e]
    exact b
theorem bs_ge0 (f : Nat → Nat) (y w : Nat) : ∀ m i c, c ≤ bsN f y w m i c := by
  intro m
  induction m with
  | zero => exact fun _ _ => Nat.le_refl _
  | succ m ih =>
    intro i c
    unfold bsN
    split
    · exact Nat.le_trans (Nat.le_max_left _ _) (ih _ _)
    · exact ih _ _
theorem bs_ge (f : Nat → Nat) (y w j : Nat) (hy : y / 2 ^ j % 2 = 1) (hw : w / 2 ^ j % 2 = 1) : ∀ m i c, i ≤ j → j < i + m → 1 + f (clrB y j) ≤ bsN f y w m i c := by
  intro m
  induction m with
  | zero => exact fun i c h1 h2 => absurd h2 (by omega)
  | succ m ih =>
    intro i c h1 h2
    unfold bsN
    by_cases e : i = j
    · subst e
      rw [if_pos ⟨hy, hw⟩]
      exact Nat.le_trans (Nat.le_max_right _ _) (bs_ge0 _ _ _ _ _ _)
    · split
      · exact ih _ _ (by omega) (by omega)
      · exact ih _ _ (by omega) (by omega)
theorem bs_in (f : Nat → Nat) (y w : Nat) : ∀ m i c, bsN f y w m i c = c ∨ ∃ j, j < i + m ∧ y / 2 ^ j % 2 = 1 ∧ w / 2 ^ j % 2 = 1 ∧ bsN f y w m i c = 1 + f (clrB y j) := by
  intro m
  induction m with
  | zero => exact fun _ _ => Or.inl rfl
  | succ m ih =>
    intro i c
    unfold bsN
    by_cases h : y / 2 ^ i % 2 = 1 ∧ w / 2 ^ i % 2 = 1
    · rw [if_pos h]
      cases ih (i + 1) (max c (1 + f (clrB y i))) with
      | inl e =>
        rw [e]
        by_cases l : c ≤ 1 + f (clrB y i)
        · exact Or.inr ⟨i, by omega, h.1, h.2, Nat.max_eq_right l⟩
        · exact Or.inl (Nat.max_eq_left (by omega))
      | inr e =>
        obtain ⟨j, a, b, c', d⟩ := e
        exact Or.inr ⟨j, by omega, b, c', d⟩
    · rw [if_neg h]
      cases ih (i + 1) c with
      | inl e => exact Or.inl e
      | inr e =>
        obtain ⟨j, a, b, c', d⟩ := e
        exact Or.inr ⟨j, by omega, b, c', d⟩
def bst (w : Nat → Nat) (v : Nat) : Nat := dpF w (v + 1) v
theorem dp_st (w : Nat → Nat) {v : Nat} : ∀ i, v < i → dpF w i v = bst w v := by
  intro i
  induction i with
  | zero => exact fun h => absurd h (by omega)
  | succ i ih =>
    intro h
    by_cases e : v = i
    · rw [e]; rfl
    · show nup (dpF w i) i _ v = _
      unfold nup
      rw [if_neg e]
      exact ih (by omega)
theorem bst_s (w : Nat → Nat) {v : Nat} (hv : v < 64) (h0 : v ≠ 0) : bst w v = bsN (dpF w v) (clrB v (ntzN v)) (w (ntzN v)) (5 - ntzN v) (ntzN v + 1) (bst w (clrB v (ntzN v))) := by
  obtain ⟨l1, l2⟩ := t_low v hv h0
  rw [← dp_st w v (t_cll v hv _ l1 l2)]
  show nup (dpF w v) v _ v = _
  unfold nup
  rw [if_pos rfl, if_neg h0]
theorem best_up {P : Nat → Nat → Bool} {w : Nat → Nat} {n : Nat} (hn : n ≤ 6) (sym : ∀ a b, P a b = true → P b a = true) (hP : ∀ a b, a < n → b < n → (w a / 2 ^ b % 2 = 1 ↔ P a b = true)) : ∀ v, v < 2 ^ n → ∀ k, Mat P k (bts v) → k ≤ bst w v := by
  have h64 := two64 hn
  have bl : ∀ v x, v < 2 ^ n → bts v x = true → x < n := by
    intro v x hv hb
    have b := (bts_t.1 hb).2
    by_cases l : x < n
    · exact l
    · have := Nat.pow_le_pow_right (show 2 > 0 by omega) (show n ≤ x by omega)
      rw [Nat.div_eq_of_lt (by omega)] at b
      omega
  intro v
  induction v using Nat.strongRecOn with
  | _ v ih =>
    intro hv k hk
    by_cases z : v = 0
    · subst z
      cases k with
      | zero => exact Nat.zero_le _
      | succ k =>
        obtain ⟨a, b, ha, -⟩ := hk
        have := (bts_t.1 ha).2
        rw [Nat.zero_div] at this
        omega
    · obtain ⟨l1, l2⟩ := t_low v (by omega) z
      have c1 := t_cll v (by omega) _ l1 l2
      have hz : bts v (ntzN v) = true := bts_t.2 ⟨l1, l2⟩
      rw [bst_s w (by omega) z]
      cases mat_split sym k _ hz hk with
      | inl h =>
        refine Nat.le_trans (ih _ c1 (by omega) k (mat_sub k (fun x hx => (bts_cl (by omega) l1).2 hx) h)) (bs_ge0 _ _ _ _ _ _)
      | inr h =>
        obtain ⟨j, k', e, hj, nj, pj, hm⟩ := h
        have hj6 := (bts_t.1 hj).1
        have hc : clrB v (ntzN v) < 64 := clrB_lt (by omega)
        have hb : bts (clrB v (ntzN v)) j = true := (bts_cl (by omega) l1).2 (mns_t.2 ⟨hj, nj⟩)
        have c2 := t_cll _ hc j hj6 (bts_t.1 hb).2
        have low := t_lst v (by omega) j hj6 (bts_t.1 hj).2
        have g := bs_ge (dpF w v) (clrB v (ntzN v)) (w (ntzN v)) j (bts_t.1 hb).2 ((hP _ _ (bl v _ hv hz) (bl v j hv hj)).2 pj) (5 - ntzN v) (ntzN v + 1) (bst w (clrB v (ntzN v))) (by omega) (by omega)
        rw [dp_st w v (by omega)] at g
        have i2 := ih (clrB (clrB v (ntzN v)) j) (by omega) (by omega) k' (mat_sub k' (fun x hx => (bts_cl hc hj6).2 (by
          rw [mns_t] at hx ⊢
          exact ⟨(bts_cl (by omega) l1).2 hx.1, hx.2⟩)) hm)
        omega
theorem best_in {P : Nat → Nat → Bool} {w : Nat → Nat} {n : Nat} (hn : n ≤ 6) (hP : ∀ a b, a < n → b < n → (w a / 2 ^ b % 2 = 1 ↔ P a b = true)) : ∀ v, v < 2 ^ n → Mat P (bst w v) (bts v) := by
  have h64 := two64 hn
  have bl : ∀ v x, v < 2 ^ n → bts v x = true → x < n := by
    intro v x hv hb
    have b := (bts_t.1 hb).2
    by_cases l : x < n
    · exact l
    · have := Nat.pow_le_pow_right (show 2 > 0 by omega) (show n ≤ x by omega)
      rw [Nat.div_eq_of_lt (by omega)] at b
      omega
  intro v
  induction v using Nat.strongRecOn with
  | _ v ih =>
    intro hv
    by_cases z : v = 0
    · subst z
      exact trivial
    · obtain ⟨l1, l2⟩ := t_low v (by omega) z
      have c1 := t_cll v (by omega) _ l1 l2
      have hz : bts v (ntzN v) = true := bts_t.2 ⟨l1, l2⟩
      have hc : clrB v (ntzN v) < 64 := clrB_lt (by omega)
      rw [bst_s w (by omega) z]
      cases bs_in (dpF w v) (clrB v (ntzN v)) (w (ntzN v)) (5 - ntzN v) (ntzN v + 1) (bst w (clrB v (ntzN v))) with
      | inl e =>
        rw [e]
        exact mat_sub _ (fun x hx => (mns_t.1 ((bts_cl (by omega) l1).1 hx)).1) (ih _ c1 (by omega))
      | inr e =>
        obtain ⟨j, hj, b1, b2, e⟩ := e
        have hb : bts (clrB v (ntzN v)) j = true := bts_t.2 ⟨by omega, b1⟩
        have hb2 := mns_t.1 ((bts_cl (by omega) l1).1 hb)
        have c2 := t_cll _ hc j (by omega) b1
        rw [e, dp_st w v (by omega), Nat.add_comm]
        refine ⟨ntzN v, j, hz, hb2.1, fun y => hb2.2 y.symm, (hP _ _ (bl v _ hv hz) (bl v j hv hb2.1)).1 b2, mat_sub _ (fun x hx => ?_) (ih _ (by omega) (by omega))⟩
        rw [bts_cl hc (by omega), mns_t] at hx
        rw [mns_t]
        exact ⟨(bts_cl (by omega) l1).1 hx.1, hx.2⟩
