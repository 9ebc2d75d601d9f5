-- who bears a name; fooled, copy, furs
theorem php : ∀ (n : Nat) (f : Nat → Nat), (∀ i, i ≤ n → f i < n) → ∃ i j, i < j ∧ j ≤ n ∧ f i = f j := by
  intro n
  induction n with
  | zero => intro f h; exact absurd (h 0 (Nat.le_refl _)) (Nat.not_lt_zero _)
  | succ n ih =>
    intro f h
    by_cases hx : ∃ i, i ≤ n ∧ f i = f (n + 1)
    · obtain ⟨i, hi, he⟩ := hx
      exact ⟨i, n + 1, by omega, Nat.le_refl _, he⟩
    · have hne : ∀ i, i ≤ n → f i ≠ f (n + 1) := fun i hi he => hx ⟨i, hi, he⟩
      have ha := h (n + 1) (Nat.le_refl _)
      obtain ⟨i, j, hij, hj, he⟩ := ih (fun i => if f i > f (n + 1) then f i - 1 else f i) (fun i hi => by
        have := h i (by omega)
        have := hne i hi
        show (if f i > f (n + 1) then f i - 1 else f i) < n
        split <;> omega)
      refine ⟨i, j, hij, by omega, ?_⟩
      have h1 := hne i (by omega)
      have h2 := hne j (by omega)
      have he : (if f i > f (n + 1) then f i - 1 else f i) = (if f j > f (n + 1) then f j - 1 else f j) := he
      split at he <;> split at he <;> omega
theorem surj {n : Nat} {f : Nat → Nat} (h : ∀ i, i < n → f i < n) (hi : ∀ i j, i < n → j < n → f i = f j → i = j) {k : Nat} (hk : k < n) : ∃ q, q < n ∧ f q = k := by
  refine Classical.byContradiction (fun hno => ?_)
  have hne : ∀ i, i < n → f i ≠ k := fun i h1 h2 => hno ⟨i, h1, h2⟩
  obtain ⟨m, rfl⟩ : ∃ m, n = m + 1 := ⟨n - 1, by omega⟩
  obtain ⟨i, j, hij, hj, he⟩ := php m (fun i => if f i > k then f i - 1 else f i) (fun i h1 => by
    have := h i (by omega)
    have := hne i (by omega)
    show (if f i > k then f i - 1 else f i) < m
    split <;> omega)
  have h1 := hne i (by omega)
  have h2 := hne j (by omega)
  have he : (if f i > k then f i - 1 else f i) = (if f j > k then f j - 1 else f j) := he
  have := hi i j (by omega) (by omega) (by split at he <;> split at he <;> omega)
  omega
theorem bearer {r : NS} (hw : WF r) {k : Nat} (hk : k < r.1 0) : ∃ q, q < r.1 0 ∧ r.2 8 q = k ∧ ∀ j, j < r.1 0 → r.2 8 j = k → j = q := by
  obtain ⟨w0, w1, w2, w3, w4, w5, w6, w7, w8, w9⟩ := hw
  obtain ⟨q, hq, he⟩ := surj (n := r.1 0) (f := r.2 8) (fun i hi => (w7 i hi).2.1) w8 hk
  exact ⟨q, hq, he, fun j hj hje => w8 j q hj hq (hje.trans he.symm)⟩
theorem bear_lp {r : NS} (hw : WF r) {k q : Nat} (hk : k < r.1 0) (hq : q < r.1 0) (he : r.2 8 q = k) (hu : ∀ j, j < r.1 0 → r.2 8 j = k → j = q) {kx : Prop} {K : Int32 → Prop} (h : K (nI q)) : ∀ (n i : Nat), i + n = q → wl_X2_bearerOf_2 (NI r) (nI k) kx K (n + 1) (nI i) := by
  have h6 := hw.2.1
  intro n
  induction n with
  | zero =>
    intro i hi
    have : i = q := by omega
    subst this
    unfold wl_X2_bearerOf_2
    rw [NI_1, if_neg (nle (by omega) (by omega)), getR r 8 (by omega) (by omega), if_pos (by rw [he])]
    exact h
  | succ n ih =>
    intro i hi
    unfold wl_X2_bearerOf_2
    have hlt := (hw.2.2.2.2.2.2.2.1 i (by omega)).2.1
    rw [NI_1, if_neg (nle (by omega) (by omega)), getR r 8 (by omega) (by omega), if_neg (by rw [nI_eq (by omega) (by omega)]; intro h2; have := hu i (by omega) h2; omega), nI_1]
    exact ih (i + 1) (by omega)
theorem bear_ok {r : NS} (hw : WF r) {k q : Nat} (hk : k < r.1 0) (hq : q < r.1 0) (he : r.2 8 q = k) (hu : ∀ j, j < r.1 0 → r.2 8 j = k → j = q) {K : Int32 → Prop} (h : K (nI q)) : wp_X2_bearerOf (NI r) (nI k) K := by
  refine ⟨q + 1, ?_⟩
  rw [← nI_0]
  exact bear_lp hw hk hq he hu h q 0 (by omega)
theorem takenM_lp {r : NS} {M : St} (hw : WF r) (hm : MR M r) {k q : Nat} (hk : k < r.1 0) (hq : q < r.1 0) (he : r.2 8 q = k) (hu : ∀ j, j < r.1 0 → r.2 8 j = k → j = q) {kx : Int32 → Prop} (h : kx (nI q)) : ∀ (n i : Nat) (t : Int32), i + n = r.1 0 → (q < i → t = nI q) → wl_X7_fooled_44 M (nI k) kx (n + 1) t (nI i) := by
  have h6 := hw.2.1
  have m0 := hm.1
  intro n
  induction n with
  | zero =>
    intro i t hi ht
    unfold wl_X7_fooled_44
    rw [m0, if_pos (nI_le (by omega) (by omega)), ht (by omega)]
    exact h
  | succ n ih =>
    intro i t hi ht
    have hlt := (hw.2.2.2.2.2.2.2.1 i (by omega)).2.1
    unfold wl_X7_fooled_44
    rw [m0, if_neg (nle (by omega) (by omega)), nI_clamp (by omega), (hm.2.2.2.2.2.2.1 i (by omega)).2.1, nI_1]
    refine ⟨vp6 (by omega), ?_⟩
    by_cases hki : r.2 8 i = k
    · rw [if_pos (by rw [hki])]
      exact ih (i + 1) _ (by omega) (fun _ => by rw [hu i (by omega) hki])
    · rw [if_neg (by rw [nI_eq (by omega) (by omega)]; exact hki)]
      refine ih (i + 1) t (by omega) (fun hqi => ht ?_)
      have : q ≠ i := fun e => hki (by rw [← e]; exact he)
      omega
/-- fooled: for the bearer q of k's name -/
def foB (r : NS) (l d w k : Nat) : Bool := decide (k ≠ l) && thB r l k d w && (List.range (r.1 0)).any (fun q => decide (r.2 8 q = k) && !(thB r l q d w))
theorem foB_of {r : NS} {l d w k q : Nat} (hq : q < r.1 0) (he : r.2 8 q = k) (hu : ∀ j, j < r.1 0 → r.2 8 j = k → j = q) : foB r l d w k = (decide (k ≠ l) && thB r l k d w && !(thB r l q d w)) := by
  have : (List.range (r.1 0)).any (fun q => decide (r.2 8 q = k) && !(thB r l q d w)) = !(thB r l q d w) := by
    cases h : !(thB r l q d w) with
    | true =>
      refine List.any_eq_true.mpr ⟨q, List.mem_range.mpr hq, ?_⟩
      simp [he, h]
    | false =>
      refine List.any_eq_false.mpr (fun j hj => ?_)
      have hj := List.mem_range.mp hj
      by_cases hje : r.2 8 j = k
      · have := hu j hj hje
        subst this
        simp [h]
      · simp [hje]
  unfold foB
  rw [this]
theorem fooX_lp {r : NS} (hw : WF r) {l d w : Nat} (hl : l < r.1 0) (hd : d ≤ 9999) (hw4 : w ≤ 400) {kx : Int32 → Prop} (h : kx (nI (msk (foB r l d w) (r.1 0)))) : ∀ (n i : Nat), i + n = r.1 0 → wl_X6_fooled_44 (NI r) (nI l) (nI d) (nI w) kx (n + 1) (nI (msk (foB r l d w) i)) (nI i) := by
  have h6 := hw.2.1
  intro n
  induction n with
  | zero =>
    intro i hi
    unfold wl_X6_fooled_44
    rw [NI_1, if_pos (nI_le (by omega) (by omega)), show i = r.1 0 by omega]
    exact h
  | succ n ih =>
    intro i hi
    obtain ⟨q, hq, he, hu⟩ := bearer hw (k := i) (by omega)
    have hf := foB_of (l := l) (d := d) (w := w) hq he hu
    unfold wl_X6_fooled_44
    rw [NI_1, if_neg (nle (by omega) (by omega)), nI_1]
    refine away_ok hw hl (by omega) hd ?_
    by_cases ht : thB r l i d w = true
    · rw [if_pos ((th_lt hw4).mpr ht)]
      refine bear_ok hw (by omega) hq he hu (away_ok hw hl hq hd ?_)
      by_cases ht2 : thB r l q d w = true
      · rw [if_pos ((th_lt hw4).mpr ht2), msk_no (P := foB r l d w) (by rw [hf]; simp [ht2])]
        split <;> exact ih (i + 1) (by omega)
      · rw [if_neg (fun h => ht2 ((th_lt hw4).mp h))]
        have ht2' : thB r l q d w = false := by simpa using ht2
        by_cases hil : i = l
        · rw [if_pos (by rw [hil]), msk_no (P := foB r l d w) (by rw [hf]; simp [hil])]
          exact ih (i + 1) (by omega)
        · rw [if_neg (by rw [nI_eq (by omega) (by omega)]; exact hil), msk_or (P := foB r l d w) (by omega) (by rw [hf]; simp [hil, ht, ht2'])]
          exact ih (i + 1) (by omega)
    · rw [if_neg (fun h => ht ((th_lt hw4).mp h))]
      have ht' : thB r l i d w = false := by simpa using ht
      refine bear_ok hw (by omega) hq he hu (away_ok hw hl hq hd ?_)
      rw [msk_no (P := foB r l d w) (by rw [hf]; simp [ht'])]
      split
      · split <;> exact ih (i + 1) (by omega)
      · split <;> exact ih (i + 1) (by omega)
theorem fooM_lp {r : NS} {M : St} (hw : WF r) (hm : MR M r) {l d w : Nat} (hl : l < r.1 0) (hd : d ≤ 9999) (hw1 : 1 ≤ w) (hw4 : w ≤ 400) {kx : Int32 → Prop} (h : kx (nI (msk (foB r l d w) (r.1 0)))) : ∀ (n i : Nat), i + n = r.1 0 → wl_X7_fooled_28 M (nI l) (nI d) (nI w) kx (n + 1) (nI (msk (foB r l d w) i)) (nI i) := by
  have h6 := hw.2.1
  have m0 := hm.1
  intro n
  induction n with
  | zero =>
    intro i hi
    unfold wl_X7_fooled_28
    rw [m0, if_pos (nI_le (by omega) (by omega)), show i = r.1 0 by omega]
    exact h
  | succ n ih =>
    intro i hi
    obtain ⟨q, hq, he, hu⟩ := bearer hw (k := i) (by omega)
    have hf := foB_of (l := l) (d := d) (w := w) hq he hu
    unfold wl_X7_fooled_28
    rw [m0, if_neg (nle (by omega) (by omega)), nI_1]
    refine ⟨r.1 0 + 1, ?_⟩
    rw [← nI_0]
    refine takenM_lp hw hm (by omega) hq he hu ?_ (r.1 0) 0 _ (by omega) (fun h => absurd h (by omega))
    rw [nI_0]
    by_cases hil : i = l
    · rw [if_pos (by rw [hil]), msk_or0 (P := foB r l d w) (by omega) (by rw [hf]; simp [hil])]
      exact ih (i + 1) (by omega)
    · rw [if_neg (by rw [nI_eq (by omega) (by omega)]; exact hil)]
      refine there_ok hw hm hl hq hd hw1 hw4 ?_
      by_cases ht2 : thB r l q d w = true
      · rw [if_pos ht2, if_neg (by decide), msk_or0 (P := foB r l d w) (by omega) (by rw [hf]; simp [ht2])]
        exact ih (i + 1) (by omega)
      · rw [if_neg ht2, if_pos rfl]
        have ht2' : thB r l q d w = false := by simpa using ht2
        refine there_ok hw hm hl (by omega) hd hw1 hw4 ?_
        by_cases ht : thB r l i d w = true
        · rw [if_pos ht, if_neg (by decide), msk_or (P := foB r l d w) (by omega) (by rw [hf]; simp [hil, ht, ht2'])]
          exact ih (i + 1) (by omega)
        · have ht' : thB r l i d w = false := by simpa using ht
          rw [if_neg ht, if_pos rfl, msk_or0 (P := foB r l d w) (by omega) (by rw [hf]; simp [ht'])]
          exact ih (i + 1) (by omega)
theorem sim_fooled : Sim_fooled Inv := by
  intro X0 X1 X2 X3 X4 X5 X6 X7 X8 M a0 a1 a2 hI
  obtain ⟨⟨r, rfl, hw, hm⟩, hi1, hi2, hp⟩ := id hI
  obtain ⟨hh, hc⟩ := has_one hw hm a0
  unfold wp_X6_fooled wp_X7_fooled
  rcases hc with h | ⟨l, hl, rfl, h⟩
  · simp only [hh, if_pos h]
    exact ⟨trivial, hI⟩
  · have hne : ¬ F_X7_isOne M (nI l) = 0 := by rw [h]; decide
    simp only [hh, if_neg hne]
    by_cases h1 : F_X7_in a1 0 9999 = 0
    · rw [if_pos (show F_X6_within a1 0 9999 = 0 from h1), if_pos (war_out (Or.inl h1))]
      exact ⟨by trivial, hI⟩
    · rw [if_neg (show ¬ F_X6_within a1 0 9999 = 0 from h1)]
      by_cases h2 : F_X7_in a2 1 400 = 0
      · rw [if_pos (show F_X6_within a2 1 400 = 0 from h2), if_pos (war_out (Or.inr h2))]
        exact ⟨by trivial, hI⟩
      · rw [if_neg (show ¬ F_X6_within a2 1 400 = 0 from h2)]
        have hwr := war_in (M := M) h1 h2
        obtain ⟨d, -, hd, rfl⟩ := inN (a := 0) (b := 9999) h1 (by decide) (by decide) (by omega) (by omega)
        obtain ⟨w, hw1, hw4, rfl⟩ := inN (a := 1) (b := 400) h2 (by decide) (by decide) (by omega) (by omega)
        refine ⟨r.1 0 + 1, ?_⟩
        rw [← nI_0]
        refine fooX_lp hw hl hd hw4 ?_ (r.1 0) 0 (by omega)
        rw [nI_0, if_neg hwr]
        refine ⟨r.1 0 + 1, ?_⟩
        rw [← nI_0]
        exact fooM_lp hw hm hl hd hw1 hw4 (kx := fun v => _ = v ∧ Inv _ _ _ _ _ _ _ _ _ M) ⟨rfl, hI⟩ (r.1 0) 0 (by omega)
