-- the years of the pad: one step for both sides
def eqAt (r : NS) (i : Nat) : NS := (fun j => if j = 3 then 0 else if j = 4 then r.1 4 + 1 else r.1 j, fun j k => if j = 9 ∧ k < i ∧ r.2 9 k = 1 then 0 else if j = 7 ∧ k < i ∧ r.2 9 k = 0 ∧ r.1 5 / 2 ^ k % 2 = 1 then (r.2 7 k + 1) % (r.1 0 - 1) else if j = 10 ∧ k < i ∧ r.2 9 k = 0 ∧ r.1 5 / 2 ^ k % 2 = 1 then r.2 10 k + 1 else r.2 j k)
def nEqx (r : NS) : NS := eqAt r (r.1 0)
theorem eqAt_get (r : NS) (i j : Nat) {k : Nat} (h : ¬ k < i) : (eqAt r i).2 j k = r.2 j k := by
  unfold eqAt
  show (if j = 9 ∧ k < i ∧ r.2 9 k = 1 then 0 else if j = 7 ∧ k < i ∧ r.2 9 k = 0 ∧ r.1 5 / 2 ^ k % 2 = 1 then (r.2 7 k + 1) % (r.1 0 - 1) else if j = 10 ∧ k < i ∧ r.2 9 k = 0 ∧ r.1 5 / 2 ^ k % 2 = 1 then r.2 10 k + 1 else r.2 j k) = _
  rw [if_neg (fun x => h x.2.1), if_neg (fun x => h x.2.1), if_neg (fun x => h x.2.1)]
theorem eqAt_ne (r : NS) {i : Nat} (j : Nat) {k : Nat} (h : ¬ k = i) : (eqAt r i).2 j k = (eqAt r (i + 1)).2 j k := by
  by_cases hk : k < i
  · have hk1 : k < i + 1 := by omega
    unfold eqAt
    dsimp only
    simp only [hk, hk1, true_and]
  · rw [eqAt_get _ _ _ hk, eqAt_get _ _ _ (by omega)]
theorem NI_up (s : NS) (k i v : Nat) : sA (NI s) k (upd ((NI s).2 k) i (nI v)) = NI (nsA s k (nup (s.2 k) i v)) := by
  rw [NI_2f, upd_nI, sA_NI]
theorem up_at (s : NS) (j m i v a k : Nat) (h : (if j = m ∧ k = i then v else s.2 j k) = a) : (nsA s m (nup (s.2 m) i v)).2 j k = a := by
  rw [nsA_2]
  by_cases hj : j = m
  · rw [if_pos hj]
    unfold nup
    subst hj
    by_cases hk : k = i
    · rw [if_pos hk]; rw [if_pos ⟨rfl, hk⟩] at h; exact h
    · rw [if_neg hk]; rw [if_neg (fun x => hk x.2)] at h; exact h
  · rw [if_neg hj]; rw [if_neg (fun x => hj x.1)] at h; exact h
theorem eq_s1 {r : NS} {i : Nat} (h : r.2 9 i = 1) : nsA (eqAt r i) 9 (nup ((eqAt r i).2 9) i 0) = eqAt r (i + 1) := by
  refine Prod.ext rfl ?_
  funext j k
  refine up_at _ _ _ _ _ _ _ ?_
  by_cases hk : k = i
  · subst hk
    rw [eqAt_get _ _ _ (by omega)]
    unfold eqAt
    dsimp only
    rw [h]
    by_cases hj : j = 9
    · rw [if_pos ⟨hj, rfl⟩, if_pos ⟨hj, by omega, rfl⟩]
    · rw [if_neg (fun x => hj x.1), if_neg (fun x => hj x.1), if_neg (fun x => absurd x.2.2.1 (by decide)), if_neg (fun x => absurd x.2.2.1 (by decide))]
  · rw [if_neg (fun x => hk x.2)]
    exact eqAt_ne r j hk
theorem eq_s0 {r : NS} {i : Nat} (h : r.2 9 i = 0) (hl : r.1 5 / 2 ^ i % 2 = 1) : nsA (nsA (eqAt r i) 7 (nup ((eqAt r i).2 7) i ((r.2 7 i + 1) % (r.1 0 - 1)))) 10 (nup ((nsA (eqAt r i) 7 (nup ((eqAt r i).2 7) i ((r.2 7 i + 1) % (r.1 0 - 1)))).2 10) i (r.2 10 i + 1)) = eqAt r (i + 1) := by
  refine Prod.ext rfl ?_
  funext j k
  refine up_at _ _ _ _ _ _ _ ?_
  by_cases hk : k = i
  · subst hk
    by_cases hj : j = 10
    · rw [if_pos ⟨hj, rfl⟩]
      subst hj
      unfold eqAt
      dsimp only
      rw [if_neg (fun x => absurd x.1 (by decide)), if_neg (fun x => absurd x.1 (by decide)), if_pos ⟨rfl, by omega, h, hl⟩]
    · rw [if_neg (fun x => hj x.1)]
      refine up_at _ _ _ _ _ _ _ ?_
      by_cases hj7 : j = 7
      · rw [if_pos ⟨hj7, rfl⟩]
        subst hj7
        unfold eqAt
        dsimp only
        rw [if_neg (fun x => absurd x.1 (by decide)), if_pos ⟨rfl, by omega, h, hl⟩]
      · rw [if_neg (fun x => hj7 x.1), eqAt_get _ _ _ (by omega)]
        unfold eqAt
        dsimp only
        rw [h, if_neg (fun x => absurd x.2.2 (by decide)), if_neg (fun x => hj7 x.1), if_neg (fun x => hj x.1)]
  · rw [if_neg (fun x => hk x.2)]
    refine up_at _ _ _ _ _ _ _ ?_
    rw [if_neg (fun x => hk x.2)]
    exact eqAt_ne r j hk
theorem eq_sn {r : NS} {i : Nat} (h1 : ¬ r.2 9 i = 1) (h2 : ¬ (r.2 9 i = 0 ∧ r.1 5 / 2 ^ i % 2 = 1)) : eqAt r i = eqAt r (i + 1) := by
  refine Prod.ext rfl ?_
  funext j k
  by_cases hk : k = i
  · subst hk
    rw [eqAt_get _ _ _ (by omega)]
    unfold eqAt
    dsimp only
    rw [if_neg (fun x => h1 x.2.2), if_neg (fun x => h2 x.2.2), if_neg (fun x => h2 x.2.2)]
  · exact eqAt_ne r j hk
def arr (r : NS) : Prop := ∀ k, k < r.1 0 → r.2 7 k < r.1 0 - 1 ∧ r.2 8 k < r.1 0 ∧ r.2 9 k ≤ 2 ∧ r.2 11 k ≤ 1 ∧ r.2 12 k ≤ 9
theorem eqX_lp {r : NS} (hw : WF (nsI r 3 0)) {K : St → Prop} (hK : K (NI (nEqx r))) : ∀ n i, i + n = r.1 0 → wl_X2_passEquinox_17 K (n + 1) (nI i) (NI (eqAt r i)) := by
  have w0 : 3 ≤ r.1 0 := hw.1
  have w1 : r.1 0 ≤ 6 := hw.2.1
  have w7 : arr r := hw.2.2.2.2.2.2.2.1
  have lv : ∀ i, i < r.1 0 → (F_X2_lives (NI r) (nI i) = 0 ↔ ¬ r.1 5 / 2 ^ i % 2 = 1) := fun i hi => lives_0 (r := nsI r 3 0) hw hi
  intro n
  induction n with
  | zero =>
    intro i hi
    unfold wl_X2_passEquinox_17
    rw [show (NI (eqAt r i)).1 0 = nI (r.1 0) from rfl, show i = r.1 0 by omega, if_pos (Int32.le_refl _)]
    exact hK
  | succ n ih =>
    intro i hi
    obtain ⟨p7, -, p9, -, -⟩ := w7 i (by omega)
    have hn := ih (i + 1) (by omega)
    unfold wl_X2_passEquinox_17
    have gE : ∀ j, F_X3_get 6 ((NI (eqAt r i)).2 j) (nI i) = nI (r.2 j i) := by
      intro j
      rw [getR _ _ (show i < 6 by omega) (by omega), eqAt_get _ _ _ (by omega)]
    rw [show (NI (eqAt r i)).1 0 = nI (r.1 0) from rfl, if_neg (nI_ge (show i < r.1 0 by omega) (by omega)), gE 9, gE 7, gE 10, nI_1, nI_1]
    by_cases h1 : r.2 9 i = 1
    · rw [if_pos ((nI_eq1 (by omega)).2 h1)]
      refine put_nI (show i < 6 by omega) (by omega) ?_
      rw [show (0 : Int32) = nI 0 from nI_0.symm, NI_up, eq_s1 h1]
      exact hn
    · rw [if_neg (fun x => by rw [i1, nI_eq (by omega) (by omega)] at x; exact h1 x)]
      by_cases h0 : r.2 9 i = 0
      · rw [h0, if_pos nI_0, show F_X2_lives (NI (eqAt r i)) (nI i) = F_X2_lives (NI r) (nI i) from rfl]
        by_cases hl : r.1 5 / 2 ^ i % 2 = 1
        · rw [if_neg (fun x => (lv i (by omega)).1 x hl), show nI (r.1 0) - 1 = nI (r.1 0 - 1) from pk_sub (a := r.1 0) (b := 1) (by omega), left_nI (by omega) (by omega) (by omega)]
          refine put_nI (show i < 6 by omega) (by omega) (put_nI (show i < 6 by omega) (by omega) ?_)
          rw [nI_1, NI_up, show (NI (eqAt r i)).2 10 = (NI (nsA (eqAt r i) 7 (nup ((eqAt r i).2 7) i ((r.2 7 i + 1) % (r.1 0 - 1))))).2 10 from rfl, NI_up, eq_s0 h0 hl]
          exact hn
        · rw [if_pos ((lv i (by omega)).2 hl), eq_sn h1 (fun x => hl x.2)]
          exact hn
      · rw [if_neg (nI_ne0 (by omega) (by omega)), eq_sn h1 (fun x => h0 x.1)]
        exact hn
theorem eqAt_0 (r : NS) : NI (eqAt r 0) = sI (sI (NI r) 3 0) 4 ((NI r).1 4 + 1) := by
  refine Prod.ext ?_ ?_
  · funext j
    show nI (if j = 3 then 0 else if j = 4 then r.1 4 + 1 else r.1 j) = if j = 4 then nI (r.1 4) + 1 else if j = 3 then 0 else nI (r.1 j)
    by_cases h3 : j = 3
    · rw [if_pos h3, if_neg (by omega), if_pos h3, nI_0]
    · rw [if_neg h3]
      by_cases h4 : j = 4
      · rw [if_pos h4, if_pos h4, nI_1]
      · rw [if_neg h4, if_neg h4, if_neg h3]
  · funext j k
    show nI ((eqAt r 0).2 j k) = nI (r.2 j k)
    rw [eqAt_get _ _ _ (by omega)]
theorem eqX {r : NS} (hw : WF (nsI r 3 0)) {K : St → Prop} (hK : K (NI (nEqx r))) : wp_X2_passEquinox (NI r) K := by
  unfold wp_X2_passEquinox
  rw [← eqAt_0]
  have key := eqX_lp hw hK (r.1 0) 0 (by omega)
  rw [nI_0] at key
  exact ⟨_, key⟩
theorem eqAt_o (r : NS) (i : Nat) {j : Nat} (k : Nat) (h9 : j ≠ 9) (h7 : j ≠ 7) (h10 : j ≠ 10) : (eqAt r i).2 j k = r.2 j k := by
  unfold eqAt
  dsimp only
  rw [if_neg (fun x => h9 x.1), if_neg (fun x => h7 x.1), if_neg (fun x => h10 x.1)]
theorem eqAt_9 (r : NS) (i : Nat) : (eqAt r (i + 1)).2 9 i = if r.2 9 i = 1 then 0 else r.2 9 i := by
  unfold eqAt
  dsimp only
  by_cases h : r.2 9 i = 1
  · rw [if_pos ⟨rfl, by omega, h⟩, if_pos h]
  · rw [if_neg (fun x => h x.2.2), if_neg (fun x => absurd x.1 (by decide)), if_neg (fun x => absurd x.1 (by decide)), if_neg h]
theorem eqAt_7 (r : NS) (i : Nat) : (eqAt r (i + 1)).2 7 i = if r.2 9 i = 0 ∧ r.1 5 / 2 ^ i % 2 = 1 then (r.2 7 i + 1) % (r.1 0 - 1) else r.2 7 i := by
  unfold eqAt
  dsimp only
  rw [if_neg (fun x => absurd x.1 (by decide))]
  by_cases h : r.2 9 i = 0 ∧ r.1 5 / 2 ^ i % 2 = 1
  · rw [if_pos ⟨rfl, by omega, h⟩, if_pos h]
  · rw [if_neg (fun x => h x.2.2), if_neg (fun x => absurd x.1 (by decide)), if_neg h]
theorem eqAt_10 (r : NS) (i : Nat) : (eqAt r (i + 1)).2 10 i = if r.2 9 i = 0 ∧ r.1 5 / 2 ^ i % 2 = 1 then r.2 10 i + 1 else r.2 10 i := by
  unfold eqAt
  dsimp only
  rw [if_neg (fun x => absurd x.1 (by decide)), if_neg (fun x => absurd x.1 (by decide))]
  by_cases h : r.2 9 i = 0 ∧ r.1 5 / 2 ^ i % 2 = 1
  · rw [if_pos ⟨rfl, by omega, h⟩, if_pos h]
  · rw [if_neg (fun x => h x.2.2), if_neg h]
theorem eqAt_in (r : NS) (j : Nat) {i k : Nat} (h : k < i) : (eqAt r i).2 j k = (eqAt r (k + 1)).2 j k := by
  have h1 : k < k + 1 := by omega
  unfold eqAt
  dsimp only
  simp only [h, h1, true_and]
theorem nEqx_wf {r : NS} (hw : WF (nsI r 3 0)) : WF (nEqx r) := by
  have w0 : 3 ≤ r.1 0 := hw.1
  have w7 : arr r := hw.2.2.2.2.2.2.2.1
  refine ⟨w0, hw.2.1, hw.2.2.1, hw.2.2.2.1, hw.2.2.2.2.1, hw.2.2.2.2.2.1, hw.2.2.2.2.2.2.1, ?_, ?_, ?_⟩
  · intro k hk
    have hk : k < r.1 0 := hk
    obtain ⟨a, b, c, d, e⟩ := w7 k hk
    show (eqAt r (r.1 0)).2 7 k < r.1 0 - 1 ∧ (eqAt r (r.1 0)).2 8 k < r.1 0 ∧ (eqAt r (r.1 0)).2 9 k ≤ 2 ∧ (eqAt r (r.1 0)).2 11 k ≤ 1 ∧ (eqAt r (r.1 0)).2 12 k ≤ 9
    rw [eqAt_in r 7 hk, eqAt_in r 9 hk, eqAt_7, eqAt_9, eqAt_o r _ k (by decide) (by decide) (by decide), eqAt_o r _ k (by decide) (by decide) (by decide), eqAt_o r _ k (by decide) (by decide) (by decide)]
    refine ⟨?_, b, ?_, d, e⟩
    · split
      · exact Nat.mod_lt _ (by omega)
      · exact a
    · split <;> omega
  · intro i j hi hj h
    rw [show (nEqx r).2 8 i = r.2 8 i from eqAt_o r _ i (by decide) (by decide) (by decide), show (nEqx r).2 8 j = r.2 8 j from eqAt_o r _ j (by decide) (by decide) (by decide)] at h
    exact hw.2.2.2.2.2.2.2.2.1 i j hi hj h
  · intro i hi
    rw [show (nEqx r).2 13 i = r.2 13 i from eqAt_o r _ i (by decide) (by decide) (by decide), show (nEqx r).2 14 i = r.2 14 i from eqAt_o r _ i (by decide) (by decide) (by decide)]
    exact hw.2.2.2.2.2.2.2.2.2 i hi
def nTick (r : NS) : NS := (fun j => if j = 2 then r.1 2 + 1 else if j = 3 then r.1 3 + 1 else r.1 j, r.2)
def nDay (r : NS) : NS := if r.1 3 + 1 < r.1 1 then nTick r else nEqx (nTick r)
def nDays : Nat → NS → NS
  | 0, r => r
  | m + 1, r => nDays m (nDay r)
theorem tick_w3 {r : NS} (hw : WF r) : WF (nsI (nTick r) 3 0) := by
  obtain ⟨w0, w1, w2, w3, w4, w5, w6, w7, w8, w9⟩ := hw
  exact ⟨w0, w1, w2, w3, by show 0 < r.1 1; omega, w5, w6, w7, w8, w9⟩
theorem nDay_wf {r : NS} (hw : WF r) : WF (nDay r) := by
  unfold nDay
  by_cases h : r.1 3 + 1 < r.1 1
  · rw [if_pos h]
    obtain ⟨w0, w1, w2, w3, w4, w5, w6, w7, w8, w9⟩ := hw
    exact ⟨w0, w1, w2, w3, h, w5, w6, w7, w8, w9⟩
  · rw [if_neg h]
    exact nEqx_wf (tick_w3 hw)
theorem nDays_wf : ∀ m {r : NS}, WF r → WF (nDays m r) := by
  intro m
  induction m with
  | zero => exact fun h => h
  | succ m ih => exact fun h => ih (nDay_wf h)
theorem nI_dec (m : Nat) : nI (m + 1) + (-1) = nI m := by
  rw [← nI_1, Int32.add_assoc, show (1 : Int32) + (-1) = 0 by decide, Int32.add_zero]
theorem tick_eq (r : NS) : sI (sI (NI r) 2 ((NI r).1 2 + 1)) 3 ((NI r).1 3 + 1) = NI (nTick r) := by
  refine Prod.ext ?_ rfl
  funext j
  show (if j = 3 then nI (r.1 3) + 1 else if j = 2 then nI (r.1 2) + 1 else nI (r.1 j)) = nI (if j = 2 then r.1 2 + 1 else if j = 3 then r.1 3 + 1 else r.1 j)
  by_cases h3 : j = 3
  · rw [if_pos h3, if_neg (by omega), if_pos h3, nI_1]
  · rw [if_neg h3]
    by_cases h2 : j = 2
    · rw [if_pos h2, if_pos h2, nI_1]
    · rw [if_neg h2, if_neg h2, if_neg h3]
theorem pdX {K : St → Prop} : ∀ (m : Nat) {r : NS}, m ≤ 1000 → WF r → K (NI (nDays m r)) → wl_X2_passDays_2 K (m + 1) (nI m) (NI r) := by
  intro m
  induction m with
  | zero =>
    intro r _ _ hK
    unfold wl_X2_passDays_2
    rw [if_pos (by decide)]
    exact hK
  | succ m ih =>
    intro r hm hw hK
    obtain ⟨w0, w1, w2, w3, w4, -⟩ := id hw
    have hd := ih (by omega) (nDay_wf hw) hK
    unfold wl_X2_passDays_2
    rw [if_neg (by rw [show (0 : Int32) = nI 0 from nI_0.symm]; exact nI_ge (by omega) (by omega)), tick_eq, nI_dec, NI_1, NI_1, nI_1]
    unfold nDay at hd
    by_cases h : r.1 3 + 1 < r.1 1
    · rw [if_pos h] at hd
      rw [if_pos (nI_lt h (by omega))]
      exact hd
    · rw [if_neg h] at hd
      rw [if_neg (nI_nlt (by omega) (by omega))]
      exact eqX (tick_w3 hw) hd
theorem daysX {r : NS} {m : Nat} {x : Int32} (hx : x = nI m) (hm : m ≤ 1000) (hw : WF r) {K : St → Prop} (hK : K (NI (nDays m r))) : wp_X2_passDays (NI r) x K := by
  subst hx
  exact ⟨_, pdX m hm hw hK⟩
theorem nEqx_ext {r q : NS} (h2 : r.2 = q.2) (h1 : ∀ j, j ≠ 3 → r.1 j = q.1 j) : nEqx r = nEqx q := by
  obtain ⟨r1, r2⟩ := r
  obtain ⟨q1, q2⟩ := q
  dsimp only at h1 h2
  subst h2
  unfold nEqx eqAt
  dsimp only
  have e0 := h1 0 (by decide)
  have e4 := h1 4 (by decide)
  have e5 := h1 5 (by decide)
  simp only [e0, e4, e5]
  refine Prod.ext ?_ rfl
  funext j
  dsimp only
  by_cases h3 : j = 3
  · rw [if_pos h3, if_pos h3]
  · rw [if_neg h3, if_neg h3, h1 j h3]
theorem season_eq : ∀ (m : Nat) (r : NS), r.1 3 + (m + 1) = r.1 1 → nDays (m + 1) r = nEqx (nsI r 2 (r.1 2 + (m + 1))) := by
  intro m
  induction m with
  | zero =>
    intro r h
    show nDay r = _
    unfold nDay
    rw [if_neg (by omega)]
    refine nEqx_ext rfl (fun j hj => ?_)
    show (if j = 2 then r.1 2 + 1 else if j = 3 then r.1 3 + 1 else r.1 j) = if j = 2 then r.1 2 + (0 + 1) else r.1 j
    rw [if_neg hj]
  | succ m ih =>
    intro r h
    show nDays (m + 1) (nDay r) = _
    have e : nDay r = nTick r := by unfold nDay; rw [if_pos (by omega)]
    rw [e, ih (nTick r) (by show r.1 3 + 1 + (m + 1) = r.1 1; omega)]
    refine nEqx_ext rfl (fun j hj => ?_)
    show (if j = 2 then r.1 2 + 1 + (m + 1) else if j = 2 then r.1 2 + 1 else if j = 3 then r.1 3 + 1 else r.1 j) = if j = 2 then r.1 2 + (m + 1 + 1) else r.1 j
    by_cases h2 : j = 2
    · rw [if_pos h2, if_pos h2]; omega
    · rw [if_neg h2, if_neg h2, if_neg hj, if_neg h2]
theorem seasonX {r : NS} (hw : WF r) {K : St → Prop} (hK : K (NI (nDays (r.1 1 - r.1 3) r))) : wp_X2_passSeason (NI r) K := by
  obtain ⟨w0, w1, w2, w3, w4, w5, w6, w7, w8, w9⟩ := id hw
  unfold wp_X2_passSeason
  rw [NI_1, NI_1, NI_1, pk_sub (by omega), nI_add, sI_NI]
  refine eqX (r := nsI r 2 (r.1 2 + (r.1 1 - r.1 3))) ⟨w0, w1, w2, w3, by show 0 < r.1 1; omega, w5, w6, w7, w8, w9⟩ ?_
  obtain ⟨m, hm⟩ : ∃ m, r.1 1 - r.1 3 = m + 1 := ⟨r.1 1 - r.1 3 - 1, by omega⟩
  rw [hm, season_eq m r (by omega)] at hK
  rw [hm]
  exact hK
