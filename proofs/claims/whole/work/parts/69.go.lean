-- the years of the pad, gone through
def nTime (r : NS) (x : Nat) : NS := if x = 46 then nDays 1 r else if x = 58 then nDays 10 r else nDays (r.1 1 - r.1 3) r
def runY (d : Nat → Nat) : Nat → Nat → NS → Nat → Nat × Nat × NS
  | 0, _, r, a => (0, a, r)
  | m + 1, i, r, a => if tmB (d i) = true then runY d m (i + 1) (nTime r (d i)) (a + 1) else match m with
    | 0 => (0, a, r)
    | m' + 1 => if (fate r (d i - 65) (d (i + 1))).1 = 0 then runY d m' (i + 2) (fate r (d i - 65) (d (i + 1))).2 (a + 1) else ((fate r (d i - 65) (d (i + 1))).1, a, (fate r (d i - 65) (d (i + 1))).2)
theorem nDays_n : ∀ m r, (nDays m r).1 0 = r.1 0 := by
  intro m
  induction m with
  | zero => exact fun r => rfl
  | succ m ih => exact fun r => (ih (nDay r)).trans (nDay_n r)
theorem nDays_l : ∀ m r, (nDays m r).1 1 = r.1 1 := by
  intro m
  induction m with
  | zero => exact fun r => rfl
  | succ m ih => exact fun r => (ih (nDay r)).trans (nDay_l r)
theorem nTime_n (r : NS) (x : Nat) : (nTime r x).1 0 = r.1 0 := by
  unfold nTime
  split
  · exact nDays_n _ _
  · split
    · exact nDays_n _ _
    · exact nDays_n _ _
theorem nTime_l (r : NS) (x : Nat) : (nTime r x).1 1 = r.1 1 := by
  unfold nTime
  split
  · exact nDays_l _ _
  · split
    · exact nDays_l _ _
    · exact nDays_l _ _
theorem nTime_wf {r : NS} (hw : WF r) (x : Nat) : WF (nTime r x) := by
  unfold nTime
  split
  · exact nDays_wf _ hw
  · split
    · exact nDays_wf _ hw
    · exact nDays_wf _ hw
theorem fate_I (r : NS) (k s : Nat) {j : Nat} (hj : j ≠ 5) : (fate r k s).2.1 j = r.1 j := by
  have hd : (nDie r k).1 j = r.1 j := by
    unfold nDie
    rw [nsI_1, if_neg hj]
  unfold fate dieF bindF hatF
  repeat' split
  all_goals first | rfl | exact hd
theorem tm_3 {x : Nat} (h : tmB x = true) (h1 : x ≠ 46) (h2 : x ≠ 58) : x = 59 := by
  unfold tmB at h
  rw [decide_eq_true_eq] at h
  omega
theorem t_46 : ∀ x, x < 127 → (nI x = 46 ↔ x = 46) ∧ (nI x = 58 ↔ x = 58) := by decide +kernel
theorem timeX {r : NS} (hw : WF r) {x : Nat} (hx : x < 127) {K : St → Prop} (hK : K (NI (nTime r x))) : wp_X5_passTime (NI r) (nI x) K := by
  obtain ⟨t1, t2⟩ := t_46 x hx
  unfold wp_X5_passTime
  unfold nTime at hK
  by_cases h1 : x = 46
  · rw [if_pos h1] at hK
    rw [if_pos (t1.2 h1)]
    exact daysX i1 (by omega) hw hK
  · rw [if_neg h1] at hK
    rw [if_neg (fun y => h1 (t1.1 y))]
    by_cases h2 : x = 58
    · rw [if_pos h2] at hK
      rw [if_pos (t2.2 h2)]
      exact daysX (m := 10) (by decide) (by omega) hw hK
    · rw [if_neg h2] at hK
      rw [if_neg (fun y => h2 (t2.1 y))]
      exact seasonX hw hK
theorem fv_ch {n : Nat} {d : Nat → Nat} {m i : Nat} (hf : fv n d (m + 1) i = -6) (hi : i + (m + 1) ≤ 60) (ht : ¬ tmB (d i) = true) : chB n (d i) = true ∧ ∃ m', m = m' + 1 ∧ okF n (d (i + 1)) ∧ fv n d m' (i + 2) = -6 := by
  have ne : ∀ j, j ≤ 60 → nI j ≠ (-6 : Int32) := by decide +kernel
  unfold fv at hf
  rw [if_neg ht] at hf
  by_cases hc : chB n (d i) = true
  · rw [if_pos hc] at hf
    refine ⟨hc, ?_⟩
    cases m with
    | zero => exact absurd hf (ne _ (by omega))
    | succ m =>
      dsimp only at hf
      by_cases ho : ftB (d (i + 1)) = true ∨ chB n (d (i + 1)) = true
      · rw [if_pos ho] at hf
        exact ⟨m, rfl, ho, hf⟩
      · rw [if_neg ho] at hf
        exact absurd hf (ne _ (by omega))
  · rw [if_neg hc] at hf
    exact absurd hf (ne _ (by omega))
theorem ch_k {n x : Nat} (h : chB n x = true) : 65 ≤ x ∧ x - 65 < n := by
  unfold chB at h
  rw [decide_eq_true_eq] at h
  omega
theorem canX {X5 : St} {p n : Nat} {d : Nat → Nat} (hn : n < 7) (hp : p ≤ 60) (e1 : X5.1 1 = nI p) (hd : ∀ k, k < p → X5.2 0 k = nI (d k) ∧ d k < 127) {KX : St → St → Prop} : ∀ (m i : Nat) (r : NS) (a : Nat) (S : St), i + m = p → fv n d m i = -6 → WF r → r.1 0 = n → S.1 0 = nI a → S.1 1 = 0 → (∀ S : St, S.1 0 = nI (runY d m i r a).2.1 → S.1 1 = nI (runY d m i r a).1 → KX S (NI (runY d m i r a).2.2)) → ∀ F, m + 1 < F → wl_X5_canBe_26 X5 KX F (nI i) S (NI r) := by
  intro m
  induction m using Nat.strongRecOn with
  | _ m ih =>
    intro i r a S hi hf hw hr s0 s1 hK F hF
    obtain ⟨F, rfl⟩ : ∃ G, F = G + 1 := ⟨F - 1, by omega⟩
    unfold wl_X5_canBe_26
    rw [e1]
    cases m with
    | zero =>
      rw [if_pos (by rw [show i = p by omega]; exact Int32.le_refl _)]
      exact hK S s0 (by rw [s1]; exact nI_0.symm)
    | succ m =>
      obtain ⟨d0, b0⟩ := hd i (by omega)
      rw [if_neg (nI_ge (show i < p by omega) (by omega)), s1, if_pos rfl, get_nI _ (show i < 60 by omega) (by omega), d0, t_isTime _ b0]
      by_cases ht : tmB (d i) = true
      · rw [if_pos ht, if_neg (by decide)]
        have hf' : fv n d m (i + 1) = -6 := by
          unfold fv at hf
          rw [if_pos ht] at hf
          exact hf
        have er : runY d (m + 1) i r a = runY d m (i + 1) (nTime r (d i)) (a + 1) := by
          conv => lhs; unfold runY
          rw [if_pos ht]
        rw [er] at hK
        refine timeX hw b0 ?_
        rw [nI_1]
        exact ih m (by omega) (i + 1) _ (a + 1) (sI S 0 (S.1 0 + 1)) (by omega) hf' (nTime_wf hw _) (by rw [nTime_n]; exact hr) (by show S.1 0 + 1 = _; rw [s0, nI_1]) s1 hK F (by omega)
      · rw [if_neg ht, if_pos rfl]
        obtain ⟨hc, m, rfl, ho, hf'⟩ := fv_ch hf (by omega) ht
        obtain ⟨d1, b1⟩ := hd (i + 1) (by omega)
        obtain ⟨c1, c2⟩ := ch_k hc
        rw [nI_1, get_nI _ (show i + 1 < 60 by omega) (by omega), d1, show nI (d i) - 65 = nI (d i - 65) from pk_sub (a := d i) (b := 65) (by omega), show nI i + 2 = nI (i + 2) from nI_k i 2 (by decide)]
        have hwf := fate_wf (k := d i - 65) (s := d (i + 1)) hw (by omega) (by rw [hr]; exact ho)
        refine fateX hw (by omega) b1 (by rw [hr]; exact ho) ?_
        have er : runY d (m + 1 + 1) i r a = if (fate r (d i - 65) (d (i + 1))).1 = 0 then runY d m (i + 2) (fate r (d i - 65) (d (i + 1))).2 (a + 1) else ((fate r (d i - 65) (d (i + 1))).1, a, (fate r (d i - 65) (d (i + 1))).2) := by
          conv => lhs; unfold runY
          rw [if_neg ht]
        by_cases h0 : (fate r (d i - 65) (d (i + 1))).1 = 0
        · rw [er, if_pos h0] at hK
          rw [h0, nI_0, if_pos rfl]
          exact ih m (by omega) (i + 2) _ (a + 1) _ (by omega) hf' hwf (by rw [fate_I _ _ _ (by decide)]; exact hr) (by show S.1 0 + 1 = _; rw [s0, nI_1]) (by trivial) hK F (by omega)
        · rw [er, if_neg h0] at hK
          have hle : (fate r (d i - 65) (d (i + 1))).1 ≤ 4 := by
            unfold fate dieF bindF hatF
            repeat' split
            all_goals exact Nat.le_of_ble_eq_true rfl
          have ne : ¬ nI (fate r (d i - 65) (d (i + 1))).1 = 0 := nI_ne0 (by omega) (by omega)
          rw [if_neg ne]
          obtain ⟨F, rfl⟩ : ∃ G, F = G + 1 := ⟨F - 1, by omega⟩
          unfold wl_X5_canBe_26
          rw [show (sI S 1 (nI (fate r (d i - 65) (d (i + 1))).1)).1 1 = nI (fate r (d i - 65) (d (i + 1))).1 from rfl, if_neg ne]
          split
          · exact hK _ s0 rfl
          · exact hK _ s0 rfl
