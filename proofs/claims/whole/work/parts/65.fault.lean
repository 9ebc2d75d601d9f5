-- fault: the first place of the pad that can't be read
def chB (n x : Nat) : Bool := decide (65 ≤ x ∧ x < 65 + n)
def tmB (x : Nat) : Bool := decide (x = 46 ∨ x = 58 ∨ x = 59)
def ftB (x : Nat) : Bool := decide (x = 115 ∨ x = 100 ∨ x = 109)
theorem t_isTime : ∀ x, x < 127 → F_X1_isTime (nI x) = if tmB x = true then 1 else 0 := by decide +kernel
theorem t_isFate : ∀ x, x < 127 → F_X1_isFate (nI x) = if ftB x = true then 1 else 0 := by decide +kernel
theorem t_isChild : ∀ n, n < 7 → ∀ x, x < 127 → F_X1_isChild (nI x) (nI n) = if chB n x = true then 1 else 0 := by decide +kernel
theorem t_in : ∀ n, n < 7 → ∀ x, x < 127 → F_X7_in (nI x - 65) 0 (nI n - 1) = if chB n x = true then 1 else 0 := by decide +kernel
theorem m_isChild {M : St} {r : NS} (hw : WF r) (hm : MR M r) {x : Nat} (hx : x < 127) : F_X7_isChild M (nI x) = if chB (r.1 0) x = true then 1 else 0 := by
  have h6 := hw.2.1
  unfold F_X7_isChild F_X7_isOne
  rw [hm.1]
  exact t_in _ (by omega) x hx
/-- the fault of what stands from place i on, m signs of it -/
def fv (n : Nat) (d : Nat → Nat) : Nat → Nat → Int32
  | 0, _ => -6
  | m + 1, i => if tmB (d i) = true then fv n d m (i + 1) else if chB n (d i) = true then (match m with
    | 0 => nI (i + 1)
    | m' + 1 => if ftB (d (i + 1)) = true ∨ chB n (d (i + 1)) = true then fv n d m' (i + 2) else nI (i + 1)) else nI i
theorem ffX {S : St} {n p : Nat} {d : Nat → Nat} (hn : n < 7) (hp : p ≤ 60) (e1 : S.1 1 = nI p) (hd : ∀ k, k < p → S.2 0 k = nI (d k) ∧ d k < 127) {K : Int32 → Prop} : ∀ (m i : Nat), i + m = p → K (fv n d m i) → ∀ F, m < F → wl_X1_firstFault_2 S (nI n) (K (-6)) K F (nI i) := by
  intro m
  induction m using Nat.strongRecOn with
  | _ m ih =>
    intro i hi hK F hF
    obtain ⟨F, rfl⟩ : ∃ G, F = G + 1 := ⟨F - 1, by omega⟩
    unfold wl_X1_firstFault_2
    rw [e1]
    cases m with
    | zero =>
      rw [if_pos (by rw [show i = p by omega]; exact Int32.le_refl _)]
      exact hK
    | succ m =>
      obtain ⟨d0, b0⟩ := hd i (by omega)
      rw [if_neg (nI_ge (show i < p by omega) (by omega)), get_nI _ (show i < 60 by omega) (by omega), d0, t_isTime _ b0, t_isChild _ hn _ b0]
      unfold fv at hK
      by_cases ht : tmB (d i) = true
      · rw [if_pos ht] at hK
        rw [if_pos ht, if_neg (by decide), nI_1]
        exact ih m (by omega) (i + 1) (by omega) hK F (by omega)
      · rw [if_neg ht] at hK
        rw [if_neg ht, if_pos rfl]
        by_cases hc : chB n (d i) = true
        · rw [if_pos hc] at hK
          rw [if_pos hc, if_neg (by decide), nI_1]
          cases m with
          | zero =>
            rw [if_neg (nI_nlt (by omega) (by omega)), show p = i + 1 by omega]
            exact hK
          | succ m =>
            dsimp only at hK
            obtain ⟨d1, b1⟩ := hd (i + 1) (by omega)
            rw [if_pos (nI_lt (by omega) (by omega)), get_nI _ (show i + 1 < 60 by omega) (by omega), d1, t_isFate _ b1, t_isChild _ hn _ b1, show nI i + 2 = nI (i + 2) from nI_k i 2 (by decide)]
            by_cases hf : ftB (d (i + 1)) = true
            · rw [if_pos (Or.inl hf)] at hK
              rw [if_pos hf, if_neg (by decide)]
              exact ih m (by omega) (i + 2) (by omega) hK F (by omega)
            · rw [if_neg hf, if_pos rfl]
              by_cases hc1 : chB n (d (i + 1)) = true
              · rw [if_pos (Or.inr hc1)] at hK
                rw [if_pos hc1, if_neg (by decide)]
                exact ih m (by omega) (i + 2) (by omega) hK F (by omega)
              · rw [if_neg (by rintro (h | h); exact hf h; exact hc1 h)] at hK
                rw [if_neg hc1, if_pos rfl]
                exact hK
        · rw [if_neg hc] at hK
          rw [if_neg hc, if_pos rfl]
          exact hK
theorem t_tm : ∀ x, x < 127 → ((nI x = 46 ∨ nI x = 58 ∨ nI x = 59) ↔ tmB x = true) := by decide +kernel
theorem t_ft : ∀ x, x < 127 → ((nI x = 115 ∨ nI x = 100 ∨ nI x = 109) ↔ ftB x = true) := by decide +kernel
theorem t_tmch : ∀ n, n < 7 → ∀ x, x < 127 → tmB x = true → ¬ chB n x = true := by decide +kernel
theorem t_ftch : ∀ n, n < 7 → ∀ x, x < 127 → ftB x = true → ¬ chB n x = true := by decide +kernel
theorem or3 {a b c : Prop} [Decidable a] [Decidable b] [Decidable c] {P Q : Prop} (h : a ∨ b ∨ c) (hP : P) : if a then P else if b then P else if c then P else Q := by
  by_cases h1 : a
  · rw [if_pos h1]; exact hP
  · rw [if_neg h1]
    by_cases h2 : b
    · rw [if_pos h2]; exact hP
    · rw [if_neg h2]
      by_cases h3 : c
      · rw [if_pos h3]; exact hP
      · exact absurd h (by rintro (h | h | h) <;> contradiction)
theorem no3 {a b c : Prop} [Decidable a] [Decidable b] [Decidable c] {P Q : Prop} (h : ¬ (a ∨ b ∨ c)) (hQ : Q) : if a then P else if b then P else if c then P else Q := by
  rw [if_neg (fun x => h (Or.inl x)), if_neg (fun x => h (Or.inr (Or.inl x))), if_neg (fun x => h (Or.inr (Or.inr x)))]
  exact hQ
theorem ffM {M : St} {r : NS} {p : Nat} {d : Nat → Nat} (hw : WF r) (hm : MR M r) (hp : p ≤ 60) (e1 : M.1 12 = nI p) (hd : ∀ k, k < p → M.2 13 k = nI (d k) ∧ d k < 127) {K : Int32 → Prop} : ∀ (m i : Nat), i + m = p → K (fv (r.1 0) d m i) → ∀ F, m < F → wl_X7_faultOf_4 M (fun (v11 : Int32) => (if v11 = 0 then (K (-6)) else (K (M.1 12)))) K F 0 (nI i) := by
  have h6 := hw.2.1
  intro m
  induction m using Nat.strongRecOn with
  | _ m ih =>
    intro i hi hK F hF
    obtain ⟨F, rfl⟩ : ∃ G, F = G + 1 := ⟨F - 1, by omega⟩
    unfold wl_X7_faultOf_4
    rw [e1] at ih ⊢
    cases m with
    | zero =>
      rw [if_pos (by rw [show i = p by omega]; exact Int32.le_refl _), if_pos rfl]
      exact hK
    | succ m =>
      obtain ⟨d0, b0⟩ := hd i (by omega)
      rw [if_neg (nI_ge (show i < p by omega) (by omega)), clamp_nI (by omega), d0, m_isChild hw hm b0]
      refine ⟨vp_in_nI (by omega) (by omega), ?_⟩
      unfold fv at hK
      by_cases hc : chB (r.1 0) (d i) = true
      · have ht : ¬ tmB (d i) = true := fun h => t_tmch _ (by omega) _ b0 h hc
        rw [if_neg ht, if_pos hc] at hK
        rw [if_pos hc, if_neg (by decide), if_pos rfl, nI_1]
        obtain ⟨F, rfl⟩ : ∃ G, F = G + 1 := ⟨F - 1, by omega⟩
        unfold wl_X7_faultOf_4
        rw [e1]
        cases m with
        | zero =>
          rw [if_pos (by rw [show i + 1 = p by omega]; exact Int32.le_refl _), if_neg (by decide), show p = i + 1 by omega]
          exact hK
        | succ m =>
          dsimp only at hK
          obtain ⟨d1, b1⟩ := hd (i + 1) (by omega)
          rw [if_neg (nI_ge (show i + 1 < p by omega) (by omega)), clamp_nI (by omega), d1, m_isChild hw hm b1]
          refine ⟨vp_in_nI (by omega) (by omega), ?_⟩
          rw [nI_1]
          by_cases hc1 : chB (r.1 0) (d (i + 1)) = true
          · rw [if_pos (Or.inr hc1)] at hK
            rw [if_pos hc1, if_neg (by decide), if_neg (by decide)]
            exact ih m (by omega) (i + 2) (by omega) hK F (by omega)
          · rw [if_neg hc1, if_pos rfl, if_neg (by decide)]
            by_cases hf : ftB (d (i + 1)) = true
            · rw [if_pos (Or.inl hf)] at hK
              exact or3 ((t_ft _ b1).2 hf) (ih m (by omega) (i + 2) (by omega) hK F (by omega))
            · rw [if_neg (by rintro (h | h); exact hf h; exact hc1 h)] at hK
              exact no3 (fun h => hf ((t_ft _ b1).1 h)) hK
      · rw [if_neg hc, if_pos rfl, if_pos rfl, nI_1]
        by_cases ht : tmB (d i) = true
        · rw [if_pos ht] at hK
          exact or3 ((t_tm _ b0).2 ht) (ih m (by omega) (i + 1) (by omega) hK F (by omega))
        · rw [if_neg ht, if_neg hc] at hK
          exact no3 (fun h => ht ((t_tm _ b0).1 h)) hK
theorem fault_X {X5 M : St} {r : NS} {p : Nat} {d : Nat → Nat} (hw : WF r) (hp : p ≤ 60) (e1 : X5.1 1 = nI p) (hd : ∀ k, k < p → X5.2 0 k = nI (d k) ∧ M.2 13 k = nI (d k) ∧ 33 ≤ d k ∧ d k ≤ 126) {K : Int32 → Prop} (hK : K (fv (r.1 0) d p 0)) : wp_X1_firstFault X5 ((NI r).1 0) K := by
  have h6 := hw.2.1
  unfold wp_X1_firstFault
  have key := ffX (S := X5) (n := r.1 0) (p := p) (d := d) (by omega) hp e1 (fun k hk => ⟨(hd k hk).1, by have := (hd k hk).2.2.2; omega⟩) (K := K) p 0 (by omega) hK (p + 1) (by omega)
  rw [nI_0] at key
  exact ⟨_, key⟩
theorem fault_M {X5 M : St} {r : NS} {p : Nat} {d : Nat → Nat} (hw : WF r) (hm : MR M r) (hp : p ≤ 60) (e1 : M.1 12 = nI p) (hd : ∀ k, k < p → X5.2 0 k = nI (d k) ∧ M.2 13 k = nI (d k) ∧ 33 ≤ d k ∧ d k ≤ 126) {K : Int32 → Prop} (hK : K (fv (r.1 0) d p 0)) : wp_X7_faultOf M K := by
  unfold wp_X7_faultOf
  have key := ffM (M := M) (r := r) (p := p) (d := d) hw hm hp e1 (fun k hk => ⟨(hd k hk).2.1, by have := (hd k hk).2.2.2; omega⟩) (K := K) p 0 (by omega) hK (p + 1) (by omega)
  rw [nI_0] at key
  exact ⟨_, key⟩
theorem sim_fault : Sim_fault Inv := by
  intro X0 X1 X2 X3 X4 X5 X6 X7 X8 M hI
  obtain ⟨⟨r, rfl, hw, hm⟩, hi1, hi2, p, d, hp60, e1, e2, hd⟩ := id hI
  unfold wp_X6_fault wp_X7_fault
  exact fault_X hw hp60 e1 hd (fault_M hw hm hp60 e2 hd ⟨rfl, hI⟩)
/-- what fv can be -/
theorem fv_or (n : Nat) (d : Nat → Nat) : ∀ m i, i + m ≤ 60 → fv n d m i = -6 ∨ ∃ j, j ≤ 60 ∧ fv n d m i = nI j := by
  intro m
  induction m using Nat.strongRecOn with
  | _ m ih =>
    intro i hi
    unfold fv
    cases m with
    | zero => exact Or.inl rfl
    | succ m =>
      dsimp only
      by_cases ht : tmB (d i) = true
      · rw [if_pos ht]
        exact ih m (by omega) (i + 1) (by omega)
      · rw [if_neg ht]
        by_cases hc : chB n (d i) = true
        · rw [if_pos hc]
          cases m with
          | zero => exact Or.inr ⟨i + 1, by omega, rfl⟩
          | succ m =>
            dsimp only
            split
            · exact ih m (by omega) (i + 2) (by omega)
            · exact Or.inr ⟨i + 1, by omega, rfl⟩
        · rw [if_neg hc]
          exact Or.inr ⟨i, by omega, rfl⟩
