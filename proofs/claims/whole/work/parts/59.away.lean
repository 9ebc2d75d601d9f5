-- meet; how long one is away; wars
theorem landN_per {r : NS} (hw : WF r) (k : Nat) {e : Nat} (he : 1 ≤ e) : landN r k (e + (r.1 0 - 1)) = landN r k e := by
  have h3 := hw.1
  have key : (r.2 7 k + stp (r.2 9 k) (e + (r.1 0 - 1))) % (r.1 0 - 1) = (r.2 7 k + stp (r.2 9 k) e) % (r.1 0 - 1) := by
    unfold stp
    by_cases h1 : r.2 9 k = 1
    · rw [if_pos h1, if_pos h1, show r.2 7 k + (e + (r.1 0 - 1) - 1) = (r.2 7 k + (e - 1)) + (r.1 0 - 1) by omega, Nat.add_mod_right]
    · rw [if_neg h1, if_neg h1]
      by_cases h2 : r.2 9 k = 2
      · rw [if_pos h2, if_pos h2]
      · rw [if_neg h2, if_neg h2, ← Nat.add_assoc, Nat.add_mod_right]
  unfold landN
  rw [key]
theorem isAt_per {r : NS} (hw : WF r) (l k : Nat) : ∀ e, 1 ≤ e → isAt r l k (e + (r.1 0 - 1)) = isAt r l k e := by
  intro e he
  unfold isAt
  rw [landN_per hw k he]
def shB (r : NS) (a b e : Nat) : Bool := decide (r.1 5 / 2 ^ a % 2 = 1 ∧ r.1 5 / 2 ^ b % 2 = 1 ∧ landN r a e = landN r b e)
theorem shB_per {r : NS} (hw : WF r) (a b : Nat) : ∀ e, 1 ≤ e → shB r a b (e + (r.1 0 - 1)) = shB r a b e := by
  intro e he
  unfold shB
  rw [landN_per hw a he, landN_per hw b he]
theorem share_nI {r : NS} (hw : WF r) {a b e : Nat} (ha : a < r.1 0) (hb : b < r.1 0) (he : e < 2 ^ 30) : F_X2_shareALand (NI r) (nI a) (nI b) (nI e) = if shB r a b e = true then 1 else 0 := by
  have h6 := hw.2.1
  have l1 := landN_lt hw a e
  have l2 := landN_lt hw b e
  unfold F_X2_shareALand
  rw [landAfter_nI hw ha he, landAfter_nI hw hb he]
  unfold shB landE
  simp only [decide_eq_true_eq]
  have n6 : ∀ x, x < r.1 0 → ¬ nI x = (-6) := fun x hx h => absurd (h ▸ nI_pos' (by omega) : (0 : Int32) ≤ (-6)) (by decide)
  by_cases h1 : r.1 5 / 2 ^ a % 2 = 1
  · rw [if_pos h1, if_neg (n6 _ l1)]
    by_cases h2 : r.1 5 / 2 ^ b % 2 = 1
    · rw [if_pos h2]
      by_cases h3 : landN r a e = landN r b e
      · rw [if_pos (by rw [h3]), if_pos ⟨h1, h2, h3⟩]
      · rw [if_neg (by rw [nI_eq (by omega) (by omega)]; exact h3), if_neg (fun h => h3 h.2.2)]
    · rw [if_neg h2, if_neg (n6 _ l1), if_neg (fun h => h2 h.2.1)]
  · rw [if_neg h1, if_pos rfl, if_neg (fun h => h1 h.1)]
theorem areIn_ok {r : NS} {M : St} (hw : WF r) (hm : MR M r) {a b e : Nat} (ha : a < r.1 0) (hb : b < r.1 0) (he : e < 2 ^ 30) {K : Int32 → Prop} (hK : K (if shB r a b e = true then 1 else 0)) : wp_X7_areIn M (nI a) (nI b) (nI e) K := by
  have h6 := hw.2.1
  have l1 := landN_lt hw a e
  have l2 := landN_lt hw b e
  have m5 := hm.2.2.2.2.2.2.1
  unfold wp_X7_areIn
  rw [nI_clamp (by omega), nI_clamp (by omega), (m5 a ha).1, (m5 b hb).1]
  refine ⟨vp6 (by omega), ?_⟩
  unfold shB at hK
  by_cases h1 : r.1 5 / 2 ^ a % 2 = 1
  · rw [if_neg (fun h => (landI_lt hw a).mp h h1)]
    refine ⟨vp6 (by omega), ?_⟩
    by_cases h2 : r.1 5 / 2 ^ b % 2 = 1
    · rw [if_neg (fun h => (landI_lt hw b).mp h h2)]
      refine whereB hw hm ha he (whereB hw hm hb he ?_)
      unfold landE
      rw [if_pos h1, if_pos h2]
      by_cases h3 : landN r a e = landN r b e
      · rw [if_pos (by rw [h3])]
        rw [if_pos (by simpa using ⟨h1, h2, h3⟩)] at hK
        exact hK
      · rw [if_neg (by rw [nI_eq (by omega) (by omega)]; exact h3)]
        rw [if_neg (by simpa using fun _ _ => h3)] at hK
        exact hK
    · rw [if_pos ((landI_lt hw b).mpr h2)]
      rw [if_neg (by simpa using fun _ h => absurd h h2)] at hK
      exact hK
  · rw [if_pos ((landI_lt hw a).mpr h1)]
    rw [if_neg (by simpa using fun h => absurd h h1)] at hK
    exact hK
theorem both_two {r : NS} {M : St} (hw : WF r) (hm : MR M r) (x y : Int32) : F_X2_hasBoth (NI r) x y = F_X7_areTwo M x y ∧ (F_X7_areTwo M x y = 0 ∨ ∃ a b, a < r.1 0 ∧ b < r.1 0 ∧ a ≠ b ∧ x = nI a ∧ y = nI b ∧ ¬ F_X7_areTwo M x y = 0) := by
  obtain ⟨hx, cx⟩ := has_one hw hm x
  obtain ⟨hy, cy⟩ := has_one hw hm y
  have h6 := hw.2.1
  unfold F_X2_hasBoth F_X7_areTwo
  rw [hx, hy]
  refine ⟨rfl, ?_⟩
  rcases cx with h | ⟨a, ha, rfl, h⟩
  · exact Or.inl (by rw [if_pos h])
  · rw [h, if_neg (by decide)]
    rcases cy with h1 | ⟨b, hb, rfl, h1⟩
    · exact Or.inl (by rw [if_pos h1])
    · rw [h1, if_neg (by decide)]
      by_cases hab : a = b
      · exact Or.inl (by rw [hab, if_pos rfl])
      · exact Or.inr ⟨a, b, ha, hb, hab, rfl, rfl, by rw [if_neg (by rw [nI_eq (by omega) (by omega)]; exact hab)]; decide⟩
/-- the first day behind e equinoxes -/
def fdN (r : NS) (e : Nat) : Nat := e * r.1 1 - r.1 3
theorem fd_nI {r : NS} (hw : WF r) {e : Nat} (he : e < 2 ^ 20) : F_X2_firstDayAfter (NI r) (nI e) = nI (fdN r e) := by
  rw [first_nI e he hw]
  unfold fdN
  by_cases h : e = 0
  · subst h; rw [if_pos rfl, Nat.zero_mul, Nat.zero_sub, nI_0]
  · rw [if_neg h]
theorem fdM_nI {r : NS} {M : St} (hw : WF r) (hm : MR M r) {e : Nat} (he : e < 2 ^ 20) : F_X7_firstDay M (nI e) = nI (fdN r e) := by
  rw [firstM_nI e he hw hm]
  unfold fdN
  by_cases h : e = 0
  · subst h; rw [if_pos rfl, Nat.zero_mul, Nat.zero_sub, nI_0]
  · rw [if_neg h]
theorem meetX_lp {r : NS} (hw : WF r) {a b : Nat} (ha : a < r.1 0) (hb : b < r.1 0) {kx : Prop} {k : Int32 → Prop} : ∀ (d i : Nat), i + d = r.1 0 + 1 → (∀ e, findP (shB r a b) d i = some e → k (nI (fdN r e))) → (findP (shB r a b) d i = none → kx) → wl_X6_meet_16 (NI r) (nI a) (nI b) kx k (d + 1) (nI i) := by
  have h6 := hw.2.1
  intro d
  induction d with
  | zero =>
    intro i hi _ h2
    unfold wl_X6_meet_16
    rw [NI_1, if_pos (nI_lt (by omega) (by omega))]
    exact h2 rfl
  | succ d ih =>
    intro i hi h1 h2
    unfold wl_X6_meet_16
    rw [NI_1, if_neg (nI_nlt (by omega) (by omega)), share_nI hw ha hb (by omega)]
    unfold findP at h1 h2
    by_cases hs : shB r a b i = true
    · rw [if_pos hs, if_neg (by decide), fd_nI hw (by omega)]
      exact h1 i (by rw [if_pos hs])
    · rw [if_neg hs] at h1 h2
      rw [if_neg hs, if_pos rfl, nI_1]
      exact ih (i + 1) (by omega) h1 h2
theorem meetM_lp {r : NS} {M : St} (hw : WF r) (hm : MR M r) {a b : Nat} (ha : a < r.1 0) (hb : b < r.1 0) {kx : Prop} {k : Int32 → Prop} : ∀ (d i : Nat), i + d = 40 → (∀ e, findP (shB r a b) d i = some e → k (nI (fdN r e))) → (findP (shB r a b) d i = none → kx) → wl_X7_meet_13 M (nI a) (nI b) kx k (d + 1) (nI i) := by
  intro d
  induction d with
  | zero =>
    intro i hi _ h2
    unfold wl_X7_meet_13
    rw [show i = 40 by omega, if_pos (by decide)]
    exact h2 rfl
  | succ d ih =>
    intro i hi h1 h2
    unfold wl_X7_meet_13
    rw [if_neg (by rw [show (40 : Int32) = nI 40 by decide]; exact nle (by omega) (by omega))]
    refine areIn_ok hw hm ha hb (by omega) ?_
    unfold findP at h1 h2
    by_cases hs : shB r a b i = true
    · rw [if_pos hs, if_neg (by decide), fdM_nI hw hm (by omega)]
      exact h1 i (by rw [if_pos hs])
    · rw [if_neg hs] at h1 h2
      rw [if_neg hs, if_pos rfl, nI_1]
      exact ih (i + 1) (by omega) h1 h2
theorem sim_meet : Sim_meet Inv := by
  intro X0 X1 X2 X3 X4 X5 X6 X7 X8 M a0 a1 hI
  obtain ⟨⟨r, rfl, hw, hm⟩, hi1, hi2, hp⟩ := id hI
  obtain ⟨hh, hc⟩ := both_two hw hm a0 a1
  have h3 := hw.1
  have h6 := hw.2.1
  unfold wp_X6_meet wp_X7_meet
  rcases hc with h | ⟨a, b, ha, hb, hab, rfl, rfl, h⟩
  · rw [hh]
    simp only [if_pos h]
    exact ⟨by trivial, hI⟩
  · rw [hh]
    simp only [if_neg h]
    have hfp := find_per (P := shB r a b) (i := 0) (i0 := 1) (m := 1) (p := r.1 0 - 1) (d1 := r.1 0 + 1) (d2 := 40) (by omega) (by omega) (by omega) (shB_per hw a b) (by omega) (by omega)
    refine ⟨r.1 0 + 1 + 1, ?_⟩
    rw [← nI_0]
    refine meetX_lp hw ha hb (r.1 0 + 1) 0 (by omega) (fun e he => ?_) (fun he => ?_)
    · refine ⟨41, meetM_lp hw hm ha hb 40 0 (by omega) (fun e2 he2 => ?_) (fun he2 => ?_)⟩
      · rw [← hfp, he] at he2
        cases he2
        exact ⟨rfl, hI⟩
      · rw [← hfp, he] at he2; cases he2
    · refine ⟨41, meetM_lp hw hm ha hb 40 0 (by omega) (fun e2 he2 => ?_) (fun he2 => ?_)⟩
      · rw [← hfp, he] at he2; cases he2
      · exact ⟨by trivial, hI⟩
/-! how many days one is away from a land, from day d on -/
def eqN (r : NS) (d : Nat) : Nat := (r.1 3 + d) / r.1 1
def awN (r : NS) (l k d : Nat) : Nat := match findP (isAt r l k) (r.1 0 + 1) (eqN r d) with
  | some e => min 9999 (e * r.1 1 - (r.1 3 + d))
  | none => 9999
theorem aw_at {r : NS} (hw : WF r) {l k d e : Nat} (h1 : eqN r d ≤ e) (h2 : isAt r l k e = true) (h3 : ∀ j, eqN r d ≤ j → j < e → ¬ isAt r l k j = true) : awN r l k d = min 9999 (e * r.1 1 - (r.1 3 + d)) := by
  have w3 := hw.1
  have h4 : findP (isAt r l k) (e + 1) (eqN r d) = some e := findP_eq h1 (by omega) h2 h3
  have h5 : findP (isAt r l k) (r.1 0 + 1) (eqN r d) = some e := by
    refine findP_eq h1 ?_ h2 h3
    refine Nat.lt_of_not_le (fun hge => ?_)
    have := per_none (P := isAt r l k) (i := eqN r d) (i0 := 1) (m := eqN r d + 1) (p := r.1 0 - 1) (by omega) (by omega) (by omega) (isAt_per hw l k) (fun j g1 g2 => h3 j g1 (by omega))
    exact this e h1 h2
  unfold awN
  rw [h5]
theorem aw_no {r : NS} {l k d : Nat} (h : ∀ j, eqN r d ≤ j → ¬ isAt r l k j = true) : awN r l k d = 9999 := by
  unfold awN
  rw [findP_eq0 (fun j a _ => h j a)]
theorem aw_cases {r : NS} (hw : WF r) (l k d : Nat) : (∃ e, eqN r d ≤ e ∧ isAt r l k e = true ∧ (∀ j, eqN r d ≤ j → j < e → ¬ isAt r l k j = true) ∧ e ≤ eqN r d + r.1 0 ∧ awN r l k d = min 9999 (e * r.1 1 - (r.1 3 + d))) ∨ ((∀ j, eqN r d ≤ j → ¬ isAt r l k j = true) ∧ awN r l k d = 9999) := by
  have w3 := hw.1
  cases h : findP (isAt r l k) (r.1 0 + 1) (eqN r d) with
  | some e =>
    obtain ⟨a, b, c, f⟩ := findP_some h
    exact Or.inl ⟨e, a, c, f, by omega, aw_at hw a c f⟩
  | none =>
    have h2 := findP_none h
    have h3 := per_none (P := isAt r l k) (i := eqN r d) (i0 := 1) (m := eqN r d + 1) (p := r.1 0 - 1) (by omega) (by omega) (by omega) (isAt_per hw l k) (fun j g1 g2 => h2 j g1 (by omega))
    exact Or.inr ⟨h3, aw_no h3⟩
theorem eq_mul (r : NS) (d : Nat) : eqN r d * r.1 1 ≤ r.1 3 + d := Nat.div_mul_le_self _ _
theorem eq_lt {r : NS} (hw : WF r) (d : Nat) : r.1 3 + d < (eqN r d + 1) * r.1 1 := by
  have := hw.2.2.1
  unfold eqN
  have h := Nat.lt_div_mul_add (a := r.1 3 + d) (b := r.1 1) (by omega)
  rw [Nat.add_mul, Nat.one_mul]
  exact h
theorem jj_nI (a d : Nat) (ha : a < 2 ^ 29) (hd : d < 2 ^ 29) : jmax 0 (jmin 9999 (nI a - nI d)) = nI (min 9999 (a - d)) := by
  have e9 : (9999 : Int32) = nI 9999 := by decide
  unfold jmax jmin
  by_cases h : d ≤ a
  · rw [pk_sub h, e9]
    by_cases h2 : a - d < 9999
    · rw [if_pos (nI_lt h2 (by omega)), Nat.min_eq_right (by omega)]
      by_cases h3 : 0 < a - d
      · rw [if_pos (by rw [← nI_0]; exact nI_lt h3 (by omega))]
      · rw [show a - d = 0 by omega, if_neg (by decide), nI_0]
    · rw [if_neg (nI_nlt (by omega) (by omega)), Nat.min_eq_left (by omega), if_pos (by decide)]
  · have hn := pk_sneg (a := a) (b := d) (by omega) (by omega)
    rw [e9, if_pos (Int32.lt_of_lt_of_le hn (nI_pos' (by omega))), if_neg (fun h2 => absurd (Int32.lt_of_lt_of_le h2 (Int32.le_of_lt hn)) (by decide)), show a - d = 0 by omega]
    rfl
theorem awX_lp {r : NS} (hw : WF r) {l k d : Nat} (hl : l < r.1 0) (hk : k < r.1 0) (hd : d ≤ 9999) {kx : Prop} {K : Int32 → Prop} : ∀ (n i : Nat), i + n = eqN r d + r.1 0 + 1 → eqN r d ≤ i → (∀ e, findP (isAt r l k) n i = some e → K (nI (min 9999 (e * r.1 1 - (r.1 3 + d))))) → (findP (isAt r l k) n i = none → kx) → wl_X2_daysAway_11 (NI r) (nI k) (nI l) (nI d) (nI (eqN r d)) kx K (n + 1) (nI i) := by
  obtain ⟨w0, w1, w2, w3, w4, -⟩ := id hw
  have el : eqN r d ≤ 98 + 9999 := by
    have := Nat.div_le_self (r.1 3 + d) (r.1 1)
    unfold eqN
    omega
  have em := eq_mul r d
  intro n
  induction n with
  | zero =>
    intro i hi _ _ h2
    unfold wl_X2_daysAway_11
    rw [NI_1, nI_add, if_pos (nI_lt (by omega) (by omega))]
    exact h2 rfl
  | succ n ih =>
    intro i hi hge h1 h2
    unfold wl_X2_daysAway_11
    rw [NI_1, nI_add, if_neg (nI_nlt (by omega) (by omega)), landAfter_nI hw hk (by omega)]
    unfold findP at h1 h2
    by_cases hs : isAt r l k i = true
    · rw [if_pos ((landE_at hw hl).mpr hs), fd_nI hw (by omega)]
      have hb : fdN r i < 2 ^ 29 := by
        unfold fdN
        have h7 : i * r.1 1 ≤ (eqN r d + r.1 0) * r.1 1 := Nat.mul_le_mul_right _ (by omega)
        rw [Nat.add_mul] at h7
        have h8 : r.1 0 * r.1 1 ≤ 6 * 99 := Nat.mul_le_mul w1 w3
        omega
      rw [jj_nI _ _ hb (by omega), show fdN r i - d = i * r.1 1 - (r.1 3 + d) by unfold fdN; omega]
      exact h1 i (by rw [if_pos hs])
    · rw [if_neg hs] at h1 h2
      rw [if_neg (fun h => hs ((landE_at hw hl).mp h)), nI_1]
      exact ih (i + 1) (by omega) (by omega) h1 h2
theorem away_ok {r : NS} (hw : WF r) {l k d : Nat} (hl : l < r.1 0) (hk : k < r.1 0) (hd : d ≤ 9999) {K : Int32 → Prop} (h : K (nI (awN r l k d))) : wp_X2_daysAway (NI r) (nI k) (nI l) (nI d) K := by
  unfold wp_X2_daysAway
  rw [till_nI hw (by omega)]
  refine ⟨r.1 0 + 1 + 1, awX_lp hw hl hk hd (r.1 0 + 1) (eqN r d) (by omega) (Nat.le_refl _) (fun e he => ?_) (fun he => ?_)⟩
  · unfold awN at h; rw [he] at h; exact h
  · unfold awN at h; rw [he] at h; exact h
