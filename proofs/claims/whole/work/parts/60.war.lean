-- longest, struck, begin, sure, fooled
theorem eq_le {r : NS} {d : Nat} (hw : WF r) (hd : d ≤ 10400) : eqN r d ≤ 98 + 10400 := by
  have h4 := hw.2.2.2.2.1
  have h3 := hw.2.2.2.1
  have := Nat.div_le_self (r.1 3 + d) (r.1 1)
  unfold eqN
  omega
theorem xl_ok {r : NS} {M : St} (hw : WF r) (hm : MR M r) {d : Nat} (hd : d ≤ 20000) {K : Int32 → Prop} (h : K (nI (eqN r d))) : wp_X7_equinoxes M (nI d) K := equi_nI hw hm hd h
theorem nsub_toInt (a d : Nat) (ha : a < 2 ^ 30) (hd : d < 2 ^ 30) : (nI a - nI d).toInt = (a : Int) - d := pk_sub_toInt ha hd
theorem longM_lp {r : NS} {M : St} (hw : WF r) (hm : MR M r) {l k d : Nat} (hl : l < r.1 0) (hk : k < r.1 0) (hd : d ≤ 9999) {kx : Prop} {K : Int32 → Prop} (h1 : ∀ e, eqN r d ≤ e → isAt r l k e = true → (∀ j, eqN r d ≤ j → j < e → ¬ isAt r l k j = true) → e * r.1 1 - (r.1 3 + d) < 9999 → r.1 3 + d ≤ e * r.1 1 → K (nI (e * r.1 1 - (r.1 3 + d)))) (h2 : ∀ i, eqN r d < i → (∀ j, eqN r d ≤ j → j < i → ¬ isAt r l k j = true) → 9999 ≤ i * r.1 1 - (r.1 3 + d) → kx) : ∀ (n i : Nat), i + n = 20300 → eqN r d < i → (∀ j, eqN r d ≤ j → j < i → ¬ isAt r l k j = true) → wl_X7_longest_50 M (nI k) (nI l) (nI d) kx K (n + 1) (nI i) := by
  obtain ⟨w0, w1, w2, w3, w4, -⟩ := id hw
  have e9 : (9999 : Int32) = nI 9999 := by decide
  intro n
  induction n with
  | zero =>
    intro i hi hgt hno
    have hmul : i * 1 ≤ i * r.1 1 := Nat.mul_le_mul_left _ w2
    have hmu2 : i * r.1 1 ≤ i * 99 := Nat.mul_le_mul_left _ w3
    unfold wl_X7_longest_50
    rw [fdM_nI hw hm (by omega), pk_sub (by unfold fdN; omega), e9, if_pos (nI_le (by unfold fdN; omega) (by unfold fdN; omega))]
    exact h2 i hgt hno (by omega)
  | succ n ih =>
    intro i hi hgt hno
    have hmul : i * 1 ≤ i * r.1 1 := Nat.mul_le_mul_left _ w2
    have hmu2 : i * r.1 1 ≤ i * 99 := Nat.mul_le_mul_left _ w3
    have hge : r.1 3 + d ≤ i * r.1 1 := by
      have := eq_lt hw d
      have h9 : (eqN r d + 1) * r.1 1 ≤ i * r.1 1 := Nat.mul_le_mul_right _ hgt
      omega
    unfold wl_X7_longest_50
    rw [fdM_nI hw hm (by omega), pk_sub (by unfold fdN; omega), e9, show fdN r i - d = i * r.1 1 - (r.1 3 + d) by unfold fdN; omega]
    by_cases hbig : 9999 ≤ i * r.1 1 - (r.1 3 + d)
    · rw [if_pos (nI_le hbig (by omega))]
      exact h2 i hgt hno hbig
    · rw [if_neg (nle (by omega) (by omega))]
      refine whereB hw hm hk (by omega) ?_
      by_cases hs : isAt r l k i = true
      · rw [if_pos ((landE_at hw hl).mpr hs)]
        exact h1 i (by omega) hs hno (by omega) hge
      · rw [if_neg (fun h => hs ((landE_at hw hl).mp h)), nI_1]
        refine ih (i + 1) (by omega) (by omega) (fun j g1 g2 => ?_)
        by_cases hj : j = i
        · subst hj; exact hs
        · exact hno j g1 (by omega)
theorem sim_longest : Sim_longest Inv := by
  intro X0 X1 X2 X3 X4 X5 X6 X7 X8 M a0 a1 a2 hI
  obtain ⟨⟨r, rfl, hw, hm⟩, hi1, hi2, hp⟩ := id hI
  obtain ⟨hh, hc⟩ := both_two hw hm a0 a1
  have h3 := hw.1
  have h6 := hw.2.1
  unfold wp_X6_longest wp_X7_longest
  rcases hc with h | ⟨k, l, hk, hl, hab, rfl, rfl, h⟩
  · rw [hh]
    simp only [if_pos h]
    exact ⟨by trivial, hI⟩
  · rw [hh]
    simp only [if_neg h]
    by_cases h2 : F_X7_in a2 0 9999 = 0
    · rw [if_pos (show F_X6_within a2 0 9999 = 0 from h2), if_pos h2]
      exact ⟨by trivial, hI⟩
    · rw [if_neg (show ¬ F_X6_within a2 0 9999 = 0 from h2)]
      obtain ⟨d, -, hd, rfl⟩ := inN (a := 0) (b := 9999) h2 (by decide) (by decide) (by omega) (by omega)
      refine away_ok hw hl hk hd ?_
      rw [if_neg h2]
      have el := eq_le hw (d := d) (by omega)
      have em := eq_mul r d
      refine xl_ok hw hm (by omega) (whereB hw hm hk (by omega) ?_)
      by_cases hs : isAt r l k (eqN r d) = true
      · rw [if_pos ((landE_at hw hl).mpr hs)]
        refine ⟨?_, hI⟩
        rw [aw_at hw (Nat.le_refl _) hs (fun j g1 g2 => absurd g1 (by omega)), show eqN r d * r.1 1 - (r.1 3 + d) = 0 by omega]
        exact nI_0
      · rw [if_neg (fun h => hs ((landE_at hw hl).mp h))]
        refine xl_ok hw hm (by omega) ?_
        have hno : ∀ j, eqN r d ≤ j → j < eqN r d + 1 → ¬ isAt r l k j = true := fun j g1 g2 => by
          have : j = eqN r d := by omega
          subst this; exact hs
        refine ⟨20300 - (eqN r d + 1) + 1, ?_⟩
        rw [nI_1]
        refine longM_lp hw hm hl hk hd (fun e g1 g2 g3 g4 g5 => ⟨?_, hI⟩) (fun i g1 g2 g3 => ⟨?_, hI⟩) (20300 - (eqN r d + 1)) (eqN r d + 1) (by omega) (by omega) hno
        · rw [aw_at hw g1 g2 g3, Nat.min_eq_right (by omega)]
        · have : awN r l k d = 9999 := by
            rcases aw_cases hw l k d with ⟨e, q1, q2, q3, q4, q5⟩ | ⟨-, q⟩
            · have hie : i ≤ e := Nat.le_of_not_lt (fun hlt => g2 e q1 hlt q2)
              have := Nat.mul_le_mul_right (r.1 1) hie
              rw [q5, Nat.min_eq_left (by omega)]
            · exact q
          rw [this]
          decide
/-! a war of w days -/
def thB (r : NS) (l k d w : Nat) : Bool := decide (awN r l k d < w)
theorem there_lp {r : NS} {M : St} (hw : WF r) (hm : MR M r) {l k d w : Nat} (hl : l < r.1 0) (hk : k < r.1 0) (hd : d ≤ 9999) (hw1 : 1 ≤ w) (hw4 : w ≤ 400) {kx : Int32 → Prop} (h : kx (if thB r l k d w = true then 1 else 0)) : ∀ (n i : Nat), i + n = eqN r (d + w - 1) + 1 → eqN r d ≤ i → (∀ j, eqN r d ≤ j → j < i → ¬ isAt r l k j = true) → wl_X7_isThere_10 M (nI k) (nI l) (nI d) (nI w) kx (n + 2) 0 (nI i) := by
  have el := eq_le hw (d := d + w - 1) (by omega)
  have ex : nI d + nI w - 1 = nI (d + w - 1) := by rw [nI_add, i1]; exact pk_sub (by omega)
  intro n
  induction n with
  | zero =>
    intro i hi hge hno
    unfold wl_X7_isThere_10
    rw [ex]
    refine xl_ok hw hm (by omega) ?_
    rw [if_pos (nI_lt (by omega) (by omega))]
    have h9 : ¬ thB r l k d w = true := by
      unfold thB
      rw [decide_eq_true_iff]
      rcases aw_cases hw l k d with ⟨e, q1, q2, q3, q4, q5⟩ | ⟨-, q⟩
      · have hie : i ≤ e := Nat.le_of_not_lt (fun hlt => hno e q1 hlt q2)
        have h1 := eq_lt hw (d + w - 1)
        have h2 : (eqN r (d + w - 1) + 1) * r.1 1 ≤ e * r.1 1 := Nat.mul_le_mul_right _ (by omega)
        rw [q5]
        omega
      · rw [q]; omega
    rw [if_neg h9] at h
    exact h
  | succ n ih =>
    intro i hi hge hno
    unfold wl_X7_isThere_10
    rw [ex]
    refine xl_ok hw hm (by omega) ?_
    rw [if_neg (nI_nlt (by omega) (by omega)), if_pos rfl]
    refine whereB hw hm hk (by omega) ?_
    by_cases hs : isAt r l k i = true
    · rw [if_pos ((landE_at hw hl).mpr hs)]
      have h9 : thB r l k d w = true := by
        unfold thB
        rw [decide_eq_true_iff, aw_at hw hge hs hno]
        have h1 := eq_mul r (d + w - 1)
        have h2 : i * r.1 1 ≤ eqN r (d + w - 1) * r.1 1 := Nat.mul_le_mul_right _ (by omega)
        omega
      rw [if_pos h9] at h
      unfold wl_X7_isThere_10
      rw [ex]
      refine xl_ok hw hm (by omega) ?_
      rw [nI_1]
      by_cases hq : nI (eqN r (d + w - 1)) < nI (i + 1)
      · rw [if_pos hq]; exact h
      · rw [if_neg hq, if_neg (by decide)]; exact h
    · rw [if_neg (fun h => hs ((landE_at hw hl).mp h)), nI_1]
      refine ih (i + 1) (by omega) (by omega) (fun j g1 g2 => ?_)
      by_cases hj : j = i
      · subst hj; exact hs
      · exact hno j g1 (by omega)
theorem there_ok {r : NS} {M : St} (hw : WF r) (hm : MR M r) {l k d w : Nat} (hl : l < r.1 0) (hk : k < r.1 0) (hd : d ≤ 9999) (hw1 : 1 ≤ w) (hw4 : w ≤ 400) {K : Int32 → Prop} (h : K (if thB r l k d w = true then 1 else 0)) : wp_X7_isThere M (nI k) (nI l) (nI d) (nI w) K := by
  unfold wp_X7_isThere
  have hle : eqN r d ≤ eqN r (d + w - 1) := Nat.div_le_div_right (by omega)
  refine xl_ok hw hm (by omega) ⟨eqN r (d + w - 1) + 1 - eqN r d + 2, there_lp hw hm hl hk hd hw1 hw4 ⟨?_, h⟩ _ _ (by omega) (Nat.le_refl _) (fun j g1 g2 => absurd g1 (by omega))⟩
  split
  · exact Or.inr rfl
  · exact Or.inl rfl
theorem th_lt {r : NS} {l k d w : Nat} (hw4 : w ≤ 400) : nI (awN r l k d) < nI w ↔ thB r l k d w = true := by
  have : awN r l k d ≤ 9999 := by
    unfold awN
    split
    · exact Nat.min_le_left _ _
    · exact Nat.le_refl _
  unfold thB
  rw [decide_eq_true_iff, nI_ltI (by omega) (by omega)]
def stB (r : NS) (l d w : Nat) (k : Nat) : Bool := decide (k ≠ l) && !(thB r l k d w)
theorem struckX_lp {r : NS} (hw : WF r) {l d w : Nat} (hl : l < r.1 0) (hd : d ≤ 9999) (hw4 : w ≤ 400) {kx : Int32 → Prop} (h : kx (nI (msk (stB r l d w) (r.1 0)))) : ∀ (n i : Nat), i + n = r.1 0 → wl_X6_struck_44 (NI r) (nI l) (nI d) (nI w) kx (n + 1) (nI (msk (stB r l d w) i)) (nI i) := by
  have h6 := hw.2.1
  intro n
  induction n with
  | zero =>
    intro i hi
    unfold wl_X6_struck_44
    rw [NI_1, if_pos (nI_le (by omega) (by omega)), show i = r.1 0 by omega]
    exact h
  | succ n ih =>
    intro i hi
    unfold wl_X6_struck_44
    rw [NI_1, if_neg (nle (by omega) (by omega)), nI_1]
    by_cases hil : i = l
    · rw [if_pos (by rw [hil]), msk_no (P := stB r l d w) (by unfold stB; simp [hil])]
      exact ih (i + 1) (by omega)
    · rw [if_neg (by rw [nI_eq (by omega) (by omega)]; exact hil)]
      refine away_ok hw hl (by omega) hd ?_
      by_cases ht : thB r l i d w = true
      · rw [if_pos ((th_lt hw4).mpr ht), msk_no (P := stB r l d w) (by unfold stB; simp [ht])]
        exact ih (i + 1) (by omega)
      · rw [if_neg (fun h => ht ((th_lt hw4).mp h)), msk_or (P := stB r l d w) (by omega) (by unfold stB; simp [hil]; simpa using ht)]
        exact ih (i + 1) (by omega)
theorem struckM_lp {r : NS} {M : St} (hw : WF r) (hm : MR M r) {l d w : Nat} (hl : l < r.1 0) (hd : d ≤ 9999) (hw1 : 1 ≤ w) (hw4 : w ≤ 400) {kx : Int32 → Prop} (h : kx (nI (msk (stB r l d w) (r.1 0)))) : ∀ (n i : Nat), i + n = r.1 0 → wl_X7_struck_28 M (nI l) (nI d) (nI w) kx (n + 1) (nI (msk (stB r l d w) i)) (nI i) := by
  have h6 := hw.2.1
  have m0 := hm.1
  intro n
  induction n with
  | zero =>
    intro i hi
    unfold wl_X7_struck_28
    rw [m0, if_pos (nI_le (by omega) (by omega)), show i = r.1 0 by omega]
    exact h
  | succ n ih =>
    intro i hi
    unfold wl_X7_struck_28
    rw [m0, if_neg (nle (by omega) (by omega)), nI_1]
    by_cases hil : i = l
    · rw [if_pos (by rw [hil]), msk_or0 (P := stB r l d w) (by omega) (by unfold stB; simp [hil])]
      exact ih (i + 1) (by omega)
    · rw [if_neg (by rw [nI_eq (by omega) (by omega)]; exact hil)]
      refine there_ok hw hm hl (by omega) hd hw1 hw4 ?_
      by_cases ht : thB r l i d w = true
      · rw [if_pos ht, if_neg (by decide), msk_or0 (P := stB r l d w) (by omega) (by unfold stB; simp [ht])]
        exact ih (i + 1) (by omega)
      · rw [if_neg ht, if_pos rfl, msk_or (P := stB r l d w) (by omega) (by unfold stB; simp [hil]; simpa using ht)]
        exact ih (i + 1) (by omega)
theorem war_in {x y : Int32} {M : St} (h1 : ¬ F_X7_in x 0 9999 = 0) (h2 : ¬ F_X7_in y 1 400 = 0) : ¬ F_X7_isWar M x y = 0 := by
  unfold F_X7_isWar
  rw [if_neg h1, if_neg h2]
  decide
theorem war_out {x y : Int32} {M : St} (h : F_X7_in x 0 9999 = 0 ∨ F_X7_in y 1 400 = 0) : F_X7_isWar M x y = 0 := by
  unfold F_X7_isWar
  rcases h with h | h
  · rw [if_pos h]
  · by_cases h1 : F_X7_in x 0 9999 = 0
    · rw [if_pos h1]
    · rw [if_neg h1, if_pos h]
theorem sim_struck : Sim_struck Inv := by
  intro X0 X1 X2 X3 X4 X5 X6 X7 X8 M a0 a1 a2 hI
  obtain ⟨⟨r, rfl, hw, hm⟩, hi1, hi2, hp⟩ := id hI
  obtain ⟨hh, hc⟩ := has_one hw hm a0
  unfold wp_X6_struck wp_X7_struck
  rcases hc with h | ⟨l, hl, rfl, h⟩
  · simp only [hh, if_pos h]
    exact ⟨trivial, hI⟩
  · have hne : ¬ F_X7_isOne M (nI l) = 0 := by rw [h]; decide
    simp only [hh, if_neg hne]
    by_cases h1 : F_X7_in a1 0 9999 = 0
    · rw [if_pos (show F_X6_within a1 0 9999 = 0 from h1), if_pos (war_out (Or.inl h1))]
      exact ⟨by trivial, hI⟩
    · rw [if_neg (show ¬ F_X6_within a1 0 9999 = 0 from h1)]
      by_cases h2 : F_X7_in a2 1 400 = 0
      · rw [if_pos (show F_X6_within a2 1 400 = 0 from h2), if_pos (war_out (Or.inr h2))]
        exact ⟨by trivial, hI⟩
      · rw [if_neg (show ¬ F_X6_within a2 1 400 = 0 from h2)]
        have hwr := war_in (M := M) h1 h2
        obtain ⟨d, -, hd, rfl⟩ := inN (a := 0) (b := 9999) h1 (by decide) (by decide) (by omega) (by omega)
        obtain ⟨w, hw1, hw4, rfl⟩ := inN (a := 1) (b := 400) h2 (by decide) (by decide) (by omega) (by omega)
        refine ⟨r.1 0 + 1, ?_⟩
        rw [← nI_0]
        refine struckX_lp hw hl hd hw4 ?_ (r.1 0) 0 (by omega)
        rw [nI_0, if_neg hwr]
        refine ⟨r.1 0 + 1, ?_⟩
        rw [← nI_0]
        exact struckM_lp hw hm hl hd hw1 hw4 (kx := fun v => _ = v ∧ Inv _ _ _ _ _ _ _ _ _ M) ⟨rfl, hI⟩ (r.1 0) 0 (by omega)
