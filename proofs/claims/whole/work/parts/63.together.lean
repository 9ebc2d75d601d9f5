-- together, furs, copy
theorem dm {R q s : Nat} (h : s < R) : (q * R + s) / R = q ∧ (q * R + s) % R = s := by
  have h0 : 0 < R := by omega
  constructor
  · rw [Nat.add_comm, Nat.add_mul_div_right _ _ h0, Nat.div_eq_of_lt h, Nat.zero_add]
  · rw [Nat.add_comm, Nat.add_mul_mod_self_right, Nat.mod_eq_of_lt h]
def dlN (p len e D : Nat) : Nat := D / (p * len) * len + min len (D % (p * len) - (e - 1) * len)
theorem dl_step {p len e : Nat} (hp : 1 ≤ p) (hl : 1 ≤ len) (he : 1 ≤ e) (hep : e ≤ p) (D : Nat) : dlN p len e (D + 1) = dlN p len e D + (if D / len % p = e - 1 then 1 else 0) := by
  -- D = (q p + t) len + u
  obtain ⟨x, u, hu, rfl⟩ : ∃ x u, u < len ∧ D = x * len + u := ⟨D / len, D % len, Nat.mod_lt _ (by omega), by rw [Nat.mul_comm]; exact (Nat.div_add_mod D len).symm⟩
  obtain ⟨q, t, ht, rfl⟩ : ∃ q t, t < p ∧ x = q * p + t := ⟨x / p, x % p, Nat.mod_lt _ (by omega), by rw [Nat.mul_comm]; exact (Nat.div_add_mod x p).symm⟩
  rw [(dm hu).1, (dm ht).2]
  have hR : 0 < p * len := Nat.mul_pos (by omega) (by omega)
  have e1 : (q * p + t) * len + u = q * (p * len) + (t * len + u) := by rw [Nat.add_mul, Nat.mul_assoc]; omega
  have htl : (t + 1) * len ≤ p * len := Nat.mul_le_mul_right _ (by omega)
  rw [Nat.add_mul, Nat.one_mul] at htl
  have hs : t * len + u < p * len := by omega
  have hE : (e - 1 + 1) * len ≤ p * len := Nat.mul_le_mul_right _ (by omega)
  rw [Nat.add_mul, Nat.one_mul] at hE
  unfold dlN
  rw [e1, (dm hs).1, (dm hs).2, Nat.add_assoc]
  by_cases hlast : t * len + u + 1 < p * len
  · rw [(dm hlast).1, (dm hlast).2]
    by_cases hte : t = e - 1
    · rw [if_pos hte, hte]; omega
    · rw [if_neg hte]
      rcases Nat.lt_or_gt_of_ne hte with h | h
      · have : (t + 1) * len ≤ (e - 1) * len := Nat.mul_le_mul_right _ (by omega)
        rw [Nat.add_mul, Nat.one_mul] at this
        omega
      · have : (e - 1 + 1) * len ≤ t * len := Nat.mul_le_mul_right _ (by omega)
        rw [Nat.add_mul, Nat.one_mul] at this
        omega
  · have e2 : q * (p * len) + (t * len + u + 1) = (q + 1) * (p * len) + 0 := by rw [Nat.add_mul, Nat.one_mul]; omega
    rw [e2, (dm hR).1, (dm hR).2, Nat.add_mul, Nat.one_mul]
    have htp : t + 1 = p := by
      refine Nat.le_antisymm (by omega) (Nat.le_of_not_lt (fun hlt => ?_))
      have : (t + 2) * len ≤ p * len := Nat.mul_le_mul_right _ (by omega)
      rw [Nat.add_mul] at this
      omega
    by_cases hte : t = e - 1
    · rw [if_pos hte, hte]
      rw [hte] at hlast hs
      omega
    · rw [if_neg hte]
      have : (e - 1 + 1) * len ≤ t * len := Nat.mul_le_mul_right _ (by omega)
      rw [Nat.add_mul, Nat.one_mul] at this
      omega
theorem dl_0 (p len e : Nat) : dlN p len e 0 = 0 := by
  unfold dlN
  rw [Nat.zero_div, Nat.zero_mod, Nat.zero_mul, Nat.zero_sub]
  omega
theorem sh_mod {r : NS} (hw : WF r) (a b : Nat) : ∀ x, shB r a b (1 + x) = shB r a b (1 + x % (r.1 0 - 1)) := by
  have h3 := hw.1
  intro x
  induction x using Nat.strongRecOn with
  | _ x ih =>
    by_cases h : x < r.1 0 - 1
    · rw [Nat.mod_eq_of_lt h]
    · have h1 := shB_per hw a b (1 + (x - (r.1 0 - 1))) (by omega)
      rw [show 1 + (x - (r.1 0 - 1)) + (r.1 0 - 1) = 1 + x by omega] at h1
      rw [h1, ih (x - (r.1 0 - 1)) (by omega), Nat.mod_eq_sub_mod (by omega : x ≥ r.1 0 - 1)]
def cntN (r : NS) (a b : Nat) : Nat → Nat
  | 0 => 0
  | d + 1 => cntN r a b d + (if shB r a b (eqN r d) = true then 1 else 0)
def sumN (r : NS) (a b d : Nat) : Nat → Nat
  | 0 => 0
  | i + 1 => sumN r a b d i + (if shB r a b (i + 1) = true then dlN (r.1 0 - 1) (r.1 1) (i + 1) (d - fdN r 1) else 0)
def basN (r : NS) (a b d : Nat) : Nat := if shB r a b 0 = true then min d (fdN r 1) else 0
theorem sum_step {r : NS} (hw : WF r) (a b : Nat) {d q : Nat} (hd : fdN r 1 ≤ d) (hq0 : (d - fdN r 1) / r.1 1 % (r.1 0 - 1) = q) : ∀ i, i ≤ r.1 0 - 1 → sumN r a b (d + 1) i = sumN r a b d i + (if q + 1 ≤ i ∧ shB r a b (q + 1) = true then 1 else 0) := by
  have h3 := hw.1
  have hl := hw.2.2.1
  intro i
  induction i with
  | zero => intro _; rw [if_neg (by omega)]; rfl
  | succ i ih =>
    intro hi
    have hs := dl_step (p := r.1 0 - 1) (len := r.1 1) (e := i + 1) (by omega) hl (by omega) hi (d - fdN r 1)
    rw [show d - fdN r 1 + 1 = d + 1 - fdN r 1 by omega, hq0, show i + 1 - 1 = i by omega] at hs
    have e1 : sumN r a b (d + 1) (i + 1) = sumN r a b (d + 1) i + (if shB r a b (i + 1) = true then dlN (r.1 0 - 1) (r.1 1) (i + 1) (d + 1 - fdN r 1) else 0) := rfl
    have e2 : sumN r a b d (i + 1) = sumN r a b d i + (if shB r a b (i + 1) = true then dlN (r.1 0 - 1) (r.1 1) (i + 1) (d - fdN r 1) else 0) := rfl
    rw [e1, e2, ih (by omega), hs]
    by_cases hq : q = i
    · subst hq
      rw [if_neg (show ¬ (q + 1 ≤ q ∧ shB r a b (q + 1) = true) by omega), if_pos (rfl : q = q)]
      by_cases hsh : shB r a b (q + 1) = true
      · rw [if_pos hsh, if_pos hsh, if_pos (⟨Nat.le_refl _, hsh⟩ : q + 1 ≤ q + 1 ∧ shB r a b (q + 1) = true)]; omega
      · rw [if_neg hsh, if_neg hsh, if_neg (show ¬ (q + 1 ≤ q + 1 ∧ shB r a b (q + 1) = true) from fun h => hsh h.2)]
    · rw [if_neg hq]
      by_cases hc : q + 1 ≤ i ∧ shB r a b (q + 1) = true
      · rw [if_pos hc, if_pos (⟨by omega, hc.2⟩ : q + 1 ≤ i + 1 ∧ shB r a b (q + 1) = true)]
        split <;> omega
      · rw [if_neg hc, if_neg (show ¬ (q + 1 ≤ i + 1 ∧ shB r a b (q + 1) = true) from fun h => hc ⟨by have := h.1; omega, h.2⟩)]
        split <;> omega
theorem sum_0 (r : NS) (a b : Nat) {d : Nat} (hd : d ≤ fdN r 1) : ∀ i, sumN r a b d i = 0 := by
  intro i
  induction i with
  | zero => rfl
  | succ i ih =>
    show sumN r a b d i + _ = 0
    rw [ih, show d - fdN r 1 = 0 by omega, dl_0]
    split <;> rfl
theorem cnt_eq {r : NS} (hw : WF r) (a b : Nat) : ∀ d, cntN r a b d = basN r a b d + sumN r a b d (r.1 0 - 1) := by
  obtain ⟨w0, w1, w2, w3, w4, -⟩ := id hw
  have hf : fdN r 1 = r.1 1 - r.1 3 := by unfold fdN; omega
  intro d
  induction d with
  | zero =>
    rw [sum_0 r a b (by omega)]
    unfold basN cntN
    split <;> omega
  | succ d ih =>
    show cntN r a b d + _ = _
    rw [ih]
    by_cases hd : d < fdN r 1
    · have he : eqN r d = 0 := Nat.div_eq_of_lt (by omega)
      rw [sum_0 r a b (by omega), sum_0 r a b (by omega), he]
      unfold basN
      split <;> omega
    · have he : eqN r d = 1 + (d - fdN r 1) / r.1 1 := by
        unfold eqN
        rw [show r.1 3 + d = (d - fdN r 1) + 1 * r.1 1 by omega, Nat.add_mul_div_right _ _ (by omega), Nat.add_comm]
      have hm := Nat.mod_lt ((d - fdN r 1) / r.1 1) (show 0 < r.1 0 - 1 by omega)
      obtain ⟨q, hq0⟩ : ∃ q, (d - fdN r 1) / r.1 1 % (r.1 0 - 1) = q := ⟨_, rfl⟩
      rw [sum_step hw a b (by omega) hq0 _ (Nat.le_refl _), he, sh_mod hw a b, hq0]
      rw [hq0] at hm
      have hb : basN r a b (d + 1) = basN r a b d := by
        unfold basN
        split <;> omega
      rw [hb, Nat.add_comm 1 q]
      by_cases hs : shB r a b (q + 1) = true
      · rw [if_pos hs, if_pos (⟨by omega, hs⟩ : q + 1 ≤ r.1 0 - 1 ∧ shB r a b (q + 1) = true)]; omega
      · rw [if_neg hs, if_neg (show ¬ (q + 1 ≤ r.1 0 - 1 ∧ shB r a b (q + 1) = true) from fun h => hs h.2)]; omega
theorem jmz (a : Nat) (ha : a < 2 ^ 30) : jmax 0 (nI a) = nI a := by
  unfold jmax
  by_cases h : 0 < a
  · rw [if_pos (by rw [← nI_0]; exact nI_lt h (by omega))]
  · rw [show a = 0 by omega]; rfl
theorem jm0 (a d : Nat) (ha : a < 2 ^ 29) (hd : d < 2 ^ 29) : jmax 0 (nI a - nI d) = nI (a - d) := by
  unfold jmax
  by_cases h : d < a
  · rw [pk_sub (by omega), if_pos (by rw [← nI_0]; exact nI_lt (by omega) (by omega))]
  · by_cases h2 : d = a
    · subst h2; rw [pk_sub (by omega), Nat.sub_self]; rfl
    · have hn := pk_sneg (a := a) (b := d) (by omega) (by omega)
      rw [if_neg (fun h => absurd (Int32.lt_of_lt_of_le h (Int32.le_of_lt hn)) (by decide)), show a - d = 0 by omega, nI_0]
theorem jjc (c a d : Nat) (hc : c < 2 ^ 29) (ha : a < 2 ^ 29) (hd : d < 2 ^ 29) : jmax 0 (jmin (nI c) (nI a - nI d)) = nI (min c (a - d)) := by
  unfold jmin
  by_cases h : d ≤ a
  · rw [pk_sub h]
    by_cases h2 : a - d < c
    · rw [if_pos (nI_lt h2 (by omega)), Nat.min_eq_right (by omega)]
      exact jmz _ (by omega)
    · rw [if_neg (nI_nlt (by omega) (by omega)), Nat.min_eq_left (by omega)]
      exact jmz _ (by omega)
  · have hn := pk_sneg (a := a) (b := d) (by omega) (by omega)
    rw [if_pos (Int32.lt_of_lt_of_le hn (nI_pos' (by omega))), show min c (a - d) = a - d by omega]
    exact jm0 a d ha hd
theorem dl_le {p len e D : Nat} (hp : 1 ≤ p) (hl : 1 ≤ len) : dlN p len e D ≤ D + len := by
  have h1 := Nat.div_mul_le_self D (p * len)
  have h2 : len ≤ p * len := Nat.le_mul_of_pos_left _ (by omega)
  have h3 : D / (p * len) * len ≤ D / (p * len) * (p * len) := Nat.mul_le_mul_left _ h2
  unfold dlN
  omega
theorem dls_nI {r : NS} (hw : WF r) {e d : Nat} (he : 1 ≤ e) (he6 : e ≤ 6) (hd : d ≤ 9999) : F_X2_daysLikeSeason (NI r) (nI e) (nI d) = nI (dlN (r.1 0 - 1) (r.1 1) e (d - fdN r 1)) := by
  obtain ⟨w0, w1, w2, w3, w4, -⟩ := id hw
  have hf : fdN r 1 = r.1 1 - r.1 3 := by unfold fdN; omega
  have hR : (r.1 0 - 1) * r.1 1 ≤ 5 * 99 := Nat.mul_le_mul (by omega) w3
  have hR0 : 0 < (r.1 0 - 1) * r.1 1 := Nat.mul_pos (by omega) (by omega)
  have hE : (e - 1) * r.1 1 ≤ 5 * 99 := Nat.mul_le_mul (by omega) w3
  have hm := Nat.mod_lt (d - fdN r 1) hR0
  unfold F_X2_daysLikeSeason
  rw [i1, fd_nI hw (by omega), NI_1, NI_1, jm0 _ _ (by omega) (by omega), pk_sub (show 1 ≤ r.1 0 by omega), pk_sub he, pk_mul, pk_mul, cut_nI (by omega) hR0 (by omega), left_nI (by omega) hR0 (by omega), pk_mul, jjc _ _ _ (by omega) (by omega) (by omega), nI_add]
  rfl
theorem togX_lp {r : NS} (hw : WF r) {a b d : Nat} (ha : a < r.1 0) (hb : b < r.1 0) (hd : d ≤ 9999) {B : Nat} {kx : Int32 → Prop} (h : kx (nI (B + sumN r a b d (r.1 0 - 1)))) : ∀ (n i : Nat), i + n = r.1 0 - 1 → wl_X6_together_61 (NI r) (nI a) (nI b) (nI d) kx (n + 1) (nI (B + sumN r a b d i)) (nI (i + 1)) := by
  have h6 := hw.2.1
  have h3 := hw.1
  intro n
  induction n with
  | zero =>
    intro i hi
    unfold wl_X6_together_61
    rw [NI_1, if_pos (nI_le (by omega) (by omega)), show i = r.1 0 - 1 by omega]
    exact h
  | succ n ih =>
    intro i hi
    unfold wl_X6_together_61
    rw [NI_1, if_neg (nle (by omega) (by omega)), share_nI hw ha hb (by omega), nI_1 (i + 1)]
    have hn := ih (i + 1) (by omega)
    by_cases hs : shB r a b (i + 1) = true
    · rw [if_pos hs, if_neg (by decide), dls_nI hw (by omega) (by omega) hd, nI_add, Nat.add_assoc]
      have e : sumN r a b d (i + 1) = sumN r a b d i + dlN (r.1 0 - 1) (r.1 1) (i + 1) (d - fdN r 1) := by
        show sumN r a b d i + _ = _
        rw [if_pos hs]
      rw [e] at hn
      exact hn
    · rw [if_neg hs, if_pos rfl]
      have e : sumN r a b d (i + 1) = sumN r a b d i := by
        show sumN r a b d i + _ = _
        rw [if_neg hs, Nat.add_zero]
      rw [e] at hn
      exact hn
theorem togM_lp {r : NS} {M : St} (hw : WF r) (hm : MR M r) {a b d : Nat} (ha : a < r.1 0) (hb : b < r.1 0) (hd : d ≤ 9999) {kx : Int32 → Prop} (h : kx (nI (cntN r a b d))) : ∀ (n i : Nat), i + n = d → wl_X7_together_31 M (nI a) (nI b) (nI d) kx (n + 1) (nI (cntN r a b i)) (nI i) := by
  intro n
  induction n with
  | zero =>
    intro i hi
    unfold wl_X7_together_31
    rw [if_pos (nI_le (by omega) (by omega)), show i = d by omega]
    exact h
  | succ n ih =>
    intro i hi
    have el := eq_le hw (d := i) (by omega)
    unfold wl_X7_together_31
    rw [if_neg (nle (by omega) (by omega)), nI_1]
    refine xl_ok hw hm (by omega) (areIn_ok hw hm ha hb (by omega) ?_)
    have hn := ih (i + 1) (by omega)
    by_cases hs : shB r a b (eqN r i) = true
    · rw [if_pos hs, if_neg (by decide), nI_1]
      have e : cntN r a b (i + 1) = cntN r a b i + 1 := by
        show cntN r a b i + _ = _
        rw [if_pos hs]
      rw [e] at hn
      exact hn
    · rw [if_neg hs, if_pos rfl, ← nI_0, nI_add, Nat.add_zero]
      have e : cntN r a b (i + 1) = cntN r a b i := by
        show cntN r a b i + _ = _
        rw [if_neg hs, Nat.add_zero]
      rw [e] at hn
      exact hn
theorem sim_together : Sim_together Inv := by
  intro X0 X1 X2 X3 X4 X5 X6 X7 X8 M a0 a1 a2 hI
  obtain ⟨⟨r, rfl, hw, hm⟩, hi1, hi2, hp⟩ := id hI
  obtain ⟨hh, hc⟩ := both_two hw hm a0 a1
  have h3 := hw.1
  have h6 := hw.2.1
  unfold wp_X6_together wp_X7_together
  rcases hc with h | ⟨a, b, ha, hb, hab, rfl, rfl, h⟩
  · rw [hh]
    simp only [if_pos h]
    exact ⟨by trivial, hI⟩
  · rw [hh]
    simp only [if_neg h]
    by_cases h2 : F_X7_in a2 0 9999 = 0
    · rw [if_pos (show F_X6_within a2 0 9999 = 0 from h2), if_pos h2]
      exact ⟨by trivial, hI⟩
    · rw [if_neg (show ¬ F_X6_within a2 0 9999 = 0 from h2)]
      obtain ⟨d, -, hd, rfl⟩ := inN (a := 0) (b := 9999) h2 (by decide) (by decide) (by omega) (by omega)
      simp only [if_neg h2]
      have hf : fdN r 1 ≤ 99 := by have := hw.2.2.2.1; unfold fdN; omega
      have fin : ∃ M8, wl_X7_together_31 M (nI a) (nI b) (nI d) (fun v7 => nI (basN r a b d + sumN r a b d (r.1 0 - 1)) = v7 ∧ Inv (NI r) X1 X2 X3 X4 X5 X6 X7 X8 M) M8 0 0 := by
        refine ⟨d + 1, ?_⟩
        have := togM_lp hw hm ha hb hd (kx := fun v7 => nI (basN r a b d + sumN r a b d (r.1 0 - 1)) = v7 ∧ Inv (NI r) X1 X2 X3 X4 X5 X6 X7 X8 M) ⟨by rw [cnt_eq hw], hI⟩ d 0 (by omega)
        exact this
      have es := share_nI hw ha hb (e := 0) (by omega)
      rw [nI_0] at es
      have e1 : (1 : Int32) = nI (0 + 1) := by decide
      by_cases hs : shB r a b 0 = true
      · rw [if_pos hs] at es
        have eb : basN r a b d = min d (fdN r 1) := by unfold basN; rw [if_pos hs]
        rw [if_neg (by rw [es]; decide)]
        refine ⟨r.1 0 - 1 + 1, ?_⟩
        have ej : jmin (nI d) (F_X2_firstDayAfter (NI r) 1) = nI (basN r a b d + sumN r a b d 0) := by
          rw [i1, fd_nI hw (by omega), eb]
          unfold jmin
          show _ = nI (min d (fdN r 1) + 0)
          by_cases hq : fdN r 1 < d
          · rw [if_pos (nI_lt hq (by omega)), Nat.min_eq_right (by omega), Nat.add_zero]
          · rw [if_neg (nI_nlt (by omega) (by omega)), Nat.min_eq_left (by omega), Nat.add_zero]
        rw [ej, e1]
        exact togX_lp hw ha hb hd fin (r.1 0 - 1) 0 (by omega)
      · rw [if_neg hs] at es
        have eb : basN r a b d = 0 := by unfold basN; rw [if_neg hs]
        rw [if_pos es]
        refine ⟨r.1 0 - 1 + 1, ?_⟩
        have ez : nI (basN r a b d + sumN r a b d 0) = 0 := by rw [eb]; exact nI_0
        have := togX_lp hw ha hb hd (kx := fun v6 => ∃ M8, wl_X7_together_31 M (nI a) (nI b) (nI d) (fun v7 => v6 = v7 ∧ Inv (NI r) X1 X2 X3 X4 X5 X6 X7 X8 M) M8 0 0) fin (r.1 0 - 1) 0 (by omega)
        rw [ez, ← e1] at this
        exact this
