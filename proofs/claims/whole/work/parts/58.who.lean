-- who, told, meet
def isAt (r : NS) (l k e : Nat) : Bool := decide (r.1 5 / 2 ^ k % 2 = 1 ∧ landN r k e = l)
theorem landE_at {r : NS} (hw : WF r) {k e l : Nat} (hl : l < r.1 0) : landE r k e = nI l ↔ isAt r l k e = true := by
  have h6 := hw.2.1
  have hlt := landN_lt hw k e
  unfold landE isAt
  rw [decide_eq_true_iff]
  by_cases ha : r.1 5 / 2 ^ k % 2 = 1
  · rw [if_pos ha, nI_eq (by omega) (by omega)]
    exact ⟨fun h => ⟨ha, h⟩, fun h => h.2⟩
  · rw [if_neg ha]
    refine ⟨fun h => ?_, fun h => absurd h.1 ha⟩
    exact absurd (h ▸ nI_pos' (by omega) : (0 : Int32) ≤ (-6)) (by decide)
theorem nle {a b : Nat} (h : a < b) (hb : b < 2 ^ 31) : ¬ nI b ≤ nI a := nI_ge h hb
theorem guests_lp {r : NS} (hw : WF r) {l e : Nat} (hl : l < r.1 0) (he : e < 2 ^ 30) {kx : Int32 → Prop} (hk : kx (nI (msk (fun k => isAt r l k e) (r.1 0)))) : ∀ (d i : Nat), i + d = r.1 0 → wl_X2_guestsAfter_5 (NI r) (nI l) (nI e) kx (d + 1) (nI (msk (fun k => isAt r l k e) i)) (nI i) := by
  have h6 := hw.2.1
  intro d
  induction d with
  | zero =>
    intro i hi
    unfold wl_X2_guestsAfter_5
    rw [NI_1, if_pos (nI_le (by omega) (by omega)), show i = r.1 0 by omega]
    exact hk
  | succ d ih =>
    intro i hi
    unfold wl_X2_guestsAfter_5
    rw [NI_1, if_neg (nle (by omega) (by omega)), landAfter_nI hw (by omega) he]
    by_cases ha : isAt r l i e = true
    · rw [if_pos ((landE_at hw hl).mpr ha), msk_or (P := fun k => isAt r l k e) (by omega) ha, nI_1]
      exact ih (i + 1) (by omega)
    · rw [if_neg (fun h => ha ((landE_at hw hl).mp h)), msk_no (P := fun k => isAt r l k e) ha, nI_1]
      exact ih (i + 1) (by omega)
theorem guests_ok {r : NS} (hw : WF r) {l e : Nat} (hl : l < r.1 0) (he : e < 2 ^ 30) {K : Int32 → Prop} (hk : K (nI (msk (fun k => isAt r l k e) (r.1 0)))) : wp_X2_guestsAfter (NI r) (nI l) (nI e) K := by
  refine ⟨r.1 0 + 1, ?_⟩
  have := guests_lp hw hl he (kx := fun v => K v) hk (r.1 0) 0 (by omega)
  exact this
theorem whoM_lp {r : NS} {M : St} (hw : WF r) (hm : MR M r) {l q : Nat} (hl : l < r.1 0) (hq : q ≤ 9999) {kx : Int32 → Prop} (hk : kx (nI (msk (fun k => isAt r l k ((r.1 3 + q) / r.1 1)) (r.1 0)))) : ∀ (d i : Nat), i + d = r.1 0 → wl_X7_who_29 M (nI l) (nI q) kx (d + 1) (nI (msk (fun k => isAt r l k ((r.1 3 + q) / r.1 1)) i)) (nI i) := by
  have h6 := hw.2.1
  have m0 := hm.1
  have el := e_lt hw (d := q) (by omega)
  intro d
  induction d with
  | zero =>
    intro i hi
    unfold wl_X7_who_29
    rw [m0, if_pos (nI_le (by omega) (by omega)), show i = r.1 0 by omega]
    exact hk
  | succ d ih =>
    intro i hi
    unfold wl_X7_who_29
    rw [m0, if_neg (nle (by omega) (by omega))]
    refine equi_nI hw hm (by omega) (whereB hw hm (by omega) (by omega) ?_)
    by_cases ha : isAt r l i ((r.1 3 + q) / r.1 1) = true
    · rw [if_pos ((landE_at hw hl).mpr ha), msk_or (P := fun k => isAt r l k ((r.1 3 + q) / r.1 1)) (by omega) ha, nI_1]
      exact ih (i + 1) (by omega)
    · rw [if_neg (fun h => ha ((landE_at hw hl).mp h)), msk_or0 (P := fun k => isAt r l k ((r.1 3 + q) / r.1 1)) (by omega) ha, nI_1]
      exact ih (i + 1) (by omega)
theorem sim_who : Sim_who Inv := by
  intro X0 X1 X2 X3 X4 X5 X6 X7 X8 M a0 a1 hI
  obtain ⟨⟨r, rfl, hw, hm⟩, hi1, hi2, hp⟩ := id hI
  obtain ⟨hh, hc⟩ := has_one hw hm a0
  unfold wp_X6_who wp_X7_who
  rcases hc with h | ⟨k, hk, rfl, h⟩
  · simp only [hh, if_pos h]
    exact ⟨trivial, hI⟩
  · have hne : ¬ F_X7_isOne M (nI k) = 0 := by rw [h]; decide
    simp only [hh, if_neg hne]
    by_cases h2 : F_X7_in a1 0 9999 = 0
    · rw [if_pos (show F_X6_within a1 0 9999 = 0 from h2), if_pos h2]
      exact ⟨by trivial, hI⟩
    · rw [if_neg (show ¬ F_X6_within a1 0 9999 = 0 from h2)]
      obtain ⟨d, -, hd, rfl⟩ := inN (a := 0) (b := 9999) h2 (by decide) (by decide) (by omega) (by omega)
      have el := e_lt hw (d := d) (by omega)
      rw [till_nI hw (by omega)]
      refine guests_ok hw hk (by omega) ?_
      rw [if_neg h2]
      refine ⟨r.1 0 + 1, ?_⟩
      rw [← nI_0]
      exact whoM_lp hw hm hk hd (kx := fun v => _ = v ∧ Inv _ _ _ _ _ _ _ _ _ M) ⟨rfl, hI⟩ (r.1 0) 0 (by omega)
theorem landI_lt {r : NS} (hw : WF r) (k : Nat) : landI r k < 0 ↔ ¬ r.1 5 / 2 ^ k % 2 = 1 := by
  rw [← landI_ge hw k]
  exact Int32.not_le.symm
theorem toldM_lp {r : NS} {M : St} (hw : WF r) (hm : MR M r) {kx : Int32 → Prop} (hk : kx (nI (r.1 5))) : ∀ (d i : Nat), i + d = r.1 0 → wl_X7_told_68 M kx (d + 1) (nI (msk (fun k => decide (r.1 5 / 2 ^ k % 2 = 1)) i)) (nI i) := by
  have h6 := hw.2.1
  have m0 := hm.1
  intro d
  induction d with
  | zero =>
    intro i hi
    unfold wl_X7_told_68
    rw [m0, if_pos (nI_le (by omega) (by omega)), show i = r.1 0 by omega, msk_bits _ (by omega) _ (lv64 hw) hw.2.2.2.2.2.1]
    exact hk
  | succ d ih =>
    intro i hi
    unfold wl_X7_told_68
    rw [m0, if_neg (nle (by omega) (by omega)), nI_clamp (by omega), (hm.2.2.2.2.2.2.1 i (by omega)).1]
    refine ⟨vp6 (by omega), ?_⟩
    by_cases ha : r.1 5 / 2 ^ i % 2 = 1
    · rw [if_neg (fun h => (landI_lt hw i).mp h ha), msk_or (P := fun k => decide (r.1 5 / 2 ^ k % 2 = 1)) (by omega) (by simpa using ha), nI_1]
      exact ih (i + 1) (by omega)
    · rw [if_pos ((landI_lt hw i).mpr ha), msk_or0 (P := fun k => decide (r.1 5 / 2 ^ k % 2 = 1)) (by omega) (by simpa using ha), nI_1]
      exact ih (i + 1) (by omega)
theorem sub_c {x : Int32} {c : Nat} (h : nI c ≤ x) (hc : c < 2 ^ 30) : ∃ j, c + j < 2 ^ 31 ∧ x = nI (c + j) ∧ x - nI c = nI j := by
  have h0 : ¬ x < 0 := Int32.not_lt.mpr (Int32.le_trans (nI_pos' (by omega)) h)
  obtain ⟨n, hn, rfl⟩ := nI_of h0
  have h1 := (nI_leI (by omega) hn).mp h
  exact ⟨n - c, by omega, by rw [show c + (n - c) = n by omega], pk_sub h1⟩
theorem one_of {r : NS} {M : St} (hw : WF r) (hm : MR M r) {j : Nat} (hj : j < 2 ^ 31) : F_X7_isOne M (nI j) = if j < r.1 0 then 1 else 0 := by
  have h3 := hw.1
  have h6 := hw.2.1
  have e : M.1 0 - 1 = nI (r.1 0 - 1) := by rw [hm.1]; exact pk_sub (a := r.1 0) (b := 1) (by omega)
  unfold F_X7_isOne F_X7_in
  rw [e, if_neg (nI_pos hj)]
  by_cases h : j < r.1 0
  · rw [if_neg (nI_nlt (by omega) (by omega)), if_pos h]
  · rw [if_pos (nI_lt (by omega) hj), if_neg h]
theorem sim_told : Sim_told Inv := by
  intro X0 X1 X2 X3 X4 X5 X6 X7 X8 M a0 hI
  obtain ⟨⟨r, rfl, hw, hm⟩, hi1, hi2, p, dd, hp60, e1, e2, hd⟩ := id hI
  obtain ⟨m0, m1, m2, m3, m4, m10, m5, m11⟩ := id hm
  have h3 := hw.1
  have h6 := hw.2.1
  have e10 : (10 : Int32) = nI 10 := by decide
  have e20 : (20 : Int32) = nI 20 := by decide
  have s9 : (9 : Int32) + nI (r.1 0) = nI (9 + r.1 0) := by rw [show (9 : Int32) = nI 9 by decide, nI_add]
  have s19 : (19 : Int32) + nI (r.1 0) = nI (19 + r.1 0) := by rw [show (19 : Int32) = nI 19 by decide, nI_add]
  unfold wp_X7_told F_X6_told
  -- the ones of a land or child
  have one : (10 : Int32) ≤ a0 → (if a0 = 0 then X5.1 1 else if a0 = 1 then (NI r).1 0 else if a0 = 2 then (NI r).1 1 else if a0 = 3 then (NI r).1 2 else if a0 = 4 then (NI r).1 4 else if a0 = 5 then (NI r).1 5 else if a0 = 6 then (NI r).1 6 else F_X6_toldOfOne (NI r) a0) = F_X6_toldOfOne (NI r) a0 := by
    intro h
    have q : ∀ c : Int32, ¬ (10 : Int32) ≤ c → ¬ a0 = c := fun c hc e => hc (e ▸ h)
    rw [if_neg (q 0 (by decide)), if_neg (q 1 (by decide)), if_neg (q 2 (by decide)), if_neg (q 3 (by decide)), if_neg (q 4 (by decide)), if_neg (q 5 (by decide)), if_neg (q 6 (by decide))]
  by_cases h20 : a0 < 20
  · rw [if_pos h20]
    by_cases h10 : a0 < 10
    · rw [if_pos h10]
      refine ⟨r.1 0 + 1, ?_⟩
      rw [← nI_0]
      refine toldM_lp hw hm ?_ (r.1 0) 0 (by omega)
      rw [nI_0, e1, e2, m0, m1, m2, m3, m10]
      simp only [NI_1]
      by_cases c0 : a0 = 0
      · rw [if_pos c0, if_pos c0]; exact ⟨rfl, hI⟩
      · rw [if_neg c0, if_neg c0]
        by_cases c1 : a0 = 1
        · rw [if_pos c1, if_pos c1]; exact ⟨rfl, hI⟩
        · rw [if_neg c1, if_neg c1]
          by_cases c2 : a0 = 2
          · rw [if_pos c2, if_pos c2]; exact ⟨rfl, hI⟩
          · rw [if_neg c2, if_neg c2]
            by_cases c3 : a0 = 3
            · rw [if_pos c3, if_pos c3]; exact ⟨rfl, hI⟩
            · rw [if_neg c3, if_neg c3]
              by_cases c4 : a0 = 4
              · rw [if_pos c4, if_pos c4]; exact ⟨rfl, hI⟩
              · rw [if_neg c4, if_neg c4]
                by_cases c5 : a0 = 5
                · rw [if_pos c5, if_pos c5]; exact ⟨rfl, hI⟩
                · rw [if_neg c5, if_neg c5]
                  by_cases c6 : a0 = 6
                  · rw [if_pos c6, if_pos c6]; exact ⟨rfl, hI⟩
                  · rw [if_neg c6, if_neg c6]
                    refine ⟨?_, hI⟩
                    have ha : F_X6_within a0 10 (9 + (NI r).1 0) = 0 := by
                      unfold F_X6_within; rw [if_pos h10]
                    have hb : F_X6_within a0 20 (19 + (NI r).1 0) = 0 := by
                      unfold F_X6_within; rw [if_pos h20]
                    unfold F_X6_toldOfOne
                    rw [if_pos ha, if_pos hb]
    · rw [if_neg h10]
      have hle : nI 10 ≤ a0 := by rw [← e10]; exact Int32.not_lt.mp h10
      rw [one (by rw [e10]; exact hle)]
      obtain ⟨j, hj, rfl, hs⟩ := sub_c hle (by omega)
      have hj10 : 10 + j < 20 := (nI_ltI hj (by omega)).mp (by rw [← e20]; exact h20)
      rw [e10, hs, one_of hw hm (by omega), nI_clamp (show j < 2 ^ 31 by omega)]
      unfold F_X6_toldOfOne
      have ha : F_X6_within (nI (10 + j)) 10 (9 + (NI r).1 0) = if j < r.1 0 then 1 else 0 := by
        unfold F_X6_within
        rw [NI_1, s9, e10, if_neg (nI_nlt (by omega) (by omega))]
        by_cases h : j < r.1 0
        · rw [if_neg (nI_nlt (by omega) (by omega)), if_pos h]
        · rw [if_pos (nI_lt (by omega) (by omega)), if_neg h]
      have hb : F_X6_within (nI (10 + j)) 20 (19 + (NI r).1 0) = 0 := by
        unfold F_X6_within; rw [if_pos h20]
      rw [ha, e10, hs, hb]
      by_cases h : j < r.1 0
      · rw [if_pos h, if_neg (by decide), if_neg (by decide), getR r 12 (by omega) (by omega)]
        exact ⟨vp6 (by omega), (m5 j h).2.2.2.1.symm, hI⟩
      · rw [if_neg h, if_pos rfl, if_pos rfl, if_pos rfl]
        exact ⟨rfl, hI⟩
  · rw [if_neg h20]
    have hle : nI 20 ≤ a0 := by rw [← e20]; exact Int32.not_lt.mp h20
    rw [one (Int32.le_trans (by decide) (Int32.not_lt.mp h20))]
    obtain ⟨j, hj, rfl, hs⟩ := sub_c hle (by omega)
    have h31 := hj
    rw [e20, hs, one_of hw hm (by omega), nI_clamp (show j < 2 ^ 31 by omega)]
    unfold F_X6_toldOfOne
    have ha : F_X6_within (nI (20 + j)) 10 (9 + (NI r).1 0) = 0 := by
      unfold F_X6_within
      rw [NI_1, s9, e10, if_neg (nI_nlt (by omega) (by omega)), if_pos (nI_lt (by omega) (by omega))]
    have hb : F_X6_within (nI (20 + j)) 20 (19 + (NI r).1 0) = if j < r.1 0 then 1 else 0 := by
      unfold F_X6_within
      rw [NI_1, s19, e20, if_neg (nI_nlt (by omega) (by omega))]
      by_cases h : j < r.1 0
      · rw [if_neg (nI_nlt (by omega) (by omega)), if_pos h]
      · rw [if_pos (nI_lt (by omega) (by omega)), if_neg h]
    rw [ha, if_pos rfl, hb, e20, hs]
    by_cases h : j < r.1 0
    · rw [if_pos h, if_neg (by decide), if_neg (by decide), getR r 11 (by omega) (by omega)]
      exact ⟨vp6 (by omega), (m5 j h).2.2.2.2.symm, hI⟩
    · rw [if_neg h, if_pos rfl, if_pos rfl]
      exact ⟨rfl, hI⟩
