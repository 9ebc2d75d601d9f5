-- the calls that read or write a number or two
theorem inN {x lo hi : Int32} {a b : Nat} (h : ¬ F_X7_in x lo hi = 0) (e1 : lo = nI a) (e2 : hi = nI b) (hb : b + 1 < 2 ^ 31) (ha : a ≤ b) : ∃ n : Nat, a ≤ n ∧ n ≤ b ∧ x = nI n := by
  subst e1; subst e2; exact in_nat hb ha h
theorem sim_season : Sim_season Inv := by
  intro X0 X1 X2 X3 X4 X5 X6 X7 X8 M a0 hI
  obtain ⟨⟨r, rfl, hw, hm⟩, hi1, hi2, hp⟩ := id hI
  obtain ⟨m0, m1, m2, m3, m4, m10, m5, m11⟩ := id hm
  unfold wp_X6_season wp_X7_season
  by_cases h : F_X7_in a0 1 99 = 0
  · simp only [within_in, if_pos h]
    exact ⟨trivial, hI⟩
  · simp only [within_in, if_neg h, NI_1, m4, m1]
    obtain ⟨d, h1, h2, rfl⟩ := inN (a := 1) (b := 99) h (by decide) (by decide) (by omega) (by omega)
    by_cases h3 : nI (r.1 3) = 0
    · simp only [if_pos h3]
      have h3' : r.1 3 = 0 := by
        rcases Nat.eq_zero_or_pos (r.1 3) with h4 | h4
        · exact h4
        · exact absurd h3 (nI_ne0 h4 (by have := hw.2.2.2.1; have := hw.2.2.2.2.1; omega))
      obtain ⟨w0, w1, w2, w3, w4, w5, w6, w7, w8, w9⟩ := hw
      exact ⟨trivial, ⟨nsI r 1 d, sI_NI r 1 d, ⟨w0, w1, h1, h2, by show r.1 3 < d; omega, w5, w6, w7, w8, w9⟩, ⟨m0, rfl, m2, m3, m4, m10, m5, m11⟩⟩, ImR_of hi1 rfl rfl, ImR_of hi2 rfl rfl, PdR_of hp rfl rfl⟩
    · simp only [if_neg h3]
      exact ⟨trivial, hI⟩
theorem sim_say : Sim_say Inv := by
  intro X0 X1 X2 X3 X4 X5 X6 X7 X8 M a0 hI
  obtain ⟨⟨r, rfl, hw, hm⟩, hi1, hi2, p, d, hp60, e1, e2, hd⟩ := id hI
  unfold wp_X6_say wp_X7_say wp_X1_add
  by_cases h : F_X7_in a0 33 126 = 0
  · simp only [within_in, if_pos h]
    exact ⟨trivial, hI⟩
  · simp only [within_in, if_neg h, e1, e2]
    obtain ⟨v, h1, h2, rfl⟩ := inN (a := 33) (b := 126) h (by decide) (by decide) (by omega) (by omega)
    have e60 : (60 : Int32) = nI 60 := by decide
    by_cases hp6 : p < 60
    · rw [if_pos (by rw [e60]; exact nI_lt hp6 (by omega))]
      refine put_nI hp6 (by omega) ?_
      rw [if_neg (by rw [e60, nI_eq (by omega) (by omega)]; omega)]
      refine ⟨vp_in_nI hp6 (by omega), (by trivial), ⟨r, rfl, hw, MR_of hm rfl rfl rfl rfl rfl rfl rfl rfl rfl rfl rfl rfl⟩, ImR_of hi1 rfl rfl, ImR_of hi2 rfl rfl, p + 1, nup d p v, by omega, ?_, ?_, ?_⟩
      · show nI p + 1 = _
        exact nI_1 p
      · show nI p + 1 = _
        exact nI_1 p
      · intro k hk
        show upd (X5.2 0) p (nI v) k = nI (nup d p v k) ∧ upd (M.2 13) (nI p).toNatClampNeg (nI v) k = nI (nup d p v k) ∧ _
        rw [nI_clamp (by omega)]
        unfold upd nup
        by_cases hkp : k = p
        · rw [if_pos hkp, if_pos hkp, if_pos hkp]
          exact ⟨rfl, rfl, h1, h2⟩
        · rw [if_neg hkp, if_neg hkp, if_neg hkp]
          exact hd k (by omega)
    · rw [if_neg (by rw [e60]; exact nI_nlt (by omega) (by omega)), if_pos (by rw [e60, show p = 60 by omega])]
      exact ⟨(by trivial), hI⟩
theorem sim_wipe : Sim_wipe Inv := by
  intro X0 X1 X2 X3 X4 X5 X6 X7 X8 M hI
  obtain ⟨⟨r, rfl, hw, hm⟩, hi1, hi2, p, d, hp60, e1, e2, hd⟩ := id hI
  unfold wp_X6_wipe wp_X7_wipe wp_X1_clear
  refine ⟨by rw [e1, e2], ⟨r, rfl, hw, MR_of hm rfl rfl rfl rfl rfl rfl rfl rfl rfl rfl rfl rfl⟩, ImR_of hi1 rfl rfl, ImR_of hi2 rfl rfl, 0, d, by omega, ?_, ?_, fun k hk => absurd hk (by omega)⟩
  · show (0 : Int32) = _
    exact nI_0.symm
  · show (0 : Int32) = _
    exact nI_0.symm
theorem sim_forget : Sim_forget Inv := by
  intro X0 X1 X2 X3 X4 X5 X6 X7 X8 M hI
  obtain ⟨⟨r, rfl, hw, hm⟩, hi1, hi2, hp⟩ := id hI
  obtain ⟨m0, m1, m2, m3, m4, m10, m5, m11⟩ := id hm
  obtain ⟨w0, w1, w2, w3, w4, w5, w6, w7, w8, w9⟩ := hw
  unfold wp_X6_forget wp_X7_forget
  refine ⟨by rw [m10]; rfl, ⟨nsI r 6 0, ?_, ⟨w0, w1, w2, w3, w4, w5, by show 0 ≤ 8; omega, w7, w8, fun i hi => absurd hi (by show ¬ i < 0; omega)⟩, ⟨m0, m1, m2, m3, m4, nI_0.symm, m5, fun i hi => absurd hi (by show ¬ i < 0; omega)⟩⟩, ImR_of hi1 rfl rfl, ImR_of hi2 rfl rfl, PdR_of hp rfl rfl⟩
  have := sI_NI r 6 0
  rw [nI_0] at this
  exact this
theorem sim_seen : Sim_seen Inv := by
  intro X0 X1 X2 X3 X4 X5 X6 X7 X8 M a0 a1 hI h01
  obtain ⟨⟨r, rfl, hw, hm⟩, hi1, hi2, hp⟩ := id hI
  obtain ⟨m0, m1, m2, m3, m4, m10, m5, m11⟩ := id hm
  obtain ⟨w0, w1, w2, w3, w4, w5, w6, w7, w8, w9⟩ := id hw
  obtain ⟨hh, hc⟩ := has_one hw hm a0
  unfold wp_X6_seen wp_X7_seen
  rcases hc with h | ⟨k, hk, rfl, h⟩
  · simp only [hh, if_pos h]
    exact ⟨trivial, hI⟩
  · have hne : ¬ F_X7_isOne M (nI k) = 0 := by rw [h]; decide
    simp only [hh, if_neg hne, NI_1, m10]
    have e8 : (8 : Int32) = nI 8 := by decide
    by_cases h8 : r.1 6 < 8
    · rw [if_pos (by rw [e8]; exact nI_lt h8 (by omega))]
      refine put_nI h8 (by omega) ?_
      have e16 : (2 : Int32) * nI (r.1 6) = nI (2 * r.1 6) := by rw [i2, pk_mul]
      have fin : ∀ c : Nat, c ≤ 1 → Inv (sI (sA (sA (NI r) 13 (upd ((NI r).2 13) (r.1 6) (nI k))) 14 (upd ((NI r).2 14) (r.1 6) (nI c))) 6 (nI (r.1 6) + 1)) X1 X2 X3 X4 X5 X6 X7 X8 (sI (sA (sA M 11 (upd (M.2 11) (2 * nI (r.1 6)).toNatClampNeg (nI k))) 11 (upd (upd (M.2 11) (2 * nI (r.1 6)).toNatClampNeg (nI k)) (2 * nI (r.1 6) + 1).toNatClampNeg (nI c))) 10 (nI (r.1 6) + 1)) := by
        intro c hc1
        refine ⟨⟨nsI (nsA (nsA r 13 (nup (r.2 13) (r.1 6) k)) 14 (nup (r.2 14) (r.1 6) c)) 6 (r.1 6 + 1), ?_, ⟨w0, w1, w2, w3, w4, w5, by show r.1 6 + 1 ≤ 8; omega, w7, w8, ?_⟩, ⟨m0, m1, m2, m3, m4, nI_1 _, m5, ?_⟩⟩, ImR_of hi1 rfl rfl, ImR_of hi2 rfl rfl, PdR_of hp rfl rfl⟩
        · rw [NI_2f, NI_2f, upd_nI, upd_nI, sA_NI, sA_NI, nI_1, sI_NI]
        · intro i hi
          show nup (r.2 13) (r.1 6) k i < r.1 0 ∧ nup (r.2 14) (r.1 6) c i ≤ 1
          unfold nup
          by_cases hi6 : i = r.1 6
          · rw [if_pos hi6, if_pos hi6]; exact ⟨hk, hc1⟩
          · rw [if_neg hi6, if_neg hi6]
            have : i < r.1 6 + 1 := hi
            exact w9 i (by omega)
        · intro i hi
          have hi : i < r.1 6 + 1 := hi
          show upd (upd (M.2 11) _ _) _ _ (2 * i) = nI (nup (r.2 13) (r.1 6) k i) ∧ upd (upd (M.2 11) _ _) _ _ (2 * i + 1) = nI (nup (r.2 14) (r.1 6) c i)
          rw [e16, nI_1, nI_clamp (by omega), nI_clamp (by omega)]
          unfold upd nup
          by_cases hi6 : i = r.1 6
          · subst hi6
            rw [if_neg (by omega), if_pos rfl, if_pos rfl, if_pos rfl, if_pos rfl]
            exact ⟨rfl, rfl⟩
          · rw [if_neg (by omega), if_neg (by omega), if_neg hi6, if_neg (by omega), if_neg (by omega), if_neg hi6]
            exact m11 i (by omega)
      have v1 : vp_in (2 * nI (r.1 6)) 16 := by rw [e16]; exact vp_in_nI (by omega) (by omega)
      have v2 : vp_in (2 * nI (r.1 6) + 1) 16 := by rw [e16, nI_1]; exact vp_in_nI (by omega) (by omega)
      have hn8 : ¬ nI (r.1 6) = 8 := by rw [e8, nI_eq (by omega) (by omega)]; omega
      rcases h01 with rfl | rfl
      · rw [if_pos rfl]
        refine put_nI h8 (by omega) ?_
        rw [if_neg hn8, if_pos rfl]
        exact ⟨v1, v2, (by trivial), fin 0 (by omega)⟩
      · rw [if_neg (by decide)]
        refine put_nI h8 (by omega) ?_
        rw [if_neg hn8, if_neg (by decide)]
        exact ⟨v1, v2, (by trivial), fin 1 (by omega)⟩
    · rw [if_neg (by rw [e8]; exact nI_nlt (by omega) (by omega)), if_pos (by rw [e8, show r.1 6 = 8 by omega])]
      exact ⟨(by trivial), hI⟩
theorem sim_set : Sim_set Inv := by
  intro X0 X1 X2 X3 X4 X5 X6 X7 X8 M a0 a1 a2 hI
  obtain ⟨⟨r, rfl, hw, hm⟩, hi1, hi2, hp⟩ := id hI
  obtain ⟨m0, m1, m2, m3, m4, m10, m5, m11⟩ := id hm
  obtain ⟨w0, w1, w2, w3, w4, w5, w6, w7, w8, w9⟩ := id hw
  obtain ⟨hh, hc⟩ := has_one hw hm a0
  unfold wp_X6_set wp_X7_set
  rcases hc with h | ⟨k, hk, rfl, h⟩
  · simp only [hh, if_pos h]
    exact ⟨trivial, hI⟩
  · have hne : ¬ F_X7_isOne M (nI k) = 0 := by rw [h]; decide
    simp only [hh, if_neg hne, within_in]
    have v6 := vp6 (show k < 6 by omega)
    have ck : (nI k).toNatClampNeg = k := nI_clamp (by omega)
    obtain ⟨b5, b6, b7, b8, b9⟩ := m5 k hk
    by_cases h2 : F_X7_in a1 0 1 = 0
    · simp only [if_pos h2]
      exact ⟨trivial, hI⟩
    · simp only [if_neg h2]
      obtain ⟨w, -, hw1, rfl⟩ := inN (a := 0) (b := 1) h2 (by decide) (by decide) (by omega) (by omega)
      have hw01 : w = 0 ∨ w = 1 := by omega
      rcases hw01 with rfl | rfl
      · simp only [nI_0, if_pos]
        by_cases h3 : F_X7_in a2 0 9 = 0
        · simp only [if_pos h3]
          exact ⟨trivial, hI⟩
        · simp only [if_neg h3]
          obtain ⟨v, -, hv, rfl⟩ := inN (a := 0) (b := 9) h3 (by decide) (by decide) (by omega) (by omega)
          refine put_nI (by omega) (by omega) ?_
          rw [if_neg (by decide : ¬ (0 : Int32) = 1), getR r 12 (by omega) (by omega), ck]
          refine ⟨v6, v6, v6, v6, b8.symm, ⟨nsA r 12 (nup (r.2 12) k v), by rw [NI_2f, upd_nI, sA_NI], ⟨w0, w1, w2, w3, w4, w5, w6, ?_, w8, w9⟩, ⟨m0, m1, m2, m3, m4, m10, ?_, m11⟩⟩, ImR_of hi1 rfl rfl, ImR_of hi2 rfl rfl, PdR_of hp rfl rfl⟩
          · intro j hj
            obtain ⟨c1, c2, c3, c4, c5⟩ := w7 j hj
            refine ⟨c1, c2, c3, c4, ?_⟩
            show nup (r.2 12) k v j ≤ 9
            unfold nup
            split <;> omega
          · intro j hj
            obtain ⟨c1, c2, c3, c4, c5⟩ := m5 j hj
            refine ⟨c1, c2, c3, ?_, ?_⟩
            · show upd (M.2 8) k (nI v) j = nI (nup (r.2 12) k v j)
              unfold upd nup
              by_cases hjk : j = k
              · rw [if_pos hjk, if_pos hjk]
              · rw [if_neg hjk, if_neg hjk]; exact c4
            · show upd (M.2 9) k (M.2 9 k) j = _
              unfold upd
              by_cases hjk : j = k
              · rw [if_pos hjk, ← hjk]; exact c5
              · rw [if_neg hjk]; exact c5
      · simp only [← i1]
        rw [if_neg (by decide : ¬ (1 : Int32) = 0)]
        by_cases h3 : F_X7_in a2 0 1 = 0
        · simp only [if_pos h3]
          rw [if_neg (by decide : ¬ (1 : Int32) = 0)]
          exact ⟨(by trivial), hI⟩
        · simp only [if_neg h3]
          obtain ⟨v, -, hv, rfl⟩ := inN (a := 0) (b := 1) h3 (by decide) (by decide) (by omega) (by omega)
          refine put_nI (by omega) (by omega) ?_
          rw [if_neg (by decide : ¬ (1 : Int32) = 0), if_pos (by trivial), getR r 11 (by omega) (by omega), ck]
          refine ⟨v6, v6, v6, v6, b9.symm, ⟨nsA r 11 (nup (r.2 11) k v), by rw [NI_2f, upd_nI, sA_NI], ⟨w0, w1, w2, w3, w4, w5, w6, ?_, w8, w9⟩, ⟨m0, m1, m2, m3, m4, m10, ?_, m11⟩⟩, ImR_of hi1 rfl rfl, ImR_of hi2 rfl rfl, PdR_of hp rfl rfl⟩
          · intro j hj
            obtain ⟨c1, c2, c3, c4, c5⟩ := w7 j hj
            refine ⟨c1, c2, c3, ?_, c5⟩
            show nup (r.2 11) k v j ≤ 1
            unfold nup
            split <;> omega
          · intro j hj
            obtain ⟨c1, c2, c3, c4, c5⟩ := m5 j hj
            refine ⟨c1, c2, c3, ?_, ?_⟩
            · show upd (M.2 8) k (M.2 8 k) j = _
              unfold upd
              by_cases hjk : j = k
              · rw [if_pos hjk, ← hjk]; exact c4
              · rw [if_neg hjk]; exact c4
            · show upd (M.2 9) k (nI v) j = nI (nup (r.2 11) k v j)
              unfold upd nup
              by_cases hjk : j = k
              · rw [if_pos hjk, if_pos hjk]
              · rw [if_neg hjk, if_neg hjk]; exact c5
