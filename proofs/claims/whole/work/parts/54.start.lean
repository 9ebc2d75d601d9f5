-- a Round anew
theorem sA_sA (S : St) (k : Nat) (f g : Nat → Int32) : sA (sA S k f) k g = sA S k g := by
  refine Prod.ext rfl ?_
  funext j
  show (if j = k then g else if j = k then f else S.2 j) = if j = k then g else S.2 j
  by_cases h : j = k
  · rw [if_pos h, if_pos h]
  · rw [if_neg h, if_neg h, if_neg h]
theorem sA_at (S : St) (k : Nat) (f : Nat → Int32) : (sA S k f).2 k = f := by
  show (if k = k then f else S.2 k) = f
  rw [if_pos rfl]
theorem sA_self (S : St) (k : Nat) {f : Nat → Int32} (h : S.2 k = f) : sA S k f = S := by
  refine Prod.ext rfl ?_
  funext j
  show (if j = k then f else S.2 j) = S.2 j
  by_cases hj : j = k
  · rw [if_pos hj, hj, h]
  · rw [if_neg hj]
theorem anew_lp {n : Nat} (hn : n ≤ 6) {kx : St → Prop} : ∀ (d i : Nat) (S : St), i + d = n → kx (sA S 8 (fun j => if i ≤ j ∧ j < n then nI j else S.2 8 j)) → wl_X2_startAnew_68 (nI n) kx (d + 1) (nI i) S := by
  intro d
  induction d with
  | zero =>
    intro i S hi h
    unfold wl_X2_startAnew_68
    rw [if_pos (nI_le (by omega) (by omega))]
    have e : (fun j => if i ≤ j ∧ j < n then nI j else S.2 8 j) = S.2 8 := by
      funext j
      rw [if_neg (by omega)]
    rw [e, sA_self S 8 rfl] at h
    exact h
  | succ d ih =>
    intro i S hi h
    unfold wl_X2_startAnew_68
    rw [if_neg (nI_ge (by omega) (by omega))]
    refine put_nI (by omega) (by omega) ?_
    rw [nI_1]
    refine ih (i + 1) _ (by omega) ?_
    rw [sA_sA, sA_at]
    have e : (fun j => if i + 1 ≤ j ∧ j < n then nI j else upd (S.2 8) i (nI i) j) = (fun j => if i ≤ j ∧ j < n then nI j else S.2 8 j) := by
      funext j
      unfold upd
      by_cases h1 : j = i
      · subst h1
        rw [if_neg (by omega), if_pos rfl, if_pos (by omega)]
      · rw [if_neg h1]
        by_cases h2 : i + 1 ≤ j ∧ j < n
        · rw [if_pos h2, if_pos (by omega)]
        · rw [if_neg h2, if_neg (by omega)]
    rw [e]
    exact h
theorem mask_f : ∀ n, n < 7 → 3 ≤ n → ((1 : Int32) <<< (nI n &&& 31)) - 1 = nI (2 ^ n - 1) := by decide +kernel
def anewN (r : NS) (n : Nat) : NS :=
  nsA (nsA (nsA (nsA (nsA (nsI (nsI (nsI (nsI (nsI (nsI r 0 n) 2 0) 3 0) 4 0) 6 0) 5 (2 ^ n - 1)) 7 (fun j => if j < 6 then 0 else r.2 7 j)) 9 (fun j => if j < 6 then 0 else r.2 9 j)) 11 (fun j => if j < 6 then 0 else r.2 11 j)) 12 (fun j => if j < 6 then 0 else r.2 12 j)) 8 (fun j => if j < n then j else r.2 8 j)
theorem anew_nI {r : NS} {n : Nat} (h3 : 3 ≤ n) (h6 : n ≤ 6) {K : St → Prop} (h : K (NI (anewN r n))) : wp_X2_startAnew (NI r) (nI n) K := by
  unfold wp_X2_startAnew
  refine fill_nI (by omega) (fill_nI (by omega) (fill_nI (by omega) (fill_nI (by omega) ?_)))
  refine ⟨n + 1, ?_⟩
  have z : (0 : Int32) = nI 0 := nI_0.symm
  have ef : ∀ q : Nat, (fun j => if j < 6 then (0 : Int32) else (NI r).2 q j) = fun j => nI ((fun j => if j < 6 then 0 else r.2 q j) j) := by
    intro q
    funext j
    show _ = nI (if j < 6 then 0 else r.2 q j)
    by_cases hj : j < 6
    · rw [if_pos hj, if_pos hj]; exact z
    · rw [if_neg hj, if_neg hj]; rfl
  rw [mask_f n (by omega) h3, ef, ef, ef, ef]
  have e0 : ∀ k, sI (NI (nsI r 0 n)) k 0 = NI (nsI (nsI r 0 n) k 0) := fun k => by rw [z]; exact sI_NI _ _ _
  have e1 : sI (sI (sI (sI (sI (sI (NI r) 0 (nI n)) 2 0) 3 0) 4 0) 6 0) 5 (nI (2 ^ n - 1)) = NI (nsI (nsI (nsI (nsI (nsI (nsI r 0 n) 2 0) 3 0) 4 0) 6 0) 5 (2 ^ n - 1)) := by
    rw [z, sI_NI, sI_NI, sI_NI, sI_NI, sI_NI, sI_NI]
  rw [e1, sA_NI, sA_NI, sA_NI, sA_NI]
  have := anew_lp (n := n) h6 (kx := fun Z => K Z) n 0 (NI (nsA (nsA (nsA (nsA (nsI (nsI (nsI (nsI (nsI (nsI r 0 n) 2 0) 3 0) 4 0) 6 0) 5 (2 ^ n - 1)) 7 (fun j => if j < 6 then 0 else r.2 7 j)) 9 (fun j => if j < 6 then 0 else r.2 9 j)) 11 (fun j => if j < 6 then 0 else r.2 11 j)) 12 (fun j => if j < 6 then 0 else r.2 12 j))) (by omega)
  rw [nI_0] at this
  refine this ?_
  have e2 : (fun j => if 0 ≤ j ∧ j < n then nI j else (NI (nsA (nsA (nsA (nsA (nsI (nsI (nsI (nsI (nsI (nsI r 0 n) 2 0) 3 0) 4 0) 6 0) 5 (2 ^ n - 1)) 7 (fun j => if j < 6 then 0 else r.2 7 j)) 9 (fun j => if j < 6 then 0 else r.2 9 j)) 11 (fun j => if j < 6 then 0 else r.2 11 j)) 12 (fun j => if j < 6 then 0 else r.2 12 j))).2 8 j) = fun j => nI ((fun j => if j < n then j else r.2 8 j) j) := by
    funext j
    show _ = nI (if j < n then j else r.2 8 j)
    by_cases hj : j < n
    · rw [if_pos hj, if_pos ⟨Nat.zero_le _, hj⟩]
    · rw [if_neg hj, if_neg (fun h => hj h.2)]; rfl
  rw [e2, sA_NI]
  exact h
theorem bits_all : ∀ n, n < 7 → ∀ k, k < n → (2 ^ n - 1) / 2 ^ k % 2 = 1 := by decide
theorem WF_anew {r : NS} {n : Nat} (h3 : 3 ≤ n) (h6 : n ≤ 6) (hl : 1 ≤ r.1 1 ∧ r.1 1 ≤ 99) : WF (anewN r n) := by
  refine ⟨h3, h6, hl.1, hl.2, hl.1, ?_, Nat.zero_le _, ?_, ?_, fun i hi => absurd hi (Nat.not_lt_zero i)⟩
  · show 2 ^ n - 1 < 2 ^ n
    have := Nat.two_pow_pos n
    omega
  · intro k hk
    have hk : k < n := hk
    show (if k < 6 then 0 else r.2 7 k) < n - 1 ∧ (if k < n then k else r.2 8 k) < n ∧ (if k < 6 then 0 else r.2 9 k) ≤ 2 ∧ (if k < 6 then 0 else r.2 11 k) ≤ 1 ∧ (if k < 6 then 0 else r.2 12 k) ≤ 9
    rw [if_pos (by omega), if_pos hk, if_pos (by omega), if_pos (by omega), if_pos (by omega)]
    omega
  · intro i j hi hj
    have hi : i < n := hi
    have hj : j < n := hj
    show (if i < n then i else r.2 8 i) = (if j < n then j else r.2 8 j) → i = j
    rw [if_pos hi, if_pos hj]
    exact id
/-- what the reference's clear leaves -/
def clP (S0 : St) (n i : Nat) (S : St) : Prop := S.1 = S0.1 ∧ (∀ j, (j < 5 ∨ 9 < j) → S.2 j = S0.2 j) ∧ ∀ k, k < i → S.2 5 k = (if k < n then nI ((k + 1) % n) else (-6)) ∧ S.2 6 k = nI k ∧ S.2 7 k = 0 ∧ S.2 8 k = 0 ∧ S.2 9 k = 0
theorem cl_lp {S0 : St} {n : Nat} (h3 : 3 ≤ n) (h6 : n ≤ 6) (h0 : S0.1 0 = nI n) {kx : St → Prop} (hk : ∀ S, clP S0 n 6 S → kx S) : ∀ (d i : Nat) (S : St), i + d = 6 → clP S0 n i S → wl_X7_clear_22 kx (d + 1) (nI i) S := by
  intro d
  induction d with
  | zero =>
    intro i S hi h
    unfold wl_X7_clear_22
    have : i = 6 := by omega
    subst this
    rw [if_pos (by decide)]
    exact hk S h
  | succ d ih =>
    intro i S hi h
    obtain ⟨g1, g2, g3⟩ := h
    unfold wl_X7_clear_22
    rw [if_neg (by rw [show (6 : Int32) = nI 6 by decide]; exact nI_ge (by omega) (by omega))]
    have v6 := vp6 (show i < 6 by omega)
    rw [g1, h0, nI_clamp (show i < 2 ^ 31 by omega), nI_1]
    have go : ∀ v : Int32, v = (if i < n then nI ((i + 1) % n) else (-6)) → clP S0 n (i + 1) (sA (sA (sA (sA (sA S 5 (upd (S.2 5) i v)) 6 (upd (S.2 6) i (nI i))) 7 (upd (S.2 7) i 0)) 8 (upd (S.2 8) i 0)) 9 (upd (S.2 9) i 0)) := by
      intro v hv
      refine ⟨g1, fun j hj => ?_, fun k hk9 => ?_⟩
      · rw [sA_2, if_neg (by omega), sA_2, if_neg (by omega), sA_2, if_neg (by omega), sA_2, if_neg (by omega), sA_2, if_neg (by omega)]
        exact g2 j hj
      · show upd (S.2 5) i v k = _ ∧ upd (S.2 6) i (nI i) k = _ ∧ upd (S.2 7) i 0 k = 0 ∧ upd (S.2 8) i 0 k = 0 ∧ upd (S.2 9) i 0 k = 0
        unfold upd
        by_cases hki : k = i
        · subst hki
          rw [if_pos rfl, if_pos rfl, if_pos rfl, if_pos rfl, if_pos rfl]
          exact ⟨hv, rfl, rfl, rfl, rfl⟩
        · rw [if_neg hki, if_neg hki, if_neg hki, if_neg hki, if_neg hki]
          exact g3 k (by omega)
    by_cases hin : i < n
    · rw [if_neg (nI_ge hin (by omega)), pk_rem (by omega) (by omega) (by omega)]
      exact ⟨nI_ne0 (by omega) (by omega), v6, v6, v6, v6, v6, ih (i + 1) _ (by omega) (go _ (by rw [if_pos hin]))⟩
    · rw [if_pos (nI_le (by omega) (by omega))]
      exact ⟨v6, v6, v6, v6, v6, ih (i + 1) _ (by omega) (go _ (by rw [if_neg hin]))⟩
theorem clear_ok {S0 : St} {n : Nat} (h3 : 3 ≤ n) (h6 : n ≤ 6) (h0 : S0.1 0 = nI n) {K : St → Prop} (hk : ∀ S, clP (sI (sI (sI (sI S0 2 0) 3 0) 4 0) 10 0) n 6 S → K S) : wp_X7_clear S0 K := by
  unfold wp_X7_clear
  refine ⟨7, ?_⟩
  have := cl_lp (S0 := sI (sI (sI (sI S0 2 0) 3 0) 4 0) 10 0) h3 h6 h0 (kx := fun Z => K Z) hk 6 0 (sI (sI (sI (sI S0 2 0) 3 0) 4 0) 10 0) (by omega) ⟨rfl, fun _ _ => rfl, fun k hk => absurd hk (Nat.not_lt_zero k)⟩
  rw [nI_0] at this
  exact this
theorem MR_anew {S0 S : St} {r : NS} {n : Nat} (h3 : 3 ≤ n) (h6 : n ≤ 6) (h0 : S0.1 0 = nI n) (h1 : S0.1 1 = nI (r.1 1)) (h : clP (sI (sI (sI (sI S0 2 0) 3 0) 4 0) 10 0) n 6 S) : MR S (anewN r n) := by
  obtain ⟨g1, g2, g3⟩ := h
  refine ⟨by rw [g1]; exact h0, by rw [g1]; exact h1, by rw [g1]; exact nI_0.symm, by rw [g1]; exact nI_0.symm, by rw [g1]; exact nI_0.symm, by rw [g1]; exact nI_0.symm, ?_, fun i hi => absurd hi (Nat.not_lt_zero i)⟩
  intro k hk
  have hk : k < n := hk
  obtain ⟨c1, c2, c3, c4, c5⟩ := g3 k (by omega)
  have q : ∀ j, (if k < 6 then 0 else r.2 j k) = 0 := fun j => if_pos (by omega)
  refine ⟨?_, ?_, ?_, ?_, ?_⟩
  · rw [c1, if_pos hk]
    unfold landI
    rw [if_pos (show (anewN r n).1 5 / 2 ^ k % 2 = 1 from bits_all n (by omega) k hk)]
    show nI ((k + 1) % n) = nI ((k + 1 + (if k < 6 then 0 else r.2 7 k)) % n)
    rw [q]
  · rw [c2]
    show _ = nI (if k < n then k else r.2 8 k)
    rw [if_pos hk]
  · rw [c3]
    show _ = nI (if k < 6 then 0 else r.2 9 k)
    rw [q, nI_0]
  · rw [c4]
    show _ = nI (if k < 6 then 0 else r.2 12 k)
    rw [q, nI_0]
  · rw [c5]
    show _ = nI (if k < 6 then 0 else r.2 11 k)
    rw [q, nI_0]
theorem sim_lands : Sim_lands Inv := by
  intro X0 X1 X2 X3 X4 X5 X6 X7 X8 M a0 hI
  obtain ⟨⟨r, rfl, hw, hm⟩, hi1, hi2, hp⟩ := id hI
  obtain ⟨m0, m1, m2, m3, m4, m10, m5, m11⟩ := id hm
  unfold wp_X6_lands wp_X7_lands
  by_cases h : F_X7_in a0 3 6 = 0
  · simp only [within_in, if_pos h]
    exact ⟨trivial, hI⟩
  · simp only [within_in, if_neg h]
    obtain ⟨n, h1, h2, rfl⟩ := inN (a := 3) (b := 6) h (by decide) (by decide) (by omega) (by omega)
    refine anew_nI h1 h2 ?_
    refine clear_ok (S0 := sI M 0 (nI n)) h1 h2 rfl (fun S hS => ?_)
    refine ⟨by rw [m0]; rfl, ⟨anewN r n, rfl, WF_anew h1 h2 ⟨hw.2.2.1, hw.2.2.2.1⟩, MR_anew (S0 := sI M 0 (nI n)) h1 h2 rfl m1 hS⟩, ?_, ?_, ?_⟩
    · exact ImR_of hi1 (hS.2.1 25 (by omega)) (hS.2.1 26 (by omega))
    · exact ImR_of hi2 (hS.2.1 25 (by omega)) (hS.2.1 26 (by omega))
    · exact PdR_of hp (by rw [hS.1]; rfl) (hS.2.1 13 (by omega))
theorem sim_init : Sim_init Inv := by
  unfold Sim_init
  have e : sI Z0 1 90 = NI ((fun i => if i = 1 then 90 else 0), fun _ _ => 0) := by
    refine Prod.ext ?_ ?_
    · funext i
      show (if i = 1 then (90 : Int32) else 0) = nI (if i = 1 then 90 else 0)
      by_cases h : i = 1
      · rw [if_pos h, if_pos h]; decide
      · rw [if_neg h, if_neg h]; exact nI_0.symm
    · funext j k; exact nI_0.symm
  rw [e, show (4 : Int32) = nI 4 by decide]
  refine anew_nI (by omega) (by omega) ?_
  refine clear_ok (S0 := sI (sI Z0 0 (nI 4)) 1 90) (n := 4) (by omega) (by omega) rfl (fun S hS => ?_)
  refine ⟨⟨_, rfl, WF_anew (by omega) (by omega) ⟨by show 1 ≤ 90; omega, by show 90 ≤ 99; omega⟩, MR_anew (S0 := sI (sI Z0 0 (nI 4)) 1 90) (by omega) (by omega) rfl (by show (90 : Int32) = nI 90; decide) hS⟩, ⟨?_, Or.inl rfl⟩, ⟨?_, Or.inl rfl⟩, 0, fun _ => 0, by omega, nI_0.symm, ?_, fun k hk => absurd hk (by omega)⟩
  · rw [hS.2.1 26 (by omega)]; rfl
  · rw [hS.2.1 26 (by omega)]; rfl
  · rw [hS.1]; exact nI_0.symm
