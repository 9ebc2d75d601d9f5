-- the reference's days
def sc (M : St) (n : Nat) (r : NS) (i : Nat) (a c : Nat) : Prop := M.1 14 = nI (r.1 2) ∧ M.1 15 = nI (r.1 4) ∧ M.1 21 = nI c ∧ M.1 22 = nI a ∧ ∀ k, k < n → M.2 17 k = landI (eqAt r i) k ∧ M.2 18 k = nI (r.2 8 k) ∧ M.2 19 k = nI ((eqAt r i).2 9 k) ∧ M.2 20 k = nI ((eqAt r i).2 10 k)
theorem landI_ne (r : NS) {i k : Nat} (h : ¬ k = i) : landI (eqAt r (i + 1)) k = landI (eqAt r i) k := by
  unfold landI
  rw [← eqAt_ne r 7 h]
  rfl
theorem sc_1 {M : St} {n : Nat} {r : NS} {i a c : Nat} (h : sc M n r i a c) (v : Int32) (e : v = nI ((eqAt r (i + 1)).2 9 i)) (e7 : landI (eqAt r (i + 1)) i = landI (eqAt r i) i) (e10 : (eqAt r (i + 1)).2 10 i = (eqAt r i).2 10 i) : sc (sA M 19 (upd (M.2 19) i v)) n r (i + 1) a c := by
  obtain ⟨h1, h2, h3, h4, h5⟩ := h
  refine ⟨h1, h2, h3, h4, fun k hk => ?_⟩
  obtain ⟨g1, g2, g3, g4⟩ := h5 k hk
  by_cases hi : k = i
  · subst hi
    refine ⟨g1.trans e7.symm, g2, ?_, by rw [e10]; exact g4⟩
    show upd (M.2 19) k v k = _
    unfold upd
    rw [if_pos rfl]
    exact e
  · refine ⟨g1.trans (landI_ne r hi).symm, g2, ?_, by rw [← eqAt_ne r 10 hi]; exact g4⟩
    show upd (M.2 19) i v k = _
    unfold upd
    rw [if_neg hi, ← eqAt_ne r 9 hi]
    exact g3
theorem sc_3 {M : St} {n : Nat} {r : NS} {i a c : Nat} (h : sc M n r i a c) (u w v : Int32) (e17 : u = landI (eqAt r (i + 1)) i) (e20 : w = nI ((eqAt r (i + 1)).2 10 i)) (e : v = nI ((eqAt r (i + 1)).2 9 i)) : sc (sA (sA (sA M 17 (upd (M.2 17) i u)) 20 (upd (M.2 20) i w)) 19 (upd (M.2 19) i v)) n r (i + 1) a c := by
  obtain ⟨h1, h2, h3, h4, h5⟩ := h
  refine ⟨h1, h2, h3, h4, fun k hk => ?_⟩
  obtain ⟨g1, g2, g3, g4⟩ := h5 k hk
  show upd (M.2 17) i u k = _ ∧ M.2 18 k = _ ∧ upd (M.2 19) i v k = _ ∧ upd (M.2 20) i w k = _
  unfold upd
  by_cases hi : k = i
  · subst hi
    rw [if_pos rfl, if_pos rfl, if_pos rfl]
    exact ⟨e17, g2, e, e20⟩
  · rw [if_neg hi, if_neg hi, if_neg hi, landI_ne r hi, ← eqAt_ne r 9 hi, ← eqAt_ne r 10 hi]
    exact ⟨g1, g2, g3, g4⟩
theorem kp1 {M0 M : St} (h : Keep M0 M) {j : Nat} (f : Nat → Int32) (h1 : 14 ≤ j) (h2 : j < 25) : Keep M0 (sA M j f) := h.trans (Keep.sA M h1 h2 f)
theorem kpI {M0 M : St} (h : Keep M0 M) {j : Nat} (v : Int32) (h1 : 14 ≤ j) : Keep M0 (sI M j v) := h.trans (Keep.sI M h1 v)
theorem t_mv0 : ∀ n, n < 7 → 3 ≤ n → ∀ k, k < n → ∀ p, p < n - 1 → (if (nI ((k + 1 + p) % n) + 1) - (nI ((k + 1 + p) % n) + 1) / nI n * nI n = nI k then (nI k + 1) - (nI k + 1) / nI n * nI n else (nI ((k + 1 + p) % n) + 1) - (nI ((k + 1 + p) % n) + 1) / nI n * nI n) = nI ((k + 1 + (p + 1) % (n - 1)) % n) := by decide +kernel
theorem t_mv {n k p : Nat} (h1 : n < 7) (h2 : 3 ≤ n) (h3 : k < n) (h4 : p < n - 1) : ((nI ((k + 1 + p) % n) + 1) - (nI ((k + 1 + p) % n) + 1) / nI n * nI n = nI k → (nI k + 1) - (nI k + 1) / nI n * nI n = nI ((k + 1 + (p + 1) % (n - 1)) % n)) ∧ (¬ (nI ((k + 1 + p) % n) + 1) - (nI ((k + 1 + p) % n) + 1) / nI n * nI n = nI k → (nI ((k + 1 + p) % n) + 1) - (nI ((k + 1 + p) % n) + 1) / nI n * nI n = nI ((k + 1 + (p + 1) % (n - 1)) % n)) := by
  have h := t_mv0 n h1 h2 k h3 p h4
  refine ⟨fun x => ?_, fun x => ?_⟩
  · rw [if_pos x] at h; exact h
  · rw [if_neg x] at h; exact h
theorem landI_at (r : NS) (i k : Nat) : landI (eqAt r i) k = if r.1 5 / 2 ^ k % 2 = 1 then nI ((k + 1 + (eqAt r i).2 7 k) % r.1 0) else -6 := rfl
theorem eqM_lp {M0 : St} {r : NS} (hw : WF (nsI r 3 0)) (h0 : M0.1 0 = nI (r.1 0)) {K : St → Prop} {a c : Nat} (hK : ∀ N, Keep M0 N → sc N (r.1 0) r (r.1 0) a c → K N) : ∀ n i M, i + n = r.1 0 → Keep M0 M → sc M (r.1 0) r i a c → wl_X7_equinox_2 K (n + 1) (nI i) M := by
  have w0 : 3 ≤ r.1 0 := hw.1
  have w1 : r.1 0 ≤ 6 := hw.2.1
  have w7 : arr r := hw.2.2.2.2.2.2.2.1
  intro n
  induction n with
  | zero =>
    intro i M hi hk hs
    unfold wl_X7_equinox_2
    rw [hk.1 0 (by omega), h0, show i = r.1 0 by omega, if_pos (Int32.le_refl _)]
    have e : i = r.1 0 := by omega
    subst e
    exact hK M hk hs
  | succ n ih =>
    intro i M hi hk hs
    have hir : i < r.1 0 := by omega
    obtain ⟨p7, -, p9, -, -⟩ := w7 i hir
    obtain ⟨g1, g2, g3, g4⟩ := hs.2.2.2.2 i hir
    have v6 : vp_in (nI i) 6 := vp6 (by omega)
    rw [eqAt_get _ _ _ (by omega)] at g3 g4
    have hl : landI (eqAt r i) i = landI r i := by
      unfold landI
      rw [eqAt_get _ _ _ (by omega)]
      rfl
    rw [hl] at g1
    have ci : (nI i).toNatClampNeg = i := clamp_nI (by omega)
    have nz : ¬ M.1 0 = 0 := by rw [hk.1 0 (by omega), h0]; exact nI_ne0 (by omega) (by omega)
    have n1 : (nI (r.2 9 i) = 1) ↔ r.2 9 i = 1 := by rw [i1]; exact nI_eq (by omega) (by omega)
    unfold wl_X7_equinox_2
    rw [hk.1 0 (by omega), h0, ci, g1, g3, g4, nI_1, if_neg (nI_ge hir (by omega))]
    rw [hk.1 0 (by omega), h0] at nz
    refine ⟨v6, ?_⟩
    have same1 : r.2 9 i = 1 → ∀ v, v = (0 : Int32) → wl_X7_equinox_2 K (n + 1) (nI (i + 1)) (sA M 19 (upd (M.2 19) i v)) := by
      intro h1 v hv
      refine ih (i + 1) _ (by omega) (kp1 hk _ (by omega) (by omega)) (sc_1 hs v ?_ ?_ ?_)
      · rw [hv, eqAt_9, if_pos h1, nI_0]
      · rw [hl]
        rw [landI_at, eqAt_7, if_neg (show ¬ (r.2 9 i = 0 ∧ r.1 5 / 2 ^ i % 2 = 1) from fun x => by rw [h1] at x; exact absurd x.1 (by decide))]
        rfl
      · rw [eqAt_10, if_neg (by omega), eqAt_get _ _ _ (by omega)]
    have samen : ¬ r.2 9 i = 1 → ¬ (r.2 9 i = 0 ∧ r.1 5 / 2 ^ i % 2 = 1) → wl_X7_equinox_2 K (n + 1) (nI (i + 1)) (sA M 19 (upd (M.2 19) i (nI (r.2 9 i)))) := by
      intro h1 h0
      refine ih (i + 1) _ (by omega) (kp1 hk _ (by omega) (by omega)) (sc_1 hs _ ?_ ?_ ?_)
      · rw [eqAt_9, if_neg h1]
      · rw [hl]
        rw [landI_at, eqAt_7, if_neg h0]
        rfl
      · rw [eqAt_10, if_neg h0, eqAt_get _ _ _ (by omega)]
    by_cases hal : r.1 5 / 2 ^ i % 2 = 1
    · have hland : landI r i = nI ((i + 1 + r.2 7 i) % r.1 0) := by
        unfold landI
        rw [if_pos hal]
      have hlt := Nat.mod_lt (i + 1 + r.2 7 i) (show 0 < r.1 0 by omega)
      rw [hland, if_neg (nI_pos (by omega))]
      refine ⟨v6, ?_⟩
      by_cases hz : r.2 9 i = 0
      · rw [if_pos (by rw [hz, nI_0])]
        have go : ∀ u, u = nI ((i + 1 + (r.2 7 i + 1) % (r.1 0 - 1)) % r.1 0) → wl_X7_equinox_2 K (n + 1) (nI (i + 1)) (sA (sA (sA M 17 (upd (M.2 17) i u)) 20 (upd (M.2 20) i (nI (r.2 10 i) + 1))) 19 (upd (M.2 19) i (nI (r.2 9 i)))) := by
          intro u hu
          refine ih (i + 1) _ (by omega) (kp1 (kp1 (kp1 hk _ (by omega) (by omega)) _ (by omega) (by omega)) _ (by omega) (by omega)) (sc_3 hs _ _ _ ?_ ?_ ?_)
          · rw [hu]
            rw [landI_at, if_pos hal, eqAt_7, if_pos ⟨hz, hal⟩]
          · rw [eqAt_10, if_pos ⟨hz, hal⟩, nI_1]
          · rw [eqAt_9, if_neg (by omega)]
        have tm := t_mv (n := r.1 0) (k := i) (p := r.2 7 i) (by omega) w0 hir p7
        have n1' : ¬ nI (r.2 9 i) = 1 := fun x => by rw [n1.1 x] at hz; exact absurd hz (by decide)
        refine ⟨v6, nz, ?_⟩
        by_cases hmv : (nI ((i + 1 + r.2 7 i) % r.1 0) + 1) - (nI ((i + 1 + r.2 7 i) % r.1 0) + 1) / nI (r.1 0) * nI (r.1 0) = nI i
        · rw [nI_1] at hmv
          rw [nI_1, if_pos hmv]
          refine ⟨nz, v6, v6, v6, v6, ?_⟩
          rw [if_neg n1']
          rw [nI_1, nI_1] at tm
          exact ⟨v6, v6, go _ (tm.1 hmv)⟩
        · rw [nI_1] at hmv
          rw [nI_1, if_neg hmv]
          refine ⟨v6, nz, v6, v6, v6, v6, ?_⟩
          rw [if_neg n1']
          rw [nI_1, nI_1] at tm
          exact ⟨v6, v6, go _ (tm.2 hmv)⟩
      · rw [if_neg (nI_ne0 (by omega) (by omega))]
        refine ⟨v6, ?_⟩
        by_cases h1 : r.2 9 i = 1
        · rw [if_pos (n1.2 h1)]
          exact ⟨v6, same1 h1 0 rfl⟩
        · rw [if_neg (fun x => h1 (n1.1 x))]
          exact ⟨v6, v6, samen h1 (fun x => hz x.1)⟩
    · have hland : landI r i = -6 := by
        unfold landI
        rw [if_neg hal]
      rw [hland, if_pos (by decide)]
      refine ⟨v6, ?_⟩
      by_cases h1 : r.2 9 i = 1
      · rw [if_pos (n1.2 h1)]
        exact ⟨v6, same1 h1 0 rfl⟩
      · rw [if_neg (fun x => h1 (n1.1 x))]
        exact ⟨v6, v6, samen h1 (fun x => hal x.2)⟩
/-- the reference in the middle of the years -/
def TR (M0 M : St) (r : NS) (a c : Nat) : Prop := Keep M0 M ∧ M.1 14 = nI (r.1 2) ∧ M.1 15 = nI (r.1 4) ∧ M.1 16 = nI (r.1 3) ∧ M.1 21 = nI c ∧ M.1 22 = nI a ∧ ∀ k, k < r.1 0 → M.2 17 k = landI r k ∧ M.2 18 k = nI (r.2 8 k) ∧ M.2 19 k = nI (r.2 9 k) ∧ M.2 20 k = nI (r.2 10 k)
theorem eqM {M0 M : St} {r : NS} (hw : WF (nsI r 3 0)) (h0 : M0.1 0 = nI (r.1 0)) {K : St → Prop} {a c : Nat} (hk : Keep M0 M) (h14 : M.1 14 = nI (r.1 2)) (h15 : M.1 15 = nI (r.1 4)) (h21 : M.1 21 = nI c) (h22 : M.1 22 = nI a) (hA : ∀ k, k < r.1 0 → M.2 17 k = landI r k ∧ M.2 18 k = nI (r.2 8 k) ∧ M.2 19 k = nI (r.2 9 k) ∧ M.2 20 k = nI (r.2 10 k)) (hK : ∀ N, TR M0 N (nEqx r) a c → K N) : wp_X7_equinox M K := by
  unfold wp_X7_equinox
  have key := eqM_lp (M0 := M0) hw h0 (K := fun Z21 => K (sI (sI Z21 15 (Z21.1 15 + 1)) 16 0)) (a := a) (c := c) (fun N hkN hs => by
    obtain ⟨g1, g2, g3, g4, g5⟩ := hs
    refine hK _ ⟨kpI (kpI hkN _ (by omega)) _ (by omega), g1, ?_, nI_0.symm, g3, g4, fun k hk => ?_⟩
    · show N.1 15 + 1 = nI (r.1 4 + 1)
      rw [g2, nI_1]
    · obtain ⟨e1, e2, e3, e4⟩ := g5 k hk
      refine ⟨e1, ?_, e3, e4⟩
      rw [show (nEqx r).2 8 k = r.2 8 k from eqAt_o r _ k (by decide) (by decide) (by decide)]
      exact e2) (r.1 0) 0 M (by omega) hk ⟨h14, h15, h21, h22, fun k hk => by
      obtain ⟨e1, e2, e3, e4⟩ := hA k hk
      refine ⟨?_, e2, ?_, ?_⟩
      · rw [landI_at, eqAt_get _ _ _ (by omega)]
        exact e1
      · rw [eqAt_get _ _ _ (by omega)]
        exact e3
      · rw [eqAt_get _ _ _ (by omega)]
        exact e4⟩
  rw [nI_0] at key
  exact ⟨_, key⟩
theorem nDay_n (r : NS) : (nDay r).1 0 = r.1 0 := by
  unfold nDay
  split <;> rfl
theorem nDay_l (r : NS) : (nDay r).1 1 = r.1 1 := by
  unfold nDay
  split <;> rfl
theorem dyM {M0 : St} {K : St → Prop} {a c x : Nat} (hx : x ≤ 1000) : ∀ (m i : Nat) (M : St) (r : NS), i + m = x → WF r → M0.1 0 = nI (r.1 0) → M0.1 1 = nI (r.1 1) → TR M0 M r a c → (∀ N, TR M0 N (nDays m r) a c → K N) → wl_X7_days_2 (nI x) K (m + 1) (nI i) M := by
  intro m
  induction m with
  | zero =>
    intro i M r hi hw h0 h1 hT hK
    unfold wl_X7_days_2
    rw [show i = x by omega, if_pos (Int32.le_refl _)]
    exact hK M hT
  | succ m ih =>
    intro i M r hi hw h0 h1 hT hK
    obtain ⟨hk, h14, h15, h16, h21, h22, hA⟩ := id hT
    obtain ⟨w0, w1, w2, w3, w4, -⟩ := id hw
    have hd := fun (N : St) (g : TR M0 N (nDay r) a c) => ih (i + 1) N (nDay r) (by omega) (nDay_wf hw) (by rw [nDay_n]; exact h0) (by rw [nDay_l]; exact h1) g hK
    have kk : Keep M0 (sI (sI M 14 (M.1 14 + 1)) 16 (M.1 16 + 1)) := kpI (kpI hk _ (by omega)) _ (by omega)
    have e14 : M.1 14 + 1 = nI (r.1 2 + 1) := by rw [h14, nI_1]
    have e16 : M.1 16 + 1 = nI (r.1 3 + 1) := by rw [h16, nI_1]
    unfold wl_X7_days_2
    rw [if_neg (nI_ge (show i < x by omega) (by omega)), nI_1, hk.1 1 (by omega), h1]
    by_cases h : r.1 3 + 1 < r.1 1
    · have en : nDay r = nTick r := by unfold nDay; rw [if_pos h]
      rw [if_neg (by rw [e16, nI_eq (by omega) (by omega)]; omega)]
      refine hd _ ?_
      rw [en]
      exact ⟨kk, e14, h15, e16, h21, h22, hA⟩
    · have en : nDay r = nEqx (nTick r) := by unfold nDay; rw [if_neg h]
      rw [if_pos (by rw [e16, nI_eq (by omega) (by omega)]; omega)]
      rw [en] at hd
      exact eqM (r := nTick r) (tick_w3 hw) h0 kk e14 h15 h21 h22 hA hd
theorem daysM {M0 M : St} {r : NS} {m a c : Nat} {x : Int32} (hx : x = nI m) (hm : m ≤ 1000) (hw : WF r) (h0 : M0.1 0 = nI (r.1 0)) (h1 : M0.1 1 = nI (r.1 1)) (hT : TR M0 M r a c) {K : St → Prop} (hK : ∀ N, TR M0 N (nDays m r) a c → K N) : wp_X7_days M x K := by
  subst hx
  unfold wp_X7_days
  have key := dyM (M0 := M0) (K := K) (a := a) (c := c) hm m 0 M r (by omega) hw h0 h1 hT hK
  rw [nI_0] at key
  exact ⟨_, key⟩
