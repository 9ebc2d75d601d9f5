-- year
def Eq10 (r q : NS) : Prop := r.1 = q.1 ∧ ∀ j, j ≠ 10 → r.2 j = q.2 j
theorem e10_eqx {r q : NS} (h : Eq10 r q) : Eq10 (nEqx r) (nEqx q) := by
  obtain ⟨r1, r2⟩ := r
  obtain ⟨q1, q2⟩ := q
  obtain ⟨h1, h2⟩ := h
  dsimp only at h1 h2
  subst h1
  refine ⟨rfl, fun j hj => ?_⟩
  have e9 := h2 9 (by decide)
  have e7 := h2 7 (by decide)
  have ej := h2 j hj
  unfold nEqx eqAt
  dsimp only
  simp only [e9, e7, ej, hj, false_and, if_false]
theorem e10_tick {r q : NS} (h : Eq10 r q) : Eq10 (nTick r) (nTick q) := by
  refine ⟨?_, h.2⟩
  unfold nTick
  dsimp only
  rw [h.1]
theorem e10_day {r q : NS} (h : Eq10 r q) : Eq10 (nDay r) (nDay q) := by
  unfold nDay
  rw [h.1]
  split
  · exact e10_tick h
  · exact e10_eqx (e10_tick h)
theorem e10_days : ∀ m {r q : NS}, Eq10 r q → Eq10 (nDays m r) (nDays m q) := by
  intro m
  induction m with
  | zero => exact fun h => h
  | succ m ih => exact fun h => ih (e10_day h)
theorem e10_al {r q : NS} (h : Eq10 r q) (k : Nat) : alB r k = alB q k := by
  unfold alB
  rw [h.1]
theorem e10_nsA {r q : NS} (h : Eq10 r q) (j : Nat) {g g' : Nat → Nat} (hg : g = g') : Eq10 (nsA r j g) (nsA q j g') := by
  subst hg
  refine ⟨h.1, fun i hi => ?_⟩
  rw [nsA_2, nsA_2, h.2 i hi]
theorem e10_bind {r q : NS} (h : Eq10 r q) (k b : Nat) : (bindF r k b).1 = (bindF q k b).1 ∧ Eq10 (bindF r k b).2 (bindF q k b).2 := by
  unfold bindF
  rw [e10_al h, h.2 9 (by decide)]
  split
  · split
    · exact ⟨rfl, e10_nsA h 9 (by rw [h.2 9 (by decide)])⟩
    · exact ⟨rfl, h⟩
  · exact ⟨rfl, h⟩
theorem e10_hat {r q : NS} (h : Eq10 r q) (a b : Nat) : (hatF r a b).1 = (hatF q a b).1 ∧ Eq10 (hatF r a b).2 (hatF q a b).2 := by
  unfold hatF
  rw [e10_al h, e10_al h, h.1]
  split
  · split
    · split
      · exact ⟨rfl, h⟩
      · split
        · exact ⟨rfl, e10_nsA h 8 (by rw [h.2 8 (by decide)])⟩
        · exact ⟨rfl, h⟩
    · exact ⟨rfl, h⟩
  · exact ⟨rfl, h⟩
def yNext (x : Nat) : Nat := (75 * x + 74) % 65537
def yAct (r : NS) (x : Nat) : NS := if x % 8 = 0 then (bindF r (x / 8 % r.1 0) 1).2 else if x % 8 = 1 then (hatF r (x / 8 % r.1 0) (x / 64 % r.1 0)).2 else if x % 8 < 4 then nDays 10 r else nDays (r.1 1 - r.1 3) r
def yRun : Nat → Nat → NS → NS
  | 0, _, r => r
  | m + 1, x, r => yRun m (yNext x) (yAct r (yNext x))
theorem yNext_nI {x : Nat} (h : x < 65537) : ((75 : Int32) * nI x + 74) - ((75 : Int32) * nI x + 74) / 65537 * 65537 = nI (yNext x) := by
  rw [show (75 : Int32) = nI 75 by decide, show (74 : Int32) = nI 74 by decide, show (65537 : Int32) = nI 65537 by decide, pk_mul, nI_add]
  exact pk_rem (by omega) (by omega) (by omega)
theorem yNext_lt (x : Nat) : yNext x < 65537 := Nat.mod_lt _ (by omega)
theorem yAct_wf {r : NS} (hw : WF r) (x : Nat) : WF (yAct r x) := by
  have h3 := hw.1
  unfold yAct
  split
  · exact bindF_wf hw (by omega)
  · split
    · exact hatF_wf hw (Nat.mod_lt _ (by omega)) (Nat.mod_lt _ (by omega))
    · split
      · exact nDays_wf _ hw
      · exact nDays_wf _ hw
theorem yAct_10 {r q : NS} (h : Eq10 r q) (x : Nat) : Eq10 (yAct r x) (yAct q x) := by
  unfold yAct
  rw [h.1]
  split
  · exact (e10_bind h _ _).2
  · split
    · exact (e10_hat h _ _).2
    · split
      · exact e10_days _ h
      · exact e10_days _ h
theorem yRun_wf : ∀ m x {r : NS}, WF r → WF (yRun m x r) := by
  intro m
  induction m with
  | zero => exact fun x r h => h
  | succ m ih => exact fun x r h => ih _ (yAct_wf h _)
theorem yRun_10 : ∀ m x {r q : NS}, Eq10 r q → Eq10 (yRun m x r) (yRun m x q) := by
  intro m
  induction m with
  | zero => exact fun x r q h => h
  | succ m ih => exact fun x r q h => ih _ (yAct_10 h _)
theorem drawX {r : NS} (hw : WF r) {x : Nat} (hx : x < 65537) {K : St → Prop} (hK : K (NI (yAct r x))) : wp_X6_drawAct (NI r) (nI x) K := by
  have h3 := hw.1
  have h6 := hw.2.1
  have m8 := Nat.mod_lt x (show 0 < 8 by omega)
  have l1 := Nat.mod_lt (x / 8) (show 0 < r.1 0 by omega)
  have l2 := Nat.mod_lt (x / 64) (show 0 < r.1 0 by omega)
  have e8 : (8 : Int32) = nI 8 := by decide
  have c0 : nI (x % 8) = 0 ↔ x % 8 = 0 := by rw [show (0 : Int32) = nI 0 from nI_0.symm]; exact nI_eq (by omega) (by omega)
  have c1 : nI (x % 8) = 1 ↔ x % 8 = 1 := by rw [i1]; exact nI_eq (by omega) (by omega)
  have c2 : nI (x % 8) = 2 ↔ x % 8 = 2 := by rw [i2]; exact nI_eq (by omega) (by omega)
  have c3 : nI (x % 8) = 3 ↔ x % 8 = 3 := by rw [show (3 : Int32) = nI 3 by decide]; exact nI_eq (by omega) (by omega)
  unfold wp_X6_drawAct
  rw [e8, pk_rem (by omega) (by omega) (by omega), pk_div (by omega) (by omega) (by omega), show (64 : Int32) = nI 64 by decide, pk_div (by omega) (by omega) (by omega), NI_1, left_nI (by omega) (by omega) (by omega), left_nI (by omega) (by omega) (by omega)]
  unfold yAct at hK
  by_cases z0 : x % 8 = 0
  · rw [if_pos z0] at hK
    rw [if_pos (c0.2 z0)]
    exact bindX hw l1 i1 (K := fun _ Z => K Z) hK
  · rw [if_neg z0] at hK
    rw [if_neg (fun y => z0 (c0.1 y))]
    by_cases z1 : x % 8 = 1
    · rw [if_pos z1] at hK
      rw [if_pos (c1.2 z1)]
      exact hatX hw l1 l2 (K := fun _ Z => K Z) hK
    · rw [if_neg z1] at hK
      rw [if_neg (fun y => z1 (c1.1 y))]
      by_cases z2 : x % 8 = 2
      · rw [if_pos (by omega)] at hK
        rw [if_pos (c2.2 z2)]
        exact daysX (m := 10) (by decide) (by omega) hw hK
      · rw [if_neg (fun y => z2 (c2.1 y))]
        by_cases z3 : x % 8 = 3
        · rw [if_pos (by omega)] at hK
          rw [if_pos (c3.2 z3)]
          exact daysX (m := 10) (by decide) (by omega) hw hK
        · rw [if_neg (by omega)] at hK
          rw [if_neg (fun y => z3 (c3.1 y))]
          exact seasonX hw hK
theorem yrX {K : St → Prop} {x2 : Nat} (h2 : x2 ≤ 99) : ∀ (m i x : Nat) (r : NS), i + m = x2 → x < 65537 → WF r → K (NI (yRun m x r)) → wl_X6_drawYear_16 (nI x2) K (m + 1) (nI x) (nI i) (NI r) := by
  intro m
  induction m with
  | zero =>
    intro i x r hi hx hw hK
    unfold wl_X6_drawYear_16
    rw [show i = x2 by omega, if_pos (Int32.le_refl _)]
    exact hK
  | succ m ih =>
    intro i x r hi hx hw hK
    unfold wl_X6_drawYear_16
    rw [if_neg (nI_ge (show i < x2 by omega) (by omega)), yNext_nI hx, nI_1]
    exact drawX hw (yNext_lt x) (ih (i + 1) (yNext x) (yAct r (yNext x)) (by omega) (yNext_lt x) (yAct_wf hw _) hK)
theorem TR_19 {M0 M : St} {r : NS} {a c k b : Nat} (h : TR M0 M r a c) (hk : k < r.1 0) {x : Int32} (hx : x = nI b) : TR M0 (sA M 19 (upd (M.2 19) k x)) (nBind r k b) a c := by
  obtain ⟨k1, k2, k3, k4, k5, k6, k7⟩ := h
  refine ⟨kp1 k1 _ (by omega) (by omega), k2, k3, k4, k5, k6, fun j hj => ?_⟩
  obtain ⟨g1, g2, g3, g4⟩ := k7 j hj
  refine ⟨g1, g2, ?_, g4⟩
  show upd (M.2 19) k x j = nI (nup (r.2 9) k b j)
  unfold upd nup
  by_cases e : j = k
  · rw [if_pos e, if_pos e]
    exact hx
  · rw [if_neg e, if_neg e]
    exact g3
theorem TR_19s {M0 M : St} {r : NS} {a c k : Nat} (h : TR M0 M r a c) : TR M0 (sA M 19 (upd (M.2 19) k (M.2 19 k))) r a c := by
  obtain ⟨k1, k2, k3, k4, k5, k6, k7⟩ := h
  refine ⟨kp1 k1 _ (by omega) (by omega), k2, k3, k4, k5, k6, fun j hj => ?_⟩
  obtain ⟨g1, g2, g3, g4⟩ := k7 j hj
  refine ⟨g1, g2, ?_, g4⟩
  show upd (M.2 19) k (M.2 19 k) j = _
  unfold upd
  by_cases e : j = k
  · rw [if_pos e, ← e]
    exact g3
  · rw [if_neg e]
    exact g3
theorem TR_18 {M0 M : St} {r : NS} {a c k l : Nat} (h : TR M0 M r a c) (hk : k < r.1 0) (hl : l < r.1 0) : TR M0 (sA (sA M 18 (upd (M.2 18) k (M.2 18 l))) 18 (upd (upd (M.2 18) k (M.2 18 l)) l (M.2 18 k))) (nSwap r k l) a c := by
  obtain ⟨k1, k2, k3, k4, k5, k6, k7⟩ := h
  refine ⟨kp1 (kp1 k1 _ (by omega) (by omega)) _ (by omega) (by omega), k2, k3, k4, k5, k6, fun j hj => ?_⟩
  obtain ⟨g1, g2, g3, g4⟩ := k7 j hj
  refine ⟨g1, ?_, g3, g4⟩
  show _ = nI (nup (nup (r.2 8) k (r.2 8 l)) l (r.2 8 k) j)
  show upd (upd (M.2 18) k (M.2 18 l)) l (M.2 18 k) j = _
  unfold upd nup
  by_cases e : j = l
  · rw [if_pos e, if_pos e]
    exact (k7 k hk).2.1
  · rw [if_neg e, if_neg e]
    by_cases e2 : j = k
    · rw [if_pos e2, if_pos e2]
      exact (k7 l hl).2.1
    · rw [if_neg e2, if_neg e2]
      exact g2
theorem bF_n {r : NS} {k b : Nat} (h : (bindF r k b).1 ≠ 0) : (bindF r k b).2 = r := by
  unfold bindF at h ⊢
  split
  · rename_i hl
    rw [if_pos hl] at h
    split
    · rename_i h9
      rw [if_pos h9] at h
      exact absurd rfl h
    · rfl
  · rfl
theorem hF_n {r : NS} {a b : Nat} (h : (hatF r a b).1 ≠ 0) : (hatF r a b).2 = r := by
  unfold hatF at h ⊢
  split
  · rename_i h1
    rw [if_pos h1] at h
    split
    · rename_i h2
      rw [if_pos h2] at h
      split
      · rfl
      · rename_i h3
        rw [if_neg h3] at h
        split
        · rename_i h4
          rw [if_pos h4] at h
          exact absurd rfl h
        · rfl
    · rfl
  · rfl
theorem bF_4 (r : NS) (k b : Nat) : (bindF r k b).1 ≤ 4 := by
  unfold bindF
  repeat' split
  all_goals exact Nat.le_of_ble_eq_true rfl
theorem hF_4 (r : NS) (k b : Nat) : (hatF r k b).1 ≤ 4 := by
  unfold hatF
  repeat' split
  all_goals exact Nat.le_of_ble_eq_true rfl
theorem yAct_I (r : NS) (x : Nat) : (yAct r x).1 0 = r.1 0 ∧ (yAct r x).1 1 = r.1 1 := by
  unfold yAct
  split
  · unfold bindF
    repeat' split
    all_goals exact ⟨rfl, rfl⟩
  · split
    · unfold hatF
      repeat' split
      all_goals exact ⟨rfl, rfl⟩
    · split
      · exact ⟨nDays_n _ _, nDays_l _ _⟩
      · exact ⟨nDays_n _ _, nDays_l _ _⟩
theorem yrM {M0 : St} {n L : Nat} (h0 : M0.1 0 = nI n) (h1 : M0.1 1 = nI L) {K : St → Prop} {x2 a c : Nat} (h2 : x2 ≤ 99) : ∀ (m i x : Nat) (r : NS) (M : St), i + m = x2 → x < 65537 → WF r → r.1 0 = n → r.1 1 = L → TR M0 M r a c → (∀ N, TR M0 N (yRun m x r) a c → K N) → wl_X7_year_43 (nI x2) K (m + 1) (nI x) (nI i) M := by
  intro m
  induction m with
  | zero =>
    intro i x r M hi hx hw hr hL hT hK
    unfold wl_X7_year_43
    rw [show i = x2 by omega, if_pos (Int32.le_refl _)]
    exact hK M hT
  | succ m ih =>
    intro i x r M hi hx hw hr hL hT hK
    have h3 := hw.1
    have h6 := hw.2.1
    obtain ⟨w0, w1, w2, w3, w4, -⟩ := id hw
    obtain ⟨k1, k2, k3, k4, k5, k6, k7⟩ := id hT
    have hX := yNext_lt x
    have nx := yNext_nI hx
    obtain ⟨aI, aL⟩ := yAct_I r (yNext x)
    have go := fun N (hN : TR M0 N (yAct r (yNext x)) a c) => ih (i + 1) (yNext x) (yAct r (yNext x)) N (by omega) hX (yAct_wf hw _) (aI.trans hr) (aL.trans hL) hN hK
    clear hK ih aI aL
    unfold wl_X7_year_43
    rw [if_neg (nI_ge (show i < x2 by omega) (by omega)), nx, nI_1]
    clear nx
    generalize yNext x = X at *
    have m8 := Nat.mod_lt X (show 0 < 8 by omega)
    have l1 := Nat.mod_lt (X / 8) (show 0 < r.1 0 by omega)
    have l2 := Nat.mod_lt (X / 64) (show 0 < r.1 0 by omega)
    have c0 : nI (X % 8) = 0 ↔ X % 8 = 0 := by rw [show (0 : Int32) = nI 0 from nI_0.symm]; exact nI_eq (by omega) (by omega)
    have c1 : nI (X % 8) = 1 ↔ X % 8 = 1 := by rw [i1]; exact nI_eq (by omega) (by omega)
    have eM : M.1 0 = nI (r.1 0) := by rw [k1.1 0 (by omega), h0, hr]
    have nz : ¬ nI (r.1 0) = 0 := nI_ne0 (by omega) (by omega)
    rw [show (8 : Int32) = nI 8 by decide, pk_rem (a := X) (d := 8) (by omega) (by omega) (by omega), pk_div (a := X) (d := 8) (by omega) (by omega) (by omega), show (64 : Int32) = nI 64 by decide, pk_div (a := X) (d := 64) (by omega) (by omega) (by omega), eM, pk_rem (a := X / 8) (by omega) (by omega) (by omega), pk_rem (a := X / 64) (by omega) (by omega) (by omega)]
    refine ⟨nz, nz, ?_⟩
    have ck : (nI (X / 8 % r.1 0)).toNatClampNeg = X / 8 % r.1 0 := clamp_nI (by omega)
    have cl : (nI (X / 64 % r.1 0)).toNatClampNeg = X / 64 % r.1 0 := clamp_nI (by omega)
    have v6 : vp_in (nI (X / 8 % r.1 0)) 6 := vp6 (by omega)
    have v6' : vp_in (nI (X / 64 % r.1 0)) 6 := vp6 (by omega)
    unfold yAct at go
    by_cases z0 : X % 8 = 0
    · rw [if_pos z0] at go
      rw [if_pos (c0.2 z0), ck, show (115 : Int32) = nI 115 by decide]
      refine whyM hT hw l1 (s := 115) (by omega) (by omega) ?_
      rw [show fate r (X / 8 % r.1 0) 115 = bindF r (X / 8 % r.1 0) 1 from rfl]
      by_cases hz : (bindF r (X / 8 % r.1 0) 1).1 = 0
      · rw [hz, nI_0, if_pos rfl]
        rw [bF_0 hz] at go
        exact ⟨v6, go _ (TR_19 hT l1 i1)⟩
      · obtain ⟨y1, y2, y3⟩ := t_code _ (Nat.lt_succ_of_le (bF_4 r (X / 8 % r.1 0) 1)) hz
        rw [if_neg y3]
        rw [bF_n hz] at go
        exact ⟨v6, v6, go _ (TR_19s hT)⟩
    · rw [if_neg z0] at go
      rw [if_neg (fun y => z0 (c0.1 y))]
      by_cases z1 : X % 8 = 1
      · rw [if_pos z1] at go
        rw [if_pos (c1.2 z1)]
        refine whyHM hT hw l1 l2 ?_
        by_cases hz : (hatF r (X / 8 % r.1 0) (X / 64 % r.1 0)).1 = 0
        · rw [hz, nI_0, if_pos rfl]
          rw [fs_h hz] at go
          unfold wp_X7_hats
          refine ⟨v6, v6', v6, v6', ?_⟩
          rw [ck, cl]
          exact go _ (TR_18 hT l1 l2)
        · obtain ⟨y1, y2, y3⟩ := t_code _ (Nat.lt_succ_of_le (hF_4 r (X / 8 % r.1 0) (X / 64 % r.1 0))) hz
          rw [if_neg y3]
          rw [hF_n hz] at go
          exact go _ hT
      · rw [if_neg z1] at go
        rw [if_neg (fun y => z1 (c1.1 y))]
        by_cases z4 : X % 8 < 4
        · rw [if_pos z4] at go
          rw [if_neg (by rw [show (4 : Int32) = nI 4 by decide]; exact nI_ge z4 (by omega))]
          exact daysM (m := 10) (by decide) (by omega) hw (by rw [hr]; exact h0) (by rw [hL]; exact h1) hT go
        · rw [if_neg z4] at go
          rw [if_pos (by rw [show (4 : Int32) = nI 4 by decide]; exact nI_le (by omega) (by omega))]
          refine daysM (m := r.1 1 - r.1 3) ?_ (by omega) hw (by rw [hr]; exact h0) (by rw [hL]; exact h1) hT go
          rw [k1.1 1 (by omega), h1, k4, ← hL]
          exact pk_sub (by omega)
