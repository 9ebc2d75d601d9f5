-- deals: the reference's rows
theorem MRk {M N : St} {r : NS} (h : MR M r) (k : Keep M N) : MR N r :=
  MR_of h (k.1 0 (by omega)) (k.1 1 (by omega)) (k.1 2 (by omega)) (k.1 3 (by omega)) (k.1 4 (by omega)) (k.1 10 (by omega)) (k.2.1 5 (by omega)) (k.2.1 6 (by omega)) (k.2.1 7 (by omega)) (k.2.1 8 (by omega)) (k.2.1 9 (by omega)) (k.2.1 11 (by omega))
def dD (r : NS) (k : Nat) : Nat := if alB r k = true then 7 else 6
def dA (r : NS) : Nat → Bool := bts (livN r (r.1 0))
def rfK (D : Nat → Nat) (A : Nat → Bool) : Nat → Nat → Nat → Bool
  | 0, _, _ => true
  | j + 1, p, u => if D j = 7 then (A (p % 7) && (decide (u / 2 ^ (p % 7) % 2 = 0) && rfK D A j (p / 7) (setB u (p % 7)))) else (decide (p % 7 = 6) && rfK D A j (p / 7) u)
theorem dl_no {kx : Int32 → St → Prop} {S : St} (h : kx 0 S) (s : Nat) (a b y : Int32) : wl_X7_deals_15 kx (s + 1) a b 0 y S := by
  unfold wl_X7_deals_15
  by_cases l : y < 0
  · rw [if_pos l]
    exact h
  · rw [if_neg l, if_pos rfl]
    exact h
theorem dA_t {r : NS} (hw : WF r) {q : Nat} (hq : q < 6) : F_X7_has (nI (livN r (r.1 0))) (nI q) = 0 ↔ ¬ dA r q = true := by
  obtain ⟨l1, -⟩ := livN_ok hw (r.1 0) (Nat.le_refl _)
  rw [has_b l1 hq]
  unfold dA
  rw [bts_t]
  exact ⟨fun h y => h y.2, fun h y => h ⟨hq, y⟩⟩
theorem dl_lp {P : St → Prop} {r : NS} (hw : WF r) (hmP : ∀ S, P S → MR S r) (hP : ∀ S f, P S → P (sA S 23 f)) {kx : Int32 → St → Prop} : ∀ (j p u : Nat) (y : Int32) (S : St), j ≤ r.1 0 → p < 2 ^ 30 → u < 64 → y = nI j - 1 → P S → (rfK (dD r) (dA r) j p u = true → ∀ S', P S' → (∀ k, k < j → S'.2 23 k = nI (dg j p k)) → (∀ k, j ≤ k → S'.2 23 k = S.2 23 k) → kx 1 S') → (¬ rfK (dD r) (dA r) j p u = true → ∀ S', P S' → kx 0 S') → wl_X7_deals_15 kx (j + 1) (nI p) (nI u) 1 y S := by
  have h6 := hw.2.1
  have e7 : (7 : Int32) = nI 7 := by decide
  have e6 : (6 : Int32) = nI 6 := by decide
  intro j
  induction j with
  | zero =>
    intro p u y S _ hp hu hy hS h1 h0
    unfold wl_X7_deals_15
    rw [if_pos (by rw [hy]; decide)]
    exact h1 rfl S hS (fun k hk => absurd hk (by omega)) (fun _ _ => rfl)
  | succ j ih =>
    intro p u y S hj hp hu hy hS h1 h0
    have hy : y = nI j := by rw [hy]; exact pk_sub (a := j + 1) (b := 1) (by omega)
    subst hy
    have hmS := hmP S hS
    have exy : ∃ y1 : Int32, y1 = nI j + (-1) := ⟨_, rfl⟩
    obtain ⟨y1, ey⟩ := exy
    have ey2 : y1 = nI j - 1 := by rw [ey, Int32.sub_eq_add_neg]
    obtain ⟨a1, -⟩ := hmS.2.2.2.2.2.2.1 j (by omega)
    obtain ⟨l1, l2⟩ := land_al hw (k := j)
    have q1 : nI p - nI p / 7 * 7 = nI (p % 7) := by rw [e7, pk_rem (by omega) (by omega) (by omega)]
    have q2 : nI p / 7 = nI (p / 7) := by rw [e7, pk_div (by omega) (by omega) (by omega)]
    have d7 : p % 7 < 7 := Nat.mod_lt _ (by omega)
    have e23 : upd (S.2 23) j (nI (p % 7)) j = nI (p % 7) := by rw [upd_at, if_pos rfl]
    have eS : ∃ S1, S1 = sA S 23 (upd (S.2 23) j (nI (p % 7))) := ⟨_, rfl⟩
    obtain ⟨S1, eS⟩ := eS
    have k1 : P S1 := by rw [eS]; exact hP S _ hS
    have r1 : ∀ k, S1.2 23 k = if k = j then nI (p % 7) else S.2 23 k := fun k => by
      rw [eS, sA_2, if_pos rfl, upd_at]
    have ej : dg (j + 1) p j = p % 7 := by
      show (if j = j then _ else _) = _
      rw [if_pos rfl]
    have el : ∀ k, k < j → dg (j + 1) p k = dg j (p / 7) k := fun k hk => by
      show (if k = j then _ else _) = _
      rw [if_neg (by omega)]
    have fin : ∀ u', u' < 64 → (rfK (dD r) (dA r) j (p / 7) u' = true → rfK (dD r) (dA r) (j + 1) p u = true) → (¬ rfK (dD r) (dA r) j (p / 7) u' = true → ¬ rfK (dD r) (dA r) (j + 1) p u = true) → wl_X7_deals_15 kx (j + 1) (nI (p / 7)) (nI u') 1 y1 S1 := by
      intro u' hu' g1 g0
      refine ih (p / 7) u' y1 S1 (by omega) (by omega) hu' ey2 k1 (fun hr S' kS' hrow hrest => h1 (g1 hr) S' kS' (fun k hk => ?_) (fun k hk => ?_)) (fun hr => h0 (g0 hr))
      · by_cases e : k = j
        · rw [e, hrest j (Nat.le_refl _), r1, if_pos rfl, ej]
        · rw [hrow k (by omega), el k (by omega)]
      · rw [hrest k (by omega), r1, if_neg (by omega)]
    have no : ¬ rfK (dD r) (dA r) (j + 1) p u = true → ∀ a b y, wl_X7_deals_15 kx (j + 1) a b 0 y S1 := fun h a b y => dl_no (h0 h S1 k1) j a b y
    have ex7 : dD r j = 7 → (rfK (dD r) (dA r) (j + 1) p u = true ↔ dA r (p % 7) = true ∧ u / 2 ^ (p % 7) % 2 = 0 ∧ rfK (dD r) (dA r) j (p / 7) (setB u (p % 7)) = true) := fun h => by
      show (if dD r j = 7 then _ else _) = true ↔ _
      rw [if_pos h, Bool.and_eq_true, Bool.and_eq_true, decide_eq_true_eq]
    have ex6 : dD r j ≠ 7 → (rfK (dD r) (dA r) (j + 1) p u = true ↔ p % 7 = 6 ∧ rfK (dD r) (dA r) j (p / 7) u = true) := fun h => by
      show (if dD r j = 7 then _ else _) = true ↔ _
      rw [if_neg h, Bool.and_eq_true, decide_eq_true_eq]
    unfold wl_X7_deals_15
    rw [if_neg (nI_pos (by omega)), if_neg (by decide), clamp_nI (by omega), q1, q2, e23, ← eS, a1, ← ey]
    refine ⟨vp6 (by omega), vp6 (by omega), ?_⟩
    by_cases ha : alB r j = true
    · have hd : dD r j = 7 := by unfold dD; rw [if_pos ha]
      rw [if_pos (l1 ha).2]
      refine ⟨vp6 (by omega), ?_⟩
      by_cases d6 : p % 7 < 6
      · rw [if_neg (by rw [e6]; exact nI_ge d6 (by omega))]
        refine livM hw (hmP S1 k1) ⟨vp6 (by omega), ?_⟩
        by_cases hA : dA r (p % 7) = true
        · rw [if_neg (fun y => (dA_t hw d6).1 y hA)]
          refine ⟨vp6 (by omega), ?_⟩
          by_cases ub : u / 2 ^ (p % 7) % 2 = 1
          · rw [if_neg (fun y => (has_b hu d6).1 y ub)]
            exact no (fun y => by have := ((ex7 hd).1 y).2.1; omega) _ _ _
          · rw [if_pos ((has_b hu d6).2 ub)]
            refine ⟨vp6 (by omega), vp6 (by omega), ?_⟩
            rw [t_or u hu _ d6]
            exact fin _ (t_seb u hu _ d6).1 (fun h => (ex7 hd).2 ⟨hA, by omega, h⟩) (fun h y => h ((ex7 hd).1 y).2.2)
        · rw [if_pos ((dA_t hw d6).2 hA)]
          exact no (fun y => hA ((ex7 hd).1 y).1) _ _ _
      · rw [if_pos (by rw [e6]; exact nI_le (by omega) (by omega))]
        refine no (fun y => ?_) _ _ _
        have t := ((ex7 hd).1 y).1
        unfold dA at t
        exact d6 (bts_t.1 t).1
    · have hd : dD r j ≠ 7 := by unfold dD; rw [if_neg ha]; decide
      rw [if_neg (l2 ha).2]
      refine ⟨vp6 (by omega), ?_⟩
      by_cases d6 : p % 7 = 6
      · rw [if_pos (by rw [d6, e6])]
        refine ⟨vp6 (by omega), ?_⟩
        rw [if_pos (by rw [d6, e6]; exact Int32.le_refl _), t_or0 u hu]
        exact fin u hu (fun h => (ex6 hd).2 ⟨d6, h⟩) (fun h y => h ((ex6 hd).1 y).2)
      · rw [if_neg (by rw [e6, nI_eq (by omega) (by omega)]; exact d6)]
        exact no (fun y => d6 ((ex6 hd).1 y).1) _ _ _
theorem rfK_t {D : Nat → Nat} {A : Nat → Bool} (h6 : ∀ q, A q = true → q < 6) : ∀ j p u, u < 64 → (rfK D A j p u = true ↔ ∀ k, k < j → (D k = 7 → A (dg j p k) = true ∧ u / 2 ^ (dg j p k) % 2 = 0 ∧ ∀ i, i < k → D i = 7 → dg j p i ≠ dg j p k) ∧ (D k ≠ 7 → dg j p k = 6)) := by
  intro j
  induction j with
  | zero => exact fun p u _ => ⟨fun _ k hk => absurd hk (by omega), fun _ => rfl⟩
  | succ j ih =>
    intro p u hu
    have ej : dg (j + 1) p j = p % 7 := by
      show (if j = j then _ else _) = _
      rw [if_pos rfl]
    have el : ∀ k, k < j → dg (j + 1) p k = dg j (p / 7) k := fun k hk => by
      show (if k = j then _ else _) = _
      rw [if_neg (by omega)]
    unfold rfK
    by_cases d : D j = 7
    · rw [if_pos d, Bool.and_eq_true, Bool.and_eq_true, decide_eq_true_eq]
      constructor
      · intro ⟨a, b, c⟩
        have d6 := h6 _ a
        obtain ⟨s1, s2⟩ := t_seb u hu _ d6
        rw [ih _ _ s1] at c
        intro k hk
        by_cases e : k = j
        · subst e
          rw [ej]
          refine ⟨fun _ => ⟨a, b, fun i hi hd => ?_⟩, fun y => absurd d y⟩
          rw [el i hi]
          obtain ⟨t1, t2, -⟩ := (c i hi).1 hd
          rw [s2 _ (h6 _ t1)] at t2
          intro y
          rw [if_pos y] at t2
          omega
        · rw [el k (by omega)]
          refine ⟨fun h7 => ?_, (c k (by omega)).2⟩
          obtain ⟨t1, t2, t3⟩ := (c k (by omega)).1 h7
          rw [s2 _ (h6 _ t1)] at t2
          refine ⟨t1, ?_, fun i hi hd => ?_⟩
          · by_cases y : dg j (p / 7) k = p % 7
            · rw [if_pos y] at t2; omega
            · rw [if_neg y] at t2; exact t2
          · rw [el i (by omega)]
            exact t3 i hi hd
      · intro h
        obtain ⟨a, b, c⟩ := (h j (by omega)).1 d
        rw [ej] at a b c
        have d6 := h6 _ a
        obtain ⟨s1, s2⟩ := t_seb u hu _ d6
        refine ⟨a, b, (ih _ _ s1).2 (fun k hk => ?_)⟩
        have g := h k (by omega)
        rw [el k hk] at g
        refine ⟨fun h7 => ?_, g.2⟩
        obtain ⟨t1, t2, t3⟩ := g.1 h7
        refine ⟨t1, ?_, fun i hi hd => ?_⟩
        · have := c k hk h7
          rw [el k hk] at this
          rw [s2 _ (h6 _ t1), if_neg this]
          exact t2
        · have := t3 i hi hd
          rw [el i (by omega)] at this
          exact this
    · rw [if_neg d, Bool.and_eq_true, decide_eq_true_eq, ih _ _ hu]
      constructor
      · intro ⟨a, c⟩ k hk
        by_cases e : k = j
        · subst e
          rw [ej]
          exact ⟨fun y => absurd y d, fun _ => a⟩
        · rw [el k (by omega)]
          refine ⟨fun h7 => ?_, (c k (by omega)).2⟩
          obtain ⟨t1, t2, t3⟩ := (c k (by omega)).1 h7
          refine ⟨t1, t2, fun i hi hd => ?_⟩
          rw [el i (by omega)]
          exact t3 i hi hd
      · intro h
        refine ⟨by have := (h j (by omega)).2 d; rw [ej] at this; exact this, fun k hk => ?_⟩
        have g := h k (by omega)
        rw [el k hk] at g
        refine ⟨fun h7 => ?_, g.2⟩
        obtain ⟨t1, t2, t3⟩ := g.1 h7
        refine ⟨t1, t2, fun i hi hd => ?_⟩
        have := t3 i hi hd
        rw [el i (by omega)] at this
        exact this
theorem dealsP {P : St → Prop} {r : NS} (hw : WF r) (hmP : ∀ S, P S → MR S r) (hP : ∀ S f, P S → P (sA S 23 f)) {c : Nat} (hc : c < 2 ^ 30) {S : St} (hS : P S) {K : Int32 → St → Prop} (h1 : rfK (dD r) (dA r) (r.1 0) c 0 = true → ∀ S', P S' → (∀ k, k < r.1 0 → S'.2 23 k = nI (dg (r.1 0) c k)) → K 1 S') (h0 : ¬ rfK (dD r) (dA r) (r.1 0) c 0 = true → ∀ S', P S' → K 0 S') : wp_X7_deals S (nI c) K := by
  have key := dl_lp hw hmP hP (kx := fun (v11 : Int32) (Z12 : St) => ((v11 = 0 ∨ v11 = 1) ∧ (K v11 Z12))) (r.1 0) c 0 (S.1 0 - 1) S (Nat.le_refl _) hc (by omega) (by rw [(hmP S hS).1]) hS (fun h S' k hr _ => ⟨Or.inr rfl, h1 h S' k hr⟩) (fun h S' k => ⟨Or.inl rfl, h0 h S' k⟩)
  rw [nI_0] at key
  exact ⟨_, key⟩
theorem coughM {S : St} {r : NS} (hw : WF r) (hm : MR S r) {rho : Nat → Nat} (h7 : ∀ k, rho k < 7) (hr : ∀ k, k < r.1 0 → S.2 23 k = nI (rho k)) {q : Nat} (hq : q < 6) {K : Int32 → Prop} (hK : ∀ v, ((∃ k, k < r.1 0 ∧ rho k = q ∧ v = nI (r.2 11 k)) ∨ ((∀ k, k < r.1 0 → rho k ≠ q) ∧ v = -6)) → K v) : wp_X7_coughOf S (nI q) K := by
  have h6 := hw.2.1
  have lp : ∀ m i v, i + m = r.1 0 → ((∃ k, k < i ∧ rho k = q ∧ v = nI (r.2 11 k)) ∨ ((∀ k, k < i → rho k ≠ q) ∧ v = -6)) → wl_X7_coughOf_5 S (nI q) K (m + 1) v (nI i) := by
    intro m
    induction m with
    | zero =>
      intro i v hi hv
      unfold wl_X7_coughOf_5
      rw [hm.1, show i = r.1 0 by omega, if_pos (Int32.le_refl _)]
      rw [show i = r.1 0 by omega] at hv
      exact hK v hv
    | succ m ih =>
      intro i v hi hv
      obtain ⟨-, -, -, -, a9⟩ := hm.2.2.2.2.2.2.1 i (by omega)
      have hl := h7 i
      unfold wl_X7_coughOf_5
      rw [hm.1, if_neg (nI_ge (show i < r.1 0 by omega) (by omega)), clamp_nI (by omega), hr i (by omega), a9, nI_1]
      refine ⟨vp6 (by omega), ?_⟩
      by_cases e : rho i = q
      · rw [if_pos (by rw [e])]
        exact ⟨vp6 (by omega), ih (i + 1) _ (by omega) (Or.inl ⟨i, by omega, e, rfl⟩)⟩
      · rw [if_neg (by rw [nI_eq (by omega) (by omega)]; exact e)]
        refine ih (i + 1) v (by omega) ?_
        rcases hv with ⟨k, a, b, c⟩ | ⟨a, b⟩
        · exact Or.inl ⟨k, by omega, b, c⟩
        · refine Or.inr ⟨fun k hk => ?_, b⟩
          by_cases ek : k = i
          · rw [ek]; exact e
          · exact a k (by omega)
  have key := lp (r.1 0) 0 (-6) (by omega) (Or.inr ⟨fun k hk => absurd hk (by omega), rfl⟩)
  rw [nI_0] at key
  exact ⟨_, key⟩
def Vr (r : NS) (c : Nat) : Prop := rfK (dD r) (dA r) (r.1 0) c 0 = true ∧ ∀ i, i < r.1 6 → ∃ k, k < r.1 0 ∧ dg (r.1 0) c k = r.2 13 i ∧ r.2 11 k = r.2 14 i
theorem dA_6 {r : NS} : ∀ q, dA r q = true → q < 6 := fun q h => (bts_t.1 h).1
theorem dD_7 {r : NS} {k : Nat} : dD r k = 7 ↔ alB r k = true := by
  unfold dD
  by_cases h : alB r k = true
  · rw [if_pos h]; exact ⟨fun _ => h, fun _ => rfl⟩
  · rw [if_neg h]; exact ⟨fun y => absurd y (by decide), fun y => absurd y h⟩
/-- one bearer of a name below 6 -/
theorem one_k {r : NS} {c : Nat} (h : rfK (dD r) (dA r) (r.1 0) c 0 = true) {k i : Nat} (hk : k < r.1 0) (hi : i < r.1 0) (e : dg (r.1 0) c k = dg (r.1 0) c i) (l : dg (r.1 0) c i < 6) : k = i := by
  rw [rfK_t dA_6 _ _ _ (by omega)] at h
  have ak : dD r k = 7 := Classical.byContradiction (fun y => by have := (h k hk).2 y; omega)
  have ai : dD r i = 7 := Classical.byContradiction (fun y => by have := (h i hi).2 y; omega)
  by_cases l1 : k < i
  · exact absurd e (((h i hi).1 ai).2.2 k l1 ak)
  · by_cases l2 : i < k
    · exact absurd e.symm (((h k hk).1 ak).2.2 i l2 ai)
    · omega
theorem isRowP {P : St → Prop} {r : NS} (hw : WF r) (hmP : ∀ S, P S → MR S r) (hP : ∀ S f, P S → P (sA S 23 f)) {c : Nat} (hc : c < 2 ^ 30) {S : St} (hS : P S) {K : Int32 → St → Prop} (h1 : Vr r c → ∀ S', P S' → (∀ k, k < r.1 0 → S'.2 23 k = nI (dg (r.1 0) c k)) → K 1 S') (h0 : ¬ Vr r c → ∀ S', P S' → K 0 S') : wp_X7_isRow S (nI c) K := by
  have h6 := hw.2.1
  have h8 := hw.2.2.2.2.2.2.1
  unfold wp_X7_isRow
  refine dealsP hw hmP hP hc hS (fun hd S' kS' hr => ?_) (fun hd S' kS' => ?_)
  · have hm' := hmP S' kS'
    have lp : ∀ m i, i + m = r.1 6 → (∀ j, j < i → ∃ k, k < r.1 0 ∧ dg (r.1 0) c k = r.2 13 j ∧ r.2 11 k = r.2 14 j) → wl_X7_isRow_8 S' (fun (v7 : Int32) => ((v7 = 0 ∨ v7 = 1) ∧ (K v7 S'))) (m + 1) 1 (nI i) := by
      intro m
      induction m with
      | zero =>
        intro i hi hj
        unfold wl_X7_isRow_8
        rw [hm'.2.2.2.2.2.1, show i = r.1 6 by omega, if_pos (Int32.le_refl _)]
        exact ⟨Or.inr rfl, h1 ⟨hd, fun j hj' => hj j (by omega)⟩ S' kS' hr⟩
      | succ m ih =>
        intro i hi hj
        obtain ⟨s1, s2⟩ := hm'.2.2.2.2.2.2.2 i (by omega)
        obtain ⟨w1, w2⟩ := hw.2.2.2.2.2.2.2.2.2 i (by omega)
        have no : ¬ Vr r c → wl_X7_isRow_8 S' (fun (v7 : Int32) => ((v7 = 0 ∨ v7 = 1) ∧ (K v7 S'))) (m + 1) 0 (nI (i + 1)) := by
          intro hn
          unfold wl_X7_isRow_8
          rw [hm'.2.2.2.2.2.1]
          by_cases l : r.1 6 ≤ i + 1
          · rw [if_pos (nI_le l (by omega))]
            exact ⟨Or.inl rfl, h0 hn S' kS'⟩
          · rw [if_neg (nI_ge (by omega) (by omega)), if_pos rfl]
            exact ⟨Or.inl rfl, h0 hn S' kS'⟩
        unfold wl_X7_isRow_8
        rw [hm'.2.2.2.2.2.1, if_neg (nI_ge (show i < r.1 6 by omega) (by omega)), if_neg (by decide), i2, pk_mul, nI_1, nI_1, clamp_nI (by omega), clamp_nI (by omega), s1, s2]
        refine ⟨vp_in_nI (by omega) (by omega), coughM hw hm' (dg_7 _ c) hr (show r.2 13 i < 6 by omega) (fun v hv => ⟨vp_in_nI (by omega) (by omega), ?_⟩)⟩
        rcases hv with ⟨k, a, b, e⟩ | ⟨a, e⟩
        · have w11 := (hw.2.2.2.2.2.2.2.1 k a).2.2.2.1
          by_cases f : r.2 11 k = r.2 14 i
          · rw [if_pos (by rw [e, f])]
            refine ih (i + 1) (by omega) (fun j hj' => ?_)
            by_cases ej : j = i
            · rw [ej]; exact ⟨k, a, b, f⟩
            · exact hj j (by omega)
          · rw [if_neg (by rw [e, nI_eq (by omega) (by omega)]; exact f)]
            refine no (fun y => ?_)
            obtain ⟨k', a', b', c'⟩ := y.2 i (by omega)
            have ek := one_k hd a' a (by omega) (by omega)
            rw [ek] at c'
            exact f c'
        · rw [if_neg (by rw [e]; exact fun y => absurd (y ▸ nI_pos' (show r.2 14 i < 2 ^ 31 by omega) : (0 : Int32) ≤ (-6)) (by decide))]
          refine no (fun y => ?_)
          obtain ⟨k', a', b', c'⟩ := y.2 i (by omega)
          exact a k' a' b'
    have key := lp (r.1 6) 0 (by omega) (fun j hj => absurd hj (by omega))
    rw [nI_0] at key
    exact ⟨_, key⟩
  · have hm' := hmP S' kS'
    refine ⟨1, ?_⟩
    unfold wl_X7_isRow_8
    by_cases l : S'.1 10 ≤ 0
    · rw [if_pos l]
      exact ⟨Or.inl rfl, h0 (fun y => hd y.1) S' kS'⟩
    · rw [if_neg l, if_pos rfl]
      exact ⟨Or.inl rfl, h0 (fun y => hd y.1) S' kS'⟩
theorem isRowM {M : St} {r : NS} (hw : WF r) (hm : MR M r) {c : Nat} (hc : c < 2 ^ 30) {S : St} (hS : Keep M S) {K : Int32 → St → Prop} (h1 : Vr r c → ∀ S', Keep M S' → (∀ k, k < r.1 0 → S'.2 23 k = nI (dg (r.1 0) c k)) → K 1 S') (h0 : ¬ Vr r c → ∀ S', Keep M S' → K 0 S') : wp_X7_isRow S (nI c) K :=
  isRowP hw (P := fun S => Keep M S) (fun _ k => MRk hm k) (fun S f k => k.trans (Keep.sA S (by omega) (by omega) f)) hc hS h1 h0
theorem codesM {S : St} {r : NS} (hw : WF r) (hm : MR S r) {K : Int32 → Prop} (hK : K (nI (7 ^ r.1 0))) : wp_X7_codes S K := by
  have h6 := hw.2.1
  have lp : ∀ m i, i + m = r.1 0 → wl_X7_codes_4 S K (m + 1) (nI (7 ^ i)) (nI i) := by
    intro m
    induction m with
    | zero =>
      intro i hi
      unfold wl_X7_codes_4
      rw [hm.1, show i = r.1 0 by omega, if_pos (Int32.le_refl _)]
      exact hK
    | succ m ih =>
      intro i hi
      unfold wl_X7_codes_4
      rw [hm.1, if_neg (nI_ge (show i < r.1 0 by omega) (by omega)), show (7 : Int32) = nI 7 by decide, pk_mul, nI_1, ← Nat.pow_succ]
      exact ih (i + 1) (by omega)
  have key := lp (r.1 0) 0 (by omega)
  rw [nI_0, Nat.pow_zero, ← i1] at key
  exact ⟨_, key⟩
