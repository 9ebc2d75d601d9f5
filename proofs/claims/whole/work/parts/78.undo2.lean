-- undo, second half
theorem findB_eq {g : Nat → Nat} {i q : Nat} (hq : g q = i) : ∀ m k, k ≤ q → q < k + m → (∀ j, k ≤ j → j < q → g j ≠ i) → findB g i m k = q := by
  intro m
  induction m with
  | zero => intro k h1 h2 _; omega
  | succ m ih =>
    intro k h1 h2 h3
    unfold findB
    by_cases e : k = q
    · rw [e, if_pos hq]
    · rw [if_neg (h3 k (Nat.le_refl _) (by omega))]
      exact ih (k + 1) (by omega) (by omega) (fun j a b => h3 j (by omega) b)
theorem uW_v {g : Nat → Nat} {n s : Nat} (hn : n ≤ 6) (hg : ∀ k, k < n → g k < n) : ∀ m c v y, v < 64 → y < n → (uW g s m c v y).2.2 < 64 := by
  intro m
  induction m with
  | zero => exact fun c v y hv hy => hv
  | succ m ih =>
    intro c v y hv hy
    unfold uW
    by_cases hb : v / 2 ^ y % 2 = 1
    · rw [if_pos hb]; exact hv
    · rw [if_neg hb]
      exact ih _ _ _ (t_seb v hv y (by omega)).1 (hg y hy)
theorem u45 {M : St} {r : NS} {g : Nat → Nat} (hw : WF r) (hm : MR M r) (hg : ∀ k, k < r.1 0 → r.2 8 k = g k) {K : Int32 → Prop} : ∀ m i c v, i + m = r.1 0 → v < 64 → (uM (r.1 5) g m i c v).1 = true → K (nI (uM (r.1 5) g m i c v).2) → wl_X7_undo_45 M K (m + 1) (nI c) (nI v) (nI i) := by
  have h6 := hw.2.1
  have gn : ∀ k, k < r.1 0 → g k < r.1 0 := fun k hk => by rw [← hg k hk]; exact (hw.2.2.2.2.2.2.2.1 k hk).2.1
  have gm : ∀ k, k < r.1 0 → M.2 6 k = nI (g k) ∧ g k < r.1 0 := fun k hk => ⟨by rw [(hm.2.2.2.2.2.2.1 k hk).2.1, hg k hk], gn k hk⟩
  intro m
  induction m with
  | zero =>
    intro i c v hi hv ho hK
    unfold wl_X7_undo_45
    rw [hm.1, show i = r.1 0 by omega, if_pos (Int32.le_refl _)]
    exact hK
  | succ m ih =>
    intro i c v hi hv ho hK
    obtain ⟨a1, -⟩ := hm.2.2.2.2.2.2.1 i (by omega)
    obtain ⟨l1, l2⟩ := land_al hw (k := i)
    unfold uM at ho hK
    unfold wl_X7_undo_45
    rw [hm.1, if_neg (nI_ge (show i < r.1 0 by omega) (by omega)), clamp_nI (by omega), a1, nI_1]
    refine ⟨vp6 (by omega), ?_⟩
    by_cases hl : r.1 5 / 2 ^ i % 2 = 1
    · rw [if_pos hl] at ho hK
      rw [if_neg (l1 (decide_eq_true hl)).1]
      by_cases hb : v / 2 ^ i % 2 = 1
      · rw [if_pos hb] at ho hK
        rw [if_neg (fun x => (has_b hv (by omega)).1 x hb)]
        exact ih (i + 1) c v (by omega) hv ho hK
      · rw [if_neg hb] at ho hK
        rw [if_pos ((has_b hv (by omega)).2 hb)]
        dsimp only at ho hK
        rw [Bool.and_eq_true] at ho
        exact ⟨8, w73 h6 gm (by omega) 7 c v i hv (by omega) ho.1 (ih (i + 1) _ _ (by omega) (uW_v h6 gn 7 c v i hv (by omega)) ho.2 hK)⟩
    · rw [if_neg hl] at ho hK
      rw [if_pos (l2 (fun x => hl (of_decide_eq_true x))).1]
      exact ih (i + 1) c v (by omega) hv ho hK
theorem nSwap_wf {r : NS} (hw : WF r) {a b : Nat} (ha : a < r.1 0) (hb : b < r.1 0) (la : alB r a = true) (lb : alB r b = true) (hab : a ≠ b) : WF (nSwap r a b) := by
  obtain ⟨w0, w1, w2, w3, w4, w5, w6, w7, w8, w9⟩ := id hw
  have hw' : WF (nsI r 3 0) := ⟨w0, w1, w2, w3, by show 0 < r.1 1; omega, w5, w6, w7, w8, w9⟩
  have h := hatF_wf hw' (a := a) (b := b) ha hb
  have e : hatF (nsI r 3 0) a b = (0, nSwap (nsI r 3 0) a b) := by
    unfold hatF
    rw [show alB (nsI r 3 0) a = alB r a from rfl, show alB (nsI r 3 0) b = alB r b from rfl, if_pos la, if_pos lb, if_neg hab, show (nsI r 3 0).1 3 = 0 from rfl, if_pos rfl]
  rw [e] at h
  obtain ⟨v0, v1, v2, v3, v4, v5, v6, v7, v8, v9⟩ := h
  exact ⟨w0, w1, w2, w3, w4, w5, w6, v7, v8, w9⟩
theorem u66 {n lv : Nat} {K : Int32 → St → Prop} : ∀ m i c (s : NS) (g : Nat → Nat), i + m = n → WF s → s.1 0 = n → s.1 5 = lv → (∀ k, k < n → s.2 8 k = g k) → (∀ i, i < n → alB s i = true → ∃ k, k < n ∧ alB s k = true ∧ s.2 8 k = i) → (∀ Z, K (nI (uX n lv m i g c)) Z) → wl_X6_undo_66 K (m + 1) (nI c) (nI i) (NI s) := by
  intro m
  induction m with
  | zero =>
    intro i c s g hi hw hn hlv hg hok hK
    unfold wl_X6_undo_66
    rw [NI_1, hn, show i = n by omega, if_pos (Int32.le_refl _)]
    exact hK _
  | succ m ih =>
    intro i c s g hi hw hn hlv hg hok hK
    have h6 := hw.2.1
    have hin : i < s.1 0 := by omega
    unfold uX at hK
    unfold wl_X6_undo_66
    rw [NI_1, hn, if_neg (nI_ge (show i < n by omega) (by omega)), nI_1, nI_1, getR _ _ (show i < 6 by omega) (by omega), hg i (by omega)]
    by_cases hl : alB s i = true
    · have hl' : lv / 2 ^ i % 2 = 1 := by rw [← hlv]; exact of_decide_eq_true hl
      have gi : g i < n := by rw [← hg i (by omega), ← hn]; exact (hw.2.2.2.2.2.2.2.1 i hin).2.1
      rw [if_pos hl'] at hK
      rw [if_neg (fun x => (al_f hw hin).1 x hl)]
      by_cases e : g i = i
      · rw [if_pos e] at hK
        rw [if_pos (by rw [e])]
        exact ih (i + 1) c s g (by omega) hw hn hlv hg hok hK
      · rw [if_neg e] at hK
        rw [if_neg (by rw [nI_eq (by omega) (by omega)]; exact e)]
        obtain ⟨q, hq, hlq, he⟩ := hok i (by omega) hl
        have hq' : q < s.1 0 := by omega
        have hu : ∀ j, j < s.1 0 → s.2 8 j = i → j = q := fun j hj' e' => hw.2.2.2.2.2.2.2.2.1 j q hj' hq' (e'.trans he.symm)
        have fq : findB g i n 0 = q := findB_eq (by rw [← hg q hq]; exact he) n 0 (by omega) (by omega) (fun j _ hj e' => by
          have := hu j (by omega) (by rw [hg j (by omega)]; exact e')
          omega)
        have hiq : i ≠ q := fun x => e (by rw [← hg i (by omega), x]; exact he.trans x)
        rw [fq] at hK
        refine bear_ok hw hin hq' he hu ?_
        unfold wp_X2_swapNames
        rw [getR _ _ (show i < 6 by omega) (by omega), getR _ _ (show q < 6 by omega) (by omega)]
        refine put_nI (show i < 6 by omega) (by omega) (put_nI (show q < 6 by omega) (by omega) ?_)
        rw [sA_sA, NI_2f, upd_nI, upd_nI, sA_NI]
        have hg2 : ∀ k, k < n → (nSwap s i q).2 8 k = nup (nup g i (g q)) q (g i) k := by
          intro k hk
          show nup (nup (s.2 8) i (s.2 8 q)) q (s.2 8 i) k = _
          unfold nup
          rw [hg q hq, hg i (by omega)]
          by_cases k1 : k = q
          · rw [if_pos k1, if_pos k1]
          · rw [if_neg k1, if_neg k1]
            by_cases k2 : k = i
            · rw [if_pos k2, if_pos k2]
            · rw [if_neg k2, if_neg k2]
              exact hg k hk
        refine ih (i + 1) (c + 1) (nSwap s i q) _ (by omega) (nSwap_wf hw hin hq' hl hlq hiq) hn hlv hg2 (fun j hj hlj => ?_) hK
        obtain ⟨k, hk, hlk, ek⟩ := hok j hj hlj
        have sw : ∀ x, (nSwap s i q).2 8 x = if x = q then s.2 8 i else if x = i then s.2 8 q else s.2 8 x := fun x => rfl
        by_cases k1 : k = q
        · refine ⟨i, by omega, hl, ?_⟩
          rw [sw, if_neg hiq, if_pos rfl, ← k1]
          exact ek
        · by_cases k2 : k = i
          · refine ⟨q, hq, hlq, ?_⟩
            rw [sw, if_pos rfl, ← k2]
            exact ek
          · refine ⟨k, hk, hlk, ?_⟩
            rw [sw, if_neg k1, if_neg k2]
            exact ek
    · rw [if_pos ((al_f hw hin).2 hl)]
      rw [if_neg (fun x => hl (decide_eq_true (by rw [hlv]; exact x)))] at hK
      exact ih (i + 1) c s g (by omega) hw hn hlv hg hok hK
def clU (n lv : Nat) (g : Nat → Nat) : Nat → Bool
  | 0 => true
  | m + 1 => (if lv / 2 ^ m % 2 = 1 then decide (lv / 2 ^ (findB g m n 0) % 2 = 1) else true) && clU n lv g m
def chkU (n : Nat) (g : Nat → Nat) (lv : Nat) : Bool := if clU n lv g n = true then (uM lv g n 0 0 0).1 && decide ((uM lv g n 0 0 0).2 = uX n lv n 0 g 0) else true
def allB : Nat → (Nat → Bool) → Bool
  | 0, _ => true
  | n + 1, P => P n && allB n P
theorem allB_get {P : Nat → Bool} : ∀ {n : Nat}, allB n P = true → ∀ k, k < n → P k = true := by
  intro n
  induction n with
  | zero => exact fun _ k hk => absurd hk (by omega)
  | succ n ih =>
    intro h k hk
    unfold allB at h
    rw [Bool.and_eq_true] at h
    by_cases e : k = n
    · rw [e]; exact h.1
    · exact ih h.2 k (by omega)
def usedB (g : Nat → Nat) (a : Nat) : Nat → Bool
  | 0 => false
  | k + 1 => decide (g k = a) || usedB g a k
theorem usedB_no {g : Nat → Nat} {a : Nat} : ∀ k, (∀ j, j < k → g j ≠ a) → usedB g a k = false := by
  intro k
  induction k with
  | zero => exact fun _ => rfl
  | succ k ih =>
    intro h
    unfold usedB
    rw [decide_eq_false (h k (by omega)), ih (fun j hj => h j (by omega))]
    rfl
def allG (n : Nat) : Nat → Nat → (Nat → Nat) → Bool
  | 0, _, g => allB (2 ^ n) (fun lv => chkU n g lv)
  | m + 1, k, g => allB n (fun a => usedB g a k || allG n m (k + 1) (nup g k a))
theorem allG_get {n : Nat} {f : Nat → Nat} (hf : ∀ k, k < n → f k < n) (hi : ∀ i j, i < n → j < n → f i = f j → i = j) : ∀ m k g, k + m = n → (∀ j, j < k → g j = f j) → allG n m k g = true → ∃ g' : Nat → Nat, (∀ j, j < n → f j = g' j) ∧ ∀ lv, lv < 2 ^ n → chkU n g' lv = true := by
  intro m
  induction m with
  | zero =>
    intro k g hk hg h
    exact ⟨g, fun j hj => (hg j (by omega)).symm, allB_get h⟩
  | succ m ih =>
    intro k g hk hg h
    have h1 := allB_get h (f k) (hf k (by omega))
    rw [usedB_no k (fun j hj e => by
      have := hi j k (by omega) (by omega) ((hg j hj).symm.trans e)
      omega), Bool.false_or] at h1
    refine ih (k + 1) _ (by omega) (fun j hj => ?_) h1
    unfold nup
    by_cases e : j = k
    · rw [if_pos e, e]
    · rw [if_neg e]
      exact hg j (by omega)
theorem t_u3 : allG 3 3 0 (fun _ => 0) = true := by decide +kernel
theorem t_u4 : allG 4 4 0 (fun _ => 0) = true := by decide +kernel
theorem t_u5 : allG 5 5 0 (fun _ => 0) = true := by decide +kernel
