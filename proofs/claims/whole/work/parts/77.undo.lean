-- undo
def findB (g : Nat → Nat) (i : Nat) : Nat → Nat → Nat
  | 0, k => k
  | m + 1, k => if g k = i then k else findB g i m (k + 1)
def uX (n lv : Nat) : Nat → Nat → (Nat → Nat) → Nat → Nat
  | 0, _, _, c => c
  | m + 1, i, g, c => if lv / 2 ^ i % 2 = 1 then (if g i = i then uX n lv m (i + 1) g c else uX n lv m (i + 1) (nup (nup g i (g (findB g i n 0))) (findB g i n 0) (g i)) (c + 1)) else uX n lv m (i + 1) g c
def setB (v L : Nat) : Nat := if v / 2 ^ L % 2 = 1 then v else v + 2 ^ L
/-- one cycle: (ends, count, seen) -/
def uW (g : Nat → Nat) (s : Nat) : Nat → Nat → Nat → Nat → Bool × Nat × Nat
  | 0, c, v, y => (decide (v / 2 ^ y % 2 = 1), c, v)
  | m + 1, c, v, y => if v / 2 ^ y % 2 = 1 then (true, c, v) else uW g s m (if g y = s then c else c + 1) (setB v y) (g y)
def uM (lv : Nat) (g : Nat → Nat) : Nat → Nat → Nat → Nat → Bool × Nat
  | 0, _, c, _ => (true, c)
  | m + 1, i, c, v => if lv / 2 ^ i % 2 = 1 then (if v / 2 ^ i % 2 = 1 then uM lv g m (i + 1) c v else ((uW g i 7 c v i).1 && (uM lv g m (i + 1) (uW g i 7 c v i).2.1 (uW g i 7 c v i).2.2).1, (uM lv g m (i + 1) (uW g i 7 c v i).2.1 (uW g i 7 c v i).2.2).2)) else uM lv g m (i + 1) c v
theorem t_or : ∀ v, v < 64 → ∀ L, L < 6 → (nI v ||| ((1 : Int32) <<< (nI L &&& 31))) = nI (setB v L) := by decide +kernel
theorem t_seb : ∀ v, v < 64 → ∀ L, L < 6 → setB v L < 64 ∧ ∀ j, j < 6 → setB v L / 2 ^ j % 2 = if j = L then 1 else v / 2 ^ j % 2 := by decide +kernel
theorem t_or0 : ∀ v, v < 64 → nI v ||| 0 = nI v := by decide +kernel
theorem has_b {v i : Nat} (hv : v < 64) (hi : i < 6) : F_X7_has (nI v) (nI i) = 0 ↔ ¬ v / 2 ^ i % 2 = 1 := by
  have hm := Nat.mod_lt (v / 2 ^ i) (show 0 < 2 by omega)
  unfold F_X7_has
  rw [bit_f v hv i hi]
  by_cases h : v / 2 ^ i % 2 = 1
  · rw [if_pos ((nI_eq1 (by omega)).2 h)]
    exact ⟨fun x => absurd x (by decide), fun x => absurd h x⟩
  · rw [if_neg (fun x => h ((nI_eq1 (by omega)).1 x))]
    exact ⟨fun _ => h, fun _ => rfl⟩
def livN (r : NS) : Nat → Nat
  | 0 => 0
  | k + 1 => if alB r k = true then setB (livN r k) (r.2 8 k) else livN r k
theorem livN_ok {r : NS} (hw : WF r) : ∀ k, k ≤ r.1 0 → livN r k < 64 ∧ ∀ j, j < 6 → (livN r k / 2 ^ j % 2 = 1 ↔ ∃ i, i < k ∧ alB r i = true ∧ r.2 8 i = j) := by
  have h6 := hw.2.1
  intro k
  induction k with
  | zero =>
    intro _
    refine ⟨by show 0 < 64; omega, fun j hj => ⟨fun h => ?_, fun ⟨i, hi, _⟩ => absurd hi (by omega)⟩⟩
    rw [show livN r 0 = 0 from rfl, Nat.zero_div] at h
    exact absurd h (by decide)
  | succ k ih =>
    intro hk
    obtain ⟨i1, i2⟩ := ih (by omega)
    have h8 := (hw.2.2.2.2.2.2.2.1 k (by omega)).2.1
    unfold livN
    by_cases hl : alB r k = true
    · rw [if_pos hl]
      obtain ⟨s1, s2⟩ := t_seb _ i1 _ (show r.2 8 k < 6 by omega)
      refine ⟨s1, fun j hj => ?_⟩
      rw [s2 j hj]
      by_cases e : j = r.2 8 k
      · rw [if_pos e]
        exact ⟨fun _ => ⟨k, by omega, hl, e.symm⟩, fun _ => rfl⟩
      · rw [if_neg e, i2 j hj]
        exact ⟨fun ⟨i, a, b, c⟩ => ⟨i, by omega, b, c⟩, fun ⟨i, a, b, c⟩ => ⟨i, by
          by_cases ei : i = k
          · rw [ei] at c; exact absurd c.symm e
          · omega, b, c⟩⟩
    · rw [if_neg hl]
      refine ⟨i1, fun j hj => ?_⟩
      rw [i2 j hj]
      exact ⟨fun ⟨i, a, b, c⟩ => ⟨i, by omega, b, c⟩, fun ⟨i, a, b, c⟩ => ⟨i, by
        by_cases ei : i = k
        · rw [ei] at b; exact absurd b hl
        · omega, b, c⟩⟩
theorem livM {M : St} {r : NS} (hw : WF r) (hm : MR M r) {K : Int32 → Prop} (hK : K (nI (livN r (r.1 0)))) : wp_X7_living M K := by
  have h6 := hw.2.1
  have lp : ∀ n i, i + n = r.1 0 → wl_X7_living_4 M K (n + 1) (nI (livN r i)) (nI i) := by
    intro n
    induction n with
    | zero =>
      intro i hi
      unfold wl_X7_living_4
      rw [hm.1, show i = r.1 0 by omega, if_pos (Int32.le_refl _)]
      exact hK
    | succ n ih =>
      intro i hi
      have g := ih (i + 1) (by omega)
      obtain ⟨a1, a2, -⟩ := hm.2.2.2.2.2.2.1 i (by omega)
      obtain ⟨l1, l2⟩ := land_al hw (k := i)
      have h8 := (hw.2.2.2.2.2.2.2.1 i (by omega)).2.1
      have hv := (livN_ok hw i (by omega)).1
      unfold livN at g
      unfold wl_X7_living_4
      rw [hm.1, if_neg (nI_ge (show i < r.1 0 by omega) (by omega)), clamp_nI (by omega), a1, a2, nI_1]
      refine ⟨vp6 (by omega), ?_⟩
      by_cases hl : alB r i = true
      · rw [if_pos hl] at g
        rw [if_neg (l1 hl).1, t_or _ hv _ (by omega)]
        exact ⟨vp6 (by omega), g⟩
      · rw [if_neg hl] at g
        rw [if_pos (l2 hl).1, t_or0 _ hv]
        exact g
  have key := lp (r.1 0) 0 (by omega)
  rw [show nI (livN r 0) = 0 from nI_0, nI_0] at key
  exact ⟨_, key⟩
/-- the name of every living child is borne by a living one -/
def okU (r : NS) (i : Nat) : Bool := decide (alB r i = true → ∃ k, k < r.1 0 ∧ alB r k = true ∧ r.2 8 k = i)
theorem u1M {M : St} {r : NS} (hw : WF r) (hm : MR M r) {kx : Prop} {K : Int32 → Prop} (h1 : (∀ i, i < r.1 0 → okU r i = true) → kx) (h2 : (∃ i, i < r.1 0 ∧ ¬ okU r i = true) → K (-6)) : ∀ n i, i + n = r.1 0 → (∀ j, j < i → okU r j = true) → wl_X7_undo_6 M kx K (n + 1) (nI i) := by
  have h6 := hw.2.1
  intro n
  induction n with
  | zero =>
    intro i hi hj
    unfold wl_X7_undo_6
    rw [hm.1, show i = r.1 0 by omega, if_pos (Int32.le_refl _)]
    exact h1 (fun j hj' => hj j (by omega))
  | succ n ih =>
    intro i hi hj
    obtain ⟨a1, a2, -⟩ := hm.2.2.2.2.2.2.1 i (by omega)
    obtain ⟨l1, l2⟩ := land_al hw (k := i)
    obtain ⟨v1, v2⟩ := livN_ok hw (r.1 0) (Nat.le_refl _)
    have nx : okU r i = true → wl_X7_undo_6 M kx K (n + 1) (nI (i + 1)) := fun h => ih (i + 1) (by omega) (fun j hj' => by
      by_cases e : j = i
      · rw [e]; exact h
      · exact hj j (by omega))
    unfold wl_X7_undo_6
    rw [hm.1, if_neg (nI_ge (show i < r.1 0 by omega) (by omega)), clamp_nI (by omega), a1, nI_1]
    refine ⟨vp6 (by omega), ?_⟩
    by_cases hl : alB r i = true
    · rw [if_neg (l1 hl).1]
      refine livM hw hm ?_
      by_cases hb : livN r (r.1 0) / 2 ^ i % 2 = 1
      · rw [if_neg (fun x => (has_b v1 (by omega)).1 x hb)]
        exact nx (decide_eq_true (fun _ => (v2 i (by omega)).1 hb))
      · rw [if_pos ((has_b v1 (by omega)).2 hb)]
        exact h2 ⟨i, by omega, fun x => hb ((v2 i (by omega)).2 ((of_decide_eq_true x) hl))⟩
    · rw [if_pos (l2 hl).1]
      exact nx (decide_eq_true (fun x => absurd x hl))
theorem u1X {r : NS} (hw : WF r) (hs : ∀ i, i < r.1 0 → ∃ q, q < r.1 0 ∧ r.2 8 q = i) {Y1 : St} {kx : Prop} {K : Int32 → St → Prop} (h1 : (∀ i, i < r.1 0 → okU r i = true) → kx) (h2 : (∃ i, i < r.1 0 ∧ ¬ okU r i = true) → K (-6) Y1) : ∀ n i, i + n = r.1 0 → (∀ j, j < i → okU r j = true) → wl_X6_undo_2 (NI r) Y1 kx K (n + 1) (nI i) := by
  have h6 := hw.2.1
  intro n
  induction n with
  | zero =>
    intro i hi hj
    unfold wl_X6_undo_2
    rw [NI_1, show i = r.1 0 by omega, if_pos (Int32.le_refl _)]
    exact h1 (fun j hj' => hj j (by omega))
  | succ n ih =>
    intro i hi hj
    have nx : okU r i = true → wl_X6_undo_2 (NI r) Y1 kx K (n + 1) (nI (i + 1)) := fun h => ih (i + 1) (by omega) (fun j hj' => by
      by_cases e : j = i
      · rw [e]; exact h
      · exact hj j (by omega))
    unfold wl_X6_undo_2
    rw [NI_1, if_neg (nI_ge (show i < r.1 0 by omega) (by omega)), nI_1]
    by_cases hl : alB r i = true
    · rw [if_neg (fun x => (al_f hw (by omega)).1 x hl)]
      obtain ⟨q, hq, he⟩ := hs i (by omega)
      refine bear_ok hw (by omega) hq he (fun j hj' e => hw.2.2.2.2.2.2.2.2.1 j q hj' hq (e.trans he.symm)) ?_
      by_cases hlq : alB r q = true
      · rw [if_neg (fun x => (al_f hw hq).1 x hlq)]
        exact nx (decide_eq_true (fun _ => ⟨q, hq, hlq, he⟩))
      · rw [if_pos ((al_f hw hq).2 hlq)]
        refine h2 ⟨i, by omega, fun x => ?_⟩
        obtain ⟨k, a, b, c⟩ := (of_decide_eq_true x) hl
        rw [hw.2.2.2.2.2.2.2.2.1 k q a hq (c.trans he.symm)] at b
        exact hlq b
    · rw [if_pos ((al_f hw (by omega)).2 hl)]
      exact nx (decide_eq_true (fun x => absurd x hl))
theorem w73 {M : St} {g : Nat → Nat} {n s : Nat} (hn : n ≤ 6) (hg : ∀ k, k < n → M.2 6 k = nI (g k) ∧ g k < n) (hs : s < 6) {K : Int32 → Int32 → Prop} : ∀ m c v y, v < 64 → y < n → (uW g s m c v y).1 = true → K (nI (uW g s m c v y).2.1) (nI (uW g s m c v y).2.2) → wl_X7_undo_73 M (nI s) K (m + 1) (nI c) (nI v) (nI y) := by
  intro m
  induction m with
  | zero =>
    intro c v y hv hy ho hK
    unfold wl_X7_undo_73
    have hb : v / 2 ^ y % 2 = 1 := of_decide_eq_true ho
    rw [if_neg (fun x => (has_b hv (by omega)).1 x hb)]
    exact hK
  | succ m ih =>
    intro c v y hv hy ho hK
    obtain ⟨g1, g2⟩ := hg y hy
    unfold wl_X7_undo_73
    unfold uW at ho hK
    by_cases hb : v / 2 ^ y % 2 = 1
    · rw [if_pos hb] at hK
      rw [if_neg (fun x => (has_b hv (by omega)).1 x hb)]
      exact hK
    · rw [if_neg hb] at ho hK
      rw [if_pos ((has_b hv (by omega)).2 hb), clamp_nI (by omega), g1, t_or v hv y (by omega), nI_1, Int32.add_zero]
      have st := (t_seb v hv y (by omega)).1
      refine ⟨vp6 (by omega), ?_⟩
      by_cases e : g y = s
      · rw [if_pos e] at ho hK
        rw [if_pos (by rw [e])]
        exact ⟨vp6 (by omega), ih c (setB v y) (g y) st g2 ho hK⟩
      · rw [if_neg e] at ho hK
        rw [if_neg (by rw [nI_eq (by omega) (by omega)]; exact e)]
        exact ⟨vp6 (by omega), ih (c + 1) (setB v y) (g y) st g2 ho hK⟩
