-- marriages: the free of the reference, the Java's row of mates
theorem freeM {M : St} {r : NS} (hw : WF r) (hm : MR M r) {K : Int32 → Prop} (hK : K (nI (msk (frB r) (r.1 0)))) : ∀ m i, i + m = r.1 0 → wl_X7_marriages_17 M K (m + 1) (nI (msk (frB r) i)) (nI i) := by
  have h6 := hw.2.1
  intro m
  induction m with
  | zero =>
    intro i hi
    unfold wl_X7_marriages_17
    rw [hm.1, show i = r.1 0 by omega, if_pos (Int32.le_refl _)]
    exact hK
  | succ m ih =>
    intro i hi
    have g := ih (i + 1) (by omega)
    obtain ⟨a1, -, a3, -, -⟩ := hm.2.2.2.2.2.2.1 i (by omega)
    have h9 := (hw.2.2.2.2.2.2.2.1 i (by omega)).2.2.1
    obtain ⟨l1, l2⟩ := land_al hw (k := i)
    have ex : frB r i = true ↔ alB r i = true ∧ r.2 9 i ≠ 2 := by
      unfold frB
      rw [Bool.and_eq_true, decide_eq_true_eq]
    unfold wl_X7_marriages_17
    rw [hm.1, if_neg (nI_ge (show i < r.1 0 by omega) (by omega)), clamp_nI (by omega), a1, a3, nI_1]
    refine ⟨vp6 (by omega), ?_⟩
    by_cases hl : alB r i = true
    · rw [if_neg (l1 hl).1]
      refine ⟨vp6 (by omega), ?_⟩
      by_cases h2 : r.2 9 i = 2
      · rw [if_pos (by rw [h2, i2]; exact Int32.le_refl _), msk_or0 (by omega) (fun y => (ex.1 y).2 h2)]
        exact g
      · rw [if_neg (by rw [i2]; exact nI_ge (by omega) (by omega)), msk_or (by omega) (ex.2 ⟨hl, h2⟩)]
        exact g
    · rw [if_pos (l2 hl).1, msk_or0 (by omega) (fun y => hl (ex.1 y).1)]
      exact g
/-- the Java's mates, row by row; the other arrays stay -/
theorem matesRow {r : NS} (hw : WF r) {x : Nat} (hx : x < 2 ^ 20) {K : St → Prop} (hK : ∀ S : St, (∀ a, a < r.1 0 → S.2 0 a = nI (msk (mate r x a) (r.1 0))) → K S) : ∀ m i (S : St), i + m = r.1 0 → (∀ a, a < i → S.2 0 a = nI (msk (mate r x a) (r.1 0))) → wl_X4_mostTwos_2 (NI r) (nI x) K (m + 1) (nI i) S := by
  have h6 := hw.2.1
  intro m
  induction m with
  | zero =>
    intro i S hi hS
    unfold wl_X4_mostTwos_2
    rw [NI_1, show i = r.1 0 by omega, if_pos (Int32.le_refl _)]
    exact hK S (fun a ha => hS a (by omega))
  | succ m ih =>
    intro i S hi hS
    unfold wl_X4_mostTwos_2
    rw [NI_1, if_neg (nI_ge (show i < r.1 0 by omega) (by omega)), nI_1]
    refine matesX hw (by omega) hx (put_nI (show i < 6 by omega) (by omega) ?_)
    refine ih (i + 1) _ (by omega) (fun a ha => ?_)
    show upd (S.2 0) i _ a = _
    unfold upd
    by_cases e : a = i
    · rw [if_pos e, e]
    · rw [if_neg e]
      exact hS a (by omega)
def ntzN (v : Nat) : Nat := if v % 2 = 1 then 0 else if v / 2 % 2 = 1 then 1 else if v / 4 % 2 = 1 then 2 else if v / 8 % 2 = 1 then 3 else if v / 16 % 2 = 1 then 4 else 5
theorem t_ntz : ∀ v, v < 64 → (if v = 0 then nI 0 else F_J6_numberOfTrailingZeros_0f7a4 (nI v)) = (if v = 0 then nI 0 else nI (ntzN v)) := by decide +kernel
