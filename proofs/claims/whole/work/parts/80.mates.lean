-- marriages: who could be a pair
def apB (r : NS) (a b x : Nat) : Bool := decide (∀ e, e < x → ¬ shB r a b e = true)
theorem shB_sym (r : NS) (a b e : Nat) : shB r a b e = shB r b a e := by
  unfold shB
  exact Bool.eq_iff_iff.mpr (by rw [decide_eq_true_eq, decide_eq_true_eq]; exact ⟨fun ⟨p, q, s⟩ => ⟨q, p, s.symm⟩, fun ⟨p, q, s⟩ => ⟨q, p, s.symm⟩⟩)
theorem apB_sym (r : NS) (a b x : Nat) : apB r a b x = apB r b a x := by
  unfold apB
  exact Bool.eq_iff_iff.mpr (by rw [decide_eq_true_eq, decide_eq_true_eq]; exact ⟨fun h e he => by rw [shB_sym]; exact h e he, fun h e he => by rw [shB_sym]; exact h e he⟩)
theorem apX {r : NS} (hw : WF r) {a b x : Nat} (ha : a < r.1 0) (hb : b < r.1 0) (hx : x < 2 ^ 20) {K : Int32 → Prop} (hK : K (if apB r a b x = true then 1 else 0)) : wp_X4_areApart (NI r) (nI a) (nI b) (nI x) K := by
  have lp : ∀ m i, i + m = x → (∀ j, j < i → ¬ shB r a b j = true) → wl_X4_areApart_3 (NI r) (nI a) (nI b) (nI x) (K 1) K (m + 1) (nI i) := by
    intro m
    induction m with
    | zero =>
      intro i hi hj
      unfold wl_X4_areApart_3
      rw [show i = x by omega, if_pos (Int32.le_refl _)]
      rw [if_pos (show apB r a b x = true from decide_eq_true (fun e he => hj e (by omega)))] at hK
      exact hK
    | succ m ih =>
      intro i hi hj
      unfold wl_X4_areApart_3
      rw [if_neg (nI_ge (show i < x by omega) (by omega)), share_nI hw ha hb (by omega), nI_1]
      by_cases h : shB r a b i = true
      · rw [if_pos h, if_neg (by decide)]
        rw [if_neg (fun y => (of_decide_eq_true y) i (by omega) h)] at hK
        exact hK
      · rw [if_neg h, if_pos rfl]
        exact ih (i + 1) (by omega) (fun j hj' => by
          by_cases e : j = i
          · rw [e]; exact h
          · exact hj j (by omega))
  have key := lp x 0 (by omega) (fun j hj => absurd hj (by omega))
  rw [nI_0] at key
  exact ⟨_, key⟩
theorem dmM {r : NS} {M : St} (hw : WF r) (hm : MR M r) {a b x : Nat} (ha : a < r.1 0) (hb : b < r.1 0) (hx : x < 2 ^ 20) {K : Int32 → Prop} (hK : K (if apB r a b x = true then 0 else 1)) : wp_X7_doMeet M (nI a) (nI b) (nI x) K := by
  have l1 : ∀ m i, i + m = x → (∃ j, j < x ∧ shB r a b j = true) → wl_X7_doMeet_6 M (nI a) (nI b) (nI x) (fun (v5 : Int32) => ((v5 = 0 ∨ v5 = 1) ∧ (K v5))) (m + 1) 1 (nI i) := by
    intro m
    induction m with
    | zero =>
      intro i hi ⟨j, hj, hs⟩
      unfold wl_X7_doMeet_6
      rw [show i = x by omega, if_pos (Int32.le_refl _)]
      rw [if_neg (fun y => (of_decide_eq_true y) j hj hs)] at hK
      exact ⟨Or.inr rfl, hK⟩
    | succ m ih =>
      intro i hi he
      unfold wl_X7_doMeet_6
      rw [if_neg (nI_ge (show i < x by omega) (by omega)), if_neg (by decide), nI_1]
      exact ih (i + 1) (by omega) he
  have lp : ∀ m i, i + m = x → (∀ j, j < i → ¬ shB r a b j = true) → wl_X7_doMeet_6 M (nI a) (nI b) (nI x) (fun (v5 : Int32) => ((v5 = 0 ∨ v5 = 1) ∧ (K v5))) (m + 1) 0 (nI i) := by
    intro m
    induction m with
    | zero =>
      intro i hi hj
      unfold wl_X7_doMeet_6
      rw [show i = x by omega, if_pos (Int32.le_refl _)]
      rw [if_pos (show apB r a b x = true from decide_eq_true (fun e he => hj e (by omega)))] at hK
      exact ⟨Or.inl rfl, hK⟩
    | succ m ih =>
      intro i hi hj
      unfold wl_X7_doMeet_6
      rw [if_neg (nI_ge (show i < x by omega) (by omega)), if_pos rfl, nI_1]
      refine areIn_ok hw hm ha hb (by omega) ?_
      by_cases h : shB r a b i = true
      · rw [if_pos h, if_neg (by decide)]
        exact l1 m (i + 1) (by omega) ⟨i, by omega, h⟩
      · rw [if_neg h, if_pos rfl]
        exact ih (i + 1) (by omega) (fun j hj' => by
          by_cases e : j = i
          · rw [e]; exact h
          · exact hj j (by omega))
  have key := lp x 0 (by omega) (fun j hj => absurd hj (by omega))
  rw [nI_0] at key
  exact ⟨_, key⟩
def frB (r : NS) (k : Nat) : Bool := alB r k && decide (r.2 9 k ≠ 2)
def mate (r : NS) (x a b : Nat) : Bool := decide (b ≠ a) && (frB r a && (frB r b && apB r a b x))
theorem free_0 {r : NS} (hw : WF r) {k : Nat} (hk : k < r.1 0) : F_X4_isFree (NI r) (nI k) = 0 ↔ ¬ frB r k = true := by
  have h6 := hw.2.1
  have h9 := (hw.2.2.2.2.2.2.2.1 k hk).2.2.1
  unfold F_X4_isFree frB
  rw [Bool.and_eq_true, decide_eq_true_eq]
  by_cases h : alB r k = true
  · rw [if_neg (fun y => (al_f hw hk).1 y h), getR _ _ (show k < 6 by omega) (by omega)]
    by_cases h2 : r.2 9 k = 2
    · rw [if_pos (by rw [h2, i2])]
      exact ⟨fun _ y => y.2 h2, fun _ => rfl⟩
    · rw [if_neg (by rw [i2, nI_eq (by omega) (by omega)]; exact h2)]
      exact ⟨fun y => absurd y (by decide), fun y => absurd ⟨h, h2⟩ y⟩
  · rw [if_pos ((al_f hw hk).2 h)]
    exact ⟨fun _ y => h y.1, fun _ => rfl⟩
theorem matesX {r : NS} (hw : WF r) {a x : Nat} (ha : a < r.1 0) (hx : x < 2 ^ 20) {K : Int32 → Prop} (hK : K (nI (msk (mate r x a) (r.1 0)))) : wp_X4_matesOf (NI r) (nI a) (nI x) K := by
  have h6 := hw.2.1
  have lp : ∀ m i, i + m = r.1 0 → wl_X4_matesOf_5 (NI r) (nI a) (nI x) K (m + 1) (nI (msk (mate r x a) i)) (nI i) := by
    intro m
    induction m with
    | zero =>
      intro i hi
      unfold wl_X4_matesOf_5
      rw [NI_1, show i = r.1 0 by omega, if_pos (Int32.le_refl _)]
      exact hK
    | succ m ih =>
      intro i hi
      have g := ih (i + 1) (by omega)
      have no : ¬ mate r x a i = true → wl_X4_matesOf_5 (NI r) (nI a) (nI x) K (m + 1) (nI (msk (mate r x a) i)) (nI (i + 1)) := fun h => by
        rw [msk_no h]
        exact g
      have ex : mate r x a i = true ↔ i ≠ a ∧ frB r a = true ∧ frB r i = true ∧ apB r a i x = true := by
        unfold mate
        rw [Bool.and_eq_true, Bool.and_eq_true, Bool.and_eq_true, decide_eq_true_eq]
      unfold wl_X4_matesOf_5
      rw [NI_1, if_neg (nI_ge (show i < r.1 0 by omega) (by omega)), nI_1]
      by_cases e : i = a
      · rw [if_pos (by rw [e])]
        exact no (fun y => (ex.1 y).1 e)
      · rw [if_neg (by rw [nI_eq (by omega) (by omega)]; exact e)]
        by_cases fa : frB r a = true
        · rw [if_neg (fun y => (free_0 hw ha).1 y fa)]
          by_cases fi : frB r i = true
          · rw [if_neg (fun y => (free_0 hw (by omega)).1 y fi)]
            refine apX hw ha (by omega) hx ?_
            by_cases ap : apB r a i x = true
            · rw [if_pos ap, if_neg (by decide), msk_or (by omega) (ex.2 ⟨e, fa, fi, ap⟩)]
              exact g
            · rw [if_neg ap, if_pos rfl]
              exact no (fun y => ap (ex.1 y).2.2.2)
          · rw [if_pos ((free_0 hw (by omega)).2 fi)]
            exact no (fun y => fi (ex.1 y).2.2.1)
        · rw [if_pos ((free_0 hw ha).2 fa)]
          exact no (fun y => fa (ex.1 y).2.1)
  have key := lp (r.1 0) 0 (by omega)
  rw [show nI (msk (mate r x a) 0) = 0 from nI_0, nI_0] at key
  exact ⟨_, key⟩
