-- what befalls a child
def alB (r : NS) (k : Nat) : Bool := decide (r.1 5 / 2 ^ k % 2 = 1)
def nDie (r : NS) (k : Nat) : NS := nsI r 5 (r.1 5 - 2 ^ k)
def nBind (r : NS) (k b : Nat) : NS := nsA r 9 (nup (r.2 9) k b)
def nSwap (r : NS) (a b : Nat) : NS := nsA r 8 (nup (nup (r.2 8) a (r.2 8 b)) b (r.2 8 a))
def bindF (r : NS) (k b : Nat) : Nat × NS := if alB r k = true then (if r.2 9 k = 0 then (0, nBind r k b) else (4, r)) else (1, r)
def dieF (r : NS) (k : Nat) : Nat × NS := if alB r k = true then (0, nDie r k) else (1, r)
def hatF (r : NS) (a b : Nat) : Nat × NS := if alB r a = true then (if alB r b = true then (if a = b then (2, r) else if r.1 3 = 0 then (0, nSwap r a b) else (3, r)) else (1, r)) else (1, r)
def fate (r : NS) (k s : Nat) : Nat × NS := if s = 100 then dieF r k else if s = 109 then bindF r k 2 else if s = 115 then bindF r k 1 else hatF r k (s - 65)
theorem t_die : ∀ lv, lv < 64 → ∀ k, k < 6 → (if lv / 2 ^ k % 2 = 1 then (nI lv &&& (((1 : Int32) <<< (nI k &&& 31)) ^^^ (-1))) else nI (lv - 2 ^ k)) = nI (lv - 2 ^ k) := by decide +kernel
theorem t_dbit : ∀ lv, lv < 64 → ∀ k, k < 6 → ∀ j, j < 6 → (if lv / 2 ^ k % 2 = 1 then (lv - 2 ^ k) / 2 ^ j % 2 else (if j = k then 0 else lv / 2 ^ j % 2)) = (if j = k then 0 else lv / 2 ^ j % 2) := by decide +kernel
theorem al_f {r : NS} (hw : WF r) {k : Nat} (hk : k < r.1 0) : F_X2_lives (NI r) (nI k) = 0 ↔ ¬ alB r k = true := by
  rw [lives_0 hw hk]
  unfold alB
  rw [decide_eq_true_eq]
theorem dieX {r : NS} (hw : WF r) {k : Nat} (hk : k < r.1 0) {K : Int32 → St → Prop} (hK : K (nI (dieF r k).1) (NI (dieF r k).2)) : wp_X2_die (NI r) (nI k) K := by
  have h6 := hw.2.1
  unfold wp_X2_die
  unfold dieF at hK
  by_cases h : alB r k = true
  · rw [if_pos h] at hK
    rw [if_neg (fun x => (al_f hw hk).1 x h)]
    have e := t_die (r.1 5) (lv64 hw) k (by omega)
    rw [if_pos (by unfold alB at h; exact of_decide_eq_true h)] at e
    rw [NI_1, e, sI_NI, show (0 : Int32) = nI 0 from nI_0.symm]
    exact hK
  · rw [if_neg h] at hK
    rw [if_pos ((al_f hw hk).2 h), i1]
    exact hK
theorem bindX {r : NS} (hw : WF r) {k b : Nat} (hk : k < r.1 0) {x : Int32} (hx : x = nI b) {K : Int32 → St → Prop} (hK : K (nI (bindF r k b).1) (NI (bindF r k b).2)) : wp_X2_bind (NI r) (nI k) x K := by
  have h6 := hw.2.1
  have h9 : r.2 9 k ≤ 2 := (hw.2.2.2.2.2.2.2.1 k hk).2.2.1
  subst hx
  unfold wp_X2_bind
  unfold bindF at hK
  by_cases h : alB r k = true
  · rw [if_pos h] at hK
    rw [if_neg (fun x => (al_f hw hk).1 x h), getR _ _ (show k < 6 by omega) (by omega)]
    by_cases h0 : r.2 9 k = 0
    · rw [if_pos h0] at hK
      rw [if_pos (by rw [h0, nI_0])]
      refine put_nI (show k < 6 by omega) (by omega) ?_
      rw [NI_up, show (0 : Int32) = nI 0 from nI_0.symm]
      exact hK
    · rw [if_neg h0] at hK
      rw [if_neg (nI_ne0 (by omega) (by omega)), show (4 : Int32) = nI 4 by decide]
      exact hK
  · rw [if_neg h] at hK
    rw [if_pos ((al_f hw hk).2 h), i1]
    exact hK
theorem hatX {r : NS} (hw : WF r) {a b : Nat} (ha : a < r.1 0) (hb : b < r.1 0) {K : Int32 → St → Prop} (hK : K (nI (hatF r a b).1) (NI (hatF r a b).2)) : wp_X2_changeHats (NI r) (nI a) (nI b) K := by
  obtain ⟨w0, w1, w2, w3, w4, -⟩ := id hw
  unfold wp_X2_changeHats
  unfold hatF at hK
  by_cases h : alB r a = true
  · rw [if_pos h] at hK
    rw [if_neg (fun x => (al_f hw ha).1 x h)]
    by_cases h2 : alB r b = true
    · rw [if_pos h2] at hK
      rw [if_neg (fun x => (al_f hw hb).1 x h2)]
      by_cases hab : a = b
      · rw [if_pos hab] at hK
        rw [if_pos (by rw [hab]), i2]
        exact hK
      · rw [if_neg hab] at hK
        rw [if_neg (by rw [nI_eq (by omega) (by omega)]; exact hab), NI_1]
        by_cases h3 : r.1 3 = 0
        · rw [if_pos h3] at hK
          rw [if_pos (by rw [h3, nI_0])]
          unfold wp_X2_swapNames
          rw [getR _ _ (show a < 6 by omega) (by omega), getR _ _ (show b < 6 by omega) (by omega)]
          refine put_nI (show a < 6 by omega) (by omega) (put_nI (show b < 6 by omega) (by omega) ?_)
          rw [sA_sA, NI_2f, upd_nI, upd_nI, sA_NI, show (0 : Int32) = nI 0 from nI_0.symm]
          exact hK
        · rw [if_neg h3] at hK
          rw [if_neg (nI_ne0 (by omega) (by omega)), show (3 : Int32) = nI 3 by decide]
          exact hK
    · rw [if_neg h2] at hK
      rw [if_pos ((al_f hw hb).2 h2), i1]
      exact hK
  · rw [if_neg h] at hK
    rw [if_pos ((al_f hw ha).2 h), i1]
    exact hK
/-- a fate of the pad: of a child, at a sign that can stand there -/
def okF (n s : Nat) : Prop := ftB s = true ∨ chB n s = true
theorem t_s : ∀ s, s < 127 → (nI s = 100 ↔ s = 100) ∧ (nI s = 109 ↔ s = 109) ∧ (nI s = 115 ↔ s = 115) := by decide +kernel
theorem okF_h {n s : Nat} (h : okF n s) (h1 : s ≠ 100) (h2 : s ≠ 109) (h3 : s ≠ 115) : 65 ≤ s ∧ s < 65 + n := by
  rcases h with h | h
  · unfold ftB at h
    rw [decide_eq_true_eq] at h
    omega
  · unfold chB at h
    rw [decide_eq_true_eq] at h
    exact h
theorem fateX {r : NS} (hw : WF r) {k s : Nat} (hk : k < r.1 0) (hs : s < 127) (ho : okF (r.1 0) s) {K : Int32 → St → Prop} (hK : K (nI (fate r k s).1) (NI (fate r k s).2)) : wp_X5_befall (NI r) (nI k) (nI s) K := by
  obtain ⟨t1, t2, t3⟩ := t_s s hs
  unfold wp_X5_befall
  unfold fate at hK
  by_cases h1 : s = 100
  · rw [if_pos h1] at hK
    rw [if_pos (t1.2 h1)]
    exact dieX hw hk hK
  · rw [if_neg h1] at hK
    rw [if_neg (fun x => h1 (t1.1 x))]
    by_cases h2 : s = 109
    · rw [if_pos h2] at hK
      rw [if_pos (t2.2 h2)]
      exact bindX hw hk i2 hK
    · rw [if_neg h2] at hK
      rw [if_neg (fun x => h2 (t2.1 x))]
      by_cases h3 : s = 115
      · rw [if_pos h3] at hK
        rw [if_pos (t3.2 h3)]
        exact bindX hw hk i1 hK
      · rw [if_neg h3] at hK
        rw [if_neg (fun x => h3 (t3.1 x))]
        have hb := okF_h ho h1 h2 h3
        rw [show nI s - 65 = nI (s - 65) from pk_sub (a := s) (b := 65) (by omega)]
        exact hatX hw hk (by omega) hK
theorem dieF_wf {r : NS} (hw : WF r) {k : Nat} (hk : k < r.1 0) : WF (dieF r k).2 := by
  unfold dieF
  split
  · obtain ⟨w0, w1, w2, w3, w4, w5, w6, w7, w8, w9⟩ := hw
    exact ⟨w0, w1, w2, w3, w4, Nat.lt_of_le_of_lt (Nat.sub_le _ _) w5, w6, w7, w8, w9⟩
  · exact hw
theorem bindF_wf {r : NS} (hw : WF r) {k b : Nat} (hb : b ≤ 2) : WF (bindF r k b).2 := by
  unfold bindF
  split
  · split
    · obtain ⟨w0, w1, w2, w3, w4, w5, w6, w7, w8, w9⟩ := hw
      refine ⟨w0, w1, w2, w3, w4, w5, w6, fun j hj => ?_, w8, w9⟩
      obtain ⟨a, c, e, f, g⟩ := w7 j hj
      refine ⟨a, c, ?_, f, g⟩
      show nup (r.2 9) k b j ≤ 2
      unfold nup
      split <;> omega
    · exact hw
  · exact hw
theorem hatF_wf {r : NS} (hw : WF r) {a b : Nat} (ha : a < r.1 0) (hb : b < r.1 0) : WF (hatF r a b).2 := by
  unfold hatF
  split
  · split
    · split
      · exact hw
      · rename_i hab
        split
        · obtain ⟨w0, w1, w2, w3, w4, w5, w6, w7, w8, w9⟩ := hw
          refine ⟨w0, w1, w2, w3, w4, w5, w6, fun j hj => ?_, fun i j hi hj h => ?_, w9⟩
          · obtain ⟨p, c, e, f, g⟩ := w7 j hj
            refine ⟨p, ?_, e, f, g⟩
            show nup (nup (r.2 8) a (r.2 8 b)) b (r.2 8 a) j < r.1 0
            unfold nup
            split
            · exact (w7 a ha).2.1
            · split
              · exact (w7 b hb).2.1
              · exact c
          · have hi : i < r.1 0 := hi
            have hj : j < r.1 0 := hj
            have h : nup (nup (r.2 8) a (r.2 8 b)) b (r.2 8 a) i = nup (nup (r.2 8) a (r.2 8 b)) b (r.2 8 a) j := h
            unfold nup at h
            have u := fun x y hx hy => w8 x y hx hy
            by_cases i1 : i = b <;> by_cases i2 : i = a <;> by_cases j1 : j = b <;> by_cases j2 : j = a
            all_goals first | omega | skip
            all_goals (first | rw [if_pos i1] at h | rw [if_neg i1] at h)
            all_goals (first | rw [if_pos j1] at h | rw [if_neg j1] at h | skip)
            all_goals (first | rw [if_pos i2] at h | rw [if_neg i2] at h | skip)
            all_goals (first | rw [if_pos j2] at h | rw [if_neg j2] at h | skip)
            all_goals (first | (have := w8 _ _ ha hj h; omega) | (have := w8 _ _ hb hj h; omega) | (have := w8 _ _ hi ha h; omega) | (have := w8 _ _ hi hb h; omega) | (have := w8 _ _ ha hb h; omega) | (have := w8 _ _ hb ha h; omega) | (exact w8 _ _ hi hj h))
        · exact hw
    · exact hw
  · exact hw
theorem fate_wf {r : NS} (hw : WF r) {k s : Nat} (hk : k < r.1 0) (ho : okF (r.1 0) s) : WF (fate r k s).2 := by
  unfold fate
  by_cases h1 : s = 100
  · rw [if_pos h1]; exact dieF_wf hw hk
  · rw [if_neg h1]
    by_cases h2 : s = 109
    · rw [if_pos h2]; exact bindF_wf hw (by omega)
    · rw [if_neg h2]
      by_cases h3 : s = 115
      · rw [if_pos h3]; exact bindF_wf hw (by omega)
      · rw [if_neg h3]
        have hb := okF_h ho h1 h2 h3
        exact hatF_wf hw hk (by omega)
