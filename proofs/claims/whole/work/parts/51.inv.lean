-- what the two sides have in common
def rn (r : NS) : Nat := r.1 0
def alv (r : NS) (k : Nat) : Prop := r.1 5 / 2 ^ k % 2 = 1
def landI (r : NS) (k : Nat) : Int32 := if r.1 5 / 2 ^ k % 2 = 1 then nI ((k + 1 + r.2 7 k) % r.1 0) else (-6)
/-- a Round as it may be -/
def WF (r : NS) : Prop := 3 ≤ r.1 0 ∧ r.1 0 ≤ 6 ∧ 1 ≤ r.1 1 ∧ r.1 1 ≤ 99 ∧ r.1 3 < r.1 1 ∧ r.1 5 < 2 ^ r.1 0 ∧ r.1 6 ≤ 8 ∧
  (∀ k, k < r.1 0 → r.2 7 k < r.1 0 - 1 ∧ r.2 8 k < r.1 0 ∧ r.2 9 k ≤ 2 ∧ r.2 11 k ≤ 1 ∧ r.2 12 k ≤ 9) ∧
  (∀ i j, i < r.1 0 → j < r.1 0 → r.2 8 i = r.2 8 j → i = j) ∧ (∀ i, i < r.1 6 → r.2 13 i < r.1 0 ∧ r.2 14 i ≤ 1)
/-- the reference's own numbers of the same Round -/
def MR (M : St) (r : NS) : Prop := M.1 0 = nI (r.1 0) ∧ M.1 1 = nI (r.1 1) ∧ M.1 2 = nI (r.1 2) ∧ M.1 3 = nI (r.1 4) ∧ M.1 4 = nI (r.1 3) ∧ M.1 10 = nI (r.1 6) ∧
  (∀ k, k < r.1 0 → M.2 5 k = landI r k ∧ M.2 6 k = nI (r.2 8 k) ∧ M.2 7 k = nI (r.2 9 k) ∧ M.2 8 k = nI (r.2 12 k) ∧ M.2 9 k = nI (r.2 11 k)) ∧
  (∀ i, i < r.1 6 → M.2 11 (2 * i) = nI (r.2 13 i) ∧ M.2 11 (2 * i + 1) = nI (r.2 14 i))
/-- an image of the reference, as a state -/
def imSt (M : St) (i : Nat) : St := (fun j => if j = 0 then M.2 25 (70 * i + 50) else if j = 1 then M.2 25 (70 * i + 51) else if j = 2 then M.2 25 (70 * i + 52) else if j = 3 then M.2 25 (70 * i + 53) else if j = 4 then M.2 25 (70 * i + 54) else M.2 25 (70 * i + 55),
  fun j k => if j = 5 then M.2 25 (70 * i + k) else if j = 6 then M.2 25 (70 * i + (6 + k)) else if j = 7 then M.2 25 (70 * i + (12 + k)) else if j = 8 then M.2 25 (70 * i + (18 + k)) else if j = 9 then M.2 25 (70 * i + (24 + k)) else M.2 25 (70 * i + (30 + k)))
def ImR (X : St) (f : Int32) (M : St) (i : Nat) : Prop := M.2 26 i = f ∧ (f = 0 ∨ (f = 1 ∧ ∃ r, X = NI r ∧ WF r ∧ MR (imSt M i) r))
def PdR (X : St) (M : St) : Prop := ∃ (p : Nat) (d : Nat → Nat), p ≤ 60 ∧ X.1 1 = nI p ∧ M.1 12 = nI p ∧ ∀ k, k < p → X.2 0 k = nI (d k) ∧ M.2 13 k = nI (d k) ∧ 33 ≤ d k ∧ d k ≤ 126
def Inv : InvT := fun X0 _ X2 X3 X4 X5 _ _ _ M => (∃ r, X0 = NI r ∧ WF r ∧ MR M r) ∧ ImR X2 (X4 0) M 0 ∧ ImR X3 (X4 1) M 1 ∧ PdR X5 M
def Keep (M N : St) : Prop := (∀ i, i < 14 → N.1 i = M.1 i) ∧ (∀ j, j < 14 → N.2 j = M.2 j) ∧ N.2 25 = M.2 25 ∧ N.2 26 = M.2 26
theorem MR_of {M N : St} {r : NS} (h : MR M r) (h0 : N.1 0 = M.1 0) (h1 : N.1 1 = M.1 1) (h2 : N.1 2 = M.1 2) (h3 : N.1 3 = M.1 3) (h4 : N.1 4 = M.1 4) (h10 : N.1 10 = M.1 10) (a5 : N.2 5 = M.2 5) (a6 : N.2 6 = M.2 6) (a7 : N.2 7 = M.2 7) (a8 : N.2 8 = M.2 8) (a9 : N.2 9 = M.2 9) (a11 : N.2 11 = M.2 11) : MR N r := by
  unfold MR at h ⊢
  rw [h0, h1, h2, h3, h4, h10, a5, a6, a7, a8, a9, a11]
  exact h
theorem imSt_of {M N : St} (h : N.2 25 = M.2 25) (i : Nat) : imSt N i = imSt M i := by
  unfold imSt
  rw [h]
theorem ImR_of {X M N : St} {f : Int32} {i : Nat} (h : ImR X f M i) (h25 : N.2 25 = M.2 25) (h26 : N.2 26 = M.2 26) : ImR X f N i := by
  unfold ImR at h ⊢
  rw [imSt_of h25, h26]
  exact h
theorem PdR_of {X M N : St} (h : PdR X M) (h12 : N.1 12 = M.1 12) (h13 : N.2 13 = M.2 13) : PdR X N := by
  unfold PdR at h ⊢
  rw [h12, h13]
  exact h
theorem Inv_keep {X0 X1 X2 X3 : St} {X4 : Nat → Int32} {X5 X6 X7 X8 M : St} (h : Inv X0 X1 X2 X3 X4 X5 X6 X7 X8 M) {N : St} (k : Keep M N) (Y1 Y6 Y7 Y8 : St) : Inv X0 Y1 X2 X3 X4 X5 Y6 Y7 Y8 N := by
  obtain ⟨⟨r, h1, h2, h3⟩, h4, h5, h6⟩ := h
  obtain ⟨k1, k2, k3, k4⟩ := k
  exact ⟨⟨r, h1, h2, MR_of h3 (k1 0 (by omega)) (k1 1 (by omega)) (k1 2 (by omega)) (k1 3 (by omega)) (k1 4 (by omega)) (k1 10 (by omega)) (k2 5 (by omega)) (k2 6 (by omega)) (k2 7 (by omega)) (k2 8 (by omega)) (k2 9 (by omega)) (k2 11 (by omega))⟩, ImR_of h4 k3 k4, ImR_of h5 k3 k4, PdR_of h6 (k1 12 (by omega)) (k2 13 (by omega))⟩
theorem Keep.refl (M : St) : Keep M M := ⟨fun _ _ => rfl, fun _ _ => rfl, rfl, rfl⟩
theorem Keep.trans {M N O : St} (h : Keep M N) (g : Keep N O) : Keep M O := ⟨fun i hi => (g.1 i hi).trans (h.1 i hi), fun i hi => (g.2.1 i hi).trans (h.2.1 i hi), g.2.2.1.trans h.2.2.1, g.2.2.2.trans h.2.2.2⟩
theorem Keep.sI (M : St) {k : Nat} (hk : 14 ≤ k) (v : Int32) : Keep M (sI M k v) := by
  refine ⟨fun i hi => ?_, fun _ _ => rfl, rfl, rfl⟩
  show va_up M.1 k v i = _
  unfold va_up
  rw [if_neg (by omega)]
theorem Keep.sA (M : St) {k : Nat} (hk : 14 ≤ k) (h2 : k < 25) (f : Nat → Int32) : Keep M (sA M k f) := by
  refine ⟨fun _ _ => rfl, fun i hi => ?_, ?_, ?_⟩
  · show va_up M.2 k f i = _
    unfold va_up
    rw [if_neg (by omega)]
  · show va_up M.2 k f 25 = _
    unfold va_up
    rw [if_neg (by omega)]
  · show va_up M.2 k f 26 = _
    unfold va_up
    rw [if_neg (by omega)]
/-! reading states put anew -/
theorem sI_1 (S : St) (k : Nat) (v : Int32) (i : Nat) : (sI S k v).1 i = if i = k then v else S.1 i := rfl
theorem sI_2 (S : St) (k : Nat) (v : Int32) : (sI S k v).2 = S.2 := rfl
theorem sA_1 (S : St) (k : Nat) (f : Nat → Int32) : (sA S k f).1 = S.1 := rfl
theorem sA_2 (S : St) (k : Nat) (f : Nat → Int32) (j : Nat) : (sA S k f).2 j = if j = k then f else S.2 j := rfl
theorem upd_at (f : Nat → Int32) (k : Nat) (v : Int32) (j : Nat) : upd f k v j = if j = k then v else f j := rfl
/-! which child -/
theorem has_one {r : NS} {M : St} (hw : WF r) (hm : MR M r) (x : Int32) : F_X2_has (NI r) x = F_X7_isOne M x ∧ (F_X7_isOne M x = 0 ∨ ∃ k, k < r.1 0 ∧ x = nI k ∧ F_X7_isOne M x = 1) := by
  obtain ⟨h3, h6, -⟩ := hw
  have e : M.1 0 - 1 = nI (r.1 0 - 1) := by rw [hm.1]; exact pk_sub (a := r.1 0) (b := 1) (by omega)
  unfold F_X7_isOne F_X7_in F_X2_has
  rw [NI_1, e]
  rcases cases_ix x (n := r.1 0) (by omega) with ⟨j, hj, rfl⟩ | h | ⟨h1, h2⟩
  · rw [if_neg (nI_pos (by omega)), if_neg (nI_ge hj (by omega)), if_neg (nI_pos (by omega)), if_neg (nI_nlt (by omega) (by omega))]
    exact ⟨rfl, Or.inr ⟨j, hj, rfl, rfl⟩⟩
  · rw [if_pos h, if_pos h]
    exact ⟨rfl, Or.inl rfl⟩
  · rw [if_neg h1, if_pos h2, if_neg h1]
    have h4 : nI (r.1 0 - 1) < x := by
      refine Int32.lt_of_lt_of_le ?_ h2
      exact nI_lt (by omega) (by omega)
    rw [if_pos h4]
    exact ⟨rfl, Or.inl rfl⟩
