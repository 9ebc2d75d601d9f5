-- hear
def brB (r : NS) (q c : Nat) : Bool := !decide (∀ k, k < r.1 0 → ¬ (dg (r.1 0) c k = q ∧ r.2 11 k = 1))
theorem brB_t {r : NS} {q c : Nat} : brB r q c = true ↔ ∃ k, k < r.1 0 ∧ dg (r.1 0) c k = q ∧ r.2 11 k = 1 := by
  unfold brB
  rw [Bool.not_eq_true', decide_eq_false_iff_not]
  constructor
  · intro h
    apply Classical.byContradiction
    intro y
    exact h (fun k hk z => y ⟨k, hk, z.1, z.2⟩)
  · intro ⟨k, a, b, c⟩ h
    exact h k a ⟨b, c⟩
def Vq (r : NS) (wt : Nat → Nat) (nf q c : Nat) : Bool := Vb r wt nf c && brB r q c
def nbN (r : NS) (wt : Nat → Nat) (nf q : Nat) : Nat := sm (vI (Vq r wt nf q)) (7 ^ r.1 0)
def ttN (r : NS) (wt : Nat → Nat) (nf : Nat) : Nat := sm (vI (Vb r wt nf)) (7 ^ r.1 0)
theorem sm_mono {f g : Nat → Nat} (h : ∀ i, f i ≤ g i) : ∀ m, sm f m ≤ sm g m := by
  intro m
  induction m with
  | zero => exact Nat.le_refl _
  | succ m ih =>
    show sm f m + f m ≤ sm g m + g m
    have := h m
    omega
theorem nb_le (r : NS) (wt : Nat → Nat) (nf q : Nat) : nbN r wt nf q ≤ ttN r wt nf := by
  refine sm_mono (fun c => ?_) _
  unfold vI Vq
  cases Vb r wt nf c <;> cases brB r q c <;> decide
/-- the rows whose bearer of q coughs -/
theorem nb_W {r : NS} (hw : WF r) {wt : Nat → Nat} (hw2 : ∀ q, wt q ≤ 2) {q : Nat} (ho : dA r q = true) (e : wt q = 0) : nbN r wt 0 q = wyN (cN (dD r) (cgB r) true (r.1 0) 0) (cN (dD r) (cgB r) false (r.1 0) 0) (oN (dA r) wt 1 + 1) (oN (dA r) wt 2) := by
  have h6 := hw.2.1
  have q6 := dA_6 _ ho
  obtain ⟨t1, t2⟩ := oN_w (w := wt) (x := 1) ho q6 e (by omega)
  have n2 : ∀ p, nup wt q 1 p ≤ 2 := fun p => by
    unfold nup
    split
    · omega
    · exact hw2 p
  have tw := tot_W hw n2
  rw [t1, t2 2 (by omega) (by omega)] at tw
  rw [← tw]
  refine sm_congr _ (fun c _ => ?_)
  have iff : Vq r wt 0 q c = true ↔ gd (dD r) (cgB r) (nup wt q 1) (dA r) (r.1 0) c = true := by
    unfold Vq
    rw [Vb_0, Bool.and_eq_true, brB_t]
    constructor
    · intro ⟨hg, k, hk, ek, ck⟩
      have hg' := hg
      rw [gd_t] at hg' ⊢
      have k7 : dD r k = 7 := Classical.byContradiction (fun y => by
        have := (hg' k hk).2 y
        rw [dD_6 y] at this
        omega)
      intro i hi
      refine ⟨fun h7 => ?_, (hg' i hi).2⟩
      obtain ⟨s1, s2, s3⟩ := (hg' i hi).1 h7
      refine ⟨s1, ?_, s3⟩
      by_cases ei : dg (r.1 0) c i = q
      · have e2 : i = k := by
          by_cases l1 : i < k
          · exact absurd (ei.trans ek.symm) (((hg' k hk).1 k7).2.2 i l1 h7)
          · by_cases l2 : k < i
            · exact absurd (ek.trans ei.symm) (s3 k l2 k7)
            · omega
        rw [ei, e2]
        unfold sutB
        rw [if_pos (cgB_t.2 ck)]
        unfold nup
        rw [if_pos rfl]
        decide
      · unfold sutB nup
        rw [if_neg ei]
        exact s2
    · intro hg
      have hg' := hg
      rw [gd_t] at hg'
      obtain ⟨k, hk, k7, ek⟩ := gd_all dA_6 (crd_dA hw) hg ho
      refine ⟨?_, k, hk, ek, ?_⟩
      · rw [gd_t]
        intro i hi
        refine ⟨fun h7 => ?_, (hg' i hi).2⟩
        obtain ⟨s1, s2, s3⟩ := (hg' i hi).1 h7
        refine ⟨s1, ?_, s3⟩
        by_cases ei : dg (r.1 0) c i = q
        · unfold sutB
          rw [ei, e]
          split <;> decide
        · unfold sutB nup at s2
          rw [if_neg ei] at s2
          exact s2
      · have s2 := ((hg' k hk).1 k7).2.1
        rw [ek] at s2
        unfold sutB at s2
        by_cases hc : cgB r k = true
        · exact cgB_t.1 hc
        · rw [if_neg hc] at s2
          unfold nup at s2
          rw [if_pos rfl] at s2
          exact absurd s2 (by decide)
  unfold vI
  by_cases h : Vq r wt 0 q c = true
  · rw [if_pos h, if_pos (iff.1 h)]
  · rw [if_neg h, if_neg (fun y => h (iff.2 y))]
theorem nb_all {r : NS} (hw : WF r) {wt : Nat → Nat} {nf q : Nat} (ho : dA r q = true) (e : wt q = 1) : nbN r wt nf q = ttN r wt nf := by
  refine sm_congr _ (fun c _ => ?_)
  have iff : Vq r wt nf q c = true ↔ Vb r wt nf c = true := by
    unfold Vq
    rw [Bool.and_eq_true, brB_t]
    refine ⟨fun h => h.1, fun h => ⟨h, ?_⟩⟩
    unfold Vb at h
    rw [Bool.and_eq_true] at h
    obtain ⟨k, hk, k7, ek⟩ := gd_all dA_6 (crd_dA hw) h.2 ho
    refine ⟨k, hk, ek, ?_⟩
    have hg := h.2
    rw [gd_t] at hg
    have s2 := ((hg k hk).1 k7).2.1
    rw [ek] at s2
    unfold sutB at s2
    by_cases hc : cgB r k = true
    · exact cgB_t.1 hc
    · rw [if_neg hc, e] at s2
      exact absurd s2 (by decide)
  unfold vI
  by_cases h : Vq r wt nf q c = true
  · rw [if_pos h, if_pos (iff.1 h)]
  · rw [if_neg h, if_neg (fun y => h (iff.2 y))]
theorem nb_none {r : NS} {wt : Nat → Nat} {nf q : Nat} (q6 : q < 6) (e : wt q = 2) : nbN r wt nf q = 0 := by
  refine sm_0 _ (fun c _ => ?_)
  have no : ¬ Vq r wt nf q c = true := by
    unfold Vq
    rw [Bool.and_eq_true, brB_t]
    intro ⟨h, k, hk, ek, ck⟩
    unfold Vb at h
    rw [Bool.and_eq_true, gd_t] at h
    have k7 : dD r k = 7 := Classical.byContradiction (fun y => by
      have := (h.2 k hk).2 y
      rw [dD_6 y] at this
      omega)
    have s2 := ((h.2 k hk).1 k7).2.1
    rw [ek] at s2
    unfold sutB at s2
    rw [if_pos (cgB_t.2 ck), e] at s2
    exact absurd s2 (by decide)
  unfold vI
  rw [if_neg no]
def mlN (r : NS) (wt : Nat → Nat) (nf q : Nat) : Nat := max (nbN r wt nf q) (ttN r wt nf - nbN r wt nf q)
theorem ml_le (r : NS) (wt : Nat → Nat) (nf q : Nat) : mlN r wt nf q ≤ ttN r wt nf := by
  have := nb_le r wt nf q
  unfold mlN
  omega
theorem t_mi1 : ∀ x, x < 7 → ∀ y, y < 8 → ∀ z, z < 8 → y + z = x + 1 → nI x - nI y - nI z = -1 := by decide +kernel
theorem mostX1 {r : NS} (hw : WF r) {Z : St} {wt : Nat → Nat} {nf q : Nat} (hw2 : ∀ q, wt q ≤ 2) (hn : nf < 2) (hq : q < 6) (hwt : wt q ≠ 0 → dA r q = true) (hz : DXS Z (cN (dD r) (cgB r) true (r.1 0) 0) (cN (dD r) (cgB r) false (r.1 0) 0) (dA r) wt nf) {K : Int32 → Prop} (hK : dA r q = true → K (nI (mlN r wt nf q))) (hA : ¬ dA r q = true → ∀ v, K v) : wp_X0_mostLeftBy Z (nI q) K := by
  have h6 := hw.2.1
  have b7 := p7 h6
  have tl : ttN r wt nf ≤ 7 ^ r.1 0 := sm_vl _ _
  have l := cN_le (dD r) (cgB r) (r.1 0) 0
  have al := oN_all (O := dA r) hw2
  have cc := crd_c hw
  have nl := nb_le r wt nf q
  unfold wp_X0_mostLeftBy
  refine waysZ hw hw2 hn hz ?_
  obtain ⟨v, hv, e, hx⟩ := hz
  have hx' := hx
  obtain ⟨z1, z2, z3, z4, z5, z6, z0⟩ := hx
  rw [get_nI _ hq (by omega), z0 q hq]
  have w3 := hw2 q
  have kt : mlN r wt nf q = ttN r wt nf → K (nI (ttN r wt nf)) := fun h => by
    by_cases o : dA r q = true
    · have := hK o
      rw [h] at this
      exact this
    · exact hA o _
  by_cases w0 : wt q = 0
  · rw [if_pos (by rw [w0]; decide), z6]
    by_cases n0 : nf = 0
    · rw [if_pos (by rw [n0]; decide), z4, z5, nI_1]
      by_cases o : dA r q = true
      · have o1 := oN_m (wt := wt) o hq w0
        refine waysIfX hx' (by omega) (by omega) ?_
        subst n0
        rw [← nb_W hw hw2 o w0]
        rw [show sm (vI (Vb r wt 0)) (7 ^ r.1 0) = ttN r wt 0 from rfl, pk_sub nl, jmax_nI (by omega) (by omega)]
        exact hK o
      · by_cases s : oN (dA r) wt 1 + 1 + oN (dA r) wt 2 ≤ cN (dD r) (cgB r) true (r.1 0) 0 + cN (dD r) (cgB r) false (r.1 0) 0
        · exact waysIfX hx' (by omega) s (hA o _)
        · unfold wp_X0_waysIf
          rw [z2, z3, nI_add, t_mi1 _ (by omega) _ (by omega) _ (by omega) (by omega)]
          refine picksX (by omega) (by omega) (picksX (by omega) (by omega) ?_)
          unfold wp_X0_picks
          rw [if_pos (Int32.le_refl _)]
          refine ⟨1, ?_⟩
          unfold wl_X0_picks_11
          rw [if_pos (by decide)]
          exact hA o _
    · rw [if_neg (nI_ne0 (by omega) (by omega))]
      refine kt ?_
      have : ttN r wt nf = 0 := by
        show sm (vI (Vb r wt nf)) (7 ^ r.1 0) = 0
        rw [Vb_n hw hw2, if_neg n0]
      unfold mlN
      omega
  · rw [if_neg (nI_ne0 (by omega) (by omega))]
    refine kt ?_
    unfold mlN
    by_cases w1 : wt q = 1
    · rw [nb_all hw (hwt w0) w1]
      omega
    · rw [nb_none hq (show wt q = 2 by omega)]
      omega
def hbF (O : Nat → Bool) (ml : Nat → Nat) : Nat → Option Nat
  | 0 => none
  | i + 1 => match hbF O ml i with
    | none => if O i = true then some i else none
    | some b => if O i = true ∧ ml i < ml b then some i else some b
def opI : Option Nat → Int32
  | none => -6
  | some b => nI b
theorem hb_lt {O : Nat → Bool} {ml : Nat → Nat} {b : Nat} : ∀ i, hbF O ml i = some b → b < i ∧ O b = true := by
  intro i
  induction i generalizing b with
  | zero => exact fun h => absurd h (by simp [hbF])
  | succ i ih =>
    intro h
    unfold hbF at h
    cases e : hbF O ml i with
    | none =>
      rw [e] at h
      dsimp only at h
      by_cases o : O i = true
      · rw [if_pos o] at h
        have := Option.some.inj h
        subst this
        exact ⟨by omega, o⟩
      · rw [if_neg o] at h
        exact absurd h (by simp)
    | some b' =>
      rw [e] at h
      dsimp only at h
      by_cases o : O i = true ∧ ml i < ml b'
      · rw [if_pos o] at h
        have := Option.some.inj h
        subst this
        exact ⟨by omega, o.1⟩
      · rw [if_neg o] at h
        have := Option.some.inj h
        subst this
        obtain ⟨x, y⟩ := ih e
        exact ⟨by omega, y⟩
theorem nI_m6 {b : Nat} (h : b < 2 ^ 31) : ¬ nI b = -6 := fun y => absurd (y ▸ nI_pos' h : (0 : Int32) ≤ (-6)) (by decide)
def hbT (r : NS) (wt : Nat → Nat) (nf i : Nat) : Option Nat := if ttN r wt nf = 0 then none else hbF (dA r) (mlN r wt nf) i
theorem hearX {r : NS} (hw : WF r) {Z : St} {wt : Nat → Nat} {nf : Nat} (hw2 : ∀ q, wt q ≤ 2) (hn : nf < 2) (hwt : ∀ q, wt q ≠ 0 → dA r q = true) (hz : DXS Z (cN (dD r) (cgB r) true (r.1 0) 0) (cN (dD r) (cgB r) false (r.1 0) 0) (dA r) wt nf) {K : Int32 → Prop} (hK : K (opI (hbT r wt nf (r.1 0)))) : wp_X0_nameToHear Z (nI (r.1 0)) K := by
  have h6 := hw.2.1
  have b7 := p7 h6
  have tl : ttN r wt nf ≤ 7 ^ r.1 0 := sm_vl _ _
  have hz' := hz
  obtain ⟨v, hv, ev, hx⟩ := hz
  have lp : ∀ m i, i + m = r.1 0 → wl_X0_nameToHear_5 Z (nI (r.1 0)) K (m + 1) (opI (hbT r wt nf i)) (nI i) := by
    intro m
    induction m with
    | zero =>
      intro i hi
      unfold wl_X0_nameToHear_5
      rw [show i = r.1 0 by omega, if_pos (Int32.le_refl _)]
      exact hK
    | succ m ih =>
      intro i hi
      have g := ih (i + 1) (by omega)
      have op := openX (q := i) hx hv (by omega)
      rw [ev] at op
      unfold hbT at g ⊢
      unfold wl_X0_nameToHear_5
      rw [if_neg (nI_ge (show i < r.1 0 by omega) (by omega)), nI_1]
      have ways := fun (K : Int32 → Prop) (hK : K (nI (ttN r wt nf))) => waysZ hw hw2 hn hz' (K := K) hK
      by_cases t0 : ttN r wt nf = 0
      · rw [if_pos t0] at g ⊢
        rw [if_pos (show opI none = -6 from rfl)]
        refine ways _ ?_
        rw [t0, nI_0, if_pos (Int32.le_refl _)]
        exact g
      · rw [if_neg t0] at g ⊢
        unfold hbF at g
        cases hb : hbF (dA r) (mlN r wt nf) i with
        | none =>
          rw [hb] at g
          dsimp only at g
          rw [if_pos (show opI none = -6 from rfl)]
          refine ways _ ?_
          rw [if_neg (by rw [← nI_0]; exact nI_ge (by omega) (by omega))]
          by_cases o : dA r i = true
          · rw [if_pos o] at g
            rw [if_neg (fun y => op.1 y o)]
            exact g
          · rw [if_neg o] at g
            rw [if_pos (op.2 o)]
            exact g
        | some b =>
          obtain ⟨bl, bo⟩ := hb_lt i hb
          rw [hb] at g
          dsimp only at g
          rw [if_neg (show ¬ opI (some b) = -6 from nI_m6 (by omega))]
          have lb := ml_le r wt nf b
          have li := ml_le r wt nf i
          refine mostX1 hw hw2 hn (show i < 6 by omega) (hwt i) hz' (fun o => ?_) (fun o v6 => ?_)
          · refine mostX1 hw hw2 hn (show b < 6 by omega) (hwt b) hz' (fun _ => ?_) (fun y => absurd bo y)
            by_cases l : mlN r wt nf i < mlN r wt nf b
            · rw [if_pos ⟨o, l⟩] at g
              rw [if_neg (nI_ge l (by omega))]
              refine ways _ ?_
              rw [if_neg (by rw [← nI_0]; exact nI_ge (by omega) (by omega)), if_neg (fun y => op.1 y o)]
              exact g
            · rw [if_neg (fun y => l y.2)] at g
              rw [if_pos (nI_le (by omega) (by omega))]
              refine ways _ ?_
              rw [if_neg (by rw [← nI_0]; exact nI_ge (by omega) (by omega)), if_neg (fun y => op.1 y o)]
              exact g
          · rw [if_neg (fun y => o y.1)] at g
            refine mostX1 hw hw2 hn (show b < 6 by omega) (hwt b) hz' (fun _ => ?_) (fun y => absurd bo y)
            by_cases l : nI (mlN r wt nf b) ≤ v6
            · rw [if_pos l]
              refine ways _ ?_
              rw [if_neg (by rw [← nI_0]; exact nI_ge (by omega) (by omega)), if_pos (op.2 o)]
              exact g
            · rw [if_neg l]
              refine ways _ ?_
              rw [if_neg (by rw [← nI_0]; exact nI_ge (by omega) (by omega)), if_pos (op.2 o)]
              exact g
  have key := lp (r.1 0) 0 (by omega)
  rw [nI_0, show hbT r wt nf 0 = none by unfold hbT; split <;> rfl, show opI none = -6 from rfl] at key
  exact ⟨_, key⟩
-- the reference's hear
theorem z22 {M : St} {kx : St → Prop} (hK : ∀ S', Keep M S' → (∀ q, q < 6 → S'.2 24 q = 0) → kx S') : ∀ m i (S : St), i + m = 6 → Keep M S → (∀ q, q < i → S.2 24 q = 0) → wl_X7_hear_22 kx (m + 1) (nI i) S := by
  have e6 : (6 : Int32) = nI 6 := by decide
  intro m
  induction m with
  | zero =>
    intro i S hi hS h
    unfold wl_X7_hear_22
    rw [e6, show i = 6 by omega, if_pos (Int32.le_refl _)]
    exact hK S hS (fun q hq => h q (by omega))
  | succ m ih =>
    intro i S hi hS h
    unfold wl_X7_hear_22
    rw [e6, if_neg (nI_ge (show i < 6 by omega) (by omega)), clamp_nI (by omega), nI_1]
    refine ⟨vp6 (by omega), ih (i + 1) _ (by omega) (hS.trans (Keep.sA S (by omega) (by omega) _)) (fun q hq => ?_)⟩
    rw [sA_2, if_pos rfl, upd_at]
    by_cases e : q = i
    · rw [if_pos e]
    · rw [if_neg e]
      exact h q (by omega)
theorem c67 {M : St} {r : NS} (hw : WF r) (hm : MR M r) {c : Nat} (hd : rfK (dD r) (dA r) (r.1 0) c 0 = true) {f : Nat → Nat} {kx : St → Prop} (hK : ∀ S', Keep M S' → (∀ q, q < r.1 0 → S'.2 24 q = nI (f q + if brB r q c = true then 1 else 0)) → kx S') : ∀ m i (S : St), i + m = r.1 0 → Keep M S → (∀ k, k < r.1 0 → S.2 23 k = nI (dg (r.1 0) c k)) → (∀ q, q < r.1 0 → S.2 24 q = nI (if q < i then f q + (if brB r q c = true then 1 else 0) else f q)) → wl_X7_hear_67 kx (m + 1) (nI i) S := by
  have h6 := hw.2.1
  intro m
  induction m with
  | zero =>
    intro i S hi hS hr h
    unfold wl_X7_hear_67
    rw [(MRk hm hS).1, show i = r.1 0 by omega, if_pos (Int32.le_refl _)]
    refine hK S hS (fun q hq => ?_)
    rw [h q hq, if_pos (by omega)]
  | succ m ih =>
    intro i S hi hS hr h
    have hi24 := h i (by omega)
    rw [if_neg (by omega)] at hi24
    have step : ∀ x w, nI (f i) + w = nI x → x = f i + (if brB r i c = true then 1 else 0) → wl_X7_hear_67 kx (m + 1) (nI (i + 1)) (sA S 24 (upd (S.2 24) i (nI (f i) + w))) := by
      intro x w e1 e2
      refine ih (i + 1) _ (by omega) (hS.trans (Keep.sA S (by omega) (by omega) _)) (fun k hk => ?_) (fun q hq => ?_)
      · rw [sA_2, if_neg (by omega)]
        exact hr k hk
      · rw [sA_2, if_pos rfl, upd_at]
        by_cases e : q = i
        · rw [if_pos e, e1, e, if_pos (show i < i + 1 by omega), e2]
        · rw [if_neg e, h q hq]
          by_cases l : q < i
          · rw [if_pos l, if_pos (show q < i + 1 by omega)]
          · rw [if_neg l, if_neg (show ¬ q < i + 1 by omega)]
    unfold wl_X7_hear_67
    rw [(MRk hm hS).1, if_neg (nI_ge (show i < r.1 0 by omega) (by omega)), clamp_nI (by omega), hi24, nI_1]
    refine ⟨vp6 (by omega), coughM hw (MRk hm hS) (dg_7 _ c) hr (show i < 6 by omega) (fun v hv => ?_)⟩
    rcases hv with ⟨k, a, b, e⟩ | ⟨a, e⟩
    · have w11 := (hw.2.2.2.2.2.2.2.1 k a).2.2.2.1
      by_cases h1 : r.2 11 k = 1
      · rw [if_pos (by rw [e, h1]; decide)]
        exact ⟨vp6 (by omega), step (f i + 1) 1 (by rw [nI_1]) (by rw [if_pos (brB_t.2 ⟨k, a, b, h1⟩)])⟩
      · rw [if_neg (by rw [e, i1, nI_eq (by omega) (by omega)]; exact h1)]
        refine ⟨vp6 (by omega), step (f i) 0 (by rw [← nI_0, nI_add, Nat.add_zero]) ?_⟩
        rw [if_neg]
        · rfl
        · intro y
          obtain ⟨k', a', b', c'⟩ := brB_t.1 y
          have := one_k hd a' a (by omega) (by omega)
          rw [this] at c'
          exact h1 c'
    · rw [if_neg (by rw [e]; decide)]
      refine ⟨vp6 (by omega), step (f i) 0 (by rw [← nI_0, nI_add, Nat.add_zero]) ?_⟩
      rw [if_neg]
      · rfl
      · intro y
        obtain ⟨k', a', b', c'⟩ := brB_t.1 y
        exact a k' a' b'
theorem h46 {M : St} {r : NS} (hw : WF r) (hm : MR M r) {wt : Nat → Nat} {nf N : Nat} (hN : N < 2 ^ 30) (hV : ∀ c, Vb r wt nf c = true ↔ Vr r c) {kx : Int32 → St → Prop} (hK : ∀ S', Keep M S' → (∀ q, q < r.1 0 → S'.2 24 q = nI (sm (vI (Vq r wt nf q)) N)) → kx (nI (sm (vI (Vb r wt nf)) N)) S') : ∀ m i (S : St), i + m = N → Keep M S → (∀ q, q < r.1 0 → S.2 24 q = nI (sm (vI (Vq r wt nf q)) i)) → wl_X7_hear_46 (nI N) kx (m + 1) (nI (sm (vI (Vb r wt nf)) i)) (nI i) S := by
  intro m
  induction m with
  | zero =>
    intro i S hi hS h
    unfold wl_X7_hear_46
    rw [show i = N by omega, if_pos (Int32.le_refl _)]
    rw [show i = N by omega] at h
    exact hK S hS h
  | succ m ih =>
    intro i S hi hS h
    have s1 : sm (vI (Vb r wt nf)) (i + 1) = sm (vI (Vb r wt nf)) i + vI (Vb r wt nf) i := rfl
    have s2 : ∀ q, sm (vI (Vq r wt nf q)) (i + 1) = sm (vI (Vq r wt nf q)) i + vI (Vq r wt nf q) i := fun _ => rfl
    unfold wl_X7_hear_46
    rw [if_neg (nI_ge (show i < N by omega) (by omega)), nI_1, nI_1]
    refine isRowP hw (P := fun T => Keep M T ∧ T.2 24 = S.2 24) (fun _ k => MRk hm k.1) (fun T f k => ⟨k.1.trans (Keep.sA T (by omega) (by omega) f), by rw [sA_2, if_neg (by omega)]; exact k.2⟩) (by omega) ⟨hS, rfl⟩ (fun hv S' kS hr => ?_) (fun hv S' kS => ?_)
    · have hv' := (hV i).2 hv
      rw [if_neg (by decide)]
      have t := c67 hw hm (c := i) hv.1 (f := fun q => sm (vI (Vq r wt nf q)) i) (kx := fun (Z15 : St) => (wl_X7_hear_46 (nI N) kx (m + 1) (nI (sm (vI (Vb r wt nf)) i + 1)) (nI (i + 1)) Z15)) (fun T kT hT => by
        have g := ih (i + 1) T (by omega) kT (fun q hq => by
          rw [hT q hq, s2]
          congr 2
          unfold vI Vq
          rw [hv', Bool.true_and])
        rw [s1, show vI (Vb r wt nf) i = 1 by unfold vI; rw [if_pos hv']] at g
        exact g) (r.1 0) 0 S' (by omega) kS.1 hr (fun q hq => by
        rw [kS.2, h q hq, if_neg (by omega)])
      rw [nI_0] at t
      exact ⟨_, t⟩
    · have hv' : ¬ Vb r wt nf i = true := fun y => hv ((hV i).1 y)
      rw [if_pos rfl]
      have g := ih (i + 1) S' (by omega) kS.1 (fun q hq => by
        rw [kS.2, h q hq, s2, show vI (Vq r wt nf q) i = 0 by
          unfold vI Vq
          rw [if_neg (by rw [Bool.and_eq_true]; exact fun y => hv' y.1)], Nat.add_zero])
      rw [s1, show vI (Vb r wt nf) i = 0 by unfold vI; rw [if_neg hv'], Nat.add_zero] at g
      exact g
def lsN (r : NS) (wt : Nat → Nat) (nf : Nat) : Option Nat → Nat
  | none => 1000000
  | some b => mlN r wt nf b
theorem h124 {r : NS} (hw : WF r) {wt : Nat → Nat} {nf : Nat} {S : St} (hm : MR S r) (h : ∀ q, q < r.1 0 → S.2 24 q = nI (nbN r wt nf q)) {kx : Int32 → Int32 → Prop} (hK : kx (opI (hbT r wt nf (r.1 0))) (nI (lsN r wt nf (hbT r wt nf (r.1 0))))) : ∀ m i, i + m = r.1 0 → wl_X7_hear_124 (nI (ttN r wt nf)) S kx (m + 1) (opI (hbT r wt nf i)) (nI (lsN r wt nf (hbT r wt nf i))) (nI i) := by
  have h6 := hw.2.1
  have b7 := p7 h6
  have tl : ttN r wt nf ≤ 7 ^ r.1 0 := sm_vl _ _
  intro m
  induction m with
  | zero =>
    intro i hi
    unfold wl_X7_hear_124
    rw [hm.1, show i = r.1 0 by omega, if_pos (Int32.le_refl _)]
    exact hK
  | succ m ih =>
    intro i hi
    have g := ih (i + 1) (by omega)
    have nl := nb_le r wt nf i
    unfold wl_X7_hear_124
    rw [hm.1, if_neg (nI_ge (show i < r.1 0 by omega) (by omega)), clamp_nI (by omega), h i (by omega), pk_sub nl, nI_1]
    by_cases t0 : ttN r wt nf = 0
    · have ht : ∀ j, hbT r wt nf j = none := fun j => by unfold hbT; rw [if_pos t0]
      rw [ht] at hK ⊢
      rw [if_pos (by rw [t0, nI_0]; exact Int32.le_refl _)]
      exact hK
    · have ht : ∀ j, hbT r wt nf j = hbF (dA r) (mlN r wt nf) j := fun j => by unfold hbT; rw [if_neg t0]
      rw [ht] at g ⊢
      rw [if_neg (by rw [← nI_0]; exact nI_ge (by omega) (by omega))]
      refine ⟨vp6 (by omega), vp6 (by omega), ?_⟩
      have dh := dA_t hw (q := i) (by omega)
      have lb : lsN r wt nf (hbF (dA r) (mlN r wt nf) i) ≤ 1000000 := by
        cases hbF (dA r) (mlN r wt nf) i with
        | none => exact Nat.le_refl _
        | some b =>
          have := ml_le r wt nf b
          show mlN r wt nf b ≤ 1000000
          omega
      have li := ml_le r wt nf i
      have core : ∀ x, x = mlN r wt nf i → wp_X7_living S (fun (v : Int32) => (if (F_X7_has v (nI i)) = 0 then (wl_X7_hear_124 (nI (ttN r wt nf)) S kx (m + 1) (opI (hbF (dA r) (mlN r wt nf) i)) (nI (lsN r wt nf (hbF (dA r) (mlN r wt nf) i))) (nI (i + 1))) else (if nI (lsN r wt nf (hbF (dA r) (mlN r wt nf) i)) ≤ nI x then (wl_X7_hear_124 (nI (ttN r wt nf)) S kx (m + 1) (opI (hbF (dA r) (mlN r wt nf) i)) (nI (lsN r wt nf (hbF (dA r) (mlN r wt nf) i))) (nI (i + 1))) else (wl_X7_hear_124 (nI (ttN r wt nf)) S kx (m + 1) (nI i) (nI x) (nI (i + 1)))))) := by
        intro x ex
        subst ex
        refine livM hw hm ?_
        unfold hbF at g
        by_cases o : dA r i = true
        · rw [if_neg (fun y => dh.1 y o)]
          cases hb : hbF (dA r) (mlN r wt nf) i with
          | none =>
            rw [hb] at g
            dsimp only at g
            rw [if_pos o] at g
            rw [if_neg (show ¬ nI (lsN r wt nf none) ≤ nI (mlN r wt nf i) from nI_ge (show mlN r wt nf i < 1000000 by omega) (show 1000000 < 2 ^ 31 by decide))]
            exact g
          | some b =>
            have lbb := ml_le r wt nf b
            rw [hb] at g
            dsimp only at g
            by_cases l : mlN r wt nf i < mlN r wt nf b
            · rw [if_pos ⟨o, l⟩] at g
              rw [if_neg (show ¬ nI (lsN r wt nf (some b)) ≤ nI (mlN r wt nf i) from nI_ge l (show mlN r wt nf b < 2 ^ 31 by omega))]
              exact g
            · rw [if_neg (fun y => l y.2)] at g
              rw [if_pos (show nI (lsN r wt nf (some b)) ≤ nI (mlN r wt nf i) from nI_le (show mlN r wt nf b ≤ mlN r wt nf i by omega) (by omega))]
              exact g
        · rw [if_pos (dh.2 o)]
          cases hb : hbF (dA r) (mlN r wt nf) i with
          | none =>
            rw [hb] at g
            dsimp only at g
            rw [if_neg o] at g
            exact g
          | some b =>
            rw [hb] at g
            dsimp only at g
            rw [if_neg (fun y => o y.1)] at g
            exact g
      by_cases l : nbN r wt nf i ≤ ttN r wt nf - nbN r wt nf i
      · rw [if_pos (nI_le l (by omega))]
        exact ⟨vp6 (by omega), core _ (by unfold mlN; rw [Nat.max_eq_right l])⟩
      · rw [if_neg (nI_ge (by omega) (by omega))]
        exact ⟨vp6 (by omega), core _ (by unfold mlN; rw [Nat.max_eq_left (by omega)])⟩
theorem sim_hear : Sim_hear Inv := by
  intro X0 X1 X2 X3 X4 X5 X6 X7 X8 M a0 hI
  obtain ⟨⟨r, h0, hw, hm⟩, -⟩ := id hI
  subst h0
  have h6 := hw.2.1
  have b7 := p7 h6
  unfold wp_X6_hear
  by_cases b0 : F_X7_in a0 0 1 = 0
  · rw [if_pos (show F_X6_within a0 0 1 = 0 from b0)]
    unfold wp_X7_hear
    dsimp only
    rw [if_pos b0]
    exact ⟨rfl, hI⟩
  rw [if_neg (show ¬ F_X6_within a0 0 1 = 0 from b0)]
  refine prepX hw (fun Z wt nf hs hn hz => ?_)
  have hw2 : ∀ q, wt q ≤ 2 := fun q => (hs.2.2 q).1
  have hwt : ∀ q, wt q ≠ 0 → dA r q = true := fun q h => ((hs.2.2 q).2 h).1
  have hV := Vb_t hw hs
  have tl : ttN r wt nf ≤ 7 ^ r.1 0 := sm_vl _ _
  -- the reference, up to its last words
  have refd : ∀ (R : Int32 → St → Prop), (∀ S', Keep M S' → (if opI (hbT r wt nf (r.1 0)) < 0 then R (opI (hbT r wt nf (r.1 0))) S' else (if a0 = 0 then R (opI (hbT r wt nf (r.1 0))) S' else R (nI (lsN r wt nf (hbT r wt nf (r.1 0)))) S'))) → wp_X7_hear M a0 R := by
    intro R hR
    unfold wp_X7_hear
    rw [if_neg b0]
    refine codesM hw hm ?_
    have t22 := z22 (M := M) (kx := fun (Z5 : St) => (∃ M35, wl_X7_hear_46 (nI (7 ^ r.1 0)) (fun (v18 : Int32) (Z19 : St) => (∃ M33, wl_X7_hear_124 v18 Z19 (fun (v29 : Int32) (v30 : Int32) => (if v29 < 0 then (R v29 Z19) else (if a0 = 0 then (R v29 Z19) else (R v30 Z19)))) M33 (-6) 1000000 0)) M35 0 0 Z5)) (fun S1 k1 z1 => by
      have t46 := h46 hw hm (wt := wt) (nf := nf) (N := 7 ^ r.1 0) (by omega) hV (kx := fun (v18 : Int32) (Z19 : St) => (∃ M33, wl_X7_hear_124 v18 Z19 (fun (v29 : Int32) (v30 : Int32) => (if v29 < 0 then (R v29 Z19) else (if a0 = 0 then (R v29 Z19) else (R v30 Z19)))) M33 (-6) 1000000 0)) (fun S2 k2 z2 => by
        have t124 := h124 hw (wt := wt) (nf := nf) (MRk hm k2) z2 (kx := fun (v29 : Int32) (v30 : Int32) => (if v29 < 0 then (R v29 S2) else (if a0 = 0 then (R v29 S2) else (R v30 S2)))) (hR S2 k2) (r.1 0) 0 (by omega)
        rw [nI_0, show hbT r wt nf 0 = none by unfold hbT; split <;> rfl] at t124
        exact ⟨_, t124⟩) (7 ^ r.1 0) 0 S1 (by omega) k1 (fun q hq => by
        rw [z1 q (by omega)]
        rfl)
      rw [nI_0, show sm (vI (Vb r wt nf)) 0 = 0 from rfl, nI_0] at t46
      exact ⟨_, t46⟩) 6 0 M (by omega) (Keep.refl M) (fun q hq => absurd hq (by omega))
    rw [nI_0] at t22
    exact ⟨_, t22⟩
  have run := hearX hw hw2 hn hwt hz (K := fun (v3 : Int32) => (if v3 = (-6) then (wp_X7_hear M a0 (fun (q : Int32) (N : St) => -6 = q ∧ Inv (NI r) X1 X2 X3 X4 X5 X6 Z X8 N)) else (if a0 = 0 then (wp_X7_hear M a0 (fun (q : Int32) (N : St) => v3 = q ∧ Inv (NI r) X1 X2 X3 X4 X5 X6 Z X8 N)) else (wp_X0_mostLeftBy Z v3 (fun (v6 : Int32) => (wp_X7_hear M a0 (fun (q : Int32) (N : St) => v6 = q ∧ Inv (NI r) X1 X2 X3 X4 X5 X6 Z X8 N)))))))
  refine run ?_
  cases hb : hbT r wt nf (r.1 0) with
  | none =>
    rw [if_pos (show opI none = -6 from rfl)]
    refine refd _ (fun S' kS => ?_)
    rw [hb, if_pos (show opI none < 0 by decide)]
    exact ⟨rfl, Inv_keep hI kS X1 X6 Z X8⟩
  | some b =>
    have hb' : hbF (dA r) (mlN r wt nf) (r.1 0) = some b := by
      unfold hbT at hb
      by_cases t0 : ttN r wt nf = 0
      · rw [if_pos t0] at hb
        exact absurd hb (by simp)
      · rw [if_neg t0] at hb
        exact hb
    obtain ⟨bl, bo⟩ := hb_lt _ hb'
    have bn : ¬ opI (some b) < 0 := nI_pos (by omega)
    rw [if_neg (show ¬ opI (some b) = -6 from nI_m6 (by omega))]
    by_cases a00 : a0 = 0
    · rw [if_pos a00]
      refine refd _ (fun S' kS => ?_)
      rw [hb, if_neg bn, if_pos a00]
      exact ⟨rfl, Inv_keep hI kS X1 X6 Z X8⟩
    · rw [if_neg a00]
      refine mostX1 hw hw2 hn (show b < 6 by omega) (hwt b) hz (fun _ => ?_) (fun y => absurd bo y)
      refine refd _ (fun S' kS => ?_)
      rw [hb, if_neg bn, if_neg a00]
      exact ⟨rfl, Inv_keep hI kS X1 X6 Z X8⟩
