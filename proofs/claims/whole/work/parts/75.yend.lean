-- year: what is asked of it
def ownN (r : NS) : Nat → Nat
  | 0 => 0
  | i + 1 => ownN r i + if alB r i = true ∧ r.2 8 i = i then 1 else 0
theorem ownX {r : NS} (hw : WF r) {K : Int32 → Prop} (hK : K (nI (ownN r (r.1 0)))) : ∀ n i, i + n = r.1 0 → wl_X2_ownNames_4 (NI r) K (n + 1) (nI (ownN r i)) (nI i) := by
  have h6 := hw.2.1
  intro n
  induction n with
  | zero =>
    intro i hi
    unfold wl_X2_ownNames_4
    rw [NI_1, show i = r.1 0 by omega, if_pos (Int32.le_refl _)]
    exact hK
  | succ n ih =>
    intro i hi
    have hn := (hw.2.2.2.2.2.2.2.1 i (by omega)).2.1
    have g := ih (i + 1) (by omega)
    unfold ownN at g
    unfold wl_X2_ownNames_4
    rw [NI_1, if_neg (nI_ge (show i < r.1 0 by omega) (by omega)), nI_1, nI_1, getR _ _ (show i < 6 by omega) (by omega)]
    by_cases hl : alB r i = true
    · rw [if_neg (fun x => (al_f hw (by omega)).1 x hl)]
      by_cases h8 : r.2 8 i = i
      · rw [if_pos ⟨hl, h8⟩] at g
        rw [if_pos (by rw [h8])]
        exact g
      · rw [if_neg (fun x => h8 x.2), Nat.add_zero] at g
        rw [if_neg (by rw [nI_eq (by omega) (by omega)]; exact h8)]
        exact g
    · rw [if_neg (fun x => hl x.1), Nat.add_zero] at g
      rw [if_pos ((al_f hw (by omega)).2 hl)]
      exact g
def emB (r : NS) (m l : Nat) : Bool := decide (∀ k, k < m → ¬ isAt r l k 0 = true)
theorem msk_z {P : Nat → Bool} : ∀ n, msk P n = 0 ↔ ∀ k, k < n → ¬ P k = true := by
  intro n
  induction n with
  | zero => exact ⟨fun _ k hk => absurd hk (by omega), fun _ => rfl⟩
  | succ n ih =>
    show msk P n + (if P n = true then 2 ^ n else 0) = 0 ↔ _
    have hp : 0 < 2 ^ n := Nat.pos_of_ne_zero (by exact Nat.ne_of_gt (Nat.two_pow_pos n))
    constructor
    · intro h k hk
      by_cases hn : P n = true
      · rw [if_pos hn] at h
        omega
      · rw [if_neg hn] at h
        by_cases e : k = n
        · rw [e]; exact hn
        · exact (ih.1 (by omega)) k (by omega)
    · intro h
      rw [if_neg (h n (by omega)), ih.2 (fun k hk => h k (by omega))]
theorem emX {r : NS} (hw : WF r) {K : Int32 → Prop} (hK : K (nI (msk (emB r (r.1 0)) (r.1 0)))) : ∀ n i, i + n = r.1 0 → wl_X2_emptyLands_4 (NI r) K (n + 1) (nI (msk (emB r (r.1 0)) i)) (nI i) := by
  have h6 := hw.2.1
  intro n
  induction n with
  | zero =>
    intro i hi
    unfold wl_X2_emptyLands_4
    rw [NI_1, show i = r.1 0 by omega, if_pos (Int32.le_refl _)]
    exact hK
  | succ n ih =>
    intro i hi
    have g := ih (i + 1) (by omega)
    unfold wl_X2_emptyLands_4
    rw [NI_1, if_neg (nI_ge (show i < r.1 0 by omega) (by omega)), nI_1, show (0 : Int32) = nI 0 from nI_0.symm]
    refine guests_ok hw (by omega) (by omega) ?_
    have hm := msk_64 (fun k => isAt r i k 0) h6
    by_cases he : emB r (r.1 0) i = true
    · have hz : msk (fun k => isAt r i k 0) (r.1 0) = 0 := (msk_z _).2 (of_decide_eq_true he)
      rw [hz, if_pos rfl, msk_or (by omega) he]
      exact g
    · have hz : ¬ msk (fun k => isAt r i k 0) (r.1 0) = 0 := fun x => he (decide_eq_true ((msk_z _).1 x))
      rw [if_neg (by rw [nI_eq (by omega) (by omega)]; exact hz), msk_no he]
      exact g
theorem t_bit1 : ∀ n, n < 6 → ∀ a, a < 64 → a < 2 ^ n → ∀ l, l < 7 → l < n → (a + 2 ^ n) / 2 ^ l % 2 = a / 2 ^ l % 2 := by decide +kernel
theorem t_bit2 : ∀ n, n < 6 → ∀ a, a < 64 → a < 2 ^ n → (a + 2 ^ n) / 2 ^ n % 2 = 1 ∧ a / 2 ^ n % 2 = 0 := by decide +kernel
theorem msk_bit {P : Nat → Bool} : ∀ n, n ≤ 6 → ∀ l, l < n → (msk P n / 2 ^ l % 2 = 1 ↔ P l = true) := by
  intro n
  induction n with
  | zero => exact fun _ l hl => absurd hl (by omega)
  | succ n ih =>
    intro hn l hl
    have hlt := msk_lt P n
    have h64 := msk_64 P (i := n) (by omega)
    show ((msk P n + (if P n = true then 2 ^ n else 0)) / 2 ^ l % 2 = 1 ↔ _)
    by_cases e : l = n
    · subst e
      obtain ⟨b1, b2⟩ := t_bit2 l (by omega) _ h64 hlt
      by_cases hp : P l = true
      · rw [if_pos hp]
        exact ⟨fun _ => hp, fun _ => b1⟩
      · rw [if_neg hp, Nat.add_zero, b2]
        exact ⟨fun h => absurd h (by decide), fun h => absurd h hp⟩
    · rw [← ih (by omega) l (by omega)]
      by_cases hp : P n = true
      · rw [if_pos hp, t_bit1 n (by omega) _ h64 hlt l (by omega) (by omega)]
      · rw [if_neg hp, Nat.add_zero]
theorem t_clr : ∀ n, n < 7 → ∀ lv, lv < 64 → lv < 2 ^ n → ∀ L, L < 6 → (nI lv &&& (((1 : Int32) <<< (nI L &&& 31)) ^^^ (-1))) = nI (msk (fun l => decide (lv / 2 ^ l % 2 = 1) && decide (l ≠ L)) n) := by decide +kernel
theorem t_full : ∀ n, n < 7 → ((1 : Int32) <<< (nI n &&& 31)) - 1 = nI (msk (fun _ => true) n) := by decide +kernel
theorem t_m1 : ∀ lv, lv < 64 → nI lv &&& (-1) = nI lv := by decide +kernel
theorem em_step {r : NS} (hw : WF r) {k : Nat} (hk : k < r.1 0) (hl : alB r k = true) : (nI (msk (emB r k) (r.1 0)) &&& (((1 : Int32) <<< (landI r k &&& 31)) ^^^ (-1))) = nI (msk (emB r (k + 1)) (r.1 0)) := by
  have h3 := hw.1
  have h6 := hw.2.1
  have hlt := landN_lt hw k 0
  have hl' : r.1 5 / 2 ^ k % 2 = 1 := of_decide_eq_true hl
  have el : landI r k = nI (landN r k 0) := by
    rw [← landE_0 hw hk]
    unfold landE
    rw [if_pos hl']
  rw [el, t_clr _ (by omega) _ (msk_64 _ h6) (msk_lt _ _) _ (by omega)]
  congr 1
  refine msk_congr (fun l hl2 => ?_)
  have hb := msk_bit (P := emB r k) (r.1 0) h6 l hl2
  have step : emB r (k + 1) l = (emB r k l && decide (l ≠ landN r k 0)) := by
    have e : (emB r (k + 1) l = true) ↔ ((emB r k l && decide (l ≠ landN r k 0)) = true) := by
      rw [Bool.and_eq_true, decide_eq_true_eq]
      unfold emB
      rw [decide_eq_true_eq, decide_eq_true_eq]
      constructor
      · intro h
        refine ⟨fun j hj => h j (by omega), fun x => h k (by omega) ?_⟩
        exact decide_eq_true ⟨hl', x.symm⟩
      · intro h j hj
        by_cases ej : j = k
        · subst ej
          intro x
          exact h.2 (of_decide_eq_true x).2.symm
        · exact h.1 j (by omega)
    exact Bool.eq_iff_iff.mpr e
  rw [step]
  congr 1
  exact Bool.eq_iff_iff.mpr (by rw [decide_eq_true_eq]; exact hb)
theorem em_dead {r : NS} {k : Nat} (hl : ¬ alB r k = true) (n : Nat) : msk (emB r k) n = msk (emB r (k + 1)) n := by
  refine msk_congr (fun l _ => Bool.eq_iff_iff.mpr ?_)
  unfold emB
  rw [decide_eq_true_eq, decide_eq_true_eq]
  constructor
  · intro h j hj
    by_cases ej : j = k
    · subst ej
      intro x
      exact hl (decide_eq_true (of_decide_eq_true x).1)
    · exact h j (by omega)
  · intro h j hj
    exact h j (by omega)
theorem tlM {N : St} {r : NS} (hw : WF r) (h0 : N.1 0 = nI (r.1 0)) (hA : ∀ k, k < r.1 0 → N.2 17 k = landI r k ∧ N.2 18 k = nI (r.2 8 k)) {K : Int32 → Int32 → Prop} (hK : K (nI (ownN r (r.1 0))) (nI (msk (emB r (r.1 0)) (r.1 0)))) : ∀ n i, i + n = r.1 0 → wl_X7_year_204 N K (n + 1) (nI (ownN r i)) (nI (msk (emB r i) (r.1 0))) (nI i) := by
  have h6 := hw.2.1
  intro n
  induction n with
  | zero =>
    intro i hi
    unfold wl_X7_year_204
    rw [h0, show i = r.1 0 by omega, if_pos (Int32.le_refl _)]
    exact hK
  | succ n ih =>
    intro i hi
    have hn := (hw.2.2.2.2.2.2.2.1 i (by omega)).2.1
    have g := ih (i + 1) (by omega)
    obtain ⟨a1, a2⟩ := hA i (by omega)
    obtain ⟨l1, l2⟩ := land_al hw (k := i)
    have v6 : vp_in (nI i) 6 := vp6 (by omega)
    unfold ownN at g
    unfold wl_X7_year_204
    rw [h0, if_neg (nI_ge (show i < r.1 0 by omega) (by omega)), clamp_nI (by omega), a1, a2, nI_1, nI_1, Int32.add_zero]
    refine ⟨v6, ?_⟩
    by_cases hl : alB r i = true
    · rw [if_neg (l1 hl).1, em_step hw (by omega) hl]
      refine ⟨v6, ?_⟩
      by_cases h8 : r.2 8 i = i
      · rw [if_pos ⟨hl, h8⟩] at g
        rw [if_pos (by rw [h8])]
        refine ⟨v6, ?_⟩
        rw [if_pos (l1 hl).2]
        exact ⟨v6, g⟩
      · rw [if_neg (fun x => h8 x.2), Nat.add_zero] at g
        rw [if_neg (by rw [nI_eq (by omega) (by omega)]; exact h8)]
        refine ⟨v6, ?_⟩
        rw [if_pos (l1 hl).2]
        exact ⟨v6, g⟩
    · rw [if_neg (fun x => hl x.1), Nat.add_zero] at g
      rw [if_pos (l2 hl).1]
      refine ⟨v6, ?_⟩
      rw [if_neg (l2 hl).2, t_m1 _ (msk_64 _ h6), em_dead hl]
      exact g
theorem sim_year : Sim_year Inv := by
  intro X0 X1 X2 X3 X4 X5 X6 X7 X8 M a0 a1 a2 hI
  obtain ⟨⟨r, rfl, hw, hm⟩, hi1, hi2, hp⟩ := id hI
  have h3 := hw.1
  have h6 := hw.2.1
  unfold wp_X6_year wp_X7_year
  by_cases b0 : F_X7_in a0 0 9999 = 0
  · rw [if_pos (show F_X6_within a0 0 9999 = 0 from b0)]
    dsimp only
    rw [if_pos b0]
    exact ⟨rfl, hI⟩
  rw [if_neg (show ¬ F_X6_within a0 0 9999 = 0 from b0)]
  by_cases b1 : F_X7_in a1 1 99 = 0
  · rw [if_pos (show F_X6_within a1 1 99 = 0 from b1)]
    dsimp only
    rw [if_neg b0, if_pos b1]
    exact ⟨rfl, hI⟩
  rw [if_neg (show ¬ F_X6_within a1 1 99 = 0 from b1)]
  by_cases b2 : F_X7_in a2 0 2 = 0
  · rw [if_pos (show F_X6_within a2 0 2 = 0 from b2)]
    dsimp only
    rw [if_neg b0, if_neg b1, if_pos b2]
    exact ⟨rfl, hI⟩
  rw [if_neg (show ¬ F_X6_within a2 0 2 = 0 from b2)]
  obtain ⟨x, -, hx, ex⟩ := inN (a := 0) (b := 9999) b0 (by decide) (by decide) (by omega) (by omega)
  obtain ⟨y, -, hy, ey⟩ := inN (a := 1) (b := 99) b1 (by decide) (by decide) (by omega) (by omega)
  unfold wp_X6_drawYear
  refine take_any (fun t ht => ?_)
  have hwt := ht.wf hw
  have t0 : Eq10 t (nsA t 10 (fun _ => 0)) := ⟨rfl, fun j hj => by rw [nsA_2, if_neg hj]⟩
  have hT0 : T0 r (nsA t 10 (fun _ => 0)) := ⟨ht, fun k _ => rfl⟩
  have hE := yRun_10 y x t0
  have hR := yRun_wf y x hwt
  have hR0 : WF (yRun y x (nsA t 10 (fun _ => 0))) := yRun_wf y x (hT0.1.wf hw)
  have hn0 : ∀ m x (r : NS), (yRun m x r).1 0 = r.1 0 := by
    intro m
    induction m with
    | zero => exact fun x r => rfl
    | succ m ih => exact fun x r => (ih _ _).trans (yAct_I r _).1
  have hnR := hn0 y x t
  have hn : t.1 0 = r.1 0 := ht.1 0 (by omega)
  -- the reference, behind whatever the Java answered
  have run : ∀ (v : Int32), (a2 = 0 → v = nI ((yRun y x t).1 2) - nI (r.1 2)) → (a2 = 1 → v = nI (ownN (yRun y x t) (r.1 0))) → (¬ a2 = 0 → ¬ a2 = 1 → v = nI (msk (emB (yRun y x t) (r.1 0)) (r.1 0))) → ∀ U1, wp_X7_year M a0 a1 a2 (fun (q : Int32) (N : St) => v = q ∧ Inv (NI r) U1 X2 X3 X4 X5 X6 X7 X8 N) := by
    intro v v0 v1 v2 U1
    unfold wp_X7_year wp_X7_asNow
    rw [if_neg b0, if_neg b1, if_neg b2, ex, ey]
    have key := as_lp (M0 := M) (K := fun Z4 => ∃ M31, wl_X7_year_43 (nI y) (fun (Z18 : St) => (∃ M29, wl_X7_year_204 Z18 (fun (v25 : Int32) (v26 : Int32) => (if a2 = 0 then (v = ((Z18.1 14) - (Z18.1 2)) ∧ Inv (NI r) U1 X2 X3 X4 X5 X6 X7 X8 Z18) else (if a2 = 1 then (v = v25 ∧ Inv (NI r) U1 X2 X3 X4 X5 X6 X7 X8 Z18) else (v = v26 ∧ Inv (NI r) U1 X2 X3 X4 X5 X6 X7 X8 Z18)))) M29 0 (((1 : Int32) <<< ((Z18.1 0) &&& 31)) - 1) 0)) M31 (nI x) 0 Z4) (fun N hN => by
      obtain ⟨c, hT⟩ := as_TR hw hm hT0 hN
      obtain ⟨a, -, ha⟩ := ex_nI (N.1 22)
      have hT' : TR M N (nsA t 10 (fun _ => 0)) a c := by
        obtain ⟨g1, g2, g3, g4, g5, g6, g7⟩ := hT
        exact ⟨hN.1, g2, g3, g4, g5, ha, g7⟩
      have kk := yrM (M0 := M) (n := r.1 0) (L := r.1 1) hm.1 hm.2.1 (K := fun (Z18 : St) => (∃ M29, wl_X7_year_204 Z18 (fun (v25 : Int32) (v26 : Int32) => (if a2 = 0 then (v = ((Z18.1 14) - (Z18.1 2)) ∧ Inv (NI r) U1 X2 X3 X4 X5 X6 X7 X8 Z18) else (if a2 = 1 then (v = v25 ∧ Inv (NI r) U1 X2 X3 X4 X5 X6 X7 X8 Z18) else (v = v26 ∧ Inv (NI r) U1 X2 X3 X4 X5 X6 X7 X8 Z18)))) M29 0 (((1 : Int32) <<< ((Z18.1 0) &&& 31)) - 1) 0)) (x2 := y) (a := a) (c := c) hy y 0 x (nsA t 10 (fun _ => 0)) N (by omega) (by omega) (hT0.1.wf hw) hn (ht.1 1 (by omega)) hT' (fun Z hZ => by
        obtain ⟨g1, g2, g3, g4, g5, g6, g7⟩ := hZ
        have z0 : Z.1 0 = nI ((yRun y x t).1 0) := by rw [g1.1 0 (by omega), hm.1, hnR, hn]
        have en : (yRun y x t).1 0 = r.1 0 := by rw [hnR, hn]
        have hlA : ∀ k, k < (yRun y x t).1 0 → Z.2 17 k = landI (yRun y x t) k ∧ Z.2 18 k = nI ((yRun y x t).2 8 k) := by
          intro k hk
          obtain ⟨e1, e2, -, -⟩ := g7 k (by rw [← hE.1]; exact hk)
          refine ⟨?_, by rw [hE.2 8 (by decide)]; exact e2⟩
          rw [e1]
          unfold landI
          rw [hE.1, hE.2 7 (by decide)]
        have tl := tlM (N := Z) hR z0 hlA (K := fun (v25 : Int32) (v26 : Int32) => (if a2 = 0 then (v = ((Z.1 14) - (Z.1 2)) ∧ Inv (NI r) U1 X2 X3 X4 X5 X6 X7 X8 Z) else (if a2 = 1 then (v = v25 ∧ Inv (NI r) U1 X2 X3 X4 X5 X6 X7 X8 Z) else (v = v26 ∧ Inv (NI r) U1 X2 X3 X4 X5 X6 X7 X8 Z)))) (by
          have hi := Inv_keep hI g1 U1 X6 X7 X8
          by_cases z : a2 = 0
          · rw [if_pos z]
            refine ⟨?_, hi⟩
            rw [v0 z, g2, g1.1 2 (by omega), hm.2.2.1, hE.1]
          · rw [if_neg z]
            by_cases z' : a2 = 1
            · rw [if_pos z']
              refine ⟨?_, hi⟩
              rw [v1 z', en]
            · rw [if_neg z']
              refine ⟨?_, hi⟩
              rw [v2 z z', en]) (r.1 0) 0 (by omega)
        have es : ((1 : Int32) <<< ((Z.1 0) &&& 31)) - 1 = nI (msk (emB (yRun y x t) 0) ((yRun y x t).1 0)) := by
          rw [z0, t_full _ (by omega)]
          congr 1
        rw [es]
        rw [show nI (ownN (yRun y x t) 0) = 0 from nI_0, nI_0] at tl
        exact ⟨_, tl⟩)
      rw [nI_0] at kk
      exact ⟨_, kk⟩) 6 0 (sI (sI (sI M 14 (M.1 2)) 15 (M.1 3)) 16 (M.1 4)) (by omega) ⟨kpI (kpI (kpI (Keep.refl M) _ (by omega)) _ (by omega)) _ (by omega), rfl, rfl, rfl, fun k hk => absurd hk (by omega)⟩
    rw [nI_0] at key
    exact ⟨_, key⟩
  have en : (yRun y x t).1 0 = r.1 0 := by rw [hnR, hn]
  have key := yrX (x2 := y) hy (K := fun Z4 => (if a2 = 0 then (wp_X7_year M a0 a1 a2 (fun (q : Int32) (N : St) => ((Z4.1 2) - ((NI r).1 2)) = q ∧ Inv (NI r) Z4 X2 X3 X4 X5 X6 X7 X8 N)) else (if a2 = 1 then (wp_X2_ownNames Z4 (fun (v7 : Int32) => (wp_X7_year M a0 a1 a2 (fun (q : Int32) (N : St) => v7 = q ∧ Inv (NI r) Z4 X2 X3 X4 X5 X6 X7 X8 N)))) else (wp_X2_emptyLands Z4 (fun (v8 : Int32) => (wp_X7_year M a0 a1 a2 (fun (q : Int32) (N : St) => v8 = q ∧ Inv (NI r) Z4 X2 X3 X4 X5 X6 X7 X8 N))))))) y 0 x t (by omega) (by omega) hwt (by
    by_cases z : a2 = 0
    · rw [if_pos z]
      exact run _ (fun _ => rfl) (fun e => absurd (z.symm.trans e) (by decide)) (fun e => absurd z e) _
    · rw [if_neg z]
      by_cases z' : a2 = 1
      · rw [if_pos z']
        have k2 := ownX hR (K := fun (v7 : Int32) => (wp_X7_year M a0 a1 a2 (fun (q : Int32) (N : St) => v7 = q ∧ Inv (NI r) (NI (yRun y x t)) X2 X3 X4 X5 X6 X7 X8 N))) (run _ (fun e => absurd e z) (fun _ => by rw [en]) (fun _ e => absurd z' e) _) (r.1 0) 0 (by omega)
        rw [show nI (ownN (yRun y x t) 0) = 0 from nI_0, nI_0] at k2
        exact ⟨_, k2⟩
      · rw [if_neg z']
        have k2 := emX hR (K := fun (v8 : Int32) => (wp_X7_year M a0 a1 a2 (fun (q : Int32) (N : St) => v8 = q ∧ Inv (NI r) (NI (yRun y x t)) X2 X3 X4 X5 X6 X7 X8 N))) (run _ (fun e => absurd e z) (fun e => absurd e z') (fun _ _ => by rw [en]) _) (r.1 0) 0 (by omega)
        rw [show nI (msk (emB (yRun y x t) ((yRun y x t).1 0)) 0) = 0 from nI_0, nI_0] at k2
        exact ⟨_, k2⟩)
  rw [nI_0] at key
  rw [ex, ey] at *
  exact ⟨_, key⟩
