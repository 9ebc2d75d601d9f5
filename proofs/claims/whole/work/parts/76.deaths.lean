-- deaths
def popN (lv : Nat) : Nat → Nat
  | 0 => 0
  | k + 1 => popN lv k + lv / 2 ^ k % 2
theorem t_pop : ∀ n, n < 7 → ∀ lv, lv < 64 → lv < 2 ^ n → F_J6_bitCount_0f7a4 (nI lv) = nI (popN lv n) := by decide +kernel
theorem pop_le (lv : Nat) : ∀ n, popN lv n ≤ n := by
  intro n
  induction n with
  | zero => exact Nat.le_refl _
  | succ n ih =>
    have := Nat.mod_lt (lv / 2 ^ n) (show 0 < 2 by omega)
    show popN lv n + lv / 2 ^ n % 2 ≤ n + 1
    omega
def euOk : Nat → Nat → Nat → Bool
  | 0, _, b => decide (b = 0)
  | f + 1, a, b => if b = 0 then true else euOk f b (a % b)
def euV : Nat → Nat → Nat → Nat
  | 0, a, _ => a
  | f + 1, a, b => if b = 0 then a else euV f b (a % b)
theorem l0 : (0 : Int64) = lN 0 := by decide
theorem lz {b : Nat} (hb : b < 2 ^ 63) : lN b = 0 ↔ b = 0 := by rw [l0]; exact pk_lEQ hb (by omega)
theorem gcdX {K : Int64 → Prop} : ∀ f a b s, s + f = 100 → a < 2 ^ 63 → b < 2 ^ 63 → K (lN (euV f a b)) → wl_X6_commonDivisor_9 K (f + 1) (lN a) (lN b) (nI s) := by
  intro f
  induction f with
  | zero =>
    intro a b s hs ha hb hK
    unfold wl_X6_commonDivisor_9
    rw [if_pos (by rw [show s = 100 by omega]; decide)]
    exact hK
  | succ f ih =>
    intro a b s hs ha hb hK
    unfold wl_X6_commonDivisor_9
    unfold euV at hK
    rw [if_neg (by rw [show (100 : Int32) = nI 100 by decide]; exact nI_ge (by omega) (by omega))]
    by_cases hz : b = 0
    · rw [if_pos hz] at hK
      rw [if_pos ((lg_cmp_eq _ _).2 ((lz hb).2 hz))]
      exact hK
    · rw [if_neg hz] at hK
      have hm := Nat.mod_lt a (show 0 < b by omega)
      rw [if_neg (fun x => hz ((lz hb).1 ((lg_cmp_eq _ _).1 x)))]
      refine ⟨fun x => hz ((lz hb).1 x), ?_⟩
      rw [pk_lRem ha (by omega) hb, nI_1]
      exact ih b (a % b) (s + 1) (by omega) hb (by omega) hK
theorem gcdM {K : Int64 → Prop} : ∀ f a b, a < 2 ^ 63 → b < 2 ^ 63 → euOk f a b = true → K (lN (euV f a b)) → wl_X7_deaths_118 K (f + 1) (lN a) (lN b) := by
  intro f
  induction f with
  | zero =>
    intro a b ha hb ho hK
    unfold wl_X7_deaths_118
    rw [if_pos ((lg_cmp_eq _ _).2 ((lz hb).2 (of_decide_eq_true ho)))]
    exact hK
  | succ f ih =>
    intro a b ha hb ho hK
    unfold wl_X7_deaths_118
    unfold euV at hK
    unfold euOk at ho
    by_cases hz : b = 0
    · rw [if_pos hz] at hK
      rw [if_pos ((lg_cmp_eq _ _).2 ((lz hb).2 hz))]
      exact hK
    · rw [if_neg hz] at hK ho
      have hm := Nat.mod_lt a (show 0 < b by omega)
      rw [if_neg (fun x => hz ((lz hb).1 ((lg_cmp_eq _ _).1 x)))]
      refine ⟨fun x => hz ((lz hb).1 x), ?_⟩
      rw [pk_lRem ha (by omega) hb]
      exact ih b (a % b) hb (by omega) ho hK
theorem powX {K : Int64 → Prop} {x e : Nat} (he : e < 2 ^ 20) : ∀ m i v, i + m = e → K (lN (v * x ^ m)) → wl_X6_power_5 (lN x) (nI e) K (m + 1) (lN v) (nI i) := by
  intro m
  induction m with
  | zero =>
    intro i v hi hK
    unfold wl_X6_power_5
    rw [if_pos (by rw [show i = e by omega]; exact Int32.le_refl _)]
    rw [Nat.pow_zero, Nat.mul_one] at hK
    exact hK
  | succ m ih =>
    intro i v hi hK
    unfold wl_X6_power_5
    rw [if_neg (nI_ge (show i < e by omega) (by omega)), nI_1, lN_mul]
    refine ih (i + 1) (v * x) (by omega) ?_
    rw [Nat.mul_assoc, Nat.mul_comm x, ← Nat.pow_succ]
    exact hK
theorem powM {K : Int64 → Int64 → Prop} {x2 : Int32} {q e : Nat} (hq : ((10 : Int32) - x2).toInt64 = lN q) (he : e < 2 ^ 20) : ∀ m i a b, i + m = e → K (lN (a * q ^ m)) (lN (b * 10 ^ m)) → wl_X7_deaths_79 x2 (nI e) K (m + 1) (lN a) (lN b) (nI i) := by
  intro m
  induction m with
  | zero =>
    intro i a b hi hK
    unfold wl_X7_deaths_79
    rw [if_pos (by rw [show i = e by omega]; exact Int32.le_refl _)]
    rw [Nat.pow_zero, Nat.pow_zero, Nat.mul_one, Nat.mul_one] at hK
    exact hK
  | succ m ih =>
    intro i a b hi hK
    unfold wl_X7_deaths_79
    rw [if_neg (nI_ge (show i < e by omega) (by omega)), nI_1, hq, lN_mul, show (10 : Int64) = lN 10 by decide, lN_mul]
    refine ih (i + 1) (a * q) (b * 10) (by omega) ?_
    rw [Nat.mul_assoc, Nat.mul_comm q, ← Nat.pow_succ, Nat.mul_assoc, Nat.mul_comm 10, ← Nat.pow_succ]
    exact hK
theorem cut_l {a b : Nat} (ha : a < 2 ^ 63) (h0 : 0 < b) (hb : b < 2 ^ 63) : F_X6_cut_ (lN a) (lN b) = lN (a / b) := by
  unfold F_X6_cut_
  rw [if_neg (fun x => by
    rw [lg_cmp_le, l0, pk_lLE hb (by omega)] at x
    omega), pk_lDiv ha h0 hb]
theorem aliveM {M : St} {r : NS} (hw : WF r) (hm : MR M r) {K : Int32 → Prop} (hK : K (nI (popN (r.1 5) (r.1 0)))) : wp_X7_alive M K := by
  have h6 := hw.2.1
  have lp : ∀ n i, i + n = r.1 0 → wl_X7_alive_4 M K (n + 1) (nI (popN (r.1 5) i)) (nI i) := by
    intro n
    induction n with
    | zero =>
      intro i hi
      unfold wl_X7_alive_4
      rw [hm.1, show i = r.1 0 by omega, if_pos (Int32.le_refl _)]
      exact hK
    | succ n ih =>
      intro i hi
      have g := ih (i + 1) (by omega)
      have a1 := (hm.2.2.2.2.2.2.1 i (by omega)).1
      obtain ⟨l1, l2⟩ := land_al hw (k := i)
      unfold popN at g
      unfold wl_X7_alive_4
      rw [hm.1, if_neg (nI_ge (show i < r.1 0 by omega) (by omega)), clamp_nI (by omega), a1, nI_1, nI_1, Int32.add_zero]
      refine ⟨vp6 (by omega), ?_⟩
      by_cases hl : alB r i = true
      · rw [if_neg (l1 hl).1]
        rw [show r.1 5 / 2 ^ i % 2 = 1 from of_decide_eq_true hl] at g
        exact g
      · rw [if_pos (l2 hl).1]
        have := Nat.mod_lt (r.1 5 / 2 ^ i) (show 0 < 2 by omega)
        have h0 : r.1 5 / 2 ^ i % 2 = 0 := by
          have : ¬ r.1 5 / 2 ^ i % 2 = 1 := fun x => hl (decide_eq_true x)
          omega
        rw [h0, Nat.add_zero] at g
        exact g
  have key := lp (r.1 0) 0 (by omega)
  rw [show nI (popN (r.1 5) 0) = 0 from nI_0, nI_0] at key
  exact ⟨_, key⟩
def gT (t : Nat) : Nat := euV 100 (10 - t) 10
def cA (t e : Nat) : Nat := ((10 - t) / gT t) ^ e
def cB (t e : Nat) : Nat := (10 / gT t) ^ e
def cG (t e w : Nat) : Nat := euV 100 (cA t e * w) (cB t e)
def mA (t e w : Nat) : Nat := w * (10 - t) ^ e
def mB (e : Nat) : Nat := 10 ^ e
def mG (t e w : Nat) : Nat := euV 200 (mA t e w) (mB e)
def dOk (t e w : Nat) : Bool := euOk 200 (mA t e w) (mB e) && decide (cA t e * w / cG t e w = mA t e w / mG t e w) && decide (cB t e / cG t e w = mB e / mG t e w) && decide (0 < gT t) && decide (gT t ≤ 10) && decide (0 < cG t e w) && decide (cG t e w < 2 ^ 62) && decide (0 < mG t e w) && decide (mG t e w < 2 ^ 62) && decide (cA t e * w < 2 ^ 62) && decide (cA t e < 2 ^ 62) && decide (cB t e < 2 ^ 62) && decide (mA t e w < 2 ^ 62) && decide (mB e < 2 ^ 62)
theorem t_d0 : ∀ t, t < 11 → ∀ e, e < 19 → dOk t e 1 = true := by decide +kernel
theorem t_d1 : ∀ t, t < 11 → ∀ e, e < 4 → ∀ w, w < 7 → dOk t e w = true := by decide +kernel
theorem dX {t e w : Nat} (ht : t < 11) (he : e < 2 ^ 20) (ho : dOk t e w = true) {x2 x4 : Int32} {c : Int64} (hx2 : ((10 : Int32) - x2).toInt64 = lN (10 - t)) (hc : c = lN w) {xe : Int32} (hxe : xe = nI e) {K : Int64 → Prop} (hK : K (if x4 = 0 then lN (mA t e w / mG t e w) else lN (mB e / mG t e w))) : wp_X6_commonDivisor (((10 : Int32) - x2).toInt64) 10 (fun v5 => wp_X6_power (F_X6_cut_ (((10 : Int32) - x2).toInt64) v5) xe (fun v7 => wp_X6_power (F_X6_cut_ 10 v5) xe (fun v8 => if x4 = 0 then (wp_X6_commonDivisor (v7 * c) v8 (fun v10 => K (F_X6_cut_ (v7 * c) v10))) else (wp_X6_commonDivisor (v7 * c) v8 (fun v11 => K (F_X6_cut_ v8 v11)))))) := by
  subst hc
  subst hxe
  unfold dOk at ho
  simp only [Bool.and_eq_true, decide_eq_true_eq] at ho
  obtain ⟨⟨⟨⟨⟨⟨⟨⟨⟨⟨⟨⟨⟨o1, o2⟩, o3⟩, o4⟩, o5⟩, o6⟩, o7⟩, o8⟩, o9⟩, o10⟩, o11⟩, o12⟩, o13⟩, o14⟩ := ho
  rw [hx2, show (10 : Int64) = lN 10 by decide]
  unfold wp_X6_commonDivisor wp_X6_power
  have pA : cA t e = 1 * ((10 - t) / gT t) ^ e := (Nat.one_mul _).symm
  have pB : cB t e = 1 * (10 / gT t) ^ e := (Nat.one_mul _).symm
  have e1 : (1 : Int64) = lN 1 := by decide
  refine ⟨101, gcdX 100 (10 - t) 10 0 (by omega) (by omega) (by omega) ?_⟩
  show ∃ M3, wl_X6_power_5 (F_X6_cut_ (lN (10 - t)) (lN (gT t))) (nI e) _ M3 1 0
  rw [cut_l (show 10 - t < 2 ^ 63 by omega) o4 (by omega), e1, show (0 : Int32) = nI 0 from nI_0.symm]
  refine ⟨e + 1, powX he e 0 1 (by omega) ?_⟩
  rw [← pA]
  show ∃ M3, wl_X6_power_5 (F_X6_cut_ (lN 10) (lN (gT t))) (nI e) _ M3 (lN 1) (nI 0)
  rw [cut_l (show 10 < 2 ^ 63 by omega) o4 (by omega)]
  refine ⟨e + 1, powX he e 0 1 (by omega) ?_⟩
  rw [← pB, lN_mul]
  by_cases h4 : x4 = 0
  · rw [if_pos h4] at hK
    rw [if_pos (h4.trans nI_0.symm)]
    refine ⟨101, gcdX 100 _ _ 0 (by omega) (by omega) (by omega) ?_⟩
    show K (F_X6_cut_ (lN (cA t e * w)) (lN (cG t e w)))
    rw [cut_l (by omega) o6 (by omega), o2]
    exact hK
  · rw [if_neg h4] at hK
    rw [if_neg (fun x => h4 (x.trans nI_0))]
    refine ⟨101, gcdX 100 _ _ 0 (by omega) (by omega) (by omega) ?_⟩
    show K (F_X6_cut_ (lN (cB t e)) (lN (cG t e w)))
    rw [cut_l (by omega) o6 (by omega), o3]
    exact hK
theorem dM {t e w : Nat} (he : e < 2 ^ 20) (ho : dOk t e w = true) {x2 x4 : Int32} {c : Int64} (hx2 : ((10 : Int32) - x2).toInt64 = lN (10 - t)) (hc : c = lN w) {xe : Int32} (hxe : xe = nI e) {K : Int64 → Prop} (hK : K (if x4 = 0 then lN (mA t e w / mG t e w) else lN (mB e / mG t e w))) : ∃ M15, wl_X7_deaths_79 x2 xe (fun (v8 : Int64) (v9 : Int64) => (∃ M13, wl_X7_deaths_118 (fun (v11 : Int64) => (if x4 = 0 then (¬ v11 = 0 ∧ (K (v8 / v11))) else (¬ v11 = 0 ∧ (K (v9 / v11))))) M13 v8 v9)) M15 c 1 0 := by
  subst hc
  subst hxe
  unfold dOk at ho
  simp only [Bool.and_eq_true, decide_eq_true_eq] at ho
  obtain ⟨⟨⟨⟨⟨⟨⟨⟨⟨⟨⟨⟨⟨o1, o2⟩, o3⟩, o4⟩, o5⟩, o6⟩, o7⟩, o8⟩, o9⟩, o10⟩, o11⟩, o12⟩, o13⟩, o14⟩ := ho
  rw [show (1 : Int64) = lN 1 by decide, show (0 : Int32) = nI 0 from nI_0.symm]
  refine ⟨e + 1, powM hx2 he e 0 w 1 (by omega) ?_⟩
  have pB : 1 * 10 ^ e = mB e := Nat.one_mul _
  rw [pB]
  show ∃ M13, wl_X7_deaths_118 _ M13 (lN (mA t e w)) (lN (mB e))
  refine ⟨201, gcdM 200 _ _ (by omega) (by omega) o1 ?_⟩
  show if x4 = 0 then (¬ lN (mG t e w) = 0 ∧ K (lN (mA t e w) / lN (mG t e w))) else (¬ lN (mG t e w) = 0 ∧ K (lN (mB e) / lN (mG t e w)))
  have nz : ¬ lN (mG t e w) = 0 := fun x => by
    rw [lz (by omega)] at x
    omega
  by_cases h4 : x4 = 0
  · rw [if_pos h4] at hK
    rw [if_pos h4, pk_lDiv (by omega) o8 (by omega)]
    exact ⟨nz, hK⟩
  · rw [if_neg h4] at hK
    rw [if_neg h4, pk_lDiv (by omega) o8 (by omega)]
    exact ⟨nz, hK⟩
theorem sim_deaths : Sim_deaths Inv := by
  intro X0 X1 X2 X3 X4 X5 X6 X7 X8 M a0 a1 a2 a3 hI
  obtain ⟨⟨r, rfl, hw, hm⟩, hi1, hi2, hp⟩ := id hI
  have h6 := hw.2.1
  unfold wp_X6_deaths
  by_cases b0 : F_X7_in a0 0 3 = 0
  · rw [if_pos (show F_X6_within a0 0 3 = 0 from b0)]
    unfold wp_X7_deaths
    dsimp only
    rw [if_pos b0]
    exact ⟨rfl, hI⟩
  rw [if_neg (show ¬ F_X6_within a0 0 3 = 0 from b0)]
  by_cases b1 : F_X7_in a1 0 10 = 0
  · rw [if_pos (show F_X6_within a1 0 10 = 0 from b1)]
    unfold wp_X7_deaths
    dsimp only
    rw [if_neg b0, if_pos b1]
    exact ⟨rfl, hI⟩
  rw [if_neg (show ¬ F_X6_within a1 0 10 = 0 from b1)]
  by_cases b2 : F_X7_in a2 0 1 = 0
  · rw [if_pos (show F_X6_within a2 0 1 = 0 from b2)]
    unfold wp_X7_deaths
    dsimp only
    rw [if_neg b0, if_neg b1, if_pos b2]
    exact ⟨rfl, hI⟩
  rw [if_neg (show ¬ F_X6_within a2 0 1 = 0 from b2)]
  by_cases b3 : F_X7_in a3 0 1 = 0
  · rw [if_pos (show F_X6_within a3 0 1 = 0 from b3)]
    unfold wp_X7_deaths
    dsimp only
    rw [if_neg b0, if_neg b1, if_neg b2, if_pos b3]
    exact ⟨rfl, hI⟩
  rw [if_neg (show ¬ F_X6_within a3 0 1 = 0 from b3)]
  obtain ⟨m, -, hm3, e0⟩ := inN (a := 0) (b := 3) b0 (by decide) (by decide) (by omega) (by omega)
  obtain ⟨t, -, ht, e1⟩ := inN (a := 0) (b := 10) b1 (by decide) (by decide) (by omega) (by omega)
  have hl := pop_le (r.1 5) (r.1 0)
  have hx2 : ((10 : Int32) - a1).toInt64 = lN (10 - t) := by
    rw [e1, show (10 : Int32) = nI 10 by decide, pk_sub ht, nI_l (by omega)]
  have hb : F_J6_bitCount_0f7a4 ((NI r).1 5) = nI (popN (r.1 5) (r.1 0)) := t_pop (r.1 0) (by omega) (r.1 5) (lv64 hw) hw.2.2.2.2.2.1
  have hml : m * popN (r.1 5) (r.1 0) ≤ 3 * 6 := Nat.mul_le_mul hm3 (by omega)
  have e00 : a2 = 0 → a0 * F_J6_bitCount_0f7a4 ((NI r).1 5) = nI (m * popN (r.1 5) (r.1 0)) := fun _ => by rw [hb, e0, pk_mul]
  by_cases h3 : a2 = 0
  · have ho := t_d0 t (by omega) (m * popN (r.1 5) (r.1 0)) (by omega)
    have run : ∀ v, v = (if a3 = 0 then lN (mA t (m * popN (r.1 5) (r.1 0)) 1 / mG t (m * popN (r.1 5) (r.1 0)) 1) else lN (mB (m * popN (r.1 5) (r.1 0)) / mG t (m * popN (r.1 5) (r.1 0)) 1)) → wp_X7_deaths M a0 a1 a2 a3 (fun (q : Int64) => v = q ∧ Inv (NI r) X1 X2 X3 X4 X5 X6 X7 X8 M) := by
      intro v hv
      unfold wp_X7_deaths
      rw [if_neg b0, if_neg b1, if_neg b2, if_neg b3, if_pos h3]
      refine aliveM hw hm ?_
      exact dM (t := t) (e := m * popN (r.1 5) (r.1 0)) (w := 1) (by omega) ho hx2 (by decide) (by rw [e0, pk_mul]) (K := fun q => v = q ∧ Inv (NI r) X1 X2 X3 X4 X5 X6 X7 X8 M) ⟨hv, hI⟩
    have key := dX (t := t) (e := m * popN (r.1 5) (r.1 0)) (w := 1) (x4 := a3) (c := (1 : Int32).toInt64) (xe := a0 * F_J6_bitCount_0f7a4 ((NI r).1 5)) (by omega) (by omega) ho hx2 (by decide) (e00 h3) (K := fun v => wp_X7_deaths M a0 a1 a2 a3 (fun (q : Int64) => v = q ∧ Inv (NI r) X1 X2 X3 X4 X5 X6 X7 X8 M)) (run _ rfl)
    simp only [if_pos h3]
    exact key
  · have hl6 : popN (r.1 5) (r.1 0) < 7 := by omega
    have ho := t_d1 t (by omega) m (by omega) (popN (r.1 5) (r.1 0)) hl6
    have hc : (F_J6_bitCount_0f7a4 ((NI r).1 5)).toInt64 = lN (popN (r.1 5) (r.1 0)) := by rw [hb, nI_l (by omega)]
    have run : ∀ v, v = (if a3 = 0 then lN (mA t m (popN (r.1 5) (r.1 0)) / mG t m (popN (r.1 5) (r.1 0))) else lN (mB m / mG t m (popN (r.1 5) (r.1 0)))) → wp_X7_deaths M a0 a1 a2 a3 (fun (q : Int64) => v = q ∧ Inv (NI r) X1 X2 X3 X4 X5 X6 X7 X8 M) := by
      intro v hv
      unfold wp_X7_deaths
      rw [if_neg b0, if_neg b1, if_neg b2, if_neg b3, if_neg h3]
      refine aliveM hw hm ?_
      exact dM (t := t) (e := m) (w := popN (r.1 5) (r.1 0)) (by omega) ho hx2 (nI_l (by omega)) e0 (K := fun q => v = q ∧ Inv (NI r) X1 X2 X3 X4 X5 X6 X7 X8 M) ⟨hv, hI⟩
    have key := dX (t := t) (e := m) (w := popN (r.1 5) (r.1 0)) (x4 := a3) (c := (F_J6_bitCount_0f7a4 ((NI r).1 5)).toInt64) (xe := a0) (by omega) (by omega) ho hx2 hc e0 (K := fun v => wp_X7_deaths M a0 a1 a2 a3 (fun (q : Int64) => v = q ∧ Inv (NI r) X1 X2 X3 X4 X5 X6 X7 X8 M)) (run _ rfl)
    simp only [if_neg h3]
    exact key
