-- begin, sure, fooled
theorem fd_eq {r : NS} (hw : WF r) (e : Nat) : eqN r (fdN r e) = e := by
  obtain ⟨w0, w1, w2, w3, w4, -⟩ := hw
  unfold eqN fdN
  by_cases h : e = 0
  · subst h
    rw [Nat.zero_mul, Nat.zero_sub, Nat.add_zero]
    exact Nat.div_eq_of_lt w4
  · have h1 : 1 * r.1 1 ≤ e * r.1 1 := Nat.mul_le_mul_right _ (by omega)
    rw [show r.1 3 + (e * r.1 1 - r.1 3) = e * r.1 1 by omega]
    exact Nat.mul_div_cancel _ (by omega)
theorem fd_le {r : NS} {d : Nat} : fdN r (eqN r d) ≤ d := by
  have := eq_mul r d
  unfold fdN
  omega
theorem fd_mono {r : NS} {a b : Nat} (h : a ≤ b) : fdN r a ≤ fdN r b := by
  have := Nat.mul_le_mul_right (r.1 1) h
  unfold fdN
  omega
theorem aw_mono {r : NS} {l k a b : Nat} (h : a ≤ b) (he : eqN r a = eqN r b) : awN r l k b ≤ awN r l k a := by
  unfold awN
  rw [he]
  cases findP (isAt r l k) (r.1 0 + 1) (eqN r b) with
  | none => exact Nat.le_refl _
  | some e => show min 9999 _ ≤ min 9999 _; omega
theorem findP_shift {P : Nat → Bool} {p : Nat} : ∀ (d i : Nat), (∀ e, i ≤ e → P (e + p) = P e) → findP P d (i + p) = (findP P d i).map (· + p) := by
  intro d
  induction d with
  | zero => intro i _; rfl
  | succ d ih =>
    intro i h
    unfold findP
    rw [h i (Nat.le_refl _)]
    by_cases hp : P i = true
    · rw [if_pos hp, if_pos hp]; rfl
    · rw [if_neg hp, if_neg hp, show i + p + 1 = i + 1 + p by omega]
      exact ih (i + 1) (fun e he => h e (by omega))
theorem aw_per {r : NS} (hw : WF r) (l k : Nat) {e : Nat} (he : 1 ≤ e) : awN r l k (fdN r (e + (r.1 0 - 1))) = awN r l k (fdN r e) := by
  have hs := findP_shift (P := isAt r l k) (p := r.1 0 - 1) (r.1 0 + 1) e (fun x hx => isAt_per hw l k x (by omega))
  have d1 : r.1 3 + fdN r e = e * r.1 1 := by
    have h1 : 1 * r.1 1 ≤ e * r.1 1 := Nat.mul_le_mul_right _ he
    have := hw.2.2.2.2.1
    unfold fdN; omega
  have d2 : r.1 3 + fdN r (e + (r.1 0 - 1)) = (e + (r.1 0 - 1)) * r.1 1 := by
    have h1 : 1 * r.1 1 ≤ (e + (r.1 0 - 1)) * r.1 1 := Nat.mul_le_mul_right _ (by omega)
    have := hw.2.2.2.2.1
    unfold fdN; omega
  unfold awN
  rw [fd_eq hw, fd_eq hw, hs, d1, d2]
  cases findP (isAt r l k) (r.1 0 + 1) e with
  | none => rfl
  | some q =>
    show min 9999 ((q + (r.1 0 - 1)) * r.1 1 - (e + (r.1 0 - 1)) * r.1 1) = min 9999 (q * r.1 1 - e * r.1 1)
    rw [Nat.add_mul, Nat.add_mul]
    omega
def gE (r : NS) (l k w e : Nat) : Bool := decide (fdN r e ≤ 9999) && !(thB r l k (fdN r e) w)
def nth (r : NS) (l k w : Nat) (d : Nat) : Bool := !(thB r l k d w)
def bgN (r : NS) (l k w : Nat) : Option Nat := findP (nth r l k w) 10000 0
theorem g_of {r : NS} (hw : WF r) {l k w d : Nat} (hd : d ≤ 9999) (h : nth r l k w d = true) : gE r l k w (eqN r d) = true := by
  have h1 := fd_le (r := r) (d := d)
  have h2 := aw_mono (r := r) (l := l) (k := k) h1 (fd_eq hw _)
  unfold nth thB at h
  unfold gE thB
  simp only [Bool.not_eq_true', decide_eq_false_iff_not, Bool.and_eq_true, decide_eq_true_eq] at h ⊢
  omega
theorem g_per {r : NS} (hw : WF r) {l k w e : Nat} (he : 1 ≤ e) (h : gE r l k w (e + (r.1 0 - 1)) = true) : gE r l k w e = true := by
  have h1 := fd_mono (r := r) (show e ≤ e + (r.1 0 - 1) by omega)
  unfold gE thB at h ⊢
  rw [aw_per hw l k he] at h
  simp only [Bool.not_eq_true', decide_eq_false_iff_not, Bool.and_eq_true, decide_eq_true_eq] at h ⊢
  omega
theorem bg_eq {r : NS} (hw : WF r) (l k w : Nat) : bgN r l k w = (findP (gE r l k w) (r.1 0 + 1) 0).map (fdN r) := by
  have h3 := hw.1
  unfold bgN
  cases h : findP (gE r l k w) (r.1 0 + 1) 0 with
  | some e =>
    obtain ⟨-, b, c, f⟩ := findP_some h
    have c' := c
    unfold gE at c'
    simp only [Bool.and_eq_true, decide_eq_true_eq] at c'
    refine findP_eq (Nat.zero_le _) (by omega) c'.2 (fun d _ hd hn => ?_)
    have hlt : eqN r d < e := by
      refine Nat.lt_of_not_le (fun hge => ?_)
      have h1 := fd_mono (r := r) hge
      have h2 := fd_le (r := r) (d := d)
      omega
    exact f _ (Nat.zero_le _) hlt (g_of hw (by omega) hn)
  | none =>
    have hn := findP_none h
    refine findP_eq0 (fun d _ hd hx => ?_)
    have hg := g_of hw (d := d) (by omega) hx
    have key : ∀ e, ¬ gE r l k w e = true := by
      intro e
      induction e using Nat.strongRecOn with
      | _ e ih =>
        by_cases h1 : e < r.1 0 + 1
        · exact hn e (Nat.zero_le _) (by omega)
        · intro hge
          refine ih (e - (r.1 0 - 1)) (by omega) (g_per hw (by omega) ?_)
          rw [show e - (r.1 0 - 1) + (r.1 0 - 1) = e by omega]
          exact hge
    exact key _ hg
def bgI (o : Option Nat) : Int32 := match o with
  | some d => nI d
  | none => (-6)
theorem fwar_lp {r : NS} (hw : WF r) {l k w : Nat} (hl : l < r.1 0) (hk : k < r.1 0) (hw4 : w ≤ 400) {kx : Prop} {K : Int32 → Prop} : ∀ (n i : Nat), i + n = r.1 0 + 1 → (∀ e, findP (gE r l k w) n i = some e → K (nI (fdN r e))) → (findP (gE r l k w) n i = none → kx) → wl_X2_firstWar_3 (NI r) (nI k) (nI l) (nI w) kx K (n + 1) (nI i) := by
  have h6 := hw.2.1
  have e9 : (9999 : Int32) = nI 9999 := by decide
  intro n
  induction n with
  | zero =>
    intro i hi _ h2
    unfold wl_X2_firstWar_3
    rw [NI_1, if_pos (nI_lt (by omega) (by omega))]
    exact h2 rfl
  | succ n ih =>
    intro i hi h1 h2
    have hfd : fdN r i < 2 ^ 20 := by
      have h7 : i * r.1 1 ≤ 7 * 99 := Nat.mul_le_mul (by omega) hw.2.2.2.1
      unfold fdN; omega
    unfold wl_X2_firstWar_3
    rw [NI_1, if_neg (nI_nlt (by omega) (by omega)), fd_nI hw (by omega), e9, nI_1]
    unfold findP at h1 h2
    by_cases hb : 9999 < fdN r i
    · have hg : ¬ gE r l k w i = true := by
        unfold gE; simp; intro h; omega
      rw [if_neg hg] at h1 h2
      rw [if_pos (nI_lt hb (by omega))]
      exact ih (i + 1) (by omega) h1 h2
    · rw [if_neg (nI_nlt (by omega) (by omega))]
      refine away_ok hw hl hk (by omega) ?_
      by_cases ht : thB r l k (fdN r i) w = true
      · have hg : ¬ gE r l k w i = true := by
          unfold gE; simp [ht]
        rw [if_neg hg] at h1 h2
        rw [if_pos ((th_lt hw4).mpr ht)]
        exact ih (i + 1) (by omega) h1 h2
      · have hg : gE r l k w i = true := by
          have hq : fdN r i ≤ 9999 := by omega
          unfold gE
          simp only [Bool.and_eq_true, decide_eq_true_eq, Bool.not_eq_true']
          exact ⟨hq, by simpa using ht⟩
        rw [if_neg (fun h => ht ((th_lt hw4).mp h))]
        exact h1 i (by rw [if_pos hg])
theorem fwar_ok {r : NS} (hw : WF r) {l k w : Nat} (hl : l < r.1 0) (hk : k < r.1 0) (hw4 : w ≤ 400) {K : Int32 → Prop} (h : K (bgI (bgN r l k w))) : wp_X2_firstWar (NI r) (nI k) (nI l) (nI w) K := by
  unfold wp_X2_firstWar
  refine ⟨r.1 0 + 1 + 1, ?_⟩
  rw [← nI_0]
  rw [bg_eq hw] at h
  refine fwar_lp hw hl hk hw4 (r.1 0 + 1) 0 (by omega) (fun e he => ?_) (fun he => ?_)
  · rw [he] at h; exact h
  · rw [he] at h; exact h
theorem beg_lp {r : NS} {M : St} (hw : WF r) (hm : MR M r) {l k w : Nat} (hl : l < r.1 0) (hk : k < r.1 0) (hw1 : 1 ≤ w) (hw4 : w ≤ 400) {kx : Prop} {K : Int32 → Prop} : ∀ (n i : Nat), i + n = 10000 → (∀ d, findP (nth r l k w) n i = some d → K (nI d)) → (findP (nth r l k w) n i = none → kx) → wl_X7_begin_28 M (nI k) (nI l) (nI w) kx K (n + 1) (nI i) := by
  have e9 : (9999 : Int32) = nI 9999 := by decide
  intro n
  induction n with
  | zero =>
    intro i hi _ h2
    unfold wl_X7_begin_28
    rw [e9, if_pos (nI_lt (by omega) (by omega))]
    exact h2 rfl
  | succ n ih =>
    intro i hi h1 h2
    unfold wl_X7_begin_28
    rw [e9, if_neg (nI_nlt (by omega) (by omega)), nI_1]
    refine there_ok hw hm hl hk (by omega) hw1 hw4 ?_
    unfold findP at h1 h2
    by_cases ht : thB r l k i w = true
    · have hg : ¬ nth r l k w i = true := by unfold nth; simp [ht]
      rw [if_neg hg] at h1 h2
      rw [if_pos ht, if_neg (by decide)]
      exact ih (i + 1) (by omega) h1 h2
    · have hg : nth r l k w i = true := by unfold nth; simpa using ht
      rw [if_neg ht, if_pos rfl]
      exact h1 i (by rw [if_pos hg])
theorem two_of {r : NS} {M : St} (hw : WF r) (hm : MR M r) {a b : Nat} (ha : a < r.1 0) (hb : b < r.1 0) (hab : a ≠ b) : ¬ F_X7_areTwo M (nI a) (nI b) = 0 := by
  have h6 := hw.2.1
  unfold F_X7_areTwo
  rw [one_of hw hm (by omega), if_pos ha, one_of hw hm (by omega), if_pos hb, if_neg (by decide), if_neg (by decide), if_neg (by rw [nI_eq (by omega) (by omega)]; exact hab)]
  decide
theorem beg_ok {r : NS} {M : St} (hw : WF r) (hm : MR M r) {l k w : Nat} (hl : l < r.1 0) (hk : k < r.1 0) (hkl : k ≠ l) (hw1 : 1 ≤ w) (hw4 : w ≤ 400) {K : Int32 → Prop} (h : K (bgI (bgN r l k w))) : wp_X7_begin M (nI k) (nI l) (nI w) K := by
  unfold wp_X7_begin
  have hin : ¬ F_X7_in (nI w) 1 400 = 0 := (in_ne _ _ _).mpr ⟨by rw [i1]; exact nI_le hw1 (by omega), by rw [show (400 : Int32) = nI 400 by decide]; exact nI_le hw4 (by omega)⟩
  rw [if_neg (two_of hw hm hk hl hkl), if_neg hin]
  refine ⟨10001, ?_⟩
  rw [← nI_0]
  unfold bgN at h
  refine beg_lp hw hm hl hk hw1 hw4 10000 0 (by omega) (fun e he => ?_) (fun he => ?_)
  · rw [he] at h; exact h
  · rw [he] at h; exact h
theorem sim_begin : Sim_begin Inv := by
  intro X0 X1 X2 X3 X4 X5 X6 X7 X8 M a0 a1 a2 hI
  obtain ⟨⟨r, rfl, hw, hm⟩, hi1, hi2, hp⟩ := id hI
  obtain ⟨hh, hc⟩ := both_two hw hm a0 a1
  unfold wp_X6_begin
  rcases hc with h | ⟨k, l, hk, hl, hab, rfl, rfl, h⟩
  · unfold wp_X7_begin
    rw [hh]
    simp only [if_pos h]
    exact ⟨by trivial, hI⟩
  · rw [hh, if_neg h]
    by_cases h2 : F_X7_in a2 1 400 = 0
    · rw [if_pos (show F_X6_within a2 1 400 = 0 from h2)]
      unfold wp_X7_begin
      dsimp only
      rw [if_neg h, if_pos h2]
      exact ⟨rfl, hI⟩
    · rw [if_neg (show ¬ F_X6_within a2 1 400 = 0 from h2)]
      obtain ⟨w, hw1, hw4, rfl⟩ := inN (a := 1) (b := 400) h2 (by decide) (by decide) (by omega) (by omega)
      exact fwar_ok hw hl hk hw4 (beg_ok hw hm hl hk hab hw1 hw4 ⟨rfl, hI⟩)
/-! sure -/
theorem bg_lt {r : NS} {l k w d : Nat} (h : bgN r l k w = some d) : d < 10000 := by
  obtain ⟨-, b, -⟩ := findP_some h
  omega
theorem bgI_none {r : NS} {l k w : Nat} : bgI (bgN r l k w) = (-6) ↔ bgN r l k w = none := by
  cases h : bgN r l k w with
  | none => exact ⟨fun _ => rfl, fun _ => rfl⟩
  | some d =>
    have := bg_lt h
    refine ⟨fun h => absurd (h ▸ nI_pos' (by omega) : (0 : Int32) ≤ (-6)) (by decide), fun h => by cases h⟩
theorem bgI_ge {r : NS} {l k w : Nat} : (0 : Int32) ≤ bgI (bgN r l k w) ↔ ¬ bgN r l k w = none := by
  cases h : bgN r l k w with
  | none => exact ⟨fun h => absurd h (by decide), fun h => absurd rfl h⟩
  | some d =>
    have := bg_lt h
    exact ⟨fun _ h => (by cases h), fun _ => nI_pos' (by omega)⟩
def exB (r : NS) (l w : Nat) : Nat → Bool
  | 0 => false
  | k + 1 => exB r l w k || (decide (k ≠ l) && (bgN r l k w).isSome)
def oneI (b : Bool) : Int32 := if b = true then 1 else 0
theorem or_oo : ∀ (b c : Bool), oneI b ||| oneI c = oneI (b || c) := by decide
theorem sureX_in {r : NS} (hw : WF r) {l w : Nat} (hl : l < r.1 0) (hw4 : w ≤ 400) {kx : Int32 → Prop} (h : kx (oneI (exB r l w (r.1 0)))) : ∀ (n i : Nat), i + n = r.1 0 → wl_X6_sure_35 (NI r) (nI w) (nI l) kx (n + 1) (oneI (exB r l w i)) (nI i) := by
  have h6 := hw.2.1
  intro n
  induction n with
  | zero =>
    intro i hi
    unfold wl_X6_sure_35
    rw [NI_1, if_pos (nI_le (by omega) (by omega)), show i = r.1 0 by omega]
    exact h
  | succ n ih =>
    intro i hi
    unfold wl_X6_sure_35
    rw [NI_1, if_neg (nle (by omega) (by omega)), nI_1]
    have o0 : (0 : Int32) = oneI false := rfl
    have o1 : (1 : Int32) = oneI true := rfl
    have stp1 : ∀ b : Bool, (decide (i ≠ l) && (bgN r l i w).isSome) = b → oneI (exB r l w i) ||| oneI b = oneI (exB r l w (i + 1)) := by
      intro b hb
      rw [or_oo]
      show _ = oneI (exB r l w i || (decide (i ≠ l) && (bgN r l i w).isSome))
      rw [hb]
    by_cases hil : i = l
    · rw [if_pos (by rw [hil])]
      have := stp1 false (by simp [hil])
      rw [o0, this]
      exact ih (i + 1) (by omega)
    · rw [if_neg (by rw [nI_eq (by omega) (by omega)]; exact hil)]
      refine fwar_ok hw hl (by omega) hw4 ?_
      by_cases hn : bgN r l i w = none
      · rw [if_pos (bgI_none.mpr hn)]
        have := stp1 false (by simp [hn])
        rw [o0, this]
        exact ih (i + 1) (by omega)
      · rw [if_neg (fun h => hn (bgI_none.mp h))]
        have := stp1 true (by simp [hil]; exact Option.ne_none_iff_isSome.mp hn)
        rw [o1, this]
        exact ih (i + 1) (by omega)
theorem ex_mono {r : NS} {l w : Nat} : ∀ (n i : Nat), exB r l w i = true → exB r l w (i + n) = true := by
  intro n
  induction n with
  | zero => intro i h; exact h
  | succ n ih =>
    intro i h
    show (exB r l w (i + n) || _) = true
    rw [ih i h]; rfl
theorem sureM_in {r : NS} {M : St} (hw : WF r) (hm : MR M r) {l w : Nat} (hl : l < r.1 0) (hw1 : 1 ≤ w) (hw4 : w ≤ 400) {kx : Int32 → Prop} (h : kx (oneI (!(exB r l w (r.1 0))))) : ∀ (n i : Nat), i + n = r.1 0 → wl_X7_sure_32 M (nI w) (nI l) kx (n + 1) (oneI (!(exB r l w i))) (nI i) := by
  have h6 := hw.2.1
  have m0 := hm.1
  intro n
  induction n with
  | zero =>
    intro i hi
    unfold wl_X7_sure_32
    rw [m0, if_pos (nI_le (by omega) (by omega)), show i = r.1 0 by omega]
    exact h
  | succ n ih =>
    intro i hi
    unfold wl_X7_sure_32
    rw [m0, if_neg (nle (by omega) (by omega)), nI_1]
    by_cases he : exB r l w i = true
    · rw [he, if_pos (by rfl)]
      have := ex_mono (r := r) (l := l) (w := w) (r.1 0 - i) i he
      rw [show i + (r.1 0 - i) = r.1 0 by omega] at this
      rw [this] at h
      exact h
    · have he' : exB r l w i = false := by simpa using he
      have nx : ∀ b : Bool, (decide (i ≠ l) && (bgN r l i w).isSome) = b → oneI (!b) = oneI (!(exB r l w (i + 1))) := by
        intro b hb
        show _ = oneI (!(exB r l w i || (decide (i ≠ l) && (bgN r l i w).isSome)))
        rw [hb, he']; rfl
      rw [he', if_neg (by decide)]
      have o0 : (0 : Int32) = oneI (!true) := rfl
      have o1 : (1 : Int32) = oneI (!false) := rfl
      by_cases hil : i = l
      · rw [if_pos (by rw [hil]), o1, nx false (by simp [hil])]
        exact ih (i + 1) (by omega)
      · rw [if_neg (by rw [nI_eq (by omega) (by omega)]; exact hil)]
        refine beg_ok hw hm hl (by omega) hil hw1 hw4 ?_
        by_cases hn : bgN r l i w = none
        · rw [if_neg (fun h => bgI_ge.mp h hn), o1, nx false (by simp [hn])]
          exact ih (i + 1) (by omega)
        · rw [if_pos (bgI_ge.mpr hn), o0, nx true (by simp [hil]; exact Option.ne_none_iff_isSome.mp hn)]
          exact ih (i + 1) (by omega)
def suB (r : NS) (w l : Nat) : Bool := !(exB r l w (r.1 0))
theorem sureX_lp {r : NS} (hw : WF r) {w : Nat} (hw4 : w ≤ 400) {kx : Int32 → Prop} (h : kx (nI (msk (suB r w) (r.1 0)))) : ∀ (n i : Nat), i + n = r.1 0 → wl_X6_sure_18 (NI r) (nI w) kx (n + 1) (nI (msk (suB r w) i)) (nI i) := by
  have h6 := hw.2.1
  intro n
  induction n with
  | zero =>
    intro i hi
    unfold wl_X6_sure_18
    rw [NI_1, if_pos (nI_le (by omega) (by omega)), show i = r.1 0 by omega]
    exact h
  | succ n ih =>
    intro i hi
    unfold wl_X6_sure_18
    rw [NI_1, if_neg (nle (by omega) (by omega)), nI_1]
    refine ⟨r.1 0 + 1, ?_⟩
    have := sureX_in hw (l := i) (by omega) hw4 (kx := fun v7 => if v7 = 0 then wl_X6_sure_18 (NI r) (nI w) kx (n + 1) (nI (msk (suB r w) i) ||| ((1 : Int32) <<< (nI i &&& 31))) (nI (i + 1)) else wl_X6_sure_18 (NI r) (nI w) kx (n + 1) (nI (msk (suB r w) i)) (nI (i + 1))) ?_ (r.1 0) 0 (by omega)
    · rw [nI_0] at this
      exact this
    · by_cases he : exB r i w (r.1 0) = true
      · rw [he, if_neg (by decide), msk_no (P := suB r w) (by unfold suB; simp [he])]
        exact ih (i + 1) (by omega)
      · have he' : exB r i w (r.1 0) = false := by simpa using he
        rw [he', if_pos (by rfl), msk_or (P := suB r w) (by omega) (by unfold suB; simp [he'])]
        exact ih (i + 1) (by omega)
theorem sureM_lp {r : NS} {M : St} (hw : WF r) (hm : MR M r) {w : Nat} (hw1 : 1 ≤ w) (hw4 : w ≤ 400) {kx : Int32 → Prop} (h : kx (nI (msk (suB r w) (r.1 0)))) : ∀ (n i : Nat), i + n = r.1 0 → wl_X7_sure_18 M (nI w) kx (n + 1) (nI (msk (suB r w) i)) (nI i) := by
  have h6 := hw.2.1
  have m0 := hm.1
  intro n
  induction n with
  | zero =>
    intro i hi
    unfold wl_X7_sure_18
    rw [m0, if_pos (nI_le (by omega) (by omega)), show i = r.1 0 by omega]
    exact h
  | succ n ih =>
    intro i hi
    unfold wl_X7_sure_18
    rw [m0, if_neg (nle (by omega) (by omega)), nI_1]
    refine ⟨r.1 0 + 1, ?_⟩
    have := sureM_in hw hm (l := i) (by omega) hw1 hw4 (kx := fun v8 => if v8 = 0 then wl_X7_sure_18 M (nI w) kx (n + 1) (nI (msk (suB r w) i) ||| 0) (nI (i + 1)) else wl_X7_sure_18 M (nI w) kx (n + 1) (nI (msk (suB r w) i) ||| ((1 : Int32) <<< (nI i &&& 31))) (nI (i + 1))) ?_ (r.1 0) 0 (by omega)
    · rw [nI_0] at this
      exact this
    · by_cases he : exB r i w (r.1 0) = true
      · rw [he, if_pos (by rfl), msk_or0 (P := suB r w) (by omega) (by unfold suB; simp [he])]
        exact ih (i + 1) (by omega)
      · have he' : exB r i w (r.1 0) = false := by simpa using he
        rw [he', if_neg (by decide), msk_or (P := suB r w) (by omega) (by unfold suB; simp [he'])]
        exact ih (i + 1) (by omega)
theorem sim_sure : Sim_sure Inv := by
  intro X0 X1 X2 X3 X4 X5 X6 X7 X8 M a0 hI
  obtain ⟨⟨r, rfl, hw, hm⟩, hi1, hi2, hp⟩ := id hI
  unfold wp_X6_sure wp_X7_sure
  by_cases h2 : F_X7_in a0 1 400 = 0
  · rw [if_pos (show F_X6_within a0 1 400 = 0 from h2)]
    dsimp only
    rw [if_pos h2]
    exact ⟨rfl, hI⟩
  · rw [if_neg (show ¬ F_X6_within a0 1 400 = 0 from h2)]
    obtain ⟨w, hw1, hw4, rfl⟩ := inN (a := 1) (b := 400) h2 (by decide) (by decide) (by omega) (by omega)
    refine ⟨r.1 0 + 1, ?_⟩
    rw [← nI_0]
    refine sureX_lp hw hw4 ?_ (r.1 0) 0 (by omega)
    dsimp only
    rw [nI_0, if_neg h2]
    refine ⟨r.1 0 + 1, ?_⟩
    rw [← nI_0]
    exact sureM_lp hw hm hw1 hw4 (kx := fun v => _ = v ∧ Inv _ _ _ _ _ _ _ _ _ M) ⟨rfl, hI⟩ (r.1 0) 0 (by omega)
