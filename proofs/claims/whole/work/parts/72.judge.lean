-- judge, done, behind, day
def KS (r q : NS) : Prop := q.1 0 = r.1 0 ∧ q.1 1 = r.1 1 ∧ q.1 6 = r.1 6 ∧ (∀ k, k < 6 → q.2 11 k = r.2 11 k ∧ q.2 12 k = r.2 12 k) ∧ ∀ k, k < 8 → q.2 13 k = r.2 13 k ∧ q.2 14 k = r.2 14 k
theorem KS.refl (r : NS) : KS r r := ⟨rfl, rfl, rfl, fun _ _ => ⟨rfl, rfl⟩, fun _ _ => ⟨rfl, rfl⟩⟩
theorem KS.trans {r q s : NS} (h : KS r q) (g : KS q s) : KS r s := by
  obtain ⟨h0, h1, h6, hA, hB⟩ := h
  obtain ⟨g0, g1, g6, gA, gB⟩ := g
  exact ⟨g0.trans h0, g1.trans h1, g6.trans h6, fun k hk => ⟨(gA k hk).1.trans (hA k hk).1, (gA k hk).2.trans (hA k hk).2⟩, fun k hk => ⟨(gB k hk).1.trans (hB k hk).1, (gB k hk).2.trans (hB k hk).2⟩⟩
theorem EqR.ks {r q : NS} (h : EqR r q) : KS r q := ⟨h.1 0 (by omega), h.1 1 (by omega), h.1 6 (by omega), fun k hk => ⟨(h.2.1 k hk).2.2.2.1, (h.2.1 k hk).2.2.2.2⟩, h.2.2⟩
theorem nDay_ks (r : NS) : KS r (nDay r) := by
  unfold nDay
  split
  · exact ⟨rfl, rfl, rfl, fun _ _ => ⟨rfl, rfl⟩, fun _ _ => ⟨rfl, rfl⟩⟩
  · exact ⟨rfl, rfl, rfl, fun k _ => ⟨eqAt_o _ _ k (by decide) (by decide) (by decide), eqAt_o _ _ k (by decide) (by decide) (by decide)⟩, fun k _ => ⟨eqAt_o _ _ k (by decide) (by decide) (by decide), eqAt_o _ _ k (by decide) (by decide) (by decide)⟩⟩
theorem nDays_ks : ∀ m r, KS r (nDays m r) := by
  intro m
  induction m with
  | zero => exact fun r => KS.refl r
  | succ m ih => exact fun r => (nDay_ks r).trans (ih (nDay r))
theorem nTime_ks (r : NS) (x : Nat) : KS r (nTime r x) := by
  unfold nTime
  split
  · exact nDays_ks _ _
  · split
    · exact nDays_ks _ _
    · exact nDays_ks _ _
theorem fate_ks (r : NS) (k s : Nat) : KS r (fate r k s).2 := by
  unfold fate dieF bindF hatF
  repeat' split
  all_goals exact ⟨rfl, rfl, rfl, fun _ _ => ⟨rfl, rfl⟩, fun _ _ => ⟨rfl, rfl⟩⟩
theorem run_ok {n : Nat} {d : Nat → Nat} (hn : n < 7) : ∀ (m i : Nat) (r : NS) (a : Nat), i + m ≤ 60 → fv n d m i = -6 → WF r → r.1 0 = n → WF (runY d m i r a).2.2 ∧ KS r (runY d m i r a).2.2 ∧ (runY d m i r a).2.1 ≤ a + m ∧ (runY d m i r a).1 ≤ 4 := by
  intro m
  induction m using Nat.strongRecOn with
  | _ m ih =>
    intro i r a hi hf hw hr
    cases m with
    | zero => exact ⟨hw, KS.refl r, Nat.le_refl _, Nat.zero_le _⟩
    | succ m =>
      by_cases ht : tmB (d i) = true
      · have hf' : fv n d m (i + 1) = -6 := by
          unfold fv at hf
          rw [if_pos ht] at hf
          exact hf
        have er : runY d (m + 1) i r a = runY d m (i + 1) (nTime r (d i)) (a + 1) := by
          conv => lhs; unfold runY
          rw [if_pos ht]
        rw [er]
        obtain ⟨p1, p2, p3, p4⟩ := ih m (by omega) (i + 1) (nTime r (d i)) (a + 1) (by omega) hf' (nTime_wf hw _) (by rw [nTime_n]; exact hr)
        exact ⟨p1, (nTime_ks r _).trans p2, by omega, p4⟩
      · obtain ⟨hc, m, rfl, ho, hf'⟩ := fv_ch hf (by omega) ht
        obtain ⟨c1, c2⟩ := ch_k hc
        have hwf := fate_wf (k := d i - 65) (s := d (i + 1)) hw (by omega) (by rw [hr]; exact ho)
        have hks := fate_ks r (d i - 65) (d (i + 1))
        have er : runY d (m + 1 + 1) i r a = if (fate r (d i - 65) (d (i + 1))).1 = 0 then runY d m (i + 2) (fate r (d i - 65) (d (i + 1))).2 (a + 1) else ((fate r (d i - 65) (d (i + 1))).1, a, (fate r (d i - 65) (d (i + 1))).2) := by
          conv => lhs; unfold runY
          rw [if_neg ht]
        rw [er]
        split
        · obtain ⟨p1, p2, p3, p4⟩ := ih m (by omega) (i + 2) _ (a + 1) (by omega) hf' hwf (hks.1.trans hr)
          exact ⟨p1, hks.trans p2, by omega, p4⟩
        · exact ⟨hwf, hks, by show a ≤ _; omega, fate_4 _ _ _⟩
/-- a Round as `tried` begins -/
def T0 (r t : NS) : Prop := EqR r t ∧ ∀ k, k < 6 → t.2 10 k = 0
theorem canBe_X {X5 X6 X1 : St} {r : NS} {p : Nat} {d : Nat → Nat} (hw : WF r) (hp : p ≤ 60) (e1 : X5.1 1 = nI p) (hd : ∀ k, k < p → X5.2 0 k = nI (d k) ∧ d k < 127) (hf : fv (r.1 0) d p 0 = -6) {K : Int32 → St → St → Prop} (hK : ∀ t, T0 r t → ∀ S : St, S.1 0 = nI (runY d p 0 t 0).2.1 → S.1 1 = nI (runY d p 0 t 0).1 → ((runY d p 0 t 0).1 = 0 → K 1 S (NI (runY d p 0 t 0).2.2)) ∧ ((runY d p 0 t 0).1 ≠ 0 → K 0 S (NI (runY d p 0 t 0).2.2))) : wp_X5_canBe X6 (NI r) X1 X5 K := by
  have h6 := hw.2.1
  unfold wp_X5_canBe
  refine take_any (fun q hq => fill_nI (by omega) ?_)
  have e : sA (NI q) 10 (fun j => if j < 6 then 0 else (NI q).2 10 j) = NI (nsA q 10 (fun j => if j < 6 then 0 else q.2 10 j)) := by
    rw [← sA_NI]
    congr 1
    funext j
    show (if j < 6 then (0 : Int32) else nI (q.2 10 j)) = nI (if j < 6 then 0 else q.2 10 j)
    split
    · exact nI_0.symm
    · rfl
  rw [e]
  have ht : T0 r (nsA q 10 (fun j => if j < 6 then 0 else q.2 10 j)) := by
    refine ⟨hq, fun k hk => ?_⟩
    show (if k < 6 then 0 else q.2 10 k) = 0
    rw [if_pos hk]
  have hwt := ht.1.wf hw
  have hn : (nsA q 10 (fun j => if j < 6 then 0 else q.2 10 j)).1 0 = r.1 0 := hq.1 0 (by omega)
  have hr := (run_ok (d := d) (n := r.1 0) (by omega) p 0 _ 0 (by omega) hf hwt hn).2.2.2
  have key := canX (X5 := X5) (p := p) (n := r.1 0) (d := d) (by omega) hp e1 hd (KX := fun Z10 Z11 => if Z10.1 1 = 0 then K 1 Z10 Z11 else K 0 Z10 Z11) p 0 (nsA q 10 (fun j => if j < 6 then 0 else q.2 10 j)) 0 (sI (sI X6 0 0) 1 0) (by omega) hf hwt hn nI_0.symm rfl (fun S s0 s1 => by
    obtain ⟨k1, k0⟩ := hK _ ht S s0 s1
    show if S.1 1 = 0 then _ else _
    by_cases hz : (runY d p 0 (nsA q 10 (fun j => if j < 6 then 0 else q.2 10 j)) 0).1 = 0
    · rw [if_pos (by rw [s1, hz, nI_0])]
      exact k1 hz
    · rw [if_neg (by rw [s1]; exact nI_ne0 (by omega) (by omega))]
      exact k0 hz) (p + 2) (by omega)
  rw [nI_0] at key
  exact ⟨_, key⟩
def asR (M0 N : St) (i : Nat) : Prop := Keep M0 N ∧ N.1 14 = M0.1 2 ∧ N.1 15 = M0.1 3 ∧ N.1 16 = M0.1 4 ∧ ∀ k, k < i → N.2 17 k = M0.2 5 k ∧ N.2 18 k = M0.2 6 k ∧ N.2 19 k = M0.2 7 k ∧ N.2 20 k = 0
theorem as_lp {M0 : St} {K : St → Prop} (hK : ∀ N, asR M0 N 6 → K N) : ∀ n i N, i + n = 6 → asR M0 N i → wl_X7_asNow_26 K (n + 1) (nI i) N := by
  have e6 : (6 : Int32) = nI 6 := by decide
  intro n
  induction n with
  | zero =>
    intro i N hi h
    unfold wl_X7_asNow_26
    rw [if_pos (by rw [show i = 6 by omega]; decide)]
    rw [show i = 6 by omega] at h
    exact hK N h
  | succ n ih =>
    intro i N hi h
    obtain ⟨k1, k2, k3, k4, k5⟩ := h
    have v6 : vp_in (nI i) 6 := vp6 (by omega)
    unfold wl_X7_asNow_26
    rw [if_neg (by rw [e6]; exact nI_ge (by omega) (by omega)), clamp_nI (by omega), nI_1]
    refine ⟨v6, v6, v6, v6, v6, v6, v6, ?_⟩
    refine ih (i + 1) _ (by omega) ⟨kp1 (kp1 (kp1 (kp1 k1 _ (by omega) (by omega)) _ (by omega) (by omega)) _ (by omega) (by omega)) _ (by omega) (by omega), k2, k3, k4, fun k hk => ?_⟩
    show upd (N.2 17) i (N.2 5 i) k = _ ∧ upd (N.2 18) i (N.2 6 i) k = _ ∧ upd (N.2 19) i (N.2 7 i) k = _ ∧ upd (N.2 20) i 0 k = _
    rw [k1.2.1 5 (by omega), k1.2.1 6 (by omega), k1.2.1 7 (by omega)]
    unfold upd
    by_cases e : k = i
    · rw [if_pos e, if_pos e, if_pos e, if_pos e, e]
      exact ⟨rfl, rfl, rfl, rfl⟩
    · rw [if_neg e, if_neg e, if_neg e, if_neg e]
      exact k5 k (by omega)
theorem as_TR {M N : St} {r t : NS} (hw : WF r) (hm : MR M r) (ht : T0 r t) (h : asR M N 6) : ∃ c, TR M (sI N 22 0) t 0 c := by
  have h6 := hw.2.1
  obtain ⟨k1, k2, k3, k4, k5⟩ := h
  obtain ⟨m0, m1, m2, m3, m4, m10, m5, m11⟩ := hm
  obtain ⟨⟨q1, q2, q3⟩, q10⟩ := ht
  obtain ⟨c, -, hc⟩ := ex_nI (N.1 21)
  refine ⟨c, kpI k1 _ (by omega), ?_, ?_, ?_, hc, nI_0.symm, fun k hk => ?_⟩
  · rw [q1 2 (by omega)]; exact k2.trans m2
  · rw [q1 4 (by omega)]; exact k3.trans m3
  · rw [q1 3 (by omega)]; exact k4.trans m4
  · rw [q1 0 (by omega)] at hk
    obtain ⟨a1, a2, a3, -, -⟩ := m5 k hk
    obtain ⟨b1, b2, b3, b4⟩ := k5 k (by omega)
    obtain ⟨c7, c8, c9, -, -⟩ := q2 k (by omega)
    rw [c8, c9, q10 k (by omega), nI_0]
    refine ⟨?_, b2.trans a2, b3.trans a3, b4⟩
    refine b1.trans (a1.trans ?_)
    unfold landI
    rw [q1 5 (by omega), q1 0 (by omega), c7]
theorem go_M {M : St} {r : NS} {p : Nat} {d : Nat → Nat} (hw : WF r) (hm : MR M r) (hp : p ≤ 60) (e1 : M.1 12 = nI p) (hd : ∀ k, k < p → M.2 13 k = nI (d k) ∧ d k < 127) (hf : fv (r.1 0) d p 0 = -6) {t : NS} (ht : T0 r t) {K : Int32 → St → Prop} (hK0 : (runY d p 0 t 0).1 = 0 → ∀ N c', TR M N (runY d p 0 t 0).2.2 (runY d p 0 t 0).2.1 c' → K (-6) N) (hK1 : (runY d p 0 t 0).1 ≠ 0 → ∀ N, Keep M N → N.1 21 = nI (runY d p 0 t 0).1 → N.1 22 = nI (runY d p 0 t 0).2.1 → K (nI (runY d p 0 t 0).2.1) N) : wp_X7_goYears M K := by
  have h6 := hw.2.1
  have e0 := ht.1.1 0 (by omega)
  have el := ht.1.1 1 (by omega)
  unfold wp_X7_goYears wp_X7_asNow
  have key := as_lp (M0 := M) (K := fun Z1 => ∃ M49, wl_X7_goYears_11 (fun Z48 => K (-6) Z48) K M49 0 (sI Z1 22 0)) (fun N hN => by
    obtain ⟨c, hT⟩ := as_TR hw hm ht hN
    have kk := goM (M0 := M) (p := p) (n := r.1 0) (L := r.1 1) (d := d) (by omega) hp hm.1 hm.2.1 e1 hd (kx := fun Z48 => K (-6) Z48) (K := K) p 0 t 0 c (sI N 22 0) (by omega) hf (ht.1.wf hw) e0 el hT hK0 hK1 (p + 1) (by omega)
    rw [nI_0] at kk
    exact ⟨_, kk⟩) 6 0 (sI (sI (sI M 14 (M.1 2)) 15 (M.1 3)) 16 (M.1 4)) (by omega) ⟨kpI (kpI (kpI (Keep.refl M) _ (by omega)) _ (by omega)) _ (by omega), rfl, rfl, rfl, fun k hk => absurd hk (by omega)⟩
  rw [nI_0] at key
  exact ⟨_, key⟩
