/-! BEARS, GORGES: whole minutes in lockstep -/
theorem pos_m (t : Nat) : ∀ (r : List Nat) (i : Nat), i + r.length < 1000 → (pos t r i = -9 ↔ t ∉ r)
  | [], i, _ => ⟨fun _ => by simp, fun _ => rfl⟩
  | w :: r, i, h => by
    unfold pos
    simp only [List.length_cons] at h
    by_cases c : w = t
    · rw [if_pos c]
      exact ⟨fun q => absurd q (ne9 (by omega)), fun q => absurd (by rw [c]; simp) q⟩
    · rw [if_neg c, pos_m t r (i + 1) (by omega)]
      simp [Ne.symm c]
theorem bears_l {W L A N K u : Nat} {nv kd : Nat → Int32} (hP : PH W L A N K) (hk : KR W K kd) (hv : KR W N nv) (hu : u < W) (x1 x2 x3 x4 x5 : Int32) (pg : Nat → Int32) (J : Nat) (hJ : J ≤ 9) (th : Int32) : ∀ (d k c : Nat) (s : Wk) (f : Nat → Int32) (tC tM : Int32), s.2.2 + d = L → k + d = J + 1 → d < c → WK W L s → PG f s.1 s.2.1 s.2.2 (LO W s.1) →
    ∃ z w, lp (fun _ _ _ _ _ _ _ => none) (fX4_bears_b61_S x1 x2 (nI A) (nI N) (nI K) x3 x4 x5) c (nI u) (nI J) (nI k) (nI (encR s.1)) (nI s.2.1) (nI s.2.2) tC = some z ∧ lp (fun _ _ _ _ _ => none) (fX5_bears_b38_S (nI W) (nI L) (nI A) nv kd pg) c (nI u) (nI k) th tM f = some w ∧ z.1 = w.1 := by
  have hL := hP.2.2.1
  have hW := hP.1
  have g11 : ¬ ((11 : Int32) < 0 ∨ 13 ≤ (11 : Int32).toNatClampNeg) := by decide
  have c11 : (11 : Int32).toNatClampNeg = 11 := by decide
  intro d
  induction d with
  | zero =>
    intro k c s f tC tM e1 e2 hc hs hf
    obtain ⟨c, rfl⟩ : ∃ m, c = m + 1 := ⟨c - 1, by omega⟩
    rw [lp_s, lp_s]
    unfold fX4_bears_b61_S fX5_bears_b38_S
    rw [if_pos (nI_lt (show J < k by omega) (by omega)), if_neg g11, c11, hf.2.2.2.1, if_pos (nI_le (show L ≤ s.2.2 by omega) (by omega))]
    exact ⟨_, _, rfl, rfl, rfl⟩
  | succ d ih =>
    intro k c s f tC tM e1 e2 hc hs hf
    obtain ⟨c, rfl⟩ : ∃ m, c = m + 1 := ⟨c - 1, by omega⟩
    rw [lp_s, lp_s]
    have hl : s.2.2 < L := by omega
    obtain ⟨f', p1, p2⟩ := m_step (t := 0) hP hs hl (by omega) hk hv hf tM
    have p2 : fX5_goMinute 0 (nI A) tM nv kd f = _ := p2
    have q2 : fX3_step 0 (nI A) (nI N) (nI K) (nI (encR s.1)) (nI s.2.1) (nI s.2.2) tC = _ := c_step hP hs (show 0 < 32 by omega) tC
    obtain ⟨o1, o2, o3, o4, o5, o6⟩ := step_ok (t := 0) hP hs hl
    obtain ⟨z, w, i1, i2, i3⟩ := ih (k + 1) c (stepW A N K 0 s).1 f' (nI (stepW A N K 0 s).2.2) (nI (stepW A N K 0 s).2.2) (by show s.2.2 + 1 + d = L; omega) (by omega) (by omega) o1 p1
    have i1 : lp (fun _ _ _ _ _ _ _ => none) (fX4_bears_b61_S x1 x2 (nI A) (nI N) (nI K) x3 x4 x5) c (nI u) (nI J) (nI (k + 1)) (nI (encR (stepW A N K 0 s).1.1)) (nI (stepW A N K 0 s).1.2.1) (nI (s.2.2 + 1)) (nI (stepW A N K 0 s).2.2) = some z := i1
    revert i1 i2
    generalize lp (fun _ _ _ _ _ _ _ => none) (fX4_bears_b61_S x1 x2 (nI A) (nI N) (nI K) x3 x4 x5) c = kC
    generalize lp (fun _ _ _ _ _ => none) (fX5_bears_b38_S (nI W) (nI L) (nI A) nv kd pg) c = kM
    intro i1 i2
    unfold fX4_bears_b61_S fX5_bears_b38_S fX3_turned
    rw [if_neg (nI_nlt (show k ≤ J by omega) (by omega)), if_neg g11, c11, hf.2.2.2.1, if_neg (nI_ge (show s.2.2 < L by omega) (by omega)), q2, bs, bs, p2, bs, m_has _ _ o6 (by omega), bs]
    have tb := tb_dec (stepW A N K 0 s).2.2 o6 u (by omega)
    by_cases b : (stepW A N K 0 s).2.2.testBit u = true
    · rw [if_pos (tb.mpr b), if_pos b, if_neg one_ne]
      exact ⟨_, _, rfl, rfl, rfl⟩
    · rw [if_neg (fun q => b (tb.mp q)), if_neg b, if_pos rfl, nI_1, i1, i2]
      exact ⟨_, _, rfl, rfl, i3⟩
theorem op_bears {W L A N K : Nat} {s : Wk} {pg nv kd : Nat → Int32} (hP : PH W L A N K) (hs : WK W L s) (hk : KR W K kd) (hv : KR W N nv) (hg : PG pg s.1 s.2.1 s.2.2 (LO W s.1)) (j : Int32) (x1 x2 x3 x4 th tu : Int32) (tr : Nat → Int32) :
    ∃ z w, fX4_bears j (nI W) (nI L) (nI A) (nI N) (nI K) (nI (encR s.1)) (nI s.2.1) (nI s.2.2) x1 x2 x3 x4 = some z ∧ fX5_bears j th (nI W) (nI L) (nI A) tu nv kd pg tr = some w ∧ z.1 = w.1 := by
  have hP' := hP
  obtain ⟨p1, p2, p3, p4, p5, p6⟩ := hP'
  have h5 := a_lt _ hs.1
  have g12 : ¬ ((12 : Int32) < 0 ∨ 13 ≤ (12 : Int32).toNatClampNeg) := by decide
  have c12 : (12 : Int32).toNatClampNeg = 12 := by decide
  have hW : 2 ^ W ≤ 2 ^ 5 := Nat.pow_le_pow_right (by decide) p1
  have hlo : LO W s.1 < 32 := by
    unfold LO
    exact Nat.xor_lt_two_pow (n := 5) (by have := Nat.two_pow_pos W; omega) h5.2.2.2
  classical
  unfold fX4_bears fX5_bears fX1_light fX3_place
  rw [c_has p1, bs, m_noOne p1, bs]
  by_cases c : ∃ t, t < W ∧ j = nI t
  · rw [if_pos c, if_pos c, if_neg one_ne, if_pos rfl]
    obtain ⟨t, ht, rfl⟩ := c
    have ix : fX3_indexOf (nI t) (nI (encR s.1)) = some (pos t s.1 0) := c_index hs.1 (by omega) s.1 [] fu rfl (by unfold fu; omega)
    have pm := pos_m t s.1 0 (by omega)
    have lb := LO_bit hs.2.1 t
    rw [ix, bs, if_neg g12, c12, hg.2.2.2.2, m_has _ _ hlo (by omega), bs]
    by_cases hin : t ∈ s.1
    · rw [if_neg (show ¬ pos t s.1 0 = -9 from fun q => (pm.mp q) hin), if_neg (fun q => (lb.mp q).2 hin), if_pos rfl, c_state p3 hs, bs, c_become p3 hs, bs, bs, bs]
      obtain ⟨f', b1, b2⟩ := m_begin pg tr
      have s1 : nI L - nI s.2.2 = nI (L - s.2.2) := pk_sub hs.2.2.2.2
      rw [b1, bs, s1]
      exact bears_l hP hk hv ht (nI W) (nI L) (nI (encR s.1)) (nI s.2.1) (nI s.2.2) pg (L - s.2.2) (by omega) 0 (L - s.2.2) 1 fu s f' x4 tu (by have := hs.2.2.2.2; omega) (by omega) (by unfold fu; omega) hs (hg.congr h5.2.1 (fun i hi => b2 i hi))
    · rw [if_pos (pm.mpr hin), if_pos (lb.mpr ⟨ht, hin⟩), if_neg one_ne]
      exact ⟨_, _, rfl, rfl, rfl⟩
  · rw [if_neg c, if_neg c, if_pos rfl, if_neg one_ne]
    exact ⟨_, _, rfl, rfl, rfl⟩
theorem tread_c (x : Int64) : ∃ t, t < 32 ∧ ((x.toUInt64 >>> ((33 : Int32).toInt64.toUInt64 &&& Int64.toUInt64 63)).toInt64).toInt32 &&& (31 : Int32) = nI t ∧ (((x.toUInt64 >>> ((33 : Int32).toInt64.toUInt64 &&& Int64.toUInt64 63)).toInt64) - ((x.toUInt64 >>> ((33 : Int32).toInt64.toUInt64 &&& Int64.toUInt64 63)).toInt64) / (32 : Int64) * (32 : Int64)).toInt32 = nI t := by
  obtain ⟨n, hn, rfl⟩ := wb_of x
  have e : ((lN n).toUInt64 >>> ((33 : Int32).toInt64.toUInt64 &&& Int64.toUInt64 63)).toInt64 = lN (n / 2 ^ 33) := wb_shr (k := 33) hn (by decide)
  have hm : n / 2 ^ 33 < 2 ^ 31 := by omega
  refine ⟨n / 2 ^ 33 % 32, Nat.mod_lt _ (by decide), ?_, ?_⟩
  · rw [e, lN_i]
    show nI _ &&& nI (2 ^ 5 - 1) = _
    rw [fa_mask]
  · rw [e, show (32 : Int64) = lN 32 from rfl, pk_lRem (by omega) (by decide) (by decide), lN_i]
theorem gorges_i {W L A N K : Nat} {nv kd : Nat → Int32} (hP : PH W L A N K) (hk : KR W K kd) (hv : KR W N nv) (x1 x2 x3 x4 : Int32) (pg : Nat → Int32) (J : Nat) (hJ : J ≤ 9) (j1 tot dn th : Int32) (k34 : Int32 → Int32 → Int32 → Int32 → Int64 → Int32 → Int32 → Int32 → Int32 → Option (Int32 × Int64 × Int32 × Int32 × Int32 × Int32)) (k24 : Int32 → Int32 → Int32 → Int32 → Int64 → Int32 → (Nat → Int32) → Option (Int32 × Int32 × Int64 × Int32 × (Nat → Int32))) : ∀ (d k c : Nat) (s : Wk) (f : Nat → Int32) (sd : Int64) (tC tM : Int32), s.2.2 + d = L → k + d = J → d < c → WK W L s → PG f s.1 s.2.1 s.2.2 (LO W s.1) →
    ∃ (v : Int32) (sd' : Int64) (y1 y2 y3 y4 y5 : Int32) (f' : Nat → Int32), lp (fun _ _ _ _ _ _ _ _ _ _ => none) (fX4_gorges_b57_S x1 (nI A) (nI N) (nI K) x2 x3 x4 k34) c j1 (nI J) tot dn (nI k) sd (nI (encR s.1)) (nI s.2.1) (nI s.2.2) tC = k34 j1 (nI J) (tot + v) (dn + 1) sd' y1 y2 y3 y4 ∧ lp (fun _ _ _ _ _ _ _ => none) (fX5_gorges_b33_S (nI L) (nI A) nv kd pg k24) c j1 tot dn th sd tM f = k24 j1 (tot + v) (dn + 1) th sd' y5 f' := by
  have hL := hP.2.2.1
  have g11 : ¬ ((11 : Int32) < 0 ∨ 13 ≤ (11 : Int32).toNatClampNeg) := by decide
  have c11 : (11 : Int32).toNatClampNeg = 11 := by decide
  have g5 : ¬ ((5 : Int32) < 0 ∨ 13 ≤ (5 : Int32).toNatClampNeg) := by decide
  have c5 : (5 : Int32).toNatClampNeg = 5 := by decide
  intro d
  induction d with
  | zero =>
    intro k c s f sd tC tM e1 e2 hc hs hf
    obtain ⟨c, rfl⟩ : ∃ m, c = m + 1 := ⟨c - 1, by omega⟩
    rw [lp_s, lp_s]
    unfold fX4_gorges_b57_S fX5_gorges_b33_S
    rw [if_pos (nI_le (show J ≤ k by omega) (by omega)), c_size hs.1, bs, if_neg g11, c11, hf.2.2.2.1, if_pos (nI_le (show L ≤ s.2.2 by omega) (by omega)), if_neg g5, c5, hf.2.1]
    exact ⟨_, _, _, _, _, _, _, _, rfl, rfl⟩
  | succ d ih =>
    intro k c s f sd tC tM e1 e2 hc hs hf
    obtain ⟨c, rfl⟩ : ∃ m, c = m + 1 := ⟨c - 1, by omega⟩
    rw [lp_s, lp_s]
    have hl : s.2.2 < L := by omega
    obtain ⟨t, ht, t1, t2⟩ := tread_c ((sd * (6364136223846793005 : Int64)) + (1442695040888963407 : Int64))
    obtain ⟨f', p1, p2⟩ := m_step (t := t) hP hs hl ht hk hv hf tM
    have q2 := c_step hP hs ht tC
    obtain ⟨o1, -⟩ := step_ok (t := t) hP hs hl
    obtain ⟨v, sd', y1, y2, y3, y4, y5, f2, i1, i2⟩ := ih (k + 1) c (stepW A N K t s).1 f' ((sd * (6364136223846793005 : Int64)) + (1442695040888963407 : Int64)) (nI (stepW A N K t s).2.2) (nI (stepW A N K t s).2.2) (by show s.2.2 + 1 + d = L; omega) (by omega) (by omega) o1 p1
    have i1 : lp (fun _ _ _ _ _ _ _ _ _ _ => none) (fX4_gorges_b57_S x1 (nI A) (nI N) (nI K) x2 x3 x4 k34) c j1 (nI J) tot dn (nI (k + 1)) ((sd * (6364136223846793005 : Int64)) + (1442695040888963407 : Int64)) (nI (encR (stepW A N K t s).1.1)) (nI (stepW A N K t s).1.2.1) (nI (s.2.2 + 1)) (nI (stepW A N K t s).2.2) = _ := i1
    revert i1 i2
    generalize lp (fun _ _ _ _ _ _ _ _ _ _ => none) (fX4_gorges_b57_S x1 (nI A) (nI N) (nI K) x2 x3 x4 k34) c = kC
    generalize lp (fun _ _ _ _ _ _ _ => none) (fX5_gorges_b33_S (nI L) (nI A) nv kd pg k24) c = kM
    intro i2 i1
    unfold fX4_gorges_b57_S fX5_gorges_b33_S
    rw [if_neg (nI_ge (show k < J by omega) (by omega)), t1, q2, bs, if_neg g11, c11, hf.2.2.2.1, if_neg (nI_ge (show s.2.2 < L by omega) (by omega)), t2, p2, bs, nI_1]
    exact ⟨v, sd', y1, y2, y3, y4, y5, f2, i1, i2⟩
theorem gorges_o {W L A N K : Nat} {s : Wk} {nv kd pg : Nat → Int32} (hP : PH W L A N K) (hs : WK W L s) (hk : KR W K kd) (hv : KR W N nv) (hg : PG pg s.1 s.2.1 s.2.2 (LO W s.1)) (x1 th : Int32) {n : Nat} (hn : n ≤ 20) : ∀ (d i c : Nat) (tot : Int32) (sd : Int64) (y1 y2 y3 y4 y5 : Int32) (f : Nat → Int32), i + d = n → d < c →
    ∃ z w, lp (fun _ _ _ _ _ _ _ _ _ => none) (fX4_gorges_b34_S x1 (nI A) (nI N) (nI K) (nI (encR s.1)) (nI s.2.1) (nI s.2.2)) c (nI n) (nI (L - s.2.2)) tot (nI i) sd y1 y2 y3 y4 = some z ∧ lp (fun _ _ _ _ _ _ _ => none) (fX5_gorges_b24_S (nI L) (nI A) nv kd pg) c (nI n) tot (nI i) th sd y5 f = some w ∧ z.1 = w.1 ∧ z.2.1 = w.2.2.1 := by
  have hL := hP.2.2.1
  intro d
  induction d with
  | zero =>
    intro i c tot sd y1 y2 y3 y4 y5 f e hc
    obtain ⟨c, rfl⟩ : ∃ m, c = m + 1 := ⟨c - 1, by omega⟩
    rw [lp_s, lp_s]
    unfold fX4_gorges_b34_S fX5_gorges_b24_S
    rw [if_pos (nI_le (show n ≤ i by omega) (by omega)), if_pos (nI_le (show n ≤ i by omega) (by omega))]
    exact ⟨_, _, rfl, rfl, rfl, rfl⟩
  | succ d ih =>
    intro i c tot sd y1 y2 y3 y4 y5 f e hc
    obtain ⟨c, rfl⟩ : ∃ m, c = m + 1 := ⟨c - 1, by omega⟩
    rw [lp_s, lp_s]
    have ih2 := fun tot sd y1 y2 y3 y4 y5 f => ih (i + 1) c tot sd y1 y2 y3 y4 y5 f (by omega) (by omega)
    revert ih2
    generalize lp (fun _ _ _ _ _ _ _ _ _ => none) (fX4_gorges_b34_S x1 (nI A) (nI N) (nI K) (nI (encR s.1)) (nI s.2.1) (nI s.2.2)) c = kC
    generalize lp (fun _ _ _ _ _ _ _ => none) (fX5_gorges_b24_S (nI L) (nI A) nv kd pg) c = kM
    intro ih2
    obtain ⟨f', b1, b2⟩ := m_begin pg f
    obtain ⟨v, sd', w1, w2, w3, w4, w5, f2, g1, g2⟩ := gorges_i hP hk hv x1 (nI (encR s.1)) (nI s.2.1) (nI s.2.2) pg (L - s.2.2) (by omega) (nI n) tot (nI i) th kC kM (L - s.2.2) 0 fu s f' sd y4 y5 (by have := hs.2.2.2.2; omega) (by omega) (by unfold fu; omega) hs (hg.congr (a_lt _ hs.1).2.1 (fun i hi => b2 i hi))
    have g1 : fX4_gorges_b57 x1 (nI A) (nI N) (nI K) (nI (encR s.1)) (nI s.2.1) (nI s.2.2) kC (nI n) (nI (L - s.2.2)) tot (nI i) 0 sd (nI (encR s.1)) (nI s.2.1) (nI s.2.2) y4 = _ := g1
    have g2 : fX5_gorges_b33 (nI L) (nI A) nv kd pg kM (nI n) tot (nI i) th sd y5 f' = _ := g2
    unfold fX4_gorges_b34_S fX5_gorges_b24_S
    rw [if_neg (nI_ge (show i < n by omega) (by omega)), if_neg (nI_ge (show i < n by omega) (by omega)), c_state hL hs, bs, c_become hL hs, bs, g1, b1, bs, g2, nI_1]
    exact ih2 _ _ _ _ _ _ _ _
theorem op_gorges {W L A N K : Nat} {s : Wk} {pg nv kd : Nat → Int32} (hP : PH W L A N K) (hs : WK W L s) (hk : KR W K kd) (hv : KR W N nv) (hg : PG pg s.1 s.2.1 s.2.2 (LO W s.1)) (j : Int32) (sd : Int64) (x1 x2 x3 x4 th tu : Int32) (tr : Nat → Int32) :
    ∃ z w, fX4_gorges j sd (nI L) (nI A) (nI N) (nI K) (nI (encR s.1)) (nI s.2.1) (nI s.2.2) x1 x2 x3 x4 = some z ∧ fX5_gorges j th (nI L) (nI A) sd tu nv kd pg tr = some w ∧ z.1 = w.1 ∧ z.2.1 = w.2.2.1 := by
  have m1 : fX5_in j.toInt64 1 20 = some (if (1 : Int32) ≤ j ∧ j ≤ 20 then 1 else 0) := m_rng j (a := 1) (b := 20) (by decide) (by decide) 1 20 rfl rfl
  unfold fX4_gorges fX5_gorges fX1_light fX3_place
  rw [m_within, bs, m1, bs]
  by_cases c : (1 : Int32) ≤ j ∧ j ≤ 20
  · obtain ⟨n, n1, n2, rfl⟩ := rn_of j (a := 1) (b := 20) (by decide) c (by decide)
    have s1 : nI L - nI s.2.2 = nI (L - s.2.2) := pk_sub hs.2.2.2.2
    rw [if_pos c, bs, bs, if_neg one_ne, if_neg one_ne, s1]
    exact gorges_o hP hs hk hv hg (nI L) 0 n2 n 0 fu 0 sd x1 x2 x3 x4 tu tr (by omega) (by unfold fu; omega)
  · rw [if_neg c, if_pos rfl, bs, if_pos rfl]
    exact ⟨_, _, rfl, rfl, rfl, rfl⟩
