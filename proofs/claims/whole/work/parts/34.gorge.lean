/-! GORGE: a path is taken from the text by both sides -/
theorem c_read {g : Nat → Nat} {n W : Nat} {bC bM : Nat → Int32} (h : TX g n bC bM) (hW : W ≤ 5) (hn3 : 3 + 3 * W ≤ n) (hr : ∀ u, u < W → rgB (g (4 + 3 * u)) 0 5 = true ∧ rgB (g (5 + 3 * u)) 0 3 = true) (l a : Int32) : ∀ (d i c N K : Nat), i + d = W → d < c → N < 2 ^ 20 → K < 2 ^ 20 →
    ∃ N' K', lp (fun _ _ _ _ _ _ => none) (fX1_read_b28_S (nI n) bC) c (nI i) (nI W) l a (nI N) (nI K) = some (nI W, l, a, nI N', nI K') ∧ N' < 2 ^ 20 ∧ K' < 2 ^ 20 ∧ (∀ u, u < i → qget N' u = qget N u ∧ qget K' u = qget K u) ∧ ∀ u, i ≤ u → u < W → qget N' u = g (4 + 3 * u) - 48 ∧ qget K' u = g (5 + 3 * u) - 48 := by
  have hT := h
  obtain ⟨hn, hb⟩ := hT
  intro d
  induction d with
  | zero =>
    intro i c N K e hc hN hK
    obtain ⟨c, rfl⟩ : ∃ m, c = m + 1 := ⟨c - 1, by omega⟩
    rw [lp_s]
    refine ⟨N, K, ?_, hN, hK, fun u hu => ⟨rfl, rfl⟩, fun u h1 h2 => by omega⟩
    unfold fX1_read_b28_S
    rw [if_pos (nI_le (by omega) (by omega))]
  | succ d ih =>
    intro i c N K e hc hN hK
    obtain ⟨c, rfl⟩ : ∃ m, c = m + 1 := ⟨c - 1, by omega⟩
    rw [lp_s]
    obtain ⟨r1, r2⟩ := hr i (by omega)
    obtain ⟨x1, -, -⟩ := hb (4 + 3 * i) (by omega)
    obtain ⟨x2, -, -⟩ := hb (5 + 3 * i) (by omega)
    have v1 : 48 ≤ g (4 + 3 * i) ∧ g (4 + 3 * i) ≤ 53 := by unfold rgB at r1; simp at r1; omega
    have v2 : 48 ≤ g (5 + 3 * i) ∧ g (5 + 3 * i) ≤ 51 := by unfold rgB at r2; simp at r2; omega
    have hN2 := q_lt (v := g (4 + 3 * i) - 48) hN (show i < 5 by omega) (by omega)
    have hK2 := q_lt (v := g (5 + 3 * i) - 48) hK (show i < 5 by omega) (by omega)
    obtain ⟨N', K', j1, j2, j3, j4, j5⟩ := ih (i + 1) c (qset N i (g (4 + 3 * i) - 48)) (qset K i (g (5 + 3 * i) - 48)) (by omega) (by omega) hN2 hK2
    refine ⟨N', K', ?_, j2, j3, fun u hu => ?_, fun u h1 h2 => ?_⟩
    · revert j1
      generalize lp (fun _ _ _ _ _ _ => none) (fX1_read_b28_S (nI n) bC) c = kk
      intro j1
      unfold fX1_read_b28_S
      have a1 : (3 : Int32) + nI i * (3 : Int32) + (1 : Int32) = nI (4 + 3 * i) := by
        rw [show (3 : Int32) = nI 3 from rfl, pk_mul, nI_add, nI_1]; exact congrArg nI (by omega)
      have a2 : (3 : Int32) + nI i * (3 : Int32) + (2 : Int32) = nI (5 + 3 * i) := by
        rw [show (3 : Int32) = nI 3 from rfl, show (2 : Int32) = nI 2 from rfl, pk_mul, nI_add, nI_add]; exact congrArg nI (by omega)
      have s1 : nI (g (4 + 3 * i)) - (48 : Int32) = nI (g (4 + 3 * i) - 48) := pk_sub (a := g (4 + 3 * i)) (b := 48) v1.1
      have s2 : nI (g (5 + 3 * i)) - (48 : Int32) = nI (g (5 + 3 * i) - 48) := pk_sub (a := g (5 + 3 * i)) (b := 48) v2.1
      have t1 : fX2_nerve (nI i) bC = some (nI (g (4 + 3 * i) - 48)) := by
        unfold fX2_nerve; rw [a1, c_figure (by omega), bs, x1, s1]
      have t2 : fX2_kind (nI i) bC = some (nI (g (5 + 3 * i) - 48)) := by
        unfold fX2_kind; rw [a2, c_figure (by omega), bs, x2, s2]
      rw [if_neg (nI_ge (by omega) (by omega)), t1, bs, q_with hN (by omega) (by omega), bs, t2, bs, q_with hK (by omega) (by omega), bs, nI_1, j1]
    · obtain ⟨p1, p2⟩ := j4 u (by omega)
      rw [q_gs hN (by omega) (by omega) (by omega), if_neg (by omega)] at p1
      rw [q_gs hK (by omega) (by omega) (by omega), if_neg (by omega)] at p2
      exact ⟨p1, p2⟩
    · by_cases e : u = i
      · subst e
        obtain ⟨p1, p2⟩ := j4 u (by omega)
        rw [q_gs hN (by omega) (by omega) (by omega), if_pos rfl] at p1
        rw [q_gs hK (by omega) (by omega) (by omega), if_pos rfl] at p2
        exact ⟨p1, p2⟩
      · exact j5 u (by omega) h2
set_option maxRecDepth 100000 in
theorem a_full : ∀ W, W < 6 → 2 ^ W - 1 < 32 ∧ (ascN (2 ^ W - 1)).length = W ∧ LO W (ascN (2 ^ W - 1)) = 0 ∧ ∀ x ∈ ascN (2 ^ W - 1), x < W := by decide +kernel
set_option maxRecDepth 100000 in
theorem a_full2 : ∀ W, W < 6 → ∀ i, i < W → (ascN (2 ^ W - 1)).getD i 0 = i := by decide +kernel
theorem c_start {W : Nat} (hW : W ≤ 5) (x y z : Int32) : fX3_start (nI W) x y z = some (nI (encR (ascN (2 ^ W - 1))), 0, 0) := by
  unfold fX3_start fX1_everybody
  rw [every W (by omega), bs, (a_asc _ (a_full W (by omega)).1).1, bs]
  unfold fX3_lineUp
  rw [bs]
theorem c_forget (KE : Nat → Int64) : ∃ KE', fX4_forgetKept KE = some KE' ∧ ∀ i, i < 2 → KE' i = -1 := by
  unfold fX4_forgetKept fX4_forgetKept_b2
  rw [show fu = (fu - 3) + 1 + 1 + 1 by unfold fu; omega, lp_s, fX4_forgetKept_b2_S, lp_s, fX4_forgetKept_b2_S, lp_s, fX4_forgetKept_b2_S]
  generalize lp (fun _ _ => none) fX4_forgetKept_b2_S (fu - 3) = kk
  have e0 : (0 : Int32).toNatClampNeg = 0 := by decide
  have e1 : ((0 : Int32) + 1).toNatClampNeg = 1 := by decide
  rw [if_neg (show ¬ (2 : Int32) ≤ 0 by decide), if_neg (show ¬ ((0 : Int32) < 0 ∨ 2 ≤ (0 : Int32).toNatClampNeg) by decide), if_neg (show ¬ (2 : Int32) ≤ 0 + 1 by decide), if_neg (show ¬ ((0 : Int32) + 1 < 0 ∨ 2 ≤ ((0 : Int32) + 1).toNatClampNeg) by decide), if_pos (show (2 : Int32) ≤ 0 + 1 + 1 by decide), e0, e1]
  refine ⟨_, rfl, fun i hi => ?_⟩
  by_cases h : i = 1
  · subst h; exact pk_uLs
  · rw [show i = 0 by omega]; exact (pk_uLn (by omega)).trans pk_uLs
theorem m_go64 {W n : Nat} (hW : W ≤ 5) (bM rn rk isK : Nat → Int32) (th pl l a rl rt ac : Int32) : ∀ (d i c : Nat) (nv kd pg : Nat → Int32), i + d = W → d < c →
    ∃ nv' kd' pg', lp (fun _ _ _ _ _ _ _ _ _ _ _ _ _ _ _ _ => none) (fX5_gorge_b64_S (nI n) bM) c (nI i) th pl (nI W) l a (nI W) rl rt ac nv kd rn rk pg isK = some (nI W, th, pl, nI W, l, a, nI W, rl, rt, 0, nv', kd', rn, rk, upd pg' 5 (nI W), upd (upd isK 0 (vp_nar .boolean 0)) 1 (vp_nar .boolean 0)) ∧ (∀ u, u < i → nv' u = nv u ∧ kd' u = kd u ∧ pg' u = pg u) ∧ (∀ u, i ≤ u → u < W → nv' u = rn u ∧ kd' u = rk u ∧ pg' u = nI u) ∧ ∀ u, W ≤ u → pg' u = pg u := by
  intro d
  induction d with
  | zero =>
    intro i c nv kd pg e hc
    obtain ⟨c, rfl⟩ : ∃ m, c = m + 1 := ⟨c - 1, by omega⟩
    rw [lp_s]
    refine ⟨nv, kd, pg, ?_, fun u hu => ⟨rfl, rfl, rfl⟩, fun u h1 h2 => by omega, fun u hu => rfl⟩
    unfold fX5_gorge_b64_S
    rw [if_pos (nI_le (by omega) (by omega)), if_neg (show ¬ ((5 : Int32) < 0 ∨ 13 ≤ (5 : Int32).toNatClampNeg) by decide), if_neg (show ¬ ((0 : Int32) < 0 ∨ 2 ≤ (0 : Int32).toNatClampNeg) by decide), if_neg (show ¬ ((1 : Int32) < 0 ∨ 2 ≤ (1 : Int32).toNatClampNeg) by decide), show (5 : Int32).toNatClampNeg = 5 by decide, show (0 : Int32).toNatClampNeg = 0 by decide, show (1 : Int32).toNatClampNeg = 1 by decide]
  | succ d ih =>
    intro i c nv kd pg e hc
    obtain ⟨c, rfl⟩ : ∃ m, c = m + 1 := ⟨c - 1, by omega⟩
    rw [lp_s]
    obtain ⟨nv', kd', pg', j1, j2, j3, j4⟩ := ih (i + 1) c (upd nv i (rn i)) (upd kd i (rk i)) (upd pg i (nI i)) (by omega) (by omega)
    refine ⟨nv', kd', pg', ?_, fun u hu => ?_, fun u h1 h2 => ?_, fun u hu => ?_⟩
    · revert j1
      generalize lp (fun _ _ _ _ _ _ _ _ _ _ _ _ _ _ _ _ => none) (fX5_gorge_b64_S (nI n) bM) c = kk
      intro j1
      unfold fX5_gorge_b64_S
      rw [if_neg (nI_ge (by omega) (by omega)), if_neg (fun q => by rw [ig (by omega)] at q; omega), if_neg (fun q => by rw [ig (by omega)] at q; omega), if_neg (fun q => by rw [ig (by omega)] at q; omega), if_neg (fun q => by rw [ig (by omega)] at q; omega), if_neg (fun q => by rw [ig (by omega)] at q; omega), nI_clamp (by omega), nI_1, j1]
    · obtain ⟨p1, p2, p3⟩ := j2 u (by omega)
      rw [pk_un (by omega)] at p1 p2 p3
      exact ⟨p1, p2, p3⟩
    · by_cases e : u = i
      · subst e
        obtain ⟨p1, p2, p3⟩ := j2 u (by omega)
        rw [pk_us] at p1 p2 p3
        exact ⟨p1, p2, p3⟩
      · exact j3 u (by omega) h2
    · rw [j4 u hu, pk_un (by omega)]
theorem m_go43 {W n : Nat} (bM rn rk isK nv kd : Nat → Int32) (th pl l a rl rt ac : Int32) : ∀ (d i c : Nat) (pg : Nat → Int32), i + d = 13 → d < c →
    ∃ pg', lp (fun _ _ _ _ _ _ _ _ _ _ _ _ _ _ _ _ => none) (fX5_gorge_b43_S (nI n) bM) c (nI i) th pl (nI W) l a (nI W) rl rt ac nv kd rn rk pg isK = fX5_gorge_b64 (nI n) bM 0 th pl (nI W) l a (nI W) rl rt ac nv kd rn rk pg' isK ∧ (∀ u, u < i → pg' u = pg u) ∧ ∀ u, i ≤ u → u < 13 → pg' u = 0 := by
  intro d
  induction d with
  | zero =>
    intro i c pg e hc
    obtain ⟨c, rfl⟩ : ∃ m, c = m + 1 := ⟨c - 1, by omega⟩
    rw [lp_s]
    refine ⟨pg, ?_, fun u hu => rfl, fun u h1 h2 => by omega⟩
    unfold fX5_gorge_b43_S
    rw [if_pos (show (13 : Int32) ≤ nI i from nI_le (a := 13) (by omega) (by omega))]
  | succ d ih =>
    intro i c pg e hc
    obtain ⟨c, rfl⟩ : ∃ m, c = m + 1 := ⟨c - 1, by omega⟩
    rw [lp_s]
    obtain ⟨pg', j1, j2, j3⟩ := ih (i + 1) c (upd pg i 0) (by omega) (by omega)
    refine ⟨pg', ?_, fun u hu => by rw [j2 u (by omega), pk_un (by omega)], fun u h1 h2 => ?_⟩
    · revert j1
      generalize lp (fun _ _ _ _ _ _ _ _ _ _ _ _ _ _ _ _ => none) (fX5_gorge_b43_S (nI n) bM) c = kk
      intro j1
      unfold fX5_gorge_b43_S
      rw [if_neg (show ¬ (13 : Int32) ≤ nI i from nI_ge (b := 13) (by omega) (by decide)), if_neg (fun q => by rw [ig (by omega)] at q; omega), nI_clamp (by omega), nI_1, j1]
    · by_cases e : u = i
      · subst e; rw [j2 u (by omega), pk_us]
      · exact j3 u (by omega) h2
theorem op_gorge {g : Nat → Nat} {n W L A N K k : Nat} {s : Wk} {bC bM nv kd pg isK kept : Nat → Int32} {KE AC : Nat → Int64} {book : Nat → Int32} (h : TX g n bC bM) (hP : PH W L A N K) (hs : WK W L s) (hk : KR W K kd) (hv : KR W N nv) (hg : PG pg s.1 s.2.1 s.2.2 (LO W s.1)) (hA : AR W L k AC book) (h14 : k ≤ 14) (hK : KP W L KE isK kept) (th pl rd rl rt : Int32) (rn rk : Nat → Int32) :
    ∃ z w W' L' A' N' K' s' k', fX4_gorge (nI k) (nI n) bC (nI W) (nI L) (nI A) (nI N) (nI K) (nI (encR s.1)) (nI s.2.1) (nI s.2.2) KE = some z ∧ fX5_gorge th (nI n) pl (nI W) (nI L) (nI A) rd rl rt (nI k) bM nv kd rn rk pg isK = some w ∧ z.1 = w.1 ∧ z.2.1 = nI k' ∧ z.2.2.1 = nI W' ∧ z.2.2.2.1 = nI L' ∧ z.2.2.2.2.1 = nI A' ∧ z.2.2.2.2.2.1 = nI N' ∧ z.2.2.2.2.2.2.1 = nI K' ∧ z.2.2.2.2.2.2.2.1 = nI (encR s'.1) ∧ z.2.2.2.2.2.2.2.2.1 = nI s'.2.1 ∧ z.2.2.2.2.2.2.2.2.2.1 = nI s'.2.2 ∧
      w.2.2.2.1 = nI W' ∧ w.2.2.2.2.1 = nI L' ∧ w.2.2.2.2.2.1 = nI A' ∧ w.2.2.2.2.2.2.2.2.2.1 = nI k' ∧ PH W' L' A' N' K' ∧ WK W' L' s' ∧ KR W' K' w.2.2.2.2.2.2.2.2.2.2.2.1 ∧ KR W' N' w.2.2.2.2.2.2.2.2.2.2.1 ∧ PG w.2.2.2.2.2.2.2.2.2.2.2.2.2.2.1 s'.1 s'.2.1 s'.2.2 (LO W' s'.1) ∧ AR W' L' k' AC book ∧ k' ≤ 14 ∧ KP W' L' z.2.2.2.2.2.2.2.2.2.2 w.2.2.2.2.2.2.2.2.2.2.2.2.2.2.2 kept := by
  obtain ⟨pl', rd', rl', rt', rn', rk', m1, m2⟩ := m_read h pl rd rl rt rn rk
  unfold fX4_gorge fX5_gorge
  rw [c_fault h, bs, m1, bs]
  by_cases c9 : ffI g n n 0 = -9
  · obtain ⟨q1, rfl, rfl, rfl, q5, q6, q7⟩ := m2 c9
    obtain ⟨hn, hb⟩ := id h
    obtain ⟨n3, nm⟩ := ff_ne hn n 0 (by omega) c9
    obtain ⟨W', hW'⟩ : ∃ W', W' = (n - 3) / 3 := ⟨_, rfl⟩
    rw [← hW'] at q1 q7 ⊢
    have v1 : 49 ≤ g 1 ∧ g 1 ≤ 57 := by unfold rgB at q5; simp at q5; omega
    have v2 : 48 ≤ g 2 ∧ g 2 ≤ 57 := by unfold rgB at q6; simp at q6; omega
    obtain ⟨N', K', j1, j2, j3, -, j5⟩ := c_read h q1 (by omega) (fun u hu => (q7 u hu).2.2) (nI (g 1 - 48)) (nI (g 2 - 48)) W' 0 fu N K (by omega) (by unfold fu; omega) hP.2.2.2.2.1 hP.2.2.2.2.2
    have j1 : fX1_read_b28 (nI n) bC 0 (nI W') (nI (g 1 - 48)) (nI (g 2 - 48)) (nI N) (nI K) = _ := j1
    have cr : fX1_read (nI n) bC (nI W) (nI L) (nI A) (nI N) (nI K) = some (nI W', nI (g 1 - 48), nI (g 2 - 48), nI N', nI K') := by
      unfold fX1_read fX2_parts
      have f1 : fX2_figure 1 bC = some (nI (g 1 - 48)) := (c_figure (i := 1) (by omega)).trans (by rw [(hb 1 (by omega)).1]; exact congrArg some (pk_sub (a := g 1) (b := 48) (by omega)))
      have f2 : fX2_figure 2 bC = some (nI (g 2 - 48)) := (c_figure (i := 2) (by omega)).trans (by rw [(hb 2 (by omega)).1]; exact congrArg some (pk_sub (a := g 2) (b := 48) (by omega)))
      have s3 : nI n - (3 : Int32) = nI (n - 3) := pk_sub (a := n) (b := 3) (by omega)
      have d3 : nI (n - 3) / (3 : Int32) = nI ((n - 3) / 3) := pk_div (a := n - 3) (d := 3) (by omega) (by decide) (by decide)
      rw [f1, bs, f2, bs, bs, s3, d3, ← hW', j1]
    obtain ⟨KE', k1, k2⟩ := c_forget KE
    obtain ⟨a1, a2, a3, a4⟩ := a_full W' (by omega)
    have a5 := a_full2 W' (by omega)
    obtain ⟨pg1, p1, -, p3⟩ := m_go43 (W := W') (n := n) bM rn' rk' isK nv kd 0 pl' (nI (g 1 - 48)) (nI (g 2 - 48)) (nI (g 1 - 48)) (nI (g 2 - 48)) (nI k) 13 0 fu pg (by omega) (by unfold fu; omega)
    have p1 : fX5_gorge_b43 (nI n) bM 0 0 pl' (nI W') (nI (g 1 - 48)) (nI (g 2 - 48)) (nI W') (nI (g 1 - 48)) (nI (g 2 - 48)) (nI k) nv kd rn' rk' pg isK = _ := p1
    obtain ⟨nv', kd', pg2, r1, -, r3, r4⟩ := m_go64 (n := n) q1 bM rn' rk' isK 0 pl' (nI (g 1 - 48)) (nI (g 2 - 48)) (nI (g 1 - 48)) (nI (g 2 - 48)) (nI k) W' 0 fu nv kd pg1 (by omega) (by unfold fu; omega)
    have r1 : fX5_gorge_b64 (nI n) bM 0 0 pl' (nI W') (nI (g 1 - 48)) (nI (g 2 - 48)) (nI W') (nI (g 1 - 48)) (nI (g 2 - 48)) (nI k) nv kd rn' rk' pg1 isK = _ := r1
    unfold fX1_walkers
    rw [if_pos c9, if_pos c9, cr, bs, c_start q1, bs, k1, bs, bs, p1, r1]
    have pz : ∀ u, W' ≤ u → u < 13 → pg2 u = 0 := fun u h1 h2 => by rw [r4 u h1, p3 u (by omega) h2]
    have q0 : ∀ w, w < 5 → qget 0 w = 0 := fun w hw => by unfold qget; simp
    refine ⟨_, _, W', g 1 - 48, g 2 - 48, N', K', (ascN (2 ^ W' - 1), 0, 0), 0, rfl, rfl, rfl, rfl, rfl, rfl, rfl, rfl, rfl, rfl, rfl, rfl, rfl, rfl, rfl, rfl, ⟨q1, by omega, by omega, by omega, j2, j3⟩, ⟨(a_asc _ a1).2, a4, by show 0 < 2 ^ 20; decide, fun w hw => Nat.le_of_eq (q0 w hw), by show 0 ≤ _; omega⟩, fun u hu => ?_, fun u hu => ?_, ?_, fun i hi => by omega, by omega, fun i hi => Or.inl ⟨k2 i hi, ?_⟩⟩
    · show kd' u = _
      rw [(r3 u (by omega) hu).2.1, (q7 u hu).2.1, (j5 u (by omega) hu).2]
    · show nv' u = _
      rw [(r3 u (by omega) hu).1, (q7 u hu).1, (j5 u (by omega) hu).1]
    · show PG (upd pg2 5 (nI W')) (ascN (2 ^ W' - 1)) 0 0 (LO W' (ascN (2 ^ W' - 1)))
      refine ⟨fun i hi => ?_, ?_, fun w hw => ?_, ?_, ?_⟩
      · rw [a2] at hi
        rw [pk_un (by omega), (r3 i (by omega) hi).2.2, a5 i hi]
      · rw [pk_us, a2]
      · rw [pk_un (by omega), pz _ (by omega) (by omega), q0 w hw]; rfl
      · rw [pk_un (by omega), pz _ (by omega) (by omega)]; rfl
      · rw [pk_un (by omega), pz _ (by omega) (by omega), a3]; rfl
    · show upd (upd isK 0 (vp_nar .boolean 0)) 1 (vp_nar .boolean 0) i = 0
      by_cases e : i = 1
      · rw [e, pk_us]; decide
      · rw [pk_un e, show i = 0 by omega, pk_us]; decide
  · rw [if_neg c9, if_neg c9]
    exact ⟨_, _, W, L, A, N, K, s, k, rfl, rfl, rfl, rfl, rfl, rfl, rfl, rfl, rfl, rfl, rfl, rfl, rfl, rfl, rfl, rfl, hP, hs, hk, hv, hg, hA, h14, hK⟩
