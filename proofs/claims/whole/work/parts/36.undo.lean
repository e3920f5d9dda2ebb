/-! UNDO, KEEP, AGAIN -/
theorem m_undo_l (bk : Nat → Int32) {a : Nat} (ha : a < 14) (th : Int32) : ∀ (d i c : Nat) (pg : Nat → Int32), i + d = 13 → d < c → ∃ pg', lp (fun _ _ _ _ => none) (fX5_undo_b27_S bk) c (nI i) th (nI a) pg = some (nI a, th, nI a, pg') ∧ (∀ x, x < i → pg' x = pg x) ∧ ∀ x, i ≤ x → x < 13 → pg' x = bk (13 * a + x) := by
  intro d
  induction d with
  | zero =>
    intro i c pg e h
    obtain ⟨c, rfl⟩ : ∃ m, c = m + 1 := ⟨c - 1, by omega⟩
    rw [lp_s]
    refine ⟨pg, ?_, fun _ _ => rfl, fun k h1 h2 => by omega⟩
    unfold fX5_undo_b27_S
    rw [if_pos (show (13 : Int32) ≤ nI i from nI_le (a := 13) (by omega) (by omega))]
  | succ d ih =>
    intro i c pg e h
    obtain ⟨c, rfl⟩ : ∃ m, c = m + 1 := ⟨c - 1, by omega⟩
    rw [lp_s]
    obtain ⟨pg', h1, h2, h3⟩ := ih (i + 1) c (upd pg i (bk (13 * a + i))) (by omega) (by omega)
    refine ⟨pg', ?_, fun k hk => by rw [h2 k (by omega), pk_un (by omega)], fun k hk1 hk2 => ?_⟩
    · revert h1
      generalize lp (fun _ _ _ _ => none) (fX5_undo_b27_S bk) c = kk
      intro h1
      unfold fX5_undo_b27_S
      rw [if_neg (show ¬ (13 : Int32) ≤ nI i from nI_ge (b := 13) (by omega) (by omega)), ix13, if_neg (fun q => by rw [ig (by omega)] at q; omega), if_neg (fun q => by rw [ig (by omega)] at q; omega), nI_clamp (by omega), nI_clamp (by omega), nI_1, h1]
    · by_cases e : k = i
      · subst e; rw [h2 k (by omega), pk_us]
      · exact h3 k (by omega) hk2
theorem op_undo {W L A N K k : Nat} {s : Wk} {AC : Nat → Int64} {pg book : Nat → Int32} (hP : PH W L A N K) (hs : WK W L s) (hg : PG pg s.1 s.2.1 s.2.2 (LO W s.1)) (hA : AR W L k AC book) (h14 : k ≤ 14) (th : Int32) :
    ∃ z w s' k', fX4_undo (nI k) (nI (encR s.1)) (nI s.2.1) (nI s.2.2) AC = some z ∧ fX5_undo th (nI k) pg book = some w ∧ z.1 = w.1 ∧ WK W L s' ∧ k' ≤ 14 ∧ z.2.1 = nI k' ∧ z.2.2.1 = nI (encR s'.1) ∧ z.2.2.2.1 = nI s'.2.1 ∧ z.2.2.2.2 = nI s'.2.2 ∧ w.2.2.1 = nI k' ∧ PG w.2.2.2 s'.1 s'.2.1 s'.2.2 (LO W s'.1) ∧ AR W L k' AC book := by
  unfold fX4_undo fX5_undo
  rw [m_within, bs]
  by_cases k0 : k = 0
  · have n1 : ¬ ((1 : Int32) ≤ nI k ∧ nI k ≤ 14) := by rw [k0]; decide
    rw [if_neg n1, if_pos rfl, if_pos (show nI k = (0 : Int32) by rw [k0]; rfl)]
    exact ⟨_, _, s, k, rfl, rfl, rfl, hs, h14, rfl, rfl, rfl, rfl, rfl, hg, hA⟩
  · have y1 : ((1 : Int32) ≤ nI k ∧ nI k ≤ 14) := ⟨nI_le (a := 1) (by omega) (by omega), nI_le (b := 14) (by omega) (by decide)⟩
    have s1 : nI k - (1 : Int32) = nI (k - 1) := pk_sub (a := k) (b := 1) (by omega)
    obtain ⟨s', g1, g2, g3⟩ := hA (k - 1) (by omega)
    obtain ⟨pg', r1, -, r3⟩ := m_undo_l book (a := k - 1) (by omega) 0 13 0 fu pg (by omega) (by unfold fu; omega)
    have r1 : fX5_undo_b27 book 0 0 (nI (k - 1)) pg = _ := r1
    rw [if_pos y1, if_neg one_ne, s1, if_neg (fun q => by rw [ig (by omega)] at q; omega), nI_clamp (by omega), g2, c_become hP.2.2.1 g1, bs, if_neg (show ¬ nI k = (0 : Int32) from fun q => k0 ((nI_eq (b := 0) (by omega) (by decide)).mp q)), r1]
    exact ⟨_, _, s', k - 1, rfl, rfl, rfl, g1, by omega, rfl, rfl, rfl, rfl, rfl, g3.congr (a_lt _ g1.1).2.1 (fun x hx => r3 x (by omega) hx), fun i hi => hA i (by omega)⟩
theorem m_keep_l (pg isK : Nat → Int32) {a : Nat} (ha : a < 2) (th : Int32) : ∀ (d i c : Nat) (kp : Nat → Int32), i + d = 13 → d < c → ∃ kp', lp (fun _ _ _ _ _ => none) (fX5_keep_b26_S pg) c (nI a) (nI i) th kp isK = some (pg 11, th, kp', isK) ∧ (∀ x, (x < 13 * a + i ∨ 13 * a + 13 ≤ x) → kp' x = kp x) ∧ ∀ x, i ≤ x → x < 13 → kp' (13 * a + x) = pg x := by
  intro d
  induction d with
  | zero =>
    intro i c kp e h
    obtain ⟨c, rfl⟩ : ∃ m, c = m + 1 := ⟨c - 1, by omega⟩
    rw [lp_s]
    refine ⟨kp, ?_, fun _ _ => rfl, fun k h1 h2 => by omega⟩
    unfold fX5_keep_b26_S
    rw [if_pos (show (13 : Int32) ≤ nI i from nI_le (a := 13) (by omega) (by omega)), if_neg (show ¬ ((11 : Int32) < 0 ∨ 13 ≤ (11 : Int32).toNatClampNeg) by decide), show (11 : Int32).toNatClampNeg = 11 by decide]
  | succ d ih =>
    intro i c kp e h
    obtain ⟨c, rfl⟩ : ∃ m, c = m + 1 := ⟨c - 1, by omega⟩
    rw [lp_s]
    obtain ⟨kp', h1, h2, h3⟩ := ih (i + 1) c (upd kp (13 * a + i) (pg i)) (by omega) (by omega)
    refine ⟨kp', ?_, fun k hk => by rw [h2 k (by omega), pk_un (by omega)], fun k hk1 hk2 => ?_⟩
    · revert h1
      generalize lp (fun _ _ _ _ _ => none) (fX5_keep_b26_S pg) c = kk
      intro h1
      unfold fX5_keep_b26_S
      rw [if_neg (show ¬ (13 : Int32) ≤ nI i from nI_ge (b := 13) (by omega) (by omega)), ix13, if_neg (fun q => by rw [ig (by omega)] at q; omega), if_neg (fun q => by rw [ig (by omega)] at q; omega), nI_clamp (by omega), nI_clamp (by omega), nI_1, h1]
    · by_cases e : k = i
      · subst e; rw [h2 _ (by omega), pk_us]
      · exact h3 k (by omega) hk2
theorem m_again_l (kp isK : Nat → Int32) {a : Nat} (ha : a < 2) (th ac : Int32) : ∀ (d i c : Nat) (pg : Nat → Int32), i + d = 13 → d < c → ∃ pg', lp (fun _ _ _ _ _ => none) (fX5_again_b31_S kp isK) c (nI a) (nI i) th ac pg = some (pg' 11, th, 0, pg') ∧ (∀ x, x < i → pg' x = pg x) ∧ ∀ x, i ≤ x → x < 13 → pg' x = kp (13 * a + x) := by
  intro d
  induction d with
  | zero =>
    intro i c pg e h
    obtain ⟨c, rfl⟩ : ∃ m, c = m + 1 := ⟨c - 1, by omega⟩
    rw [lp_s]
    refine ⟨pg, ?_, fun _ _ => rfl, fun k h1 h2 => by omega⟩
    unfold fX5_again_b31_S
    rw [if_pos (show (13 : Int32) ≤ nI i from nI_le (a := 13) (by omega) (by omega)), if_neg (show ¬ ((11 : Int32) < 0 ∨ 13 ≤ (11 : Int32).toNatClampNeg) by decide), show (11 : Int32).toNatClampNeg = 11 by decide]
  | succ d ih =>
    intro i c pg e h
    obtain ⟨c, rfl⟩ : ∃ m, c = m + 1 := ⟨c - 1, by omega⟩
    rw [lp_s]
    obtain ⟨pg', h1, h2, h3⟩ := ih (i + 1) c (upd pg i (kp (13 * a + i))) (by omega) (by omega)
    refine ⟨pg', ?_, fun k hk => by rw [h2 k (by omega), pk_un (by omega)], fun k hk1 hk2 => ?_⟩
    · revert h1
      generalize lp (fun _ _ _ _ _ => none) (fX5_again_b31_S kp isK) c = kk
      intro h1
      unfold fX5_again_b31_S
      rw [if_neg (show ¬ (13 : Int32) ≤ nI i from nI_ge (b := 13) (by omega) (by omega)), ix13, if_neg (fun q => by rw [ig (by omega)] at q; omega), if_neg (fun q => by rw [ig (by omega)] at q; omega), nI_clamp (by omega), nI_clamp (by omega), nI_1, h1]
    · by_cases e : k = i
      · subst e; rw [h2 k (by omega), pk_us]
      · exact h3 k (by omega) hk2
theorem op_keep {W L A N K : Nat} {s : Wk} {KE : Nat → Int64} {pg isK kept : Nat → Int32} (hP : PH W L A N K) (hs : WK W L s) (hg : PG pg s.1 s.2.1 s.2.2 (LO W s.1)) (hK : KP W L KE isK kept) (j th : Int32) :
    ∃ z w, fX4_keep j (nI (encR s.1)) (nI s.2.1) (nI s.2.2) KE = some z ∧ fX5_keep j th pg kept isK = some w ∧ z.1 = w.1 ∧ KP W L z.2 w.2.2.2 w.2.2.1 := by
  unfold fX4_keep fX5_keep
  rw [show (0 : Int64) = lN 0 from rfl, show (1 : Int64) = lN 1 from rfl, m_in j (by decide) (by decide), bs, m_within, bs]
  by_cases c : ∃ t, t ≤ 1 ∧ j = nI t
  · have cj := (le_of j (b := 1) (by omega)).mpr c
    have cj1 : (0 : Int32) ≤ j ∧ j ≤ 2 - 1 := cj
    have cj2 : nI 0 ≤ j ∧ j ≤ nI 1 := cj
    obtain ⟨a, ha, rfl⟩ := c
    obtain ⟨kp', r1, r2, r3⟩ := m_keep_l pg (upd isK a (vp_nar .boolean 1)) (a := a) (by omega) 0 13 0 fu kept (by omega) (by unfold fu; omega)
    have r1 : fX5_keep_b26 pg (nI a) 0 0 kept (upd isK a (vp_nar .boolean 1)) = _ := r1
    unfold fX3_place
    rw [if_pos cj1, if_pos cj2, if_neg one_ne, if_neg one_ne, c_state hP.2.2.1 hs, bs, if_neg (fun q => by rw [ig (by omega)] at q; omega), bs, if_neg (fun q => by rw [ig (by omega)] at q; omega), nI_clamp (by omega), r1]
    refine ⟨_, _, rfl, rfl, hg.2.2.2.1.symm, fun i hi => ?_⟩
    by_cases e : i = a
    · subst e
      refine Or.inr ⟨s, hs, pk_uLs, ?_, hg.congr (a_lt _ hs.1).2.1 (fun x hx => r3 x (by omega) hx)⟩
      show upd isK i (vp_nar .boolean 1) i = 1
      rw [pk_us]; decide
    · rcases hK i hi with ⟨h1, h2⟩ | ⟨s2, h1, h2, h3, h4⟩
      · exact Or.inl ⟨(pk_uLn e).trans h1, (pk_un e).trans h2⟩
      · refine Or.inr ⟨s2, h1, (pk_uLn e).trans h2, (pk_un e).trans h3, h4.congr (a_lt _ h1.1).2.1 (fun x hx => r2 _ ?_)⟩
        by_cases i0 : i = 0
        · have : a = 1 := by omega
          subst this; subst i0; omega
        · have : a = 0 := by omega
          subst this; have : i = 1 := by omega
          subst this; omega
  · have cj : ¬ ((0 : Int32) ≤ j ∧ j ≤ 2 - 1) := fun h => c ((le_of j (b := 1) (by omega)).mp h)
    have cj2 : ¬ (nI 0 ≤ j ∧ j ≤ nI 1) := cj
    rw [if_neg cj, if_neg cj2, if_pos rfl, if_pos rfl]
    exact ⟨_, _, rfl, rfl, rfl, hK⟩
theorem op_again {W L A N K k : Nat} {s : Wk} {AC KE : Nat → Int64} {pg book isK kept : Nat → Int32} (hP : PH W L A N K) (hs : WK W L s) (hg : PG pg s.1 s.2.1 s.2.2 (LO W s.1)) (hA : AR W L k AC book) (h14 : k ≤ 14) (hK : KP W L KE isK kept) (j th : Int32) :
    ∃ z w s' k', fX4_again j (nI k) (nI (encR s.1)) (nI s.2.1) (nI s.2.2) KE = some z ∧ fX5_again j th (nI k) pg kept isK = some w ∧ z.1 = w.1 ∧ WK W L s' ∧ k' ≤ 14 ∧ z.2.1 = nI k' ∧ z.2.2.1 = nI (encR s'.1) ∧ z.2.2.2.1 = nI s'.2.1 ∧ z.2.2.2.2 = nI s'.2.2 ∧ w.2.2.1 = nI k' ∧ PG w.2.2.2 s'.1 s'.2.1 s'.2.2 (LO W s'.1) ∧ AR W L k' AC book := by
  unfold fX4_again fX5_again
  rw [show fX5_in j.toInt64 (0 : Int64) (1 : Int64) = _ from m_in j (a := 0) (b := 1) (by decide) (by decide), bs, m_within, bs]
  by_cases c : ∃ t, t ≤ 1 ∧ j = nI t
  · have cj := (le_of j (b := 1) (by omega)).mpr c
    have cj1 : (0 : Int32) ≤ j ∧ j ≤ 2 - 1 := cj
    have cj2 : nI 0 ≤ j ∧ j ≤ nI 1 := cj
    obtain ⟨a, ha, rfl⟩ := c
    have gA : ¬ (nI a < 0 ∨ 2 ≤ (nI a).toNatClampNeg) := fun q => by rw [ig (by omega)] at q; omega
    rw [if_pos cj1, if_pos cj2, if_neg one_ne, if_neg one_ne]
    simp only [ig2 (show a < 2 by omega) (show 2 ≤ 1000 by decide), if_false, nI_clamp (show a < 2 ^ 31 by omega)]
    rcases hK a (by omega) with ⟨h1, h2⟩ | ⟨s', h1, h2, h3, h4⟩
    · rw [h1, h2, if_pos (show lg_cmp (-1) (-1) = 0 by decide), if_pos rfl]
      exact ⟨_, _, s, k, rfl, rfl, rfl, hs, h14, rfl, rfl, rfl, rfl, rfl, hg, hA⟩
    · obtain ⟨pg', r1, -, r3⟩ := m_again_l kept isK (a := a) (by omega) 0 (nI k) 13 0 fu pg (by omega) (by unfold fu; omega)
      have r1 : fX5_again_b31 kept isK (nI a) 0 0 (nI k) pg = _ := r1
      have hne : ¬ lg_cmp (lN (pack s')) (-1) = 0 := fun q => by
        rw [lg_cmp_eq] at q
        have hp : pack s' < 2 ^ 60 := by
          have := (a_lt _ h1.1).1
          have := h1.2.2.1
          have := h1.2.2.2.2
          have := hP.2.2.1
          unfold pack; omega
        have q2 := congrArg Int64.toInt q
        rw [pk_lT (by omega), show (-1 : Int64).toInt = -1 by decide] at q2
        omega
      have pg' : PG pg' s'.1 s'.2.1 s'.2.2 (LO W s'.1) := h4.congr (a_lt _ h1.1).2.1 (fun x hx => r3 x (by omega) hx)
      unfold fX3_place
      rw [h2, h3, if_neg hne, if_neg one_ne, c_become hP.2.2.1 h1, bs, bs, r1]
      exact ⟨_, _, s', 0, rfl, rfl, pg'.2.2.2.1.symm, h1, by omega, rfl, rfl, rfl, rfl, rfl, pg', fun i hi => by omega⟩
  · have cj : ¬ ((0 : Int32) ≤ j ∧ j ≤ 2 - 1) := fun h => c ((le_of j (b := 1) (by omega)).mp h)
    have cj2 : ¬ (nI 0 ≤ j ∧ j ≤ nI 1) := cj
    rw [if_neg cj, if_neg cj2, if_pos rfl, if_pos rfl]
    exact ⟨_, _, s, k, rfl, rfl, rfl, hs, h14, rfl, rfl, rfl, rfl, rfl, hg, hA⟩
