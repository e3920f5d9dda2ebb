/-! ACTS, what was kept: both sides -/
def AR (W L k : Nat) (AC : Nat → Int64) (book : Nat → Int32) : Prop := ∀ i, i < k → ∃ s, WK W L s ∧ AC i = lN (pack s) ∧ PG (fun x => book (13 * i + x)) s.1 s.2.1 s.2.2 (LO W s.1)
def KP (W L : Nat) (KE : Nat → Int64) (isK kept : Nat → Int32) : Prop := ∀ i, i < 2 → (KE i = -1 ∧ isK i = 0) ∨ ∃ s, WK W L s ∧ KE i = lN (pack s) ∧ isK i = 1 ∧ PG (fun x => kept (13 * i + x)) s.1 s.2.1 s.2.2 (LO W s.1)
theorem ix13 (a i : Nat) : (13 : Int32) * nI a + nI i = nI (13 * a + i) := by rw [show (13 : Int32) = nI 13 from rfl, pk_mul, nI_add]
theorem note_shift (pg : Nat → Int32) (a : Nat) : ∀ (d i c : Nat) (f : Nat → Int32), i + d = 169 → d < c → ∃ f', lp (fun _ _ _ => none) (fX5_note_b11_S pg) c (nI i) (nI a) f = fX5_note_b49 pg (nI a - 1) f' ∧ (∀ x, x < i → f' x = f x) ∧ ∀ x, i ≤ x → x < 169 → f' x = f (x + 13) := by
  intro d
  induction d with
  | zero =>
    intro i c f e h
    obtain ⟨c, rfl⟩ : ∃ m, c = m + 1 := ⟨c - 1, by omega⟩
    rw [lp_s]
    refine ⟨f, ?_, fun _ _ => rfl, fun k h1 h2 => by omega⟩
    unfold fX5_note_b11_S
    rw [if_pos (show (169 : Int32) ≤ nI i from nI_le (a := 169) (by omega) (by omega))]
  | succ d ih =>
    intro i c f e h
    obtain ⟨c, rfl⟩ : ∃ m, c = m + 1 := ⟨c - 1, by omega⟩
    rw [lp_s]
    obtain ⟨f', h1, h2, h3⟩ := ih (i + 1) c (upd f i (f (i + 13))) (by omega) (by omega)
    refine ⟨f', ?_, fun k hk => by rw [h2 k (by omega), pk_un (by omega)], fun k hk1 hk2 => ?_⟩
    · revert h1
      generalize lp (fun _ _ _ => none) (fX5_note_b11_S pg) c = kk
      intro h1
      unfold fX5_note_b11_S
      have a13 : nI i + (13 : Int32) = nI (i + 13) := nI_add i 13
      rw [if_neg (show ¬ (169 : Int32) ≤ nI i from nI_ge (b := 169) (by omega) (by omega)), a13]
      simp only [nI_clamp (show i < 2 ^ 31 by omega), nI_clamp (show i + 13 < 2 ^ 31 by omega), ig2 (show i < 182 by omega) (by decide), ig2 (show i + 13 < 182 by omega) (by decide), if_false, nI_1, h1]
    · by_cases e : k = i
      · subst e; rw [h2 k (by omega), pk_us]
      · rw [h3 k (by omega) hk2, pk_un (by omega)]
theorem note_copy (pg : Nat → Int32) {a : Nat} (ha : a < 14) : ∀ (d i c : Nat) (f : Nat → Int32), i + d = 13 → d < c → ∃ f', lp (fun _ _ _ => none) (fX5_note_b51_S pg) c (nI i) (nI a) f = some (nI (a + 1), f') ∧ (∀ x, x < 13 * a + i → f' x = f x) ∧ ∀ x, i ≤ x → x < 13 → f' (13 * a + x) = pg x := by
  intro d
  induction d with
  | zero =>
    intro i c f e h
    obtain ⟨c, rfl⟩ : ∃ m, c = m + 1 := ⟨c - 1, by omega⟩
    rw [lp_s]
    refine ⟨f, ?_, fun _ _ => rfl, fun k h1 h2 => by omega⟩
    unfold fX5_note_b51_S
    rw [if_pos (show (13 : Int32) ≤ nI i from nI_le (a := 13) (by omega) (by omega)), nI_1]
  | succ d ih =>
    intro i c f e h
    obtain ⟨c, rfl⟩ : ∃ m, c = m + 1 := ⟨c - 1, by omega⟩
    rw [lp_s]
    obtain ⟨f', h1, h2, h3⟩ := ih (i + 1) c (upd f (13 * a + i) (pg i)) (by omega) (by omega)
    refine ⟨f', ?_, fun k hk => by rw [h2 k (by omega), pk_un (by omega)], fun k hk1 hk2 => ?_⟩
    · revert h1
      generalize lp (fun _ _ _ => none) (fX5_note_b51_S pg) c = kk
      intro h1
      unfold fX5_note_b51_S
      rw [if_neg (show ¬ (13 : Int32) ≤ nI i from nI_ge (b := 13) (by omega) (by omega)), ix13]
      simp only [nI_clamp (show i < 2 ^ 31 by omega), nI_clamp (show 13 * a + i < 2 ^ 31 by omega), ig2 (show i < 13 by omega) (by decide), ig2 (show 13 * a + i < 182 by omega) (by decide), if_false, nI_1, h1]
    · by_cases e : k = i
      · subst e; rw [h2 (13 * a + k) (by omega), pk_us]
      · exact h3 k (by omega) hk2
theorem op_note {W L k : Nat} {s : Wk} {AC : Nat → Int64} {pg book : Nat → Int32} (hL : L ≤ 9) (hs : WK W L s) (hg : PG pg s.1 s.2.1 s.2.2 (LO W s.1)) (hA : AR W L k AC book) (hk : k ≤ 14) : ∃ k' AC' book', k' ≤ 14 ∧ AR W L k' AC' book' ∧ fX4_remember (nI k) (nI (encR s.1)) (nI s.2.1) (nI s.2.2) AC = some (nI k', AC') ∧ fX5_note (nI k) pg book = some (nI k', book') := by
  have hlen := (a_lt _ hs.1).2.1
  unfold fX4_remember fX5_note fX4_remember_b43
  by_cases h14 : k < 14
  · obtain ⟨b1, e1, e2, e3⟩ := note_copy pg h14 13 0 fu book (by omega) (by unfold fu; omega)
    have e1 : fX5_note_b49 pg (nI k) book = _ := e1
    refine ⟨k + 1, vp_updL AC k (lN (pack s)), b1, by omega, fun i hi => ?_, ?_, ?_⟩
    · by_cases e : i = k
      · subst e
        exact ⟨s, hs, pk_uLs, hg.congr hlen (fun x hx => e3 x (by omega) hx)⟩
      · obtain ⟨s2, g1, g2, g3⟩ := hA i (by omega)
        exact ⟨s2, g1, by rw [pk_uLn e]; exact g2, g3.congr (a_lt _ g1.1).2.1 (fun x hx => e2 _ (by omega))⟩
    · rw [if_pos (show nI k < (14 : Int32) from nI_lt (b := 14) h14 (by decide)), if_neg (nI_pos (by omega)), c_state hL hs]
      simp only [Option.bind_some, nI_clamp (show k < 2 ^ 31 by omega), ig2 h14 (by decide), if_false, nI_1]
    · rw [if_neg (fun h => by have := (nI_eq (a := k) (b := 14) (by omega) (by decide)).mp h; omega), e1]
  · have hk14 : k = 14 := by omega
    obtain ⟨b1, e1, e2, e3⟩ := note_shift pg k 169 0 fu book (by omega) (by unfold fu; omega)
    obtain ⟨b2, f1, f2, f3⟩ := note_copy pg (a := 13) (by omega) 13 0 fu b1 (by omega) (by unfold fu; omega)
    have e1 : fX5_note_b11 pg 0 (nI k) book = _ := e1
    have f1 : fX5_note_b49 pg (nI 13) b1 = _ := f1
    refine ⟨14, vp_updL (va_cpy AC AC 1 0 13) 13 (lN (pack s)), b2, by omega, fun i hi => ?_, ?_, ?_⟩
    · by_cases e : i = 13
      · subst e
        exact ⟨s, hs, pk_uLs, hg.congr hlen (fun x hx => f3 x (by omega) hx)⟩
      · obtain ⟨s2, g1, g2, g3⟩ := hA (i + 1) (by omega)
        have q1 : vp_updL (va_cpy AC AC 1 0 13) 13 (lN (pack s)) i = AC (i + 1) := by
          rw [pk_uLn e]
          have := pk_cpy_in (f := AC) (g := AC) (sp := 1) (dp := 0) (n := 13) (j := i) (Nat.zero_le _) (by omega)
          rw [this, show 1 + (i - 0) = i + 1 by omega]
        refine ⟨s2, g1, q1.trans g2, g3.congr (a_lt _ g1.1).2.1 (fun x hx => ?_)⟩
        have q2 := f2 (13 * i + x) (by omega)
        have q3 := e3 (13 * i + x) (by omega) (by omega)
        have q4 : 13 * i + x + 13 = 13 * (i + 1) + x := by omega
        rw [q4] at q3
        exact q2.trans q3
    · have l1 : ¬ nI k < (14 : Int32) := fun h => h14 ((nI_ltI (a := k) (b := 14) (by omega) (by decide)).mp h)
      have l2 : (14 : Int32) - 1 = nI 13 := pk_sub (a := 14) (b := 1) (by decide)
      have l3 : ¬ nI 13 < 0 := nI_pos (by decide)
      have l4 : (nI 13).toNatClampNeg = 13 := nI_clamp (by decide)
      have l5 : (nI 13 < 0 ∨ 14 ≤ 13) ↔ False := ig2 (i := 13) (n := 14) (by decide) (by decide)
      have l6 : nI 13 + 1 = nI 14 := nI_1 13
      rw [if_neg l1, l2, if_neg l3, c_state hL hs]
      simp only [Option.bind_some, l4, l5, if_false, l6]
    · have l1 : nI k = (14 : Int32) := by rw [hk14]; rfl
      have l2 : nI k - (1 : Int32) = nI 13 := by rw [hk14]; exact pk_sub (a := 14) (b := 1) (by decide)
      rw [if_pos l1, e1, l2, f1]
theorem every : ∀ W, W < 6 → ((1 : Int32) <<< (nI W &&& 31)) - 1 = nI (2 ^ W - 1) := by decide +kernel
theorem le_of (j : Int32) {b : Nat} (hb : b < 2 ^ 31 - 1) : ((0 : Int32) ≤ j ∧ j ≤ nI b) ↔ ∃ t, t ≤ b ∧ j = nI t := by
  constructor
  · rintro ⟨h1, h2⟩
    rcases pk_ix j (n := b + 1) (by omega) with h | h | ⟨t, h, e⟩
    · exact absurd h1 (fun h1 => by rw [fa_le] at h1; rw [fa_lt] at h; omega)
    · exact absurd h2 (fun h2 => by rw [fa_le, nI_toInt (by omega)] at h2; rw [fa_le, nI_toInt (by omega)] at h; omega)
    · exact ⟨t, by omega, e⟩
  · rintro ⟨t, h, rfl⟩
    exact ⟨nI_pos' (by omega), nI_le h (by omega)⟩
theorem op_minute {W L A N K k : Nat} {s : Wk} {AC : Nat → Int64} {pg book nv kd : Nat → Int32} (hP : PH W L A N K) (hs : WK W L s) (hk : KR W K kd) (hv : KR W N nv) (hg : PG pg s.1 s.2.1 s.2.2 (LO W s.1)) (hA : AR W L k AC book) (h14 : k ≤ 14) (j tuC tuM th : Int32) :
    ∃ z w s' k', fX4_minute j (nI k) (nI W) (nI L) (nI A) (nI N) (nI K) (nI (encR s.1)) (nI s.2.1) (nI s.2.2) tuC AC = some z ∧ fX5_minute j th (nI W) (nI L) (nI A) (nI k) tuM nv kd pg book = some w ∧ z.1 = w.1 ∧ WK W L s' ∧ k' ≤ 14 ∧ z.2.1 = nI k' ∧ z.2.2.1 = nI (encR s'.1) ∧ z.2.2.2.1 = nI s'.2.1 ∧ z.2.2.2.2.1 = nI s'.2.2 ∧ w.2.2.1 = nI k' ∧ PG w.2.2.2.2.1 s'.1 s'.2.1 s'.2.2 (LO W s'.1) ∧ AR W L k' z.2.2.2.2.2.2 w.2.2.2.2.2 := by
  have hP' := hP
  obtain ⟨p1, p2, p3, p4, p5, p6⟩ := hP'
  have hpl := hs.2.2.2.2
  have hW : 2 ^ W ≤ 2 ^ 5 := Nat.pow_le_pow_right (by decide) p1
  have c11 : (11 : Int32).toNatClampNeg = 11 := by decide
  have g11 : ((11 : Int32) < 0 ∨ 13 ≤ 11) ↔ False := by decide
  unfold fX4_minute fX5_minute fX1_everybody
  rw [every W (by omega), nI_l (by omega), show (0 : Int64) = lN 0 from rfl, m_in j (by decide) (by omega)]
  simp only [Option.bind_some, m_within]
  by_cases c : ∃ t, t ≤ 2 ^ W - 1 ∧ j = nI t
  · have cj := (le_of j (b := 2 ^ W - 1) (by omega)).mpr c
    have cj' : nI 0 ≤ j ∧ j ≤ nI (2 ^ W - 1) := cj
    obtain ⟨t, ht, rfl⟩ := c
    simp only [cj, cj', and_self, if_true, one_ne, if_false, c_out (show L < 2 ^ 31 by omega) (show s.2.2 < 2 ^ 31 by omega), Option.bind_some, c11, g11, hg.2.2.2.1, nI_eq (show s.2.2 < 2 ^ 31 by omega) (show L < 2 ^ 31 by omega)]
    by_cases hl : s.2.2 < L
    · obtain ⟨k', AC', b', r1, r2, r3, r4⟩ := op_note p3 hs hg hA h14
      obtain ⟨f', j1, j2⟩ := m_step (t := t) hP hs hl (by omega) hk hv hg tuM
      simp only [hl, if_true, r3, r4, Option.bind_some, c_step hP hs (show t < 32 by omega), j2, show ¬ s.2.2 = L by omega, if_false]
      exact ⟨_, _, (stepW A N K t s).1, k', rfl, rfl, rfl, (step_ok hP hs hl).1, r1, rfl, rfl, rfl, rfl, rfl, j1, r2⟩
    · simp only [hl, if_false, one_ne, (show (s.2.2 = L) = True from eq_true (by omega)), if_true]
      exact ⟨_, _, s, k, rfl, rfl, rfl, hs, h14, rfl, rfl, rfl, rfl, rfl, hg, hA⟩
  · have cj : ¬ ((0 : Int32) ≤ j ∧ j ≤ nI (2 ^ W - 1)) := fun h => c ((le_of j (b := 2 ^ W - 1) (by omega)).mp h)
    have cj' : ¬ (nI 0 ≤ j ∧ j ≤ nI (2 ^ W - 1)) := cj
    simp only [cj, cj', if_false, if_true]
    exact ⟨_, _, s, k, rfl, rfl, rfl, hs, h14, rfl, rfl, rfl, rfl, rfl, hg, hA⟩
