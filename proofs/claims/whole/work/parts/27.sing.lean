/-! a SONG, by both sides -/
def fi : Option Nat → Int32
  | none => -9
  | some k => nI k
def singN (L A N K : Nat) (td : Nat → Nat) : Nat → Nat → Wk → Option Nat → Wk × Option Nat
  | 0, _, s, fs => (s, fs)
  | d + 1, k, s, fs => if s.2.2 < L then singN L A N K td d (k + 1) (stepW A N K (td k) s).1 (if fs = none ∧ (stepW A N K (td k) s).2.1 ≠ 0 then some k else fs) else (s, fs)
def td (n m : Nat) : Nat → Nat := fun k => m / 100 ^ (n - 1 - k) % 100
theorem c_treads (m : Nat) (hm : m < 2 ^ 63) : ∀ (d i n x : Nat), x = m / 100 ^ i → d < n → i + d ≤ 10 → lp (fun _ _ _ => none) fX3_treadsOf_b5_S n (nI (i + d)) (lN x) (nI i) = some (nI (m / 100 ^ (i + d) % 100)) := by
  intro d
  induction d with
  | zero =>
    intro i n x hx h hi
    obtain ⟨n, rfl⟩ : ∃ m, n = m + 1 := ⟨n - 1, by omega⟩
    rw [lp_s]
    unfold fX3_treadsOf_b5_S
    have hxm : x < 2 ^ 63 := by rw [hx]; exact Nat.lt_of_le_of_lt (Nat.div_le_self _ _) hm
    rw [if_pos (nI_le (by omega) (by omega)), show (100 : Int64) = lN 100 from rfl, pk_lRem hxm (by decide) (by decide), lN_i, hx]
    rfl
  | succ d ih =>
    intro i n x hx h hi
    obtain ⟨n, rfl⟩ : ∃ m, n = m + 1 := ⟨n - 1, by omega⟩
    rw [lp_s]
    have hxm : x < 2 ^ 63 := by rw [hx]; exact Nat.lt_of_le_of_lt (Nat.div_le_self _ _) hm
    have := ih (i + 1) n (x / 100) (by rw [hx, Nat.div_div_eq_div_mul, Nat.pow_succ]) (by omega) (by omega)
    rw [show i + 1 + d = i + (d + 1) by omega] at this
    revert this
    generalize lp (fun _ _ _ => none) fX3_treadsOf_b5_S n = k
    intro this
    unfold fX3_treadsOf_b5_S
    rw [if_neg (nI_ge (by omega) (by omega)), show (100 : Int64) = lN 100 from rfl, pk_lDiv hxm (by decide) (by decide), nI_1, this]
theorem c_tr {m b : Nat} (hm : m < 2 ^ 63) (hb : b ≤ 10) : fX3_treadsOf (lN m) (nI b) = some (nI (m / 100 ^ b % 100)) := by
  have := c_treads m hm b 0 fu m (by simp) (by unfold fu; omega) (by omega)
  rw [Nat.zero_add] at this
  exact this
theorem hund : ∀ b, b < 6 → fX5_hundred (nI b) = some (lN (100 ^ b)) := by decide +kernel
theorem m_tr {m n k : Nat} (hm : m < 2 ^ 63) (hn : n ≤ 5) (hk : k < n) : fX5_treadsOf (nI n) (lN m) (nI k) = some (nI (td n m k)) := by
  unfold fX5_treadsOf
  have h1 : nI n - 1 - nI k = nI (n - 1 - k) := by
    rw [show (1 : Int32) = nI 1 from rfl, pk_sub (by omega), pk_sub (by omega)]
  have hp : 100 ^ (n - 1 - k) < 2 ^ 63 := Nat.lt_of_le_of_lt (Nat.pow_le_pow_right (by decide) (show n - 1 - k ≤ 4 by omega)) (by decide)
  have hpos : 0 < 100 ^ (n - 1 - k) := Nat.pos_of_ne_zero (by simp)
  rw [h1, hund _ (by omega)]
  simp only [Option.bind_some]
  rw [if_neg (by rw [show (0 : Int64) = lN 0 from rfl, pk_lEQ hp (by decide)]; omega), pk_lDiv hm hpos hp, show (100 : Int64) = lN 100 from rfl, pk_lRem (Nat.lt_of_le_of_lt (Nat.div_le_self _ _) hm) (by decide) (by decide), lN_i]
  rfl
theorem c_out {L pl : Nat} (hL : L < 2 ^ 31) (hp : pl < 2 ^ 31) : fX3_isOut (nI L) (nI pl) = some (if pl < L then 0 else 1) := by
  unfold fX3_isOut fX1_light
  simp only [Option.bind_some, nI_ltI hp hL]
  split <;> rfl
theorem fi_none {fs : Option Nat} (h : ∀ k, fs = some k → k < 100) : (fi fs = (-9 : Int32)) ↔ fs = none := by
  cases fs with
  | none => exact ⟨fun _ => rfl, fun _ => rfl⟩
  | some k =>
    have : k < 100 := h k rfl
    constructor
    · intro h2
      have h3 : (nI k).toInt = (-9 : Int32).toInt := congrArg Int32.toInt h2
      rw [nI_toInt (by omega), show (-9 : Int32).toInt = -9 by decide] at h3
      omega
    · intro h2; cases h2
theorem stp32 {W L A N K t : Nat} {s : Wk} (hP : PH W L A N K) (h : WK W L s) (hl : s.2.2 < L) : ((nI (stepW A N K t s).2.1 = 0) ↔ (stepW A N K t s).2.1 = 0) ∧ ((nI (stepW A N K t s).2.2 = 0) ↔ (stepW A N K t s).2.1 = 0) := by
  obtain ⟨o1, o2, o3, o4, o5, o6⟩ := step_ok (t := t) hP h hl
  exact ⟨nI_eq (b := 0) (by omega) (by decide), by rw [o4]; exact nI_eq (b := 0) (by omega) (by decide)⟩
theorem singN_ok {W L A N K : Nat} (hP : PH W L A N K) (td : Nat → Nat) : ∀ (d k : Nat) (s : Wk) (fs : Option Nat), WK W L s → WK W L (singN L A N K td d k s fs).1 := by
  intro d
  induction d with
  | zero => intro k s fs h; exact h
  | succ d ih =>
    intro k s fs h
    unfold singN
    by_cases c : s.2.2 < L
    · rw [if_pos c]; exact ih _ _ _ (step_ok hP h c).1
    · rw [if_neg c]; exact h
theorem c_sing {W L A N K m n : Nat} (hP : PH W L A N K) (hm : m < 2 ^ 63) (hn : n ≤ 5) (htd : ∀ k, k < n → td n m k < 32) : ∀ (d k c : Nat) (s : Wk) (fs : Option Nat) (tu : Int32), k + d = n → d < c → WK W L s → (∀ j, fs = some j → j < 100) →
    ∃ tu', lp (fun _ _ _ _ _ _ _ _ => none) (fX3_sing_b7_S (nI L) (nI A) (nI N) (nI K)) c (nI n) (lN m) (fi fs) (nI k) (nI (encR s.1)) (nI s.2.1) (nI s.2.2) tu = some (fi (singN L A N K (td n m) d k s fs).2, nI (encR (singN L A N K (td n m) d k s fs).1.1), nI (singN L A N K (td n m) d k s fs).1.2.1, nI (singN L A N K (td n m) d k s fs).1.2.2, tu') := by
  intro d
  have hP' := hP
  obtain ⟨p1, p2, p3, p4, p5, p6⟩ := hP'
  induction d with
  | zero =>
    intro k c s fs tu e h hs hf
    obtain ⟨c, rfl⟩ : ∃ m, c = m + 1 := ⟨c - 1, by omega⟩
    rw [lp_s]
    refine ⟨tu, ?_⟩
    unfold fX3_sing_b7_S singN
    rw [if_pos (nI_le (by omega) (by omega))]
  | succ d ih =>
    intro k c s fs tu e h hs hf
    obtain ⟨c, rfl⟩ : ∃ m, c = m + 1 := ⟨c - 1, by omega⟩
    have hs5 := hs.2.2.2.2
    rw [lp_s]
    by_cases hl : s.2.2 < L
    · have so := step_ok (t := td n m k) hP hs hl
      have z := stp32 (t := td n m k) hP hs hl
      obtain ⟨tu', i1⟩ := ih (k + 1) c (stepW A N K (td n m k) s).1 (if fs = none ∧ (stepW A N K (td n m k) s).2.1 ≠ 0 then some k else fs) (nI (stepW A N K (td n m k) s).2.2) (by omega) (by omega) so.1 (by
        intro j hj
        split at hj
        · cases hj; omega
        · exact hf j hj)
      refine ⟨tu', ?_⟩
      rw [singN, if_pos hl, ← i1]
      generalize lp (fun _ _ _ _ _ _ _ _ => none) (fX3_sing_b7_S (nI L) (nI A) (nI N) (nI K)) c = kk
      unfold fX3_sing_b7_S fX3_sing_b53
      have tr : fX3_treadsOf (lN m) (nI n - 1 - nI k) = some (nI (td n m k)) := by
        rw [show (1 : Int32) = nI 1 from rfl, pk_sub (by omega), pk_sub (by omega), c_tr hm (by omega)]
        rfl
      rw [if_neg (nI_ge (by omega) (by omega)), c_out (by omega) (by omega), if_pos hl, tr]
      simp only [Option.bind_some, if_true, c_step hP hs (htd k (by omega)), z.2, fi_none hf, nI_1]
      by_cases c1 : (stepW A N K (td n m k) s).2.1 = 0
      · simp only [c1, if_true, ne_eq, not_true_eq_false, and_false, if_false]
        rfl
      · by_cases c2 : fs = none
        · simp only [c1, c2, if_true, if_false, ne_eq, not_false_eq_true, and_self]
          rfl
        · simp only [c1, c2, if_true, if_false, ne_eq, not_false_eq_true, false_and]
          rfl
    · refine ⟨tu, ?_⟩
      rw [singN, if_neg hl]
      unfold fX3_sing_b7_S
      rw [if_neg (nI_ge (by omega) (by omega)), c_out (by omega) (by omega), if_neg hl]
      simp only [Option.bind_some, one_ne, if_false]
theorem m_sing {W L A N K m n : Nat} {nv kd : Nat → Int32} (hP : PH W L A N K) (hm : m < 2 ^ 63) (hn : n ≤ 5) (htd : ∀ k, k < n → td n m k < 32) (hk : KR W K kd) (hv : KR W N nv) : ∀ (d k c : Nat) (s : Wk) (fs : Option Nat) (tu : Int32) (f : Nat → Int32), k + d = n → d < c → WK W L s → (∀ j, fs = some j → j < 100) → PG f s.1 s.2.1 s.2.2 (LO W s.1) →
    ∃ tu' f', PG f' (singN L A N K (td n m) d k s fs).1.1 (singN L A N K (td n m) d k s fs).1.2.1 (singN L A N K (td n m) d k s fs).1.2.2 (LO W (singN L A N K (td n m) d k s fs).1.1) ∧ lp (fun _ _ _ _ _ _ => none) (fX5_sing_b7_S (nI L) (nI A) nv kd) c (nI n) (lN m) (fi fs) (nI k) tu f = some (fi (singN L A N K (td n m) d k s fs).2, tu', f') := by
  intro d
  have hP' := hP
  obtain ⟨p1, p2, p3, p4, p5, p6⟩ := hP'
  have c11 : (11 : Int32).toNatClampNeg = 11 := by decide
  have g11 : ((11 : Int32) < 0 ∨ 13 ≤ 11) ↔ False := by decide
  induction d with
  | zero =>
    intro k c s fs tu f e h hs hf hg
    obtain ⟨c, rfl⟩ : ∃ m, c = m + 1 := ⟨c - 1, by omega⟩
    rw [lp_s]
    refine ⟨tu, f, hg, ?_⟩
    unfold fX5_sing_b7_S singN
    rw [if_pos (nI_le (by omega) (by omega))]
  | succ d ih =>
    intro k c s fs tu f e h hs hf hg
    obtain ⟨c, rfl⟩ : ∃ m, c = m + 1 := ⟨c - 1, by omega⟩
    have hs5 := hs.2.2.2.2
    have h11 := hg.2.2.2.1
    rw [lp_s]
    by_cases hl : s.2.2 < L
    · have so := step_ok (t := td n m k) hP hs hl
      have z := stp32 (t := td n m k) hP hs hl
      obtain ⟨f1, j1, j2⟩ := m_step hP hs hl (htd k (by omega)) hk hv hg tu
      obtain ⟨tu', f', i0, i1⟩ := ih (k + 1) c (stepW A N K (td n m k) s).1 (if fs = none ∧ (stepW A N K (td n m k) s).2.1 ≠ 0 then some k else fs) (nI (stepW A N K (td n m k) s).2.2) f1 (by omega) (by omega) so.1 (by
        intro j hj
        split at hj
        · cases hj; omega
        · exact hf j hj) j1
      have e1 : singN L A N K (td n m) (d + 1) k s fs = singN L A N K (td n m) d (k + 1) (stepW A N K (td n m k) s).1 (if fs = none ∧ (stepW A N K (td n m k) s).2.1 ≠ 0 then some k else fs) := by rw [singN, if_pos hl]
      rw [e1]
      refine ⟨tu', f', i0, ?_⟩
      rw [← i1]
      generalize lp (fun _ _ _ _ _ _ => none) (fX5_sing_b7_S (nI L) (nI A) nv kd) c = kk
      unfold fX5_sing_b7_S fX5_sing_b63 fX5_sing_b61 fX5_sing_b63
      have cl : (nI L ≤ nI s.2.2) ↔ False := by rw [nI_leI (by omega) (by omega)]; exact ⟨fun h => by omega, False.elim⟩
      rw [if_neg (nI_ge (by omega) (by omega))]
      simp only [c11, g11, h11, cl, m_tr hm hn (show k < n by omega), j2, Option.bind_some, if_false, z.1, fi_none hf, nI_1]
      by_cases c1 : (stepW A N K (td n m k) s).2.1 = 0
      · simp only [c1, if_true, ne_eq, not_true_eq_false, and_false, if_false]
      · by_cases c2 : fs = none
        · simp only [c1, c2, if_true, if_false, ne_eq, not_false_eq_true, and_self]
          rfl
        · simp only [c1, c2, if_true, if_false, ne_eq, not_false_eq_true, false_and]
    · refine ⟨tu, f, ?_, ?_⟩
      · rw [singN, if_neg hl]; exact hg
      · rw [singN, if_neg hl]
        unfold fX5_sing_b7_S
        have cl : (nI L ≤ nI s.2.2) ↔ True := by rw [nI_leI (by omega) (by omega)]; exact ⟨fun _ => trivial, fun _ => by omega⟩
        rw [if_neg (nI_ge (by omega) (by omega))]
        simp only [c11, g11, h11, cl, if_true, if_false]
