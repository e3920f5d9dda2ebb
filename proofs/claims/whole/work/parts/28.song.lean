/-! which SONGS are refused, copies, the state in one long; LEFT and TURNS -/
def okB : Nat → Nat → Bool
  | 0, x => decide (x = 0)
  | d + 1, x => decide (x % 100 ≤ 31) && okB d (x / 100)
def mB (n m : Nat) : Nat → Nat → Bool
  | 0, _ => true
  | d + 1, k => decide (td n m k ≤ 31) && mB n m d (k + 1)
theorem okB_iff : ∀ (d x : Nat), okB d x = true ↔ ((∀ k, k < d → x / 100 ^ k % 100 ≤ 31) ∧ x < 100 ^ d)
  | 0, x => by simp [okB]
  | d + 1, x => by
    simp only [okB, Bool.and_eq_true, decide_eq_true_eq, okB_iff d (x / 100)]
    rw [Nat.pow_succ]
    constructor
    · rintro ⟨h1, h2, h3⟩
      refine ⟨fun k hk => ?_, by omega⟩
      cases k with
      | zero => simpa using h1
      | succ k => have := h2 k (by omega); rwa [Nat.div_div_eq_div_mul, Nat.mul_comm, ← Nat.pow_succ] at this
    · rintro ⟨h1, h2⟩
      refine ⟨by simpa using h1 0 (by omega), fun k hk => ?_, by omega⟩
      have := h1 (k + 1) (by omega)
      rwa [Nat.pow_succ, Nat.mul_comm, ← Nat.div_div_eq_div_mul] at this
theorem mB_iff (n m : Nat) : ∀ (d k : Nat), mB n m d k = true ↔ ∀ j, k ≤ j → j < k + d → td n m j ≤ 31
  | 0, k => by simp [mB]; intros; omega
  | d + 1, k => by
    simp only [mB, Bool.and_eq_true, decide_eq_true_eq, mB_iff n m d (k + 1)]
    constructor
    · rintro ⟨h1, h2⟩ j h3 h4
      by_cases e : j = k
      · rw [e]; exact h1
      · exact h2 j (by omega) (by omega)
    · intro h
      exact ⟨h k (by omega) (by omega), fun j h3 h4 => h j (by omega) (by omega)⟩
theorem ok_m {n m : Nat} : okB n m = true ↔ (m < 100 ^ n ∧ mB n m n 0 = true) := by
  rw [okB_iff, mB_iff]
  constructor
  · rintro ⟨h1, h2⟩
    exact ⟨h2, fun j _ h4 => h1 (n - 1 - j) (by omega)⟩
  · rintro ⟨h1, h2⟩
    refine ⟨fun k hk => ?_, h1⟩
    have := h2 (n - 1 - k) (by omega) (by omega)
    unfold td at this
    rwa [show n - 1 - (n - 1 - k) = k by omega] at this
theorem c_song {n : Nat} (hn : n ≤ 5) : ∀ (d i x c : Nat), x < 2 ^ 63 → i + d = n → d < c → lp (fun _ _ _ => none) fX4_isSong_b22_S c (nI n) (lN x) (nI i) = some (if okB d x = true then 1 else 0) := by
  intro d
  induction d with
  | zero =>
    intro i x c hx e h
    obtain ⟨c, rfl⟩ : ∃ m, c = m + 1 := ⟨c - 1, by omega⟩
    rw [lp_s]
    unfold fX4_isSong_b22_S
    rw [if_pos (nI_le (by omega) (by omega))]
    simp only [lg_cmp_eq, okB, decide_eq_true_eq, show (0 : Int64) = lN 0 from rfl, pk_lEQ hx (show 0 < 2 ^ 63 by decide)]
    split <;> rfl
  | succ d ih =>
    intro i x c hx e h
    obtain ⟨c, rfl⟩ : ∃ m, c = m + 1 := ⟨c - 1, by omega⟩
    rw [lp_s]
    have := ih (i + 1) (x / 100) c (Nat.lt_of_le_of_lt (Nat.div_le_self _ _) hx) (by omega) (by omega)
    revert this
    generalize lp (fun _ _ _ => none) fX4_isSong_b22_S c = k
    intro this
    unfold fX4_isSong_b22_S
    have hm : x % 100 < 100 := Nat.mod_lt _ (by decide)
    rw [if_neg (nI_ge (by omega) (by omega)), show (100 : Int64) = lN 100 from rfl, pk_lRem hx (by decide) (by decide), pk_lDiv hx (by decide) (by decide), nI_1, this]
    simp only [lg_cmp_le, okB, Bool.and_eq_true, decide_eq_true_eq, show (31 : Int64) = lN 31 from rfl, pk_lLE (show x % 100 < 2 ^ 63 by omega) (show 31 < 2 ^ 63 by decide)]
    by_cases c1 : x % 100 ≤ 31
    · simp [c1]
    · simp [c1]
theorem m_song {n m : Nat} (hn : n ≤ 5) (hm : m < 2 ^ 63) : ∀ (d k c : Nat) (b : Bool), k + d = n → d < c → lp (fun _ _ _ _ => none) fX5_noSong_b33_S c (nI n) (lN m) (if b = true then 1 else 0) (nI k) = some (if b = true ∧ mB n m d k = true then 0 else 1) := by
  intro d
  induction d with
  | zero =>
    intro k c b e h
    obtain ⟨c, rfl⟩ : ∃ m, c = m + 1 := ⟨c - 1, by omega⟩
    rw [lp_s]
    unfold fX5_noSong_b33_S
    rw [if_pos (nI_le (by omega) (by omega))]
    cases b <;> simp [mB, one_ne]
  | succ d ih =>
    intro k c b e h
    obtain ⟨c, rfl⟩ : ∃ m, c = m + 1 := ⟨c - 1, by omega⟩
    rw [lp_s]
    have h1 := ih (k + 1) c true (by omega) (by omega)
    have h0 := ih (k + 1) c false (by omega) (by omega)
    revert h1 h0
    generalize lp (fun _ _ _ _ => none) fX5_noSong_b33_S c = kk
    intro h1 h0
    simp only [if_true, Bool.false_eq_true, if_false, true_and, false_and] at h1 h0
    unfold fX5_noSong_b33_S fX5_noSong_b59 fX5_noSong_b60
    have ht : td n m k < 100 := Nat.mod_lt _ (by decide)
    rw [if_neg (nI_ge (by omega) (by omega)), m_tr hm hn (show k < n by omega)]
    simp only [Option.bind_some, nI_1, h0, h1, mB, Bool.and_eq_true, decide_eq_true_eq, show (31 : Int32) = nI 31 from rfl, nI_ltI (show 31 < 2 ^ 31 by decide) (show td n m k < 2 ^ 31 by omega)]
    cases b
    · simp
    · by_cases c1 : td n m k ≤ 31
      · simp [c1, one_ne, show ¬ 31 < td n m k by omega]
      · simp [c1, one_ne, show 31 < td n m k by omega]
theorem song_cases (j : Int32) (song : Int64) : (∃ n m, j = nI n ∧ song = lN m ∧ 1 ≤ n ∧ n ≤ 5 ∧ m < 2 ^ 63 ∧ (∀ k, k < n → td n m k < 32) ∧ fX4_isSong j song = some 1 ∧ fX5_noSong j song = some 0) ∨ (fX4_isSong j song = some 0 ∧ fX5_noSong j song = some 1) := by
  have w := m_within j 1 5
  have i := m_in j (a := 1) (b := 5) (by decide) (by decide)
  unfold fX4_isSong fX5_noSong
  rw [w, show (1 : Int64) = lN 1 from rfl, show (5 : Int64) = lN 5 from rfl, i]
  by_cases c : (1 : Int32) ≤ j ∧ j ≤ 5
  · obtain ⟨n, hn, rfl⟩ : ∃ n, n < 6 ∧ j = nI n := by
      rcases pk_ix j (n := 6) (by decide) with h | h | h
      · exact absurd c.1 (by rw [fa_le]; rw [fa_lt] at h; have : (1 : Int32).toInt = 1 := (by decide); have : (0 : Int32).toInt = 0 := (by decide); omega)
      · exact absurd c.2 (by rw [fa_le]; rw [fa_le] at h; have : (5 : Int32).toInt = 5 := (by decide); have : (nI 6).toInt = 6 := (by decide); omega)
      · exact h
    have hn1 : 1 ≤ n := by have := (nI_leI (a := 1) (b := n) (by decide) (by omega)).mp c.1; exact this
    have c' : nI 1 ≤ nI n ∧ nI n ≤ nI 5 := c
    rw [if_pos c, if_pos c']
    simp only [Option.bind_some, one_ne, if_false, hund n hn]
    by_cases hs : song < 0
    · right
      have e1 : ¬ (0 : Int32) ≤ lg_cmp song 0 := by rw [lg_cmp_ge, fa_le64]; rw [fa_lt64] at hs; omega
      have e2 : fX5_in song 0 (lN (100 ^ n) - lN 1) = some 0 := by rw [m_inL, if_neg (fun h => by have := h.1; rw [fa_le64] at this; rw [fa_lt64] at hs; omega)]
      rw [if_neg e1, e2]
      exact ⟨rfl, by simp⟩
    · obtain ⟨m, hm, rfl⟩ := pk_lOf hs
      have e1 : (0 : Int32) ≤ lg_cmp (lN m) 0 := by rw [lg_cmp_ge, show (0 : Int64) = lN 0 from rfl, pk_lLE (by decide) hm]; omega
      have hp : 100 ^ n < 2 ^ 63 := Nat.lt_of_le_of_lt (Nat.pow_le_pow_right (by decide) (show n ≤ 5 by omega)) (by decide)
      have hpos : 0 < 100 ^ n := Nat.pos_of_ne_zero (by simp)
      have e2 : fX5_in (lN m) 0 (lN (100 ^ n) - lN 1) = some (if m < 100 ^ n then 1 else 0) := by
        rw [m_inL, lN_sub hpos]
        have : ((0 : Int64) ≤ lN m ∧ lN m ≤ lN (100 ^ n - 1)) ↔ m < 100 ^ n := by
          rw [show (0 : Int64) = lN 0 from rfl, pk_lLE (by decide) hm, pk_lLE hm (by omega)]
          omega
        simp only [this]
      have cs : fX4_isSong_b22 (nI n) (lN m) 0 = some (if okB n m = true then 1 else 0) := c_song (by omega) n 0 m fu hm (by omega) (by unfold fu; omega)
      have ms : fX5_noSong_b33 (nI n) (lN m) 1 0 = some (if mB n m n 0 = true then 0 else 1) := by
        have := m_song (n := n) (m := m) (by omega) hm n 0 fu true (by omega) (by unfold fu; omega)
        simp only [if_true, true_and] at this
        exact this
      rw [if_pos e1, cs, e2]
      by_cases o : okB n m = true
      · left
        have o2 := ok_m.mp o
        refine ⟨n, m, rfl, rfl, hn1, by omega, hm, fun k hk => ?_, by simp [o], ?_⟩
        · have := (mB_iff n m n 0).mp o2.2 k (by omega) (by omega)
          omega
        · simp [o2.1, one_ne, ms, o2.2]
      · right
        refine ⟨by simp [o], ?_⟩
        by_cases o3 : m < 100 ^ n
        · have : ¬ mB n m n 0 = true := fun h => o (ok_m.mpr ⟨o3, h⟩)
          simp [o3, one_ne, ms, this]
        · simp [o3]
  · right
    have c' : ¬ (nI 1 ≤ j ∧ j ≤ nI 5) := c
    rw [if_neg c, if_neg c']
    exact ⟨by simp, by simp⟩
theorem PG.congr {f g : Nat → Int32} {r : List Nat} {q pl lost : Nat} (hl : r.length ≤ 5) (h : PG f r q pl lost) (e : ∀ i, i < 13 → g i = f i) : PG g r q pl lost :=
  ⟨fun i hi => by rw [e i (by omega)]; exact h.1 i hi, by rw [e 5 (by omega)]; exact h.2.1, fun w hw => by rw [e (6 + w) (by omega)]; exact h.2.2.1 w hw, by rw [e 11 (by omega)]; exact h.2.2.2.1, by rw [e 12 (by omega)]; exact h.2.2.2.2⟩
theorem begin_l (pg : Nat → Int32) : ∀ (d i c : Nat) (f : Nat → Int32), i + d = 13 → d < c → ∃ f', lp (fun _ _ => none) (fX5_begin_b2_S pg) c (nI i) f = some f' ∧ (∀ k, k < i → f' k = f k) ∧ ∀ k, i ≤ k → k < 13 → f' k = pg k := by
  intro d
  induction d with
  | zero =>
    intro i c f e h
    obtain ⟨c, rfl⟩ : ∃ m, c = m + 1 := ⟨c - 1, by omega⟩
    rw [lp_s]
    refine ⟨f, ?_, fun _ _ => rfl, fun k h1 h2 => by omega⟩
    unfold fX5_begin_b2_S
    rw [if_pos (show (13 : Int32) ≤ nI i from nI_le (a := 13) (by omega) (by omega))]
  | succ d ih =>
    intro i c f e h
    obtain ⟨c, rfl⟩ : ∃ m, c = m + 1 := ⟨c - 1, by omega⟩
    rw [lp_s]
    obtain ⟨f', h1, h2, h3⟩ := ih (i + 1) c (upd f i (pg i)) (by omega) (by omega)
    refine ⟨f', ?_, fun k hk => by rw [h2 k (by omega), pk_un (by omega)], fun k hk1 hk2 => ?_⟩
    · revert h1
      generalize lp (fun _ _ => none) (fX5_begin_b2_S pg) c = kk
      intro h1
      unfold fX5_begin_b2_S
      rw [if_neg (show ¬ (13 : Int32) ≤ nI i from nI_ge (b := 13) (by omega) (by omega))]
      simp only [nI_clamp (show i < 2 ^ 31 by omega), ig2 (show i < 13 by omega) (by decide), if_false, nI_1, h1]
    · by_cases e : k = i
      · subst e; rw [h2 k (by omega), pk_us]
      · exact h3 k (by omega) hk2
theorem m_begin (pg f : Nat → Int32) : ∃ f', fX5_begin pg f = some f' ∧ ∀ k, k < 13 → f' k = pg k := by
  obtain ⟨f', h1, -, h3⟩ := begin_l pg 13 0 fu f (by omega) (by unfold fu; omega)
  exact ⟨f', h1, fun k hk => h3 k (by omega) hk⟩
def pack (s : Wk) : Nat := (s.2.2 * 2 ^ 20 + s.2.1) * 2 ^ 20 + encR s.1
theorem c_state {W L : Nat} {s : Wk} (hL : L ≤ 9) (h : WK W L s) : fX3_state (nI (encR s.1)) (nI s.2.1) (nI s.2.2) = some (lN (pack s)) := by
  obtain ⟨h1, h2, h3, h4, h5⟩ := h
  have he := (a_lt _ h1).1
  unfold fX3_state
  have sh := fun n => wb_shl n (k := 20) (by decide)
  rw [nI_l (by omega), nI_l (by omega), nI_l (by omega), show (20 : Int32) = nI 20 from rfl, sh, g_or (k := 20) rfl h3 (by omega), sh, g_or (k := 20) rfl he (by omega)]
  rfl
theorem c_become {W L : Nat} {s : Wk} (hL : L ≤ 9) (h : WK W L s) (x y z : Int32) : fX3_become (lN (pack s)) x y z = some (nI (encR s.1), nI s.2.1, nI s.2.2) := by
  obtain ⟨h1, h2, h3, h4, h5⟩ := h
  have he := (a_lt _ h1).1
  have hp : pack s < 2 ^ 60 := by unfold pack; omega
  unfold fX3_become
  rw [lN_i, show (20 : Int32) = nI 20 from rfl, show (40 : Int32) = nI 40 from rfl, wb_shr (by omega) (by decide), wb_shr (by omega) (by decide), lN_i, lN_i]
  have e1 : (nI (pack s)) &&& (1048575 : Int32) = nI (encR s.1) := by
    show nI _ &&& nI (2 ^ 20 - 1) = _
    rw [fa_mask]
    exact congrArg nI (by unfold pack; omega)
  have e2 : (nI (pack s / 2 ^ 20)) &&& (1048575 : Int32) = nI s.2.1 := by
    show nI _ &&& nI (2 ^ 20 - 1) = _
    rw [fa_mask]
    exact congrArg nI (by unfold pack; omega)
  have e3 : pack s / 2 ^ 40 = s.2.2 := by unfold pack; omega
  rw [e1, e2, e3]
theorem m_rowOf {f : Nat → Int32} {r : List Nat} {q pl lost : Nat} (hr : r ∈ rg 5) (hf : PG f r q pl lost) : ∀ (rest pre : List Nat) (acc c : Nat), r = pre ++ rest → rest.length < c → lp (fun _ _ => none) (fX5_rowOf_b4_S f) c (nI acc) (nI pre.length) = some (nI (acc ||| bitsN rest)) := by
  intro rest
  have hlen := a_lt r hr
  have c5 : (5 : Int32).toNatClampNeg = 5 := by decide
  have g5 : ((5 : Int32) < 0 ∨ 13 ≤ 5) ↔ False := by decide
  induction rest with
  | nil =>
    intro pre acc c e h
    obtain ⟨c, rfl⟩ : ∃ m, c = m + 1 := ⟨c - 1, by omega⟩
    rw [lp_s]
    unfold fX5_rowOf_b4_S
    have hl : r.length = pre.length := by rw [e]; simp
    have cl : (nI r.length ≤ nI pre.length) ↔ True := by rw [nI_leI (by omega) (by omega)]; exact ⟨fun _ => trivial, fun _ => by omega⟩
    simp only [c5, g5, hf.2.1, cl, if_true, if_false, bitsN, Nat.or_zero]
  | cons w rest ih =>
    intro pre acc c e h
    obtain ⟨c, rfl⟩ : ∃ m, c = m + 1 := ⟨c - 1, by simp at h; omega⟩
    rw [lp_s]
    have hl : r.length = pre.length + 1 + rest.length := by rw [e]; simp; omega
    have gw : r.getD pre.length 0 = w := by rw [e]; exact gd_mid _ _ _
    have w5 : w < 5 := by rw [← gw]; exact hlen.2.2.1 _ (by omega)
    have fw : f pre.length = nI w := by rw [hf.1 _ (by omega), gw]
    have := ih (pre ++ [w]) (acc ||| 2 ^ w) c (by rw [e]; simp) (by simp at h; omega)
    rw [show (pre ++ [w]).length = pre.length + 1 by simp] at this
    revert this
    generalize lp (fun _ _ => none) (fX5_rowOf_b4_S f) c = kk
    intro this
    unfold fX5_rowOf_b4_S
    have cl : (nI r.length ≤ nI pre.length) ↔ False := by rw [nI_leI (by omega) (by omega)]; exact ⟨fun h => by omega, False.elim⟩
    simp only [c5, g5, hf.2.1, cl, nI_clamp (show pre.length < 2 ^ 31 by omega), ig2 (show pre.length < 13 by omega) (by decide), fw, bit_dec w w5, fa_or, nI_1, this, if_false, bitsN, Nat.or_assoc]
theorem m_row {f : Nat → Int32} {r : List Nat} {q pl lost : Nat} (hr : r ∈ rg 5) (hf : PG f r q pl lost) : fX5_rowOf f = some (nI (bitsN r)) := by
  have := m_rowOf hr hf r [] 0 fu rfl (by have := (a_lt r hr).2.1; unfold fu; omega)
  rw [Nat.zero_or] at this
  exact this
theorem m_figOf {f : Nat → Int32} {r : List Nat} {q pl lost : Nat} (hr : r ∈ rg 5) (hf : PG f r q pl lost) : ∀ (rest pre : List Nat) (acc c : Nat), r = pre ++ rest → rest.length < c → lp (fun _ _ => none) (fX5_figuresOf_b4_S f) c (nI acc) (nI pre.length) = some (nI (rest.foldl (fun v w => v * 10 + (w + 1)) acc)) := by
  intro rest
  have hlen := a_lt r hr
  have c5 : (5 : Int32).toNatClampNeg = 5 := by decide
  have g5 : ((5 : Int32) < 0 ∨ 13 ≤ 5) ↔ False := by decide
  induction rest with
  | nil =>
    intro pre acc c e h
    obtain ⟨c, rfl⟩ : ∃ m, c = m + 1 := ⟨c - 1, by omega⟩
    rw [lp_s]
    unfold fX5_figuresOf_b4_S
    have hl : r.length = pre.length := by rw [e]; simp
    have cl : (nI r.length ≤ nI pre.length) ↔ True := by rw [nI_leI (by omega) (by omega)]; exact ⟨fun _ => trivial, fun _ => by omega⟩
    simp only [c5, g5, hf.2.1, cl, if_true, if_false, List.foldl_nil]
  | cons w rest ih =>
    intro pre acc c e h
    obtain ⟨c, rfl⟩ : ∃ m, c = m + 1 := ⟨c - 1, by simp at h; omega⟩
    rw [lp_s]
    have hl : r.length = pre.length + 1 + rest.length := by rw [e]; simp; omega
    have gw : r.getD pre.length 0 = w := by rw [e]; exact gd_mid _ _ _
    have fw : f pre.length = nI w := by rw [hf.1 _ (by omega), gw]
    have := ih (pre ++ [w]) (acc * 10 + (w + 1)) c (by rw [e]; simp) (by simp at h; omega)
    rw [show (pre ++ [w]).length = pre.length + 1 by simp] at this
    revert this
    generalize lp (fun _ _ => none) (fX5_figuresOf_b4_S f) c = kk
    intro this
    unfold fX5_figuresOf_b4_S
    have cl : (nI r.length ≤ nI pre.length) ↔ False := by rw [nI_leI (by omega) (by omega)]; exact ⟨fun h => by omega, False.elim⟩
    have e10 : (10 : Int32) * nI acc + nI w + 1 = nI (acc * 10 + (w + 1)) := by
      rw [show (10 : Int32) = nI 10 from rfl, pk_mul, nI_add, nI_1]
      exact congrArg nI (by omega)
    simp only [c5, g5, hf.2.1, cl, nI_clamp (show pre.length < 2 ^ 31 by omega), ig2 (show pre.length < 13 by omega) (by decide), fw, e10, nI_1, this, if_false, List.foldl_cons]
theorem m_fig {f : Nat → Int32} {r : List Nat} {q pl lost : Nat} (hr : r ∈ rg 5) (hf : PG f r q pl lost) : fX5_figuresOf f = some (nI (figN r)) :=
  m_figOf hr hf r [] 0 fu rfl (by have := (a_lt r hr).2.1; unfold fu; omega)
theorem op_left {W L A N K : Nat} {s : Wk} {pg nv kd : Nat → Int32} (hP : PH W L A N K) (hs : WK W L s) (hk : KR W K kd) (hv : KR W N nv) (hg : PG pg s.1 s.2.1 s.2.2 (LO W s.1)) (j : Int32) (song : Int64) (x1 x2 x3 x4 th tu : Int32) (tr : Nat → Int32) :
    ∃ z w, fX4_left j song (nI L) (nI A) (nI N) (nI K) (nI (encR s.1)) (nI s.2.1) (nI s.2.2) x1 x2 x3 x4 = some z ∧ fX5_left j song th (nI L) (nI A) tu nv kd pg tr = some w ∧ z.1 = w.1 := by
  have hP' := hP
  obtain ⟨p1, p2, p3, p4, p5, p6⟩ := hP'
  unfold fX4_left fX5_left
  rcases song_cases j song with ⟨n, m, rfl, rfl, hn1, hn, hm, htd, e1, e2⟩ | ⟨e1, e2⟩
  · rw [e1, e2]
    obtain ⟨f1, b1, b2⟩ := m_begin pg tr
    have hg1 := hg.congr (a_lt _ hs.1).2.1 b2
    obtain ⟨t1, c1⟩ := c_sing hP hm hn htd n 0 fu s none x4 (by omega) (by unfold fu; omega) hs (fun _ h => by cases h)
    obtain ⟨t2, f2, g2, c2⟩ := m_sing hP hm hn htd hk hv n 0 fu s none tu f1 (by omega) (by unfold fu; omega) hs (fun _ h => by cases h) hg1
    have ok := singN_ok hP (td n m) n 0 s none hs
    have c1 : fX3_sing (nI n) (lN m) (nI L) (nI A) (nI N) (nI K) (nI (encR s.1)) (nI s.2.1) (nI s.2.2) x4 = _ := c1
    have c2 : fX5_sing (nI n) (lN m) (nI L) (nI A) tu nv kd f1 = _ := c2
    simp only [Option.bind_some, one_ne, if_false, if_true, c_state p3 hs, c_become p3 hs, c1, b1, c2, fX3_members, a_mem _ ok.1, m_row ok.1 g2]
    exact ⟨_, _, rfl, rfl, rfl⟩
  · rw [e1, e2]
    simp only [Option.bind_some, one_ne, if_false, if_true]
    exact ⟨_, _, rfl, rfl, rfl⟩
theorem op_firstTurn {W L A N K : Nat} {s : Wk} {pg nv kd : Nat → Int32} (hP : PH W L A N K) (hs : WK W L s) (hk : KR W K kd) (hv : KR W N nv) (hg : PG pg s.1 s.2.1 s.2.2 (LO W s.1)) (j : Int32) (song : Int64) (x1 x2 x3 x4 th tu : Int32) (tr : Nat → Int32) :
    ∃ z w, fX4_firstTurn j song (nI L) (nI A) (nI N) (nI K) (nI (encR s.1)) (nI s.2.1) (nI s.2.2) x1 x2 x3 x4 = some z ∧ fX5_firstTurn j song th (nI L) (nI A) tu nv kd pg tr = some w ∧ z.1 = w.1 := by
  have hP' := hP
  obtain ⟨p1, p2, p3, p4, p5, p6⟩ := hP'
  unfold fX4_firstTurn fX5_firstTurn
  rcases song_cases j song with ⟨n, m, rfl, rfl, hn1, hn, hm, htd, e1, e2⟩ | ⟨e1, e2⟩
  · rw [e1, e2]
    obtain ⟨f1, b1, b2⟩ := m_begin pg tr
    have hg1 := hg.congr (a_lt _ hs.1).2.1 b2
    obtain ⟨t1, c1⟩ := c_sing hP hm hn htd n 0 fu s none x4 (by omega) (by unfold fu; omega) hs (fun _ h => by cases h)
    obtain ⟨t2, f2, g2, c2⟩ := m_sing hP hm hn htd hk hv n 0 fu s none tu f1 (by omega) (by unfold fu; omega) hs (fun _ h => by cases h) hg1
    have c1 : fX3_sing (nI n) (lN m) (nI L) (nI A) (nI N) (nI K) (nI (encR s.1)) (nI s.2.1) (nI s.2.2) x4 = _ := c1
    have c2 : fX5_sing (nI n) (lN m) (nI L) (nI A) tu nv kd f1 = _ := c2
    simp only [Option.bind_some, one_ne, if_false, if_true, c_state p3 hs, c_become p3 hs, c1, b1, c2]
    exact ⟨_, _, rfl, rfl, rfl⟩
  · rw [e1, e2]
    simp only [Option.bind_some, one_ne, if_false, if_true]
    exact ⟨_, _, rfl, rfl, rfl⟩
