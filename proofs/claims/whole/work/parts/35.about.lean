/-! ABOUT, WALKER -/
theorem bits_lt {W : Nat} {r : List Nat} (h : ∀ x, x ∈ r → x < W) : bitsN r < 2 ^ W := by
  apply Nat.lt_pow_two_of_testBit
  intro i hi
  rw [bits_mem, decide_eq_false_iff_not]
  intro q
  have := h i q
  omega
set_option maxRecDepth 100000 in
theorem lost_dec : ∀ W, W < 6 → ∀ b, b < 2 ^ W → nI (2 ^ W - 1) &&& (nI b ^^^ (-1)) = nI ((2 ^ W - 1) ^^^ b) := by decide +kernel
theorem op_about {W L A N K : Nat} {s : Wk} {pg : Nat → Int32} (hP : PH W L A N K) (hs : WK W L s) (hg : PG pg s.1 s.2.1 s.2.2 (LO W s.1)) (j th k t n : Int32) :
    ∃ z w, fX4_about j k t n (nI W) (nI L) (nI A) (nI (encR s.1)) (nI s.2.2) = some z ∧ fX5_about j th n (nI W) (nI L) (nI A) k t pg = some w ∧ z = w.1 := by
  have hpl := hs.2.2.2.2
  have hL := hP.2.2.1
  have g11 : ¬ ((11 : Int32) < 0 ∨ 13 ≤ (11 : Int32).toNatClampNeg) := by decide
  have c11 : (11 : Int32).toNatClampNeg = 11 := by decide
  have g12 : ¬ ((12 : Int32) < 0 ∨ 13 ≤ (12 : Int32).toNatClampNeg) := by decide
  have c12 : (12 : Int32).toNatClampNeg = 12 := by decide
  unfold fX4_about fX5_about
  by_cases e0 : j = 0
  · rw [if_pos e0, if_pos e0]; exact ⟨_, _, rfl, rfl, rfl⟩
  rw [if_neg e0, if_neg e0]
  by_cases e1 : j = 1
  · rw [if_pos e1, if_pos e1]; exact ⟨_, _, rfl, rfl, rfl⟩
  rw [if_neg e1, if_neg e1]
  by_cases e2 : j = 2
  · rw [if_pos e2, if_pos e2]; exact ⟨_, _, rfl, rfl, rfl⟩
  rw [if_neg e2, if_neg e2]
  by_cases e3 : j = 3
  · rw [if_pos e3, if_pos e3, if_neg g11, c11, hg.2.2.2.1]; exact ⟨_, _, rfl, rfl, rfl⟩
  rw [if_neg e3, if_neg e3]
  by_cases e4 : j = 4
  · rw [if_pos e4, if_pos e4, m_row hs.1 hg, bs]
    unfold fX3_members
    rw [a_mem _ hs.1, bs, bs]; exact ⟨_, _, rfl, rfl, rfl⟩
  rw [if_neg e4, if_neg e4]
  by_cases e5 : j = 5
  · rw [if_pos e5, if_pos e5, if_neg g12, c12, hg.2.2.2.2]
    unfold fX3_members fX1_everybody
    rw [a_mem _ hs.1, bs, bs, bs, every W (by have := hP.1; omega), lost_dec W (by have := hP.1; omega) _ (bits_lt hs.2.1)]
    exact ⟨_, _, rfl, rfl, rfl⟩
  rw [if_neg e5, if_neg e5]
  by_cases e6 : j = 6
  · rw [if_pos e6, if_pos e6, m_fig hs.1 hg, bs]
    unfold fX3_row
    rw [bs, a_fig _ hs.1, bs]; exact ⟨_, _, rfl, rfl, rfl⟩
  rw [if_neg e6, if_neg e6]
  by_cases e7 : j = 7
  · rw [if_pos e7, if_pos e7]; exact ⟨_, _, rfl, rfl, rfl⟩
  rw [if_neg e7, if_neg e7]
  by_cases e8 : j = 8
  · rw [if_pos e8, if_pos e8]; exact ⟨_, _, rfl, rfl, rfl⟩
  rw [if_neg e8, if_neg e8]
  by_cases e9 : j = 9
  · rw [if_pos e9, if_pos e9]; exact ⟨_, _, rfl, rfl, rfl⟩
  rw [if_neg e9, if_neg e9]
  by_cases e10 : j = 10
  · rw [if_pos e10, if_pos e10, if_neg g11, c11, hg.2.2.2.1, c_out (by omega) (by omega), bs]
    by_cases hl : s.2.2 < L
    · rw [if_pos hl, if_pos rfl, if_neg (show ¬ nI s.2.2 = nI L from fun q => by have := (nI_eq (by omega) (by omega)).mp q; omega)]
      exact ⟨_, _, rfl, rfl, rfl⟩
    · rw [if_neg hl, if_neg one_ne, if_pos (show nI s.2.2 = nI L from congrArg nI (by omega))]
      exact ⟨_, _, rfl, rfl, rfl⟩
  rw [if_neg e10, if_neg e10]
  exact ⟨_, _, rfl, rfl, rfl⟩
def pos (t : Nat) : List Nat → Nat → Int32
  | [], _ => -9
  | w :: r, i => if w = t then nI i else pos t r (i + 1)
def posM (t : Nat) : List Nat → Nat → Int32 → Int32
  | [], _, y => y
  | w :: r, i, y => posM t r (i + 1) (if w = t then nI i else y)
theorem pos_c (t : Nat) : ∀ (r : List Nat) (i : Nat), pos t r i = -9 ∨ ∃ k, k < r.length ∧ pos t r i = nI (i + k)
  | [], i => Or.inl rfl
  | w :: r, i => by
    unfold pos
    by_cases c : w = t
    · rw [if_pos c]; exact Or.inr ⟨0, by simp, rfl⟩
    · rw [if_neg c]
      rcases pos_c t r (i + 1) with h | ⟨k, h1, h2⟩
      · exact Or.inl h
      · exact Or.inr ⟨k + 1, by simp; omega, by rw [h2]; exact congrArg nI (by omega)⟩
theorem posM_n (t : Nat) : ∀ (r : List Nat) (i : Nat) (y : Int32), t ∉ r → posM t r i y = y
  | [], i, y, h => rfl
  | w :: r, i, y, h => by
    unfold posM
    rw [if_neg (fun q => h (by rw [q]; simp)), posM_n t r (i + 1) y (fun q => h (List.mem_cons_of_mem _ q))]
theorem posM_e (t : Nat) : ∀ (r : List Nat) (i : Nat), r.Nodup → posM t r i (-9) = pos t r i
  | [], i, h => rfl
  | w :: r, i, h => by
    unfold posM pos
    have h2 := List.nodup_cons.mp h
    by_cases c : w = t
    · rw [if_pos c, if_pos c, posM_n t r (i + 1) _ (by rw [← c]; exact h2.1)]
    · rw [if_neg c, if_neg c, posM_e t r (i + 1) h2.2]
theorem c_index {r : List Nat} (hr : r ∈ rg 5) {t : Nat} (ht : t < 2 ^ 31) : ∀ (rest pre : List Nat) (c : Nat), r = pre ++ rest → rest.length < c → lp (fun _ _ => none) (fX3_indexOf_b2_S (nI (encR r))) c (nI t) (nI pre.length) = some (pos t rest pre.length) := by
  have h5 := (a_lt _ hr).2.1
  intro rest
  induction rest with
  | nil =>
    intro pre c e hc
    obtain ⟨c, rfl⟩ : ∃ m, c = m + 1 := ⟨c - 1, by simp at hc; omega⟩
    rw [lp_s]
    unfold fX3_indexOf_b2_S
    rw [c_size hr, bs, e, List.append_nil, if_pos (nI_le (Nat.le_refl _) (by rw [e, List.append_nil] at h5; omega))]
    rfl
  | cons w rest ih =>
    intro pre c e hc
    obtain ⟨c, rfl⟩ : ∃ m, c = m + 1 := ⟨c - 1, by simp at hc; omega⟩
    rw [lp_s]
    have hlen : r.length = pre.length + (rest.length + 1) := by rw [e]; simp
    have i1 := ih (pre ++ [w]) c (by rw [e]; simp) (by simp at hc; omega)
    rw [show (pre ++ [w]).length = pre.length + 1 by simp] at i1
    revert i1
    generalize lp (fun _ _ => none) (fX3_indexOf_b2_S (nI (encR r))) c = kk
    intro i1
    unfold fX3_indexOf_b2_S
    have gw : r.getD pre.length 0 = w := by rw [e, gd_mid]
    have w5 : w < 5 := mem5 hr w (by rw [e]; simp)
    rw [c_size hr, bs, if_neg (nI_ge (by omega) (by omega)), c_wAt hr (by omega), bs, gw, pos]
    by_cases c1 : w = t
    · rw [if_pos (congrArg nI c1), if_pos c1]
    · rw [if_neg (fun q => c1 ((nI_eq (by omega) ht).mp q)), if_neg c1, nI_1, i1]
theorem m_index {r : List Nat} {f : Nat → Int32} {q pl lost : Nat} (hr : r ∈ rg 5) (hf : PG f r q pl lost) {t : Nat} (ht : t < 2 ^ 31) : ∀ (rest pre : List Nat) (c : Nat) (y : Int32), r = pre ++ rest → rest.length < c → lp (fun _ _ _ => none) (fX5_placeOf_b5_S f) c (nI t) y (nI pre.length) = some (posM t rest pre.length y) := by
  have h5 := (a_lt _ hr).2.1
  have g5 : ¬ ((5 : Int32) < 0 ∨ 13 ≤ (5 : Int32).toNatClampNeg) := by decide
  have c5 : (5 : Int32).toNatClampNeg = 5 := by decide
  intro rest
  induction rest with
  | nil =>
    intro pre c y e hc
    obtain ⟨c, rfl⟩ : ∃ m, c = m + 1 := ⟨c - 1, by simp at hc; omega⟩
    rw [lp_s]
    unfold fX5_placeOf_b5_S
    rw [if_neg g5, c5, hf.2.1, e, List.append_nil, if_pos (nI_le (Nat.le_refl _) (by rw [e, List.append_nil] at h5; omega))]
    rfl
  | cons w rest ih =>
    intro pre c y e hc
    obtain ⟨c, rfl⟩ : ∃ m, c = m + 1 := ⟨c - 1, by simp at hc; omega⟩
    rw [lp_s]
    have hlen : r.length = pre.length + (rest.length + 1) := by rw [e]; simp
    have i1 := fun y => ih (pre ++ [w]) c y (by rw [e]; simp) (by simp at hc; omega)
    rw [show (pre ++ [w]).length = pre.length + 1 by simp] at i1
    revert i1
    generalize lp (fun _ _ _ => none) (fX5_placeOf_b5_S f) c = kk
    intro i1
    unfold fX5_placeOf_b5_S fX5_placeOf_b24
    have gw : r.getD pre.length 0 = w := by rw [e, gd_mid]
    have w5 : w < 5 := mem5 hr w (by rw [e]; simp)
    rw [if_neg g5, c5, hf.2.1, if_neg (nI_ge (by omega) (by omega)), if_neg (fun q => by rw [ig (by omega)] at q; omega), nI_clamp (by omega), hf.1 _ (by omega), gw, posM]
    by_cases c1 : w = t
    · rw [if_pos (congrArg nI c1), if_pos c1, nI_1, i1]
    · rw [if_neg (fun q => c1 ((nI_eq (by omega) ht).mp q)), if_neg c1, nI_1, i1]
theorem lt_of' (j : Int32) {W : Nat} (hW : W ≤ 5) : ((0 : Int32) ≤ j ∧ j ≤ nI W - 1) ↔ ∃ t, t < W ∧ j = nI t := by
  by_cases h : W = 0
  · subst h
    constructor
    · rintro ⟨h1, h2⟩
      exfalso
      rw [fa_le] at h1 h2
      have e : (nI 0 - 1).toInt = -1 := by decide
      have e0 : (0 : Int32).toInt = 0 := by decide
      omega
    · rintro ⟨t, h1, -⟩; omega
  · have s1 : nI W - (1 : Int32) = nI (W - 1) := pk_sub (a := W) (b := 1) (by omega)
    rw [s1, le_of j (by omega)]
    constructor
    · rintro ⟨t, h1, h2⟩; exact ⟨t, by omega, h2⟩
    · rintro ⟨t, h1, h2⟩; exact ⟨t, by omega, h2⟩
theorem c_has {W : Nat} (hW : W ≤ 5) (j : Int32) [Decidable (∃ t, t < W ∧ j = nI t)] : fX1_has j (nI W) = some (if ∃ t, t < W ∧ j = nI t then 1 else 0) := by
  unfold fX1_has
  rw [m_within, bs]
  by_cases c : ∃ t, t < W ∧ j = nI t
  · rw [if_pos ((lt_of' j hW).mpr c), if_pos c, if_pos (Or.inr rfl)]
  · rw [if_neg (fun q => c ((lt_of' j hW).mp q)), if_neg c, if_pos (Or.inl rfl)]
theorem m_noOne {W : Nat} (hW : W ≤ 5) (j : Int32) [Decidable (∃ t, t < W ∧ j = nI t)] : fX5_noOne j (nI W) = some (if ∃ t, t < W ∧ j = nI t then 0 else 1) := by
  unfold fX5_noOne
  rw [m_inL, bs]
  by_cases c : ∃ t, t < W ∧ j = nI t
  · have q := (lt_of' j hW).mpr c
    rw [if_pos (show (0 : Int64) ≤ j.toInt64 ∧ j.toInt64 ≤ (nI W - 1).toInt64 from ⟨(fa_wide_le 0 j).mpr q.1, (fa_wide_le _ _).mpr q.2⟩), if_pos c, if_neg one_ne]
  · rw [if_neg (show ¬ ((0 : Int64) ≤ j.toInt64 ∧ j.toInt64 ≤ (nI W - 1).toInt64) from fun q => c ((lt_of' j hW).mp ⟨(fa_wide_le 0 j).mp q.1, (fa_wide_le _ _).mp q.2⟩)), if_neg c, if_pos rfl]
theorem op_walker {W L A N K : Nat} {s : Wk} {pg nv kd : Nat → Int32} (hP : PH W L A N K) (hs : WK W L s) (hk : KR W K kd) (hv : KR W N nv) (hg : PG pg s.1 s.2.1 s.2.2 (LO W s.1)) (j i th : Int32) :
    ∃ z w, fX4_walker j i (nI W) (nI N) (nI K) (nI (encR s.1)) (nI s.2.1) = some z ∧ fX5_walker j i th (nI W) nv kd pg = some w ∧ z = w.1 := by
  obtain ⟨p1, p2, p3, p4, p5, p6⟩ := hP
  have h5 := (a_lt _ hs.1).2.1
  have g5 : ¬ ((5 : Int32) < 0 ∨ 13 ≤ (5 : Int32).toNatClampNeg) := by decide
  have c5 : (5 : Int32).toNatClampNeg = 5 := by decide
  classical
  unfold fX4_walker fX5_walker
  rw [c_has p1, bs, m_noOne p1, bs]
  by_cases c : ∃ t, t < W ∧ j = nI t
  · rw [if_pos c, if_pos c, if_neg one_ne, if_pos rfl]
    obtain ⟨t, ht, rfl⟩ := c
    have ix : fX3_indexOf (nI t) (nI (encR s.1)) = some (pos t s.1 0) := c_index hs.1 (by omega) s.1 [] fu rfl (by unfold fu; omega)
    have im : fX5_placeOf (nI t) pg = some (pos t s.1 0) := (m_index hs.1 hg (by omega) s.1 [] fu (-9) rfl (by unfold fu; omega)).trans (congrArg some (posM_e t s.1 0 (a_nd _ hs.1)))
    rw [im, bs]
    by_cases e0 : i = 0
    · unfold fX1_nerve
      rw [if_pos e0, if_pos e0, q_at p5 (by omega), bs, bs, if_neg (fun q => by rw [ig (by omega)] at q; omega), nI_clamp (by omega), hv t ht]
      exact ⟨_, _, rfl, rfl, rfl⟩
    rw [if_neg e0, if_neg e0]
    by_cases e1 : i = 1
    · unfold fX1_kind
      rw [if_pos e1, if_pos e1, q_at p6 (by omega), bs, bs, if_neg (fun q => by rw [ig (by omega)] at q; omega), nI_clamp (by omega), hk t ht]
      exact ⟨_, _, rfl, rfl, rfl⟩
    rw [if_neg e1, if_neg e1]
    by_cases e2 : i = 2
    · have a6 : (6 : Int32) + nI t = nI (6 + t) := nI_add 6 t
      rw [if_pos e2, if_pos e2, c_quiet hs.2.2.1 (by omega), bs, a6, if_neg (fun q => by rw [ig (by omega)] at q; omega), nI_clamp (by omega), hg.2.2.1 t (by omega)]
      exact ⟨_, _, rfl, rfl, rfl⟩
    rw [if_neg e2, if_neg e2]
    by_cases e3 : i = 3
    · rw [if_pos e3, if_pos e3, ix, bs]
      exact ⟨_, _, rfl, rfl, rfl⟩
    rw [if_neg e3, if_neg e3]
    by_cases e4 : i = 4
    · rw [if_pos e4, if_pos e4]
      unfold fX3_behind fX3_behind_b22 fX5_walker_b104
      rw [ix, bs]
      rcases pos_c t s.1 0 with hp | ⟨k, hk1, hp⟩
      · rw [hp, if_pos rfl, if_pos rfl, bs]
        exact ⟨_, _, rfl, rfl, rfl⟩
      · rw [hp, Nat.zero_add, if_neg (ne9 (by omega)), if_neg (ne9 (by omega)), c_size hs.1, bs, if_neg g5, c5, hg.2.1, nI_1]
        by_cases hk2 : k + 1 < s.1.length
        · rw [if_pos (nI_lt hk2 (by omega)), if_neg (fun q => by have := (nI_eq (by omega) (by omega)).mp q; omega), c_wAt hs.1 hk2, bs, bs, if_neg (fun q => by rw [ig (by omega)] at q; omega), nI_clamp (by omega), hg.1 _ hk2]
          exact ⟨_, _, rfl, rfl, rfl⟩
        · rw [if_neg (fun q => hk2 ((nI_ltI (by omega) (by omega)).mp q)), if_pos (congrArg nI (by omega)), bs]
          exact ⟨_, _, rfl, rfl, rfl⟩
    rw [if_neg e4, if_neg e4]
    exact ⟨_, _, rfl, rfl, rfl⟩
  · rw [if_neg c, if_neg c, if_pos rfl, if_neg one_ne]
    exact ⟨_, _, rfl, rfl, rfl⟩
