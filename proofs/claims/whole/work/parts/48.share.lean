/-! SHARE, by both sides -/
theorem mv32 : Int32.minValue.toInt = -2147483648 ∧ Int32.maxValue.toInt = 2147483647 := by decide
theorem add64 {a x : Int} (ha : -100000 ≤ a ∧ a ≤ 100000) (hx : -100000 ≤ x ∧ x ≤ 100000) : (Int32.ofInt a).toInt64 + (Int32.ofInt x).toInt64 = (Int32.ofInt (a + x)).toInt64 := by
  rw [Int32.toInt64_ofInt (by rw [mv32.1]; omega) (by rw [mv32.2]; omega), Int32.toInt64_ofInt (by rw [mv32.1]; omega) (by rw [mv32.2]; omega), Int32.toInt64_ofInt (by rw [mv32.1]; omega) (by rw [mv32.2]; omega), Int64.ofInt_add]
theorem mulI (a b c d : Nat) : (nI a - nI b) * nI c * nI d = Int32.ofInt (((a : Int) - b) * c * d) := by
  rw [Int32.ofInt_mul, Int32.ofInt_mul, Int32.ofInt_sub, nI_ofI, nI_ofI, nI_ofI, nI_ofI]
theorem mulI2 (a b c d : Nat) : (nI c * nI d) * (nI a - nI b) = Int32.ofInt (((a : Int) - b) * c * d) := by
  rw [Int32.ofInt_mul, Int32.ofInt_mul, Int32.ofInt_sub, nI_ofI, nI_ofI, nI_ofI, nI_ofI, Int32.mul_comm, Int32.mul_assoc]
theorem c_share_l {W L A N K m n t : Nat} {s : Wk} (hP : PH W L A N K) (hm : m < 2 ^ 63) (hn : n ≤ 5) (htd : ∀ k, k < n → td n m k < 32) (hs : WK W L s) (ht : t < 5) (hbt : (bitsN s.1).testBit t = true) (j5 z1 z2 : Int32) : ∀ (d M c : Nat) (acc : Int) (x1 x2 x3 x4 : Int32), M + d = (bitsN s.1 &&& (31 ^^^ 2 ^ t)) + 1 → d < c → (-(120 * M : Int) ≤ acc ∧ acc ≤ 120 * M) →
    ∃ y1 y2 y3 y4, lp (fun _ _ _ _ _ _ _ _ _ _ _ _ _ => none) (fX4_share_b83_S z1 (nI L) (nI A) (nI N) (nI K) z2 (nI s.2.2)) c (nI t) (nI n) (lN m) j5 (nI (encR s.1)) (nI (bitsN s.1 &&& (31 ^^^ 2 ^ t))) (nI s.1.length) (Int32.ofInt acc).toInt64 (nI M) x1 x2 x3 x4 = (fX4_fraction (Int32.ofInt (sumI (fun M => valN L A N K (td n m) n s.2.2 (onl s.1 M)) (bitsN s.1) t s.1.length d M acc)).toInt64 (nI (fcN s.1.length)).toInt64 j5).bind (fun z => some (z, y1, y2, y3, y4)) := by
  have h5 := a_lt _ hs.1
  have hb := h5.2.2.2
  have hl := a_ascl _ hs.1
  obtain ⟨-, hR, -⟩ := wo_dec t ht _ hb
  have vb : ∀ x, x < 32 → valN L A N K (td n m) n s.2.2 (onl s.1 x) ≤ 5 := fun x hx => val5 hP (td n m) (onl_wk hs hx)
  intro d
  induction d with
  | zero =>
    intro M c acc x1 x2 x3 x4 e hc hA
    obtain ⟨c, rfl⟩ : ∃ m, c = m + 1 := ⟨c - 1, by omega⟩
    rw [lp_s]
    unfold fX4_share_b83_S
    rw [if_pos (nI_lt (by omega) (by omega)), (fc_dec _ (by omega)).1, bs]
    exact ⟨_, _, _, _, rfl⟩
  | succ d ih =>
    intro M c acc x1 x2 x3 x4 e hc hA
    obtain ⟨c, rfl⟩ : ∃ m, c = m + 1 := ⟨c - 1, by omega⟩
    rw [lp_s]
    have hM : M < 32 := by omega
    have tb := trm_b (v := fun M => valN L A N K (td n m) n s.2.2 (onl s.1 M)) (M := M) vb ht hb hM hl (by omega) hbt
    have i1 := fun y1 y2 y3 y4 => ih (M + 1) c (acc + trm (fun M => valN L A N K (td n m) n s.2.2 (onl s.1 M)) (bitsN s.1) t s.1.length M) y1 y2 y3 y4 (by omega) (by omega) (by omega)
    revert i1
    generalize lp (fun _ _ _ _ _ _ _ _ _ _ _ _ _ => none) (fX4_share_b83_S z1 (nI L) (nI A) (nI N) (nI K) z2 (nI s.2.2)) c = kk
    intro i1
    have sd := (sub_dec _ hR M hM).trans (wo_sub t ht _ hb M hM)
    unfold fX4_share_b83_S fX4_share_b165
    rw [if_neg (nI_nlt (show M ≤ bitsN s.1 &&& (31 ^^^ 2 ^ t) by omega) (by omega)), sumI]
    by_cases c1 : M &&& bitsN s.1 = M ∧ M.testBit t = false
    · obtain ⟨w1, w2, w3⟩ := wo_cnt t ht _ hb M hM c1.1 c1.2 hbt
      obtain ⟨y1, y2, y3, y4, l1⟩ := c_leftOf hP hm hn htd (onl_wk hs w2) x1 x2 x3 x4
      obtain ⟨u1, u2, u3, u4, l2⟩ := c_leftOf hP hm hn htd (onl_wk hs hM) y1 y2 y3 y4
      have s1 : nI s.1.length - (1 : Int32) - nI (ascN M).length = nI (s.1.length - 1 - (ascN M).length) := by
        rw [show nI s.1.length - (1 : Int32) = nI (s.1.length - 1) from pk_sub (a := s.1.length) (b := 1) (by omega), pk_sub (by omega)]
      have te : trm (fun M => valN L A N K (td n m) n s.2.2 (onl s.1 M)) (bitsN s.1) t s.1.length M = ((valN L A N K (td n m) n s.2.2 (onl s.1 (M ||| 2 ^ t)) : Int) - valN L A N K (td n m) n s.2.2 (onl s.1 M)) * fcN (ascN M).length * fcN (s.1.length - 1 - (ascN M).length) := if_pos c1
      rw [if_pos (sd.mpr c1), (bc_dec M hM).1, bs, ort_dec t ht M hM, (a_only hs.1 w2).1, bs, l1, bs, (a_only hs.1 hM).1, bs, l2, bs, (fc_dec _ (by omega)).1, bs, s1, (fc_dec _ (by omega)).1, bs, mulI, ← te, add64 (by omega) (by omega), nI_1]
      exact i1 _ _ _ _
    · have te : trm (fun M => valN L A N K (td n m) n s.2.2 (onl s.1 M)) (bitsN s.1) t s.1.length M = 0 := if_neg c1
      rw [te, Int.add_zero] at i1
      rw [if_neg (fun q => c1 (sd.mp q)), nI_1, te, Int.add_zero]
      exact i1 _ _ _ _
theorem m_share_l {t b k : Nat} (v : Nat → Nat) (ht : t < 5) (hb : b < 32) (hl : (ascN b).length = k) (hk : k < 6) (hbt : b.testBit t = true) (x1 x2 x3 j5 th tu : Int32) (nv kd pg tr wo : Nat → Int32) (hw : ∀ M, M < 32 → M &&& b = M → wo M = nI (v M)) : ∀ (d M c : Nat) (acc : Int), M + d = 32 → d < c →
    lp (fun _ _ _ _ _ _ _ _ _ _ => none) (fX5_share_b94_S x1 x2 x3 nv kd pg) c (nI t) j5 (nI b) (nI k) (Int32.ofInt acc) (nI M) th tu tr wo = (fX5_fraction (Int32.ofInt (sumI v b t k d M acc)) (nI (fcN k)) j5).bind (fun z => some (z, th, tu, tr, wo)) := by
  intro d
  induction d with
  | zero =>
    intro M c acc e hc
    obtain ⟨c, rfl⟩ : ∃ m, c = m + 1 := ⟨c - 1, by omega⟩
    rw [lp_s]
    unfold fX5_share_b94_S fX5_share_b183
    rw [if_pos (show (32 : Int32) ≤ nI M from nI_le (a := 32) (by omega) (by omega)), (fc_dec _ hk).2.1, bs]
    rfl
  | succ d ih =>
    intro M c acc e hc
    obtain ⟨c, rfl⟩ : ∃ m, c = m + 1 := ⟨c - 1, by omega⟩
    rw [lp_s]
    have hM : M < 32 := by omega
    have i1 := ih (M + 1) c (acc + trm v b t k M) (by omega) (by omega)
    revert i1
    generalize lp (fun _ _ _ _ _ _ _ _ _ _ => none) (fX5_share_b94_S x1 x2 x3 nv kd pg) c = kk
    intro i1
    have sd := sub_dec _ hb M hM
    unfold fX5_share_b94_S fX5_share_b177
    rw [if_neg (show ¬ (32 : Int32) ≤ nI M from nI_ge (b := 32) (by omega) (by decide)), m_has _ _ hb ht, if_pos hbt, bs, if_neg one_ne, sumI]
    by_cases c1 : M &&& b = M
    · rw [if_pos (sd.mpr c1), m_has _ _ hM ht, bs]
      by_cases c2 : M.testBit t = true
      · have te : trm v b t k M = 0 := if_neg (fun q => by rw [c2] at q; exact absurd q.2 (by decide))
        rw [te, Int.add_zero] at i1
        rw [if_pos c2, if_neg one_ne, nI_1, te, Int.add_zero]
        exact i1
      · have c2' : M.testBit t = false := by simpa using c2
        obtain ⟨w1, w2, w3⟩ := wo_cnt t ht _ hb M hM c1 c2' hbt
        have s1 : nI k - (1 : Int32) - nI (ascN M).length = nI (k - 1 - (ascN M).length) := by
          rw [show nI k - (1 : Int32) = nI (k - 1) from pk_sub (a := k) (b := 1) (by omega), pk_sub (by omega)]
        have te : trm v b t k M = ((v (M ||| 2 ^ t) : Int) - v M) * fcN (ascN M).length * fcN (k - 1 - (ascN M).length) := if_pos ⟨c1, c2'⟩
        have g1 : ¬ (nI (M ||| 2 ^ t) < 0 ∨ 32 ≤ (nI (M ||| 2 ^ t)).toNatClampNeg) := fun q => by rw [ig (by omega)] at q; omega
        have g2 : ¬ (nI M < 0 ∨ 32 ≤ (nI M).toNatClampNeg) := fun q => by rw [ig (by omega)] at q; omega
        rw [if_neg c2, if_pos rfl, (bc_dec M hM).2, bs, (fc_dec _ (by omega)).2.1, bs, s1, (fc_dec _ (by omega)).2.1, bs, ort_dec t ht M hM, if_neg g1, if_neg g2, nI_clamp (by omega), nI_clamp (by omega), hw _ w2 w3, hw _ hM c1, mulI2, ← te, ← Int32.ofInt_add, nI_1]
        exact i1
    · have te : trm v b t k M = 0 := if_neg (fun q => c1 q.1)
      rw [te, Int.add_zero] at i1
      rw [if_neg (fun q => c1 (sd.mp q)), nI_1, te, Int.add_zero]
      exact i1
