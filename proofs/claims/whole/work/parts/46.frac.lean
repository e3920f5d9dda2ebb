/-! a share as a fraction, by both sides -/
def fcN : Nat → Nat
  | 0 => 1
  | k + 1 => (k + 1) * fcN k
def gN : Nat → Nat → Nat → Option Nat
  | 0, _, _ => none
  | n + 1, a, b => if b = 0 then some a else gN n b (a % b)
def gOk (n a b : Nat) : Bool := match gN n a b with
  | some g => decide (1 ≤ g) && decide (g < 200)
  | none => false
theorem fc_dec : ∀ k, k < 6 → fX4_factorial (nI k) = some (nI (fcN k)) ∧ fX5_orders (nI k) = some (nI (fcN k)) ∧ 1 ≤ fcN k ∧ fcN k ≤ 120 := by decide +kernel
set_option maxRecDepth 100000 in
theorem g_dec : ∀ k, k < 6 → ∀ r, r < fcN k → gOk 12 (fcN k) r = true := by decide +kernel
theorem gOk_ex {n a b : Nat} (h : gOk n a b = true) : ∃ g, gN n a b = some g ∧ 1 ≤ g ∧ g < 200 := by
  unfold gOk at h
  match e : gN n a b, h with
  | some g, h => exact ⟨g, rfl, by simpa using h⟩
theorem c_gcd : ∀ (n a b g j c : Nat), gN n a b = some g → a < 2 ^ 63 → b < 2 ^ 63 → j + n ≤ 100 → n < c → lp (fun _ _ _ => none) fX4_commonDivisor_b9_S c (lN a) (lN b) (nI j) = some (lN g) := by
  intro n
  induction n with
  | zero => intro a b g j c h; cases h
  | succ n ih =>
    intro a b g j c h ha hb hj hc
    obtain ⟨c, rfl⟩ : ∃ m, c = m + 1 := ⟨c - 1, by omega⟩
    rw [lp_s]
    unfold gN at h
    by_cases b0 : b = 0
    · rw [if_pos b0] at h
      cases h
      unfold fX4_commonDivisor_b9_S
      rw [if_pos (show lg_cmp (lN b) 0 = 0 by rw [b0]; decide), ite_self]
    · rw [if_neg b0] at h
      have i1 := ih b (a % b) g (j + 1) c h hb (by have := Nat.mod_lt a (Nat.pos_of_ne_zero b0); omega) (by omega) (by omega)
      revert i1
      generalize lp (fun _ _ _ => none) fX4_commonDivisor_b9_S c = kk
      intro i1
      have bz : ¬ lN b = 0 := fun q => b0 ((pk_lEQ (a := b) (b := 0) hb (by decide)).mp q)
      have bz2 : ¬ lg_cmp (lN b) 0 = 0 := fun q => bz (by rw [lg_cmp_eq] at q; exact q)
      unfold fX4_commonDivisor_b9_S
      rw [if_neg (show ¬ (100 : Int32) ≤ nI j from nI_ge (b := 100) (by omega) (by decide)), if_neg bz2, if_neg bz, pk_lRem ha (Nat.pos_of_ne_zero b0) hb, nI_1, i1]
theorem m_gcd : ∀ (n a b g c : Nat), gN n a b = some g → a < 2 ^ 31 → b < 2 ^ 31 → n < c → lp (fun _ _ => none) fX5_divisor_b13_S c (nI a) (nI b) = some (nI g) := by
  intro n
  induction n with
  | zero => intro a b g c h; cases h
  | succ n ih =>
    intro a b g c h ha hb hc
    obtain ⟨c, rfl⟩ : ∃ m, c = m + 1 := ⟨c - 1, by omega⟩
    rw [lp_s]
    unfold gN at h
    by_cases b0 : b = 0
    · rw [if_pos b0] at h
      cases h
      unfold fX5_divisor_b13_S
      rw [if_pos (show nI b = 0 by rw [b0]; rfl)]
    · rw [if_neg b0] at h
      have i1 := ih b (a % b) g c h hb (by have := Nat.mod_lt a (Nat.pos_of_ne_zero b0); omega) (by omega)
      revert i1
      generalize lp (fun _ _ => none) fX5_divisor_b13_S c = kk
      intro i1
      have bz : ¬ nI b = 0 := fun q => b0 ((nI_eq (a := b) (b := 0) hb (by decide)).mp q)
      unfold fX5_divisor_b13_S
      rw [if_neg bz, if_neg bz, pk_rem ha (Nat.pos_of_ne_zero b0) hb, i1]
theorem nI_ofI (a : Nat) : Int32.ofInt (a : Int) = nI a := by
  apply Int32.toBitVec_inj.mp
  show BitVec.ofInt 32 (a : Int) = BitVec.ofNat 32 a
  exact BitVec.ofInt_natCast 32 a
theorem frac_abs {S : Int} (hS : -10000 ≤ S ∧ S ≤ 10000) : (if (0 : Int64) < (Int32.ofInt S).toInt64 then (Int32.ofInt S).toInt64 else -(Int32.ofInt S).toInt64) = lN S.natAbs ∧ (if (0 : Int32) ≤ Int32.ofInt S then Int32.ofInt S else -(Int32.ofInt S)) = nI S.natAbs := by
  have xi : (Int32.ofInt S).toInt = S := Int32.toInt_ofInt_of_le (by omega) (by omega)
  have yi : (Int32.ofInt S).toInt64.toInt = S := by rw [Int32.toInt_toInt64, xi]
  have na : S.natAbs < 2 ^ 31 := by omega
  refine ⟨?_, ?_⟩
  · apply Int64.toInt_inj.mp
    rw [pk_lT (by omega)]
    by_cases c : (0 : Int64) < (Int32.ofInt S).toInt64
    · rw [if_pos c, yi]
      rw [fa_lt64, yi, show (0 : Int64).toInt = 0 by decide] at c
      omega
    · rw [if_neg c, Int64.toInt_neg, yi]
      rw [fa_lt64, yi, show (0 : Int64).toInt = 0 by decide] at c
      rw [Int.bmod_eq_of_le (by omega) (by omega)]
      omega
  · apply Int32.toInt_inj.mp
    rw [nI_toInt na]
    by_cases c : (0 : Int32) ≤ Int32.ofInt S
    · rw [if_pos c, xi]
      rw [fa_le, xi, show (0 : Int32).toInt = 0 by decide] at c
      omega
    · rw [if_neg c, Int32.toInt_neg, xi]
      rw [fa_le, xi, show (0 : Int32).toInt = 0 by decide] at c
      rw [Int.bmod_eq_of_le (by omega) (by omega)]
      omega
theorem frac {S : Int} (hS : -10000 ≤ S ∧ S ≤ 10000) {k : Nat} (hk : k < 6) (j : Int32) : ∃ z, fX4_fraction (Int32.ofInt S).toInt64 (nI (fcN k)).toInt64 j = some z ∧ fX5_fraction (Int32.ofInt S) (nI (fcN k)) j = some z := by
  obtain ⟨-, -, f1, f2⟩ := fc_dec k hk
  obtain ⟨a1, a2⟩ := frac_abs hS
  have na : S.natAbs ≤ 10000 := by omega
  obtain ⟨g, g1, g2, g3⟩ := gOk_ex (g_dec k hk (S.natAbs % fcN k) (Nat.mod_lt _ (by omega)))
  have g4 : gN 13 S.natAbs (fcN k) = some g := by rw [gN, if_neg (by omega)]; exact g1
  have cg : fX4_commonDivisor (lN S.natAbs) (lN (fcN k)) = some (lN g) := c_gcd 13 _ _ g 0 fu g4 (by omega) (by omega) (by omega) (by unfold fu; omega)
  have mg : fX5_divisor_b13 (nI S.natAbs) (nI (fcN k)) = some (nI g) := m_gcd 13 _ _ g fu g4 (by omega) (by omega) (by unfold fu; omega)
  have md : fX5_divisor (Int32.ofInt S) (nI (fcN k)) = some (nI g) := by
    unfold fX5_divisor fX5_divisor_b10
    by_cases c : (0 : Int32) ≤ Int32.ofInt S
    · rw [if_pos c] at a2 ⊢
      rw [a2, mg]
    · rw [if_neg c] at a2 ⊢
      rw [a2, mg]
  have gz : ¬ lN g = 0 := fun q => by have := (pk_lEQ (a := g) (b := 0) (by omega) (by decide)).mp q; omega
  have gz2 : ¬ lg_cmp (lN g) 0 = 0 := fun q => gz (by rw [lg_cmp_eq] at q; exact q)
  have gz3 : ¬ nI g = 0 := fun q => by have := (nI_eq (a := g) (b := 0) (by omega) (by decide)).mp q; omega
  have gm : nI g ≠ -1 := fun q => by
    have := congrArg Int32.toInt q
    rw [nI_toInt (by omega), show (-1 : Int32).toInt = -1 by decide] at this
    omega
  unfold fX4_fraction fX5_fraction fX4_fraction_b29
  rw [a1, nI_l (by omega), cg, bs, md, bs, if_neg gz2, if_neg gz, if_neg gz3, if_neg gz3]
  by_cases c : j = 0
  · rw [if_pos c, if_pos c, pk_lDiv (by omega) (by omega) (by omega), lN_i, pk_div (by omega) (by omega) (by omega)]
    exact ⟨_, rfl, rfl⟩
  · rw [if_neg c, if_neg c, if_neg gz, ← nI_l (show g < 2 ^ 31 by omega), ← Int32.toInt64_div_of_ne_right _ _ gm, Int32.toInt32_toInt64]
    exact ⟨_, rfl, rfl⟩
