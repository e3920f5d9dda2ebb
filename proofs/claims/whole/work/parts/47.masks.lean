/-! parts of a row as masks, decided one by one -/
set_option maxRecDepth 100000 in
theorem sub_dec : ∀ b, b < 32 → ∀ M, M < 32 → ((nI M &&& (nI b ^^^ (-1))) = 0 ↔ M &&& b = M) := by decide +kernel
set_option maxRecDepth 100000 in
theorem wo_dec : ∀ t, t < 5 → ∀ b, b < 32 → nI b &&& (((1 : Int32) <<< (nI t &&& 31)) ^^^ (-1)) = nI (b &&& (31 ^^^ 2 ^ t)) ∧ b &&& (31 ^^^ 2 ^ t) < 32 ∧ (b &&& (31 ^^^ 2 ^ t) = b ↔ b.testBit t = false) := by decide +kernel
set_option maxRecDepth 100000 in
theorem wo_sub : ∀ t, t < 5 → ∀ b, b < 32 → ∀ M, M < 32 → (M &&& (b &&& (31 ^^^ 2 ^ t)) = M ↔ (M &&& b = M ∧ M.testBit t = false)) := by decide +kernel
set_option maxRecDepth 100000 in
theorem wo_le : ∀ R, R < 32 → ∀ M, M < 32 → M &&& R = M → M ≤ R := by decide +kernel
set_option maxRecDepth 100000 in
theorem wo_cnt1 : ∀ t, t < 5 → ∀ b, b < 32 → ∀ M, M < 32 → (M &&& b = M ∧ M.testBit t = false ∧ b.testBit t = true) → (ascN M).length + 1 ≤ (ascN b).length := by decide +kernel
theorem wo_cnt2 : ∀ t, t < 5 → ∀ M, M < 32 → (M ||| 2 ^ t) < 32 := by decide +kernel
set_option maxRecDepth 100000 in
theorem wo_cnt3 : ∀ t, t < 5 → ∀ b, b < 32 → ∀ M, M < 32 → (M &&& b = M ∧ b.testBit t = true) → (M ||| 2 ^ t) &&& b = (M ||| 2 ^ t) := by decide +kernel
theorem wo_cnt (t : Nat) (ht : t < 5) (b : Nat) (hb : b < 32) (M : Nat) (hM : M < 32) (h1 : M &&& b = M) (h2 : M.testBit t = false) (h3 : b.testBit t = true) : (ascN M).length + 1 ≤ (ascN b).length ∧ (M ||| 2 ^ t) < 32 ∧ (M ||| 2 ^ t) &&& b = (M ||| 2 ^ t) := ⟨wo_cnt1 t ht b hb M hM ⟨h1, h2, h3⟩, wo_cnt2 t ht M hM, wo_cnt3 t ht b hb M hM ⟨h1, h3⟩⟩
theorem bc_dec : ∀ M, M < 32 → fJ6_bitCount_0f7a4 (nI M) = some (nI (ascN M).length) ∧ fX5_many (nI M) = some (nI (ascN M).length) := by decide +kernel
theorem fc2 : ∀ k, k < 6 → ∀ c, c < k → fcN c * fcN (k - 1 - c) ≤ 24 := by decide +kernel
theorem ort_dec : ∀ t, t < 5 → ∀ M, M < 32 → nI M ||| ((1 : Int32) <<< (nI t &&& 31)) = nI (M ||| 2 ^ t) := by decide +kernel
/-! the sum -/
def trm (v : Nat → Nat) (b t k M : Nat) : Int := if M &&& b = M ∧ M.testBit t = false then ((v (M ||| 2 ^ t) : Int) - v M) * fcN (ascN M).length * fcN (k - 1 - (ascN M).length) else 0
def sumI (v : Nat → Nat) (b t k : Nat) : Nat → Nat → Int → Int
  | 0, _, a => a
  | d + 1, i, a => sumI v b t k d (i + 1) (a + trm v b t k i)
theorem sumI_add (v : Nat → Nat) (b t k : Nat) : ∀ d e i a, sumI v b t k (d + e) i a = sumI v b t k e (i + d) (sumI v b t k d i a)
  | 0, e, i, a => by rw [Nat.zero_add]; rfl
  | d + 1, e, i, a => by
    rw [show d + 1 + e = d + e + 1 by omega]
    unfold sumI
    rw [sumI_add v b t k d e (i + 1), show i + 1 + d = i + (d + 1) by omega]
    cases e with
    | zero => rfl
    | succ e => rfl
theorem sumI_z (v : Nat → Nat) (b t k : Nat) : ∀ d i a, (∀ M, i ≤ M → M < i + d → trm v b t k M = 0) → sumI v b t k d i a = a
  | 0, _, _, _ => rfl
  | d + 1, i, a, h => by
    unfold sumI
    rw [h i (Nat.le_refl _) (by omega), Int.add_zero]
    exact sumI_z v b t k d (i + 1) a (fun M h1 h2 => h M (by omega) (by omega))
theorem trm_b {v : Nat → Nat} {b t k M : Nat} (hv : ∀ x, x < 32 → v x ≤ 5) (ht : t < 5) (hb : b < 32) (hM : M < 32) (hk : (ascN b).length = k) (hk6 : k < 6) (hbt : b.testBit t = true) : -120 ≤ trm v b t k M ∧ trm v b t k M ≤ 120 := by
  unfold trm
  by_cases c : M &&& b = M ∧ M.testBit t = false
  · rw [if_pos c, Int.mul_assoc]
    obtain ⟨w1, w2, w3⟩ := wo_cnt t ht b hb M hM c.1 c.2 hbt
    have f := fc2 k hk6 (ascN M).length (by omega)
    have a1 := hv _ w2
    have a2 := hv _ hM
    generalize hF : fcN (ascN M).length * fcN (k - 1 - (ascN M).length) = F at f
    have e : ((fcN (ascN M).length : Int) * (fcN (k - 1 - (ascN M).length) : Int)) = (F : Int) := by rw [← hF]; simp
    rw [e]
    have d1 : -5 ≤ ((v (M ||| 2 ^ t) : Int) - v M) ∧ ((v (M ||| 2 ^ t) : Int) - v M) ≤ 5 := by omega
    generalize ((v (M ||| 2 ^ t) : Int) - v M) = D at d1
    have hD : D = -5 ∨ D = -4 ∨ D = -3 ∨ D = -2 ∨ D = -1 ∨ D = 0 ∨ D = 1 ∨ D = 2 ∨ D = 3 ∨ D = 4 ∨ D = 5 := by omega
    rcases hD with rfl | rfl | rfl | rfl | rfl | rfl | rfl | rfl | rfl | rfl | rfl <;> omega
  · rw [if_neg c]; omega
