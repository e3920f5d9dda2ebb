/-! who is heard, by both sides -/
def hrd (K A pl t b : Nat) : Bool := decide (pl = A) || (decide (qget K b = 2) || (t.testBit b && !(decide (qget K b = 3) && decide (pl % 2 = 1))))
def hearR (K A pl t : Nat) : List Nat → Nat → Nat
  | w :: b :: r, q => hearR K A pl t (b :: r) (qset q w (if qget K w ≠ 1 ∧ hrd K A pl t b = true then 0 else qget q w + 1))
  | _, q => q
theorem tb_dec : ∀ t, t < 32 → ∀ b, b < 5 → (((nI t >>> (nI b &&& 31)) &&& (1 : Int32)) = 1 ↔ t.testBit b = true) := by decide +kernel
theorem one_ne : ¬ (1 : Int32) = 0 := by decide
theorem qg_lt (K b : Nat) : qget K b < 16 := Nat.mod_lt _ (by decide)
theorem par {pl : Nat} (h : pl < 2 ^ 20) : (nI pl - nI pl / (2 : Int32) * (2 : Int32) = 0) ↔ pl % 2 = 0 := by
  have := pk_rem (a := pl) (d := 2) (by omega) (by decide) (by decide)
  rw [show (2 : Int32) = nI 2 from rfl, this, show (0 : Int32) = nI 0 from rfl, nI_eq (by omega) (by decide)]
theorem c_heard {b t A K pl : Nat} (hb : b < 5) (ht : t < 32) (hA : A < 10) (hK : K < 2 ^ 20) (hpl : pl < 2 ^ 20) : fX3_isHeard (nI b) (nI t) (nI A) (nI K) (nI pl) = some (if hrd K A pl t b = true then 1 else 0) := by
  unfold fX3_isHeard fX1_kind fX3_isHeard_b23 fX3_isHeard_b43 fX3_isHeard_b44 fX3_isHeard_b75 fX1_water
  have hk := qg_lt K b
  have e2 : (nI (qget K b) = (2 : Int32)) ↔ qget K b = 2 := nI_eq (b := 2) (by omega) (by decide)
  have e3 : (nI (qget K b) = (3 : Int32)) ↔ qget K b = 3 := nI_eq (b := 3) (by omega) (by decide)
  have eA : (nI pl = nI A) ↔ pl = A := nI_eq (by omega) (by omega)
  simp only [q_at hK hb, Option.bind_some, tb_dec t ht b hb, e2, e3, eA, par hpl]
  unfold hrd
  rcases Nat.mod_two_eq_zero_or_one pl with h3 | h3 <;> by_cases h1 : t.testBit b = true <;> by_cases h2 : qget K b = 3 <;> by_cases h4 : pl = A <;> by_cases h5 : qget K b = 2 <;> simp [h1, h2, h3, h4, h5, one_ne] <;> omega
def KR (W K : Nat) (f : Nat → Int32) : Prop := ∀ w, w < W → f w = nI (qget K w)
theorem m_has (t b : Nat) (ht : t < 32) (hb : b < 5) : fX5_has (nI t) (nI b) = some (if t.testBit b = true then 1 else 0) := by
  unfold fX5_has
  by_cases h : t.testBit b = true
  · rw [if_pos ((tb_dec t ht b hb).mpr h), if_pos h]
  · rw [if_neg (fun q => h ((tb_dec t ht b hb).mp q)), if_neg h]
theorem m_heard {b t A K pl W : Nat} {f kd : Nat → Int32} (hb : b < W) (hW : W ≤ 5) (ht : t < 32) (hA : A < 10) (hpl : pl < 2 ^ 20) (hk : KR W K kd) (h11 : f 11 = nI pl) : fX5_isHeard (nI b) (nI t) (nI A) kd f = some (if hrd K A pl t b = true then 1 else 0) := by
  unfold fX5_isHeard fX5_isHeard_b31 fX5_isHeard_b27 fX5_isHeard_b32 fX5_isHeard_b60
  have hq := qg_lt K b
  have e2 : (nI (qget K b) = (2 : Int32)) ↔ qget K b = 2 := nI_eq (b := 2) (by omega) (by decide)
  have e3 : (nI (qget K b) = (3 : Int32)) ↔ qget K b = 3 := nI_eq (b := 3) (by omega) (by decide)
  have eA : (nI pl = nI A) ↔ pl = A := nI_eq (by omega) (by omega)
  have g5 : (nI b < 0 ∨ 5 ≤ b) ↔ False := ⟨fun h => h.elim (fun h => nI_pos (by omega) h) (fun h => by omega), False.elim⟩
  have g11 : ((11 : Int32) < 0 ∨ 13 ≤ 11) ↔ False := by decide
  have c11 : (11 : Int32).toNatClampNeg = 11 := by decide
  simp only [m_has t b ht (by omega), Option.bind_some, nI_clamp (show b < 2 ^ 31 by omega), hk b hb, e2, e3, eA, par hpl, g5, g11, c11, h11, if_false]
  unfold hrd
  rcases Nat.mod_two_eq_zero_or_one pl with h3 | h3 <;> by_cases h1 : t.testBit b = true <;> by_cases h2 : qget K b = 3 <;> by_cases h4 : pl = A <;> by_cases h5 : qget K b = 2 <;> simp [h1, h2, h3, h4, h5, one_ne] <;> omega
