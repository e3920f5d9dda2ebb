/-! small numbers under the mirrors' operations -/
theorem ig {i n : Nat} (hi : i < 2 ^ 31) : (nI i < 0 ∨ n ≤ (nI i).toNatClampNeg) ↔ n ≤ i := by
  rw [nI_clamp hi]
  constructor
  · rintro (h | h)
    · exact absurd h (nI_pos hi)
    · exact h
  · exact Or.inr
theorem gi {α : Type} {i n : Nat} {k : Option α} (hi : i < n) (hn : n ≤ 1000) : (if nI i < 0 ∨ n ≤ (nI i).toNatClampNeg then none else k) = k :=
  if_neg (by rw [ig (by omega)]; omega)
theorem m_within (j a b : Int32) : fX4_within j a b = some (if a ≤ j ∧ j ≤ b then 1 else 0) := by
  unfold fX4_within
  by_cases h1 : j < a
  · rw [if_pos h1, if_neg (fun h => by rw [fa_lt] at h1; rw [fa_le] at h; omega)]
  · by_cases h2 : b < j
    · rw [if_neg h1, if_pos h2, if_neg (fun h => by rw [fa_lt] at h2; have := h.2; rw [fa_le] at this; omega)]
    · rw [if_neg h1, if_neg h2, if_pos ⟨by rw [fa_lt] at h1; rw [fa_le]; omega, by rw [fa_lt] at h2; rw [fa_le]; omega⟩]
theorem m_inL (v a b : Int64) : fX5_in v a b = some (if a ≤ v ∧ v ≤ b then 1 else 0) := by
  unfold fX5_in
  simp only [lg_cmp_lt, lg_cmp_gt]
  by_cases h1 : v < a
  · rw [if_pos h1, if_neg (fun h => by rw [fa_lt64] at h1; have := h.1; rw [fa_le64] at this; omega)]
  · by_cases h2 : b < v
    · rw [if_neg h1, if_pos h2, if_neg (fun h => by rw [fa_lt64] at h2; have := h.2; rw [fa_le64] at this; omega)]
    · rw [if_neg h1, if_neg h2, if_pos ⟨by rw [fa_lt64] at h1; rw [fa_le64]; omega, by rw [fa_lt64] at h2; rw [fa_le64]; omega⟩]
theorem m_in (j : Int32) {a b : Nat} (ha : a < 2 ^ 31) (hb : b < 2 ^ 31) : fX5_in j.toInt64 (lN a) (lN b) = some (if nI a ≤ j ∧ j ≤ nI b then 1 else 0) := by
  rw [m_inL, ← nI_l ha, ← nI_l hb]
  simp only [fa_wide_le]
theorem nat_and2 {k x y x' y' : Nat} (hy : y < 2 ^ k) (hy' : y' < 2 ^ k) : (2 ^ k * x + y) &&& (2 ^ k * x' + y') = 2 ^ k * (x &&& x') + (y &&& y') := by
  apply Nat.eq_of_testBit_eq
  intro i
  rw [Nat.testBit_and, Nat.testBit_two_pow_mul_add _ hy, Nat.testBit_two_pow_mul_add _ hy', Nat.testBit_two_pow_mul_add _ (Nat.and_lt_two_pow _ hy')]
  split <;> simp [Nat.testBit_and]
theorem nat_or2 {k x y x' y' : Nat} (hy : y < 2 ^ k) (hy' : y' < 2 ^ k) : (2 ^ k * x + y) ||| (2 ^ k * x' + y') = 2 ^ k * (x ||| x') + (y ||| y') := by
  apply Nat.eq_of_testBit_eq
  intro i
  rw [Nat.testBit_or, Nat.testBit_two_pow_mul_add _ hy, Nat.testBit_two_pow_mul_add _ hy', Nat.testBit_two_pow_mul_add _ (Nat.or_lt_two_pow hy hy')]
  split <;> simp [Nat.testBit_or]
def qget (n w : Nat) : Nat := n / 16 ^ w % 16
def qset (n w v : Nat) : Nat := n - qget n w * 16 ^ w + v * 16 ^ w
theorem five {w : Nat} (h : w < 5) : w = 0 ∨ w = 1 ∨ w = 2 ∨ w = 3 ∨ w = 4 := by omega
theorem q_at {n w : Nat} (hn : n < 2 ^ 20) (hw : w < 5) : fX0_at (nI n) (nI w) = some (nI (qget n w)) := by
  unfold fX0_at qget
  rcases five hw with rfl | rfl | rfl | rfl | rfl
  · rw [pk_ushrN (by omega) _ 0 (by decide), pk_andN (by omega) 4 (by decide)]
  · rw [pk_ushrN (by omega) _ 4 (by decide), pk_andN (by omega) 4 (by decide)]
  · rw [pk_ushrN (by omega) _ 8 (by decide), pk_andN (by omega) 4 (by decide)]
  · rw [pk_ushrN (by omega) _ 12 (by decide), pk_andN (by omega) 4 (by decide)]
  · rw [pk_ushrN (by omega) _ 16 (by decide), pk_andN (by omega) 4 (by decide)]
theorem q_gs {n w v u : Nat} (hn : n < 2 ^ 20) (hw : w < 5) (hv : v < 16) (hu : u < 5) : qget (qset n w v) u = if u = w then v else qget n u := by
  unfold qset qget
  rcases five hw with rfl | rfl | rfl | rfl | rfl <;> rcases five hu with rfl | rfl | rfl | rfl | rfl <;> simp <;> omega
theorem q_lt {n w v : Nat} (hn : n < 2 ^ 20) (hw : w < 5) (hv : v < 16) : qset n w v < 2 ^ 20 := by
  unfold qset qget
  rcases five hw with rfl | rfl | rfl | rfl | rfl <;> simp <;> omega
theorem q_bits {k c b a v : Nat} (ha : a < 2 ^ k) (hb : b < 16) (hv : v < 16) (M : Nat) (hM : ∃ e, M = 2 ^ k * (16 * e) + (2 ^ k - 1) ∧ c &&& e = c) : (((2 ^ k * (16 * c + b) + a) &&& M) ||| (v * 2 ^ k)) = 2 ^ k * (16 * c + v) + a := by
  obtain ⟨e, rfl, hc⟩ := hM
  rw [nat_and2 ha (by have := Nat.two_pow_pos k; omega)]
  have h16 : (16 * c + b) &&& (16 * e) = 16 * c := by
    have := nat_and2 (k := 4) (x := c) (y := b) (x' := e) (y' := 0) (by omega) (by omega)
    simpa [hc] using this
  rw [h16, Nat.and_two_pow_sub_one_eq_mod, Nat.mod_eq_of_lt ha]
  have h2 := nat_or2 (k := k) (x := 16 * c) (y := a) (x' := v) (y' := 0) ha (Nat.two_pow_pos k)
  have h3 : (16 * c) ||| v = 16 * c + v := by
    have := nat_or2 (k := 4) (x := c) (y := 0) (x' := 0) (y' := v) (by omega) (by omega)
    simpa using this
  rw [Nat.mul_comm v, show 2 ^ k * v = 2 ^ k * v + 0 from rfl, h2, h3]
  simp
theorem q_w {n v k M : Nat} (hn : n < 2 ^ 20) (hv : v < 16) (hk : k ≤ 16) (hM : M = 2 ^ k * (16 * (2 ^ (28 - k) - 1)) + (2 ^ k - 1)) : (n &&& M) ||| (v * 2 ^ k) = 2 ^ k * (16 * (n / 2 ^ (k + 4)) + v) + n % 2 ^ k := by
  have h1 := Nat.div_add_mod n (2 ^ k)
  have h2 := Nat.div_add_mod (n / 2 ^ k) 16
  have h3 : n / 2 ^ (k + 4) = n / 2 ^ k / 16 := by rw [Nat.pow_add, Nat.div_div_eq_div_mul]
  have e : n = 2 ^ k * (16 * (n / 2 ^ (k + 4)) + n / 2 ^ k % 16) + n % 2 ^ k := by rw [h3, h2]; exact h1.symm
  have hc : n / 2 ^ (k + 4) < 2 ^ (28 - k) := by
    apply Nat.div_lt_of_lt_mul
    rw [← Nat.pow_add, show k + 4 + (28 - k) = 32 by omega]
    omega
  have := q_bits (k := k) (c := n / 2 ^ (k + 4)) (b := n / 2 ^ k % 16) (a := n % 2 ^ k) (v := v) (Nat.mod_lt _ (Nat.two_pow_pos k)) (Nat.mod_lt _ (by decide)) hv M ⟨2 ^ (28 - k) - 1, hM, Nat.and_two_pow_sub_one_of_lt_two_pow hc⟩
  rw [← e] at this
  exact this
theorem q_with {n w v : Nat} (hn : n < 2 ^ 20) (hw : w < 5) (hv : v < 16) : fX0_with (nI n) (nI w) (nI v) = some (nI (qset n w v)) := by
  unfold fX0_with
  rcases five hw with rfl | rfl | rfl | rfl | rfl
  · rw [show (((15 : Int32) <<< (((4 : Int32) * nI 0) &&& 31)) ^^^ (-1 : Int32)) = nI 4294967280 by decide, pk_shlN _ 0 (by decide) (by omega), nx_and, fa_or, q_w (k := 0) hn hv (by omega) (by decide)]
    exact congrArg (fun x => some (nI x)) (by unfold qset qget; omega)
  · rw [show (((15 : Int32) <<< (((4 : Int32) * nI 1) &&& 31)) ^^^ (-1 : Int32)) = nI 4294967055 by decide, pk_shlN _ 4 (by decide) (by omega), nx_and, fa_or, q_w (k := 4) hn hv (by omega) (by decide)]
    exact congrArg (fun x => some (nI x)) (by unfold qset qget; omega)
  · rw [show (((15 : Int32) <<< (((4 : Int32) * nI 2) &&& 31)) ^^^ (-1 : Int32)) = nI 4294963455 by decide, pk_shlN _ 8 (by decide) (by omega), nx_and, fa_or, q_w (k := 8) hn hv (by omega) (by decide)]
    exact congrArg (fun x => some (nI x)) (by unfold qset qget; omega)
  · rw [show (((15 : Int32) <<< (((4 : Int32) * nI 3) &&& 31)) ^^^ (-1 : Int32)) = nI 4294905855 by decide, pk_shlN _ 12 (by decide) (by omega), nx_and, fa_or, q_w (k := 12) hn hv (by omega) (by decide)]
    exact congrArg (fun x => some (nI x)) (by unfold qset qget; omega)
  · rw [show (((15 : Int32) <<< (((4 : Int32) * nI 4) &&& 31)) ^^^ (-1 : Int32)) = nI 4293984255 by decide, pk_shlN _ 16 (by decide) (by omega), nx_and, fa_or, q_w (k := 16) hn hv (by omega) (by decide)]
    exact congrArg (fun x => some (nI x)) (by unfold qset qget; omega)
