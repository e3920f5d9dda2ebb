/-! figures of a row, digit by digit -/
def dgb (d : Nat) : Nat := if d = 0 ∨ 5 < d then 32 else 2 ^ (d - 1)
def mkD : Nat → Nat → Nat
  | 0, _ => 0
  | j + 1, q => dgb (q % 10) ||| mkD j (q / 10)
def rv : Nat → Nat → List Nat
  | 0, _ => []
  | j + 1, q => rv j (q / 10) ++ [q % 10 - 1]
set_option maxRecDepth 100000 in
theorem pb_mk : ∀ b, b < 32 → ∀ r ∈ PB b, mkD (ascN b).length (figN r) = b := by decide +kernel
theorem dgb_c (d : Nat) : dgb d < 64 ∧ (dgb d < 32 → 1 ≤ d ∧ d ≤ 5 ∧ dgb d = 2 ^ (d - 1)) := by
  unfold dgb
  by_cases c : d = 0 ∨ 5 < d
  · rw [if_pos c]; omega
  · rw [if_neg c]
    have : 2 ^ (d - 1) < 2 ^ 5 := Nat.pow_lt_pow_right (by decide) (by omega)
    exact ⟨by omega, fun _ => ⟨by omega, by omega, rfl⟩⟩
theorem or_lt2 {a b n : Nat} (h : a ||| b < n) : a < n ∧ b < n := ⟨Nat.lt_of_le_of_lt Nat.left_le_or h, Nat.lt_of_le_of_lt Nat.right_le_or h⟩
theorem mkD_lt : ∀ j q, mkD j q < 64
  | 0, _ => show 0 < 64 by decide
  | j + 1, q => by unfold mkD; exact Nat.or_lt_two_pow (n := 6) (dgb_c _).1 (mkD_lt j (q / 10))
theorem mkD_s {j q : Nat} (h : mkD (j + 1) q < 32) : 1 ≤ q % 10 ∧ q % 10 ≤ 5 ∧ dgb (q % 10) = 2 ^ (q % 10 - 1) ∧ mkD j (q / 10) < 32 := by
  unfold mkD at h
  obtain ⟨a, b⟩ := or_lt2 h
  obtain ⟨c, d, e⟩ := (dgb_c _).2 a
  exact ⟨c, d, e, b⟩
theorem bits_app (l : List Nat) (w : Nat) : bitsN (l ++ [w]) = 2 ^ w ||| bitsN l := by
  apply Nat.eq_of_testBit_eq
  intro u
  rw [Nat.testBit_or, bits_mem, bits_mem, Nat.testBit_two_pow]
  by_cases a : w = u <;> by_cases b : u ∈ l <;> simp [a, b, eq_comm]
theorem fig_app (l : List Nat) (w : Nat) : figN (l ++ [w]) = figN l * 10 + (w + 1) := by unfold figN; rw [List.foldl_append]; rfl
theorem rv_ok : ∀ j q, mkD j q < 32 → q < 10 ^ j → (rv j q).length = j ∧ (∀ x ∈ rv j q, x < 5) ∧ figN (rv j q) = q ∧ bitsN (rv j q) = mkD j q
  | 0, q, _, hq => ⟨rfl, fun x h => by simp [rv] at h, show 0 = q from by rw [Nat.pow_zero] at hq; omega, rfl⟩
  | j + 1, q, h, hq => by
    obtain ⟨a, b, c, d⟩ := mkD_s h
    obtain ⟨i1, i2, i3, i4⟩ := rv_ok j (q / 10) d (by rw [Nat.pow_succ] at hq; omega)
    unfold rv
    refine ⟨by simp [i1], fun x hx => ?_, ?_, ?_⟩
    · rcases List.mem_append.mp hx with h | h
      · exact i2 x h
      · rw [List.mem_singleton.mp h]; omega
    · rw [fig_app, i3]; omega
    · rw [bits_app, i4, mkD, c]
theorem mem_all : ∀ r : List Nat, (∀ x ∈ r, x < 5) → r ∈ allL r.length
  | [], _ => by simp [allL]
  | w :: r, h => by
    have ih := mem_all r (fun x hx => h x (List.mem_cons_of_mem _ hx))
    have w5 := h w (by simp)
    unfold allL
    rw [List.length_cons]
    refine List.mem_flatMap.mpr ⟨w, ?_, List.mem_map.mpr ⟨r, ih, rfl⟩⟩
    have : w = 0 ∨ w = 1 ∨ w = 2 ∨ w = 3 ∨ w = 4 := by omega
    rcases this with rfl | rfl | rfl | rfl | rfl <;> simp
theorem rv_pb {k v b : Nat} (hk : k < 6) (hv : v < 10 ^ k) (hb : b < 32) (hl : (ascN b).length = k) (h : mkD k v = b) : rv k v ∈ PB b ∧ figN (rv k v) = v := by
  obtain ⟨r1, r2, r3, r4⟩ := rv_ok k v (by omega) hv
  rw [h] at r4
  have m := mem_all _ r2
  rw [r1] at m
  have := pb_all k hk _ m (by rw [r4]; exact hl)
  rw [r4] at this
  exact ⟨this, r3⟩
def foldB (val : List Nat → Nat) : List (List Nat) → List Nat × Nat → List Nat × Nat
  | [], a => a
  | r :: rs, a => foldB val rs (if val r ≤ a.2 then a else (r, val r))
def foldO (val : List Nat → Nat) : List (List Nat) → Option (List Nat × Nat) → Option (List Nat × Nat)
  | [], a => a
  | r :: rs, none => foldO val rs (some (r, val r))
  | r :: rs, some a => foldO val rs (some (if val r ≤ a.2 then a else (r, val r)))
theorem foldO_s (val : List Nat → Nat) : ∀ rs a, foldO val rs (some a) = some (foldB val rs a)
  | [], a => rfl
  | r :: rs, a => by unfold foldO foldB; exact foldO_s val rs _
def hdE : List (List Nat) → Int32
  | [] => 0
  | r :: _ => nI (encR r)
theorem chk_c {r : List Nat} {t : List (List Nat)} (h : chk (r :: t) = true) : fX0_nextOrder (nI (encR r)) = some (hdE t) ∧ chk t = true := by
  cases t with
  | nil => unfold chk at h; exact ⟨of_decide_eq_true h, rfl⟩
  | cons r' t =>
    unfold chk at h
    rw [Bool.and_eq_true] at h
    exact ⟨of_decide_eq_true h.1, h.2⟩
