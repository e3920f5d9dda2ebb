/-! the orders of a row, in the order of their figures -/
def prm : Nat → List Nat → List (List Nat)
  | 0, _ => [[]]
  | n + 1, l => l.flatMap (fun x => (prm n (l.erase x)).map (fun r => x :: r))
def PB (b : Nat) : List (List Nat) := prm (ascN b).length (ascN b)
def allL : Nat → List (List Nat)
  | 0 => [[]]
  | n + 1 => [0, 1, 2, 3, 4].flatMap (fun x => (allL n).map (fun r => x :: r))
set_option maxRecDepth 100000 in
theorem pb_head : ∀ b, b < 32 → PB b = ascN b :: (PB b).tail ∧ (PB b).length ≤ 120 := by decide +kernel
set_option maxRecDepth 100000 in
theorem pb_row : ∀ b, b < 32 → ∀ r ∈ PB b, r ∈ rg 5 ∧ bitsN r = b ∧ r.length = (ascN b).length ∧ (encR r = 0 → b = 0) ∧ figN r < 10 ^ r.length := by decide +kernel
set_option maxRecDepth 100000 in
theorem pb_sort : ∀ b, b < 32 → (PB b).Pairwise (fun r r' => figN r < figN r') := by decide +kernel
set_option maxRecDepth 100000 in
theorem pb_all : ∀ k, k < 6 → ∀ r ∈ allL k, (ascN (bitsN r)).length = k → r ∈ PB (bitsN r) := by decide +kernel
set_option maxRecDepth 100000 in
theorem a_ascl : ∀ r ∈ rg 5, (ascN (bitsN r)).length = r.length := by decide +kernel
