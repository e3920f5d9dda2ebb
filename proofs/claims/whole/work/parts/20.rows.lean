/-! THE ROWS: all rows of different WALKERS (0 .. 4), as lists; what the class's Cells do on them, decided row by row -/
def rg : Nat → List (List Nat)
  | 0 => [[]]
  | n + 1 => [] :: (List.range 5).flatMap (fun w => (rg n).filterMap (fun r => if r.contains w then none else some (w :: r)))
def encR : List Nat → Nat
  | [] => 0
  | w :: r => (w + 1) + 16 * encR r
def bitsN : List Nat → Nat
  | [] => 0
  | w :: r => 2 ^ w ||| bitsN r
def figN (r : List Nat) : Nat := r.foldl (fun v w => v * 10 + (w + 1)) 0
def swp (r : List Nat) (i : Nat) : List Nat := (r.set i (r.getD (i + 1) 0)).set (i + 1) (r.getD i 0)
def ascN (b : Nat) : List Nat := (List.range 5).filter (fun w => b.testBit w)
set_option maxRecDepth 100000 in
theorem a_size : ∀ r ∈ rg 5, fX0_size (nI (encR r)) = some (nI r.length) := by decide +kernel
set_option maxRecDepth 100000 in
theorem a_mem : ∀ r ∈ rg 5, fX0_members (nI (encR r)) = some (nI (bitsN r)) := by decide +kernel
set_option maxRecDepth 100000 in
theorem a_fig : ∀ r ∈ rg 5, fX0_figures (nI (encR r)) = some (nI (figN r)) := by decide +kernel
set_option maxRecDepth 100000 in
theorem a_at : ∀ r ∈ rg 5, ∀ i, i < r.length → fX0_at (nI (encR r)) (nI i) = some (nI (r.getD i 0 + 1)) := by decide +kernel
set_option maxRecDepth 100000 in
theorem a_wo : ∀ r ∈ rg 5, ∀ i, i < r.length → fX0_without (nI (encR r)) (nI i) = some (nI (encR (r.eraseIdx i))) ∧ r.eraseIdx i ∈ rg 5 := by decide +kernel
set_option maxRecDepth 100000 in
theorem a_sw : ∀ r ∈ rg 5, ∀ i, i < r.length → i + 1 < r.length → fX0_swapped (nI (encR r)) (nI i) (nI i + 1) = some (nI (encR (swp r i))) ∧ swp r i ∈ rg 5 := by decide +kernel
set_option maxRecDepth 100000 in
theorem a_asc : ∀ b, b < 32 → fX0_ascending (nI b) = some (nI (encR (ascN b))) ∧ ascN b ∈ rg 5 := by decide +kernel
set_option maxRecDepth 100000 in
theorem a_lt : ∀ r ∈ rg 5, encR r < 2 ^ 20 ∧ r.length ≤ 5 ∧ (∀ i, i < r.length → r.getD i 0 < 5) ∧ bitsN r < 32 := by decide +kernel
