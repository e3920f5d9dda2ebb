/-! the next order, by the class -/
noncomputable def chk : List (List Nat) → Bool
  | [] => true
  | [r] => decide (fX0_nextOrder (nI (encR r)) = some 0)
  | r :: r' :: t => decide (fX0_nextOrder (nI (encR r)) = some (nI (encR r'))) && chk (r' :: t)
set_option maxRecDepth 100000 in
theorem pb_chk : ∀ b, b < 32 → chk (PB b) = true := by decide +kernel
