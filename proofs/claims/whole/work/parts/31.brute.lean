/-! pebbles, still, link: within the document's bounds, decided one by one -/
def agr (a : Option Int32) (b : Option (Int32 × Int32)) : Bool := match a, b with
  | some x, some y => x == y.1
  | _, _ => false
set_option maxRecDepth 100000 in
theorem b_peb : ∀ c, c < 6 → 1 ≤ c → ∀ n, n < 51 → ∀ b, b < 2 → agr (fX4_pebbles (nI c) (nI n) (nI b)) (fX5_pebbles (nI c) (nI n) (nI b) 0) = true := by decide +kernel
set_option maxRecDepth 100000 in
theorem b_still1 : ∀ h, h < 2 → ∀ x, x < 11 → ∀ y, y < 11 → ∀ b, b < 2 → agr (fX4_still (nI 1) (nI h) (nI x) (nI y) (nI b)) (fX5_still (nI 1) (nI h) (nI x) (nI y) (nI b) 0) = true := by decide +kernel
set_option maxRecDepth 100000 in
theorem b_still2 : ∀ h, h < 4 → ∀ x, x < 11 → ∀ y, y < 11 → ∀ b, b < 2 → agr (fX4_still (nI 2) (nI h) (nI x) (nI y) (nI b)) (fX5_still (nI 2) (nI h) (nI x) (nI y) (nI b) 0) = true := by decide +kernel
