set_option maxRecDepth 100000 in
theorem b_link5 : ∀ v, v < 6 → ∀ x, x < 11 → ∀ b, b < 2 → agr (fX4_link (nI v) (nI x) (nI 5) (nI b)) (fX5_link (nI v) (nI x) (nI 5) (nI b) 0) = true := by decide +kernel
