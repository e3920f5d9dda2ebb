set_option maxRecDepth 100000 in
theorem b_still3 : ∀ h, h < 8 → ∀ x, x < 11 → ∀ y, y < 11 → ∀ b, b < 2 → agr (fX4_still (nI 3) (nI h) (nI x) (nI y) (nI b)) (fX5_still (nI 3) (nI h) (nI x) (nI y) (nI b) 0) = true := by decide +kernel
set_option maxRecDepth 100000 in
theorem b_still4a : ∀ h, h < 8 → ∀ x, x < 11 → ∀ y, y < 11 → ∀ b, b < 2 → agr (fX4_still (nI 4) (nI h) (nI x) (nI y) (nI b)) (fX5_still (nI 4) (nI h) (nI x) (nI y) (nI b) 0) = true := by decide +kernel
set_option maxRecDepth 100000 in
theorem b_still4b : ∀ h, h < 8 → ∀ x, x < 11 → ∀ y, y < 11 → ∀ b, b < 2 → agr (fX4_still (nI 4) (nI (h + 8)) (nI x) (nI y) (nI b)) (fX5_still (nI 4) (nI (h + 8)) (nI x) (nI y) (nI b) 0) = true := by decide +kernel
