/-! masks of minutes, decided one by one -/
set_option maxRecDepth 100000 in
theorem or_ltg : ∀ a, a < 512 → ∀ m, m < 9 → ∀ g, g < 10 → ((a ||| 2 ^ m < 2 ^ g) ↔ (a < 2 ^ g ∧ m < g)) := by decide +kernel
set_option maxRecDepth 100000 in
theorem or_mdg : ∀ a, a < 512 → ∀ m, m < 9 → ∀ g, g < 10 → (((a ||| 2 ^ m) % 2 ^ g = 0) ↔ (a % 2 ^ g = 0 ∧ g ≤ m)) := by decide +kernel
set_option maxRecDepth 100000 in
theorem hm_dec : ∀ g, g < 10 → ∀ a, a < 512 → ((nI a &&& ((((1 : Int32) <<< (nI g &&& 31)) - 1) ^^^ (-1))) = 0 ↔ a < 2 ^ g) := by decide +kernel
set_option maxRecDepth 100000 in
theorem sm_dec : ∀ g, g < 10 → ∀ a, a < 512 → ((nI a &&& (((1 : Int32) <<< (nI g &&& 31)) - 1)) = 0 ↔ a % 2 ^ g = 0) := by decide +kernel
theorem sh_dec : ∀ g, g < 10 → ((1 : Int32) <<< (nI g &&& 31)) = nI (2 ^ g) := by decide +kernel
