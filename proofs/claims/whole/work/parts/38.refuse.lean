/-! pebbles, still, link: all arguments -/
theorem rn_of (j : Int32) {a b : Nat} (hb : b < 2 ^ 31 - 1) : (nI a ≤ j ∧ j ≤ nI b) → a < 2 ^ 31 → ∃ t, a ≤ t ∧ t ≤ b ∧ j = nI t := by
  rintro ⟨h1, h2⟩ ha
  have h0 : (0 : Int32) ≤ j := by
    rw [fa_le] at h1 ⊢
    rw [nI_toInt ha] at h1
    rw [show (0 : Int32).toInt = 0 by decide]
    omega
  obtain ⟨t, ht, rfl⟩ := (le_of j hb).mp ⟨h0, h2⟩
  exact ⟨t, (nI_leI ha (by omega)).mp h1, ht, rfl⟩
theorem agr_ex {a : Option Int32} {b : Option (Int32 × Int32)} (h : agr a b = true) : ∃ z w, a = some z ∧ b = some w ∧ z = w.1 := by
  unfold agr at h
  match a, b, h with
  | some x, some y, h => exact ⟨x, y, rfl, rfl, by simpa using h⟩
theorem b_01 {y : Int32} (h : y = 0 ∨ y = 1) : ∃ b, b < 2 ∧ y = nI b := h.elim (fun h => ⟨0, by omega, h⟩) (fun h => ⟨1, by omega, h⟩)
theorem op_pebbles (j1 j2 y th : Int32) (hy : y = 0 ∨ y = 1) : ∃ z w, fX4_pebbles j1 j2 y = some z ∧ fX5_pebbles j1 j2 y th = some w ∧ z = w.1 := by
  obtain ⟨b, hb, rfl⟩ := b_01 hy
  by_cases c1 : (1 : Int32) ≤ j1 ∧ j1 ≤ 5
  · by_cases c2 : (0 : Int32) ≤ j2 ∧ j2 ≤ 50
    · obtain ⟨t, t1, t2, rfl⟩ := rn_of j1 (a := 1) (b := 5) (by decide) c1 (by decide)
      obtain ⟨u, u1, u2, rfl⟩ := rn_of j2 (a := 0) (b := 50) (by decide) c2 (by decide)
      exact agr_ex (b_peb t (by omega) t1 u (by omega) b hb)
    · unfold fX4_pebbles fX5_pebbles
      have c1' : nI 1 ≤ j1 ∧ j1 ≤ nI 5 := c1
      have c2' : ¬ (nI 0 ≤ j2 ∧ j2 ≤ nI 50) := c2
      rw [m_within, bs, if_pos c1, if_neg one_ne, m_within, bs, if_neg c2, if_pos rfl, show (1 : Int64) = lN 1 from rfl, show (5 : Int64) = lN 5 from rfl, m_in j1 (by decide) (by decide), bs, if_pos c1', if_neg one_ne, show (0 : Int64) = lN 0 from rfl, show (50 : Int64) = lN 50 from rfl, m_in j2 (by decide) (by decide), bs, if_neg c2', if_pos rfl]
      exact ⟨_, _, rfl, rfl, rfl⟩
  · unfold fX4_pebbles fX5_pebbles
    have c1' : ¬ (nI 1 ≤ j1 ∧ j1 ≤ nI 5) := c1
    rw [m_within, bs, if_neg c1, if_pos rfl, show (1 : Int64) = lN 1 from rfl, show (5 : Int64) = lN 5 from rfl, m_in j1 (by decide) (by decide), bs, if_neg c1', if_pos rfl]
    exact ⟨_, _, rfl, rfl, rfl⟩
theorem c_tenths (j : Int32) : fX4_isTenths j = some (if (0 : Int32) ≤ j ∧ j ≤ 10 then 1 else 0) := by
  unfold fX4_isTenths
  rw [m_within, bs]
  by_cases c : (0 : Int32) ≤ j ∧ j ≤ 10
  · rw [if_pos c, if_pos (Or.inr rfl)]
  · rw [if_neg c, if_pos (Or.inl rfl)]
theorem m_rng (j : Int32) {a b : Nat} (ha : a < 2 ^ 31) (hb : b < 2 ^ 31) (p q : Int32) (hp : p = nI a) (hq : q = nI b) : fX5_in j.toInt64 (lN a) (lN b) = some (if p ≤ j ∧ j ≤ q then 1 else 0) := by rw [hp, hq]; exact m_in j ha hb
theorem op_link (j1 j2 j3 y th : Int32) (hy : y = 0 ∨ y = 1) : ∃ z w, fX4_link j1 j2 j3 y = some z ∧ fX5_link j1 j2 j3 y th = some w ∧ z = w.1 := by
  obtain ⟨b, hb, rfl⟩ := b_01 hy
  have m1 : fX5_in j1.toInt64 0 5 = some (if (0 : Int32) ≤ j1 ∧ j1 ≤ 5 then 1 else 0) := m_rng j1 (a := 0) (b := 5) (by decide) (by decide) 0 5 rfl rfl
  have m2 : fX5_in j2.toInt64 0 10 = some (if (0 : Int32) ≤ j2 ∧ j2 ≤ 10 then 1 else 0) := m_rng j2 (a := 0) (b := 10) (by decide) (by decide) 0 10 rfl rfl
  have m3 : fX5_in j3.toInt64 0 6 = some (if (0 : Int32) ≤ j3 ∧ j3 ≤ 6 then 1 else 0) := m_rng j3 (a := 0) (b := 6) (by decide) (by decide) 0 6 rfl rfl
  by_cases c1 : (0 : Int32) ≤ j1 ∧ j1 ≤ 5
  · by_cases c2 : (0 : Int32) ≤ j2 ∧ j2 ≤ 10
    · by_cases c3 : (0 : Int32) ≤ j3 ∧ j3 ≤ 6
      · obtain ⟨t, t1, t2, rfl⟩ := rn_of j1 (a := 0) (b := 5) (by decide) c1 (by decide)
        obtain ⟨u, u1, u2, rfl⟩ := rn_of j2 (a := 0) (b := 10) (by decide) c2 (by decide)
        obtain ⟨v, v1, v2, rfl⟩ := rn_of j3 (a := 0) (b := 6) (by decide) c3 (by decide)
        have : v < 4 ∨ v = 4 ∨ v = 5 ∨ v = 6 := by omega
        rcases this with h | rfl | rfl | rfl
        · exact agr_ex (b_link03 v h t (by omega) u (by omega) b hb)
        · exact agr_ex (b_link4 t (by omega) u (by omega) b hb)
        · exact agr_ex (b_link5 t (by omega) u (by omega) b hb)
        · exact agr_ex (b_link6 t (by omega) u (by omega) b hb)
      · unfold fX4_link fX5_link
        rw [m_within, bs, if_pos c1, if_neg one_ne, c_tenths, bs, if_pos c2, if_neg one_ne, m_within, bs, if_neg c3, if_pos rfl, m1, bs, if_pos c1, if_neg one_ne, m2, bs, if_pos c2, if_neg one_ne, m3, bs, if_neg c3, if_pos rfl]
        exact ⟨_, _, rfl, rfl, rfl⟩
    · unfold fX4_link fX5_link
      rw [m_within, bs, if_pos c1, if_neg one_ne, c_tenths, bs, if_neg c2, if_pos rfl, m1, bs, if_pos c1, if_neg one_ne, m2, bs, if_neg c2, if_pos rfl]
      exact ⟨_, _, rfl, rfl, rfl⟩
  · unfold fX4_link fX5_link
    rw [m_within, bs, if_neg c1, if_pos rfl, m1, bs, if_neg c1, if_pos rfl]
    exact ⟨_, _, rfl, rfl, rfl⟩
theorem op_still (j1 j2 j3 j4 y th : Int32) (hy : y = 0 ∨ y = 1) : ∃ z w, fX4_still j1 j2 j3 j4 y = some z ∧ fX5_still j1 j2 j3 j4 y th = some w ∧ z = w.1 := by
  obtain ⟨b, hb, rfl⟩ := b_01 hy
  have m1 : fX5_in j1.toInt64 1 4 = some (if (1 : Int32) ≤ j1 ∧ j1 ≤ 4 then 1 else 0) := m_rng j1 (a := 1) (b := 4) (by decide) (by decide) 1 4 rfl rfl
  have m3 : fX5_in j3.toInt64 0 10 = some (if (0 : Int32) ≤ j3 ∧ j3 ≤ 10 then 1 else 0) := m_rng j3 (a := 0) (b := 10) (by decide) (by decide) 0 10 rfl rfl
  have m4 : fX5_in j4.toInt64 0 10 = some (if (0 : Int32) ≤ j4 ∧ j4 ≤ 10 then 1 else 0) := m_rng j4 (a := 0) (b := 10) (by decide) (by decide) 0 10 rfl rfl
  by_cases c1 : (1 : Int32) ≤ j1 ∧ j1 ≤ 4
  · obtain ⟨n, n1, n2, rfl⟩ := rn_of j1 (a := 1) (b := 4) (by decide) c1 (by decide)
    have hn : 2 ^ n ≤ 2 ^ 4 := Nat.pow_le_pow_right (by decide) n2
    have m2 : fX5_in j2.toInt64 0 (nI (2 ^ n - 1)).toInt64 = some (if (0 : Int32) ≤ j2 ∧ j2 ≤ nI (2 ^ n - 1) then 1 else 0) := by
      rw [nI_l (by omega)]
      exact m_rng j2 (a := 0) (b := 2 ^ n - 1) (by decide) (by omega) 0 _ rfl rfl
    by_cases c2 : (0 : Int32) ≤ j2 ∧ j2 ≤ nI (2 ^ n - 1)
    · by_cases c3 : (0 : Int32) ≤ j3 ∧ j3 ≤ 10
      · by_cases c4 : (0 : Int32) ≤ j4 ∧ j4 ≤ 10
        · obtain ⟨h, h1, h2, rfl⟩ := rn_of j2 (a := 0) (b := 2 ^ n - 1) (by omega) c2 (by decide)
          obtain ⟨u, u1, u2, rfl⟩ := rn_of j3 (a := 0) (b := 10) (by decide) c3 (by decide)
          obtain ⟨v, v1, v2, rfl⟩ := rn_of j4 (a := 0) (b := 10) (by decide) c4 (by decide)
          have : n = 1 ∨ n = 2 ∨ n = 3 ∨ n = 4 := by omega
          rcases this with rfl | rfl | rfl | rfl
          · exact agr_ex (b_still1 h (by omega) u (by omega) v (by omega) b hb)
          · exact agr_ex (b_still2 h (by omega) u (by omega) v (by omega) b hb)
          · exact agr_ex (b_still3 h (by omega) u (by omega) v (by omega) b hb)
          · by_cases h8 : h < 8
            · exact agr_ex (b_still4a h h8 u (by omega) v (by omega) b hb)
            · obtain ⟨h', rfl⟩ : ∃ m, h = m + 8 := ⟨h - 8, by omega⟩
              exact agr_ex (b_still4b h' (by omega) u (by omega) v (by omega) b hb)
        · unfold fX4_still fX5_still
          rw [m_within, bs, if_pos c1, if_neg one_ne, every n (by omega), m_within, bs, if_pos c2, if_neg one_ne, c_tenths, bs, if_pos c3, if_neg one_ne, c_tenths, bs, if_neg c4, if_pos rfl, m1, bs, if_pos c1, if_neg one_ne, m2, bs, if_pos c2, if_neg one_ne, m3, bs, if_pos c3, if_neg one_ne, m4, bs, if_neg c4, if_pos rfl]
          exact ⟨_, _, rfl, rfl, rfl⟩
      · unfold fX4_still fX5_still
        rw [m_within, bs, if_pos c1, if_neg one_ne, every n (by omega), m_within, bs, if_pos c2, if_neg one_ne, c_tenths, bs, if_neg c3, if_pos rfl, m1, bs, if_pos c1, if_neg one_ne, m2, bs, if_pos c2, if_neg one_ne, m3, bs, if_neg c3, if_pos rfl]
        exact ⟨_, _, rfl, rfl, rfl⟩
    · unfold fX4_still fX5_still
      rw [m_within, bs, if_pos c1, if_neg one_ne, every n (by omega), m_within, bs, if_neg c2, if_pos rfl, m1, bs, if_pos c1, if_neg one_ne, m2, bs, if_neg c2, if_pos rfl]
      exact ⟨_, _, rfl, rfl, rfl⟩
  · unfold fX4_still fX5_still
    rw [m_within, bs, if_neg c1, if_pos rfl, m1, bs, if_neg c1, if_pos rfl]
    exact ⟨_, _, rfl, rfl, rfl⟩
