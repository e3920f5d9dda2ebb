/-! the whole text read; WRITE, WIPE, FAULT -/
theorem m_read {g : Nat → Nat} {n : Nat} {bC bM : Nat → Int32} (h : TX g n bC bM) (pl rd rl rt : Int32) (rn rk : Nat → Int32) :
    ∃ pl' rd' rl' rt' rn' rk', fX5_readGorge (nI n) pl rd rl rt bM rn rk = some (ffI g n n 0, pl', rd', rl', rt', rn', rk') ∧ (ffI g n n 0 = -9 → (n - 3) / 3 ≤ 5 ∧ rd' = nI ((n - 3) / 3) ∧ rl' = nI (g 1 - 48) ∧ rt' = nI (g 2 - 48) ∧ rgB (g 1) 1 9 = true ∧ rgB (g 2) 0 9 = true ∧ RN g ((n - 3) / 3) rn' rk') := by
  have hT := h
  obtain ⟨hn, hb⟩ := hT
  unfold fX5_readGorge
  by_cases n0 : n = 0
  · subst n0
    rw [if_pos (show nI 0 = (0 : Int32) from rfl), ffI, if_neg (fun q => by omega)]
    exact ⟨_, _, _, _, _, _, rfl, fun q => absurd q (ne9 (by omega))⟩
  · rw [if_neg (show ¬ nI n = (0 : Int32) from fun q => n0 ((nI_eq (b := 0) (by omega) (by decide)).mp q)), if_neg (show ¬ ((0 : Int32) < 0 ∨ 32 ≤ (0 : Int32).toNatClampNeg) by decide), show (0 : Int32).toNatClampNeg = 0 by decide]
    obtain ⟨b1, b2, b3⟩ := hb 0 (by omega)
    have f0 : ffI g n n 0 = if g 0 = 71 then ffI g n (n - 1) 1 else nI 0 := by
      obtain ⟨d, rfl⟩ : ∃ d, n = d + 1 := ⟨n - 1, by omega⟩
      rw [Nat.add_sub_cancel]
      have : ∀ N, ffI g N (d + 1) 0 = if g 0 = 71 then ffI g N d 1 else nI 0 := fun N => by
        rw [ffI, show fitB 0 (g 0) = decide (g 0 = 71) from if_pos rfl]
        by_cases c : g 0 = 71
        · rw [if_pos (decide_eq_true c), if_pos c]
        · rw [if_neg (by rw [decide_eq_true_eq]; exact c), if_neg c]
      exact this _
    rw [b2]
    by_cases c71 : g 0 = 71
    · rw [if_pos (show nI (g 0) = (71 : Int32) from (nI_eq (b := 71) (by omega) (by decide)).mpr c71), f0, if_pos c71]
      have fg1 : fX5_figure 1 9 (nI n) 1 bM = _ := m_figure h (p := 1) (by omega) (a := 1) (b := 9) (by omega) (by omega) r19
      rw [fg1, bs]
      by_cases n1 : n = 1
      · rw [if_pos n1.symm, if_pos rfl]
        unfold fX5_readGorge_b68
        rw [if_pos rfl, show n - 1 = 0 by omega, ffI, if_neg (fun q => by omega), n1]
        exact ⟨_, _, _, _, _, _, rfl, fun q => absurd q (ne9 (by omega))⟩
      · rw [if_neg (show ¬ 1 = n from fun q => n1 q.symm)]
        have f1 : ffI g n (n - 1) 1 = if rgB (g 1) 1 9 = true then ffI g n (n - 2) 2 else nI 1 := by
          obtain ⟨d, hd⟩ : ∃ d, n - 1 = d + 1 := ⟨n - 2, by omega⟩
          rw [hd, ffI, show d = n - 2 by omega]
          rfl
        rw [f1]
        obtain ⟨-, -, v1⟩ := hb 1 (by omega)
        by_cases r1 : rgB (g 1) 1 9 = true
        · rw [if_pos r1, if_pos r1, if_neg (ne9 (by omega))]
          have fg2 : fX5_figure 0 9 (nI n) (nI (1 + 1)) bM = _ := m_figure h (p := 2) (by omega) (a := 0) (b := 9) (by omega) (by omega) r09
          rw [fg2, bs]
          unfold fX5_readGorge_b68
          by_cases n2 : n = 2
          · rw [if_pos n2.symm, if_pos rfl, show n - 2 = 0 by omega, ffI, if_neg (fun q => by omega), n2]
            exact ⟨_, _, _, _, _, _, rfl, fun q => absurd q (ne9 (by omega))⟩
          · rw [if_neg (show ¬ 2 = n from fun q => n2 q.symm)]
            have f2 : ffI g n (n - 2) 2 = if rgB (g 2) 0 9 = true then ffI g n (n - 3) 3 else nI 2 := by
              obtain ⟨d, hd⟩ : ∃ d, n - 2 = d + 1 := ⟨n - 3, by omega⟩
              rw [hd, ffI, show d = n - 3 by omega]
              rfl
            rw [f2]
            obtain ⟨-, -, v2⟩ := hb 2 (by omega)
            by_cases r2 : rgB (g 2) 0 9 = true
            · rw [if_pos r2, if_pos r2, if_neg (ne9 (by omega))]
              obtain ⟨pl', rd', rn', rk', m1, m2⟩ := m_parts h (nI (g 1 - 48)) (nI (g 2 - 48)) 6 0 fu rn rk (by omega) (by omega) (by omega) (by unfold fu; omega) (fun u hu => by omega)
              have m1 : fX5_readGorge_b85 (nI n) bM (nI (2 + 1)) 0 (nI (g 1 - 48)) (nI (g 2 - 48)) rn rk = some (ffI g n (n - 3) 3, pl', rd', nI (g 1 - 48), nI (g 2 - 48), rn', rk') := m1
              have m2 : ffI g n (n - 3) 3 = -9 → rd' = nI ((n - 3) / 3) ∧ (n - 3) / 3 ≤ 5 ∧ RN g ((n - 3) / 3) rn' rk' := m2
              refine ⟨pl', rd', nI (g 1 - 48), nI (g 2 - 48), rn', rk', m1, fun q => ?_⟩
              obtain ⟨q1, q2, q3⟩ := m2 q
              exact ⟨q2, q1, rfl, rfl, r1, r2, q3⟩
            · rw [if_neg r2, if_neg r2, if_pos rfl]
              exact ⟨_, _, _, _, _, _, rfl, fun q => absurd q (ne9 (by omega))⟩
        · rw [if_neg r1, if_neg r1, if_pos rfl]
          unfold fX5_readGorge_b68
          rw [if_pos rfl]
          exact ⟨_, _, _, _, _, _, rfl, fun q => absurd q (ne9 (by omega))⟩
    · rw [if_neg (show ¬ nI (g 0) = (71 : Int32) from fun q => c71 ((nI_eq (b := 71) (by omega) (by decide)).mp q)), f0, if_neg c71]
      exact ⟨_, _, _, _, _, _, rfl, fun q => absurd q (ne9 (by omega))⟩
theorem op_write {g : Nat → Nat} {n : Nat} {bC bM : Nat → Int32} (h : TX g n bC bM) (j th : Int32) : ∃ z w n' g', fX4_write j (nI n) bC = some z ∧ fX5_write j th (nI n) bM = some w ∧ z.1 = w.1 ∧ z.2.1 = nI n' ∧ w.2.2.1 = nI n' ∧ TX g' n' z.2.2 w.2.2.2 := by
  have hT := h
  obtain ⟨hn, hb⟩ := hT
  unfold fX4_write fX5_write
  rw [m_within, bs, show (0 : Int64) = lN 0 from rfl, show (255 : Int64) = lN 255 from rfl, m_in j (by decide) (by decide), bs]
  by_cases c : ∃ t, t ≤ 255 ∧ j = nI t
  · have cj := (le_of j (b := 255) (by omega)).mpr c
    have cj1 : (0 : Int32) ≤ j ∧ j ≤ 255 := cj
    have cj2 : nI 0 ≤ j ∧ j ≤ nI 255 := cj
    obtain ⟨t, ht, rfl⟩ := c
    rw [if_pos cj1, if_pos cj2, if_neg one_ne, if_neg one_ne]
    unfold fX2_append
    rw [if_neg (nI_pos (by omega))]
    by_cases n32 : n < 32
    · rw [if_pos (show nI n < (32 : Int32) from nI_lt (b := 32) n32 (by decide)), if_neg (fun q => by rw [ig (by omega)] at q; omega), bs, if_neg one_ne, if_neg (fun q => by have := (nI_eq (a := n) (b := 32) (by omega) (by decide)).mp q; omega), if_neg (fun q => by rw [ig (by omega)] at q; omega), nI_clamp (by omega)]
      unfold fX2_length
      rw [bs]
      refine ⟨_, _, n + 1, (fun i => if i = n then t else g i), rfl, rfl, rfl, nI_1 n, nI_1 n, by omega, fun i hi => ?_⟩
      by_cases e : i = n
      · subst e
        have e1 : (if i = i then t else g i) = t := if_pos rfl
        refine ⟨pk_us.trans (congrArg nI e1.symm), pk_us.trans (congrArg nI e1.symm), ?_⟩
        show (if i = i then t else g i) < 256
        rw [e1]; omega
      · obtain ⟨b1, b2, b3⟩ := hb i (by omega)
        have e2 : (if i = n then t else g i) = g i := if_neg e
        refine ⟨(pk_un e).trans (b1.trans (congrArg nI e2.symm)), (pk_un e).trans (b2.trans (congrArg nI e2.symm)), ?_⟩
        show (if i = n then t else g i) < 256
        rw [e2]; exact b3
    · rw [if_neg (show ¬ nI n < (32 : Int32) from fun q => n32 ((nI_ltI (a := n) (b := 32) (by omega) (by decide)).mp q)), bs, if_pos rfl, if_pos (show nI n = (32 : Int32) by rw [show n = 32 by omega]; rfl)]
      exact ⟨_, _, n, g, rfl, rfl, rfl, rfl, rfl, h⟩
  · have cj : ¬ ((0 : Int32) ≤ j ∧ j ≤ 255) := fun h => c ((le_of j (b := 255) (by omega)).mp h)
    have cj2 : ¬ (nI 0 ≤ j ∧ j ≤ nI 255) := cj
    rw [if_neg cj, if_neg cj2, if_pos rfl, if_pos rfl]
    exact ⟨_, _, n, g, rfl, rfl, rfl, rfl, rfl, h⟩
theorem op_wipe {g : Nat → Nat} {n : Nat} {bC bM : Nat → Int32} (h : TX g n bC bM) (th : Int32) : ∃ z w, fX4_wipe (nI n) = some z ∧ fX5_wipe th (nI n) = some w ∧ z.1 = w.1 ∧ z.2 = nI 0 ∧ w.2.2 = nI 0 ∧ TX g 0 bC bM := by
  unfold fX4_wipe fX5_wipe fX2_length fX2_clear
  rw [bs, bs]
  exact ⟨_, _, rfl, rfl, rfl, rfl, rfl, by omega, fun i hi => by omega⟩
theorem op_fault {g : Nat → Nat} {n : Nat} {bC bM : Nat → Int32} (h : TX g n bC bM) (th pl rd rl rt : Int32) (rn rk : Nat → Int32) : ∃ z w, fX4_fault (nI n) bC = some z ∧ fX5_fault th (nI n) pl rd rl rt bM rn rk = some w ∧ z = w.1 := by
  unfold fX4_fault fX5_fault
  obtain ⟨pl', rd', rl', rt', rn', rk', m1, -⟩ := m_read h pl rd rl rt rn rk
  rw [c_fault h, bs, m1, bs]
  exact ⟨_, _, rfl, rfl, rfl⟩
