/-! change, rest, undo, keep, again: both sides -/
set_option maxRecDepth 100000 in
theorem a_sw2a : ∀ r ∈ rg 5, ∀ i, i < r.length → i + 1 < r.length → bitsN (swp r i) = bitsN r ∧ (swp r i).length = r.length ∧ (swp r i).getD i 0 = r.getD (i + 1) 0 ∧ (swp r i).getD (i + 1) 0 = r.getD i 0 ∧ r.getD i 0 ≠ r.getD (i + 1) 0 := by decide +kernel
set_option maxRecDepth 100000 in
theorem a_sw2b : ∀ r ∈ rg 5, ∀ i, i < r.length → i + 1 < r.length → ∀ k, k < 5 → k = i ∨ k = i + 1 ∨ (swp r i).getD k 0 = r.getD k 0 := by decide +kernel
set_option maxRecDepth 100000 in
theorem a_sw2c : ∀ r ∈ rg 5, ∀ i, i < r.length → i + 1 < r.length → r.getD i 0 ∈ r ∧ r.getD (i + 1) 0 ∈ r := by decide +kernel
set_option maxRecDepth 100000 in
theorem a_sw2d : ∀ r ∈ rg 5, ∀ i, i < r.length → i + 1 < r.length → ∀ x ∈ swp r i, x ∈ r := by decide +kernel
theorem op_change {W L A N K k : Nat} {s : Wk} {AC : Nat → Int64} {pg book : Nat → Int32} (hP : PH W L A N K) (hs : WK W L s) (hg : PG pg s.1 s.2.1 s.2.2 (LO W s.1)) (hA : AR W L k AC book) (h14 : k ≤ 14) (j th : Int32) :
    ∃ z w s' k', fX4_change j (nI k) (nI L) (nI (encR s.1)) (nI s.2.1) (nI s.2.2) AC = some z ∧ fX5_change j th (nI L) (nI k) pg book = some w ∧ z.1 = w.1 ∧ WK W L s' ∧ k' ≤ 14 ∧ z.2.1 = nI k' ∧ z.2.2.1 = nI (encR s'.1) ∧ z.2.2.2.1 = nI s'.2.1 ∧ s'.2.2 = s.2.2 ∧ w.2.2.1 = nI k' ∧ PG w.2.2.2.1 s'.1 s'.2.1 s'.2.2 (LO W s'.1) ∧ AR W L k' z.2.2.2.2 w.2.2.2.2 := by
  have hP' := hP
  obtain ⟨p1, p2, p3, p4, p5, p6⟩ := hP'
  have hpl := hs.2.2.2.2
  have hlen := a_lt _ hs.1
  have c11 : (11 : Int32).toNatClampNeg = 11 := by decide
  have g11 : ((11 : Int32) < 0 ∨ 13 ≤ 11) ↔ False := by decide
  have c5 : (5 : Int32).toNatClampNeg = 5 := by decide
  have g5 : ((5 : Int32) < 0 ∨ 13 ≤ 5) ↔ False := by decide
  unfold fX4_change fX5_change
  rw [show (0 : Int64) = lN 0 from rfl, show (3 : Int64) = lN 3 from rfl, m_in j (by decide) (by decide)]
  simp only [Option.bind_some, m_within]
  by_cases c : ∃ t, t ≤ 3 ∧ j = nI t
  · have cj : (0 : Int32) ≤ j ∧ j ≤ 3 := (le_of j (b := 3) (by omega)).mpr c
    have cj' : nI 0 ≤ j ∧ j ≤ nI 3 := cj
    obtain ⟨i, hi, rfl⟩ := c
    have lt1 : (nI (i + 1) < nI s.1.length) ↔ i + 1 < s.1.length := nI_ltI (by omega) (by omega)
    have le1 : (nI s.1.length ≤ nI (i + 1)) ↔ s.1.length ≤ i + 1 := nI_leI (by omega) (by omega)
    have eL : (nI s.2.2 = nI L) ↔ s.2.2 = L := nI_eq (by omega) (by omega)
    simp only [cj, cj', and_self, if_true, one_ne, if_false, c_out (show L < 2 ^ 31 by omega) (show s.2.2 < 2 ^ 31 by omega), Option.bind_some, fX3_size, a_size _ hs.1, nI_1, c5, g5, hg.2.1, lt1, le1, c11, g11, hg.2.2.2.1, eL]
    by_cases hl : s.2.2 < L
    · by_cases hi2 : i + 1 < s.1.length
      · obtain ⟨k', AC', b', r1, r2, r3, r4⟩ := op_note p3 hs hg hA h14
        have sw := a_sw _ hs.1 i (by omega) hi2
        obtain ⟨w1, w2, w3, w4, w7⟩ := a_sw2a _ hs.1 i (by omega) hi2
        have w5 := a_sw2b _ hs.1 i (by omega) hi2
        obtain ⟨w8, w9⟩ := a_sw2c _ hs.1 i (by omega) hi2
        have w6 := a_sw2d _ hs.1 i (by omega) hi2
        have at1 := a_at _ sw.2 i (by omega)
        have at2 := a_at _ sw.2 (i + 1) (by omega)
        rw [w3] at at1
        rw [w4] at at2
        obtain ⟨u, hu⟩ : ∃ u, u = s.1.getD i 0 := ⟨_, rfl⟩
        obtain ⟨v, hv⟩ : ∃ v, v = s.1.getD (i + 1) 0 := ⟨_, rfl⟩
        rw [← hu] at w4 w7 w8 at2
        rw [← hv] at w3 w7 w9 at1
        have u5 : u < 5 := mem5 hs.1 u w8
        have v5 : v < 5 := mem5 hs.1 v w9
        have fu : pg i = nI u := by rw [hg.1 i (by omega), hu]
        have fv : pg (i + 1) = nI v := by rw [hg.1 (i + 1) hi2, hv]
        have hq := hs.2.2.1
        have q1 : fX0_with (nI s.2.1) (nI v) 0 = some (nI (qset s.2.1 v 0)) := q_with (v := 0) hq v5 (by omega)
        have hq1 : qset s.2.1 v 0 < 2 ^ 20 := q_lt hq v5 (by omega)
        have q2 : fX0_with (nI (qset s.2.1 v 0)) (nI u) 0 = some (nI (qset (qset s.2.1 v 0) u 0)) := q_with (v := 0) hq1 u5 (by omega)
        have s1 : nI (v + 1) - 1 = nI v := nI_pred v
        have s2 : nI (u + 1) - 1 = nI u := nI_pred u
        have sw1 : fX0_swapped (nI (encR s.1)) (nI i) (nI (i + 1)) = some (nI (encR (swp s.1 i))) := by rw [← nI_1]; exact sw.1
        -- the page
        have P0 : PG (upd (upd pg i (nI v)) (i + 1) (nI u)) (swp s.1 i) s.2.1 s.2.2 (LO W s.1) := by
          refine ⟨fun x hx => ?_, ?_, fun y hy => ?_, ?_, ?_⟩
          · by_cases e2 : x = i + 1
            · subst e2; rw [pk_us, w4]
            · rw [pk_un e2]
              by_cases e1 : x = i
              · subst e1; rw [pk_us, w3]
              · rw [pk_un e1, ((w5 x (by omega)).resolve_left e1).resolve_left e2]; exact hg.1 x (by omega)
          · rw [pk_un (by omega), pk_un (by omega), w2]; exact hg.2.1
          · rw [pk_un (by omega), pk_un (by omega)]; exact hg.2.2.1 y hy
          · rw [pk_un (by omega), pk_un (by omega)]; exact hg.2.2.2.1
          · rw [pk_un (by omega), pk_un (by omega)]; exact hg.2.2.2.2
        have P1 := (P0.q (by omega) hq v5 (show 0 < 16 by omega)).q (by omega) hq1 u5 (show 0 < 16 by omega)
        have LOe : LO W (swp s.1 i) = LO W s.1 := by unfold LO; rw [w1]
        rw [← LOe] at P1
        have e0 : (upd (upd pg i (nI v)) (i + 1) (nI u)) i = nI v := by rw [pk_un (by omega), pk_us]
        have P1' : PG (upd (upd (upd (upd pg i (nI v)) (i + 1) (nI u)) (6 + v) 0) (6 + u) 0) (swp s.1 i) (qset (qset s.2.1 v 0) u 0) s.2.2 (LO W (swp s.1 i)) := P1
        have a6v : (6 : Int32) + nI v = nI (6 + v) := nI_add 6 v
        have a6u : (6 : Int32) + nI u = nI (6 + u) := nI_add 6 u
        have wk : WK W L (swp s.1 i, qset (qset s.2.1 v 0) u 0, s.2.2) := by
          refine ⟨sw.2, fun x hx => hs.2.1 x (w6 x hx), q_lt hq1 u5 (by omega), fun y hy => ?_, hpl⟩
          show qget (qset (qset s.2.1 v 0) u 0) y ≤ s.2.2
          rw [q_gs hq1 u5 (by omega) hy]
          split
          · omega
          · rw [q_gs hq v5 (by omega) hy]
            split
            · omega
            · exact hs.2.2.2.1 y hy
        simp only [hl, hi2, if_true, if_false, r3, r4, Option.bind_some, show ¬ s.1.length ≤ i + 1 by omega, show ¬ s.2.2 = L by omega, fX3_changePlaces, fX3_walkerAt, fX3_setQuiet, fX3_row, nI_1, sw1, at1, at2, s1, s2, q1, q2, a_fig _ sw.2, nI_clamp (show i < 2 ^ 31 by omega), nI_clamp (show i + 1 < 2 ^ 31 by omega), ig2 (show i < 13 by omega) (by decide), ig2 (show i + 1 < 13 by omega) (by decide), fu, fv, e0, a6v, a6u, nI_clamp (show 6 + v < 2 ^ 31 by omega), nI_clamp (show 6 + u < 2 ^ 31 by omega), ig2 (show 6 + v < 13 by omega) (by decide), ig2 (show 6 + u < 13 by omega) (by decide), m_fig sw.2 P1']
        exact ⟨_, _, (swp s.1 i, qset (qset s.2.1 v 0) u 0, s.2.2), k', rfl, rfl, rfl, wk, r1, rfl, rfl, rfl, rfl, rfl, P1', r2⟩
      · simp only [hl, hi2, if_true, if_false, show s.1.length ≤ i + 1 by omega, one_ne]
        exact ⟨_, _, s, k, rfl, rfl, rfl, hs, h14, rfl, rfl, rfl, rfl, rfl, hg, hA⟩
    · have hsl : (s.2.2 = L) = True := eq_true (by omega)
      by_cases hi2 : s.1.length ≤ i + 1
      · simp only [hl, if_false, one_ne, hsl, hi2, if_true]
        exact ⟨_, _, s, k, rfl, rfl, rfl, hs, h14, rfl, rfl, rfl, rfl, rfl, hg, hA⟩
      · simp only [hl, if_false, one_ne, hsl, hi2, if_true]
        exact ⟨_, _, s, k, rfl, rfl, rfl, hs, h14, rfl, rfl, rfl, rfl, rfl, hg, hA⟩
  · have cj : ¬ ((0 : Int32) ≤ j ∧ j ≤ 3) := fun h => c ((le_of j (b := 3) (by omega)).mp h)
    have cj' : ¬ (nI 0 ≤ j ∧ j ≤ nI 3) := cj
    simp only [cj, cj', if_false, if_true]
    exact ⟨_, _, s, k, rfl, rfl, rfl, hs, h14, rfl, rfl, rfl, rfl, rfl, hg, hA⟩
def calmR : List Nat → Nat → Nat × Nat
  | [], q => (0, q)
  | w :: r, q => if qget q w = 0 then calmR r q else ((calmR r (qset q w 0)).1 + 1, (calmR r (qset q w 0)).2)
theorem calm_ok : ∀ (r : List Nat) (q : Nat), q < 2 ^ 20 → (∀ x, x ∈ r → x < 5) → (calmR r q).2 < 2 ^ 20 ∧ ∀ u, u < 5 → qget (calmR r q).2 u ≤ qget q u
  | [], q, h, _ => ⟨h, fun _ _ => Nat.le_refl _⟩
  | w :: r, q, h, h5 => by
    unfold calmR
    by_cases c : qget q w = 0
    · rw [if_pos c]; exact calm_ok r q h (fun x hx => h5 x (List.mem_cons_of_mem _ hx))
    · rw [if_neg c]
      have w5 := h5 w (by simp)
      obtain ⟨i1, i2⟩ := calm_ok r (qset q w 0) (q_lt h w5 (by omega)) (fun x hx => h5 x (List.mem_cons_of_mem _ hx))
      refine ⟨i1, fun u hu => ?_⟩
      have := i2 u hu
      rw [q_gs h w5 (by omega) hu] at this
      show qget (calmR r (qset q w 0)).2 u ≤ _
      split at this <;> omega
theorem bs {α β : Type} (a : α) (f : α → Option β) : (some a).bind f = f a := (Eq.refl _).trans (Eq.refl _)
theorem c_size {r : List Nat} (hr : r ∈ rg 5) : fX3_size (nI (encR r)) = some (nI r.length) := by unfold fX3_size; rw [a_size _ hr, bs]
theorem c_wAt {r : List Nat} (hr : r ∈ rg 5) {i : Nat} (hi : i < r.length) : fX3_walkerAt (nI i) (nI (encR r)) = some (nI (r.getD i 0)) := by unfold fX3_walkerAt; rw [a_at _ hr i hi, bs, nI_pred]
theorem c_quiet {q w : Nat} (hq : q < 2 ^ 20) (hw : w < 5) : fX3_quiet (nI w) (nI q) = some (nI (qget q w)) := by unfold fX3_quiet; rw [q_at hq hw, bs]
theorem c_setQ0 {q w : Nat} (hq : q < 2 ^ 20) (hw : w < 5) : fX3_setQuiet (nI w) 0 (nI q) = some (nI (qset q w 0)) := by
  have w0 : fX0_with (nI q) (nI w) 0 = some (nI (qset q w 0)) := q_with (v := 0) hq hw (by omega)
  unfold fX3_setQuiet; rw [w0, bs]
theorem c_calm (r : List Nat) (hr : r ∈ rg 5) : ∀ (rest pre : List Nat) (q n c : Nat), r = pre ++ rest → q < 2 ^ 20 → rest.length < c → lp (fun _ _ _ => none) (fX3_calm_b4_S (nI (encR r))) c (nI n) (nI pre.length) (nI q) = some (nI (n + (calmR rest q).1), nI (calmR rest q).2) := by
  intro rest
  have hlen := a_lt r hr
  induction rest with
  | nil =>
    intro pre q n c e hq h
    obtain ⟨c, rfl⟩ : ∃ m, c = m + 1 := ⟨c - 1, by omega⟩
    rw [lp_s]
    unfold fX3_calm_b4_S
    have hl : r.length = pre.length := by rw [e]; simp
    rw [c_size hr, bs, if_pos (nI_le (by omega) (by omega)), calmR, Nat.add_zero]
  | cons w rest ih =>
    intro pre q n c e hq h
    obtain ⟨c, rfl⟩ : ∃ m, c = m + 1 := ⟨c - 1, by simp at h; omega⟩
    rw [lp_s]
    have hl : r.length = pre.length + 1 + rest.length := by rw [e]; simp; omega
    have gw : r.getD pre.length 0 = w := by rw [e]; exact gd_mid _ _ _
    have w5 : w < 5 := by rw [← gw]; exact hlen.2.2.1 _ (by omega)
    have hqw := qg_lt q w
    have e0 : (nI (qget q w) ≤ 0) ↔ qget q w = 0 := by rw [show (0 : Int32) = nI 0 from rfl, nI_leI (by omega) (by omega)]; omega
    have i1 := ih (pre ++ [w]) q n c (by rw [e]; simp) hq (by simp at h; omega)
    have i2 := ih (pre ++ [w]) (qset q w 0) (n + 1) c (by rw [e]; simp) (q_lt hq w5 (by omega)) (by simp at h; omega)
    rw [show (pre ++ [w]).length = pre.length + 1 by simp] at i1 i2
    revert i1 i2
    generalize lp (fun _ _ _ => none) (fX3_calm_b4_S (nI (encR r))) c = kk
    intro i1 i2
    unfold fX3_calm_b4_S fX3_calm_b37
    rw [c_size hr, bs, if_neg (nI_ge (by omega) (by omega)), c_wAt hr (by omega), bs, gw, c_quiet hq w5, bs, bs, c_setQ0 hq w5, bs, nI_1, i1, nI_1, i2, calmR]
    by_cases c1 : qget q w = 0
    · rw [if_pos (e0.mpr c1), if_pos c1]
    · rw [if_neg (fun h => c1 (e0.mp h)), if_neg c1, show n + 1 + (calmR rest (qset q w 0)).1 = n + ((calmR rest (qset q w 0)).1 + 1) by omega]
theorem qset0 {q w : Nat} (h : qget q w = 0) : qset q w 0 = q := by unfold qset; rw [h]; omega
theorem m_calm {ml : Int32} {pl lost : Nat} (r : List Nat) (hr : r ∈ rg 5) (th ac : Int32) (bk : Nat → Int32) : ∀ (rest pre : List Nat) (q n c : Nat) (f : Nat → Int32), r = pre ++ rest → q < 2 ^ 20 → rest.length < c → PG f r q pl lost → ∃ f', PG f' r (calmR rest q).2 pl lost ∧ lp (fun _ _ _ _ _ _ => none) (fX5_rest_b30_S ml) c (nI n) (nI pre.length) th ac f bk = some (nI (n + (calmR rest q).1), th, ac, f', bk) := by
  intro rest
  have hlen := a_lt r hr
  have c5 : (5 : Int32).toNatClampNeg = 5 := by decide
  have g5 : ((5 : Int32) < 0 ∨ 13 ≤ 5) ↔ False := by decide
  induction rest with
  | nil =>
    intro pre q n c f e hq h hf
    obtain ⟨c, rfl⟩ : ∃ m, c = m + 1 := ⟨c - 1, by omega⟩
    rw [lp_s]
    refine ⟨f, hf, ?_⟩
    unfold fX5_rest_b30_S
    have hl : r.length = pre.length := by rw [e]; simp
    have cl : (nI r.length ≤ nI pre.length) ↔ True := by rw [nI_leI (by omega) (by omega)]; exact ⟨fun _ => trivial, fun _ => by omega⟩
    simp only [c5, g5, hf.2.1, cl, if_true, if_false, calmR, Nat.add_zero]
  | cons w rest ih =>
    intro pre q n c f e hq h hf
    obtain ⟨c, rfl⟩ : ∃ m, c = m + 1 := ⟨c - 1, by simp at h; omega⟩
    rw [lp_s]
    have hl : r.length = pre.length + 1 + rest.length := by rw [e]; simp; omega
    have gw : r.getD pre.length 0 = w := by rw [e]; exact gd_mid _ _ _
    have w5 : w < 5 := by rw [← gw]; exact hlen.2.2.1 _ (by omega)
    have fw : f pre.length = nI w := by rw [hf.1 _ (by omega), gw]
    have f6 : f (6 + w) = nI (qget q w) := hf.2.2.1 w w5
    have hqw := qg_lt q w
    have e0 : (nI (qget q w) ≤ 0) ↔ qget q w = 0 := by rw [show (0 : Int32) = nI 0 from rfl, nI_leI (by omega) (by omega)]; omega
    have a6 : (6 : Int32) + nI w = nI (6 + w) := nI_add 6 w
    have hP0 : PG (upd f (6 + w) 0) r (qset q w 0) pl lost := hf.q hlen.2.1 hq w5 (show 0 < 16 by omega)
    obtain ⟨f1, g1, g2⟩ := ih (pre ++ [w]) (qset q w 0) n c (upd f (6 + w) 0) (by rw [e]; simp) (q_lt hq w5 (by omega)) (by simp at h; omega) hP0
    obtain ⟨f2, g3, g4⟩ := ih (pre ++ [w]) (qset q w 0) (n + 1) c (upd f (6 + w) 0) (by rw [e]; simp) (q_lt hq w5 (by omega)) (by simp at h; omega) hP0
    rw [show (pre ++ [w]).length = pre.length + 1 by simp] at g2 g4
    revert g2 g4
    generalize lp (fun _ _ _ _ _ _ => none) (fX5_rest_b30_S ml) c = kk
    intro g2 g4
    have n0 : nI n + 0 = nI n := nI_add n 0
    have z0 : (nI 0 ≤ (0 : Int32)) ↔ True := by decide
    have cl : (nI r.length ≤ nI pre.length) ↔ False := by rw [nI_leI (by omega) (by omega)]; exact ⟨fun h => by omega, False.elim⟩
    by_cases c1 : qget q w = 0
    · refine ⟨f1, by simp only [calmR, c1, if_true]; rw [qset0 c1] at g1; exact g1, ?_⟩
      unfold fX5_rest_b30_S fX5_rest_b63
      rw [qset0 c1] at g2
      simp only [c5, g5, hf.2.1, cl, nI_clamp (show pre.length < 2 ^ 31 by omega), ig2 (show pre.length < 13 by omega) (by decide), fw, a6, nI_clamp (show 6 + w < 2 ^ 31 by omega), ig2 (show 6 + w < 13 by omega) (by decide), f6, e0, c1, z0, if_true, if_false, n0, nI_1, g2, calmR]
    · refine ⟨f2, by simp only [calmR, c1, if_false]; exact g3, ?_⟩
      unfold fX5_rest_b30_S fX5_rest_b63
      simp only [c5, g5, hf.2.1, cl, nI_clamp (show pre.length < 2 ^ 31 by omega), ig2 (show pre.length < 13 by omega) (by decide), fw, a6, nI_clamp (show 6 + w < 2 ^ 31 by omega), ig2 (show 6 + w < 13 by omega) (by decide), f6, e0, c1, if_true, if_false, nI_1, g4, calmR]
      rw [show n + ((calmR rest (qset q w 0)).1 + 1) = n + 1 + (calmR rest (qset q w 0)).1 by omega]
theorem op_rest {W L A N K k : Nat} {s : Wk} {AC : Nat → Int64} {pg book : Nat → Int32} (hP : PH W L A N K) (hs : WK W L s) (hg : PG pg s.1 s.2.1 s.2.2 (LO W s.1)) (hA : AR W L k AC book) (h14 : k ≤ 14) (th : Int32) :
    ∃ z w s' k', fX4_rest (nI k) (nI L) (nI (encR s.1)) (nI s.2.1) (nI s.2.2) AC = some z ∧ fX5_rest th (nI L) (nI k) pg book = some w ∧ z.1 = w.1 ∧ WK W L s' ∧ k' ≤ 14 ∧ z.2.1 = nI k' ∧ s'.1 = s.1 ∧ z.2.2.1 = nI s'.2.1 ∧ s'.2.2 = s.2.2 ∧ w.2.2.1 = nI k' ∧ PG w.2.2.2.1 s'.1 s'.2.1 s'.2.2 (LO W s'.1) ∧ AR W L k' z.2.2.2 w.2.2.2.2 := by
  have hP' := hP
  obtain ⟨p1, p2, p3, p4, p5, p6⟩ := hP'
  have hpl := hs.2.2.2.2
  have hlen := a_lt _ hs.1
  have c11 : (11 : Int32).toNatClampNeg = 11 := by decide
  have g11 : ((11 : Int32) < 0 ∨ 13 ≤ 11) ↔ False := by decide
  have eL : (nI s.2.2 = nI L) ↔ s.2.2 = L := nI_eq (by omega) (by omega)
  unfold fX4_rest fX5_rest
  simp only [c_out (show L < 2 ^ 31 by omega) (show s.2.2 < 2 ^ 31 by omega), Option.bind_some, c11, g11, hg.2.2.2.1, eL, if_false]
  by_cases hl : s.2.2 < L
  · obtain ⟨k', AC', b', r1, r2, r3, r4⟩ := op_note p3 hs hg hA h14
    have cc := c_calm s.1 hs.1 s.1 [] s.2.1 0 fu rfl hs.2.2.1 (by unfold fu; omega)
    obtain ⟨f', m1, m2⟩ := m_calm (ml := nI L) s.1 hs.1 0 (nI k') b' s.1 [] s.2.1 0 fu pg rfl hs.2.2.1 (by unfold fu; omega) hg
    have cc : fX3_calm (nI (encR s.1)) (nI s.2.1) = _ := cc
    have m2 : fX5_rest_b30 (nI L) 0 0 0 (nI k') pg b' = _ := m2
    obtain ⟨ok1, ok2⟩ := calm_ok s.1 s.2.1 hs.2.2.1 (mem5 hs.1)
    simp only [hl, if_true, r3, r4, Option.bind_some, cc, m2, show ¬ s.2.2 = L by omega, if_false]
    exact ⟨_, _, (s.1, (calmR s.1 s.2.1).2, s.2.2), k', rfl, rfl, rfl, ⟨hs.1, hs.2.1, ok1, fun u hu => Nat.le_trans (ok2 u hu) (hs.2.2.2.1 u hu), hpl⟩, r1, rfl, rfl, rfl, rfl, rfl, m1, r2⟩
  · have hsl : (s.2.2 = L) = True := eq_true (by omega)
    simp only [hl, if_false, one_ne, hsl, if_true]
    exact ⟨_, _, s, k, rfl, rfl, rfl, hs, h14, rfl, rfl, rfl, rfl, rfl, hg, hA⟩
