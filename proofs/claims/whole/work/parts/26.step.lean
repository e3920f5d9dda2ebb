/-! a whole MINUTE, a SONG: what both sides do, as one value -/
abbrev Wk : Type := List Nat × Nat × Nat
def WK (W L : Nat) (s : Wk) : Prop := s.1 ∈ rg 5 ∧ (∀ x, x ∈ s.1 → x < W) ∧ s.2.1 < 2 ^ 20 ∧ (∀ w, w < 5 → qget s.2.1 w ≤ s.2.2) ∧ s.2.2 ≤ L
def PH (W L A N K : Nat) : Prop := W ≤ 5 ∧ 1 ≤ L ∧ L ≤ 9 ∧ A ≤ 9 ∧ N < 2 ^ 20 ∧ K < 2 ^ 20
def stepW (A N K t : Nat) (s : Wk) : Wk × Nat × Nat := (((turnR N K s.1 (hearR K A s.2.2 t s.1 s.2.1)).1, (turnR N K s.1 (hearR K A s.2.2 t s.1 s.2.1)).2.1, s.2.2 + 1), (turnR N K s.1 (hearR K A s.2.2 t s.1 s.2.1)).2.2.1, (turnR N K s.1 (hearR K A s.2.2 t s.1 s.2.1)).2.2.2)
set_option maxRecDepth 100000 in
theorem a_nd : ∀ r ∈ rg 5, r.Nodup := by decide +kernel
theorem bits_mem : ∀ (r : List Nat) (u : Nat), (bitsN r).testBit u = decide (u ∈ r)
  | [], u => by simp [bitsN]
  | w :: r, u => by
    unfold bitsN
    rw [Nat.testBit_or, bits_mem r u, Nat.testBit_two_pow]
    by_cases h : w = u
    · simp [h]
    · simp [h, Ne.symm h]
theorem or_eq0 {a b : Nat} (h : a ||| b = 0) : a = 0 ∧ b = 0 := by
  constructor
  · apply Nat.eq_of_testBit_eq
    intro i
    have := congrArg (fun x => x.testBit i) h
    simp [Nat.testBit_or] at this
    simp [this]
  · apply Nat.eq_of_testBit_eq
    intro i
    have := congrArg (fun x => x.testBit i) h
    simp [Nat.testBit_or] at this
    simp [this]
theorem two_lt {b : Nat} (h : b < 5) : 2 ^ b < 2 ^ 5 := Nat.pow_lt_pow_right (by decide) h
theorem turn_ok {N K : Nat} : ∀ (m : Nat) (rest pre : List Nat) (q : Nat), rest.length ≤ m → pre ++ rest ∈ rg 5 → q < 2 ^ 20 →
    pre ++ (turnR N K rest q).1 ∈ rg 5 ∧ (∀ u, u ∈ (turnR N K rest q).1 → u ∈ rest) ∧ (turnR N K rest q).2.1 < 2 ^ 20 ∧ (∀ u, u < 5 → qget (turnR N K rest q).2.1 u ≤ qget q u) ∧ (∀ u, (turnR N K rest q).2.2.1.testBit u = true ↔ (u ∈ rest ∧ u ∉ (turnR N K rest q).1)) ∧ ((turnR N K rest q).2.2.1 = 0 ↔ (turnR N K rest q).2.2.2 = 0) ∧ (turnR N K rest q).2.2.1 < 2 ^ 5 ∧ (turnR N K rest q).2.2.2 < 2 ^ 5 := by
  intro m
  induction m with
  | zero =>
    intro rest pre q hm hr hq
    obtain rfl : rest = [] := List.length_eq_zero_iff.mp (by omega)
    exact ⟨hr, fun u h => h, hq, fun u _ => Nat.le_refl _, fun u => by simp [turnR], Iff.rfl, by simp [turnR], by simp [turnR]⟩
  | succ m ih =>
    intro rest pre q hm hr hq
    match rest, hm, hr with
    | [], hm, hr => exact ⟨hr, fun u h => h, hq, fun u _ => Nat.le_refl _, fun u => by simp [turnR], Iff.rfl, by simp [turnR], by simp [turnR]⟩
    | [w], hm, hr => exact ⟨hr, fun u h => h, hq, fun u _ => Nat.le_refl _, fun u => by simp [turnR], Iff.rfl, by simp [turnR], by simp [turnR]⟩
    | w :: b :: r, hm, hr =>
      have nd := (List.nodup_append.mp (a_nd _ hr)).2.1
      have hwb := List.nodup_cons.mp nd
      have hbr := List.nodup_cons.mp hwb.2
      have w5 : w < 5 := mem5 hr w (by simp)
      have b5 : b < 5 := mem5 hr b (by simp)
      by_cases c : qget K w ≠ 1 ∧ qget N w < qget q w
      · have wo := (a_wo _ hr (pre.length + 1) (by simp)).2
        rw [er_mid] at wo
        obtain ⟨i1, i2, i3, i4, i5, i6, i7, i8⟩ := ih r (pre ++ [w]) (qset q w 0) (by simp at hm; omega) (by simpa using wo) (q_lt hq w5 (by omega))
        have e : turnR N K (w :: b :: r) q = (w :: (turnR N K r (qset q w 0)).1, (turnR N K r (qset q w 0)).2.1, 2 ^ b ||| (turnR N K r (qset q w 0)).2.2.1, 2 ^ w ||| (turnR N K r (qset q w 0)).2.2.2) := by rw [turnR, if_pos c]
        rw [e]
        generalize turnR N K r (qset q w 0) = x at *
        refine ⟨by simpa using i1, fun u h => ?_, i3, fun u hu => ?_, fun u => ?_, ?_, Nat.or_lt_two_pow (two_lt b5) i7, Nat.or_lt_two_pow (two_lt w5) i8⟩
        · rcases List.mem_cons.mp h with h | h
          · rw [h]; simp
          · exact List.mem_cons_of_mem _ (List.mem_cons_of_mem _ (i2 u h))
        · have := i4 u hu
          rw [q_gs hq w5 (by omega) hu] at this
          show qget x.2.1 u ≤ qget q u
          split at this <;> omega
        · rw [Nat.testBit_or, Bool.or_eq_true, i5 u, Nat.testBit_two_pow, decide_eq_true_eq]
          have hbx : b ∉ x.1 := fun h => hbr.1 (i2 b h)
          constructor
          · rintro (h | h)
            · subst h
              exact ⟨by simp, fun h => by
                rcases List.mem_cons.mp h with h | h
                · exact hwb.1 (by rw [← h]; simp)
                · exact hbx h⟩
            · exact ⟨List.mem_cons_of_mem _ (List.mem_cons_of_mem _ h.1), fun h2 => by
                rcases List.mem_cons.mp h2 with h2 | h2
                · exact hwb.1 (by rw [← h2]; exact List.mem_cons_of_mem _ h.1)
                · exact h.2 h2⟩
          · rintro ⟨h1, h2⟩
            rcases List.mem_cons.mp h1 with h | h
            · exact absurd (by rw [h]; simp) h2
            · rcases List.mem_cons.mp h with h | h
              · exact Or.inl h.symm
              · exact Or.inr ⟨h, fun h3 => h2 (List.mem_cons_of_mem _ h3)⟩
        · have p1 := Nat.two_pow_pos b
          have p2 := Nat.two_pow_pos w
          exact ⟨fun h => by have := (or_eq0 h).1; omega, fun h => by have := (or_eq0 h).1; omega⟩
      · obtain ⟨i1, i2, i3, i4, i5, i6, i7, i8⟩ := ih (b :: r) (pre ++ [w]) q (by simp at hm ⊢; omega) (by simpa using hr) hq
        have e : turnR N K (w :: b :: r) q = (w :: (turnR N K (b :: r) q).1, (turnR N K (b :: r) q).2.1, (turnR N K (b :: r) q).2.2.1, (turnR N K (b :: r) q).2.2.2) := by rw [turnR, if_neg c]
        rw [e]
        generalize turnR N K (b :: r) q = x at *
        refine ⟨by simpa using i1, fun u h => ?_, i3, i4, fun u => ?_, i6, i7, i8⟩
        · rcases List.mem_cons.mp h with h | h
          · rw [h]; simp
          · exact List.mem_cons_of_mem _ (i2 u h)
        · show x.2.2.1.testBit u = true ↔ _
          rw [i5 u]
          constructor
          · rintro ⟨h1, h2⟩
            exact ⟨List.mem_cons_of_mem _ h1, fun h => by
              rcases List.mem_cons.mp h with h | h
              · exact hwb.1 (h ▸ h1)
              · exact h2 h⟩
          · rintro ⟨h1, h2⟩
            rcases List.mem_cons.mp h1 with h | h
            · exact absurd (by rw [h]; simp) h2
            · exact ⟨h, fun h3 => h2 (List.mem_cons_of_mem _ h3)⟩
theorem step_ok {W L A N K t : Nat} {s : Wk} (hP : PH W L A N K) (h : WK W L s) (hl : s.2.2 < L) : WK W L (stepW A N K t s).1 ∧ (∀ u, u ∈ (stepW A N K t s).1.1 → u ∈ s.1) ∧ (∀ u, (stepW A N K t s).2.1.testBit u = true ↔ (u ∈ s.1 ∧ u ∉ (stepW A N K t s).1.1)) ∧ ((stepW A N K t s).2.1 = 0 ↔ (stepW A N K t s).2.2 = 0) ∧ (stepW A N K t s).2.1 < 2 ^ 5 ∧ (stepW A N K t s).2.2 < 2 ^ 5 := by
  obtain ⟨h1, h2, h3, h4, h5⟩ := h
  obtain ⟨p1, p2, p3, p4, p5, p6⟩ := hP
  obtain ⟨a1, a2, a3⟩ := hear_ok (K := K) (A := A) (pl := s.2.2) (t := t) s.1 s.2.1 h3 (mem5 h1) (a_nd _ h1) (fun w hw => by have := h4 w (mem5 h1 w hw); omega)
  obtain ⟨i1, i2, i3, i4, i5, i6, i7, i8⟩ := turn_ok (N := N) (K := K) s.1.length s.1 [] (hearR K A s.2.2 t s.1 s.2.1) (Nat.le_refl _) h1 a1
  refine ⟨⟨i1, fun x hx => h2 x (i2 x hx), i3, fun w hw => ?_, hl⟩, i2, i5, i6, i7, i8⟩
  exact Nat.le_trans (i4 w hw) (Nat.le_trans (a2 w hw) (Nat.succ_le_succ (h4 w hw)))
def LO (W : Nat) (r : List Nat) : Nat := (2 ^ W - 1) ^^^ bitsN r
theorem LO_bit {W : Nat} {r : List Nat} (h : ∀ x, x ∈ r → x < W) (u : Nat) : (LO W r).testBit u = true ↔ (u < W ∧ u ∉ r) := by
  unfold LO
  rw [Nat.testBit_xor, bits_mem, Nat.testBit_two_pow_sub_one]
  by_cases h1 : u ∈ r
  · simp [h1, h u h1]
  · simp [h1]
theorem LO_step {W L A N K t : Nat} {s : Wk} (hP : PH W L A N K) (h : WK W L s) (hl : s.2.2 < L) : LO W s.1 ||| (stepW A N K t s).2.1 = LO W (stepW A N K t s).1.1 := by
  obtain ⟨o1, o2, o3, o4, o5, o6⟩ := step_ok (t := t) hP h hl
  apply Nat.eq_of_testBit_eq
  intro u
  rw [Bool.eq_iff_iff, Nat.testBit_or, Bool.or_eq_true, LO_bit h.2.1, o3 u, LO_bit o1.2.1]
  constructor
  · rintro (h1 | h1)
    · exact ⟨h1.1, fun h2 => h1.2 (o2 u h2)⟩
    · exact ⟨h.2.1 u h1.1, h1.2⟩
  · rintro ⟨h1, h2⟩
    by_cases h3 : u ∈ s.1
    · exact Or.inr ⟨h3, h2⟩
    · exact Or.inl ⟨h1, h3⟩
theorem c_step {W L A N K t : Nat} {s : Wk} (hP : PH W L A N K) (h : WK W L s) (ht : t < 32) (tu : Int32) : fX3_step (nI t) (nI A) (nI N) (nI K) (nI (encR s.1)) (nI s.2.1) (nI s.2.2) tu = some (nI (stepW A N K t s).2.1, nI (encR (stepW A N K t s).1.1), nI (stepW A N K t s).1.2.1, nI (s.2.2 + 1), nI (stepW A N K t s).2.2) := by
  obtain ⟨h1, h2, h3, h4, h5⟩ := h
  obtain ⟨p1, p2, p3, p4, p5, p6⟩ := hP
  have hlen := a_lt _ h1
  unfold fX3_step fX3_size
  simp only [a_size _ h1, Option.bind_some]
  have ch := c_hear (K := K) (A := A) (N := N) (pl := s.2.2) ht (by omega) p6 (by omega) tu s.1 h1 s.1 [] s.2.1 fu rfl h3 (fun w hw => by have := h4 w (mem5 h1 w hw); omega) (a_nd _ h1) (by unfold fu; omega)
  obtain ⟨a1, a2, a3⟩ := hear_ok (K := K) (A := A) (pl := s.2.2) (t := t) s.1 s.2.1 h3 (mem5 h1) (a_nd _ h1) (fun w hw => by have := h4 w (mem5 h1 w hw); omega)
  have ct := c_turn (N := N) (K := K) p5 p6 s.1.length s.1 [] (hearR K A s.2.2 t s.1 s.2.1) fu 0 0 (Nat.le_refl _) h1 a1 (by unfold fu; omega)
  have ct : fX3_turnRound (nI N) (nI K) (nI (encR s.1)) (nI (hearR K A s.2.2 t s.1 s.2.1)) tu = some (nI (0 ||| (turnR N K s.1 (hearR K A s.2.2 t s.1 s.2.1)).2.2.1), nI (encR ([] ++ (turnR N K s.1 (hearR K A s.2.2 t s.1 s.2.1)).1)), nI (turnR N K s.1 (hearR K A s.2.2 t s.1 s.2.1)).2.1, nI (0 ||| (turnR N K s.1 (hearR K A s.2.2 t s.1 s.2.1)).2.2.2)) := ct
  rw [ct] at ch
  have ch : fX3_step_b9 (nI A) (nI N) (nI K) (nI t) (nI s.1.length - 1) 0 (nI (encR s.1)) (nI s.2.1) (nI s.2.2) tu = _ := ch
  rw [ch]
  simp only [Option.bind_some, Nat.zero_or, List.nil_append, nI_1]
  rfl
theorem m_step {W L A N K t : Nat} {s : Wk} {f nv kd : Nat → Int32} (hP : PH W L A N K) (h : WK W L s) (hl : s.2.2 < L) (ht : t < 32) (hk : KR W K kd) (hv : KR W N nv) (hf : PG f s.1 s.2.1 s.2.2 (LO W s.1)) (tu : Int32) : ∃ f', PG f' (stepW A N K t s).1.1 (stepW A N K t s).1.2.1 (s.2.2 + 1) (LO W (stepW A N K t s).1.1) ∧ fX5_goMinute (nI t) (nI A) tu nv kd f = some (nI (stepW A N K t s).2.1, nI (stepW A N K t s).2.2, f') := by
  have hLO := LO_step (t := t) hP h hl
  obtain ⟨h1, h2, h3, h4, h5⟩ := h
  obtain ⟨p1, p2, p3, p4, p5, p6⟩ := hP
  have hlen := a_lt _ h1
  obtain ⟨a1, a2, a3⟩ := hear_ok (K := K) (A := A) (pl := s.2.2) (t := t) s.1 s.2.1 h3 (mem5 h1) (a_nd _ h1) (fun w hw => by have := h4 w (mem5 h1 w hw); omega)
  obtain ⟨f1, g1, g2⟩ := m_hear (K := K) (A := A) (W := W) (pl := s.2.2) (lost := LO W s.1) (nv := nv) ht (by omega) p1 (by omega) hk tu s.1 h1 h2 s.1 [] s.2.1 fu f rfl h3 (fun w hw => by have := h4 w (mem5 h1 w hw); omega) (a_nd _ h1) (by unfold fu; omega) hf
  obtain ⟨f2, g3, g4⟩ := m_turn (A := A) (N := N) (K := K) (W := W) (pl := s.2.2) (lt := LO W s.1) p1 (by omega) hk hv s.1.length s.1 [] (hearR K A s.2.2 t s.1 s.2.1) fu 0 0 f1 (Nat.le_refl _) h1 h2 a1 (by unfold fu; omega) g1
  refine ⟨f2, ?_, ?_⟩
  · rw [← hLO]
    simp only [Nat.zero_or, List.nil_append] at g3
    exact g3
  · have g2 : fX5_goMinute (nI t) (nI A) tu nv kd f = fX5_goMinute_b87 (nI A) nv kd 0 0 0 f1 := g2
    rw [g2]
    have g4 : fX5_goMinute_b87 (nI A) nv kd 0 0 0 f1 = _ := g4
    rw [g4]
    simp only [Nat.zero_or]
    rfl
