/-! a part of a row, by the class; a song under any lost bits, by the model -/
def onl (r : List Nat) (M : Nat) : List Nat := r.filter (fun w => M.testBit w)
theorem tb0_dec : ∀ t, t < 32 → ∀ b, b < 5 → (((nI t >>> (nI b &&& 31)) &&& (1 : Int32)) = 0 ↔ t.testBit b = false) := by decide +kernel
theorem er_mid0 (pre : List Nat) (w : Nat) (r : List Nat) : (pre ++ w :: r).eraseIdx pre.length = pre ++ r := by
  rw [List.eraseIdx_append_of_length_le (Nat.le_refl _)]; simp
theorem c_only_l {r : List Nat} (hr : r ∈ rg 5) {M : Nat} (hM : M < 32) : ∀ (i c : Nat) (pre rest : List Nat), pre.length = i → r = pre ++ rest → pre ++ onl rest M ∈ rg 5 → i < c → lp (fun _ _ _ _ => none) fX0_only_b9_S c (nI (encR r)) (nI M) (nI (encR (pre ++ onl rest M))) (nI i - 1) = some (nI (encR (onl r M))) ∧ onl r M ∈ rg 5 := by
  have h5 := (a_lt _ hr).2.1
  intro i
  induction i with
  | zero =>
    intro c pre rest e1 e2 h hc
    obtain ⟨c, rfl⟩ : ∃ m, c = m + 1 := ⟨c - 1, by omega⟩
    obtain rfl : pre = [] := List.length_eq_zero_iff.mp e1
    rw [List.nil_append] at e2 h
    subst e2
    rw [lp_s]
    unfold fX0_only_b9_S
    rw [if_pos (show nI 0 - (1 : Int32) < 0 by decide)]
    exact ⟨rfl, h⟩
  | succ i ih =>
    intro c pre rest e1 e2 h hc
    obtain ⟨c, rfl⟩ : ∃ m, c = m + 1 := ⟨c - 1, by omega⟩
    obtain ⟨pre, w, rfl⟩ : ∃ a b, pre = a ++ [b] := ⟨pre.dropLast, pre.getLast (fun q => by rw [q] at e1; simp at e1), (List.dropLast_concat_getLast _).symm⟩
    have e1' : pre.length = i := by simpa using e1
    have e2' : r = pre ++ w :: rest := by rw [e2]; simp
    have h' : pre ++ w :: onl rest M ∈ rg 5 := by simpa using h
    have hlen : r.length = pre.length + (rest.length + 1) := by rw [e2']; simp
    have w5 : w < 5 := mem5 hr w (by rw [e2']; simp)
    have at1 := a_at _ hr i (by omega)
    have gw : r.getD i 0 = w := by rw [e2', ← e1', gd_mid]
    rw [gw] at at1
    have wo := a_wo _ h' i (by simp; omega)
    rw [show i = pre.length from e1'.symm, er_mid0, e1'] at wo
    have i1 := fun h => ih c pre (w :: rest) e1' e2' h (by omega)
    rw [lp_s]
    revert i1
    generalize lp (fun _ _ _ _ => none) fX0_only_b9_S c = kk
    intro i1
    have p1 : nI (i + 1) - (1 : Int32) = nI i := nI_pred i
    have p2 : nI (w + 1) - (1 : Int32) = nI w := nI_pred w
    unfold fX0_only_b9_S fX0_only_b33
    rw [p1, if_neg (nI_pos (by omega)), at1, bs, p2, show pre ++ [w] ++ onl rest M = pre ++ w :: onl rest M by simp, wo.1, bs, pred6 i (by omega)]
    have tb := tb0_dec M hM w w5
    by_cases b : M.testBit w = false
    · have o : onl (w :: rest) M = onl rest M := by unfold onl; rw [List.filter_cons, if_neg (by rw [b]; decide)]
      rw [o] at i1
      rw [if_pos (tb.mpr b)]
      exact i1 wo.2
    · have o : onl (w :: rest) M = w :: onl rest M := by unfold onl; rw [List.filter_cons, if_pos (by simpa using b)]
      rw [o] at i1
      rw [if_neg (fun q => b (tb.mp q))]
      exact i1 h'
theorem a_only {r : List Nat} (hr : r ∈ rg 5) {M : Nat} (hM : M < 32) : fX0_only (nI (encR r)) (nI M) = some (nI (encR (onl r M))) ∧ onl r M ∈ rg 5 := by
  have h5 := (a_lt _ hr).2.1
  have e : r ++ onl [] M = r := by unfold onl; simp
  have := c_only_l hr hM r.length fu r [] rfl (by simp) (by rw [e]; exact hr) (by unfold fu; omega)
  rw [e] at this
  refine ⟨?_, this.2⟩
  unfold fX0_only
  rw [a_size _ hr, bs]
  exact this.1
theorem m_stepG {W L A N K t lt : Nat} {s : Wk} {f nv kd : Nat → Int32} (hP : PH W L A N K) (h : WK W L s) (hl : s.2.2 < L) (ht : t < 32) (hk : KR W K kd) (hv : KR W N nv) (hf : PG f s.1 s.2.1 s.2.2 lt) (tu : Int32) : ∃ f' lt', PG f' (stepW A N K t s).1.1 (stepW A N K t s).1.2.1 (s.2.2 + 1) lt' ∧ fX5_goMinute (nI t) (nI A) tu nv kd f = some (nI (stepW A N K t s).2.1, nI (stepW A N K t s).2.2, f') := by
  obtain ⟨h1, h2, h3, h4, h5⟩ := h
  obtain ⟨p1, p2, p3, p4, p5, p6⟩ := hP
  have hlen := a_lt _ h1
  obtain ⟨a1, a2, a3⟩ := hear_ok (K := K) (A := A) (pl := s.2.2) (t := t) s.1 s.2.1 h3 (mem5 h1) (a_nd _ h1) (fun w hw => by have := h4 w (mem5 h1 w hw); omega)
  obtain ⟨f1, g1, g2⟩ := m_hear (K := K) (A := A) (W := W) (pl := s.2.2) (lost := lt) (nv := nv) ht (by omega) p1 (by omega) hk tu s.1 h1 h2 s.1 [] s.2.1 fu f rfl h3 (fun w hw => by have := h4 w (mem5 h1 w hw); omega) (a_nd _ h1) (by unfold fu; omega) hf
  obtain ⟨f2, g3, g4⟩ := m_turn (A := A) (N := N) (K := K) (W := W) (pl := s.2.2) (lt := lt) p1 (by omega) hk hv s.1.length s.1 [] (hearR K A s.2.2 t s.1 s.2.1) fu 0 0 f1 (Nat.le_refl _) h1 h2 a1 (by unfold fu; omega) g1
  refine ⟨f2, lt ||| (stepW A N K t s).2.1, ?_, ?_⟩
  · simp only [Nat.zero_or, List.nil_append] at g3
    exact g3
  · have g2 : fX5_goMinute (nI t) (nI A) tu nv kd f = fX5_goMinute_b87 (nI A) nv kd 0 0 0 f1 := g2
    rw [g2]
    have g4 : fX5_goMinute_b87 (nI A) nv kd 0 0 0 f1 = _ := g4
    rw [g4]
    simp only [Nat.zero_or]
    rfl
theorem m_singG {W L A N K m n : Nat} {nv kd : Nat → Int32} (hP : PH W L A N K) (hm : m < 2 ^ 63) (hn : n ≤ 5) (htd : ∀ k, k < n → td n m k < 32) (hk : KR W K kd) (hv : KR W N nv) : ∀ (d k c : Nat) (s : Wk) (fs : Option Nat) (tu : Int32) (f : Nat → Int32) (lt : Nat), k + d = n → d < c → WK W L s → (∀ j, fs = some j → j < 100) → PG f s.1 s.2.1 s.2.2 lt →
    ∃ tu' f' lt', PG f' (singN L A N K (td n m) d k s fs).1.1 (singN L A N K (td n m) d k s fs).1.2.1 (singN L A N K (td n m) d k s fs).1.2.2 lt' ∧ lp (fun _ _ _ _ _ _ => none) (fX5_sing_b7_S (nI L) (nI A) nv kd) c (nI n) (lN m) (fi fs) (nI k) tu f = some (fi (singN L A N K (td n m) d k s fs).2, tu', f') := by
  intro d
  have hP' := hP
  obtain ⟨p1, p2, p3, p4, p5, p6⟩ := hP'
  have c11 : (11 : Int32).toNatClampNeg = 11 := by decide
  have g11 : ((11 : Int32) < 0 ∨ 13 ≤ 11) ↔ False := by decide
  induction d with
  | zero =>
    intro k c s fs tu f lt e h hs hf hg
    obtain ⟨c, rfl⟩ : ∃ m, c = m + 1 := ⟨c - 1, by omega⟩
    rw [lp_s]
    refine ⟨tu, f, lt, hg, ?_⟩
    unfold fX5_sing_b7_S singN
    rw [if_pos (nI_le (by omega) (by omega))]
  | succ d ih =>
    intro k c s fs tu f lt e h hs hf hg
    obtain ⟨c, rfl⟩ : ∃ m, c = m + 1 := ⟨c - 1, by omega⟩
    have hs5 := hs.2.2.2.2
    have h11 := hg.2.2.2.1
    rw [lp_s]
    by_cases hl : s.2.2 < L
    · have so := step_ok (t := td n m k) hP hs hl
      have z := stp32 (t := td n m k) hP hs hl
      obtain ⟨f1, lt1, j1, j2⟩ := m_stepG hP hs hl (htd k (by omega)) hk hv hg tu
      obtain ⟨tu', f', lt', i0, i1⟩ := ih (k + 1) c (stepW A N K (td n m k) s).1 (if fs = none ∧ (stepW A N K (td n m k) s).2.1 ≠ 0 then some k else fs) (nI (stepW A N K (td n m k) s).2.2) f1 lt1 (by omega) (by omega) so.1 (by
        intro j hj
        split at hj
        · cases hj; omega
        · exact hf j hj) j1
      have e1 : singN L A N K (td n m) (d + 1) k s fs = singN L A N K (td n m) d (k + 1) (stepW A N K (td n m k) s).1 (if fs = none ∧ (stepW A N K (td n m k) s).2.1 ≠ 0 then some k else fs) := by rw [singN, if_pos hl]
      rw [e1]
      refine ⟨tu', f', lt', i0, ?_⟩
      rw [← i1]
      generalize lp (fun _ _ _ _ _ _ => none) (fX5_sing_b7_S (nI L) (nI A) nv kd) c = kk
      unfold fX5_sing_b7_S fX5_sing_b63 fX5_sing_b61 fX5_sing_b63
      have cl : (nI L ≤ nI s.2.2) ↔ False := by rw [nI_leI (by omega) (by omega)]; exact ⟨fun h => by omega, False.elim⟩
      rw [if_neg (nI_ge (by omega) (by omega))]
      simp only [c11, g11, h11, cl, m_tr hm hn (show k < n by omega), j2, Option.bind_some, if_false, z.1, fi_none hf, nI_1]
      by_cases c1 : (stepW A N K (td n m k) s).2.1 = 0
      · simp only [c1, if_true, ne_eq, not_true_eq_false, and_false, if_false]
      · by_cases c2 : fs = none
        · simp only [c1, c2, if_true, if_false, ne_eq, not_false_eq_true, and_self]
          rfl
        · simp only [c1, c2, if_true, if_false, ne_eq, not_false_eq_true, false_and]
    · refine ⟨tu, f, lt, ?_, ?_⟩
      · rw [singN, if_neg hl]; exact hg
      · rw [singN, if_neg hl]
        unfold fX5_sing_b7_S
        have cl : (nI L ≤ nI s.2.2) ↔ True := by rw [nI_leI (by omega) (by omega)]; exact ⟨fun _ => trivial, fun _ => by omega⟩
        rw [if_neg (nI_ge (by omega) (by omega))]
        simp only [c11, g11, h11, cl, if_true, if_false]
