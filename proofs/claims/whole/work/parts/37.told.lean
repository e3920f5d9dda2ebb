/-! TOLD: tell, untell, letGo -/
def hM (mn : Nat → Nat) (hd : Nat → Bool) : Nat → Nat
  | 0 => 0
  | t + 1 => if hd t = true then hM mn hd t ||| 2 ^ mn t else hM mn hd t
def sM (mn : Nat → Nat) (hd : Nat → Bool) : Nat → Nat
  | 0 => 0
  | t + 1 => if hd t = true then sM mn hd t else sM mn hd t ||| 2 ^ mn t
def okT (q : Bool) (mn : Nat → Nat) (hd : Nat → Bool) (g : Nat) : Nat → Bool
  | 0 => true
  | t + 1 => okT q mn hd g t && (if hd t = true then decide (mn t < g) else (q || decide (g ≤ mn t)))
def TD (hc sc tc tm : Int32) (tM tH : Nat → Int32) : Prop := ∃ (mn : Nat → Nat) (hd : Nat → Bool) (t : Nat), t ≤ 6 ∧ (∀ i, i < t → mn i ≤ 8) ∧ hc = nI (hM mn hd t) ∧ sc = nI (sM mn hd t) ∧ tc = nI t ∧ tm = nI t ∧ ∀ i, i < t → tM i = nI (mn i) ∧ tH i = if hd i = true then 1 else 0
theorem hM_lt {mn : Nat → Nat} {hd : Nat → Bool} : ∀ t, (∀ i, i < t → mn i ≤ 8) → hM mn hd t < 2 ^ 9 ∧ sM mn hd t < 2 ^ 9
  | 0, _ => ⟨show 0 < 2 ^ 9 by decide, show 0 < 2 ^ 9 by decide⟩
  | t + 1, h => by
    obtain ⟨a, b⟩ := hM_lt t (fun i hi => h i (by omega))
    have p : 2 ^ mn t < 2 ^ 9 := Nat.pow_lt_pow_right (by decide) (by have := h t (by omega); omega)
    unfold hM sM
    by_cases c : hd t = true
    · rw [if_pos c, if_pos c]; exact ⟨Nat.or_lt_two_pow a p, b⟩
    · rw [if_neg c, if_neg c]; exact ⟨a, Nat.or_lt_two_pow b p⟩
theorem hM_c {mn mn' : Nat → Nat} {hd hd' : Nat → Bool} : ∀ t, (∀ i, i < t → mn' i = mn i ∧ hd' i = hd i) → hM mn' hd' t = hM mn hd t ∧ sM mn' hd' t = sM mn hd t
  | 0, _ => ⟨rfl, rfl⟩
  | t + 1, h => by
    obtain ⟨a, b⟩ := hM_c t (fun i hi => h i (by omega))
    obtain ⟨c, d⟩ := h t (by omega)
    unfold hM sM
    rw [a, b, c, d]
    exact ⟨rfl, rfl⟩
theorem okT_iff {mn : Nat → Nat} {hd : Nat → Bool} {g : Nat} (hg : g < 10) (q : Bool) : ∀ t, (∀ i, i < t → mn i ≤ 8) → (okT q mn hd g t = true ↔ (hM mn hd t < 2 ^ g ∧ (q = true ∨ sM mn hd t % 2 ^ g = 0)))
  | 0, _ => by
    unfold okT hM sM
    exact ⟨fun _ => ⟨Nat.two_pow_pos g, Or.inr (Nat.zero_mod _)⟩, fun _ => rfl⟩
  | t + 1, h => by
    have ih := okT_iff (hd := hd) hg q t (fun i hi => h i (by omega))
    obtain ⟨b1, b2⟩ := hM_lt (hd := hd) t (fun i hi => h i (by omega))
    have m8 := h t (by omega)
    unfold okT hM sM
    rw [Bool.and_eq_true, ih]
    by_cases c : hd t = true
    · rw [if_pos c, if_pos c, if_pos c, or_ltg _ b1 _ (by omega) g hg, decide_eq_true_eq]
      exact ⟨fun x => ⟨⟨x.1.1, x.2⟩, x.1.2⟩, fun x => ⟨⟨x.1.1, x.2⟩, x.1.2⟩⟩
    · rw [if_neg c, if_neg c, if_neg c, or_mdg _ b2 _ (by omega) g hg, Bool.or_eq_true, decide_eq_true_eq]
      exact ⟨fun x => ⟨x.1.1, x.2.elim Or.inl (fun y => x.1.2.elim Or.inl (fun z => Or.inr ⟨z, y⟩))⟩, fun x => ⟨⟨x.1, x.2.elim Or.inl (fun z => Or.inr z.1)⟩, x.2.elim Or.inl (fun z => Or.inr z.2)⟩⟩
def lgN (f : Nat → Bool) : Nat → Nat → Nat → Nat
  | 0, _, a => a
  | d + 1, g, a => lgN f d (g + 1) (if f g = true then a ||| 2 ^ g else a)
theorem c_letGo {mn : Nat → Nat} {hd : Nat → Bool} {t : Nat} (ht : t ≤ 6) (hm : ∀ i, i < t → mn i ≤ 8) {j : Int32} : ∀ (d g c a : Nat), g + d = 10 → d < c → lp (fun _ _ _ => none) (fX4_letGo_b4_S (nI (hM mn hd t)) (nI (sM mn hd t))) c j (nI a) (nI g) = some (nI (lgN (fun g => okT (decide (j = 0)) mn hd g t) d g a)) := by
  obtain ⟨b1, b2⟩ := hM_lt (hd := hd) t hm
  intro d
  induction d with
  | zero =>
    intro g c a e hc
    obtain ⟨c, rfl⟩ : ∃ m, c = m + 1 := ⟨c - 1, by omega⟩
    rw [lp_s]
    unfold fX4_letGo_b4_S
    rw [if_pos (show (9 : Int32) < nI g from nI_lt (a := 9) (by omega) (by omega))]
    rfl
  | succ d ih =>
    intro g c a e hc
    obtain ⟨c, rfl⟩ : ∃ m, c = m + 1 := ⟨c - 1, by omega⟩
    rw [lp_s]
    have i1 := fun a => ih (g + 1) c a (by omega) (by omega)
    revert i1
    generalize lp (fun _ _ _ => none) (fX4_letGo_b4_S (nI (hM mn hd t)) (nI (sM mn hd t))) c = kk
    intro i1
    have ok := okT_iff (hd := hd) (g := g) (by omega) (decide (j = 0)) t hm
    rw [decide_eq_true_eq] at ok
    have hh := hm_dec g (by omega) _ b1
    have hs := sm_dec g (by omega) _ b2
    unfold fX4_letGo_b4_S fX4_letGo_b34 fX4_letGo_b50 fX4_letGo_b55 fX4_letGo_b73
    rw [if_neg (show ¬ (9 : Int32) < nI g from fun q => by have := (nI_ltI (a := 9) (b := g) (by decide) (by omega)).mp q; omega), lgN, nI_1]
    by_cases x : hM mn hd t < 2 ^ g
    · rw [if_pos (hh.mpr x), if_neg one_ne, if_neg one_ne]
      by_cases y : j = 0
      · rw [if_pos y, if_pos (ok.mpr ⟨x, Or.inl y⟩), sh_dec g (by omega), fa_or, i1]
      · rw [if_neg y]
        by_cases z : sM mn hd t % 2 ^ g = 0
        · rw [if_pos (hs.mpr z), if_pos (ok.mpr ⟨x, Or.inr z⟩), sh_dec g (by omega), fa_or, i1]
        · rw [if_neg (fun q => z (hs.mp q)), if_neg one_ne, if_pos rfl, if_neg (fun q => (ok.mp q).2.elim y z), i1]
    · rw [if_neg (fun q => x (hh.mp q)), if_pos rfl, if_pos rfl, if_neg (fun q => x (ok.mp q).1)]
      by_cases y : j = 0
      · rw [if_pos y, i1]
      · rw [if_neg y, ite_self, i1]
theorem m_letGo_i {mn : Nat → Nat} {hd : Nat → Bool} {t g a : Nat} {tM tH : Nat → Int32} (ht : t ≤ 6) (hg : g < 10) (hm : ∀ i, i < t → mn i ≤ 8) (hT : ∀ i, i < t → tM i = nI (mn i) ∧ tH i = if hd i = true then 1 else 0) {j th : Int32} (k9 : Int32 → Int32 → Int32 → Int32 → Option (Int32 × Int32)) : ∀ (d i c : Nat), i + d = t → d < c →
    lp (fun _ _ _ _ _ _ => none) (fX5_letGo_b21_S (nI t) tM tH k9) c j (nI a) (nI g) (if okT (decide (j = 0)) mn hd g i = true then 1 else 0) (nI i) th = k9 j (nI (if okT (decide (j = 0)) mn hd g t = true then a ||| 2 ^ g else a)) (nI (g + 1)) th := by
  intro d
  induction d with
  | zero =>
    intro i c e hc
    obtain ⟨c, rfl⟩ : ∃ m, c = m + 1 := ⟨c - 1, by omega⟩
    have ei : i = t := by omega
    rw [lp_s]
    unfold fX5_letGo_b21_S fX5_letGo_b106
    rw [ei, if_pos (nI_le (Nat.le_refl _) (by omega)), nI_1, sh_dec g hg]
    by_cases o : okT (decide (j = 0)) mn hd g t = true
    · rw [if_pos o, if_neg one_ne, if_pos o, fa_or]
    · rw [if_neg o, if_pos rfl, if_neg o, show (0 : Int32) = nI 0 from rfl, fa_or, Nat.or_zero]
  | succ d ih =>
    intro i c e hc
    obtain ⟨c, rfl⟩ : ∃ m, c = m + 1 := ⟨c - 1, by omega⟩
    rw [lp_s]
    have i1 := ih (i + 1) c (by omega) (by omega)
    revert i1
    generalize lp (fun _ _ _ _ _ _ => none) (fX5_letGo_b21_S (nI t) tM tH k9) c = kk
    intro i1
    obtain ⟨t1, t2⟩ := hT i (by omega)
    have m8 := hm i (by omega)
    have gi : ¬ (nI i < 0 ∨ 6 ≤ (nI i).toNatClampNeg) := fun q => by rw [ig (by omega)] at q; omega
    rw [okT] at i1
    unfold fX5_letGo_b21_S fX5_letGo_b46 fX5_letGo_b80 fX5_letGo_b84 fX5_letGo_b85
    rw [if_neg (nI_ge (by omega) (by omega)), if_neg gi, nI_clamp (by omega), t1, t2, nI_1]
    simp only [ig2 (show i < 6 by omega) (show 6 ≤ 1000 by decide), if_false]
    by_cases o : okT (decide (j = 0)) mn hd g i = true
    · simp only [o, if_true, one_ne, if_false, Bool.true_and] at i1 ⊢
      by_cases h : hd i = true
      · simp only [h, if_true, one_ne, if_false] at i1 ⊢
        by_cases x : mn i < g
        · rw [if_neg (nI_ge x (by omega))]
          rw [if_pos (decide_eq_true x)] at i1
          exact i1
        · rw [if_pos (nI_le (by omega) (by omega))]
          rw [if_neg (fun q => x (of_decide_eq_true q))] at i1
          exact i1
      · simp only [h, if_true, one_ne, if_false] at i1 ⊢
        by_cases x : g ≤ mn i
        · rw [if_pos (nI_le x (by omega))]
          rw [if_pos (by simp [x])] at i1
          exact i1
        · rw [if_neg (nI_ge (by omega) (by omega))]
          by_cases y : j = 0
          · rw [if_pos (by simp [y])] at i1
            rw [if_pos y]
            exact i1
          · rw [if_neg (by simp [x, y])] at i1
            rw [if_neg y]
            exact i1
    · have o2 : okT (decide (j = 0)) mn hd g i = false := by simpa using o
      simp only [o2, Bool.false_and, if_true, Bool.false_eq_true, if_false] at i1 ⊢
      rw [ite_self]
      exact i1
theorem m_letGo {mn : Nat → Nat} {hd : Nat → Bool} {t : Nat} {tM tH : Nat → Int32} (ht : t ≤ 6) (hm : ∀ i, i < t → mn i ≤ 8) (hT : ∀ i, i < t → tM i = nI (mn i) ∧ tH i = if hd i = true then 1 else 0) {j th : Int32} : ∀ (d g c a : Nat), g + d = 10 → d < c → lp (fun _ _ _ _ => none) (fX5_letGo_b9_S (nI t) tM tH) c j (nI a) (nI g) th = some (nI (lgN (fun g => okT (decide (j = 0)) mn hd g t) d g a), th) := by
  intro d
  induction d with
  | zero =>
    intro g c a e hc
    obtain ⟨c, rfl⟩ : ∃ m, c = m + 1 := ⟨c - 1, by omega⟩
    rw [lp_s]
    unfold fX5_letGo_b9_S
    rw [if_pos (show (9 : Int32) < nI g from nI_lt (a := 9) (by omega) (by omega))]
    rfl
  | succ d ih =>
    intro g c a e hc
    obtain ⟨c, rfl⟩ : ∃ m, c = m + 1 := ⟨c - 1, by omega⟩
    rw [lp_s]
    have i1 := fun a => ih (g + 1) c a (by omega) (by omega)
    revert i1
    generalize lp (fun _ _ _ _ => none) (fX5_letGo_b9_S (nI t) tM tH) c = kk
    intro i1
    unfold fX5_letGo_b9_S
    rw [if_neg (show ¬ (9 : Int32) < nI g from fun q => by have := (nI_ltI (a := 9) (b := g) (by decide) (by omega)).mp q; omega)]
    have m := m_letGo_i (a := a) (j := j) (th := th) ht (show g < 10 by omega) hm hT kk t 0 fu (by omega) (by unfold fu; omega)
    rw [show okT (decide (j = 0)) mn hd g 0 = true from rfl, if_pos rfl] at m
    have m : fX5_letGo_b21 (nI t) tM tH kk j (nI a) (nI g) 1 0 th = _ := m
    rw [m, i1, lgN]
theorem op_letGo {hc sc tc tm : Int32} {tM tH : Nat → Int32} (h : TD hc sc tc tm tM tH) (j th : Int32) : ∃ z w, fX4_letGo j hc sc = some z ∧ fX5_letGo j th tm tM tH = some w ∧ z = w.1 := by
  obtain ⟨mn, hd, t, ht, hm, rfl, rfl, rfl, rfl, hT⟩ := h
  exact ⟨_, _, c_letGo ht hm 10 0 fu 0 (by omega) (by unfold fu; omega), m_letGo ht hm hT 10 0 fu 0 (by omega) (by unfold fu; omega), rfl⟩
theorem op_tell {hc sc tc tm : Int32} {tM tH : Nat → Int32} (h : TD hc sc tc tm tM tH) (j b th : Int32) (hb : b = 0 ∨ b = 1) : ∃ z w, fX4_tell j b hc sc tc = some z ∧ fX5_tell j b th tm tM tH = some w ∧ z.1 = w.1 ∧ TD z.2.1 z.2.2.1 z.2.2.2 w.2.2.1 w.2.2.2.1 w.2.2.2.2 := by
  have h0 := h
  obtain ⟨mn, hd, t, ht, hm, rfl, rfl, rfl, rfl, hT⟩ := h0
  obtain ⟨b1, b2⟩ := hM_lt (hd := hd) t hm
  unfold fX4_tell fX5_tell
  rw [m_within, bs, show (0 : Int64) = lN 0 from rfl, show (8 : Int64) = lN 8 from rfl, m_in j (by decide) (by decide), bs]
  by_cases c : ∃ m, m ≤ 8 ∧ j = nI m
  · have cj := (le_of j (b := 8) (by omega)).mpr c
    have cj1 : (0 : Int32) ≤ j ∧ j ≤ 8 := cj
    have cj2 : nI 0 ≤ j ∧ j ≤ nI 8 := cj
    obtain ⟨m, hm8, rfl⟩ := c
    rw [if_pos cj1, if_pos cj2, if_neg one_ne, if_neg one_ne]
    by_cases t6 : t < 6
    · have nf : ¬ (nI t < 0 ∨ 6 ≤ (nI t).toNatClampNeg) := fun q => by rw [ig (by omega)] at q; omega
      rw [if_pos (show nI t < (6 : Int32) from nI_lt (b := 6) t6 (by decide)), if_neg (show ¬ nI t = (6 : Int32) from fun q => by have := (nI_eq (a := t) (b := 6) (by omega) (by decide)).mp q; omega), if_neg nf, if_neg nf, nI_clamp (by omega), sh_dec m (by omega), fa_or, fa_or]
      unfold fX4_tell_b56
      rw [nI_1]
      have hcc := hM_c (mn := mn) (mn' := fun i => if i = t then m else mn i) (hd := hd) (hd' := fun i => if i = t then decide (b = 1) else hd i) t (fun i hi => ⟨if_neg (by omega), if_neg (by omega)⟩)
      have v1 : (fun i => if i = t then m else mn i) t = m := if_pos rfl
      have v2 : (fun i => if i = t then decide (b = 1) else hd i) t = decide (b = 1) := if_pos rfl
      have T : ∀ i, i < t + 1 → upd tM t (nI m) i = nI ((fun i => if i = t then m else mn i) i) ∧ upd tH t (vp_nar .boolean b) i = if (fun i => if i = t then decide (b = 1) else hd i) i = true then 1 else 0 := fun i hi => by
        by_cases e : i = t
        · subst e
          rw [pk_us, pk_us, v1, v2]
          refine ⟨rfl, ?_⟩
          rcases hb with rfl | rfl <;> decide
        · rw [pk_un e, pk_un e]
          have e1 : (fun i => if i = t then m else mn i) i = mn i := if_neg e
          have e2 : (fun i => if i = t then decide (b = 1) else hd i) i = hd i := if_neg e
          rw [e1, e2]
          exact hT i (by omega)
      have M8 : ∀ i, i < t + 1 → (fun i => if i = t then m else mn i) i ≤ 8 := fun i hi => by
        show (if i = t then m else mn i) ≤ 8
        by_cases e : i = t
        · rw [if_pos e]; exact hm8
        · rw [if_neg e]; exact hm i (by omega)
      have w1 : (if t = t then m else mn t) = m := if_pos rfl
      have w2 : (if t = t then decide (b = 1) else hd t) = decide (b = 1) := if_pos rfl
      by_cases b0 : b = 0
      · rw [if_pos b0]
        refine ⟨_, _, rfl, rfl, rfl, _, _, t + 1, by omega, M8, ?_, ?_, rfl, rfl, T⟩
        · show _ = nI (hM _ _ (t + 1))
          rw [hM, w2, if_neg (by rw [b0]; decide), hcc.1]
        · show _ = nI (sM _ _ (t + 1))
          rw [sM, w2, w1, if_neg (by rw [b0]; decide), hcc.2]
      · have b1' : b = 1 := hb.resolve_left b0
        rw [if_neg b0]
        refine ⟨_, _, rfl, rfl, rfl, _, _, t + 1, by omega, M8, ?_, ?_, rfl, rfl, T⟩
        · show _ = nI (hM _ _ (t + 1))
          rw [hM, w2, w1, if_pos (by rw [b1']; decide), hcc.1]
        · show _ = nI (sM _ _ (t + 1))
          rw [sM, w2, if_pos (by rw [b1']; decide), hcc.2]
    · rw [if_neg (show ¬ nI t < (6 : Int32) from fun q => t6 ((nI_ltI (a := t) (b := 6) (by omega) (by decide)).mp q)), if_pos (show nI t = (6 : Int32) by rw [show t = 6 by omega]; rfl)]
      exact ⟨_, _, rfl, rfl, rfl, h⟩
  · have cj : ¬ ((0 : Int32) ≤ j ∧ j ≤ 8) := fun h => c ((le_of j (b := 8) (by omega)).mp h)
    have cj2 : ¬ (nI 0 ≤ j ∧ j ≤ nI 8) := cj
    rw [if_neg cj, if_neg cj2, if_pos rfl, if_pos rfl]
    exact ⟨_, _, rfl, rfl, rfl, h⟩
theorem op_untell {hc sc tc tm : Int32} {tM tH : Nat → Int32} (h : TD hc sc tc tm tM tH) (th : Int32) : ∃ z w, fX4_untell hc sc tc = some z ∧ fX5_untell th tm = some w ∧ z.1 = w.1 ∧ TD z.2.1 z.2.2.1 z.2.2.2 w.2.2 tM tH := by
  obtain ⟨mn, hd, t, ht, hm, rfl, rfl, rfl, rfl, hT⟩ := h
  unfold fX4_untell fX5_untell
  exact ⟨_, _, rfl, rfl, rfl, mn, hd, 0, by omega, fun i hi => by omega, rfl, rfl, rfl, rfl, fun i hi => by omega⟩
