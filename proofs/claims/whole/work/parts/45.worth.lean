/-! what a part of the row is worth, by the model -/
def QF (f : Nat → Int32) (R : List Nat) (pl lost : Nat) : Prop := (∀ i, i < R.length → f i = nI (R.getD i 0)) ∧ (∀ w, w < 5 → f (6 + w) = 0) ∧ f 11 = nI pl ∧ f 12 = nI lost
theorem onl_app (pre : List Nat) (w M : Nat) : onl (pre ++ [w]) M = if M.testBit w = true then onl pre M ++ [w] else onl pre M := by
  unfold onl
  rw [List.filter_append]
  by_cases b : M.testBit w = true
  · rw [if_pos b, List.filter_cons, if_pos b]; rfl
  · rw [if_neg b, List.filter_cons, if_neg b]; simp
theorem onl_len (r : List Nat) (M : Nat) : (onl r M).length ≤ r.length := List.length_filter_le _ _
theorem onl_wk {W L M : Nat} {s : Wk} (hs : WK W L s) (hM : M < 32) : WK W L (onl s.1 M, 0, s.2.2) := by
  refine ⟨(a_only hs.1 hM).2, fun x hx => hs.2.1 x ?_, by show 0 < 2 ^ 20; decide, fun w hw => by show qget 0 w ≤ _; rw [q00]; omega, hs.2.2.2.2⟩
  have hx : x ∈ onl s.1 M := hx
  unfold onl at hx
  exact (List.mem_filter.mp hx).1
theorem m_worth_l {W L A N K m n M : Nat} {s : Wk} {nv kd pg : Nat → Int32} (hP : PH W L A N K) (hm : m < 2 ^ 63) (hn : n ≤ 5) (htd : ∀ k, k < n → td n m k < 32) (hs : WK W L s) (hk : KR W K kd) (hv : KR W N nv) (hg : PG pg s.1 s.2.1 s.2.2 (LO W s.1)) (hM : M < 32) : ∀ (rest pre : List Nat) (c : Nat) (tu : Int32) (f : Nat → Int32), s.1 = pre ++ rest → rest.length < c → QF f (onl pre M) s.2.2 (LO W s.1) →
    ∃ tu' f', lp (fun _ _ _ _ _ _ _ => none) (fX5_worthOf_b14_S (nI L) (nI A) nv kd pg) c (nI M) (nI n) (lN m) (nI (onl pre M).length) (nI pre.length) tu f = some (nI (valN L A N K (td n m) n s.2.2 (onl s.1 M)), tu', f') := by
  have h5 := (a_lt _ hs.1).2.1
  have g5 : ¬ ((5 : Int32) < 0 ∨ 13 ≤ (5 : Int32).toNatClampNeg) := by decide
  have c5 : (5 : Int32).toNatClampNeg = 5 := by decide
  intro rest
  induction rest with
  | nil =>
    intro pre c tu f e hc hq
    obtain ⟨c, rfl⟩ : ∃ m, c = m + 1 := ⟨c - 1, by omega⟩
    rw [List.append_nil] at e
    rw [← e] at hq ⊢
    have ol := onl_len s.1 M
    rw [lp_s]
    obtain ⟨q1, q2, q3, q4⟩ := hq
    have F : PG (upd f 5 (nI (onl s.1 M).length)) (onl s.1 M) 0 s.2.2 (LO W s.1) := by
      refine ⟨fun i hi => ?_, pk_us, fun w hw => ?_, ?_, ?_⟩
      · rw [pk_un (by omega)]; exact q1 i hi
      · rw [pk_un (by omega), q2 w hw, q00]; rfl
      · rw [pk_un (by omega)]; exact q3
      · rw [pk_un (by omega)]; exact q4
    obtain ⟨t2, f2, lt2, g2, c2⟩ := m_singG hP hm hn htd hk hv n 0 fu (onl s.1 M, 0, s.2.2) none tu _ _ (by omega) (by unfold fu; omega) (onl_wk hs hM) (fun _ h => by cases h) F
    have c2 : fX5_sing (nI n) (lN m) (nI L) (nI A) tu nv kd (upd f 5 (nI (onl s.1 M).length)) = _ := c2
    have l5 : f2 5 = nI (valN L A N K (td n m) n s.2.2 (onl s.1 M)) := g2.2.1
    unfold fX5_worthOf_b14_S
    rw [if_neg g5, c5, hg.2.1, if_pos (nI_le (Nat.le_refl _) (by omega)), if_neg (show ¬ ((5 : Int32) < 0 ∨ 13 ≤ 5) by decide), c2, bs, if_neg (show ¬ ((5 : Int32) < 0 ∨ 13 ≤ 5) by decide), ← l5]
    exact ⟨_, _, rfl⟩
  | cons w rest ih =>
    intro pre c tu f e hc hq
    obtain ⟨c, rfl⟩ : ∃ m, c = m + 1 := ⟨c - 1, by omega⟩
    have hlen : s.1.length = pre.length + (rest.length + 1) := by rw [e]; simp
    have ol := onl_len pre M
    rw [lp_s]
    have i1 := fun tu f => ih (pre ++ [w]) c tu f (by rw [e]; simp) (by simp at hc; omega)
    rw [onl_app, show (pre ++ [w]).length = pre.length + 1 by simp] at i1
    revert i1
    generalize lp (fun _ _ _ _ _ _ _ => none) (fX5_worthOf_b14_S (nI L) (nI A) nv kd pg) c = kk
    intro i1
    have gw : s.1.getD pre.length 0 = w := by rw [e, gd_mid]
    have w5 : w < 5 := mem5 hs.1 w (by rw [e]; simp)
    have gp : ¬ (nI pre.length < 0 ∨ 13 ≤ (nI pre.length).toNatClampNeg) := fun q => by rw [ig (by omega)] at q; omega
    have go : ¬ (nI (onl pre M).length < 0 ∨ 13 ≤ (nI (onl pre M).length).toNatClampNeg) := fun q => by rw [ig (by omega)] at q; omega
    unfold fX5_worthOf_b14_S fX5_worthOf_b56
    rw [if_neg g5, c5, hg.2.1, if_neg (nI_ge (by omega) (by omega)), if_neg gp, if_neg gp, if_neg go, nI_clamp (by omega), nI_clamp (by omega), hg.1 _ (by omega), gw, m_has _ _ hM w5, bs, nI_1, nI_1]
    by_cases b : M.testBit w = true
    · rw [if_pos b] at i1
      rw [if_pos b, if_neg one_ne]
      obtain ⟨q1, q2, q3, q4⟩ := hq
      have := i1 tu (upd f (onl pre M).length (nI w)) (by
        refine ⟨fun i hi => ?_, fun v hv => ?_, ?_, ?_⟩
        · by_cases ei : i = (onl pre M).length
          · subst ei
            rw [pk_us]; exact congrArg nI (gd_mid _ _ _).symm
          · have hi2 : i < (onl pre M).length := by simp at hi; omega
            rw [pk_un ei, q1 i hi2]
            simp [List.getD_eq_getElem?_getD, List.getElem?_append_left hi2]
        · rw [pk_un (by omega)]; exact q2 v hv
        · rw [pk_un (by omega)]; exact q3
        · rw [pk_un (by omega)]; exact q4)
      rw [show (onl pre M ++ [w]).length = (onl pre M).length + 1 by simp] at this
      exact this
    · rw [if_neg b] at i1
      rw [if_neg b, if_pos rfl]
      exact i1 tu f hq
theorem m_worth {W L A N K m n M : Nat} {s : Wk} {nv kd pg : Nat → Int32} (hP : PH W L A N K) (hm : m < 2 ^ 63) (hn : n ≤ 5) (htd : ∀ k, k < n → td n m k < 32) (hs : WK W L s) (hk : KR W K kd) (hv : KR W N nv) (hg : PG pg s.1 s.2.1 s.2.2 (LO W s.1)) (hM : M < 32) (tu : Int32) (tr : Nat → Int32) : ∃ tu' f', fX5_worthOf (nI M) (nI n) (lN m) (nI L) (nI A) tu nv kd pg tr = some (nI (valN L A N K (td n m) n s.2.2 (onl s.1 M)), tu', f') := by
  obtain ⟨f1, b1, b2⟩ := m_begin pg tr
  obtain ⟨f2, u1, u2, u3⟩ := m_hush f1
  obtain ⟨tu', f', r⟩ := m_worth_l hP hm hn htd hs hk hv hg hM s.1 [] fu tu f2 rfl (by have := (a_lt _ hs.1).2.1; unfold fu; omega) ⟨fun i hi => by simp [onl] at hi, u3, by rw [u2 11 (by omega), b2 11 (by omega)]; exact hg.2.2.2.1, by rw [u2 12 (by omega), b2 12 (by omega)]; exact hg.2.2.2.2⟩
  have r : fX5_worthOf_b14 (nI L) (nI A) nv kd pg (nI M) (nI n) (lN m) 0 0 tu f2 = _ := r
  unfold fX5_worthOf
  rw [b1, bs, u1, bs, r]
  exact ⟨_, _, rfl⟩
