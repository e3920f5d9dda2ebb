/-! ORDER: the orders tried by both sides -/
def valN (L A N K : Nat) (tr : Nat → Nat) (n pl : Nat) (r : List Nat) : Nat := (singN L A N K tr n 0 (r, 0, pl) none).1.1.length
theorem q00 (w : Nat) : qget 0 w = 0 := by unfold qget; simp
theorem val5 {W L A N K pl n : Nat} {r : List Nat} (hP : PH W L A N K) (tr : Nat → Nat) (hr : WK W L (r, 0, pl)) : valN L A N K tr n pl r ≤ 5 := (a_lt _ (singN_ok hP tr n 0 (r, 0, pl) none hr).1).2.1
theorem c_leftOf {W L A N K m n pl : Nat} {r : List Nat} (hP : PH W L A N K) (hm : m < 2 ^ 63) (hn : n ≤ 5) (htd : ∀ k, k < n → td n m k < 32) (hr : WK W L (r, 0, pl)) (x1 x2 x3 x4 : Int32) : ∃ y1 y2 y3 y4, fX4_leftOf (nI (encR r)) (nI n) (lN m) (nI L) (nI A) (nI N) (nI K) (nI pl) x1 x2 x3 x4 = some (nI (valN L A N K (td n m) n pl r), y1, y2, y3, y4) := by
  unfold fX4_leftOf fX3_place fX3_lineUp
  rw [bs, bs]
  obtain ⟨t1, c1⟩ := c_sing hP hm hn htd n 0 fu (r, 0, pl) none x4 (by omega) (by unfold fu; omega) hr (fun _ h => by cases h)
  have ok := singN_ok hP (td n m) n 0 (r, 0, pl) none hr
  have c1 : fX3_sing (nI n) (lN m) (nI L) (nI A) (nI N) (nI K) (nI (encR r)) 0 (nI pl) x4 = _ := c1
  rw [c1, bs, c_size ok.1, bs]
  exact ⟨_, _, _, _, rfl⟩
theorem c_ord {W L A N K m n pl : Nat} (hP : PH W L A N K) (hm : m < 2 ^ 63) (hn : n ≤ 5) (htd : ∀ k, k < n → td n m k < 32) (j4 x5 : Int32) : ∀ (rs : List (List Nat)) (c cnt : Nat) (a : List Nat × Nat) (x1 x2 x3 x4 : Int32), (∀ r ∈ rs, WK W L (r, 0, pl) ∧ encR r ≠ 0) → (rs ≠ [] → chk rs = true) → cnt + rs.length ≤ 120 → rs.length < c → a.1 ∈ rg 5 → a.2 < 1000 →
    ∃ y1 y2 y3 y4, lp (fun _ _ _ _ _ _ _ _ _ _ _ => none) (fX4_order_b53_S (nI L) (nI A) (nI N) (nI K) x5 (nI pl)) c (nI n) (lN m) j4 (nI (encR a.1)) (nI a.2) (hdE rs) (nI cnt) x1 x2 x3 x4 = some (if j4 = 0 then nI (figN (foldB (valN L A N K (td n m) n pl) rs a).1) else nI (foldB (valN L A N K (td n m) n pl) rs a).2, y1, y2, y3, y4) := by
  have fin : ∀ (a : List Nat × Nat) (x1 x2 x3 x4 : Int32), a.1 ∈ rg 5 → fX4_order_b103 (nI L) (nI A) (nI N) (nI K) x5 (nI pl) j4 (nI (encR a.1)) (nI a.2) x1 x2 x3 x4 = some (if j4 = 0 then nI (figN a.1) else nI a.2, x1, x2, x3, x4) := fun a x1 x2 x3 x4 ha => by
    unfold fX4_order_b103
    by_cases c : j4 = 0
    · rw [if_pos c, if_pos c, a_fig _ ha, bs]
    · rw [if_neg c, if_neg c]
  intro rs
  induction rs with
  | nil =>
    intro c cnt a x1 x2 x3 x4 h1 h2 h3 h4 h5 h6
    obtain ⟨c, rfl⟩ : ∃ m, c = m + 1 := ⟨c - 1, by omega⟩
    rw [lp_s]
    unfold fX4_order_b53_S
    rw [fin a _ _ _ _ h5, if_pos (show hdE [] = 0 from rfl), ite_self, foldB]
    exact ⟨_, _, _, _, rfl⟩
  | cons r rs ih =>
    intro c cnt a x1 x2 x3 x4 h1 h2 h3 h4 h5 h6
    simp only [List.length_cons] at h3 h4
    obtain ⟨c, rfl⟩ : ∃ m, c = m + 1 := ⟨c - 1, by omega⟩
    rw [lp_s]
    obtain ⟨wr, er⟩ := h1 r (by simp)
    obtain ⟨ch1, ch2⟩ := chk_c (h2 (by simp))
    have er2 : encR r < 2 ^ 20 := (a_lt _ wr.1).1
    have v5 := val5 (n := n) hP (td n m) wr
    have ih2 := fun a y1 y2 y3 y4 => ih c (cnt + 1) a y1 y2 y3 y4 (fun x hx => h1 x (List.mem_cons_of_mem _ hx)) (fun _ => ch2) (by omega) (by omega)
    revert ih2
    generalize lp (fun _ _ _ _ _ _ _ _ _ _ _ => none) (fX4_order_b53_S (nI L) (nI A) (nI N) (nI K) x5 (nI pl)) c = kk
    intro ih2
    obtain ⟨y1, y2, y3, y4, lo⟩ := c_leftOf hP hm hn htd wr x1 x2 x3 x4
    unfold fX4_order_b53_S fX4_order_b90
    rw [if_neg (show ¬ (120 : Int32) ≤ nI cnt from nI_ge (b := 120) (by omega) (by decide)), if_neg (show ¬ hdE (r :: rs) = 0 from fun q => er ((nI_eq (b := 0) (by omega) (by decide)).mp q)), show hdE (r :: rs) = nI (encR r) from rfl, lo, bs, foldB, ch1, bs, nI_1]
    by_cases c1 : valN L A N K (td n m) n pl r ≤ a.2
    · rw [if_pos (nI_le c1 (by omega)), if_pos c1]
      exact ih2 a _ _ _ _ h5 h6
    · rw [if_neg (fun q => c1 ((nI_leI (by omega) (by omega)).mp q)), if_neg c1, bs]
      exact ih2 (r, valN L A N K (td n m) n pl r) _ _ _ _ wr.1 (by show _ < 1000; omega)
theorem m_hush_l : ∀ (d i c : Nat) (f : Nat → Int32), i + d = 5 → d < c → ∃ f', lp (fun _ _ => none) fX5_hush_b2_S c (nI i) f = some f' ∧ (∀ x, (x < 6 + i ∨ 11 ≤ x) → f' x = f x) ∧ ∀ w, i ≤ w → w < 5 → f' (6 + w) = 0 := by
  intro d
  induction d with
  | zero =>
    intro i c f e h
    obtain ⟨c, rfl⟩ : ∃ m, c = m + 1 := ⟨c - 1, by omega⟩
    rw [lp_s]
    refine ⟨f, ?_, fun _ _ => rfl, fun k h1 h2 => by omega⟩
    unfold fX5_hush_b2_S
    rw [if_pos (show (5 : Int32) ≤ nI i from nI_le (a := 5) (by omega) (by omega))]
  | succ d ih =>
    intro i c f e h
    obtain ⟨c, rfl⟩ : ∃ m, c = m + 1 := ⟨c - 1, by omega⟩
    rw [lp_s]
    obtain ⟨f', h1, h2, h3⟩ := ih (i + 1) c (upd f (6 + i) 0) (by omega) (by omega)
    refine ⟨f', ?_, fun k hk => by rw [h2 k (by omega), pk_un (by omega)], fun k hk1 hk2 => ?_⟩
    · revert h1
      generalize lp (fun _ _ => none) fX5_hush_b2_S c = kk
      intro h1
      unfold fX5_hush_b2_S
      have a6 : (6 : Int32) + nI i = nI (6 + i) := nI_add 6 i
      rw [if_neg (show ¬ (5 : Int32) ≤ nI i from nI_ge (b := 5) (by omega) (by omega)), a6, if_neg (fun q => by rw [ig (by omega)] at q; omega), nI_clamp (by omega), nI_1, h1]
    · by_cases e : k = i
      · subst e; rw [h2 _ (by omega), pk_us]
      · exact h3 k (by omega) hk2
theorem m_hush (f : Nat → Int32) : ∃ f', fX5_hush f = some f' ∧ (∀ x, (x < 6 ∨ 11 ≤ x) → f' x = f x) ∧ ∀ w, w < 5 → f' (6 + w) = 0 := by
  obtain ⟨f', h1, h2, h3⟩ := m_hush_l 5 0 fu f (by omega) (by unfold fu; omega)
  exact ⟨f', h1, h2, fun w hw => h3 w (by omega) hw⟩
theorem rv_len : ∀ j q, (rv j q).length = j
  | 0, _ => rfl
  | j + 1, q => by unfold rv; simp [rv_len j (q / 10)]
theorem pred6 : ∀ j, j < 6 → nI j + (-1 : Int32) = nI j - 1 := by decide +kernel
theorem m_dig (k57 : Int32 → Int64 → Int32 → Int32 → Int32 → Int32 → Int32 → Int32 → (Nat → Int32) → Option (Int32 × Int32 × Int32 × (Nat → Int32))) (j1 : Int32) (j2 : Int64) (j4 j5 j6 ob om tu L A : Int32) (nv kd pg : Nat → Int32) : ∀ (j q c acc : Nat) (f : Nat → Int32), j ≤ 5 → q < 2 ^ 31 → j < c →
    ∃ f' q' k86, lp (fun _ _ _ _ _ _ _ _ _ _ _ _ => none) (fX5_findOrder_b86_S L A nv kd pg k57) c j1 j2 j4 j5 j6 (nI acc) (nI q) (nI j - 1) ob om tu f = fX5_findOrder_b86_S L A nv kd pg k57 k86 j1 j2 j4 j5 j6 (nI (acc ||| mkD j q)) q' (nI 0 - 1) ob om tu f' ∧ (∀ x, j ≤ x → f' x = f x) ∧ (mkD j q < 32 → ∀ x, x < j → f' x = nI ((rv j q).getD x 0)) := by
  intro j
  induction j with
  | zero =>
    intro q c acc f h1 h2 h3
    obtain ⟨c, rfl⟩ : ∃ m, c = m + 1 := ⟨c - 1, by omega⟩
    refine ⟨f, nI q, lp (fun _ _ _ _ _ _ _ _ _ _ _ _ => none) (fX5_findOrder_b86_S L A nv kd pg k57) c, ?_, fun _ _ => rfl, fun _ x hx => by omega⟩
    rw [lp_s, mkD, Nat.or_zero]
  | succ j ih =>
    intro q c acc f h1 h2 h3
    obtain ⟨c, rfl⟩ : ∃ m, c = m + 1 := ⟨c - 1, by omega⟩
    rw [lp_s]
    have hd : q % 10 < 10 := Nat.mod_lt _ (by decide)
    obtain ⟨f', q', k86, i1, i2, i3⟩ := ih (q / 10) c (acc ||| dgb (q % 10)) (upd f j (nI (q % 10) - 1)) (by omega) (by omega) (by omega)
    refine ⟨f', q', k86, ?_, fun x hx => by rw [i2 x (by omega), pk_un (by omega)], fun hk x hx => ?_⟩
    · rw [Nat.or_assoc] at i1
      have i1 : _ = fX5_findOrder_b86_S L A nv kd pg k57 k86 j1 j2 j4 j5 j6 (nI (acc ||| mkD (j + 1) q)) q' (nI 0 - 1) ob om tu f' := i1
      rw [← i1]
      generalize lp (fun _ _ _ _ _ _ _ _ _ _ _ _ => none) (fX5_findOrder_b86_S L A nv kd pg k57) c = kk
      have r10 : nI q - nI q / (10 : Int32) * (10 : Int32) = nI (q % 10) := pk_rem (a := q) (d := 10) h2 (by decide) (by decide)
      have d10 : nI q / (10 : Int32) = nI (q / 10) := pk_div (a := q) (d := 10) h2 (by decide) (by decide)
      have p1 : nI (j + 1) - (1 : Int32) = nI j := nI_pred j
      have gj : ¬ (nI j < 0 ∨ 13 ≤ (nI j).toNatClampNeg) := fun q => by rw [ig (by omega)] at q; omega
      unfold fX5_findOrder_b86_S fX5_findOrder_b127 fX5_findOrder_b129
      rw [p1, if_neg (nI_pos (by omega)), r10, d10, pred6 j (by omega), if_neg gj, if_neg gj, nI_clamp (by omega)]
      by_cases d0 : q % 10 = 0
      · rw [d0, if_pos (show nI 0 - (1 : Int32) < 0 by decide), show (32 : Int32) = nI 32 from rfl, fa_or]
        rfl
      · have s1 : nI (q % 10) - (1 : Int32) = nI (q % 10 - 1) := pk_sub (a := q % 10) (b := 1) (by omega)
        rw [s1, if_neg (nI_pos (by omega))]
        by_cases d6 : 5 < q % 10
        · rw [if_pos (show (5 : Int32) ≤ nI (q % 10 - 1) from nI_le (a := 5) (by omega) (by omega)), show (32 : Int32) = nI 32 from rfl, fa_or, show dgb (q % 10) = 32 from if_pos (Or.inr d6)]
        · rw [if_neg (show ¬ (5 : Int32) ≤ nI (q % 10 - 1) from nI_ge (b := 5) (by omega) (by decide)), bit_dec _ (by omega), fa_or, show dgb (q % 10) = 2 ^ (q % 10 - 1) from if_neg (by omega)]
    · obtain ⟨b1, b2, b3, b4⟩ := mkD_s hk
      have len := rv_len j (q / 10)
      unfold rv
      by_cases e : x = j
      · subst e
        rw [i2 x (by omega), pk_us, show nI (q % 10) - (1 : Int32) = nI (q % 10 - 1) from pk_sub (a := q % 10) (b := 1) (by omega)]
        simp [List.getD_eq_getElem?_getD, List.getElem?_append_right (show (rv x (q / 10)).length ≤ x by omega), len]
      · rw [i3 b4 x (by omega)]
        simp [List.getD_eq_getElem?_getD, List.getElem?_append_left (show x < (rv j (q / 10)).length by omega)]
