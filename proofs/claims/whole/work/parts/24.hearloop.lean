/-! a MINUTE's first half: who hears, by both sides -/
def PG (f : Nat → Int32) (r : List Nat) (q pl lost : Nat) : Prop := (∀ i, i < r.length → f i = nI (r.getD i 0)) ∧ f 5 = nI r.length ∧ (∀ w, w < 5 → f (6 + w) = nI (qget q w)) ∧ f 11 = nI pl ∧ f 12 = nI lost
theorem PG.q {f : Nat → Int32} {r : List Nat} {q pl lost w v : Nat} (h : PG f r q pl lost) (hl : r.length ≤ 5) (hq : q < 2 ^ 20) (hw : w < 5) (hv : v < 16) : PG (upd f (6 + w) (nI v)) r (qset q w v) pl lost := by
  obtain ⟨h1, h2, h3, h4, h5⟩ := h
  refine ⟨fun i hi => ?_, ?_, fun u hu => ?_, ?_, ?_⟩
  · rw [pk_un (by omega)]; exact h1 i hi
  · rw [pk_un (by omega)]; exact h2
  · rw [q_gs hq hw hv hu]
    by_cases e : u = w
    · subst e; rw [pk_us, if_pos rfl]
    · rw [pk_un (by omega), if_neg e]; exact h3 u hu
  · rw [pk_un (by omega)]; exact h4
  · rw [pk_un (by omega)]; exact h5
theorem gd_mid (pre : List Nat) (w : Nat) (r : List Nat) : (pre ++ w :: r).getD pre.length 0 = w := by simp [List.getD_eq_getElem?_getD]
theorem gd_mid1 (pre : List Nat) (w b : Nat) (r : List Nat) : (pre ++ w :: b :: r).getD (pre.length + 1) 0 = b := by simp [List.getD_eq_getElem?_getD]
theorem hear_ok {K A pl t : Nat} : ∀ (rest : List Nat) (q : Nat), q < 2 ^ 20 → (∀ x, x ∈ rest → x < 5) → rest.Nodup → (∀ w, w ∈ rest → qget q w + 1 < 16) → hearR K A pl t rest q < 2 ^ 20 ∧ (∀ u, u < 5 → qget (hearR K A pl t rest q) u ≤ qget q u + 1) ∧ ∀ u, u < 5 → u ∉ rest → qget (hearR K A pl t rest q) u = qget q u := by
  intro rest
  induction rest with
  | nil => intro q h _ _ _; exact ⟨h, fun u _ => Nat.le_succ _, fun _ _ _ => rfl⟩
  | cons w rest ih =>
    intro q h h5 hn hb
    cases rest with
    | nil => exact ⟨h, fun u _ => Nat.le_succ _, fun _ _ _ => rfl⟩
    | cons b rest =>
      have w5 := h5 w (by simp)
      have hw := hb w (by simp)
      have hnw := (List.nodup_cons.mp hn).1
      obtain ⟨v, hv⟩ : ∃ v, v = (if qget K w ≠ 1 ∧ hrd K A pl t b = true then 0 else qget q w + 1) := ⟨_, rfl⟩
      have hv1 : v ≤ qget q w + 1 := by rw [hv]; split <;> omega
      have e : hearR K A pl t (w :: b :: rest) q = hearR K A pl t (b :: rest) (qset q w v) := by rw [hv]; rfl
      rw [e]
      have gs : ∀ u, u < 5 → qget (qset q w v) u = if u = w then v else qget q u := fun u hu => q_gs h w5 (by omega) hu
      obtain ⟨i1, i2, i3⟩ := ih (qset q w v) (q_lt h w5 (by omega)) (fun x hx => h5 x (List.mem_cons_of_mem _ hx)) (List.nodup_cons.mp hn).2 (fun u hu => by
        rw [gs u (h5 u (List.mem_cons_of_mem _ hu)), if_neg (fun e : u = w => hnw (e ▸ hu))]
        exact hb u (List.mem_cons_of_mem _ hu))
      refine ⟨i1, fun u hu => ?_, fun u hu hnu => ?_⟩
      · by_cases e : u = w
        · subst e
          rw [i3 u hu hnw, gs u hu, if_pos rfl]
          exact hv1
        · have := i2 u hu
          rw [gs u hu, if_neg e] at this
          exact this
      · rw [i3 u hu (fun q => hnu (List.mem_cons_of_mem _ q)), gs u hu, if_neg (fun q => hnu (by rw [q]; simp))]
theorem ig2 {i n : Nat} (h : i < n) (hn : n ≤ 1000) : (nI i < 0 ∨ n ≤ i) ↔ False := ⟨fun q => q.elim (fun q => nI_pos (by omega) q) (fun q => by omega), False.elim⟩
theorem c_hear {K A N pl t : Nat} (ht : t < 32) (hA : A < 10) (hK : K < 2 ^ 20) (hpl : pl < 2 ^ 20) (tu : Int32) (r : List Nat) (hr : r ∈ rg 5) : ∀ (rest pre : List Nat) (q n : Nat), r = pre ++ rest → q < 2 ^ 20 → (∀ w, w ∈ rest → qget q w + 1 < 16) → rest.Nodup → rest.length < n →
    lp (fun _ _ _ _ _ _ _ => none) (fX3_step_b9_S (nI A) (nI N) (nI K)) n (nI t) (nI r.length - 1) (nI pre.length) (nI (encR r)) (nI q) (nI pl) tu
      = (fX3_turnRound (nI N) (nI K) (nI (encR r)) (nI (hearR K A pl t rest q)) tu).bind fun z86 => some (z86.1, z86.2.1, z86.2.2.1, nI pl + 1, z86.2.2.2) := by
  intro rest
  have hlen := a_lt r hr
  induction rest with
  | nil =>
    intro pre q n e hq hb hn h
    obtain ⟨n, rfl⟩ : ∃ m, n = m + 1 := ⟨n - 1, by omega⟩
    rw [lp_s]
    unfold fX3_step_b9_S
    have hl : r.length = pre.length := by rw [e]; simp
    rw [if_pos (by rw [hl]; rcases Nat.eq_zero_or_pos pre.length with h0 | h0
                   · rw [h0]; decide
                   · rw [show (1 : Int32) = nI 1 from rfl, pk_sub h0, nI_leI (by omega) (by omega)]; omega)]
    rfl
  | cons w rest ih =>
    intro pre q n e hq hb hnd h
    obtain ⟨n, rfl⟩ : ∃ m, n = m + 1 := ⟨n - 1, by simp at h; omega⟩
    rw [lp_s]
    cases rest with
    | nil =>
      have hl : r.length = pre.length + 1 := by rw [e]; simp
      unfold fX3_step_b9_S
      rw [if_pos (by rw [hl, show (1 : Int32) = nI 1 from rfl, pk_sub (by omega), nI_leI (by omega) (by omega)]; omega)]
      rfl
    | cons b rest =>
      have hl : r.length = pre.length + 2 + rest.length := by rw [e]; simp; omega
      have gw : r.getD pre.length 0 = w := by rw [e]; exact gd_mid _ _ _
      have gb : r.getD (pre.length + 1) 0 = b := by rw [e]; exact gd_mid1 _ _ _ _
      have w5 : w < 5 := by rw [← gw]; exact hlen.2.2.1 _ (by omega)
      have b5 : b < 5 := by rw [← gb]; exact hlen.2.2.1 _ (by omega)
      have aw := a_at r hr pre.length (by omega)
      have ab := a_at r hr (pre.length + 1) (by omega)
      rw [gw] at aw
      rw [gb] at ab
      have hkw := qg_lt K w
      have e1 : (nI (qget K w) = (1 : Int32)) ↔ qget K w = 1 := nI_eq (b := 1) (by omega) (by decide)
      have hqw := hb w (by simp)
      have s1 : nI (w + 1) - 1 = nI w := nI_pred w
      have s2 : nI (b + 1) - 1 = nI b := nI_pred b
      have p1 : nI pre.length + 1 = nI (pre.length + 1) := nI_1 _
      have q1 : nI (qget q w) + 1 = nI (qget q w + 1) := nI_1 _
      have hh := c_heard (b := b) (t := t) (A := A) (K := K) (pl := pl) b5 ht hA hK hpl
      have key : ∀ v, v < 16 → lp (fun _ _ _ _ _ _ _ => none) (fX3_step_b9_S (nI A) (nI N) (nI K)) n (nI t) (nI r.length - 1) (nI (pre.length + 1)) (nI (encR r)) (nI (qset q w v)) (nI pl) tu = (fX3_turnRound (nI N) (nI K) (nI (encR r)) (nI (hearR K A pl t (b :: rest) (qset q w v))) tu).bind fun z86 => some (z86.1, z86.2.1, z86.2.2.1, nI pl + 1, z86.2.2.2) := by
        intro v hv
        have := ih (pre ++ [w]) (qset q w v) n (by rw [e]; simp) (q_lt hq w5 hv) (fun u hu => ?_) (List.nodup_cons.mp hnd).2 (by simp at h ⊢; omega)
        · simpa using this
        · have hu5 : u < 5 := by
            obtain ⟨k, hk, hk2⟩ := List.getElem_of_mem hu
            have := hlen.2.2.1 (pre.length + 1 + k) (by simp at hk; omega)
            rw [e] at this
            simpa [List.getD_eq_getElem?_getD, List.getElem?_append_right, Nat.add_assoc, Nat.add_sub_cancel_left, Nat.add_comm 1 k, List.getElem?_eq_getElem hk, hk2] using this
          have hne : u ≠ w := fun q => (List.nodup_cons.mp hnd).1 (q ▸ hu)
          rw [q_gs hq w5 hv hu5, if_neg hne]
          exact hb u (List.mem_cons_of_mem _ hu)
      revert key
      generalize lp (fun _ _ _ _ _ _ _ => none) (fX3_step_b9_S (nI A) (nI N) (nI K)) n = k
      intro key
      unfold fX3_step_b9_S
      rw [if_neg (by rw [hl, show (1 : Int32) = nI 1 from rfl, pk_sub (by omega), nI_leI (by omega) (by omega)]; omega)]
      unfold fX3_walkerAt fX1_kind fX3_step_b53 fX3_step_b54 fX3_step_b76 fX3_setQuiet fX3_quiet
      have w0 : fX0_with (nI q) (nI w) 0 = some (nI (qset q w 0)) := q_with (v := 0) hq w5 (by omega)
      simp only [aw, ab, Option.bind_some, s1, s2, p1, q_at hK w5, q_at hq w5, e1, hh, q1, q_with hq w5 (show qget q w + 1 < 16 by omega), w0]
      by_cases c1 : qget K w = 1
      · simp [c1, hearR, key (qget q w + 1) (by omega)]
      · by_cases c2 : hrd K A pl t b = true
        · simp [c1, c2, hearR, one_ne, key 0 (by omega)]
        · simp [c1, c2, hearR, key (qget q w + 1) (by omega)]
theorem mem5 {r : List Nat} (hr : r ∈ rg 5) : ∀ x, x ∈ r → x < 5 := fun x hx => by
  obtain ⟨k, hk, hk2⟩ := List.getElem_of_mem hx
  have := (a_lt r hr).2.2.1 k hk
  rw [List.getD_eq_getElem?_getD, List.getElem?_eq_getElem hk] at this
  rw [← hk2]
  exact this
theorem m_hear {K A W pl lost t : Nat} {kd nv : Nat → Int32} (ht : t < 32) (hA : A < 10) (hW : W ≤ 5) (hpl : pl < 2 ^ 20) (hk : KR W K kd) (tu : Int32) (r : List Nat) (hr : r ∈ rg 5) (hrW : ∀ x, x ∈ r → x < W) : ∀ (rest pre : List Nat) (q n : Nat) (f : Nat → Int32), r = pre ++ rest → q < 2 ^ 20 → (∀ w, w ∈ rest → qget q w + 1 < 16) → rest.Nodup → rest.length < n → PG f r q pl lost →
    ∃ f', PG f' r (hearR K A pl t rest q) pl lost ∧ lp (fun _ _ _ _ => none) (fX5_goMinute_b2_S (nI A) nv kd) n (nI t) (nI pre.length) tu f = fX5_goMinute_b87 (nI A) nv kd 0 0 0 f' := by
  intro rest
  have hlen := a_lt r hr
  have c5 : (5 : Int32).toNatClampNeg = 5 := by decide
  have g5 : ((5 : Int32) < 0 ∨ 13 ≤ 5) ↔ False := by decide
  induction rest with
  | nil =>
    intro pre q n f e hq hb hn h hf
    obtain ⟨n, rfl⟩ : ∃ m, n = m + 1 := ⟨n - 1, by omega⟩
    rw [lp_s]
    refine ⟨f, hf, ?_⟩
    unfold fX5_goMinute_b2_S
    have hl : r.length = pre.length := by rw [e]; simp
    have p1 : nI pre.length + 1 = nI (pre.length + 1) := nI_1 _
    have cl : (nI pre.length ≤ nI (pre.length + 1)) ↔ True := by rw [nI_leI (by omega) (by omega)]; exact ⟨fun _ => trivial, fun _ => by omega⟩
    simp only [c5, g5, hf.2.1, hl, p1, cl, if_true, if_false]
  | cons w rest ih =>
    intro pre q n f e hq hb hnd h hf
    obtain ⟨n, rfl⟩ : ∃ m, n = m + 1 := ⟨n - 1, by simp at h; omega⟩
    rw [lp_s]
    cases rest with
    | nil =>
      refine ⟨f, hf, ?_⟩
      unfold fX5_goMinute_b2_S
      have hl : r.length = pre.length + 1 := by rw [e]; simp
      have p1 : nI pre.length + 1 = nI (pre.length + 1) := nI_1 _
      have cl : (nI (pre.length + 1) ≤ nI (pre.length + 1)) ↔ True := by rw [nI_leI (by omega) (by omega)]; exact ⟨fun _ => trivial, fun _ => by omega⟩
      simp only [c5, g5, hf.2.1, hl, p1, cl, if_true, if_false]
    | cons b rest =>
      have hl : r.length = pre.length + 2 + rest.length := by rw [e]; simp; omega
      have gw : r.getD pre.length 0 = w := by rw [e]; exact gd_mid _ _ _
      have gb : r.getD (pre.length + 1) 0 = b := by rw [e]; exact gd_mid1 _ _ _ _
      have wW : w < W := hrW w (by rw [e]; simp)
      have bW : b < W := hrW b (by rw [e]; simp)
      have w5 : w < 5 := by omega
      have fw : f pre.length = nI w := by rw [hf.1 _ (by omega), gw]
      have fb : f (pre.length + 1) = nI b := by rw [hf.1 _ (by omega), gb]
      have f6 : f (6 + w) = nI (qget q w) := hf.2.2.1 w w5
      have hkw := qg_lt K w
      have e1 : (nI (qget K w) = (1 : Int32)) ↔ qget K w = 1 := nI_eq (b := 1) (by omega) (by decide)
      have hqw := hb w (by simp)
      have p1 : nI pre.length + 1 = nI (pre.length + 1) := nI_1 _
      have q1 : nI (qget q w) + 1 = nI (qget q w + 1) := nI_1 _
      have a6 : (6 : Int32) + nI w = nI (6 + w) := nI_add 6 w
      have hh := m_heard (b := b) (t := t) (A := A) (K := K) (pl := pl) (f := f) bW hW ht hA hpl hk hf.2.2.2.1
      have cl : (nI r.length ≤ nI (pre.length + 1)) ↔ False := by rw [nI_leI (by omega) (by omega)]; exact ⟨fun h => by omega, False.elim⟩
      have key : ∀ v, v < 16 → ∃ f', PG f' r (hearR K A pl t (b :: rest) (qset q w v)) pl lost ∧ lp (fun _ _ _ _ => none) (fX5_goMinute_b2_S (nI A) nv kd) n (nI t) (nI (pre.length + 1)) tu (upd f (6 + w) (nI v)) = fX5_goMinute_b87 (nI A) nv kd 0 0 0 f' := by
        intro v hv
        have := ih (pre ++ [w]) (qset q w v) n (upd f (6 + w) (nI v)) (by rw [e]; simp) (q_lt hq w5 hv) (fun u hu => ?_) (List.nodup_cons.mp hnd).2 (by simp at h ⊢; omega) (hf.q hlen.2.1 hq w5 hv)
        · simpa using this
        · have hu5 : u < 5 := mem5 hr u (by rw [e]; exact List.mem_append_right _ (List.mem_cons_of_mem _ hu))
          have hne : u ≠ w := fun q => (List.nodup_cons.mp hnd).1 (q ▸ hu)
          rw [q_gs hq w5 hv hu5, if_neg hne]
          exact hb u (List.mem_cons_of_mem _ hu)
      revert key
      generalize lp (fun _ _ _ _ => none) (fX5_goMinute_b2_S (nI A) nv kd) n = k
      intro key
      have key0 : ∃ f', PG f' r (hearR K A pl t (b :: rest) (qset q w 0)) pl lost ∧ k (nI t) (nI (pre.length + 1)) tu (upd f (6 + w) 0) = fX5_goMinute_b87 (nI A) nv kd 0 0 0 f' := key 0 (by omega)
      unfold fX5_goMinute_b2_S fX5_goMinute_b41 fX5_goMinute_b42 fX5_goMinute_b70
      simp only [c5, g5, hf.2.1, p1, cl, nI_clamp (show pre.length < 2 ^ 31 by omega), nI_clamp (show pre.length + 1 < 2 ^ 31 by omega), ig2 (show pre.length < 13 by omega) (by decide), ig2 (show pre.length + 1 < 13 by omega) (by decide), fw, fb, nI_clamp (show w < 2 ^ 31 by omega), ig2 (show w < 5 by omega) (by decide), hk w wW, e1, hh, a6, nI_clamp (show 6 + w < 2 ^ 31 by omega), ig2 (show 6 + w < 13 by omega) (by decide), f6, q1, Option.bind_some, if_true, if_false, one_ne]
      by_cases c1 : qget K w = 1
      · simpa [c1, hearR] using key (qget q w + 1) (by omega)
      · by_cases c2 : hrd K A pl t b = true
        · simpa [c1, c2, hearR, one_ne] using key0
        · simpa [c1, c2, hearR] using key (qget q w + 1) (by omega)
