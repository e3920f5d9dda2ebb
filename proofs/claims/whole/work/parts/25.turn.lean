/-! a MINUTE's second half: who TURNS, by both sides -/
def turnR (N K : Nat) : List Nat → Nat → List Nat × Nat × Nat × Nat
  | w :: b :: r, q => if qget K w ≠ 1 ∧ qget N w < qget q w then (w :: (turnR N K r (qset q w 0)).1, (turnR N K r (qset q w 0)).2.1, 2 ^ b ||| (turnR N K r (qset q w 0)).2.2.1, 2 ^ w ||| (turnR N K r (qset q w 0)).2.2.2) else (w :: (turnR N K (b :: r) q).1, (turnR N K (b :: r) q).2.1, (turnR N K (b :: r) q).2.2.1, (turnR N K (b :: r) q).2.2.2)
  | [w], q => ([w], q, 0, 0)
  | [], q => ([], q, 0, 0)
theorem bit_dec : ∀ b, b < 5 → ((1 : Int32) <<< (nI b &&& 31)) = nI (2 ^ b) := by decide +kernel
theorem er_mid (pre : List Nat) (w b : Nat) (r : List Nat) : (pre ++ w :: b :: r).eraseIdx (pre.length + 1) = pre ++ w :: r := by
  rw [List.eraseIdx_append_of_length_le (by omega)]
  simp
theorem c_turn {N K : Nat} (hN : N < 2 ^ 20) (hK : K < 2 ^ 20) : ∀ (m : Nat) (rest pre : List Nat) (q n lost tur : Nat), rest.length ≤ m → pre ++ rest ∈ rg 5 → q < 2 ^ 20 → rest.length < n →
    lp (fun _ _ _ _ _ => none) (fX3_turnRound_b9_S (nI N) (nI K)) n (nI lost) (nI pre.length) (nI (encR (pre ++ rest))) (nI q) (nI tur) = some (nI (lost ||| (turnR N K rest q).2.2.1), nI (encR (pre ++ (turnR N K rest q).1)), nI (turnR N K rest q).2.1, nI (tur ||| (turnR N K rest q).2.2.2)) := by
  intro m
  induction m with
  | zero =>
    intro rest pre q n lost tur hm hr hq h
    obtain rfl : rest = [] := List.length_eq_zero_iff.mp (by omega)
    obtain ⟨n, rfl⟩ : ∃ m, n = m + 1 := ⟨n - 1, by omega⟩
    rw [lp_s]
    unfold fX3_turnRound_b9_S
    have hlen := a_lt _ hr
    simp only [List.append_nil] at hr hlen ⊢
    have cl : (nI pre.length ≤ nI pre.length + 1) ↔ True := by rw [nI_1, nI_leI (by omega) (by omega)]; exact ⟨fun _ => trivial, fun _ => by omega⟩
    simp [a_size _ hr, cl, turnR]
  | succ m ih =>
    intro rest pre q n lost tur hm hr hq h
    have hlen := a_lt _ hr
    obtain ⟨n, rfl⟩ : ∃ m, n = m + 1 := ⟨n - 1, by omega⟩
    rw [lp_s]
    match rest, hm, hr, h, hlen with
    | [], hm, hr, h, hlen =>
      unfold fX3_turnRound_b9_S
      simp only [List.append_nil] at hr hlen ⊢
      have cl : (nI pre.length ≤ nI pre.length + 1) ↔ True := by rw [nI_1, nI_leI (by omega) (by omega)]; exact ⟨fun _ => trivial, fun _ => by omega⟩
      simp [a_size _ hr, cl, turnR]
    | [w], hm, hr, h, hlen =>
      unfold fX3_turnRound_b9_S
      have hl : (pre ++ [w]).length = pre.length + 1 := by simp
      rw [hl] at hlen
      have cl : (nI (pre.length + 1) ≤ nI pre.length + 1) ↔ True := by rw [nI_1, nI_leI (by omega) (by omega)]; exact ⟨fun _ => trivial, fun _ => by omega⟩
      have sz := a_size _ hr
      rw [hl] at sz
      simp [sz, cl, turnR]
    | w :: b :: r, hm, hr, h, hlen =>
      have hl : (pre ++ w :: b :: r).length = pre.length + 2 + r.length := by simp; omega
      have gw := gd_mid pre w (b :: r)
      have gb := gd_mid1 pre w b r
      have w5 : w < 5 := by have := hlen.2.2.1 pre.length (by omega); rw [gw] at this; exact this
      have b5 : b < 5 := by have := hlen.2.2.1 (pre.length + 1) (by omega); rw [gb] at this; exact this
      have aw := a_at _ hr pre.length (by omega)
      have ab := a_at _ hr (pre.length + 1) (by omega)
      rw [gw] at aw
      rw [gb] at ab
      have wo := a_wo _ hr (pre.length + 1) (by omega)
      rw [er_mid] at wo
      have hkw := qg_lt K w
      have hnw := qg_lt N w
      have hqw := qg_lt q w
      have e1 : (nI (qget K w) = (1 : Int32)) ↔ qget K w = 1 := nI_eq (b := 1) (by omega) (by decide)
      have e2 : (nI (qget q w) ≤ nI (qget N w)) ↔ qget q w ≤ qget N w := nI_leI (by omega) (by omega)
      have s1 : nI (w + 1) - 1 = nI w := nI_pred w
      have s2 : nI (b + 1) - 1 = nI b := nI_pred b
      have p1 : nI pre.length + 1 = nI (pre.length + 1) := nI_1 _
      have cl : (nI (pre ++ w :: b :: r).length ≤ nI (pre.length + 1)) ↔ False := by rw [nI_leI (by omega) (by omega)]; exact ⟨fun h => by omega, False.elim⟩
      have kt : lp (fun _ _ _ _ _ => none) (fX3_turnRound_b9_S (nI N) (nI K)) n (nI (lost ||| 2 ^ b)) (nI (pre.length + 1)) (nI (encR (pre ++ w :: r))) (nI (qset q w 0)) (nI (tur ||| 2 ^ w)) = some (nI (lost ||| 2 ^ b ||| (turnR N K r (qset q w 0)).2.2.1), nI (encR (pre ++ w :: (turnR N K r (qset q w 0)).1)), nI (turnR N K r (qset q w 0)).2.1, nI (tur ||| 2 ^ w ||| (turnR N K r (qset q w 0)).2.2.2)) := by
        have := ih r (pre ++ [w]) (qset q w 0) n (lost ||| 2 ^ b) (tur ||| 2 ^ w) (by simp at hm; omega) (by simpa using wo.2) (q_lt hq w5 (by omega)) (by simp at h; omega)
        simpa using this
      have kf : lp (fun _ _ _ _ _ => none) (fX3_turnRound_b9_S (nI N) (nI K)) n (nI lost) (nI (pre.length + 1)) (nI (encR (pre ++ w :: b :: r))) (nI q) (nI tur) = some (nI (lost ||| (turnR N K (b :: r) q).2.2.1), nI (encR (pre ++ w :: (turnR N K (b :: r) q).1)), nI (turnR N K (b :: r) q).2.1, nI (tur ||| (turnR N K (b :: r) q).2.2.2)) := by
        have := ih (b :: r) (pre ++ [w]) q n lost tur (by simp at hm ⊢; omega) (by simpa using hr) hq (by simp at h ⊢; omega)
        simpa using this
      revert kt kf
      generalize lp (fun _ _ _ _ _ => none) (fX3_turnRound_b9_S (nI N) (nI K)) n = k
      intro kt kf
      unfold fX3_turnRound_b9_S fX3_turnRound_b100 fX3_walkerAt fX1_kind fX1_nerve fX3_quiet fX3_setQuiet
      have w0 : fX0_with (nI q) (nI w) 0 = some (nI (qset q w 0)) := q_with (v := 0) hq w5 (by omega)
      simp only [a_size _ hr, aw, ab, Option.bind_some, s1, s2, p1, cl, q_at hK w5, q_at hN w5, q_at hq w5, e1, e2, w0, wo.1, bit_dec b b5, bit_dec w w5, fa_or, if_false]
      by_cases c1 : qget K w = 1
      · simp [c1, turnR, kf]
      · by_cases c2 : qget q w ≤ qget N w
        · simp [c1, c2, turnR, kf, show ¬ qget N w < qget q w by omega]
        · simp [c1, c2, turnR, kt, show qget N w < qget q w by omega, Nat.or_assoc]
theorem PG.len {f : Nat → Int32} {r : List Nat} {q pl lost : Nat} (h : PG f r q pl lost) : f 5 = nI r.length := h.2.1
theorem m_shift {A : Nat} {nv kd : Nat → Int32} {k87 : Int32 → Int32 → Int32 → (Nat → Int32) → Option (Int32 × Int32 × (Nat → Int32))} {len : Nat} (hl : len < 5) (j3 j4 tu : Int32) : ∀ (d k0 n : Nat) (f : Nat → Int32), k0 + d = len → d < n → f 5 = nI len →
    ∃ f', (∀ i, k0 ≤ i → i < len → f' i = f (i + 1)) ∧ (∀ i, (i < k0 ∨ len ≤ i) → f' i = f i) ∧ lp (fun _ _ _ _ _ => none) (fX5_goMinute_b176_S (nI A) nv kd k87) n j3 j4 (nI k0) tu f = k87 j3 (j4 + 1) tu f' := by
  intro d
  have c5 : (5 : Int32).toNatClampNeg = 5 := by decide
  have g5 : ((5 : Int32) < 0 ∨ 13 ≤ 5) ↔ False := by decide
  induction d with
  | zero =>
    intro k0 n f e h h5
    obtain ⟨n, rfl⟩ : ∃ m, n = m + 1 := ⟨n - 1, by omega⟩
    rw [lp_s]
    refine ⟨f, fun i h1 h2 => by omega, fun i _ => rfl, ?_⟩
    unfold fX5_goMinute_b176_S fX5_goMinute_b200
    have cl : (nI len ≤ nI k0) ↔ True := by rw [nI_leI (by omega) (by omega)]; exact ⟨fun _ => trivial, fun _ => by omega⟩
    simp only [c5, g5, h5, cl, if_true, if_false]
  | succ d ih =>
    intro k0 n f e h h5
    obtain ⟨n, rfl⟩ : ∃ m, n = m + 1 := ⟨n - 1, by omega⟩
    rw [lp_s]
    obtain ⟨f', i1, i2, i3⟩ := ih (k0 + 1) n (upd f k0 (f (k0 + 1))) (by omega) (by omega) (by rw [pk_un (by omega)]; exact h5)
    refine ⟨f', fun i h1 h2 => ?_, fun i hi => ?_, ?_⟩
    · by_cases e : i = k0
      · subst e; rw [i2 i (by omega), pk_us]
      · rw [i1 i (by omega) h2, pk_un (by omega)]
    · rw [i2 i (by omega), pk_un (by omega)]
    · revert i3
      generalize lp (fun _ _ _ _ _ => none) (fX5_goMinute_b176_S (nI A) nv kd k87) n = k
      intro i3
      unfold fX5_goMinute_b176_S
      have cl : (nI len ≤ nI k0) ↔ False := by rw [nI_leI (by omega) (by omega)]; exact ⟨fun h => by omega, False.elim⟩
      have p1 : nI k0 + 1 = nI (k0 + 1) := nI_1 _
      simp only [c5, g5, h5, cl, p1, nI_clamp (show k0 < 2 ^ 31 by omega), nI_clamp (show k0 + 1 < 2 ^ 31 by omega), ig2 (show k0 < 13 by omega) (by decide), ig2 (show k0 + 1 < 13 by omega) (by decide), if_false, i3]
theorem PG.out {f : Nat → Int32} {r : List Nat} {q pl lt l : Nat} (h : PG f r q pl lt) (hl : r.length ≤ 5) : PG (upd (upd f 12 (nI (lt ||| l))) 11 (nI (pl + 1))) r q (pl + 1) (lt ||| l) := by
  obtain ⟨h1, h2, h3, h4, h5⟩ := h
  refine ⟨fun i hi => ?_, ?_, fun u hu => ?_, ?_, ?_⟩
  · rw [pk_un (by omega), pk_un (by omega)]; exact h1 i hi
  · rw [pk_un (by omega), pk_un (by omega)]; exact h2
  · rw [pk_un (by omega), pk_un (by omega)]; exact h3 u hu
  · rw [pk_us]
  · rw [pk_un (by omega), pk_us]
theorem m_turn {A N K W pl lt : Nat} {kd nv : Nat → Int32} (hW : W ≤ 5) (hpl : pl < 2 ^ 20) (hk : KR W K kd) (hv : KR W N nv) : ∀ (m : Nat) (rest pre : List Nat) (q n lost tur : Nat) (f : Nat → Int32), rest.length ≤ m → pre ++ rest ∈ rg 5 → (∀ x, x ∈ pre ++ rest → x < W) → q < 2 ^ 20 → rest.length < n → PG f (pre ++ rest) q pl lt →
    ∃ f', PG f' (pre ++ (turnR N K rest q).1) (turnR N K rest q).2.1 (pl + 1) (lt ||| (lost ||| (turnR N K rest q).2.2.1)) ∧ lp (fun _ _ _ _ => none) (fX5_goMinute_b87_S (nI A) nv kd) n (nI lost) (nI pre.length) (nI tur) f = some (nI (lost ||| (turnR N K rest q).2.2.1), nI (tur ||| (turnR N K rest q).2.2.2), f') := by
  intro m
  have c5 : (5 : Int32).toNatClampNeg = 5 := by decide
  have g5 : ((5 : Int32) < 0 ∨ 13 ≤ 5) ↔ False := by decide
  have c11 : (11 : Int32).toNatClampNeg = 11 := by decide
  have g11 : ((11 : Int32) < 0 ∨ 13 ≤ 11) ↔ False := by decide
  have c12 : (12 : Int32).toNatClampNeg = 12 := by decide
  have g12 : ((12 : Int32) < 0 ∨ 13 ≤ 12) ↔ False := by decide
  have fin : ∀ (r : List Nat) (q n lost tur i : Nat) (f : Nat → Int32), r ∈ rg 5 → PG f r q pl lt → r.length ≤ i + 1 → i ≤ 5 → ∃ f', PG f' r q (pl + 1) (lt ||| lost) ∧ lp (fun _ _ _ _ => none) (fX5_goMinute_b87_S (nI A) nv kd) (n + 1) (nI lost) (nI i) (nI tur) f = some (nI lost, nI tur, f') := by
    intro r q n lost tur i f hr hf hi hi5
    have hlen := a_lt _ hr
    refine ⟨_, hf.out (l := lost) hlen.2.1, ?_⟩
    rw [lp_s]
    unfold fX5_goMinute_b87_S
    have cl : (nI r.length ≤ nI (i + 1)) ↔ True := by rw [nI_leI (by omega) (by omega)]; exact ⟨fun _ => trivial, fun _ => by omega⟩
    have p1 : nI i + 1 = nI (i + 1) := nI_1 _
    have p2 : nI pl + 1 = nI (pl + 1) := nI_1 _
    simp only [c5, g5, c11, g11, c12, g12, hf.len, p1, cl, hf.2.2.2.2, fa_or, pk_un (show 11 ≠ 12 by decide), hf.2.2.2.1, p2, if_true, if_false]
  induction m with
  | zero =>
    intro rest pre q n lost tur f hm hr hrW hq h hf
    obtain rfl : rest = [] := List.length_eq_zero_iff.mp (by omega)
    obtain ⟨n, rfl⟩ : ∃ m, n = m + 1 := ⟨n - 1, by omega⟩
    have hlen := a_lt _ hr
    have := fin _ q n lost tur pre.length f hr hf (by simp) (by simp at hlen; omega)
    simpa [turnR] using this
  | succ m ih =>
    intro rest pre q n lost tur f hm hr hrW hq h hf
    have hlen := a_lt _ hr
    obtain ⟨n, rfl⟩ : ∃ m, n = m + 1 := ⟨n - 1, by omega⟩
    match rest, hm, hr, hrW, h, hlen, hf with
    | [], hm, hr, hrW, h, hlen, hf =>
      have := fin _ q n lost tur pre.length f hr hf (by simp) (by simp at hlen; omega)
      simpa [turnR] using this
    | [w], hm, hr, hrW, h, hlen, hf =>
      have := fin _ q n lost tur pre.length f hr hf (by simp) (by simp at hlen; omega)
      simpa [turnR] using this
    | w :: b :: r, hm, hr, hrW, h, hlen, hf =>
      rw [lp_s]
      have hl : (pre ++ w :: b :: r).length = pre.length + 2 + r.length := by simp; omega
      have gw := gd_mid pre w (b :: r)
      have gb := gd_mid1 pre w b r
      have wW : w < W := hrW w (by simp)
      have bW : b < W := hrW b (by simp)
      have w5 : w < 5 := by omega
      have b5 : b < 5 := by omega
      have wo := a_wo _ hr (pre.length + 1) (by omega)
      rw [er_mid] at wo
      have fw : f pre.length = nI w := by rw [hf.1 _ (by omega), gw]
      have fb : f (pre.length + 1) = nI b := by rw [hf.1 _ (by omega), gb]
      have f6 : f (6 + w) = nI (qget q w) := hf.2.2.1 w w5
      have f5 := hf.len
      have hkw := qg_lt K w
      have hnw := qg_lt N w
      have hqw := qg_lt q w
      have e1 : (nI (qget K w) = (1 : Int32)) ↔ qget K w = 1 := nI_eq (b := 1) (by omega) (by decide)
      have e2 : (nI (qget q w) ≤ nI (qget N w)) ↔ qget q w ≤ qget N w := nI_leI (by omega) (by omega)
      have p1 : nI pre.length + 1 = nI (pre.length + 1) := nI_1 _
      have a6 : (6 : Int32) + nI w = nI (6 + w) := nI_add 6 w
      have cl : (nI (pre ++ w :: b :: r).length ≤ nI (pre.length + 1)) ↔ False := by rw [nI_leI (by omega) (by omega)]; exact ⟨fun h => by omega, False.elim⟩
      have l1 : nI (pre ++ w :: b :: r).length - 1 = nI (pre ++ w :: r).length := by rw [hl, show (1 : Int32) = nI 1 from rfl, pk_sub (by omega)]; exact congrArg nI (by simp; omega)
      -- the row without b
      obtain ⟨g, hg⟩ : ∃ g, g = upd (upd f (6 + w) 0) 5 (nI (pre ++ w :: r).length) := ⟨_, rfl⟩
      have hPq := hf.q hlen.2.1 hq w5 (show 0 < 16 by omega)
      obtain ⟨f', s1, s2, s3⟩ := m_shift (A := A) (nv := nv) (kd := kd) (k87 := lp (fun _ _ _ _ => none) (fX5_goMinute_b87_S (nI A) nv kd) n) (len := (pre ++ w :: r).length) (by simp; omega) (nI (lost ||| 2 ^ b)) (nI pre.length) (nI (tur ||| 2 ^ w)) r.length (pre.length + 1) fu g (by simp; omega) (by unfold fu; omega) (by rw [hg, pk_us])
      have hf' : PG f' (pre ++ w :: r) (qset q w 0) pl lt := by
        have hll : (pre ++ w :: r).length = pre.length + 1 + r.length := by simp; omega
        refine ⟨fun i hi => ?_, ?_, fun u hu => ?_, ?_, ?_⟩
        · by_cases c : i < pre.length + 1
          · rw [s2 i (Or.inl c), hg, pk_un (by omega)]
            have := hPq.1 i (by omega)
            rw [show (upd f (6 + w) 0) i = upd f (6 + w) (nI 0) i from rfl, this]
            congr 1
            simp only [List.getD_eq_getElem?_getD]
            congr 1
            by_cases c2 : i < pre.length
            · rw [List.getElem?_append_left c2, List.getElem?_append_left c2]
            · obtain rfl : i = pre.length := by omega
              rw [List.getElem?_append_right (by omega), List.getElem?_append_right (by omega)]
              simp
          · rw [s1 i (by omega) hi, hg, pk_un (by omega)]
            have := hPq.1 (i + 1) (by omega)
            rw [show (upd f (6 + w) 0) (i + 1) = upd f (6 + w) (nI 0) (i + 1) from rfl, this]
            congr 1
            simp only [List.getD_eq_getElem?_getD]
            congr 1
            rw [List.getElem?_append_right (by omega), List.getElem?_append_right (by omega)]
            obtain ⟨d, rfl⟩ : ∃ d, i = pre.length + 1 + d := ⟨i - (pre.length + 1), by omega⟩
            rw [show pre.length + 1 + d + 1 - pre.length = d + 2 by omega, show pre.length + 1 + d - pre.length = d + 1 by omega]
            simp
        · rw [s2 5 (Or.inr (by omega)), hg, pk_us]
        · rw [s2 (6 + u) (Or.inr (by omega)), hg, pk_un (by omega)]; exact hPq.2.2.1 u hu
        · rw [s2 11 (Or.inr (by omega)), hg, pk_un (by omega)]; exact hPq.2.2.2.1
        · rw [s2 12 (Or.inr (by omega)), hg, pk_un (by omega)]; exact hPq.2.2.2.2
      have kt : ∃ f'', PG f'' (pre ++ w :: (turnR N K r (qset q w 0)).1) (turnR N K r (qset q w 0)).2.1 (pl + 1) (lt ||| (lost ||| 2 ^ b ||| (turnR N K r (qset q w 0)).2.2.1)) ∧ lp (fun _ _ _ _ => none) (fX5_goMinute_b87_S (nI A) nv kd) n (nI (lost ||| 2 ^ b)) (nI (pre.length + 1)) (nI (tur ||| 2 ^ w)) f' = some (nI (lost ||| 2 ^ b ||| (turnR N K r (qset q w 0)).2.2.1), nI (tur ||| 2 ^ w ||| (turnR N K r (qset q w 0)).2.2.2), f'') := by
        have := ih r (pre ++ [w]) (qset q w 0) n (lost ||| 2 ^ b) (tur ||| 2 ^ w) f' (by simp at hm; omega) (by simpa using wo.2) (fun x hx => hrW x (by simp at hx ⊢; rcases hx with h | h | h <;> simp [h])) (q_lt hq w5 (by omega)) (by simp at h; omega) (by simpa using hf')
        simpa using this
      have kf : ∃ f'', PG f'' (pre ++ w :: (turnR N K (b :: r) q).1) (turnR N K (b :: r) q).2.1 (pl + 1) (lt ||| (lost ||| (turnR N K (b :: r) q).2.2.1)) ∧ lp (fun _ _ _ _ => none) (fX5_goMinute_b87_S (nI A) nv kd) n (nI lost) (nI (pre.length + 1)) (nI tur) f = some (nI (lost ||| (turnR N K (b :: r) q).2.2.1), nI (tur ||| (turnR N K (b :: r) q).2.2.2), f'') := by
        have := ih (b :: r) (pre ++ [w]) q n lost tur f (by simp at hm ⊢; omega) (by simpa using hr) (by simpa using hrW) hq (by simp at h ⊢; omega) (by simpa using hf)
        simpa using this
      revert kt kf s3
      generalize lp (fun _ _ _ _ => none) (fX5_goMinute_b87_S (nI A) nv kd) n = k
      intro s3 kt kf
      have s3 : fX5_goMinute_b176 (nI A) nv kd k (nI (lost ||| 2 ^ b)) (nI pre.length) (nI (pre.length + 1)) (nI (tur ||| 2 ^ w)) g = k (nI (lost ||| 2 ^ b)) (nI pre.length + 1) (nI (tur ||| 2 ^ w)) f' := s3
      unfold fX5_goMinute_b87_S fX5_goMinute_b200
      simp only [c5, g5, f5, p1, cl, nI_clamp (show pre.length < 2 ^ 31 by omega), nI_clamp (show pre.length + 1 < 2 ^ 31 by omega), ig2 (show pre.length < 13 by omega) (by decide), ig2 (show pre.length + 1 < 13 by omega) (by decide), fw, nI_clamp (show w < 2 ^ 31 by omega), ig2 (show w < 5 by omega) (by decide), hk w wW, hv w wW, e1, e2, a6, nI_clamp (show 6 + w < 2 ^ 31 by omega), ig2 (show 6 + w < 13 by omega) (by decide), f6, pk_un (show 5 ≠ 6 + w by omega), pk_un (show pre.length + 1 ≠ 6 + w by omega), fb, l1, bit_dec b b5, bit_dec w w5, fa_or, if_false, ← hg, s3]
      by_cases c1 : qget K w = 1
      · simpa [c1, turnR] using kf
      · by_cases c2 : qget q w ≤ qget N w
        · simpa [c1, c2, turnR, show ¬ qget N w < qget q w by omega] using kf
        · simpa [c1, c2, turnR, show qget N w < qget q w by omega, Nat.or_assoc] using kt
