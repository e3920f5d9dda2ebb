/-! SHARE: the model's table, and both sides -/
theorem m_worths {W L A N K m n : Nat} {s : Wk} {nv kd pg : Nat → Int32} (hP : PH W L A N K) (hm : m < 2 ^ 63) (hn : n ≤ 5) (htd : ∀ k, k < n → td n m k < 32) (hs : WK W L s) (hk : KR W K kd) (hv : KR W N nv) (hg : PG pg s.1 s.2.1 s.2.2 (LO W s.1)) (x1 t j5 j7 j8 th : Int32) : ∀ (d M c : Nat) (tu : Int32) (tr wo : Nat → Int32), M + d = 32 → d < c →
    ∃ tu' tr' wo', lp (fun _ _ _ _ _ _ _ _ _ _ _ _ => none) (fX5_share_b49_S x1 (nI L) (nI A) nv kd pg) c t (nI n) (lN m) j5 (nI (bitsN s.1)) j7 j8 (nI M) th tu tr wo = fX5_share_b94 x1 (nI L) (nI A) nv kd pg t j5 (nI (bitsN s.1)) j7 j8 0 th tu' tr' wo' ∧ (∀ x, x < M → wo' x = wo x) ∧ ∀ x, M ≤ x → x < 32 → x &&& bitsN s.1 = x → wo' x = nI (valN L A N K (td n m) n s.2.2 (onl s.1 x)) := by
  have hb := (a_lt _ hs.1).2.2.2
  intro d
  induction d with
  | zero =>
    intro M c tu tr wo e hc
    obtain ⟨c, rfl⟩ : ∃ m, c = m + 1 := ⟨c - 1, by omega⟩
    rw [lp_s]
    refine ⟨tu, tr, wo, ?_, fun _ _ => rfl, fun x h1 h2 => by omega⟩
    unfold fX5_share_b49_S
    rw [if_pos (show (32 : Int32) ≤ nI M from nI_le (a := 32) (by omega) (by omega))]
  | succ d ih =>
    intro M c tu tr wo e hc
    obtain ⟨c, rfl⟩ : ∃ m, c = m + 1 := ⟨c - 1, by omega⟩
    rw [lp_s]
    have hM : M < 32 := by omega
    have i1 := fun tu tr wo => ih (M + 1) c tu tr wo (by omega) (by omega)
    revert i1
    generalize lp (fun _ _ _ _ _ _ _ _ _ _ _ _ => none) (fX5_share_b49_S x1 (nI L) (nI A) nv kd pg) c = kk
    intro i1
    have gM : ¬ (nI M < 0 ∨ 32 ≤ (nI M).toNatClampNeg) := fun q => by rw [ig (by omega)] at q; omega
    have sd := sub_dec _ hb M hM
    unfold fX5_share_b49_S fX5_share_b84
    rw [if_neg (show ¬ (32 : Int32) ≤ nI M from nI_ge (b := 32) (by omega) (by decide)), if_neg gM, nI_clamp (by omega), nI_1]
    by_cases c1 : M &&& bitsN s.1 = M
    · obtain ⟨tu1, tr1, w⟩ := m_worth (M := M) hP hm hn htd hs hk hv hg hM tu tr
      obtain ⟨tu', tr', wo', q1, q2, q3⟩ := i1 tu1 tr1 (upd wo M (nI (valN L A N K (td n m) n s.2.2 (onl s.1 M))))
      rw [if_pos (sd.mpr c1), w, bs]
      refine ⟨tu', tr', wo', ?_, fun x hx => by rw [q2 x (by omega), pk_un (by omega)], fun x h1 h2 h3 => ?_⟩
      · rw [if_neg (show ¬ (nI M < 0 ∨ 32 ≤ M) from fun q => q.elim (fun q => nI_pos (by omega) q) (fun q => by omega))]
        exact q1
      · by_cases ex : x = M
        · subst ex; rw [q2 x (by omega), pk_us]
        · exact q3 x (by omega) h2 h3
    · obtain ⟨tu', tr', wo', q1, q2, q3⟩ := i1 tu tr (upd wo M 0)
      rw [if_neg (fun q => c1 (sd.mp q))]
      refine ⟨tu', tr', wo', q1, fun x hx => by rw [q2 x (by omega), pk_un (by omega)], fun x h1 h2 h3 => ?_⟩
      by_cases ex : x = M
      · subst ex; exact absurd h3 c1
      · exact q3 x (by omega) h2 h3
theorem op_share {W L A N K : Nat} {s : Wk} {pg nv kd : Nat → Int32} (hP : PH W L A N K) (hs : WK W L s) (hk : KR W K kd) (hv : KR W N nv) (hg : PG pg s.1 s.2.1 s.2.2 (LO W s.1)) (j1 j2 : Int32) (song : Int64) (j5 x1 x2 x3 x4 th tu : Int32) (tr wo : Nat → Int32) :
    ∃ z w, fX4_share j1 j2 song j5 (nI W) (nI L) (nI A) (nI N) (nI K) (nI (encR s.1)) (nI s.2.2) x1 x2 x3 x4 = some z ∧ fX5_share j1 j2 song j5 th (nI W) (nI L) (nI A) tu nv kd pg tr wo = some w ∧ z.1 = w.1 := by
  have hP' := hP
  obtain ⟨p1, p2, p3, p4, p5, p6⟩ := hP'
  have h5 := a_lt _ hs.1
  have hb := h5.2.2.2
  have hl := a_ascl _ hs.1
  have g5 : ¬ ((5 : Int32) < 0 ∨ 13 ≤ (5 : Int32).toNatClampNeg) := by decide
  have c5 : (5 : Int32).toNatClampNeg = 5 := by decide
  classical
  unfold fX4_share fX5_share
  rw [c_has p1, bs, m_noOne p1, bs]
  by_cases c : ∃ t, t < W ∧ j1 = nI t
  · rw [if_pos c, if_pos c, if_neg one_ne, if_pos rfl]
    obtain ⟨t, ht, rfl⟩ := c
    rcases song_cases j2 song with ⟨n, m, rfl, rfl, hn1, hn, hm, htd, e1, e2⟩ | ⟨e1, e2⟩
    · obtain ⟨d1, d2, d3⟩ := wo_dec t (by omega) _ hb
      have mw := m_worths hP hm hn htd hs hk hv hg (nI W) (nI t) j5 (nI s.1.length) 0 0 32 0 fu tu tr wo (by omega) (by unfold fu; omega)
      obtain ⟨tu', tr', wo', q1, -, q3⟩ := mw
      have q1 : fX5_share_b49 (nI W) (nI L) (nI A) nv kd pg (nI t) (nI n) (lN m) j5 (nI (bitsN s.1)) (nI s.1.length) 0 0 0 tu tr wo = _ := q1
      unfold fX3_row fX3_members
      rw [e1, e2, bs, bs, if_neg one_ne, bs, if_pos rfl, a_mem _ hs.1, bs, bs, bs, d1, m_row hs.1 hg, bs, if_neg g5, c5, hg.2.1, q1]
      by_cases bt : (bitsN s.1).testBit t = true
      · have ne : ¬ nI (bitsN s.1 &&& (31 ^^^ 2 ^ t)) = nI (bitsN s.1) := fun q => by
          have := d3.mp ((nI_eq (by omega) (by omega)).mp q)
          rw [bt] at this; cases this
        rw [if_neg ne, c_size hs.1, bs]
        obtain ⟨y1, y2, y3, y4, cl⟩ := c_share_l hP hm hn htd hs (show t < 5 by omega) bt j5 (nI W) (nI (encR s.1)) ((bitsN s.1 &&& (31 ^^^ 2 ^ t)) + 1) 0 fu 0 x1 x2 x3 x4 (by omega) (by unfold fu; omega) (by omega)
        have cl : fX4_share_b83 (nI W) (nI L) (nI A) (nI N) (nI K) (nI (encR s.1)) (nI s.2.2) (nI t) (nI n) (lN m) j5 (nI (encR s.1)) (nI (bitsN s.1 &&& (31 ^^^ 2 ^ t))) (nI s.1.length) 0 0 x1 x2 x3 x4 = _ := cl
        have ml := m_share_l (fun M => valN L A N K (td n m) n s.2.2 (onl s.1 M)) (show t < 5 by omega) hb hl (by omega) bt (nI W) (nI L) (nI A) j5 0 tu' nv kd pg tr' wo' (fun M h1 h2 => q3 M (by omega) h1 h2) 32 0 fu 0 (by omega) (by unfold fu; omega)
        have ml : fX5_share_b94 (nI W) (nI L) (nI A) nv kd pg (nI t) j5 (nI (bitsN s.1)) (nI s.1.length) 0 0 0 tu' tr' wo' = _ := ml
        have vb : ∀ x, x < 32 → valN L A N K (td n m) n s.2.2 (onl s.1 x) ≤ 5 := fun x hx => val5 hP (td n m) (onl_wk hs hx)
        have sp := sumI_add (fun M => valN L A N K (td n m) n s.2.2 (onl s.1 M)) (bitsN s.1) t s.1.length ((bitsN s.1 &&& (31 ^^^ 2 ^ t)) + 1) (32 - ((bitsN s.1 &&& (31 ^^^ 2 ^ t)) + 1)) 0 0
        rw [show (bitsN s.1 &&& (31 ^^^ 2 ^ t)) + 1 + (32 - ((bitsN s.1 &&& (31 ^^^ 2 ^ t)) + 1)) = 32 by omega, sumI_z _ _ _ _ (32 - ((bitsN s.1 &&& (31 ^^^ 2 ^ t)) + 1)) _ _ (fun M h1 h2 => if_neg (fun q => by
          have := wo_le _ d2 M (by omega) ((wo_sub t (by omega) _ hb M (by omega)).mpr q)
          omega))] at sp
        have bd : ∀ (d i : Nat) (a : Int), i + d ≤ 32 → (-(120 * i : Int) ≤ a ∧ a ≤ 120 * i) → -10000 ≤ sumI (fun M => valN L A N K (td n m) n s.2.2 (onl s.1 M)) (bitsN s.1) t s.1.length d i a ∧ sumI (fun M => valN L A N K (td n m) n s.2.2 (onl s.1 M)) (bitsN s.1) t s.1.length d i a ≤ 10000 := by
          intro d
          induction d with
          | zero => intro i a h1 h2; unfold sumI; omega
          | succ d ih =>
            intro i a h1 h2
            have tb := trm_b (v := fun M => valN L A N K (td n m) n s.2.2 (onl s.1 M)) (M := i) vb (show t < 5 by omega) hb (by omega) hl (by omega) bt
            unfold sumI
            exact ih (i + 1) _ (by omega) (by omega)
        obtain ⟨z, f1, f2⟩ := frac (bd 32 0 0 (by omega) (by omega)) (show s.1.length < 6 by omega) j5
        rw [cl, ml, ← sp, f1, f2, bs, bs]
        exact ⟨_, _, rfl, rfl, rfl⟩
      · have eq : nI (bitsN s.1 &&& (31 ^^^ 2 ^ t)) = nI (bitsN s.1) := congrArg nI (d3.mpr (by simpa using bt))
        obtain ⟨z, f1, -⟩ := frac (S := 0) (by omega) (show 0 < 6 by omega) j5
        obtain ⟨z', f1', f2'⟩ := frac (S := 0) (by omega) (show s.1.length < 6 by omega) j5
        have same : ∀ k, k < 6 → fX5_fraction 0 (nI (fcN k)) j5 = some (if j5 = 0 then 1 else 0) := fun k hk => by
          by_cases c : j5 = 0
          · rw [if_pos c, c]
            have D : ∀ k, k < 6 → fX5_fraction 0 (nI (fcN k)) 0 = some 1 := by decide +kernel
            exact D k hk
          · rw [if_neg c]
            have D : ∀ k, k < 6 → fX5_fraction 0 (nI (fcN k)) 1 = some 0 := by decide +kernel
            have := D k hk
            unfold fX5_fraction at this ⊢
            simp only [one_ne, if_false] at this
            simp only [c, if_false]
            exact this
        have fz : fX4_fraction 0 1 j5 = some (if j5 = 0 then 1 else 0) := by
          obtain ⟨z, f1, f2⟩ := frac (S := 0) (by omega) (show 0 < 6 by omega) j5
          have f1 : fX4_fraction 0 1 j5 = some z := f1
          have f2 : fX5_fraction 0 (nI (fcN 0)) j5 = some z := f2
          rw [f1, ← f2, same 0 (by omega)]
        rw [if_pos eq, fz, bs]
        have e94 : fX5_share_b94 (nI W) (nI L) (nI A) nv kd pg (nI t) j5 (nI (bitsN s.1)) (nI s.1.length) 0 0 0 tu' tr' wo' = some (if j5 = 0 then 1 else 0, 0, tu', tr', wo') := by
          unfold fX5_share_b94
          rw [show fu = (fu - 1) + 1 by unfold fu; omega, lp_s]
          unfold fX5_share_b94_S fX5_share_b183
          rw [if_neg (show ¬ (32 : Int32) ≤ 0 by decide), m_has _ _ hb (by omega), if_neg bt, bs, if_pos rfl, (fc_dec _ (show s.1.length < 6 by omega)).2.1, bs, same _ (by omega), bs]
        rw [e94]
        exact ⟨_, _, rfl, rfl, rfl⟩
    · rw [e1, e2, bs, bs, if_pos rfl, if_neg one_ne]
      exact ⟨_, _, rfl, rfl, rfl⟩
  · rw [if_neg c, if_neg c, if_pos rfl, if_neg one_ne]
    exact ⟨_, _, rfl, rfl, rfl⟩
