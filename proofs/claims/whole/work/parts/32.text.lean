/-! THE TEXT and its FAULT, by both sides -/
def TX (g : Nat → Nat) (n : Nat) (bC bM : Nat → Int32) : Prop := n ≤ 32 ∧ ∀ i, i < n → bC i = nI (g i) ∧ bM i = nI (g i) ∧ g i < 256
def rgB (v a b : Nat) : Bool := decide (a + 48 ≤ v) && decide (v ≤ b + 48)
def fitB (i v : Nat) : Bool := if i = 0 then decide (v = 71) else if i = 1 then rgB v 1 9 else if i = 2 then rgB v 0 9 else if 18 ≤ i then false else if (i - 3) % 3 = 0 then decide (v = 87) else if (i - 3) % 3 = 1 then rgB v 0 5 else rgB v 0 3
def ffI (g : Nat → Nat) (n : Nat) : Nat → Nat → Int32
  | 0, _ => if 3 ≤ n ∧ (n - 3) % 3 = 0 then -9 else nI n
  | d + 1, i => if fitB i (g i) = true then ffI g n d (i + 1) else nI i
theorem ne9 {k : Nat} (h : k < 1000) : ¬ nI k = (-9 : Int32) := fun h2 => by
  have h3 : (nI k).toInt = (-9 : Int32).toInt := congrArg Int32.toInt h2
  rw [nI_toInt (by omega), show (-9 : Int32).toInt = -9 by decide] at h3
  omega
set_option maxRecDepth 100000 in
theorem r19 : ∀ v, v < 256 → (((1 : Int32) ≤ nI v - 48 ∧ nI v - 48 ≤ 9) ↔ rgB v 1 9 = true) := by decide +kernel
set_option maxRecDepth 100000 in
theorem r09 : ∀ v, v < 256 → (((0 : Int32) ≤ nI v - 48 ∧ nI v - 48 ≤ 9) ↔ rgB v 0 9 = true) := by decide +kernel
set_option maxRecDepth 100000 in
theorem r05 : ∀ v, v < 256 → (((0 : Int32) ≤ nI v - 48 ∧ nI v - 48 ≤ 5) ↔ rgB v 0 5 = true) := by decide +kernel
set_option maxRecDepth 100000 in
theorem r03 : ∀ v, v < 256 → (((0 : Int32) ≤ nI v - 48 ∧ nI v - 48 ≤ 3) ↔ rgB v 0 3 = true) := by decide +kernel
theorem c_byte {b : Nat → Int32} {i : Nat} (h : i < 32) : fX2_byteAt (nI i) b = some (b i) := by
  unfold fX2_byteAt
  rw [if_neg (nI_pos (by omega)), if_neg (show ¬ (32 : Int32) ≤ nI i from nI_ge (b := 32) h (by decide)), if_neg (fun q => by rw [ig (by omega)] at q; omega), nI_clamp (by omega)]
theorem c_figure {b : Nat → Int32} {i : Nat} (h : i < 32) : fX2_figure (nI i) b = some (b i - 48) := by
  unfold fX2_figure; rw [c_byte h, bs]
theorem c_rg {x a b : Int32} {B : Bool} (h : (a ≤ x ∧ x ≤ b) ↔ B = true) : ((fX4_within x a b).bind fun z => if z = 0 ∨ z = 1 then some z else none) = some (if B = true then 1 else 0) := by
  rw [m_within, bs]
  by_cases c : B = true
  · rw [if_pos (h.mpr c), if_pos c, if_pos (Or.inr rfl)]
  · rw [if_neg (fun q => c (h.mp q)), if_neg c, if_pos (Or.inl rfl)]
theorem c_fits {b : Nat → Int32} {i v : Nat} (hi : i < 32) (hb : b i = nI v) (hv : v < 256) : fX2_fits (nI i) b = some (if fitB i v = true then 1 else 0) := by
  unfold fX2_fits fX2_fitsPart fitB
  have e0 : (nI i = (0 : Int32)) ↔ i = 0 := nI_eq (b := 0) (by omega) (by decide)
  have e1 : (nI i = (1 : Int32)) ↔ i = 1 := nI_eq (b := 1) (by omega) (by decide)
  have e2 : (nI i = (2 : Int32)) ↔ i = 2 := nI_eq (b := 2) (by omega) (by decide)
  have b71 : (nI v = (71 : Int32)) ↔ v = 71 := nI_eq (b := 71) (by omega) (by decide)
  have b87 : (nI v = (87 : Int32)) ↔ v = 87 := nI_eq (b := 87) (by omega) (by decide)
  by_cases c0 : i = 0
  · rw [if_pos (e0.mpr c0), if_pos c0, c_byte hi, bs, hb]
    by_cases c : v = 71
    · rw [if_pos (b71.mpr c), if_pos (decide_eq_true c)]
    · rw [if_neg (fun h => c (b71.mp h)), if_neg (by rw [decide_eq_true_eq]; exact c)]
  · rw [if_neg (fun h => c0 (e0.mp h)), if_neg c0]
    by_cases c1 : i = 1
    · rw [if_pos (e1.mpr c1), if_pos c1, c_figure hi, bs, hb, c_rg (r19 v hv)]
    · rw [if_neg (fun h => c1 (e1.mp h)), if_neg c1]
      by_cases c2 : i = 2
      · rw [if_pos (e2.mpr c2), if_pos c2, c_figure hi, bs, hb, c_rg (r09 v hv)]
      · rw [if_neg (fun h => c2 (e2.mp h)), if_neg c2]
        by_cases c18 : 18 ≤ i
        · rw [if_pos (show (18 : Int32) ≤ nI i from nI_le (a := 18) c18 (by omega)), if_pos c18]
          rfl
        · rw [if_neg (show ¬ (18 : Int32) ≤ nI i from nI_ge (b := 18) (by omega) (by decide)), if_neg c18]
          have s3 : nI i - (3 : Int32) = nI (i - 3) := pk_sub (a := i) (b := 3) (by omega)
          have m3 : nI (i - 3) - nI (i - 3) / (3 : Int32) * (3 : Int32) = nI ((i - 3) % 3) := pk_rem (a := i - 3) (d := 3) (by omega) (by decide) (by decide)
          have hm : (i - 3) % 3 < 3 := Nat.mod_lt _ (by decide)
          have f0 : (nI ((i - 3) % 3) = (0 : Int32)) ↔ (i - 3) % 3 = 0 := nI_eq (b := 0) (by omega) (by decide)
          have f1 : (nI ((i - 3) % 3) = (1 : Int32)) ↔ (i - 3) % 3 = 1 := nI_eq (b := 1) (by omega) (by decide)
          rw [s3, m3]
          by_cases d0 : (i - 3) % 3 = 0
          · rw [if_pos (f0.mpr d0), if_pos d0, c_byte hi, bs, hb]
            by_cases c : v = 87
            · rw [if_pos (b87.mpr c), if_pos (decide_eq_true c), bs, if_neg one_ne]
            · rw [if_neg (fun h => c (b87.mp h)), if_neg (by rw [decide_eq_true_eq]; exact c), bs, if_pos rfl]
          · rw [if_neg (fun h => d0 (f0.mp h)), if_neg d0]
            by_cases d1 : (i - 3) % 3 = 1
            · rw [if_pos (f1.mpr d1), if_pos d1, c_figure hi, bs, hb, c_rg (r05 v hv), bs]
              by_cases c : rgB v 0 5 = true
              · rw [if_pos c, if_neg one_ne]
              · rw [if_neg c, if_pos rfl]
            · rw [if_neg (fun h => d1 (f1.mp h)), if_neg d1, c_figure hi, bs, hb, c_rg (r03 v hv), bs]
              by_cases c : rgB v 0 3 = true
              · rw [if_pos c, if_neg one_ne]
              · rw [if_neg c, if_pos rfl]
theorem c_ff {g : Nat → Nat} {n : Nat} {bC bM : Nat → Int32} (h : TX g n bC bM) : ∀ (d i c : Nat), i + d = n → d < c → lp (fun _ => none) (fX2_firstFault_b2_S (nI n) bC) c (nI i) = some (ffI g n d i) := by
  obtain ⟨hn, hb⟩ := h
  intro d
  induction d with
  | zero =>
    intro i c e hc
    obtain ⟨c, rfl⟩ : ∃ m, c = m + 1 := ⟨c - 1, by omega⟩
    rw [lp_s]
    unfold fX2_firstFault_b2_S fX2_firstFault_b49 fX2_firstFault_b50 ffI
    rw [if_pos (nI_le (by omega) (by omega))]
    by_cases c3 : n < 3
    · rw [if_pos (show nI n < (3 : Int32) from nI_lt (b := 3) c3 (by decide)), if_pos rfl, if_neg (fun h => by omega)]
    · have s3 : nI n - (3 : Int32) = nI (n - 3) := pk_sub (a := n) (b := 3) (by omega)
      have m3 : nI (n - 3) - nI (n - 3) / (3 : Int32) * (3 : Int32) = nI ((n - 3) % 3) := pk_rem (a := n - 3) (d := 3) (by omega) (by decide) (by decide)
      have f0 : (nI ((n - 3) % 3) = (0 : Int32)) ↔ (n - 3) % 3 = 0 := nI_eq (b := 0) (by omega) (by decide)
      rw [if_neg (show ¬ nI n < (3 : Int32) from nI_nlt (a := n) (b := 3) (by omega) (by omega)), s3, m3]
      by_cases c0 : (n - 3) % 3 = 0
      · rw [if_pos (f0.mpr c0), if_neg one_ne, if_pos ⟨by omega, c0⟩]
      · rw [if_neg (fun h => c0 (f0.mp h)), if_pos rfl, if_neg (fun h => c0 h.2)]
  | succ d ih =>
    intro i c e hc
    obtain ⟨c, rfl⟩ : ∃ m, c = m + 1 := ⟨c - 1, by omega⟩
    rw [lp_s]
    have i1 := ih (i + 1) c (by omega) (by omega)
    revert i1
    generalize lp (fun _ => none) (fX2_firstFault_b2_S (nI n) bC) c = k
    intro i1
    unfold fX2_firstFault_b2_S
    obtain ⟨b1, b2, b3⟩ := hb i (by omega)
    rw [if_neg (nI_ge (by omega) (by omega)), c_fits (by omega) b1 b3, bs, ffI]
    by_cases c : fitB i (g i) = true
    · rw [if_pos c, if_neg one_ne, if_pos c, nI_1, i1]
    · rw [if_neg c, if_pos rfl, if_neg c]
theorem c_fault {g : Nat → Nat} {n : Nat} {bC bM : Nat → Int32} (h : TX g n bC bM) : fX2_firstFault (nI n) bC = some (ffI g n n 0) := c_ff h n 0 fu (by omega) (by have := h.1; unfold fu; omega)
theorem m_figure {g : Nat → Nat} {n p : Nat} {bC bM : Nat → Int32} (h : TX g n bC bM) (hp : p ≤ n) {a b : Nat} (ha : a < 10) (hb : b < 10) (hr : ∀ v, v < 256 → ((nI a ≤ nI v - 48 ∧ nI v - 48 ≤ nI b) ↔ rgB v a b = true)) : fX5_figure (nI a) (nI b) (nI n) (nI p) bM = some (if p = n then (-9, nI p) else if rgB (g p) a b = true then (nI (g p - 48), nI (p + 1)) else (-9, nI p)) := by
  obtain ⟨hn, hT⟩ := h
  unfold fX5_figure
  by_cases c : p = n
  · rw [if_pos (by rw [c]), if_pos c]
  · obtain ⟨b1, b2, b3⟩ := hT p (by omega)
    rw [if_neg (fun q => c ((nI_eq (by omega) (by omega)).mp q)), if_neg c, if_neg (fun q => by rw [ig (by omega)] at q; omega), nI_clamp (by omega), b2, m_inL, bs]
    by_cases r : rgB (g p) a b = true
    · have q := (hr _ b3).mpr r
      have hv : 48 ≤ g p := by unfold rgB at r; simp at r; omega
      have s48 : nI (g p) - (48 : Int32) = nI (g p - 48) := pk_sub (a := g p) (b := 48) hv
      have p1 : nI p + (1 : Int32) - (1 : Int32) = nI p := by rw [nI_1]; exact nI_pred p
      rw [if_pos (show (nI a).toInt64 ≤ (nI (g p) - 48).toInt64 ∧ (nI (g p) - 48).toInt64 ≤ (nI b).toInt64 from ⟨(fa_wide_le _ _).mpr q.1, (fa_wide_le _ _).mpr q.2⟩), if_neg one_ne, p1, if_neg (fun q => by rw [ig (by omega)] at q; omega), nI_clamp (by omega), b2, s48, if_pos r, nI_1]
    · rw [if_neg (show ¬ ((nI a).toInt64 ≤ (nI (g p) - 48).toInt64 ∧ (nI (g p) - 48).toInt64 ≤ (nI b).toInt64) from fun q => r ((hr _ b3).mp ⟨(fa_wide_le _ _).mp q.1, (fa_wide_le _ _).mp q.2⟩)), if_pos rfl, if_neg r]
def RN (g : Nat → Nat) (w : Nat) (rn rk : Nat → Int32) : Prop := ∀ u, u < w → rn u = nI (g (4 + 3 * u) - 48) ∧ rk u = nI (g (5 + 3 * u) - 48) ∧ rgB (g (4 + 3 * u)) 0 5 = true ∧ rgB (g (5 + 3 * u)) 0 3 = true
theorem ff_ne {g : Nat → Nat} {n : Nat} (hn : n ≤ 32) : ∀ (d i : Nat), i + d = n → ffI g n d i = -9 → 3 ≤ n ∧ (n - 3) % 3 = 0 := by
  intro d
  induction d with
  | zero =>
    intro i e h
    unfold ffI at h
    by_cases c : 3 ≤ n ∧ (n - 3) % 3 = 0
    · exact c
    · rw [if_neg c] at h; exact absurd h (ne9 (by omega))
  | succ d ih =>
    intro i e h
    unfold ffI at h
    by_cases c : fitB i (g i) = true
    · rw [if_pos c] at h; exact ih (i + 1) (by omega) h
    · rw [if_neg c] at h; exact absurd h (ne9 (by omega))
theorem m_parts {g : Nat → Nat} {n : Nat} {bC bM : Nat → Int32} (h : TX g n bC bM) (l a : Int32) : ∀ (m w c : Nat) (rn rk : Nat → Int32), 3 + 3 * w ≤ n → w ≤ 5 → w + m = 6 → m < c → RN g w rn rk →
    ∃ pl' rw' rn' rk', lp (fun _ _ _ _ _ _ => none) (fX5_readGorge_b85_S (nI n) bM) c (nI (3 + 3 * w)) (nI w) l a rn rk = some (ffI g n (n - (3 + 3 * w)) (3 + 3 * w), pl', rw', l, a, rn', rk') ∧ (ffI g n (n - (3 + 3 * w)) (3 + 3 * w) = -9 → rw' = nI ((n - 3) / 3) ∧ (n - 3) / 3 ≤ 5 ∧ RN g ((n - 3) / 3) rn' rk') := by
  have hT := h
  obtain ⟨hn, hb⟩ := hT
  intro m
  induction m with
  | zero => intro w c rn rk h1 h2 h3; omega
  | succ m ih =>
    intro w c rn rk h1 h2 h3 hc hR
    obtain ⟨c, rfl⟩ : ∃ m, c = m + 1 := ⟨c - 1, by omega⟩
    rw [lp_s]
    by_cases ce : 3 + 3 * w = n
    · refine ⟨nI (3 + 3 * w), nI w, rn, rk, ?_, fun _ => ?_⟩
      · unfold fX5_readGorge_b85_S
        rw [if_pos (nI_le (by omega) (by omega)), show n - (3 + 3 * w) = 0 by omega, ffI, if_pos ⟨by omega, by omega⟩]
      · rw [show (n - 3) / 3 = w by omega]; exact ⟨rfl, h2, hR⟩
    · obtain ⟨b1, b2, b3⟩ := hb (3 + 3 * w) (by omega)
      have e87 : (nI (g (3 + 3 * w)) = (87 : Int32)) ↔ g (3 + 3 * w) = 87 := nI_eq (b := 87) (by omega) (by decide)
      have ff1 : ffI g n (n - (3 + 3 * w)) (3 + 3 * w) = if fitB (3 + 3 * w) (g (3 + 3 * w)) = true then ffI g n (n - (3 + 3 * w) - 1) (3 + 3 * w + 1) else nI (3 + 3 * w) := by
        obtain ⟨d, hd⟩ : ∃ d, n - (3 + 3 * w) = d + 1 := ⟨n - (3 + 3 * w) - 1, by omega⟩
        rw [hd, ffI, Nat.add_sub_cancel]
      have fb1 : fitB (3 + 3 * w) (g (3 + 3 * w)) = true ↔ (w < 5 ∧ g (3 + 3 * w) = 87) := by
        unfold fitB
        rw [if_neg (by omega), if_neg (by omega), if_neg (by omega)]
        by_cases c5 : 18 ≤ 3 + 3 * w
        · rw [if_pos c5]; simp; omega
        · rw [if_neg c5, if_pos (by omega), decide_eq_true_eq]; exact ⟨fun h => ⟨by omega, h⟩, fun h => h.2⟩
      unfold fX5_readGorge_b85_S fX5_readGorge_b118
      rw [if_neg (nI_ge (by omega) (by omega)), if_neg (fun q => by rw [ig (by omega)] at q; omega), nI_clamp (by omega), b2]
      by_cases cw : g (3 + 3 * w) = 87
      · rw [if_pos (e87.mpr cw)]
        by_cases c5 : w = 5
        · refine ⟨nI (3 + 3 * w), nI w, rn, rk, ?_, fun q => ?_⟩
          · rw [if_pos (by rw [c5]; rfl), ff1, if_neg (fun q => by have := (fb1.mp q).1; omega)]
          · rw [ff1, if_neg (fun q => by have := (fb1.mp q).1; omega)] at q
            exact absurd q (ne9 (by omega))
        · have w5 : ¬ nI w = (5 : Int32) := fun q => c5 ((nI_eq (b := 5) (by omega) (by decide)).mp q)
          have p1 : nI (3 + 3 * w) + (1 : Int32) = nI (4 + 3 * w) := by rw [nI_1]; exact congrArg nI (by omega)
          have fg1 := m_figure h (p := 4 + 3 * w) (by omega) (a := 0) (b := 5) (by omega) (by omega) r05
          have fg1 : fX5_figure 0 5 (nI n) (nI (4 + 3 * w)) bM = _ := fg1
          rw [if_neg w5, p1, fg1, bs, ff1, if_pos (fb1.mpr ⟨by omega, cw⟩), show 3 + 3 * w + 1 = 4 + 3 * w by omega]
          have m1 : (4 + 3 * w - 3) % 3 = 1 := by omega
          have m2 : (5 + 3 * w - 3) % 3 = 2 := by omega
          have fb2 : fitB (4 + 3 * w) (g (4 + 3 * w)) = rgB (g (4 + 3 * w)) 0 5 := by
            unfold fitB
            rw [if_neg (by omega), if_neg (by omega), if_neg (by omega), if_neg (by omega), if_neg (by omega), if_pos m1]
          have fb3 : fitB (5 + 3 * w) (g (5 + 3 * w)) = rgB (g (5 + 3 * w)) 0 3 := by
            unfold fitB
            rw [if_neg (by omega), if_neg (by omega), if_neg (by omega), if_neg (by omega), if_neg (by omega), if_neg (by omega)]
          by_cases cn : 4 + 3 * w = n
          · refine ⟨nI (4 + 3 * w), nI w, rn, rk, ?_, fun q => ?_⟩
            · unfold fX5_readGorge_b157
              rw [if_pos cn, if_pos rfl, if_pos rfl, show n - (3 + 3 * w) - 1 = 0 by omega, ffI, if_neg (fun q => by omega), cn]
            · rw [show n - (3 + 3 * w) - 1 = 0 by omega, ffI, if_neg (fun q => by omega)] at q
              exact absurd q (ne9 (by omega))
          · have ff2 : ffI g n (n - (3 + 3 * w) - 1) (4 + 3 * w) = if fitB (4 + 3 * w) (g (4 + 3 * w)) = true then ffI g n (n - (3 + 3 * w) - 2) (5 + 3 * w) else nI (4 + 3 * w) := by
              obtain ⟨d, hd⟩ : ∃ d, n - (3 + 3 * w) - 1 = d + 1 := ⟨n - (3 + 3 * w) - 2, by omega⟩
              rw [hd, ffI, show d = n - (3 + 3 * w) - 2 by omega, show 4 + 3 * w + 1 = 5 + 3 * w by omega]
            rw [if_neg cn, ff2, fb2]
            by_cases r1 : rgB (g (4 + 3 * w)) 0 5 = true
            · obtain ⟨-, -, v3⟩ := hb (4 + 3 * w) (by omega)
              rw [if_pos r1, if_pos r1, if_neg (ne9 (by omega))]
              have fg2 := m_figure h (p := 5 + 3 * w) (by omega) (a := 0) (b := 3) (by omega) (by omega) r03
              have fg2 : fX5_figure 0 3 (nI n) (nI (5 + 3 * w)) bM = _ := fg2
              rw [show 4 + 3 * w + 1 = 5 + 3 * w by omega, fg2, bs]
              unfold fX5_readGorge_b157
              by_cases cn2 : 5 + 3 * w = n
              · refine ⟨nI (5 + 3 * w), nI w, rn, rk, ?_, fun q => ?_⟩
                · rw [if_pos cn2, if_pos rfl, show n - (3 + 3 * w) - 2 = 0 by omega, ffI, if_neg (fun q => by omega), cn2]
                · rw [show n - (3 + 3 * w) - 2 = 0 by omega, ffI, if_neg (fun q => by omega)] at q
                  exact absurd q (ne9 (by omega))
              · have ff3 : ffI g n (n - (3 + 3 * w) - 2) (5 + 3 * w) = if fitB (5 + 3 * w) (g (5 + 3 * w)) = true then ffI g n (n - (3 + 3 * (w + 1))) (3 + 3 * (w + 1)) else nI (5 + 3 * w) := by
                  obtain ⟨d, hd⟩ : ∃ d, n - (3 + 3 * w) - 2 = d + 1 := ⟨n - (3 + 3 * w) - 3, by omega⟩
                  rw [hd, ffI, show d = n - (3 + 3 * (w + 1)) by omega, show 5 + 3 * w + 1 = 3 + 3 * (w + 1) by omega]
                rw [if_neg cn2, ff3, fb3]
                by_cases r2 : rgB (g (5 + 3 * w)) 0 3 = true
                · obtain ⟨-, -, v4⟩ := hb (5 + 3 * w) (by omega)
                  rw [if_pos r2, if_pos r2, if_neg (ne9 (by omega)), if_neg (fun q => by rw [ig (by omega)] at q; omega), if_neg (fun q => by rw [ig (by omega)] at q; omega), nI_clamp (by omega), nI_1, show 5 + 3 * w + 1 = 3 + 3 * (w + 1) by omega]
                  exact ih (w + 1) c _ _ (by omega) (by omega) (by omega) (by omega) (fun u hu => by
                    by_cases e : u = w
                    · subst e; rw [pk_us, pk_us]; exact ⟨rfl, rfl, r1, r2⟩
                    · rw [pk_un e, pk_un e]; exact hR u (by omega))
                · refine ⟨nI (5 + 3 * w), nI w, rn, rk, ?_, fun q => ?_⟩
                  · rw [if_neg r2, if_neg r2, if_pos rfl]
                  · rw [if_neg r2] at q
                    exact absurd q (ne9 (by omega))
            · refine ⟨nI (4 + 3 * w), nI w, rn, rk, ?_, fun q => ?_⟩
              · unfold fX5_readGorge_b157
                rw [if_neg r1, if_neg r1, if_pos rfl, if_pos rfl]
              · rw [if_neg r1] at q
                exact absurd q (ne9 (by omega))
      · refine ⟨nI (3 + 3 * w), nI w, rn, rk, ?_, fun q => ?_⟩
        · rw [if_neg (fun q => cw (e87.mp q)), ff1, if_neg (fun q => cw (fb1.mp q).2)]
        · rw [ff1, if_neg (fun q => cw (fb1.mp q).2)] at q
          exact absurd q (ne9 (by omega))
