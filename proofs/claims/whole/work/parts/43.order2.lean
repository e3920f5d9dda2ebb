/-! ORDER: the model's search, and both sides -/
def eB : Option (List Nat × Nat) → Int32
  | none => 0
  | some a => nI (figN a.1)
def eM : Option (List Nat × Nat) → Int32
  | none => -9
  | some a => nI a.2
def stO (val : List Nat → Nat) (r : List Nat) : Option (List Nat × Nat) → List Nat × Nat
  | none => (r, val r)
  | some a => if val r ≤ a.2 then a else (r, val r)
theorem foldO_c (val : List Nat → Nat) (r : List Nat) (rs : List (List Nat)) : ∀ st, foldO val (r :: rs) st = foldO val rs (some (stO val r st))
  | none => rfl
  | some a => rfl
theorem stO_lt {val : List Nat → Nat} {r : List Nat} (hv : val r < 1000) : ∀ {st : Option (List Nat × Nat)}, (∀ a, st = some a → a.2 < 1000) → (stO val r st).2 < 1000
  | none, _ => hv
  | some a, h => by
    have so : stO val r (some a) = if val r ≤ a.2 then a else (r, val r) := rfl
    rw [so]
    by_cases c : val r ≤ a.2
    · rw [if_pos c]; exact h a rfl
    · rw [if_neg c]; exact hv
theorem eM_le {x : Nat} (hx : x < 1000) {st : Option (List Nat × Nat)} (hst : ∀ a, st = some a → a.2 < 1000) (val : List Nat → Nat) (r : List Nat) (hv : val r = x) : (nI x ≤ eM st → eB (some (stO val r st)) = eB st ∧ eM (some (stO val r st)) = eM st) ∧ (¬ nI x ≤ eM st → eB (some (stO val r st)) = nI (figN r) ∧ eM (some (stO val r st)) = nI x) := by
  match st, hst with
  | none, _ =>
    have n9 : ¬ nI x ≤ (-9 : Int32) := fun q => by
      rw [fa_le, nI_toInt (by omega), show (-9 : Int32).toInt = -9 by decide] at q
      omega
    exact ⟨fun q => absurd q n9, fun _ => ⟨rfl, congrArg nI hv⟩⟩
  | some a, hst =>
    have ha := hst a rfl
    have le : nI x ≤ eM (some a) ↔ x ≤ a.2 := nI_leI (by omega) (by omega)
    have so : stO val r (some a) = if val r ≤ a.2 then a else (r, val r) := rfl
    rw [so, hv, le]
    refine ⟨fun q => by rw [if_pos q]; exact ⟨rfl, rfl⟩, fun q => by rw [if_neg q]; exact ⟨rfl, rfl⟩⟩
theorem m_end {W L A N K m n pl q2 lost : Nat} {r0 r : List Nat} {nv kd pg f : Nat → Int32} (hP : PH W L A N K) (hm : m < 2 ^ 63) (hn : n ≤ 5) (htd : ∀ k, k < n → td n m k < 32) (hk : KR W K kd) (hv : KR W N nv) (hr0 : r0 ∈ rg 5) (hg : PG pg r0 q2 pl lost) (hr : WK W L (r, 0, pl)) (hf : PG f r q2 pl (LO W r)) (k57 : Int32 → Int64 → Int32 → Int32 → Int32 → Int32 → Int32 → Int32 → (Nat → Int32) → Option (Int32 × Int32 × Int32 × (Nat → Int32))) (k86 : Int32 → Int64 → Int32 → Int32 → Int32 → Int32 → Int32 → Int32 → Int32 → Int32 → Int32 → (Nat → Int32) → Option (Int32 × Int32 × Int32 × (Nat → Int32))) (j4 j5 j6 ob om tu q' : Int32) :
    ∃ tu' f', fX5_findOrder_b86_S (nI L) (nI A) nv kd pg k57 k86 (nI n) (lN m) j4 j5 j6 (nI (bitsN r0)) q' (nI 0 - 1) ob om tu f = k57 (nI n) (lN m) j4 j5 (j6 + 1) (if nI (valN L A N K (td n m) n pl r) ≤ om then ob else j6) (if nI (valN L A N K (td n m) n pl r) ≤ om then om else nI (valN L A N K (td n m) n pl r)) tu' f' := by
  have g5 : ¬ ((5 : Int32) < 0 ∨ 13 ≤ (5 : Int32).toNatClampNeg) := by decide
  have c5 : (5 : Int32).toNatClampNeg = 5 := by decide
  have h5 := (a_lt _ hr.1).2.1
  have h5 : r.length ≤ 5 := h5
  obtain ⟨f1, u1, u2, u3⟩ := m_hush f
  have F1 : PG f1 r 0 pl (LO W r) := ⟨fun i hi => by rw [u2 i (by omega)]; exact hf.1 i hi, by rw [u2 5 (by omega)]; exact hf.2.1, fun w hw => by rw [u3 w hw, q00]; rfl, by rw [u2 11 (by omega)]; exact hf.2.2.2.1, by rw [u2 12 (by omega)]; exact hf.2.2.2.2⟩
  obtain ⟨t2, f2, g2, c2⟩ := m_sing hP hm hn htd hk hv n 0 fu (r, 0, pl) none tu f1 (by omega) (by unfold fu; omega) hr (fun _ h => by cases h) F1
  have c2 : fX5_sing (nI n) (lN m) (nI L) (nI A) tu nv kd f1 = _ := c2
  have l5 : f2 5 = nI (valN L A N K (td n m) n pl r) := g2.2.1
  refine ⟨t2, f2, ?_⟩
  unfold fX5_findOrder_b86_S fX5_findOrder_b193 fX5_findOrder_b223 fX5_findOrder_b226
  rw [if_pos (show nI 0 - (1 : Int32) < 0 by decide), m_row hr0 hg, bs, if_pos rfl, u1, bs, c2, bs, if_neg g5]
  have g5' : ¬ ((5 : Int32) < 0 ∨ (13 : Nat) ≤ 5) := by decide
  simp only [g5, g5', if_false, c5, l5]
  by_cases c : nI (valN L A N K (td n m) n pl r) ≤ om
  · rw [if_pos c, if_pos c, if_pos c, if_pos c]
  · rw [if_neg c, if_neg c, if_neg c, if_neg c]
theorem m_ord {W L A N K m n : Nat} {s : Wk} {nv kd pg : Nat → Int32} (hP : PH W L A N K) (hm : m < 2 ^ 63) (hn : n ≤ 5) (htd : ∀ k, k < n → td n m k < 32) (hs : WK W L s) (hk : KR W K kd) (hv : KR W N nv) (hg : PG pg s.1 s.2.1 s.2.2 (LO W s.1)) (hk1 : 1 ≤ s.1.length) : ∀ (d v c : Nat) (rs : List (List Nat)) (st : Option (List Nat × Nat)) (tu : Int32) (f : Nat → Int32), v + d = 10 ^ s.1.length → d < c → rs.Pairwise (fun r r' => figN r < figN r') → (∀ r ∈ rs, r ∈ PB (bitsN s.1) ∧ v ≤ figN r) → (∀ r ∈ PB (bitsN s.1), v ≤ figN r → r ∈ rs) → (∀ a, st = some a → a.2 < 1000) →
    ∃ tu' f', lp (fun _ _ _ _ _ _ _ _ _ => none) (fX5_findOrder_b57_S (nI L) (nI A) nv kd pg) c (nI n) (lN m) (nI s.1.length) (nI (10 ^ s.1.length)) (nI v) (eB st) (eM st) tu f = some (eB (foldO (valN L A N K (td n m) n s.2.2) rs st), eM (foldO (valN L A N K (td n m) n s.2.2) rs st), tu', f') := by
  have h5 := a_lt _ hs.1
  have hb := h5.2.2.2
  have hl := a_ascl _ hs.1
  have h10 : 10 ^ s.1.length ≤ 10 ^ 5 := Nat.pow_le_pow_right (by decide) h5.2.1
  have pbW : ∀ r, r ∈ PB (bitsN s.1) → WK W L (r, 0, s.2.2) := fun r hr => by
    obtain ⟨e1, e2, -⟩ := pb_row _ hb r hr
    refine ⟨e1, fun x hx => ?_, by show 0 < 2 ^ 20; decide, fun w hw => by show qget 0 w ≤ _; rw [q00]; omega, hs.2.2.2.2⟩
    have b1 := bits_mem r x
    rw [e2, bits_mem] at b1
    exact hs.2.1 x (by simpa [show x ∈ r from hx] using b1)
  intro d
  induction d with
  | zero =>
    intro v c rs st tu f e1 e2 s1 s2 s3 s4
    obtain ⟨c, rfl⟩ : ∃ m, c = m + 1 := ⟨c - 1, by omega⟩
    rw [lp_s]
    have rs0 : rs = [] := by
      cases rs with
      | nil => rfl
      | cons r rs =>
        have := s2 r (by simp)
        obtain ⟨e1, e2, e3, e4, e5⟩ := pb_row _ hb r this.1
        rw [e3, hl] at e5
        omega
    unfold fX5_findOrder_b57_S
    rw [if_pos (nI_le (show 10 ^ s.1.length ≤ v by omega) (by omega)), rs0]
    unfold foldO
    exact ⟨_, _, rfl⟩
  | succ d ih =>
    intro v c rs st tu f e1 e2 s1 s2 s3 s4
    obtain ⟨c, rfl⟩ : ∃ m, c = m + 1 := ⟨c - 1, by omega⟩
    rw [lp_s]
    have ih2 := fun rs st tu f => ih (v + 1) c rs st tu f (by omega) (by omega)
    revert ih2
    generalize lp (fun _ _ _ _ _ _ _ _ _ => none) (fX5_findOrder_b57_S (nI L) (nI A) nv kd pg) c = kk
    intro ih2
    obtain ⟨f1, b1, b2⟩ := m_begin pg f
    obtain ⟨f2, q', k86, i1, i2, i3⟩ := m_dig kk (nI n) (lN m) (nI s.1.length) (nI (10 ^ s.1.length)) (nI v) (eB st) (eM st) tu (nI L) (nI A) nv kd pg s.1.length v fu 0 f1 h5.2.1 (by omega) (by unfold fu; omega)
    rw [Nat.zero_or] at i1
    have i1 : fX5_findOrder_b86 (nI L) (nI A) nv kd pg kk (nI n) (lN m) (nI s.1.length) (nI (10 ^ s.1.length)) (nI v) 0 (nI v) (nI s.1.length - 1) (eB st) (eM st) tu f1 = _ := i1
    unfold fX5_findOrder_b57_S
    rw [if_neg (nI_ge (show v < 10 ^ s.1.length by omega) (by omega)), if_neg (show ¬ nI s.1.length ≤ 0 from (nI_ge (show 0 < s.1.length by omega) (by omega) : ¬ nI s.1.length ≤ nI 0)), b1, bs, i1]
    have mk64 := mkD_lt s.1.length v
    by_cases hM : mkD s.1.length v = bitsN s.1
    · obtain ⟨p1, p2⟩ := rv_pb (by omega) (show v < 10 ^ s.1.length by omega) hb hl hM
      have rl := rv_len s.1.length v
      have i4 := i3 (by omega)
      obtain ⟨r, hr⟩ : ∃ r, r = rv s.1.length v := ⟨_, rfl⟩
      rw [← hr] at p1 p2 rl i4
      have rin := s3 r p1 (by omega)
      obtain ⟨t, ht⟩ : ∃ t, rs = r :: t := by
        cases rs with
        | nil => simp at rin
        | cons h t =>
          rcases List.mem_cons.mp rin with e | e
          · exact ⟨t, by rw [e]⟩
          · have c1 := (List.pairwise_cons.mp s1).1 r e
            have c2 := (s2 h (by simp)).2
            omega
      subst ht
      obtain ⟨o1, o2, o3, o4, o5⟩ := pb_row _ hb r p1
      have LOe : LO W r = LO W s.1 := by unfold LO; rw [o2]
      have F2 : PG f2 r s.2.1 s.2.2 (LO W r) := by
        refine ⟨fun i hi => i4 i (by omega), ?_, fun w hw => ?_, ?_, ?_⟩
        · rw [i2 5 (by omega), b2 5 (by omega), hg.2.1, rl]
        · rw [i2 (6 + w) (by omega), b2 (6 + w) (by omega)]; exact hg.2.2.1 w hw
        · rw [i2 11 (by omega), b2 11 (by omega)]; exact hg.2.2.2.1
        · rw [i2 12 (by omega), b2 12 (by omega), LOe]; exact hg.2.2.2.2
      have wr := pbW r p1
      have v5 := val5 (n := n) hP (td n m) wr
      obtain ⟨tu', f3, me⟩ := m_end hP hm hn htd hk hv hs.1 hg wr F2 kk k86 (nI s.1.length) (nI (10 ^ s.1.length)) (nI v) (eB st) (eM st) tu q'
      rw [hM, me, nI_1, foldO_c]
      obtain ⟨x1, x2⟩ := eM_le (x := valN L A N K (td n m) n s.2.2 r) (by omega) s4 (valN L A N K (td n m) n s.2.2) r rfl
      have st2 : ∀ a, some (stO (valN L A N K (td n m) n s.2.2) r st) = some a → a.2 < 1000 := fun a ha => by
        have e := Option.some.inj ha
        rw [← e]
        exact stO_lt (by omega) s4
      have nx := ih2 t (some (stO (valN L A N K (td n m) n s.2.2) r st)) tu' f3 (List.pairwise_cons.mp s1).2 (fun y hy => ⟨(s2 y (List.mem_cons_of_mem _ hy)).1, by have := (List.pairwise_cons.mp s1).1 y hy; omega⟩) (fun y hy hv2 => (List.mem_cons.mp (s3 y hy (by omega))).resolve_left (fun e => by rw [e] at hv2; omega)) st2
      by_cases c1 : nI (valN L A N K (td n m) n s.2.2 r) ≤ eM st
      · rw [(x1 c1).1, (x1 c1).2] at nx
        rw [if_pos c1, if_pos c1]
        exact nx
      · rw [(x2 c1).1, (x2 c1).2, p2] at nx
        rw [if_neg c1, if_neg c1]
        exact nx
    · have ne : ∀ r ∈ rs, figN r ≠ v := fun r hr e => hM (by
        have := pb_mk _ hb r (s2 r hr).1
        rw [hl, e] at this
        exact this)
      unfold fX5_findOrder_b86_S fX5_findOrder_b226
      rw [if_pos (show nI 0 - (1 : Int32) < 0 by decide), m_row hs.1 hg, bs, if_neg (fun q => hM ((nI_eq (by omega) (by omega)).mp q)), nI_1]
      exact ih2 rs st tu f2 s1 (fun r hr => ⟨(s2 r hr).1, by have := (s2 r hr).2; have := ne r hr; omega⟩) (fun r hr hv2 => s3 r hr (by omega)) s4
theorem sing_nil (L A N K : Nat) (tr : Nat → Nat) : ∀ (d k q pl : Nat) (fs : Option Nat), (singN L A N K tr d k ([], q, pl) fs).1.1 = []
  | 0, k, q, pl, fs => rfl
  | d + 1, k, q, pl, fs => by
    unfold singN
    by_cases c : pl < L
    · rw [if_pos c]; exact sing_nil L A N K tr d (k + 1) _ _ _
    · rw [if_neg c]
theorem m_ten (L A : Int32) (nv kd pg : Nat → Int32) (j1 : Int32) (j2 : Int64) (ob om tu : Int32) (f : Nat → Int32) {k : Nat} (hk : k ≤ 5) : ∀ (d i c : Nat), i + d = k → d < c → lp (fun _ _ _ _ _ _ _ _ _ => none) (fX5_findOrder_b14_S L A nv kd pg) c j1 j2 (nI k) (nI (10 ^ i)) (nI i) ob om tu f = fX5_findOrder_b57 L A nv kd pg j1 j2 (nI k) (nI (10 ^ k)) 0 0 (if k = 0 then 0 else -9) tu f := by
  intro d
  induction d with
  | zero =>
    intro i c e h
    obtain ⟨c, rfl⟩ : ∃ m, c = m + 1 := ⟨c - 1, by omega⟩
    have : i = k := by omega
    subst this
    rw [lp_s]
    unfold fX5_findOrder_b14_S fX5_findOrder_b51
    rw [if_pos (nI_le (Nat.le_refl _) (by omega))]
    by_cases c0 : i = 0
    · rw [if_pos c0, if_pos (show nI i = (0 : Int32) by rw [c0]; rfl)]
    · rw [if_neg c0, if_neg (show ¬ nI i = (0 : Int32) from fun q => c0 ((nI_eq (b := 0) (by omega) (by decide)).mp q))]
  | succ d ih =>
    intro i c e h
    obtain ⟨c, rfl⟩ : ∃ m, c = m + 1 := ⟨c - 1, by omega⟩
    rw [lp_s]
    have i1 := ih (i + 1) c (by omega) (by omega)
    revert i1
    generalize lp (fun _ _ _ _ _ _ _ _ _ => none) (fX5_findOrder_b14_S L A nv kd pg) c = kk
    intro i1
    unfold fX5_findOrder_b14_S
    rw [if_neg (nI_ge (show i < k by omega) (by omega)), show (10 : Int32) = nI 10 from rfl, pk_mul, ← Nat.pow_succ, nI_1]
    exact i1
theorem op_order {W L A N K : Nat} {s : Wk} {pg nv kd : Nat → Int32} (hP : PH W L A N K) (hs : WK W L s) (hk : KR W K kd) (hv : KR W N nv) (hg : PG pg s.1 s.2.1 s.2.2 (LO W s.1)) (j : Int32) (song : Int64) (j4 x1 x2 x3 x4 th ob om tu : Int32) (tr : Nat → Int32) :
    ∃ z w, fX4_order j song j4 (nI L) (nI A) (nI N) (nI K) (nI (encR s.1)) (nI s.2.2) x1 x2 x3 x4 = some z ∧ fX5_order j song j4 th (nI L) (nI A) ob om tu nv kd pg tr = some w ∧ z.1 = w.1 := by
  have h5 := a_lt _ hs.1
  have hb := h5.2.2.2
  have hl := a_ascl _ hs.1
  have m1 : fX5_in j4.toInt64 0 1 = some (if (0 : Int32) ≤ j4 ∧ j4 ≤ 1 then 1 else 0) := m_rng j4 (a := 0) (b := 1) (by decide) (by decide) 0 1 rfl rfl
  have g5 : ¬ ((5 : Int32) < 0 ∨ 13 ≤ (5 : Int32).toNatClampNeg) := by decide
  have c5 : (5 : Int32).toNatClampNeg = 5 := by decide
  unfold fX4_order fX5_order
  rcases song_cases j song with ⟨n, m, rfl, rfl, hn1, hn, hm, htd, e1, e2⟩ | ⟨e1, e2⟩
  · rw [e1, e2, bs, bs, if_neg one_ne, if_pos rfl, m_within, bs, m1, bs]
    by_cases c : (0 : Int32) ≤ j4 ∧ j4 ≤ 1
    · rw [if_pos c, if_neg one_ne, if_neg one_ne]
      unfold fX3_members
      rw [a_mem _ hs.1, bs, bs, (a_asc _ hb).1, bs]
      have asc : WK W L (ascN (bitsN s.1), 0, s.2.2) := by
        refine ⟨(a_asc _ hb).2, fun x hx => ?_, by show 0 < 2 ^ 20; decide, fun w hw => by show qget 0 w ≤ _; rw [q00]; omega, hs.2.2.2.2⟩
        have hx : x ∈ ascN (bitsN s.1) := hx
        unfold ascN at hx
        have := (List.mem_filter.mp hx).2
        rw [bits_mem] at this
        exact hs.2.1 x (of_decide_eq_true this)
      obtain ⟨y1, y2, y3, y4, lo⟩ := c_leftOf hP hm hn htd asc x1 x2 x3 x4
      obtain ⟨pb1, pb2⟩ := pb_head _ hb
      have ck := pb_chk _ hb
      rw [pb1] at ck
      obtain ⟨ck1, ck2⟩ := chk_c ck
      have v5 := val5 (n := n) hP (td n m) asc
      have tl : (PB (bitsN s.1)).tail.length + 1 ≤ 120 := by rw [pb1] at pb2; simpa using pb2
      have hC : ∀ r ∈ (PB (bitsN s.1)).tail, WK W L (r, 0, s.2.2) ∧ encR r ≠ 0 := fun r hr => by
        have hr2 : r ∈ PB (bitsN s.1) := by rw [pb1]; exact List.mem_cons_of_mem _ hr
        obtain ⟨o1, o2, o3, o4, o5⟩ := pb_row _ hb r hr2
        refine ⟨⟨o1, fun x hx => ?_, by show 0 < 2 ^ 20; decide, fun w hw => by show qget 0 w ≤ _; rw [q00]; omega, hs.2.2.2.2⟩, fun q => ?_⟩
        · have b1 := bits_mem r x
          rw [o2, bits_mem] at b1
          exact hs.2.1 x (by simpa [show x ∈ r from hx] using b1)
        · have := o4 q
          rw [this] at hr
          have e : (PB 0).tail = [] := by decide
          rw [e] at hr
          simp at hr
      obtain ⟨w1, w2, w3, w4, co⟩ := c_ord hP hm hn htd j4 (nI (encR s.1)) (PB (bitsN s.1)).tail fu 1 (ascN (bitsN s.1), valN L A N K (td n m) n s.2.2 (ascN (bitsN s.1))) y1 y2 y3 y4 hC (fun _ => ck2) (by omega) (by unfold fu; omega) asc.1 (by show _ < 1000; omega)
      have co : fX4_order_b53 (nI L) (nI A) (nI N) (nI K) (nI (encR s.1)) (nI s.2.2) (nI n) (lN m) j4 (nI (encR (ascN (bitsN s.1)))) (nI (valN L A N K (td n m) n s.2.2 (ascN (bitsN s.1)))) (hdE (PB (bitsN s.1)).tail) 1 y1 y2 y3 y4 = _ := co
      rw [lo, bs, ck1, bs, co]
      have fo : ∃ B M tu' f', fX5_findOrder (nI n) (lN m) (nI L) (nI A) ob om tu nv kd pg tr = some (B, M, tu', f') ∧ B = nI (figN (foldB (valN L A N K (td n m) n s.2.2) (PB (bitsN s.1)).tail (ascN (bitsN s.1), valN L A N K (td n m) n s.2.2 (ascN (bitsN s.1)))).1) ∧ M = nI (foldB (valN L A N K (td n m) n s.2.2) (PB (bitsN s.1)).tail (ascN (bitsN s.1), valN L A N K (td n m) n s.2.2 (ascN (bitsN s.1)))).2 := by
        unfold fX5_findOrder
        rw [if_neg g5, c5, hg.2.1]
        have mt : fX5_findOrder_b14 (nI L) (nI A) nv kd pg (nI n) (lN m) (nI s.1.length) 1 0 ob om tu tr = _ := m_ten (nI L) (nI A) nv kd pg (nI n) (lN m) ob om tu tr h5.2.1 s.1.length 0 fu (by omega) (by unfold fu; omega)
        rw [mt]
        by_cases k0 : s.1.length = 0
        · have s0 : s.1 = [] := List.length_eq_zero_iff.mp k0
          have e1 : (PB (bitsN s.1)).tail = [] := by rw [s0]; decide
          have e2 : ascN (bitsN s.1) = [] := by rw [s0]; decide
          rw [e1, e2, k0, if_pos rfl]
          unfold foldB fX5_findOrder_b57
          rw [show fu = (fu - 1) + 1 by unfold fu; omega, lp_s]
          unfold fX5_findOrder_b57_S
          rw [if_neg (show ¬ nI (10 ^ 0) ≤ 0 by decide), if_pos (show nI 0 ≤ 0 by decide)]
          refine ⟨_, _, _, _, rfl, rfl, ?_⟩
          show (0 : Int32) = nI (valN L A N K (td n m) n s.2.2 [])
          unfold valN
          rw [sing_nil]; rfl
        · have h10 : 10 ^ s.1.length ≤ 10 ^ 5 := Nat.pow_le_pow_right (by decide) h5.2.1
          obtain ⟨tu', f', mo⟩ := m_ord hP hm hn htd hs hk hv hg (by omega) (10 ^ s.1.length) 0 fu (PB (bitsN s.1)) none tu tr (by omega) (by unfold fu; omega) (pb_sort _ hb) (fun r hr => ⟨hr, Nat.zero_le _⟩) (fun r hr _ => hr) (fun a ha => by cases ha)
          have mo : fX5_findOrder_b57 (nI L) (nI A) nv kd pg (nI n) (lN m) (nI s.1.length) (nI (10 ^ s.1.length)) 0 0 (-9) tu tr = _ := mo
          have fe : foldO (valN L A N K (td n m) n s.2.2) (PB (bitsN s.1)) none = some (foldB (valN L A N K (td n m) n s.2.2) (PB (bitsN s.1)).tail (ascN (bitsN s.1), valN L A N K (td n m) n s.2.2 (ascN (bitsN s.1)))) := by
            rw [pb1, foldO_c, foldO_s, ← pb1]; rfl
          rw [if_neg k0, mo, fe]
          exact ⟨_, _, _, _, rfl, rfl, rfl⟩
      obtain ⟨B, M, tu', f', f1, f2, f3⟩ := fo
      rw [f1, bs]
      by_cases c0 : j4 = 0
      · rw [if_pos c0, if_pos c0]
        exact ⟨_, _, rfl, rfl, f2.symm⟩
      · rw [if_neg c0, if_neg c0]
        exact ⟨_, _, rfl, rfl, f3.symm⟩
    · rw [if_neg c, if_pos rfl, if_pos rfl]
      exact ⟨_, _, rfl, rfl, rfl⟩
  · rw [e1, e2, bs, bs, if_pos rfl, if_neg one_ne]
    exact ⟨_, _, rfl, rfl, rfl⟩
