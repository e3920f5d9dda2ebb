/-! THE LAW'S LOOP: every script (made by genlaw.py) -/
theorem law_end {L i : Nat} (hL : L ≤ 3072) (h : L < i + 6) (h2 : i ≤ L + 6) : ((Int32.ofNat L) - (6 : Int32)) < nI i := by
  show nI L - nI 6 < nI i
  rw [fa_lt, pk_sub_toInt (by omega) (by omega), nI_toInt (by omega)]
  omega
theorem law_more {L i : Nat} (hL : L ≤ 3072) (h : i + 6 ≤ L) : ¬ ((Int32.ofNat L) - (6 : Int32)) < nI i := by
  show ¬ nI L - nI 6 < nI i
  rw [fa_lt, pk_sub_toInt (by omega) (by omega), nI_toInt (by omega)]
  omega
theorem law_b1 {L i c : Nat} (hL : L ≤ 3072) (h : i + 6 ≤ L) (hc : c < 6) : ¬ (nI i + nI c < 0 ∨ L ≤ (nI i + nI c).toNatClampNeg) := by
  rw [nI_add, ig (by omega)]
  omega
theorem law_bd {L i : Nat} (hL : L ≤ 3072) (h : i + 6 ≤ L) : BD (nI i) L :=
  ⟨law_b1 (c := 1) hL h (by omega), law_b1 (c := 2) hL h (by omega), law_b1 (c := 3) hL h (by omega), law_b1 (c := 4) hL h (by omega), law_b1 (c := 5) hL h (by omega)⟩
theorem inv_start : Inv (0 : Int32) (0 : Int32) (0 : Int32) (0 : Int32) (0 : Int64) (0 : Int32) (fun _ => 0) (0 : Int32) (1 : Int32) (9 : Int32) (0 : Int32) (0 : Int32) (0 : Int32) (0 : Int32) (0 : Int32) (fun _ => 0) (vp_updL (vp_updL (fun _ => 0) (0 : Int32).toNatClampNeg (-1 : Int64)) (1 : Int32).toNatClampNeg (-1 : Int64)) (0 : Int32) (0 : Int32) (1 : Int32) (9 : Int32) (0 : Int32) (0 : Int32) (0 : Int64) (fun _ => 0) (fun _ => 0) (fun _ => 0) (fun _ => 0) (fun _ => 0) (fun _ => 0) (fun _ => 0) (fun _ => 0) (fun _ => 0) := by
  have q0 : ∀ w, qget 0 w = 0 := fun w => by simp [qget]
  refine ⟨0, 1, 9, 0, 0, 0, 0, ([], 0, 0), fun _ => 0, ⟨⟨by omega, by omega, by omega, by omega, by omega, by omega⟩, ⟨by decide +kernel, (fun x (h : x ∈ ([] : List Nat)) => absurd h List.not_mem_nil), (by show 0 < 2 ^ 20; decide), (fun w _ => by show qget 0 w ≤ 0; rw [q0]; omega), (by show 0 ≤ 1; omega)⟩, fun w h => by omega, fun w h => by omega, ⟨fun i h => absurd h (Nat.not_lt_zero i), rfl, fun w _ => by rw [q0]; rfl, rfl, by decide +kernel⟩, fun i h => by omega, by omega, fun i h => Or.inl ⟨?_, rfl⟩, ⟨by omega, fun i h => by omega⟩, ⟨fun _ => 0, fun _ => false, 0, by omega, fun i h => by omega, rfl, rfl, rfl, rfl, fun i h => by omega⟩⟩, ⟨rfl, rfl, rfl, rfl, rfl, rfl, rfl, rfl, rfl, rfl⟩, ⟨rfl, rfl, rfl, rfl, rfl, rfl⟩⟩
  rcases (show i = 0 ∨ i = 1 by omega) with rfl | rfl <;> rfl
set_option maxHeartbeats 4000000 in
theorem law_all {xs : Nat → Int32} {L : Nat} (hL : L ≤ 3072) : ∀ (d i m : Nat), L ≤ i + 6 * d → i ≤ L + 6 → d < m → ∀ (xG_actCount : Int32) (xG_heardMinutes : Int32) (xG_silentMinutes : Int32) (xG_toldCount : Int32) (xG_seedNow : Int64) (xT_length : Int32) (xB : Nat → Int32) (xP_walkers : Int32) (xP_light : Int32) (xP_water : Int32) (xP_nerves : Int32) (xP_kinds : Int32) (xW1_row : Int32) (xW1_quiets : Int32) (xW1_place : Int32) (xW1_turned : Int32) (xW2_row : Int32) (xW2_quiets : Int32) (xW2_place : Int32) (xW2_turned : Int32) (xAC : Nat → Int64) (xKE : Nat → Int64) (xM_thrown : Int32) (xM_textSize : Int32) (xM_place : Int32) (xM_walkers : Int32) (xM_light : Int32) (xM_water : Int32) (xM_readWalkers : Int32) (xM_readLight : Int32) (xM_readWater : Int32) (xM_acts : Int32) (xM_told : Int32) (xM_seed : Int64) (xM_orderBest : Int32) (xM_orderMany : Int32) (xM_turned : Int32) (xMtext : Nat → Int32) (xMnerve : Nat → Int32) (xMkind : Nat → Int32) (xMreadNerve : Nat → Int32) (xMreadKind : Nat → Int32) (xMpage : Nat → Int32) (xMtrial : Nat → Int32) (xMbook : Nat → Int32) (xMkept : Nat → Int32) (xMisKept : Nat → Int32) (xMtoldMinute : Nat → Int32) (xMtoldHeard : Nat → Int32) (xMworth : Nat → Int32), Inv xG_actCount xG_heardMinutes xG_silentMinutes xG_toldCount xG_seedNow xT_length xB xP_walkers xP_light xP_water xP_nerves xP_kinds xW1_row xW1_quiets xW1_place xAC xKE xM_textSize xM_walkers xM_light xM_water xM_acts xM_told xM_seed xMtext xMnerve xMkind xMpage xMbook xMkept xMisKept xMtoldMinute xMtoldHeard → lp (fun _ _ _ _ _ _ _ _ _ _ _ _ _ _ _ _ _ _ _ _ _ _ _ _ _ _ _ _ _ _ _ _ _ _ _ _ _ _ _ _ _ _ _ _ _ _ _ _ _ _ _ => none) (fL_law_b18_S xs L) m (nI i) xG_actCount xG_heardMinutes xG_silentMinutes xG_toldCount xG_seedNow xT_length xB xP_walkers xP_light xP_water xP_nerves xP_kinds xW1_row xW1_quiets xW1_place xW1_turned xW2_row xW2_quiets xW2_place xW2_turned xAC xKE xM_thrown xM_textSize xM_place xM_walkers xM_light xM_water xM_readWalkers xM_readLight xM_readWater xM_acts xM_told xM_seed xM_orderBest xM_orderMany xM_turned xMtext xMnerve xMkind xMreadNerve xMreadKind xMpage xMtrial xMbook xMkept xMisKept xMtoldMinute xMtoldHeard xMworth = some 1 := by
  intro d
  induction d with
  | zero =>
    intro i m h1 h2 h3 xG_actCount xG_heardMinutes xG_silentMinutes xG_toldCount xG_seedNow xT_length xB xP_walkers xP_light xP_water xP_nerves xP_kinds xW1_row xW1_quiets xW1_place xW1_turned xW2_row xW2_quiets xW2_place xW2_turned xAC xKE xM_thrown xM_textSize xM_place xM_walkers xM_light xM_water xM_readWalkers xM_readLight xM_readWater xM_acts xM_told xM_seed xM_orderBest xM_orderMany xM_turned xMtext xMnerve xMkind xMreadNerve xMreadKind xMpage xMtrial xMbook xMkept xMisKept xMtoldMinute xMtoldHeard xMworth hI
    obtain ⟨m, rfl⟩ : ∃ q, m = q + 1 := ⟨m - 1, by omega⟩
    rw [lp_s]
    unfold fL_law_b18_S
    rw [if_pos (law_end hL (by omega) h2)]
  | succ d ih =>
    intro i m h1 h2 h3 xG_actCount xG_heardMinutes xG_silentMinutes xG_toldCount xG_seedNow xT_length xB xP_walkers xP_light xP_water xP_nerves xP_kinds xW1_row xW1_quiets xW1_place xW1_turned xW2_row xW2_quiets xW2_place xW2_turned xAC xKE xM_thrown xM_textSize xM_place xM_walkers xM_light xM_water xM_readWalkers xM_readLight xM_readWater xM_acts xM_told xM_seed xM_orderBest xM_orderMany xM_turned xMtext xMnerve xMkind xMreadNerve xMreadKind xMpage xMtrial xMbook xMkept xMisKept xMtoldMinute xMtoldHeard xMworth hI
    obtain ⟨m, rfl⟩ : ∃ q, m = q + 1 := ⟨m - 1, by omega⟩
    rw [lp_s]
    by_cases hi : i + 6 ≤ L
    · have hko : KO (lp (fun _ _ _ _ _ _ _ _ _ _ _ _ _ _ _ _ _ _ _ _ _ _ _ _ _ _ _ _ _ _ _ _ _ _ _ _ _ _ _ _ _ _ _ _ _ _ _ _ _ _ _ => none) (fL_law_b18_S xs L) m) (nI i + (6 : Int32)) := by
        rw [show (6 : Int32) = nI 6 from rfl, nI_add]
        intro xG_actCount xG_heardMinutes xG_silentMinutes xG_toldCount xG_seedNow xT_length xB xP_walkers xP_light xP_water xP_nerves xP_kinds xW1_row xW1_quiets xW1_place xW1_turned xW2_row xW2_quiets xW2_place xW2_turned xAC xKE xM_thrown xM_textSize xM_place xM_walkers xM_light xM_water xM_readWalkers xM_readLight xM_readWater xM_acts xM_told xM_seed xM_orderBest xM_orderMany xM_turned xMtext xMnerve xMkind xMreadNerve xMreadKind xMpage xMtrial xMbook xMkept xMisKept xMtoldMinute xMtoldHeard xMworth hI
        exact ih (i + 6) m (by omega) (by omega) (by omega) xG_actCount xG_heardMinutes xG_silentMinutes xG_toldCount xG_seedNow xT_length xB xP_walkers xP_light xP_water xP_nerves xP_kinds xW1_row xW1_quiets xW1_place xW1_turned xW2_row xW2_quiets xW2_place xW2_turned xAC xKE xM_thrown xM_textSize xM_place xM_walkers xM_light xM_water xM_readWalkers xM_readLight xM_readWater xM_acts xM_told xM_seed xM_orderBest xM_orderMany xM_turned xMtext xMnerve xMkind xMreadNerve xMreadKind xMpage xMtrial xMbook xMkept xMisKept xMtoldMinute xMtoldHeard xMworth hI
      exact law_step (law_more hL hi) (fun q => by rw [ig (by omega)] at q; omega) (law_bd hL hi) hko xG_actCount xG_heardMinutes xG_silentMinutes xG_toldCount xG_seedNow xT_length xB xP_walkers xP_light xP_water xP_nerves xP_kinds xW1_row xW1_quiets xW1_place xW1_turned xW2_row xW2_quiets xW2_place xW2_turned xAC xKE xM_thrown xM_textSize xM_place xM_walkers xM_light xM_water xM_readWalkers xM_readLight xM_readWater xM_acts xM_told xM_seed xM_orderBest xM_orderMany xM_turned xMtext xMnerve xMkind xMreadNerve xMreadKind xMpage xMtrial xMbook xMkept xMisKept xMtoldMinute xMtoldHeard xMworth hI
    · unfold fL_law_b18_S
      rw [if_pos (law_end hL (by omega) h2)]
theorem law_ok (xs : Nat → Int32) {L : Nat} (hL : L ≤ 3072) : law_runs xs L 600 := by
  have key := @law_all xs L hL 513 0 600 (by omega) (by omega) (by omega)
  rw [nI_0] at key
  exact key _ _ _ _ _ _ _ _ _ _ _ _ _ _ _ _ _ _ _ _ _ _ _ _ _ _ _ _ _ _ _ _ _ _ _ _ _ _ _ _ _ _ _ _ _ _ _ _ _ _ inv_start
