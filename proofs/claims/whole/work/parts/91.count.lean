/-! Counts. -/
def tN (U : Nat → Int32) (C : Nat) : Nat → Nat
  | 0 => 0
  | n + 1 => tN U C n + cN (nz U n) C
theorem tN_s (U : Nat → Int32) (C n : Nat) : tN U C (n + 1) = tN U C n + cN (nz U n) C := rfl
theorem tN_congr {R C : Nat} {U V : Nat → Int32} (h : ∀ r c, r < R → c ≤ C → V (7 * r + c) = U (7 * r + c)) : ∀ n, n ≤ R → tN V C n = tN U C n := by
  intro n
  induction n with
  | zero => intro _; rfl
  | succ n ih =>
    intro hn
    rw [tN_s, tN_s, ih (by omega), cN_congr C (fun i hi => nz_congr h (by omega) (by omega))]
theorem filled_loop {R C : Nat} (hR : R ≤ 6) (hC : C ≤ 6) (U : Nat → Int32) : ∀ (m r fuel : Nat), r + m = R → m + 1 ≤ fuel → fX1_filled_4 (nI R) (nI C) U fuel (nI (tN U C r)) (nI r) = some (nI (tN U C R)) := by
  intro m
  induction m with
  | zero =>
    intro r fuel hr hf
    obtain ⟨fuel, rfl⟩ : ∃ f, fuel = f + 1 := ⟨fuel - 1, by omega⟩
    obtain rfl : r = R := by omega
    rw [fX1_filled_4_s, if_pos (nI_le (Nat.le_refl _) (by omega))]
  | succ m ih =>
    intro r fuel hr hf
    obtain ⟨fuel, rfl⟩ : ∃ f, fuel = f + 1 := ⟨fuel - 1, by omega⟩
    have := ih (r + 1) fuel (by omega) (by omega)
    rw [fX1_filled_4_s, if_neg (nI_ge (by omega) (by omega)), rowBits_ok U (by omega) hC, allCols_ok hC]
    simp only [obs]
    rw [pc_and (nz U r) (fun _ => true) (n := C + 1) (k := C) (by omega) (by omega) (fun i hi => by rw [b_allb C (by omega) i hi]; simp)]
    simp only [obs, ltp, ← nI_succ, nI_add]
    rw [cN_congr (g := nz U r) C (fun i hi => by simp)]
    exact this
theorem filled_ok {R C : Nat} (hR : R ≤ 6) (hC : C ≤ 6) (U : Nat → Int32) : fX1_filled (nI R) (nI C) U = some (nI (tN U C R)) :=
  filled_loop hR hC U R 0 fuelN (by omega) (by unfold fuelN; omega)
theorem countI_loop {r C : Nat} (hr : r < 6) (hC : C ≤ 6) (cu : Nat → Int32) (rec : Int32 → Int32 → Option (Int32 × Int64 × Int64 × Int32 × Int32 × Int32 × Int32 × Int32 × Int32 × Int32 × Int32 × Int32 × (Nat → Int32) × (Nat → Int32) × (Nat → Int32) × (Nat → Int32) × (Nat → Int32) × (Nat → Int32) × (Nat → Int32) × (Nat → Int32))) (s : Nat) : ∀ (m c fuel : Nat), c + m = C → m + 1 ≤ fuel → fX11_count_20 (nI r) (nI C) cu rec fuel (nI (s + cN (nz cu r) c)) (nI c) = rec (nI (s + cN (nz cu r) C)) (nI (r + 1)) := by
  intro m
  induction m with
  | zero =>
    intro c fuel hc hf
    obtain ⟨fuel, rfl⟩ : ∃ f, fuel = f + 1 := ⟨fuel - 1, by omega⟩
    obtain rfl : c = C := by omega
    rw [fX11_count_20_s, if_pos (nI_le (Nat.le_refl _) (by omega))]
    unfold fX11_count_57
    rw [← nI_succ]
  | succ m ih =>
    intro c fuel hc hf
    obtain ⟨fuel, rfl⟩ : ∃ f, fuel = f + 1 := ⟨fuel - 1, by omega⟩
    have := ih (c + 1) fuel (by omega) (by omega)
    rw [fX11_count_20_s, if_neg (nI_ge (by omega) (by omega)), cell_ok]
    simp only [obs, ltp, inB_ok (n := 42) (i := 7 * r + c) (lt42 hr (by omega)) (by omega), nI_clamp (n := 7 * r + c) (by omega), nI_p0, ← nI_succ]
    rw [cN_s] at this
    by_cases h : cu (7 * r + c) = 0
    · rw [if_pos h]
      rw [if_neg (by simp [nz, h]), Nat.add_zero] at this
      exact this
    · rw [if_neg h]
      rw [if_pos (by simp [nz, h])] at this
      exact this
theorem countO_loop (p1 taped undos : Int32) (up lo : Int64) (il rank brr bcc fd : Int32) (all lc lr pC pF pR pW : Nat → Int32) {R C : Nat} (hR : R ≤ 6) (hC : C ≤ 6) (isB fr : Int32) (cl cu : Nat → Int32) : ∀ (m r fuel : Nat), r + m = R → m + 1 ≤ fuel → fX11_count_9 p1 taped undos up lo il rank brr bcc fd all lc lr pC pF pR pW (nI R) (nI C) isB fr cl cu fuel (nI (tN cu C r)) (nI r) = fX11_count_63 p1 taped undos up lo il rank brr bcc fd all lc lr pC pF pR pW (nI (tN cu C R)) (nI R) (nI C) isB fr cl cu := by
  intro m
  induction m with
  | zero =>
    intro r fuel hr hf
    obtain ⟨fuel, rfl⟩ : ∃ f, fuel = f + 1 := ⟨fuel - 1, by omega⟩
    obtain rfl : r = R := by omega
    rw [fX11_count_9_s, if_pos (nI_le (Nat.le_refl _) (by omega))]
  | succ m ih =>
    intro r fuel hr hf
    obtain ⟨fuel, rfl⟩ : ∃ f, fuel = f + 1 := ⟨fuel - 1, by omega⟩
    have := ih (r + 1) fuel (by omega) (by omega)
    rw [tN_s] at this
    have q := countI_loop (r := r) (by omega) hC cu (fX11_count_9 p1 taped undos up lo il rank brr bcc fd all lc lr pC pF pR pW (nI R) (nI C) isB fr cl cu fuel) (tN cu C r) C 0 fuelN (by omega) (by unfold fuelN; omega)
    rw [show tN cu C r + cN (nz cu r) 0 = tN cu C r from rfl, show nI 0 = 0 from rfl] at q
    rw [fX11_count_9_s, if_neg (nI_ge (by omega) (by omega)), q]
    exact this
theorem fill_tot {k : Nat} (hk : k ≤ 6) (fills : Nat → Int32) : ∃ t, fX7_fillOfAll (nI k) fills = some t := by
  obtain ⟨t, t1, -⟩ := fills_ok hk (fills := fills) (pF := fills) (fun j hj => rfl)
  exact ⟨t, t1⟩
theorem least_loop {R C : Nat} (hR6 : R ≤ 6) (hC6 : C ≤ 6) {U L all : Nat → Int32} (hB : ∀ ycl ycu, ∃ cl' cu', fX11_begins 0 all ycl ycu = some (nI R, nI C, 0, 0, cl', cu') ∧ eqG R C U L cu' cl') : ∀ (m j fuel fuel' : Nat) (best least : Int32) (rank broken br bc mr mc b1 b2 : Int32) (fu fw : Int64) (fi : Int32) (fills : Nat → Int32) (gr gc : Int32) (L0 : Nat → Int32) (su sl : Int64) (si : Int32) (U0 pCols pRows weights : Nat → Int32) (up lo : Int64) (il rw' cl' rk brr bcc isB fd fr : Int32) (ycl ycu lc lr pC pF pR pW : Nat → Int32), j + m = 3 → m + 1 ≤ fuel → m + 1 ≤ fuel' →
    ∃ best' w1 w2 w3 w4 w5 w6 w7 w8 w9 w10 w11 w12 w13 w14 w15 w16 w17 w18 w19 w20 w21 w22 z1 z2 z3 z4 z5 z6 z7 z8 z9 z10 z11 z12 z13 z14 z15 z16 z17 z18 z19, fX10_leastFillingRule_6 (nI R) (nI C) L U fuel best least (nI j) rank broken br bc mr mc b1 b2 fu fw fi fills gr gc L0 su sl si U0 pCols pRows weights = some (best', w1, w2, w3, w4, w5, w6, w7, w8, w9, w10, w11, w12, w13, w14, w15, w16, w17, w18, w19, w20, w21, w22) ∧
      fX11_leastFill_6 all fuel' best least (nI j) up lo il rw' cl' rk brr bcc isB fd fr ycl ycu lc lr pC pF pR pW = some (best', z1, z2, z3, z4, z5, z6, z7, z8, z9, z10, z11, z12, z13, z14, z15, z16, z17, z18, z19) := by
  intro m
  induction m with
  | zero =>
    intros
    rename_i j fuel fuel' best least rank broken br bc mr mc b1 b2 fu fw fi fills gr gc L0 su sl si U0 pCols pRows weights up lo il rw' cl' rk brr bcc isB fd fr ycl ycu lc lr pC pF pR pW hj hf hf'
    obtain ⟨fuel, rfl⟩ : ∃ f, fuel = f + 1 := ⟨fuel - 1, by omega⟩
    obtain ⟨fuel', rfl⟩ : ∃ f, fuel' = f + 1 := ⟨fuel' - 1, by omega⟩
    obtain rfl : j = 3 := by omega
    rw [fX10_leastFillingRule_6_s, if_pos (show (3 : Int32) ≤ nI 3 by decide), fX11_leastFill_6_s, if_pos (show (3 : Int32) ≤ nI 3 by decide)]
    exact ⟨_, _, _, _, _, _, _, _, _, _, _, _, _, _, _, _, _, _, _, _, _, _, _, _, _, _, _, _, _, _, _, _, _, _, _, _, _, _, _, _, _, _, rfl, rfl⟩
  | succ m ih =>
    intros
    rename_i j fuel fuel' best least rank broken br bc mr mc b1 b2 fu fw fi fills gr gc L0 su sl si U0 pCols pRows weights up lo il rw' cl' rk brr bcc isB fd fr ycl ycu lc lr pC pF pR pW hj hf hf'
    obtain ⟨fuel, rfl⟩ : ∃ f, fuel = f + 1 := ⟨fuel - 1, by omega⟩
    obtain ⟨fuel', rfl⟩ : ∃ f, fuel' = f + 1 := ⟨fuel' - 1, by omega⟩
    obtain ⟨cl, cu, hb, hG⟩ := hB ycl ycu
    obtain ⟨k, b, br', bc', mr', mc', b1', b2', fu', fw', fi', fills', L1, su', sl', si', U1, pCols', pRows', weights', up1, lo1, il1, brr', bcc', fd', cl1, cu1, lc1, lr1, pC1, pF1, pR1, pW1, s1, s2, hk6, hsw⟩ := sweep_ok (nI j) hR6 hC6 hG br bc b1 b2 brr bcc fd il fi si fu fw su sl up lo fills L0 U0 pCols pRows weights lc lr pC pF pR pW
    rw [fX10_leastFillingRule_6_s, if_neg (show ¬ (3 : Int32) ≤ nI j from nI_ge (a := j) (b := 3) (by omega) (by omega)), fX11_leastFill_6_s, if_neg (show ¬ (3 : Int32) ≤ nI j from nI_ge (a := j) (b := 3) (by omega) (by omega))]
    rw [s1, hb]
    simp only [obs]
    rw [s2]
    simp only [obs, ← nI_succ]
    rcases hsw with ⟨rfl, -, -⟩ | ⟨rfl, hS⟩
    · obtain ⟨t, t1⟩ := fill_tot hk6 fills'
      rw [t1]
      simp only [obs, if_neg one0]
      exact ih (j + 1) _ _ _ _ _ _ _ _ _ _ _ _ _ _ _ _ _ _ _ _ _ _ _ _ _ _ _ _ _ _ _ _ _ _ _ _ _ _ _ _ _ _ _ _ _ (by omega) (by omega) (by omega)
    · obtain ⟨-, -, -, -, -, ri, ci, w1, -⟩ := hS
      obtain ⟨t, t1, t2⟩ := fills_ok hk6 (fun j hj => (w1 j hj).2.2.2.2.2.2.1)
      unfold fX11_leastFill_44
      rw [t1, t2]
      simp only [obs, ↓reduceIte, ← nI_succ]
      by_cases q : best = -1
      · simp only [if_pos q]
        exact ih (j + 1) _ _ _ _ _ _ _ _ _ _ _ _ _ _ _ _ _ _ _ _ _ _ _ _ _ _ _ _ _ _ _ _ _ _ _ _ _ _ _ _ _ _ _ _ _ (by omega) (by omega) (by omega)
      · simp only [if_neg q]
        by_cases q2 : least ≤ t
        · have q3 : ¬ t < least := fun h => by rw [Int32.lt_iff_toInt_lt] at h; rw [Int32.le_iff_toInt_le] at q2; omega
          simp only [if_pos q2, if_neg q3]
          exact ih (j + 1) _ _ _ _ _ _ _ _ _ _ _ _ _ _ _ _ _ _ _ _ _ _ _ _ _ _ _ _ _ _ _ _ _ _ _ _ _ _ _ _ _ _ _ _ _ (by omega) (by omega) (by omega)
        · have q3 : t < least := by rw [Int32.lt_iff_toInt_lt]; rw [Int32.le_iff_toInt_le] at q2; omega
          simp only [if_neg q2, if_pos q3]
          exact ih (j + 1) _ _ _ _ _ _ _ _ _ _ _ _ _ _ _ _ _ _ _ _ _ _ _ _ _ _ _ _ _ _ _ _ _ _ _ _ _ _ _ _ _ _ _ _ _ (by omega) (by omega) (by omega)
theorem pure_count : Pure_count := by
  intro p1 x_now_fault x_now_faultPlace x_now_refusal x_now_longRow x_now_longColumn x_now_matrix_rows x_now_matrix_columns x_now_matrix_upper x_now_matrix_lower x_now_tape_length x_now_tape_bytes x_images x_past_size x_past_top x_past_kept x_sweep_rank x_sweep_broken x_sweep_brokenRow x_sweep_brokenColumn x_sweep_liveRows x_sweep_liveColumns x_sweep_bestRow x_sweep_bestColumn x_sweep_grid_rows x_sweep_grid_columns x_sweep_grid_upper x_sweep_grid_lower x_sweep_grid_sum_upper x_sweep_grid_sum_lower x_sweep_grid_sum_isLong x_sweep_pivotRows x_sweep_pivotColumns x_sweep_fills x_sweep_weights x_sweep_factor_upper x_sweep_factor_lower x_sweep_factor_isLong y_taped y_faultKind y_faultPlace y_undos y_up y_low y_isLong y_rank y_brokenRow y_brokenColumn y_filled y_all y_tape y_isImage y_cu y_cl y_pivotRow y_pivotColumn y_pivotFill y_pivotWeight y_liveRow y_liveColumn hI
  obtain ⟨R, C, cl, cu, hR1, hR6, hC1, hC6, rfl, rfl, hb, hG⟩ := inv_begin hI.1 y_cl y_cu
  have e3 : x_past_size = y_undos := hI.2.2.2.2.1.1
  have e4 : x_now_tape_length = y_taped := hI.2.2.1.1
  have hB : ∀ ycl ycu, ∃ cl' cu', fX11_begins 0 y_all ycl ycu = some (nI R, nI C, 0, 0, cl', cu') ∧ eqG R C x_now_matrix_upper x_now_matrix_lower cu' cl' := by
    intro ycl ycu
    obtain ⟨R', C', cl', cu', -, h6, -, h6', e1, e2, hb', hG'⟩ := inv_begin hI.1 ycl ycu
    have e1' : nI R = nI R' := e1
    have e2' : nI C = nI C' := e2
    obtain rfl := (nI_eq (by omega) (by omega)).mp e1'
    obtain rfl := (nI_eq (by omega) (by omega)).mp e2'
    exact ⟨cl', cu', hb', hG'⟩
  unfold fX10_count fX11_count
  rw [hb]
  simp only [obs]
  have q := countO_loop p1 y_taped y_undos y_up y_low y_isLong y_rank y_brokenRow y_brokenColumn y_filled y_all y_liveColumn y_liveRow y_pivotColumn y_pivotFill y_pivotRow y_pivotWeight hR6 hC6 0 0 cl cu R 0 fuelN (by omega) (by unfold fuelN; omega)
  rw [show nI (tN cu C 0) = 0 from rfl, show nI 0 = 0 from rfl] at q
  rw [q]
  unfold fX11_count_63
  by_cases q0 : p1 = 0
  · simp only [if_pos q0]
    exact ⟨_, _, rfl, rfl, rfl, hI⟩
  simp only [if_neg q0]
  by_cases q1 : p1 = 1
  · simp only [if_pos q1]
    exact ⟨_, _, rfl, rfl, rfl, hI⟩
  simp only [if_neg q1]
  by_cases q2 : p1 = 2
  · simp only [if_pos q2]
    rw [filled_ok hR6 hC6]
    simp only [obs]
    refine ⟨_, _, rfl, rfl, ?_, hI⟩
    exact congrArg nI (tN_congr (fun r c hr hc => (hG r c hr hc).1) R (Nat.le_refl _)).symm
  simp only [if_neg q2]
  by_cases q3 : p1 = 3
  · simp only [if_pos q3]
    exact ⟨_, _, rfl, rfl, e3, hI⟩
  simp only [if_neg q3]
  by_cases q4 : p1 = 4
  · simp only [if_pos q4]
    exact ⟨_, _, rfl, rfl, e4, hI⟩
  simp only [if_neg q4]
  by_cases q5 : p1 = 5
  · simp only [if_pos q5]
    unfold fX10_leastFillingRule fX11_leastFill
    obtain ⟨best', w1, w2, w3, w4, w5, w6, w7, w8, w9, w10, w11, w12, w13, w14, w15, w16, w17, w18, w19, w20, w21, w22, z1, z2, z3, z4, z5, z6, z7, z8, z9, z10, z11, z12, z13, z14, z15, z16, z17, z18, z19, r1, r2⟩ := least_loop hR6 hC6 hB 3 0 fuelN fuelN (-1) 0 x_sweep_rank x_sweep_broken x_sweep_brokenRow x_sweep_brokenColumn x_sweep_liveRows x_sweep_liveColumns x_sweep_bestRow x_sweep_bestColumn x_sweep_factor_upper x_sweep_factor_lower x_sweep_factor_isLong x_sweep_fills x_sweep_grid_rows x_sweep_grid_columns x_sweep_grid_lower x_sweep_grid_sum_upper x_sweep_grid_sum_lower x_sweep_grid_sum_isLong x_sweep_grid_upper x_sweep_pivotColumns x_sweep_pivotRows x_sweep_weights y_up y_low y_isLong (nI R) (nI C) y_rank y_brokenRow y_brokenColumn 0 y_filled 0 cl cu y_liveColumn y_liveRow y_pivotColumn y_pivotFill y_pivotRow y_pivotWeight (by omega) (by unfold fuelN; omega) (by unfold fuelN; omega)
    rw [show nI 0 = 0 from rfl] at r1 r2
    rw [r1, r2]
    simp only [obs]
    exact ⟨_, _, rfl, rfl, rfl, hI⟩
  · simp only [if_neg q5]
    exact ⟨_, _, rfl, rfl, rfl, hI⟩
