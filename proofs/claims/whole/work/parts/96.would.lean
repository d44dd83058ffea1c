/-! A side told anew. -/
theorem would_loop (p2 p3 p4 p5 : Int32) (tb1 : -999 ≤ p2.toInt ∧ p2.toInt ≤ 999) (tb2 : 1 ≤ p3.toInt ∧ p3.toInt ≤ 99) {R C s : Nat} (hR : R ≤ 6) (hC : C ≤ 6) (hs : s ≤ C) {U L : Nat → Int32} (hgood : ∀ r c, r < R → c ≤ C → goodE (U (7 * r + c)) (L (7 * r + c))) (rank broken br bc mr mc b1 b2 : Int32) (fu fw : Int64) (fi : Int32) (fills : Nat → Int32) (gr gc : Int32) (L0 : Nat → Int32) (su sl : Int64) (si : Int32) (U0 pCols pRows weights : Nat → Int32) (kn : Int32) (vl : Nat → Int32) (pu pl : Int64) (pi : Int32) (ru rl : Int64) (ri : Int32) (vu : Nat → Int32) (rk brr bcc fd isB fr : Int32) (un lc lr pC pF pR pW : Nat → Int32) (xl xu : Nat → Int64) :
    ∀ (m r fuel fuel' : Nat) (qu ql : Int64) (qi : Int32) (tl tu : Nat → Int32) (up lo : Int64) (il : Int32) (cl cu : Nat → Int32), r + m = R → m + 1 ≤ fuel → m + 1 ≤ fuel' → eqG R C tu tl cu cl → (∀ i, r ≤ i → i < R → cu (7 * i + s) = U (7 * i + s) ∧ cl (7 * i + s) = L (7 * i + s)) →
    ((∃ u, fX10_would_41 (nI s) p2 p3 p4 p5 L U rank broken br bc mr mc b1 b2 fu fw fi fills gr gc L0 su sl si U0 pCols pRows weights kn vl pu pl pi ru rl ri vu (nI R) (nI C) fuel (nI r) qu ql qi tl tu = some u ∧ u.1 = -2000000000) ∧ ∃ v, fX11_would_46 (nI s) p2 p3 p4 p5 rk brr bcc fd un lc lr pC pF pR pW xl xu (nI R) (nI C) isB fr fuel' (nI r) up lo il cl cu = some v ∧ v.1 = -2000000000) ∨
    (∃ qu' ql' qi' tl' tu' up' lo' il' cl' cu', eqG R C tu' tl' cu' cl' ∧ fX10_would_41 (nI s) p2 p3 p4 p5 L U rank broken br bc mr mc b1 b2 fu fw fi fills gr gc L0 su sl si U0 pCols pRows weights kn vl pu pl pi ru rl ri vu (nI R) (nI C) fuel (nI r) qu ql qi tl tu = fX10_would_115 p4 p5 rank broken br bc mr mc b1 b2 fu fw fi fills gr gc L0 su sl si U0 pCols pRows weights kn vl pu pl pi ru rl ri vu qu' ql' qi' (nI R) (nI C) tl' tu' ∧
      fX11_would_46 (nI s) p2 p3 p4 p5 rk brr bcc fd un lc lr pC pF pR pW xl xu (nI R) (nI C) isB fr fuel' (nI r) up lo il cl cu = fX11_would_121 p4 p5 brr bcc fd un lc lr pC pF pR pW xl xu up' lo' il' (nI R) (nI C) fr cl' cu') := by
  intro m
  induction m with
  | zero =>
    intro r fuel fuel' qu ql qi tl tu up lo il cl cu hm hf hf' hG hrest
    obtain ⟨fuel, rfl⟩ : ∃ f, fuel = f + 1 := ⟨fuel - 1, by omega⟩
    obtain ⟨fuel', rfl⟩ : ∃ f, fuel' = f + 1 := ⟨fuel' - 1, by omega⟩
    obtain rfl : r = R := by omega
    right
    rw [fX10_would_41_s, if_pos (nI_le (Nat.le_refl _) (by omega)), fX11_would_46_s, if_pos (nI_le (Nat.le_refl _) (by omega))]
    exact ⟨_, _, _, _, _, _, _, _, _, _, hG, rfl, rfl⟩
  | succ m ih =>
    intro r fuel fuel' qu ql qi tl tu up lo il cl cu hm hf hf' hG hrest
    obtain ⟨fuel, rfl⟩ : ∃ f, fuel = f + 1 := ⟨fuel - 1, by omega⟩
    obtain ⟨fuel', rfl⟩ : ∃ f, fuel' = f + 1 := ⟨fuel' - 1, by omega⟩
    have hrc := lt42 (show r < 6 by omega) (show s < 7 by omega)
    obtain ⟨e1, e2⟩ := hrest r (Nat.le_refl _) (by omega)
    have g1 := hgood r s (by omega) hs
    rw [fX10_would_41_s, if_neg (nI_ge (by omega) (by omega)), load_ok (by omega) (by omega), fX11_would_46_s, if_neg (nI_ge (by omega) (by omega)), cell_ok]
    simp only [obs, inB_ok (n := 42) hrc (by omega), nI_clamp (n := 7 * r + s) (by omega), e1, e2, ← nI_succ]
    rcases times2r g1 (V := p2) (M := p3) (by omega) (by omega) (by omega) with ⟨t1, x, y, t2⟩ | ⟨A, B, gA, t1, t2⟩
    · left
      rw [t1, t2]
      simp only [obs, if_neg one0]
      exact ⟨⟨_, rfl, rfl⟩, _, rfl, rfl⟩
    · rw [t1, t2]
      simp only [obs, ↓reduceIte]
      rw [put_ok (by omega) (by omega), lays_ok (by omega) (by omega)]
      simp only [obs, i64_32]
      refine ih (r + 1) _ _ _ _ _ _ _ _ _ _ _ _ (by omega) (by omega) (by omega) (eqG_put hG _ gA) (fun i h1 h2 => ?_)
      rw [pk_un (by omega), pk_un (by omega)]
      exact hrest i (by omega) h2
theorem pure_would : Pure_would := by
  intro p1 p2 p3 p4 p5 x_now_fault x_now_faultPlace x_now_refusal x_now_longRow x_now_longColumn x_now_matrix_rows x_now_matrix_columns x_now_matrix_upper x_now_matrix_lower x_now_tape_length x_now_tape_bytes x_images x_past_size x_past_top x_past_kept x_sweep_rank x_sweep_broken x_sweep_brokenRow x_sweep_brokenColumn x_sweep_liveRows x_sweep_liveColumns x_sweep_bestRow x_sweep_bestColumn x_sweep_grid_rows x_sweep_grid_columns x_sweep_grid_upper x_sweep_grid_lower x_sweep_grid_sum_upper x_sweep_grid_sum_lower x_sweep_grid_sum_isLong x_sweep_pivotRows x_sweep_pivotColumns x_sweep_fills x_sweep_weights x_sweep_factor_upper x_sweep_factor_lower x_sweep_factor_isLong x_values_known x_values_upper x_values_lower x_values_rest_upper x_values_rest_lower x_values_rest_isLong x_values_part_upper x_values_part_lower x_values_part_isLong x_trial_rows x_trial_columns x_trial_upper x_trial_lower x_ratio_upper x_ratio_lower x_ratio_isLong y_taped y_faultKind y_faultPlace y_undos y_up y_low y_isLong y_rank y_brokenRow y_brokenColumn y_filled y_all y_tape y_isImage y_cu y_cl y_pivotRow y_pivotColumn y_pivotFill y_pivotWeight y_liveRow y_liveColumn y_xu y_xl y_isUnknown hh83 hI
  obtain ⟨R, C, cl, cu, hR1, hR6, hC1, hC6, rfl, rfl, hb, hG⟩ := inv_begin hI.1 y_cl y_cu
  unfold fX10_would fX11_would
  rw [hb]
  simp only [obs]
  rcases side_cases p1 hC6 with ⟨s, hs, rfl, a1, a2⟩ | ⟨a1, a2⟩
  · rcases told_cases p2 p3 with ⟨t1, t2, tb1, tb2⟩ | ⟨t1, t2⟩
    · obtain ⟨L', U', hcp, hcc⟩ := copy_ok x_trial_lower x_trial_upper (nI R) (nI C) x_now_matrix_lower x_now_matrix_upper
      rw [a1, a2]
      simp only [obs, if_neg one0]
      rw [t1, t2]
      simp only [obs, if_neg one0]
      rw [hcp]
      simp only [obs]
      have hl := would_loop p2 p3 p4 p5 tb1 tb2 hR6 hC6 hs (fun r c hr hc => (hG r c hr hc).2.2) x_sweep_rank x_sweep_broken x_sweep_brokenRow x_sweep_brokenColumn x_sweep_liveRows x_sweep_liveColumns x_sweep_bestRow x_sweep_bestColumn x_sweep_factor_upper x_sweep_factor_lower x_sweep_factor_isLong x_sweep_fills x_sweep_grid_rows x_sweep_grid_columns x_sweep_grid_lower x_sweep_grid_sum_upper x_sweep_grid_sum_lower x_sweep_grid_sum_isLong x_sweep_grid_upper x_sweep_pivotColumns x_sweep_pivotRows x_sweep_weights x_values_known x_values_lower x_values_part_upper x_values_part_lower x_values_part_isLong x_values_rest_upper x_values_rest_lower x_values_rest_isLong x_values_upper y_rank y_brokenRow y_brokenColumn y_filled 0 0 y_isUnknown y_liveColumn y_liveRow y_pivotColumn y_pivotFill y_pivotRow y_pivotWeight y_xl y_xu R 0 fuelN fuelN x_ratio_upper x_ratio_lower x_ratio_isLong L' U' y_up y_low y_isLong cl cu (by omega) (by unfold fuelN; omega) (by unfold fuelN; omega) (eqG_copy hR6 hC6 hG hcc) (fun i _ hi => ⟨(hG i s hi hs).1, (hG i s hi hs).2.1⟩)
      rw [show nI 0 = 0 from rfl] at hl
      rcases col_cases p4 hC1 hC6 with ⟨c, hc, rfl, c1, c2⟩ | ⟨c1, c2⟩
      · rw [c2]
        simp only [obs, if_neg one0]
        rcases hl with ⟨⟨u, u1, u2⟩, v, v1, v2⟩ | ⟨qu', ql', qi', tl', tu', up', lo', il', cl', cu', hG', u1, v1⟩
        · rw [u1, v1]
          exact ⟨_, _, rfl, rfl, u2.trans v2.symm, hI⟩
        · rw [u1, v1]
          obtain ⟨a, w1, w2, w3, w4, w5, w6, w7, w8, w9, w10, w11, w12, w13, w14, w15, w16, w17, w18, w19, w20, w21, w22, w23, w24, w25, w26, w27, w28, w29, w30, w31, t, z1, z2, z3, z4, z5, z6, z7, z8, z9, z10, z11, z12, z13, z14, z15, z16, z17, z18, z19, q1, q2, hor⟩ := solved_ok hR6 hC6 hc hG' p5 x_sweep_rank x_sweep_broken x_sweep_brokenRow x_sweep_brokenColumn x_sweep_liveRows x_sweep_liveColumns x_sweep_bestRow x_sweep_bestColumn x_sweep_factor_upper x_sweep_factor_lower x_sweep_factor_isLong x_sweep_fills x_sweep_grid_rows x_sweep_grid_columns x_sweep_grid_lower x_sweep_grid_sum_upper x_sweep_grid_sum_lower x_sweep_grid_sum_isLong x_sweep_grid_upper x_sweep_pivotColumns x_sweep_pivotRows x_sweep_weights x_values_known x_values_lower x_values_part_upper x_values_part_lower x_values_part_isLong x_values_rest_upper x_values_rest_lower x_values_rest_isLong x_values_upper up' lo' il' y_brokenRow y_brokenColumn y_filled y_isUnknown y_liveColumn y_liveRow y_pivotColumn y_pivotFill y_pivotRow y_pivotWeight y_xl y_xu
          unfold fX10_would_115 fX11_would_121
          rw [q1, q2]
          simp only [obs]
          rcases hor with ⟨rfl, rfl⟩ | ⟨rfl, ha⟩
          · simp only [↓reduceIte]
            exact ⟨_, _, rfl, rfl, rfl, hI⟩
          · rw [ha]
            simp only [obs, if_neg one0]
            exact ⟨_, _, rfl, rfl, rfl, hI⟩
      · rw [c2]
        simp only [obs, ↓reduceIte]
        rcases hl with ⟨⟨u, u1, u2⟩, -⟩ | ⟨qu', ql', qi', tl', tu', up', lo', il', cl', cu', hG', u1, -⟩
        · rw [u1]
          exact ⟨_, _, rfl, rfl, u2, hI⟩
        · rw [u1]
          unfold fX10_would_115 fX10_solved
          rw [c1]
          simp only [obs, ↓reduceIte]
          exact ⟨_, _, rfl, rfl, rfl, hI⟩
    · rw [a1, a2]
      simp only [obs, if_neg one0]
      rw [t1, t2]
      simp only [obs, ↓reduceIte]
      exact ⟨_, _, rfl, rfl, rfl, hI⟩
  · rw [a1, a2]
    simp only [obs, ↓reduceIte]
    exact ⟨_, _, rfl, rfl, rfl, hI⟩
