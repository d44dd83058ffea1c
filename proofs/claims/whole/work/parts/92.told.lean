/-! Told fractions; a rank that would be. -/
theorem told_cases (p q : Int32) : (fX10_isTold p q = some 1 ∧ fX11_isTold p q = some 1 ∧ (-999 ≤ p.toInt ∧ p.toInt ≤ 999) ∧ (1 ≤ q.toInt ∧ q.toInt ≤ 99)) ∨ (fX10_isTold p q = some 0 ∧ fX11_isTold p q = some 0) := by
  unfold fX10_isTold fX11_isTold fX11_isIn
  by_cases h1 : p < -999
  · right
    rw [if_pos h1, if_pos h1]
    exact ⟨rfl, rfl⟩
  by_cases h2 : 999 < p
  · right
    rw [if_neg h1, if_pos h2, if_neg h1, if_pos h2]
    exact ⟨rfl, rfl⟩
  by_cases h3 : q < 1
  · right
    rw [if_neg h1, if_neg h2, if_pos h3, if_neg h1, if_neg h2]
    exact ⟨rfl, rfl⟩
  by_cases h4 : 99 < q
  · right
    rw [if_neg h1, if_neg h2, if_neg h3, if_pos h4, if_neg h1, if_neg h2]
    exact ⟨rfl, rfl⟩
  · left
    rw [if_neg h1, if_neg h2, if_neg h3, if_neg h4, if_neg h1, if_neg h2]
    rw [Int32.lt_iff_toInt_lt] at h1 h2 h3 h4
    have e1 : (-999 : Int32).toInt = -999 := rfl
    have e2 : (999 : Int32).toInt = 999 := rfl
    have e3 : (1 : Int32).toInt = 1 := rfl
    have e4 : (99 : Int32).toInt = 99 := rfl
    exact ⟨rfl, rfl, ⟨by omega, by omega⟩, by omega, by omega⟩
theorem told_lg {p q : Int} (h1 : p.natAbs ≤ 1000000000) (h2 : q.natAbs ≤ 1000000000) : ¬ isLg p q := by
  have a := qU_abs p q
  have b := qL_abs p q
  have c := Nat.div_le_self p.natAbs (Nat.gcd p.natAbs q.natAbs)
  have d := Nat.div_le_self q.natAbs (Nat.gcd p.natAbs q.natAbs)
  unfold isLg
  omega
theorem told_start {p q : Int32} (h1 : -999 ≤ p.toInt ∧ p.toInt ≤ 999) (h2 : 1 ≤ q.toInt ∧ q.toInt ≤ 99) : ∃ U L, goodE U L ∧ fX3_start p.toInt64 q.toInt64 = some (U.toInt64, L.toInt64, 0) ∧ fX11_comes p.toInt64 q.toInt64 = some (U.toInt64, L.toInt64, 0) := by
  have hl : ¬ isLg p.toInt64.toInt q.toInt64.toInt := by rw [i64, i64]; exact told_lg (by omega) (by omega)
  obtain ⟨U, L, hg, e1, e2⟩ := fits_good (a := p.toInt64.toInt) (b := q.toInt64.toInt) (by rw [i64]; omega) hl
  refine ⟨U, L, hg, ?_, ?_⟩
  · unfold fX3_start
    rw [bd3, settle_ok (by rw [i64]; omega) (by rw [i64]; omega) (by rw [i64]; omega) hl, e1, e2]
  · rw [comes_ok (by rw [i64]; omega) (by rw [i64]; omega) (by rw [i64]; omega) hl, e1, e2]
theorem times2r {U L V M : Int32} (h1 : goodE U L) (b2 : V.toInt.natAbs ≤ 1000000000) (b3 : M.toInt.natAbs ≤ 1000000000) (b4 : 0 < M.toInt) : twoR (fX3_times V.toInt64 M.toInt64 U.toInt64 L.toInt64 0) (fX11_times U.toInt64 L.toInt64 V.toInt64 M.toInt64) := by
  have b1 := good_bd h1
  have e1 := m64 b1.1 b2
  have e2 := m64 b1.2.1 b3
  have hp := prod_pos b1.2.2 b4
  unfold twoR fX3_times fX11_times
  rw [bd3, bd3]
  exact two (by rw [e2.1]; exact hp) (by rw [e1.1]; omega) (by rw [e2.1]; omega) (Or.inl ⟨rfl, rfl⟩)
theorem eqG_copy {R C : Nat} (hR : R ≤ 6) (hC : C ≤ 6) {U L cu cl U' L' : Nat → Int32} (h : eqG R C U L cu cl) (hcc : ∀ j, j < 42 → U' j = U j ∧ L' j = L j) : eqG R C U' L' cu cl := by
  intro r c hr hc
  have hj := lt42 (show r < 6 by omega) (show c < 7 by omega)
  obtain ⟨e1, e2, e3⟩ := h r c hr hc
  rw [(hcc _ hj).1, (hcc _ hj).2]
  exact ⟨e1, e2, e3⟩
theorem pure_ranked : Pure_ranked := by
  intro p1 p2 p3 p4 x_now_fault x_now_faultPlace x_now_refusal x_now_longRow x_now_longColumn x_now_matrix_rows x_now_matrix_columns x_now_matrix_upper x_now_matrix_lower x_now_tape_length x_now_tape_bytes x_images x_past_size x_past_top x_past_kept x_sweep_rank x_sweep_broken x_sweep_brokenRow x_sweep_brokenColumn x_sweep_liveRows x_sweep_liveColumns x_sweep_bestRow x_sweep_bestColumn x_sweep_grid_rows x_sweep_grid_columns x_sweep_grid_upper x_sweep_grid_lower x_sweep_grid_sum_upper x_sweep_grid_sum_lower x_sweep_grid_sum_isLong x_sweep_pivotRows x_sweep_pivotColumns x_sweep_fills x_sweep_weights x_sweep_factor_upper x_sweep_factor_lower x_sweep_factor_isLong x_trial_rows x_trial_columns x_trial_upper x_trial_lower x_ratio_upper x_ratio_lower x_ratio_isLong y_taped y_faultKind y_faultPlace y_undos y_up y_low y_isLong y_rank y_brokenRow y_brokenColumn y_filled y_all y_tape y_isImage y_cu y_cl y_pivotRow y_pivotColumn y_pivotFill y_pivotWeight y_liveRow y_liveColumn hI
  obtain ⟨R, C, cl, cu, hR1, hR6, hC1, hC6, rfl, rfl, hb, hG⟩ := inv_begin hI.1 y_cl y_cu
  unfold fX10_ranked fX11_ranked
  rw [hb]
  simp only [obs]
  rcases row_cases p1 hR1 hR6 with ⟨r, hr, rfl, a1, a2⟩ | ⟨a1, a2⟩
  · rcases col_cases p2 hC1 hC6 with ⟨c, hc, rfl, c1, c2⟩ | ⟨c1, c2⟩
    · rcases told_cases p3 p4 with ⟨t1, t2, tb1, tb2⟩ | ⟨t1, t2⟩
      · obtain ⟨U, L, hg, st, cm⟩ := told_start tb1 tb2
        obtain ⟨L', U', hcp, hcc⟩ := copy_ok x_trial_lower x_trial_upper (nI R) (nI C) x_now_matrix_lower x_now_matrix_upper
        have hG' := eqG_put (eqG_copy hR6 hC6 hG hcc) (7 * r + c) hg
        obtain ⟨k, b, br, bc, mr, mc, b1, b2, fu, fw, fi, fills, L1, su, sl, si, U1, pCols, pRows, weights, up1, lo1, il1, brr, bcc, fd, cl1, cu1, lc1, lr1, pC1, pF1, pR1, pW1, s1, s2, hk6, hsw⟩ := sweep_ok 1 hR6 hC6 hG' x_sweep_brokenRow x_sweep_brokenColumn x_sweep_bestRow x_sweep_bestColumn y_brokenRow y_brokenColumn y_filled 0 x_sweep_factor_isLong x_sweep_grid_sum_isLong x_sweep_factor_upper x_sweep_factor_lower x_sweep_grid_sum_upper x_sweep_grid_sum_lower U.toInt64 L.toInt64 x_sweep_fills x_sweep_grid_lower x_sweep_grid_upper x_sweep_pivotColumns x_sweep_pivotRows x_sweep_weights y_liveColumn y_liveRow y_pivotColumn y_pivotFill y_pivotRow y_pivotWeight
        simp only [a1, a2, c1, c2, t1, t2, st, cm, hcp, put_ok (show r < 6 by omega) (show c < 7 by omega), lays_ok (show r < 6 by omega) (show c < 7 by omega), i64_32, obs, if_neg one0, s1, s2]
        rcases hsw with ⟨rfl, -, -⟩ | ⟨rfl, hS⟩
        · simp only [if_neg one0]
          exact ⟨_, _, rfl, rfl, rfl, hI⟩
        · simp only [↓reduceIte]
          exact ⟨_, _, rfl, rfl, rfl, hI⟩
      · simp only [a1, a2, c1, c2, t1, t2, obs, if_neg one0, ↓reduceIte]
        exact ⟨_, _, rfl, rfl, rfl, hI⟩
    · simp only [a1, a2, c1, c2, obs, if_neg one0, ↓reduceIte]
      exact ⟨_, _, rfl, rfl, rfl, hI⟩
  · simp only [a1, a2, obs, ↓reduceIte]
    exact ⟨_, _, rfl, rfl, rfl, hI⟩
