/-! Columns told anew: inverse, would, residue. -/
def cset (R C : Nat) (g X Y : Nat → Int32) : Prop := (∀ r, r < R → Y (7 * r + C) = g r) ∧ ∀ k, (∀ r, r < R → ¬ k = 7 * r + C) → Y k = X k
theorem cset_0 (C : Nat) (g X : Nat → Int32) : cset 0 C g X X := ⟨fun r hr => by omega, fun k _ => rfl⟩
theorem cset_s {r C : Nat} {g X Y : Nat → Int32} (h : cset r C g X Y) : cset (r + 1) C g X (upd Y (7 * r + C) (g r)) := by
  refine ⟨fun i hi => ?_, fun k hk => ?_⟩
  · by_cases e : i = r
    · subst e; exact pk_us
    · rw [pk_un (by omega)]; exact h.1 i (by omega)
  · rw [pk_un (hk r (by omega))]
    exact h.2 k (fun i hi => hk i (by omega))
theorem sides_loop {R C : Nat} (hR : R ≤ 6) (hC : C ≤ 6) (L0 U0 : Nat → Int32) : ∀ (m r fuel : Nat) (L U : Nat → Int32), r + m = R → m + 1 ≤ fuel → cset r C (fun _ => 1) L0 L → cset r C (fun _ => 0) U0 U → ∃ L2 U2, fX1_clearSides_11 (nI R) (nI C) 0 1 0 fuel (nI r) L U = some (L2, 0, 1, 0, U2) ∧ cset R C (fun _ => 1) L0 L2 ∧ cset R C (fun _ => 0) U0 U2 := by
  intro m
  induction m with
  | zero =>
    intro r fuel L U hr hf h1 h2
    obtain ⟨fuel, rfl⟩ : ∃ f, fuel = f + 1 := ⟨fuel - 1, by omega⟩
    obtain rfl : r = R := by omega
    exact ⟨L, U, by rw [fX1_clearSides_11_s, if_pos (nI_le (Nat.le_refl _) (by omega))], h1, h2⟩
  | succ m ih =>
    intro r fuel L U hr hf h1 h2
    obtain ⟨fuel, rfl⟩ : ∃ f, fuel = f + 1 := ⟨fuel - 1, by omega⟩
    rw [fX1_clearSides_11_s, if_neg (nI_ge (by omega) (by omega)), put_ok (by omega) (by omega)]
    simp only [obs, ← nI_succ]
    exact ih (r + 1) fuel _ _ (by omega) (by omega) (cset_s h1) (cset_s h2)
theorem clearSides_ok {R C : Nat} (hR : R ≤ 6) (hC : C ≤ 6) (L U : Nat → Int32) : ∃ L2 U2, fX1_clearSides (nI R) (nI C) L U = some (L2, 0, 1, 0, U2) ∧ cset R C (fun _ => 1) L L2 ∧ cset R C (fun _ => 0) U U2 := by
  obtain ⟨L2, U2, h, h1, h2⟩ := sides_loop hR hC L U R 0 fuelN L U (by omega) (by unfold fuelN; omega) (cset_0 _ _ _) (cset_0 _ _ _)
  refine ⟨L2, U2, ?_, h1, h2⟩
  unfold fX1_clearSides
  exact obind start01 h
theorem invc_loop (p1 p3 : Int32) (up lo : Int64) (il brr bcc fd : Int32) (un lc lr pC pF pR pW : Nat → Int32) (xl xu : Nat → Int64) {R C j : Nat} (hR : R ≤ 6) (hC : C ≤ 6) (hj : j < R) (fr : Int32) (cl0 cu0 : Nat → Int32) : ∀ (m r fuel : Nat) (cl cu : Nat → Int32), r + m = R → m + 1 ≤ fuel → cset r C (fun _ => 1) cl0 cl → cset r C (fun i => if i = j then 1 else 0) cu0 cu → ∃ cl2 cu2, fX11_inverse_38 p1 (nI j) p3 up lo il brr bcc fd un lc lr pC pF pR pW xl xu (nI R) (nI C) fr fuel (nI r) cl cu = fX11_inverse_75 p1 p3 up lo il brr bcc fd un lc lr pC pF pR pW xl xu (nI R) (nI C) fr cl2 cu2 ∧ cset R C (fun _ => 1) cl0 cl2 ∧ cset R C (fun i => if i = j then 1 else 0) cu0 cu2 := by
  intro m
  induction m with
  | zero =>
    intro r fuel cl cu hr hf h1 h2
    obtain ⟨fuel, rfl⟩ : ∃ f, fuel = f + 1 := ⟨fuel - 1, by omega⟩
    obtain rfl : r = R := by omega
    exact ⟨cl, cu, by rw [fX11_inverse_38_s, if_pos (nI_le (Nat.le_refl _) (by omega))], h1, h2⟩
  | succ m ih =>
    intro r fuel cl cu hr hf h1 h2
    obtain ⟨fuel, rfl⟩ : ∃ f, fuel = f + 1 := ⟨fuel - 1, by omega⟩
    have s1 := cset_s h1
    have s2 := cset_s h2
    rw [fX11_inverse_38_s, if_neg (nI_ge (by omega) (by omega))]
    unfold fX11_inverse_65
    rw [lays_ok (by omega) (by omega), lays_ok (by omega) (by omega)]
    simp only [obs, ← nI_succ]
    by_cases e : r = j
    · rw [if_pos (by rw [e])]
      rw [if_pos e] at s2
      exact ih (r + 1) fuel _ _ (by omega) (by omega) s1 s2
    · rw [if_neg (fun q => e ((nI_eq (by omega) (by omega)).mp q))]
      rw [if_neg e] at s2
      exact ih (r + 1) fuel _ _ (by omega) (by omega) s1 s2
theorem eqG_inv {R C j : Nat} (hC : C ≤ 6) (hj : j < R) {U L cu cl U2 L2 cu2 cl2 : Nat → Int32} (hG : eqG R C U L cu cl) (h1 : cset R C (fun _ => 0) U U2) (h2 : cset R C (fun _ => 1) L L2) (h3 : cset R C (fun i => if i = j then 1 else 0) cu cu2) (h4 : cset R C (fun _ => 1) cl cl2) : eqG R C (upd U2 (7 * j + C) 1) (upd L2 (7 * j + C) 1) cu2 cl2 := by
  intro r c hr hc
  by_cases e : c = C
  · subst e
    rw [h3.1 r hr, h4.1 r hr]
    by_cases e2 : r = j
    · subst e2
      rw [pk_us, pk_us]
      exact ⟨if_pos rfl, rfl, good11⟩
    · rw [pk_un (by omega), pk_un (by omega), h1.1 r hr, h2.1 r hr]
      exact ⟨if_neg e2, rfl, good01⟩
  · rw [pk_un (by omega), pk_un (by omega), h1.2 _ (fun i hi => by omega), h2.2 _ (fun i hi => by omega), h3.2 _ (fun i hi => by omega), h4.2 _ (fun i hi => by omega)]
    exact hG r c hr hc
theorem pure_inverse : Pure_inverse := by
  intro p1 p2 p3 x_now_fault x_now_faultPlace x_now_refusal x_now_longRow x_now_longColumn x_now_matrix_rows x_now_matrix_columns x_now_matrix_upper x_now_matrix_lower x_now_tape_length x_now_tape_bytes x_images x_past_size x_past_top x_past_kept x_sweep_rank x_sweep_broken x_sweep_brokenRow x_sweep_brokenColumn x_sweep_liveRows x_sweep_liveColumns x_sweep_bestRow x_sweep_bestColumn x_sweep_grid_rows x_sweep_grid_columns x_sweep_grid_upper x_sweep_grid_lower x_sweep_grid_sum_upper x_sweep_grid_sum_lower x_sweep_grid_sum_isLong x_sweep_pivotRows x_sweep_pivotColumns x_sweep_fills x_sweep_weights x_sweep_factor_upper x_sweep_factor_lower x_sweep_factor_isLong x_values_known x_values_upper x_values_lower x_values_rest_upper x_values_rest_lower x_values_rest_isLong x_values_part_upper x_values_part_lower x_values_part_isLong x_trial_rows x_trial_columns x_trial_upper x_trial_lower x_trial_sum_upper x_trial_sum_lower x_trial_sum_isLong x_ratio_upper x_ratio_lower x_ratio_isLong y_taped y_faultKind y_faultPlace y_undos y_up y_low y_isLong y_rank y_brokenRow y_brokenColumn y_filled y_all y_tape y_isImage y_cu y_cl y_pivotRow y_pivotColumn y_pivotFill y_pivotWeight y_liveRow y_liveColumn y_xu y_xl y_isUnknown hh84 hI
  obtain ⟨R, C, cl, cu, hR1, hR6, hC1, hC6, rfl, rfl, hb, hG⟩ := inv_begin hI.1 y_cl y_cu
  unfold fX10_inverse fX11_inverse fX1_isSquare
  rw [hb]
  simp only [obs]
  by_cases hRC : R = C
  · subst hRC
    simp only [↓reduceIte, obs, if_neg one0]
    rcases row_cases p1 hR1 hR6 with ⟨r, hr, rfl, a1, a2⟩ | ⟨a1, a2⟩
    · rcases row_cases p2 hR1 hR6 with ⟨j, hj, rfl, c1, c2⟩ | ⟨c1, c2⟩
      · have c1' : fX1_hasColumn (nI j) (nI R) = some 1 := c1
        obtain ⟨L', U', hcp, hcc⟩ := copy_ok x_trial_lower x_trial_upper (nI R) (nI R) x_now_matrix_lower x_now_matrix_upper
        obtain ⟨L2, U2, hcs, d1, d2⟩ := clearSides_ok hR6 hR6 L' U'
        obtain ⟨cl2, cu2, hl, d3, d4⟩ := invc_loop (nI r) p3 y_up y_low y_isLong y_brokenRow y_brokenColumn y_filled y_isUnknown y_liveColumn y_liveRow y_pivotColumn y_pivotFill y_pivotRow y_pivotWeight y_xl y_xu hR6 hR6 hj 0 cl cu R 0 fuelN cl cu (by omega) (by unfold fuelN; omega) (cset_0 _ _ _) (cset_0 _ _ _)
        rw [show nI 0 = 0 from rfl] at hl
        have hG' := eqG_inv hR6 hj (eqG_copy hR6 hR6 hG hcc) d2 d1 d4 d3
        obtain ⟨k, b, br, bc, mr, mc, b1, b2, fu, fw, fi, fills, L1, su, sl, si, U1, pCols, pRows, weights, up1, lo1, il1, brr, bcc, fd, cl1, cu1, lc1, lr1, pC1, pF1, pR1, pW1, s1, s2, hk6, hsw⟩ := sweep_ok 1 hR6 hR6 hG' x_sweep_brokenRow x_sweep_brokenColumn x_sweep_bestRow x_sweep_bestColumn y_brokenRow y_brokenColumn y_filled y_isLong x_sweep_factor_isLong x_sweep_grid_sum_isLong x_sweep_factor_upper x_sweep_factor_lower x_sweep_grid_sum_upper x_sweep_grid_sum_lower y_up y_low x_sweep_fills x_sweep_grid_lower x_sweep_grid_upper x_sweep_pivotColumns x_sweep_pivotRows x_sweep_weights y_liveColumn y_liveRow y_pivotColumn y_pivotFill y_pivotRow y_pivotWeight
        have hput : fX1_put (nI j) (nI R) L2 U2 1 1 = some (upd L2 (7 * j + R) 1, upd U2 (7 * j + R) 1) := put_ok (by omega) (by omega) L2 U2 1 1
        simp only [a1, a2, c1', c2, obs, if_neg one0, hcp, hcs, start11, hput, s1]
        rw [hl]
        unfold fX11_inverse_75
        rw [s2]
        simp only [obs]
        rcases hsw with ⟨rfl, -, -⟩ | ⟨rfl, hS⟩
        · simp only [if_neg one0]
          exact ⟨_, _, rfl, rfl, rfl, hI⟩
        · simp only [↓reduceIte]
          by_cases hk : nI R ≤ nI k
          · obtain ⟨kn', vl', pu', pl', pi', ru', rl', ri', vu', up', lo', il', un', xl', xu', hV', r1, r2⟩ := sides_ok hR6 hR6 hk6 hS x_values_lower x_values_upper y_isUnknown y_xl y_xu x_values_part_upper x_values_part_lower x_values_part_isLong x_values_rest_upper x_values_rest_lower x_values_rest_isLong up1 lo1 il1
            obtain ⟨a, a1, a2⟩ := ans_ok (show r < 6 by omega) hV' p3
            simp only [if_pos hk]
            rw [r1, r2]
            simp only [obs]
            rw [a1, a2]
            simp only [obs]
            exact ⟨_, _, rfl, rfl, rfl, hI⟩
          · simp only [if_neg hk]
            exact ⟨_, _, rfl, rfl, rfl, hI⟩
      · have c1' : fX1_hasColumn p2 (nI R) = some 0 := c1
        simp only [a1, a2, c1', c2, obs, if_neg one0, ↓reduceIte]
        exact ⟨_, _, rfl, rfl, rfl, hI⟩
    · simp only [a1, a2, obs, ↓reduceIte]
      exact ⟨_, _, rfl, rfl, rfl, hI⟩
  · have hne : ¬ nI R = nI C := fun e => hRC ((nI_eq (by omega) (by omega)).mp e)
    simp only [if_neg hne, obs, ↓reduceIte]
    exact ⟨_, _, rfl, rfl, rfl, hI⟩
/-- a residue: the class's sum is spoiled -/
theorem mult_some {R C r c kn : Nat} (hrR : r < R) (hr : r < 6) (hcC : c < C) (hC : C ≤ 6) {U L cu cl vu vl un : Nat → Int32} {xu xl : Nat → Int64} (hG : eqG R C U L cu cl) (hV : VS kn vu vl un xu xl) : ∃ a b i, (i = 0 ∨ i = 1) ∧ fX9_multiply (nI r) (nI c) (nI kn) vl vu L U = some (a, b, i) := by
  obtain ⟨-, -, g1⟩ := hG r c hrR (by omega)
  by_cases hu : U (7 * r + c) = 0
  · exact ⟨_, _, _, Or.inl rfl, mult_0 hr (by omega) g1 hu _ _ _⟩
  · rcases hV.2 c (by omega) with ⟨-, k1, -, -, gv⟩ | ⟨-, k1⟩
    · rw [mult_ok hr (by omega) hu hV.1 k1]
      rcases times2 g1 gv with ⟨t1, -⟩ | ⟨A, B, -, t1, -⟩
      · exact ⟨_, _, _, Or.inr rfl, t1⟩
      · exact ⟨_, _, _, Or.inl rfl, t1⟩
    · exact ⟨_, _, _, Or.inr rfl, mult_un hr (by omega) hu hV.1 k1 _ _⟩
theorem res_bad {R C r kn : Nat} (hrR : r < R) (hr : r < 6) (hC : C ≤ 6) {U L cu cl vu vl un : Nat → Int32} {xu xl : Nat → Int64} (hG : eqG R C U L cu cl) (hV : VS kn vu vl un xu xl) : ∀ (m c fuel : Nat) (pu pl : Int64) (pi : Int32) (a b : Int64), c + m = C → m + 1 ≤ fuel → ∃ pu' pl' pi', fX9_residueOf_9 (nI r) (nI kn) vl vu (nI C) L U fuel (nI c) pu pl pi a b 1 = some (pu', pl', pi', 0, 1, 1) := by
  intro m
  induction m with
  | zero =>
    intro c fuel pu pl pi a b hm hf
    obtain ⟨fuel, rfl⟩ : ∃ f, fuel = f + 1 := ⟨fuel - 1, by omega⟩
    obtain rfl : c = C := by omega
    rw [fX9_residueOf_9_s, if_pos (nI_le (Nat.le_refl _) (by omega))]
    unfold fX9_residueOf_64
    rw [upperAt_ok hr (by omega), lowerAt_ok hr (by omega)]
    simp only [obs, minus_was]
    exact ⟨_, _, _, rfl⟩
  | succ m ih =>
    intro c fuel pu pl pi a b hm hf
    obtain ⟨fuel, rfl⟩ : ∃ f, fuel = f + 1 := ⟨fuel - 1, by omega⟩
    obtain ⟨x, y, i, hi, q⟩ := mult_some hrR hr (show c < C by omega) hC hG hV
    rw [fX9_residueOf_9_s, if_neg (nI_ge (by omega) (by omega)), q]
    unfold fX9_residueOf_40 fX3_spoil
    simp only [obs, plus_was, ← nI_succ, ite_self]
    exact ih (c + 1) fuel _ _ _ _ _ (by omega) (by omega)
theorem res_loop {R C r kn : Nat} (p2 : Int32) (hrR : r < R) (hr : r < 6) (hC : C ≤ 6) {U L cu cl vu vl un : Nat → Int32} {xu xl : Nat → Int64} (hG : eqG R C U L cu cl) (hV : VS kn vu vl un xu xl) (rw' rk brr bcc isB fd fr : Int32) (lc lr pC pF pR pW : Nat → Int32) : ∀ (m c fuel fuel' : Nat) (pu pl : Int64) (pi : Int32) (A B : Int32) (up lo : Int64) (il : Int32), c + m = C → m + 1 ≤ fuel → m + 1 ≤ fuel' → goodE A B →
    ((∃ pu' pl' pi', fX9_residueOf_9 (nI r) (nI kn) vl vu (nI C) L U fuel (nI c) pu pl pi A.toInt64 B.toInt64 0 = some (pu', pl', pi', 0, 1, 1)) ∧ ∃ v, fX11_residue_36 (nI r) p2 rw' (nI C) rk brr bcc isB fd fr cl cu un lc lr pC pF pR pW xl xu fuel' A.toInt64 B.toInt64 (nI c) up lo il = some v ∧ v.1 = -2000000000) ∨
    (∃ pu' pl' pi' A' B', goodE A' B' ∧ fX9_residueOf_9 (nI r) (nI kn) vl vu (nI C) L U fuel (nI c) pu pl pi A.toInt64 B.toInt64 0 = fX9_residueOf_64 (nI r) (nI C) L U pu' pl' pi' A'.toInt64 B'.toInt64 0 ∧ fX11_residue_36 (nI r) p2 rw' (nI C) rk brr bcc isB fd fr cl cu un lc lr pC pF pR pW xl xu fuel' A.toInt64 B.toInt64 (nI c) up lo il = fX11_residue_165 (nI r) p2 A'.toInt64 B'.toInt64 rw' (nI C) rk brr bcc isB fd fr cl cu un lc lr pC pF pR pW xl xu) := by
  intro m
  induction m with
  | zero =>
    intro c fuel fuel' pu pl pi A B up lo il hm hf hf' hg
    obtain ⟨fuel, rfl⟩ : ∃ f, fuel = f + 1 := ⟨fuel - 1, by omega⟩
    obtain ⟨fuel', rfl⟩ : ∃ f, fuel' = f + 1 := ⟨fuel' - 1, by omega⟩
    obtain rfl : c = C := by omega
    right
    rw [fX9_residueOf_9_s, if_pos (nI_le (Nat.le_refl _) (by omega)), fX11_residue_36_s, if_pos (nI_le (Nat.le_refl _) (by omega))]
    exact ⟨_, _, _, A, B, hg, rfl, rfl⟩
  | succ m ih =>
    intro c fuel fuel' pu pl pi A B up lo il hm hf hf' hg
    obtain ⟨fuel, rfl⟩ : ∃ f, fuel = f + 1 := ⟨fuel - 1, by omega⟩
    obtain ⟨fuel', rfl⟩ : ∃ f, fuel' = f + 1 := ⟨fuel' - 1, by omega⟩
    have hrc := lt42 hr (show c < 7 by omega)
    obtain ⟨e1, e2, g1⟩ := hG r c hrR (by omega)
    rw [fX9_residueOf_9_s, if_neg (nI_ge (by omega) (by omega)), fX11_residue_36_s, if_neg (nI_ge (by omega) (by omega)), cell_ok]
    simp only [obs, inB_ok (n := 42) hrc (by omega), nI_clamp (n := 7 * r + c) (by omega), e1, e2, ← nI_succ, fX9_residueOf_40, inB_ok (n := 6) (i := c) (by omega) (by omega), nI_clamp (n := c) (by omega), ltp, fX3_spoil]
    by_cases hu : U (7 * r + c) = 0
    · rw [if_pos hu, mult_0 hr (by omega) g1 hu]
      simp only [obs, ↓reduceIte, plus_0 hg]
      exact ih (c + 1) _ _ _ _ _ _ _ _ _ _ (by omega) (by omega) (by omega) hg
    rw [if_neg hu]
    rcases hV.2 c (by omega) with ⟨u1, k1, x1, x2, gv⟩ | ⟨u1, k1⟩
    · rw [mult_ok hr (by omega) hu hV.1 k1, u1, x1, x2]
      simp only [↓reduceIte]
      rcases times2 g1 gv with ⟨t1, x, y, t2⟩ | ⟨A1, B1, gA1, t1, t2⟩
      · left
        rw [t1, t2]
        simp only [obs, if_neg one0, plus_was]
        exact ⟨res_bad hrR hr hC hG hV m (c + 1) fuel _ _ _ _ _ (by omega) (by omega), _, rfl, rfl⟩
      · rw [t1, t2]
        simp only [obs, ↓reduceIte]
        rcases plus2 hg gA1 with ⟨t3, x, y, t4⟩ | ⟨A2, B2, gA2, t3, t4⟩
        · left
          rw [t3, t4]
          simp only [obs, if_neg one0]
          exact ⟨res_bad hrR hr hC hG hV m (c + 1) fuel _ _ _ _ _ (by omega) (by omega), _, rfl, rfl⟩
        · rw [t3, t4]
          simp only [obs, ↓reduceIte]
          exact ih (c + 1) _ _ _ _ _ _ _ _ _ _ (by omega) (by omega) (by omega) gA2
    · left
      rw [mult_un hr (by omega) hu hV.1 k1, u1]
      simp only [obs, if_neg one0, plus_was]
      exact ⟨res_bad hrR hr hC hG hV m (c + 1) fuel _ _ _ _ _ (by omega) (by omega), _, rfl, rfl⟩
theorem answer_ok (p : Int32) (A B : Int32) : fX3_answer p A.toInt64 B.toInt64 0 = fX11_tells p A.toInt64 B.toInt64 := by
  unfold fX3_answer fX11_tells
  rw [if_pos rfl]
theorem answer_un (p : Int32) (a b : Int64) : fX3_answer p a b 1 = some (-2000000000) := by
  unfold fX3_answer
  rw [if_neg one0]
theorem tells_some (p : Int32) (a b : Int64) : ∃ x, fX11_tells p a b = some x := by
  unfold fX11_tells
  split
  · exact ⟨_, rfl⟩
  · exact ⟨_, rfl⟩
theorem pure_residue : Pure_residue := by
  intro p1 p2 x_now_fault x_now_faultPlace x_now_refusal x_now_longRow x_now_longColumn x_now_matrix_rows x_now_matrix_columns x_now_matrix_upper x_now_matrix_lower x_now_tape_length x_now_tape_bytes x_images x_past_size x_past_top x_past_kept x_sweep_rank x_sweep_broken x_sweep_brokenRow x_sweep_brokenColumn x_sweep_liveRows x_sweep_liveColumns x_sweep_bestRow x_sweep_bestColumn x_sweep_grid_rows x_sweep_grid_columns x_sweep_grid_upper x_sweep_grid_lower x_sweep_grid_sum_upper x_sweep_grid_sum_lower x_sweep_grid_sum_isLong x_sweep_pivotRows x_sweep_pivotColumns x_sweep_fills x_sweep_weights x_sweep_factor_upper x_sweep_factor_lower x_sweep_factor_isLong x_values_known x_values_upper x_values_lower x_values_rest_upper x_values_rest_lower x_values_rest_isLong x_values_part_upper x_values_part_lower x_values_part_isLong x_ratio_upper x_ratio_lower x_ratio_isLong y_taped y_faultKind y_faultPlace y_undos y_up y_low y_isLong y_rank y_brokenRow y_brokenColumn y_filled y_all y_tape y_isImage y_cu y_cl y_pivotRow y_pivotColumn y_pivotFill y_pivotWeight y_liveRow y_liveColumn y_xu y_xl y_isUnknown hh76 hI
  obtain ⟨R, C, cl, cu, hR1, hR6, hC1, hC6, rfl, rfl, hb, hG⟩ := inv_begin hI.1 y_cl y_cu
  unfold fX10_residue fX11_residue
  rw [hb]
  simp only [obs]
  rcases row_cases p1 hR1 hR6 with ⟨r, hr, rfl, a1, a2⟩ | ⟨a1, a2⟩
  · obtain ⟨k, b, br, bc, mr, mc, b1, b2, fu, fw, fi, fills, L1, su, sl, si, U1, pCols, pRows, weights, up1, lo1, il1, brr, bcc, fd, cl1, cu1, lc1, lr1, pC1, pF1, pR1, pW1, s1, s2, hk6, hsw⟩ := sweep_ok 1 hR6 hC6 hG x_sweep_brokenRow x_sweep_brokenColumn x_sweep_bestRow x_sweep_bestColumn y_brokenRow y_brokenColumn y_filled y_isLong x_sweep_factor_isLong x_sweep_grid_sum_isLong x_sweep_factor_upper x_sweep_factor_lower x_sweep_grid_sum_upper x_sweep_grid_sum_lower y_up y_low x_sweep_fills x_sweep_grid_lower x_sweep_grid_upper x_sweep_pivotColumns x_sweep_pivotRows x_sweep_weights y_liveColumn y_liveRow y_pivotColumn y_pivotFill y_pivotRow y_pivotWeight
    rw [a1, a2]
    simp only [obs, if_neg one0]
    unfold fX11_isSolved
    rw [s1, s2]
    simp only [obs]
    rcases hsw with ⟨rfl, -, -⟩ | ⟨rfl, hS⟩
    · rw [can_no]
      simp only [obs, ↓reduceIte, if_neg one0]
      exact ⟨_, _, rfl, rfl, rfl, hI⟩
    · obtain ⟨x, k1, hor⟩ := can_ok hk6 hR6 hC6 hS
      rw [k1]
      simp only [obs, ↓reduceIte]
      rcases hor with ⟨hx, c1⟩ | ⟨hx, c1⟩
      · rw [c1]
        simp only [obs, ↓reduceIte, if_pos hx]
        exact ⟨_, _, rfl, rfl, rfl, hI⟩
      · obtain ⟨kn', vl', pu', pl', pi', ru', rl', ri', vu', up', lo', il', un', xl', xu', hV', r1, r2⟩ := sides_ok hR6 hC6 hk6 hS x_values_lower x_values_upper y_isUnknown y_xl y_xu x_values_part_upper x_values_part_lower x_values_part_isLong x_values_rest_upper x_values_rest_lower x_values_rest_isLong up1 lo1 il1
        obtain ⟨R', C', cl', cu', -, h6, -, h6', e1, e2, hb', hG'⟩ := inv_begin hI.1 cl1 cu1
        have e1' : nI R = nI R' := e1
        have e2' : nI C = nI C' := e2
        obtain rfl := (nI_eq (by omega) (by omega)).mp e1'
        obtain rfl := (nI_eq (by omega) (by omega)).mp e2'
        rw [c1]
        simp only [obs, if_neg one0, if_neg hx]
        rw [r1, r2]
        simp only [obs, if_neg one0]
        rw [hb']
        simp only [obs]
        unfold fX9_residueOf
        rw [start01]
        simp only [obs]
        have hl := res_loop p2 hr (show r < 6 by omega) hC6 hG' hV' (nI R) (nI k) brr bcc 0 fd 0 lc1 lr1 pC1 pF1 pR1 pW1 C 0 fuelN fuelN pu' pl' pi' 0 1 up' lo' il' (by omega) (by unfold fuelN; omega) (by unfold fuelN; omega) good01
        rw [show nI 0 = 0 from rfl, e64_0, e64_1] at hl
        rcases hl with ⟨⟨pu2, pl2, pi2, q1⟩, v, q2, q3⟩ | ⟨pu2, pl2, pi2, A, B, gA, q1, q2⟩
        · rw [q1, q2]
          simp only [obs, answer_un]
          exact ⟨_, _, rfl, rfl, q3.symm, hI⟩
        · rw [q1, q2]
          have hrc := lt42 (show r < 6 by omega) (show C < 7 by omega)
          obtain ⟨f1, f2, g1⟩ := hG' r C hr (Nat.le_refl _)
          unfold fX9_residueOf_64 fX11_residue_165
          rw [upperAt_ok (by omega) (by omega), lowerAt_ok (by omega) (by omega), cell_ok]
          simp only [obs, inB_ok (n := 42) hrc (by omega), nI_clamp (n := 7 * r + C) (by omega), f1, f2]
          rw [← (good_neg g1).2]
          rcases minus2 gA g1 with ⟨t3, x, y, t4⟩ | ⟨A2, B2, gA2, t3, t4⟩
          · rw [t3, t4]
            simp only [obs, if_neg one0, answer_un]
            exact ⟨_, _, rfl, rfl, rfl, hI⟩
          · obtain ⟨z, hz⟩ := tells_some p2 A2.toInt64 B2.toInt64
            rw [t3, t4]
            simp only [obs, ↓reduceIte, answer_ok]
            rw [hz]
            simp only [obs]
            exact ⟨_, _, rfl, rfl, rfl, hI⟩
  · rw [a1, a2]
    simp only [obs, ↓reduceIte]
    exact ⟨_, _, rfl, rfl, rfl, hI⟩
