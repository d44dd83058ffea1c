/-! Minors, and a column that the side takes. -/
theorem noSides_loop {C : Nat} (hC : C ≤ 6) (cl0 cu0 : Nat → Int32) : ∀ (m r fuel : Nat) (cl cu : Nat → Int32), r + m = 6 → m + 1 ≤ fuel → cset r C (fun _ => 1) cl0 cl → cset r C (fun _ => 0) cu0 cu → ∃ cl2 cu2, fX11_noSides_2 (nI C) fuel (nI r) cl cu = some (cl2, cu2) ∧ cset 6 C (fun _ => 1) cl0 cl2 ∧ cset 6 C (fun _ => 0) cu0 cu2 := by
  intro m
  induction m with
  | zero =>
    intro r fuel L U hr hf h1 h2
    obtain ⟨fuel, rfl⟩ : ∃ f, fuel = f + 1 := ⟨fuel - 1, by omega⟩
    obtain rfl : r = 6 := by omega
    exact ⟨L, U, by rw [fX11_noSides_2_s, if_pos le66], h1, h2⟩
  | succ m ih =>
    intro r fuel L U hr hf h1 h2
    obtain ⟨fuel, rfl⟩ : ∃ f, fuel = f + 1 := ⟨fuel - 1, by omega⟩
    rw [fX11_noSides_2_s, if_neg (nI_ge6 (by omega)), lays_ok (by omega) (by omega)]
    simp only [obs, ← nI_succ]
    exact ih (r + 1) fuel _ _ (by omega) (by omega) (cset_s h1) (cset_s h2)
theorem noSides_ok {C : Nat} (hC : C ≤ 6) (cl cu : Nat → Int32) : ∃ cl2 cu2, fX11_noSides (nI C) cl cu = some (cl2, cu2) ∧ cset 6 C (fun _ => 1) cl cl2 ∧ cset 6 C (fun _ => 0) cu cu2 :=
  noSides_loop hC cl cu 6 0 fuelN cl cu (by omega) (by unfold fuelN; omega) (cset_0 _ _ _) (cset_0 _ _ _)
theorem crC_loop (p2 : Int32) (rank broken br bc mr mc b1 b2 : Int32) (fu fw : Int64) (fi : Int32) (fills : Nat → Int32) (gr gc : Int32) (L0 : Nat → Int32) (su sl : Int64) (si : Int32) (U0 pCols pRows weights : Nat → Int32) {R C k : Nat} (hR : R ≤ 6) (hC : C ≤ 6) (hk : k < C) (L U tl0 tu0 : Nat → Int32) : ∀ (m r fuel : Nat) (qu ql : Int64) (qi : Int32) (tl tu : Nat → Int32), r + m = R → m + 1 ≤ fuel → cset r k (fun r => L (7 * r + C)) tl0 tl → cset r k (fun r => U (7 * r + C)) tu0 tu → ∃ qu' ql' qi' tl2 tu2, fX10_cramer_37 (nI k) p2 (nI C) L U rank broken br bc mr mc b1 b2 fu fw fi fills gr gc L0 su sl si U0 pCols pRows weights (nI R) (nI C) fuel (nI r) qu ql qi tl tu = fX10_cramer_83 p2 rank broken br bc mr mc b1 b2 fu fw fi fills gr gc L0 su sl si U0 pCols pRows weights qu' ql' qi' (nI R) (nI C) tl2 tu2 ∧ cset R k (fun r => L (7 * r + C)) tl0 tl2 ∧ cset R k (fun r => U (7 * r + C)) tu0 tu2 := by
  intro m
  induction m with
  | zero =>
    intro r fuel qu ql qi tl tu hr hf h1 h2
    obtain ⟨fuel, rfl⟩ : ∃ f, fuel = f + 1 := ⟨fuel - 1, by omega⟩
    obtain rfl : r = R := by omega
    exact ⟨_, _, _, tl, tu, by rw [fX10_cramer_37_s, if_pos (nI_le (Nat.le_refl _) (by omega))], h1, h2⟩
  | succ m ih =>
    intro r fuel qu ql qi tl tu hr hf h1 h2
    obtain ⟨fuel, rfl⟩ : ∃ f, fuel = f + 1 := ⟨fuel - 1, by omega⟩
    rw [fX10_cramer_37_s, if_neg (nI_ge (by omega) (by omega)), load_ok (by omega) (by omega)]
    simp only [obs]
    rw [put_ok (by omega) (by omega)]
    simp only [obs, ← nI_succ, i64_32]
    exact ih (r + 1) fuel _ _ _ _ _ (by omega) (by omega) (cset_s h1) (cset_s h2)
theorem crR_loop (p2 : Int32) (up lo : Int64) (il brr bcc fd : Int32) (lc lr pC pF pR pW : Nat → Int32) {R C k : Nat} (hR : R ≤ 6) (hC : C ≤ 6) (hk : k < C) (fr : Int32) (cl0 cu0 : Nat → Int32) : ∀ (m r fuel : Nat) (cl cu : Nat → Int32), r + m = R → m + 1 ≤ fuel → cset r k (fun r => cl0 (7 * r + C)) cl0 cl → cset r k (fun r => cu0 (7 * r + C)) cu0 cu → ∃ cl2 cu2, fX11_cramer_29 (nI k) p2 up lo il brr bcc fd lc lr pC pF pR pW (nI R) (nI C) fr fuel (nI r) cl cu = fX11_cramer_77 p2 up lo il brr bcc fd lc lr pC pF pR pW (nI R) (nI C) fr cl2 cu2 ∧ cset R k (fun r => cl0 (7 * r + C)) cl0 cl2 ∧ cset R k (fun r => cu0 (7 * r + C)) cu0 cu2 := by
  intro m
  induction m with
  | zero =>
    intro r fuel cl cu hr hf h1 h2
    obtain ⟨fuel, rfl⟩ : ∃ f, fuel = f + 1 := ⟨fuel - 1, by omega⟩
    obtain rfl : r = R := by omega
    exact ⟨cl, cu, by rw [fX11_cramer_29_s, if_pos (nI_le (Nat.le_refl _) (by omega))], h1, h2⟩
  | succ m ih =>
    intro r fuel cl cu hr hf h1 h2
    obtain ⟨fuel, rfl⟩ : ∃ f, fuel = f + 1 := ⟨fuel - 1, by omega⟩
    have hrc := lt42 (show r < 6 by omega) (show C < 7 by omega)
    rw [fX11_cramer_29_s, if_neg (nI_ge (by omega) (by omega)), cell_ok]
    simp only [obs, inB_ok (n := 42) hrc (by omega), nI_clamp (n := 7 * r + C) (by omega)]
    rw [lays_ok (by omega) (by omega), h1.2 (7 * r + C) (fun i hi => by omega), h2.2 (7 * r + C) (fun i hi => by omega)]
    simp only [obs, ← nI_succ, i64_32]
    exact ih (r + 1) fuel _ _ (by omega) (by omega) (cset_s h1) (cset_s h2)
theorem eqG_cramer {n k : Nat} (hn : n ≤ 6) (hk : k < n) {U L cu cl U' L' U2 L2 cu2 cl2 U3 L3 cu3 cl3 : Nat → Int32} (hG : eqG n n U L cu cl) (hcc : ∀ j, j < 42 → U' j = U j ∧ L' j = L j) (a1 : cset n k (fun r => U (7 * r + n)) U' U2) (a2 : cset n k (fun r => L (7 * r + n)) L' L2) (b1 : cset n k (fun r => cu (7 * r + n)) cu cu2) (b2 : cset n k (fun r => cl (7 * r + n)) cl cl2) (c1 : cset n n (fun _ => 0) U2 U3) (c2 : cset n n (fun _ => 1) L2 L3) (d1 : cset 6 n (fun _ => 0) cu2 cu3) (d2 : cset 6 n (fun _ => 1) cl2 cl3) : eqG n n U3 L3 cu3 cl3 := by
  intro r c hr hc
  by_cases e : c = n
  · subst e
    rw [c1.1 r hr, c2.1 r hr, d1.1 r (by omega), d2.1 r (by omega)]
    exact ⟨rfl, rfl, good01⟩
  · rw [c1.2 _ (fun i hi => by omega), c2.2 _ (fun i hi => by omega), d1.2 _ (fun i hi => by omega), d2.2 _ (fun i hi => by omega)]
    by_cases e2 : c = k
    · subst e2
      rw [a1.1 r hr, a2.1 r hr, b1.1 r hr, b2.1 r hr]
      exact hG r n hr (Nat.le_refl _)
    · rw [a1.2 _ (fun i hi => by omega), a2.2 _ (fun i hi => by omega), b1.2 _ (fun i hi => by omega), b2.2 _ (fun i hi => by omega)]
      have hj := lt42 (show r < 6 by omega) (show c < 7 by omega)
      rw [(hcc _ hj).1, (hcc _ hj).2]
      exact hG r c hr hc
theorem pure_cramer : Pure_cramer := by
  intro p1 p2 x_now_fault x_now_faultPlace x_now_refusal x_now_longRow x_now_longColumn x_now_matrix_rows x_now_matrix_columns x_now_matrix_upper x_now_matrix_lower x_now_tape_length x_now_tape_bytes x_images x_past_size x_past_top x_past_kept x_sweep_rank x_sweep_broken x_sweep_brokenRow x_sweep_brokenColumn x_sweep_liveRows x_sweep_liveColumns x_sweep_bestRow x_sweep_bestColumn x_sweep_grid_rows x_sweep_grid_columns x_sweep_grid_upper x_sweep_grid_lower x_sweep_grid_sum_upper x_sweep_grid_sum_lower x_sweep_grid_sum_isLong x_sweep_pivotRows x_sweep_pivotColumns x_sweep_fills x_sweep_weights x_sweep_factor_upper x_sweep_factor_lower x_sweep_factor_isLong x_trial_rows x_trial_columns x_trial_upper x_trial_lower x_trial_sum_upper x_trial_sum_lower x_trial_sum_isLong x_ratio_upper x_ratio_lower x_ratio_isLong y_taped y_faultKind y_faultPlace y_undos y_up y_low y_isLong y_rank y_brokenRow y_brokenColumn y_filled y_all y_tape y_isImage y_cu y_cl y_pivotRow y_pivotColumn y_pivotFill y_pivotWeight y_liveRow y_liveColumn hh71 hI
  obtain ⟨R, C, cl, cu, hR1, hR6, hC1, hC6, rfl, rfl, hb, hG⟩ := inv_begin hI.1 y_cl y_cu
  unfold fX10_cramer fX11_cramer fX1_isSquare
  rw [hb]
  simp only [obs]
  by_cases hRC : R = C
  · subst hRC
    simp only [↓reduceIte, obs, if_neg one0]
    rcases row_cases p1 hR1 hR6 with ⟨k, hk, rfl, a1, a2⟩ | ⟨a1, a2⟩
    · have a1' : fX1_hasColumn (nI k) (nI R) = some 1 := a1
      obtain ⟨L', U', hcp, hcc⟩ := copy_ok x_trial_lower x_trial_upper (nI R) (nI R) x_now_matrix_lower x_now_matrix_upper
      obtain ⟨qu', ql', qi', tl2, tu2, l1, e1, e2⟩ := crC_loop p2 x_sweep_rank x_sweep_broken x_sweep_brokenRow x_sweep_brokenColumn x_sweep_liveRows x_sweep_liveColumns x_sweep_bestRow x_sweep_bestColumn x_sweep_factor_upper x_sweep_factor_lower x_sweep_factor_isLong x_sweep_fills x_sweep_grid_rows x_sweep_grid_columns x_sweep_grid_lower x_sweep_grid_sum_upper x_sweep_grid_sum_lower x_sweep_grid_sum_isLong x_sweep_grid_upper x_sweep_pivotColumns x_sweep_pivotRows x_sweep_weights hR6 hR6 hk x_now_matrix_lower x_now_matrix_upper L' U' R 0 fuelN x_ratio_upper x_ratio_lower x_ratio_isLong L' U' (by omega) (by unfold fuelN; omega) (cset_0 _ _ _) (cset_0 _ _ _)
      obtain ⟨cl2, cu2, l2, f1, f2⟩ := crR_loop p2 y_up y_low y_isLong y_brokenRow y_brokenColumn y_filled y_liveColumn y_liveRow y_pivotColumn y_pivotFill y_pivotRow y_pivotWeight hR6 hR6 hk 0 cl cu R 0 fuelN cl cu (by omega) (by unfold fuelN; omega) (cset_0 _ _ _) (cset_0 _ _ _)
      rw [show nI 0 = 0 from rfl] at l1 l2
      obtain ⟨L3, U3, hcs, g1, g2⟩ := clearSides_ok hR6 hR6 tl2 tu2
      obtain ⟨cl3, cu3, hns, g3, g4⟩ := noSides_ok hR6 cl2 cu2
      have hG3 := eqG_cramer hR6 hk hG hcc e2 e1 f2 f1 g2 g1 g4 g3
      obtain ⟨u, v, h1, h2, hor⟩ := det_ok hR6 hG3 0 p2 qu' ql' qi' x_sweep_rank x_sweep_broken x_sweep_brokenRow x_sweep_brokenColumn x_sweep_liveRows x_sweep_liveColumns x_sweep_bestRow x_sweep_bestColumn x_sweep_factor_upper x_sweep_factor_lower x_sweep_factor_isLong x_sweep_fills x_sweep_grid_rows x_sweep_grid_columns x_sweep_grid_lower x_sweep_grid_sum_upper x_sweep_grid_sum_lower x_sweep_grid_sum_isLong x_sweep_grid_upper x_sweep_pivotColumns x_sweep_pivotRows x_sweep_weights y_up y_low y_isLong y_brokenRow y_brokenColumn y_filled y_liveColumn y_liveRow y_pivotColumn y_pivotFill y_pivotRow y_pivotWeight
      rw [a1', a2]
      simp only [obs, if_neg one0]
      rw [hcp]
      simp only [obs]
      rw [l1, l2]
      unfold fX10_cramer_83 fX11_cramer_77
      rw [hcs, hns]
      simp only [obs]
      rw [h1, h2]
      simp only [obs]
      rcases hor with ⟨v1, u1⟩ | ⟨v1, A, B, gA, z1, z2, ht⟩
      · rw [if_pos v1]
        exact ⟨_, _, rfl, rfl, u1, hI⟩
      · rw [if_neg (by rw [v1]; exact one0), z1, z2]
        rw [if_pos rfl] at ht
        rw [ht]
        simp only [obs]
        exact ⟨_, _, rfl, rfl, rfl, hI⟩
    · have a1' : fX1_hasColumn p1 (nI R) = some 0 := a1
      rw [a1', a2]
      simp only [obs, ↓reduceIte]
      exact ⟨_, _, rfl, rfl, rfl, hI⟩
  · have hne : ¬ nI R = nI C := fun e => hRC ((nI_eq (by omega) (by omega)).mp e)
    simp only [if_neg hne, obs, ↓reduceIte]
    exact ⟨_, _, rfl, rfl, rfl, hI⟩
/-- what a row and a column leave: as far as it is gone through -/
def mnQ (n r c : Nat) (tu tl cu cl cu0 cl0 : Nat → Int32) : Prop :=
  (∀ k, 7 * r + c ≤ k → cu k = cu0 k ∧ cl k = cl0 k) ∧ (∀ i j, i < n → j < n → i < r ∨ (i = r ∧ j < c) → cu (7 * i + j) = tu (7 * i + j) ∧ cl (7 * i + j) = tl (7 * i + j) ∧ goodE (tu (7 * i + j)) (tl (7 * i + j))) ∧ ∀ i, i < 6 → tu (7 * i + n) = 0 ∧ tl (7 * i + n) = 1
theorem mnQ_put {n r c : Nat} (hr : r < n) (hc : c < n) (hn : n ≤ 5) {tu tl cu cl cu0 cl0 : Nat → Int32} (h : mnQ n r c tu tl cu cl cu0 cl0) {A B : Int32} (hg : goodE A B) : mnQ n r (c + 1) (upd tu (7 * r + c) A) (upd tl (7 * r + c) B) (upd cu (7 * r + c) A) (upd cl (7 * r + c) B) cu0 cl0 := by
  obtain ⟨h1, h2, h3⟩ := h
  refine ⟨fun k hk => ?_, fun i j hi hj hp => ?_, fun i hi => ?_⟩
  · rw [pk_un (by omega), pk_un (by omega)]
    exact h1 k (by omega)
  · by_cases e : i = r ∧ j = c
    · obtain ⟨rfl, rfl⟩ := e
      rw [pk_us, pk_us, pk_us, pk_us]
      exact ⟨rfl, rfl, hg⟩
    · rw [pk_un (by omega), pk_un (by omega), pk_un (by omega), pk_un (by omega)]
      exact h2 i j hi hj (by omega)
  · rw [pk_un (by omega), pk_un (by omega)]
    exact h3 i hi
theorem mn_in {n pr pc r : Nat} (hn : n ≤ 5) (hr : r < n) {U L cu0 cl0 : Nat → Int32} (hG : eqG (n + 1) (n + 1) U L cu0 cl0) (rec : Int32 → (Nat → Int32) → Int64 → Int64 → Int32 → (Nat → Int32) → Option (Int32 × Int32 × (Nat → Int32) × Int64 × Int64 × Int32 × (Nat → Int32)))
    (rec' : Int32 → (Nat → Int32) → (Nat → Int32) → Option (Int32 × Int64 × Int64 × Int32 × Int32 × Int32 × Int32 × Int32 × Int32 × Int32 × Int32 × Int32 × (Nat → Int32) × (Nat → Int32) × (Nat → Int32) × (Nat → Int32) × (Nat → Int32) × (Nat → Int32) × (Nat → Int32) × (Nat → Int32))) (hpr : pr < 6) (hpc : pc < 6) :
    ∀ (m c fuel fuel' : Nat) (tl : Nat → Int32) (su sl : Int64) (si : Int32) (tu cl cu : Nat → Int32), c + m = n → m + 1 ≤ fuel → m + 1 ≤ fuel' → mnQ n r c tu tl cu cl cu0 cl0 →
    ∃ tl' su' sl' si' tu' cl' cu', mnQ n (r + 1) 0 tu' tl' cu' cl' cu0 cl0 ∧ fX1_copyWithout_31 (nI pr) (nI pc) L U (nI r) (nI n) rec fuel (nI c) tl su sl si tu = rec (nI (r + 1)) tl' su' sl' si' tu' ∧ fX11_minor_66 (nI pr) (nI pc) (nI n) (nI r) rec' fuel' (nI c) cl cu = rec' (nI (r + 1)) cl' cu' := by
  intro m
  induction m with
  | zero =>
    intro c fuel fuel' tl su sl si tu cl cu hm hf hf' hQ
    obtain ⟨fuel, rfl⟩ : ∃ f, fuel = f + 1 := ⟨fuel - 1, by omega⟩
    obtain ⟨fuel', rfl⟩ : ∃ f, fuel' = f + 1 := ⟨fuel' - 1, by omega⟩
    obtain rfl : c = n := by omega
    rw [fX1_copyWithout_31_s, if_pos (nI_le (Nat.le_refl _) (by omega)), fX11_minor_66_s, if_pos (nI_le (Nat.le_refl _) (by omega))]
    unfold fX1_copyWithout_96 fX11_minor_138
    rw [← nI_succ]
    obtain ⟨h1, h2, h3⟩ := hQ
    exact ⟨_, _, _, _, _, _, _, ⟨fun k hk => h1 k (by omega), fun i j hi hj hp => h2 i j hi hj (by omega), h3⟩, rfl, rfl⟩
  | succ m ih =>
    intro c fuel fuel' tl su sl si tu cl cu hm hf hf' hQ
    obtain ⟨fuel, rfl⟩ : ∃ f, fuel = f + 1 := ⟨fuel - 1, by omega⟩
    obtain ⟨fuel', rfl⟩ : ∃ f, fuel' = f + 1 := ⟨fuel' - 1, by omega⟩
    have go : ∀ r' c' : Nat, r ≤ r' → r' ≤ r + 1 → c ≤ c' → c' ≤ c + 1 → ∃ tl' su' sl' si' tu' cl' cu', mnQ n (r + 1) 0 tu' tl' cu' cl' cu0 cl0 ∧ fX1_copyWithout_75 L U (nI r) (nI c) tl tu (fX1_copyWithout_31 (nI pr) (nI pc) L U (nI r) (nI n) rec fuel) (nI c') (nI r') = rec (nI (r + 1)) tl' su' sl' si' tu' ∧ fX11_minor_103 (nI r) (nI c) cl cu (fX11_minor_66 (nI pr) (nI pc) (nI n) (nI r) rec' fuel') (nI c') (nI r') = rec' (nI (r + 1)) cl' cu' := by
      intro r' c' q1 q2 q3 q4
      have hx := lt42 (show r' < 6 by omega) (show c' < 7 by omega)
      obtain ⟨e1, e2, g1⟩ := hG r' c' (by omega) (by omega)
      have e3 := hQ.1 (7 * r' + c') (by omega)
      unfold fX1_copyWithout_75 fX11_minor_103
      rw [load_ok (by omega) (by omega), cell_ok]
      simp only [obs, inB_ok (n := 42) hx (by omega), nI_clamp (n := 7 * r' + c') (by omega)]
      rw [put_ok (by omega) (by omega), lays_ok (by omega) (by omega), e3.1, e3.2, e1, e2]
      simp only [obs, ← nI_succ, i64_32]
      exact ih (c + 1) _ _ _ _ _ _ _ _ _ (by omega) (by omega) (by omega) (mnQ_put hr (by omega) hn hQ g1)
    have hcn : ¬ nI n ≤ nI c := nI_ge (by omega) (by omega)
    rw [fX1_copyWithout_31_s, fX11_minor_66_s, if_neg hcn, if_neg hcn, ← nI_succ, ← nI_succ]
    by_cases c1 : pr ≤ r
    · have c1' : nI pr ≤ nI r := nI_le c1 (by omega)
      by_cases c2 : pc ≤ c
      · have c2' : nI pc ≤ nI c := nI_le c2 (by omega)
        simp only [if_pos c1', if_pos c2']
        exact go (r + 1) (c + 1) (by omega) (by omega) (by omega) (by omega)
      · have c2' : ¬ nI pc ≤ nI c := nI_ge (by omega) (by omega)
        simp only [if_pos c1', if_neg c2']
        exact go (r + 1) c (by omega) (by omega) (by omega) (by omega)
    · have c1' : ¬ nI pr ≤ nI r := nI_ge (by omega) (by omega)
      by_cases c2 : pc ≤ c
      · have c2' : nI pc ≤ nI c := nI_le c2 (by omega)
        simp only [if_neg c1', if_pos c2']
        exact go r (c + 1) (by omega) (by omega) (by omega) (by omega)
      · have c2' : ¬ nI pc ≤ nI c := nI_ge (by omega) (by omega)
        simp only [if_neg c1', if_neg c2']
        exact go r c (by omega) (by omega) (by omega) (by omega)
theorem mn_out {n pr pc : Nat} (hn : n ≤ 5) {U L cu0 cl0 : Nat → Int32} (hG : eqG (n + 1) (n + 1) U L cu0 cl0) (hpr : pr < 6) (hpc : pc < 6) (p3 : Int32) (up lo : Int64) (il brr bcc fd : Int32) (lc lr pC pF pR pW : Nat → Int32) (fr : Int32) :
    ∀ (m r fuel fuel' : Nat) (tl : Nat → Int32) (su sl : Int64) (si : Int32) (tu cl cu : Nat → Int32), r + m = n → m + 1 ≤ fuel → m + 1 ≤ fuel' → mnQ n r 0 tu tl cu cl cu0 cl0 →
    ∃ tl' su' sl' si' tu' cl' cu', mnQ n n 0 tu' tl' cu' cl' cu0 cl0 ∧ fX1_copyWithout_19 (nI pr) (nI pc) L U (nI n) (nI n) fuel (nI r) tl su sl si tu = some (nI n, nI n, tl', su', sl', si', tu') ∧ fX11_minor_56 (nI pr) (nI pc) p3 up lo il brr bcc fd lc lr pC pF pR pW (nI n) fr fuel' (nI r) cl cu = fX11_minor_144 (nI pr) (nI pc) p3 up lo il brr bcc fd lc lr pC pF pR pW (nI n) fr cl' cu' := by
  intro m
  induction m with
  | zero =>
    intro r fuel fuel' tl su sl si tu cl cu hm hf hf' hQ
    obtain ⟨fuel, rfl⟩ : ∃ f, fuel = f + 1 := ⟨fuel - 1, by omega⟩
    obtain ⟨fuel', rfl⟩ : ∃ f, fuel' = f + 1 := ⟨fuel' - 1, by omega⟩
    obtain rfl : r = n := by omega
    rw [fX1_copyWithout_19_s, if_pos (nI_le (Nat.le_refl _) (by omega)), fX11_minor_56_s, if_pos (nI_le (Nat.le_refl _) (by omega))]
    exact ⟨_, _, _, _, _, _, _, hQ, rfl, rfl⟩
  | succ m ih =>
    intro r fuel fuel' tl su sl si tu cl cu hm hf hf' hQ
    obtain ⟨fuel, rfl⟩ : ∃ f, fuel = f + 1 := ⟨fuel - 1, by omega⟩
    obtain ⟨fuel', rfl⟩ : ∃ f, fuel' = f + 1 := ⟨fuel' - 1, by omega⟩
    obtain ⟨tl', su', sl', si', tu', cl', cu', hQ', q1, q2⟩ := mn_in hn (show r < n by omega) hG (fX1_copyWithout_19 (nI pr) (nI pc) L U (nI n) (nI n) fuel) (fX11_minor_56 (nI pr) (nI pc) p3 up lo il brr bcc fd lc lr pC pF pR pW (nI n) fr fuel') hpr hpc n 0 fuelN fuelN tl su sl si tu cl cu (by omega) (by unfold fuelN; omega) (by unfold fuelN; omega) hQ
    rw [show nI 0 = 0 from rfl] at q1 q2
    rw [fX1_copyWithout_19_s, if_neg (nI_ge (by omega) (by omega)), fX11_minor_56_s, if_neg (nI_ge (by omega) (by omega)), q1, q2]
    exact ih (r + 1) _ _ _ _ _ _ _ _ _ (by omega) (by omega) (by omega) hQ'
theorem pure_minor : Pure_minor := by
  intro p1 p2 p3 x_now_fault x_now_faultPlace x_now_refusal x_now_longRow x_now_longColumn x_now_matrix_rows x_now_matrix_columns x_now_matrix_upper x_now_matrix_lower x_now_tape_length x_now_tape_bytes x_images x_past_size x_past_top x_past_kept x_sweep_rank x_sweep_broken x_sweep_brokenRow x_sweep_brokenColumn x_sweep_liveRows x_sweep_liveColumns x_sweep_bestRow x_sweep_bestColumn x_sweep_grid_rows x_sweep_grid_columns x_sweep_grid_upper x_sweep_grid_lower x_sweep_grid_sum_upper x_sweep_grid_sum_lower x_sweep_grid_sum_isLong x_sweep_pivotRows x_sweep_pivotColumns x_sweep_fills x_sweep_weights x_sweep_factor_upper x_sweep_factor_lower x_sweep_factor_isLong x_trial_rows x_trial_columns x_trial_upper x_trial_lower x_trial_sum_upper x_trial_sum_lower x_trial_sum_isLong x_ratio_upper x_ratio_lower x_ratio_isLong y_taped y_faultKind y_faultPlace y_undos y_up y_low y_isLong y_rank y_brokenRow y_brokenColumn y_filled y_all y_tape y_isImage y_cu y_cl y_pivotRow y_pivotColumn y_pivotFill y_pivotWeight y_liveRow y_liveColumn hh72 hI
  obtain ⟨R, C, cl, cu, hR1, hR6, hC1, hC6, rfl, rfl, hb, hG⟩ := inv_begin hI.1 y_cl y_cu
  unfold fX10_minor fX11_minor fX1_isSquare
  rw [hb]
  simp only [obs]
  by_cases hRC : R = C
  · subst hRC
    simp only [↓reduceIte, obs, if_neg one0]
    rcases row_cases p1 hR1 hR6 with ⟨r, hr, rfl, a1, a2⟩ | ⟨a1, a2⟩
    · rcases row_cases p2 hR1 hR6 with ⟨c, hc, rfl, c1, c2⟩ | ⟨c1, c2⟩
      · have c1' : fX1_hasColumn (nI c) (nI R) = some 1 := c1
        rw [a1, a2]
        simp only [obs, if_neg one0]
        rw [c1', c2]
        simp only [obs, if_neg one0]
        by_cases hR : R = 1
        · have hR' : nI R = 1 := by rw [hR]; rfl
          rw [if_pos hR', if_pos hR']
          exact ⟨_, _, rfl, rfl, rfl, hI⟩
        · have hR' : ¬ nI R = 1 := fun e => hR ((nI_eq (b := 1) (by omega) (by omega)).mp e)
          obtain ⟨n, rfl⟩ : ∃ n, R = n + 1 := ⟨R - 1, by omega⟩
          have en : nI (n + 1) - 1 = nI n := pk_sub (a := n + 1) (b := 1) (by omega)
          obtain ⟨f1, i1, j1⟩ := fill_ok 0 x_trial_upper (n := 42) (by omega)
          obtain ⟨f2, i2, j2⟩ := fill_ok 1 x_trial_lower (n := 42) (by omega)
          obtain ⟨tl', su', sl', si', tu', cl', cu', hQ, q1, q2⟩ := mn_out (show n ≤ 5 by omega) hG (show r < 6 by omega) (show c < 6 by omega) p3 y_up y_low y_isLong y_brokenRow y_brokenColumn y_filled y_liveColumn y_liveRow y_pivotColumn y_pivotFill y_pivotRow y_pivotWeight 0 n 0 fuelN fuelN f2 x_trial_sum_upper x_trial_sum_lower x_trial_sum_isLong f1 cl cu (by omega) (by unfold fuelN; omega) (by unfold fuelN; omega) ⟨fun _ _ => ⟨rfl, rfl⟩, fun i j hi hj hp => by omega, fun i hi => ⟨j1 _ (by omega), j2 _ (by omega)⟩⟩
          rw [show nI 0 = 0 from rfl] at q1 q2
          obtain ⟨cl3, cu3, hns, g3, g4⟩ := noSides_ok (show n ≤ 6 by omega) cl' cu'
          have hG3 : eqG n n tu' tl' cu3 cl3 := by
            intro i j hi hj
            by_cases e : j = n
            · subst e
              rw [g4.1 i (by omega), g3.1 i (by omega), (hQ.2.2 i (by omega)).1, (hQ.2.2 i (by omega)).2]
              exact ⟨rfl, rfl, good01⟩
            · rw [g4.2 _ (fun x hx => by omega), g3.2 _ (fun x hx => by omega)]
              exact hQ.2.1 i j hi (by omega) (Or.inl hi)
          have hpar : nI r + nI c - (nI r + nI c) / 2 * 2 = nI ((r + c) % 2) := by
            rw [nI_add]
            exact pk_rem (a := r + c) (d := 2) (by omega) (by omega) (by omega)
          rw [if_neg hR', if_neg hR', ltp, en, q2]
          unfold fX1_copyWithout fX1_clear fX11_minor_144
          rw [i1]
          simp only [obs]
          rw [i2]
          simp only [obs]
          rw [en, q1, hns]
          simp only [obs]
          rw [hpar]
          rcases Nat.mod_two_eq_zero_or_one (r + c) with hp | hp
          · obtain ⟨u, v, h1, h2, hor⟩ := det_ok (show n ≤ 6 by omega) hG3 0 p3 x_ratio_upper x_ratio_lower x_ratio_isLong x_sweep_rank x_sweep_broken x_sweep_brokenRow x_sweep_brokenColumn x_sweep_liveRows x_sweep_liveColumns x_sweep_bestRow x_sweep_bestColumn x_sweep_factor_upper x_sweep_factor_lower x_sweep_factor_isLong x_sweep_fills x_sweep_grid_rows x_sweep_grid_columns x_sweep_grid_lower x_sweep_grid_sum_upper x_sweep_grid_sum_lower x_sweep_grid_sum_isLong x_sweep_grid_upper x_sweep_pivotColumns x_sweep_pivotRows x_sweep_weights y_up y_low y_isLong y_brokenRow y_brokenColumn y_filled y_liveColumn y_liveRow y_pivotColumn y_pivotFill y_pivotRow y_pivotWeight
            rw [hp, if_pos (show nI 0 = 0 from rfl), h1, h2]
            simp only [obs]
            rcases hor with ⟨v1, u1⟩ | ⟨v1, A, B, gA, z1, z2, ht⟩
            · rw [if_pos v1]
              exact ⟨_, _, rfl, rfl, u1, hI⟩
            · rw [if_neg (by rw [v1]; exact one0), if_neg (show ¬ nI 0 = 1 by decide)]
              unfold fX11_minor_192
              rw [if_pos rfl] at ht
              rw [z1, z2, ht]
              simp only [obs]
              exact ⟨_, _, rfl, rfl, rfl, hI⟩
          · obtain ⟨u, v, h1, h2, hor⟩ := det_ok (show n ≤ 6 by omega) hG3 1 p3 x_ratio_upper x_ratio_lower x_ratio_isLong x_sweep_rank x_sweep_broken x_sweep_brokenRow x_sweep_brokenColumn x_sweep_liveRows x_sweep_liveColumns x_sweep_bestRow x_sweep_bestColumn x_sweep_factor_upper x_sweep_factor_lower x_sweep_factor_isLong x_sweep_fills x_sweep_grid_rows x_sweep_grid_columns x_sweep_grid_lower x_sweep_grid_sum_upper x_sweep_grid_sum_lower x_sweep_grid_sum_isLong x_sweep_grid_upper x_sweep_pivotColumns x_sweep_pivotRows x_sweep_weights y_up y_low y_isLong y_brokenRow y_brokenColumn y_filled y_liveColumn y_liveRow y_pivotColumn y_pivotFill y_pivotRow y_pivotWeight
            rw [hp, if_neg (show ¬ nI 1 = 0 by decide), h1, h2]
            simp only [obs]
            rcases hor with ⟨v1, u1⟩ | ⟨v1, A, B, gA, z1, z2, ht⟩
            · rw [if_pos v1]
              exact ⟨_, _, rfl, rfl, u1, hI⟩
            · rw [if_neg (by rw [v1]; exact one0), if_pos (show nI 1 = 1 from rfl)]
              unfold fX11_minor_192
              rw [if_neg one0] at ht
              rw [z1, z2, ht]
              simp only [obs]
              exact ⟨_, _, rfl, rfl, rfl, hI⟩
      · have c1' : fX1_hasColumn p2 (nI R) = some 0 := c1
        rw [a1, a2]
        simp only [obs, if_neg one0]
        rw [c1', c2]
        simp only [obs, ↓reduceIte]
        exact ⟨_, _, rfl, rfl, rfl, hI⟩
    · rw [a1, a2]
      simp only [obs, ↓reduceIte]
      exact ⟨_, _, rfl, rfl, rfl, hI⟩
  · have hne : ¬ nI R = nI C := fun e => hRC ((nI_eq (by omega) (by omega)).mp e)
    simp only [if_neg hne, obs, ↓reduceIte]
    exact ⟨_, _, rfl, rfl, rfl, hI⟩
