/-! What solves, as it is asked: solution, null, inverse. -/
theorem fill_loop (x : Int32) {n : Nat} (hn : n ≤ 4000) : ∀ (m k fuel : Nat) (f : Nat → Int32), k + m = n → m + 1 ≤ fuel → (∀ j, j < k → f j = x) → ∃ f', fJ7_fill_53178_5 x n (nI n) fuel (nI k) f = some f' ∧ ∀ j, j < n → f' j = x := by
  intro m
  induction m with
  | zero =>
    intro k fuel f hk hf h
    obtain ⟨fuel, rfl⟩ : ∃ f, fuel = f + 1 := ⟨fuel - 1, by omega⟩
    obtain rfl : k = n := by omega
    exact ⟨f, by rw [fJ7_fill_53178_5_s, if_pos (nI_le (Nat.le_refl _) (by omega))], h⟩
  | succ m ih =>
    intro k fuel f hk hf h
    obtain ⟨fuel, rfl⟩ : ∃ f, fuel = f + 1 := ⟨fuel - 1, by omega⟩
    rw [fJ7_fill_53178_5_s, if_neg (nI_ge (by omega) (by omega)), inB_ok (by omega) (by omega), nI_clamp (by omega), ltp, ← nI_succ]
    refine ih (k + 1) fuel _ (by omega) (by omega) (fun j hj => ?_)
    by_cases e : j = k
    · subst e; exact pk_us
    · rw [pk_un e]; exact h j (by omega)
theorem fill_ok (x : Int32) (f : Nat → Int32) {n : Nat} (hn : n ≤ 4000) : ∃ f', fJ7_fill_53178 x f n = some f' ∧ ∀ j, j < n → f' j = x := by
  obtain ⟨f', h1, h2⟩ := fill_loop x hn n 0 fuelN f (by omega) (by unfold fuelN; omega) (fun j hj => by omega)
  refine ⟨f', ?_, h2⟩
  unfold fJ7_fill_53178
  rw [ltp]
  exact h1
theorem solves_init (one : Int32) (up lo : Int64) (il C K : Int32) (cl cu pC pR : Nat → Int32) (f : Nat → Int64) (hf1 : ∀ c, c < 6 → nI c = one → f c = 1) (hf0 : ∀ c, c < 6 → ¬ nI c = one → f c = 0) : ∀ (m c fuel : Nat) (un : Nat → Int32) (xl xu : Nat → Int64), c + m = 6 → m + 1 ≤ fuel → (∀ i, i < c → un i = 0 ∧ xl i = 1 ∧ xu i = f i) → ∃ un' xl' xu', (∀ i, i < 6 → un' i = 0 ∧ xl' i = 1 ∧ xu' i = f i) ∧ fX11_solves_2 one up lo il C K cl cu pC pR fuel (nI c) un xl xu = fX11_solves_44 one up lo il C K cl cu pC pR un' xl' xu' := by
  intro m
  induction m with
  | zero =>
    intro c fuel un xl xu hc hf h
    obtain ⟨fuel, rfl⟩ : ∃ f, fuel = f + 1 := ⟨fuel - 1, by omega⟩
    obtain rfl : c = 6 := by omega
    exact ⟨un, xl, xu, h, by rw [fX11_solves_2_s, if_pos le66]⟩
  | succ m ih =>
    intro c fuel un xl xu hc hf h
    obtain ⟨fuel, rfl⟩ : ∃ f, fuel = f + 1 := ⟨fuel - 1, by omega⟩
    have go : ∀ x : Int64, x = f c → ∃ un' xl' xu', (∀ i, i < 6 → un' i = 0 ∧ xl' i = 1 ∧ xu' i = f i) ∧ fX11_solves_23 (nI c) un xl xu (fX11_solves_2 one up lo il C K cl cu pC pR fuel) x (nI c) = fX11_solves_44 one up lo il C K cl cu pC pR un' xl' xu' := by
      intro x hx
      unfold fX11_solves_23
      simp only [inB_ok (n := 6) (i := c) (by omega) (by omega), nI_clamp (n := c) (by omega), ltp, nar0, ← nI_succ]
      refine ih (c + 1) fuel _ _ _ (by omega) (by omega) (fun i hi => ?_)
      by_cases e : i = c
      · subst e
        rw [pk_us, pk_uLs, pk_uLs]
        exact ⟨rfl, rfl, hx⟩
      · rw [pk_un e, pk_uLn e, pk_uLn e]
        exact h i (by omega)
    rw [fX11_solves_2_s, if_neg (nI_ge6 (by omega))]
    by_cases e : nI c = one
    · rw [if_pos e]
      exact go 1 (hf1 c (by omega) e).symm
    · rw [if_neg e]
      exact go 0 (hf0 c (by omega) e).symm
theorem b63 : ∀ c, c < 6 → (63 : Nat).testBit c = true := by decide
theorem sides_ok {R C K mr mc : Nat} (hR : R ≤ 6) (hC : C ≤ 6) (hK : K ≤ 6) {U L pRows pCols fills weights cu cl lr lc pR pC pF pW : Nat → Int32} (hS : SW R C K mr mc U L pRows pCols fills weights cu cl lr lc pR pC pF pW) (vl vu un : Nat → Int32) (xl xu : Nat → Int64) (pu pl : Int64) (pi : Int32) (ru rl : Int64) (ri : Int32) (up lo : Int64) (il : Int32) :
    ∃ kn vl' pu' pl' pi' ru' rl' ri' vu' up' lo' il' un' xl' xu', VS kn vu' vl' un' xu' xl' ∧ fX9_solveSides vl pu pl pi ru rl ri vu (nI K) (nI C) L U pCols pRows = some (nI kn, vl', pu', pl', pi', ru', rl', ri', vu') ∧ fX11_solves (-1) up lo il (nI C) (nI K) cl cu un pC pR xl xu = some (up', lo', il', un', xl', xu') := by
  obtain ⟨f1, h1, q1⟩ := fill_ok 0 vu (n := 6) (by omega)
  obtain ⟨f2, h2, q2⟩ := fill_ok 1 vl (n := 6) (by omega)
  obtain ⟨un1, xl1, xu1, h3, q3⟩ := solves_init (-1) up lo il (nI C) (nI K) cl cu pC pR (fun _ => 0) (fun c hc e => absurd e (neg1 (by omega))) (fun _ _ _ => rfl) 6 0 fuelN un xl xu (by omega) (by unfold fuelN; omega) (fun i hi => by omega)
  have hV : VS 63 f1 f2 un1 xu1 xl1 := ⟨by omega, fun c hc => Or.inl ⟨(h3 c hc).1, b63 c hc, by rw [(h3 c hc).2.2, q1 c hc]; rfl, by rw [(h3 c hc).2.1, q2 c hc]; rfl, by rw [q1 c hc, q2 c hc]; exact good01⟩⟩
  obtain ⟨kn', vl', pu', pl', pi', ru', rl', ri', vu', up', lo', il', un', xl', xu', hV', r1, r2⟩ := sub_loop hR hC hK hS (p2 := 1) (one := -1) (Or.inl ⟨rfl, rfl⟩) K fuelN fuelN 63 f2 f1 un1 xl1 xu1 pu pl pi ru rl ri up lo il (Nat.le_refl _) (by unfold fuelN; omega) (by unfold fuelN; omega) hV
  refine ⟨kn', vl', pu', pl', pi', ru', rl', ri', vu', up', lo', il', un', xl', xu', hV', ?_, ?_⟩
  · unfold fX9_solveSides fX9_clear fX9_substitute
    rw [h1]
    simp only [obs]
    rw [h2]
    simp only [obs, ltp]
    rw [show nI 63 = 63 from rfl] at r1
    rw [r1]
    rfl
  · unfold fX11_solves
    rw [show nI 0 = 0 from rfl] at q3
    rw [q3]
    unfold fX11_solves_44
    rw [ltp, r2]
theorem null_ok {R C K mr mc j : Nat} (hR : R ≤ 6) (hC : C ≤ 6) (hK : K ≤ 6) (hj : j < 6) {U L pRows pCols fills weights cu cl lr lc pR pC pF pW : Nat → Int32} (hS : SW R C K mr mc U L pRows pCols fills weights cu cl lr lc pR pC pF pW) (vl vu un : Nat → Int32) (xl xu : Nat → Int64) (pu pl : Int64) (pi : Int32) (up lo : Int64) (il : Int32) :
    ∃ kn vl' pu' pl' pi' ru' rl' ri' vu' up' lo' il' un' xl' xu', VS kn vu' vl' un' xu' xl' ∧ fX9_solveNull (nI j) vl pu pl pi vu (nI K) (nI C) L U pCols pRows = some (nI kn, vl', pu', pl', pi', ru', rl', ri', vu') ∧ fX11_solves (nI j) up lo il (nI C) (nI K) cl cu un pC pR xl xu = some (up', lo', il', un', xl', xu') := by
  obtain ⟨f1, h1, q1⟩ := fill_ok 0 vu (n := 6) (by omega)
  obtain ⟨f2, h2, q2⟩ := fill_ok 1 vl (n := 6) (by omega)
  obtain ⟨un1, xl1, xu1, h3, q3⟩ := solves_init (nI j) up lo il (nI C) (nI K) cl cu pC pR (fun c => if c = j then 1 else 0) (fun c hc e => if_pos ((nI_eq (by omega) (by omega)).mp e)) (fun c hc e => if_neg (fun e2 => e (by rw [e2]))) 6 0 fuelN un xl xu (by omega) (by unfold fuelN; omega) (fun i hi => by omega)
  have hk := keep_ok (own := j) (kn := 63) hj (by omega) f2 f1 (A := 1) (B := 1)
  rw [e64_1, show nI 63 = 63 from rfl] at hk
  obtain ⟨o1, o2⟩ := b_orb 63 (by omega) j hj
  have hV : VS (63 ||| 2 ^ j) (upd f1 j 1) (upd f2 j 1) un1 xu1 xl1 := by
    refine ⟨o1, fun c hc => Or.inl ⟨(h3 c hc).1, by rw [o2 c hc, b63 c hc, Bool.true_or], ?_, ?_, ?_⟩⟩
    · rw [(h3 c hc).2.2]
      by_cases e : c = j
      · subst e; rw [pk_us, if_pos rfl]; rfl
      · rw [pk_un e, if_neg e, q1 c hc]; rfl
    · rw [(h3 c hc).2.1]
      by_cases e : c = j
      · subst e; rw [pk_us]; rfl
      · rw [pk_un e, q2 c hc]; rfl
    · by_cases e : c = j
      · subst e; rw [pk_us, pk_us]; exact good11
      · rw [pk_un e, pk_un e, q1 c hc, q2 c hc]; exact good01
  obtain ⟨kn', vl', pu', pl', pi', ru', rl', ri', vu', up', lo', il', un', xl', xu', hV', r1, r2⟩ := sub_loop hR hC hK hS (p2 := 0) (one := nI j) (Or.inr ⟨rfl, neg1 (by omega)⟩) K fuelN fuelN (63 ||| 2 ^ j) (upd f2 j 1) (upd f1 j 1) un1 xl1 xu1 pu pl pi 1 1 0 up lo il (Nat.le_refl _) (by unfold fuelN; omega) (by unfold fuelN; omega) hV
  refine ⟨kn', vl', pu', pl', pi', ru', rl', ri', vu', up', lo', il', un', xl', xu', hV', ?_, ?_⟩
  · unfold fX9_solveNull fX9_clear fX9_substitute
    rw [h1]
    simp only [obs]
    rw [h2]
    simp only [obs, ltp, start11]
    rw [hk]
    simp only [obs]
    rw [r1]
    rfl
  · unfold fX11_solves
    rw [show nI 0 = 0 from rfl] at q3
    rw [q3]
    unfold fX11_solves_44
    rw [ltp, r2]
theorem ans_ok {c kn : Nat} (hc : c < 6) {vu vl un : Nat → Int32} {xu xl : Nat → Int64} (hV : VS kn vu vl un xu xl) (p : Int32) : ∃ x, fX9_answer (nI c) p (nI kn) vl vu = some x ∧ fX11_has (nI c) p un xl xu = some x := by
  unfold fX9_answer fX11_has
  rw [if_neg (nI_pos (by omega)), if_neg (nI_ge6 hc), b_get kn hV.1 c hc]
  simp only [inB_ok (n := 6) hc (by omega), nI_clamp (n := c) (by omega)]
  rcases hV.2 c hc with ⟨u1, k1, x1, x2, -⟩ | ⟨u1, k1⟩
  · rw [u1, k1, x1, x2, if_neg (show ¬ (if true = true then (1 : Int32) else 0) = 0 by decide), if_pos rfl, i64_32, i64_32]
    by_cases e : p = 0
    · rw [if_pos e]; exact ⟨_, rfl, rfl⟩
    · rw [if_neg e]; exact ⟨_, rfl, rfl⟩
  · rw [u1, k1, if_neg one0, if_pos (show (if false = true then (1 : Int32) else 0) = 0 by decide)]
    exact ⟨_, rfl, rfl⟩
theorem can_no (mr mc R C : Int32) (U : Nat → Int32) : fX7_canBeSolved 1 mr mc R C U = some 0 := by
  unfold fX7_canBeSolved fX7_kindFound
  rw [if_neg one0]
  rfl
theorem can_ok {R C k mr mc : Nat} {U L pRows pCols fills weights cu cl lr lc pR pC pF pW : Nat → Int32} (hk : k ≤ 6) (hR : R ≤ 6) (hC : C ≤ 6) (h : SW R C k mr mc U L pRows pCols fills weights cu cl lr lc pR pC pF pW) : ∃ x, fX11_kindNow (nI R) (nI C) (nI k) cu pR = some x ∧ ((x = 0 ∧ fX7_canBeSolved 0 (nI mr) (nI mc) (nI R) (nI C) U = some 0) ∨ (¬ x = 0 ∧ fX7_canBeSolved 0 (nI mr) (nI mc) (nI R) (nI C) U = some 1)) := by
  obtain ⟨x, hx, q1, q2⟩ := kind_ok hk hR hC h
  refine ⟨x, q2, ?_⟩
  unfold fX7_canBeSolved
  rw [q1]
  simp only [obs]
  rcases hx with rfl | rfl | rfl
  · left; exact ⟨rfl, rfl⟩
  · right; exact ⟨by decide, rfl⟩
  · right; exact ⟨by decide, rfl⟩
/-- both solve, or can't -/
theorem solved_ok {R C c : Nat} (hR6 : R ≤ 6) (hC6 : C ≤ 6) (hc : c < C) {U L cu cl : Nat → Int32} (hG : eqG R C U L cu cl) (p3 : Int32) (rank broken br bc mr mc b1 b2 : Int32) (fu fw : Int64) (fi : Int32) (fills : Nat → Int32) (gr gc : Int32) (L0 : Nat → Int32) (su sl : Int64) (si : Int32) (U0 pCols pRows weights : Nat → Int32) (kn : Int32) (vl : Nat → Int32) (pu pl : Int64) (pi : Int32) (ru rl : Int64) (ri : Int32) (vu : Nat → Int32) (up lo : Int64) (il brr bcc fd : Int32) (un lc lr pC pF pR pW : Nat → Int32) (xl xu : Nat → Int64) :
    ∃ a w1 w2 w3 w4 w5 w6 w7 w8 w9 w10 w11 w12 w13 w14 w15 w16 w17 w18 w19 w20 w21 w22 w23 w24 w25 w26 w27 w28 w29 w30 w31 t z1 z2 z3 z4 z5 z6 z7 z8 z9 z10 z11 z12 z13 z14 z15 z16 z17 z18 z19, fX10_solved (nI c) p3 rank broken br bc mr mc b1 b2 fu fw fi fills gr gc L0 su sl si U0 pCols pRows weights kn vl pu pl pi ru rl ri vu (nI R) (nI C) L U = some (a, w1, w2, w3, w4, w5, w6, w7, w8, w9, w10, w11, w12, w13, w14, w15, w16, w17, w18, w19, w20, w21, w22, w23, w24, w25, w26, w27, w28, w29, w30, w31) ∧
      fX11_isSolved up lo il (nI R) (nI C) brr bcc fd cl cu un lc lr pC pF pR pW xl xu = some (t, z1, z2, z3, z4, z5, z6, z7, z8, z9, z10, z11, z12, z13, z14, z15, z16, z17, z18, z19) ∧
      ((t = 0 ∧ a = -2000000000) ∨ (t = 1 ∧ fX11_has (nI c) p3 z11 z18 z19 = some a)) := by
  obtain ⟨k, b, br', bc', mr', mc', b1', b2', fu', fw', fi', fills', L1, su', sl', si', U1, pCols', pRows', weights', up1, lo1, il1, brr', bcc', fd', cl1, cu1, lc1, lr1, pC1, pF1, pR1, pW1, s1, s2, hk6, hsw⟩ := sweep_ok 1 hR6 hC6 hG br bc b1 b2 brr bcc fd il fi si fu fw su sl up lo fills L0 U0 pCols pRows weights lc lr pC pF pR pW
  have hcol : fX1_hasColumn (nI c) (nI C) = some 1 := by
    unfold fX1_hasColumn
    rw [if_neg (nI_pos (by omega)), if_neg (nI_ge hc (by omega))]
  unfold fX10_solved fX11_isSolved
  rw [hcol, s2]
  simp only [obs, if_neg one0]
  rw [s1]
  simp only [obs]
  rcases hsw with ⟨rfl, -, -⟩ | ⟨rfl, hS⟩
  · rw [can_no]
    simp only [obs, ↓reduceIte, if_neg one0]
    exact ⟨_, _, _, _, _, _, _, _, _, _, _, _, _, _, _, _, _, _, _, _, _, _, _, _, _, _, _, _, _, _, _, _, _, _, _, _, _, _, _, _, _, _, _, _, _, _, _, _, _, _, _, _, rfl, rfl, Or.inl ⟨rfl, rfl⟩⟩
  · obtain ⟨x, k1, hor⟩ := can_ok hk6 hR6 hC6 hS
    rw [k1]
    simp only [obs, ↓reduceIte]
    rcases hor with ⟨hx, c1⟩ | ⟨hx, c1⟩
    · rw [c1]
      simp only [obs, ↓reduceIte, if_pos hx]
      exact ⟨_, _, _, _, _, _, _, _, _, _, _, _, _, _, _, _, _, _, _, _, _, _, _, _, _, _, _, _, _, _, _, _, _, _, _, _, _, _, _, _, _, _, _, _, _, _, _, _, _, _, _, _, rfl, rfl, Or.inl ⟨rfl, rfl⟩⟩
    · obtain ⟨kn', vl', pu', pl', pi', ru', rl', ri', vu', up', lo', il', un', xl', xu', hV', r1, r2⟩ := sides_ok hR6 hC6 hk6 hS vl vu un xl xu pu pl pi ru rl ri up1 lo1 il1
      obtain ⟨a, a1, a2⟩ := ans_ok (show c < 6 by omega) hV' p3
      rw [c1]
      simp only [obs, if_neg one0, if_neg hx]
      rw [r1, r2]
      simp only [obs]
      rw [a1]
      simp only [obs]
      exact ⟨_, _, _, _, _, _, _, _, _, _, _, _, _, _, _, _, _, _, _, _, _, _, _, _, _, _, _, _, _, _, _, _, _, _, _, _, _, _, _, _, _, _, _, _, _, _, _, _, _, _, _, _, rfl, rfl, Or.inr ⟨rfl, a2⟩⟩
theorem pure_solution : Pure_solution := by
  intro p1 p2 x_now_fault x_now_faultPlace x_now_refusal x_now_longRow x_now_longColumn x_now_matrix_rows x_now_matrix_columns x_now_matrix_upper x_now_matrix_lower x_now_tape_length x_now_tape_bytes x_images x_past_size x_past_top x_past_kept x_sweep_rank x_sweep_broken x_sweep_brokenRow x_sweep_brokenColumn x_sweep_liveRows x_sweep_liveColumns x_sweep_bestRow x_sweep_bestColumn x_sweep_grid_rows x_sweep_grid_columns x_sweep_grid_upper x_sweep_grid_lower x_sweep_grid_sum_upper x_sweep_grid_sum_lower x_sweep_grid_sum_isLong x_sweep_pivotRows x_sweep_pivotColumns x_sweep_fills x_sweep_weights x_sweep_factor_upper x_sweep_factor_lower x_sweep_factor_isLong x_values_known x_values_upper x_values_lower x_values_rest_upper x_values_rest_lower x_values_rest_isLong x_values_part_upper x_values_part_lower x_values_part_isLong y_taped y_faultKind y_faultPlace y_undos y_up y_low y_isLong y_rank y_brokenRow y_brokenColumn y_filled y_all y_tape y_isImage y_cu y_cl y_pivotRow y_pivotColumn y_pivotFill y_pivotWeight y_liveRow y_liveColumn y_xu y_xl y_isUnknown hh73 hI
  obtain ⟨R, C, cl, cu, hR1, hR6, hC1, hC6, rfl, rfl, hb, hG⟩ := inv_begin hI.1 y_cl y_cu
  unfold fX10_solution fX11_solution
  rw [hb]
  simp only [obs]
  rcases col_cases p1 hC1 hC6 with ⟨c, hc, rfl, c1, c2⟩ | ⟨c1, c2⟩
  · obtain ⟨a, w1, w2, w3, w4, w5, w6, w7, w8, w9, w10, w11, w12, w13, w14, w15, w16, w17, w18, w19, w20, w21, w22, w23, w24, w25, w26, w27, w28, w29, w30, w31, t, z1, z2, z3, z4, z5, z6, z7, z8, z9, z10, z11, z12, z13, z14, z15, z16, z17, z18, z19, q1, q2, hor⟩ := solved_ok hR6 hC6 hc hG p2 x_sweep_rank x_sweep_broken x_sweep_brokenRow x_sweep_brokenColumn x_sweep_liveRows x_sweep_liveColumns x_sweep_bestRow x_sweep_bestColumn x_sweep_factor_upper x_sweep_factor_lower x_sweep_factor_isLong x_sweep_fills x_sweep_grid_rows x_sweep_grid_columns x_sweep_grid_lower x_sweep_grid_sum_upper x_sweep_grid_sum_lower x_sweep_grid_sum_isLong x_sweep_grid_upper x_sweep_pivotColumns x_sweep_pivotRows x_sweep_weights x_values_known x_values_lower x_values_part_upper x_values_part_lower x_values_part_isLong x_values_rest_upper x_values_rest_lower x_values_rest_isLong x_values_upper y_up y_low y_isLong y_brokenRow y_brokenColumn y_filled y_isUnknown y_liveColumn y_liveRow y_pivotColumn y_pivotFill y_pivotRow y_pivotWeight y_xl y_xu
    rw [c2, q1]
    simp only [obs, if_neg one0]
    rw [q2]
    simp only [obs]
    rcases hor with ⟨rfl, rfl⟩ | ⟨rfl, ha⟩
    · simp only [↓reduceIte]
      exact ⟨_, _, rfl, rfl, rfl, hI⟩
    · rw [ha]
      simp only [obs, if_neg one0]
      exact ⟨_, _, rfl, rfl, rfl, hI⟩
  · unfold fX10_solved
    rw [c1, c2]
    simp only [obs, ↓reduceIte]
    exact ⟨_, _, rfl, rfl, rfl, hI⟩
theorem live_bit {m n j : Nat} {lv : Nat → Int32} (h : liveAt m n lv) (hn : n ≤ 6) (hj : j < n) : ((nI m >>> (nI j &&& 31)) &&& 1) = 0 ↔ lv j = 0 := by
  rw [b_get m h.1 j (by omega), h.2 j (by omega)]
  unfold lvB
  by_cases e : lv j = 0
  · simp [e]
  · simp [e, hj]
theorem pure_zero : Pure_zero := by
  intro p1 p2 p3 x_now_fault x_now_faultPlace x_now_refusal x_now_longRow x_now_longColumn x_now_matrix_rows x_now_matrix_columns x_now_matrix_upper x_now_matrix_lower x_now_tape_length x_now_tape_bytes x_images x_past_size x_past_top x_past_kept x_sweep_rank x_sweep_broken x_sweep_brokenRow x_sweep_brokenColumn x_sweep_liveRows x_sweep_liveColumns x_sweep_bestRow x_sweep_bestColumn x_sweep_grid_rows x_sweep_grid_columns x_sweep_grid_upper x_sweep_grid_lower x_sweep_grid_sum_upper x_sweep_grid_sum_lower x_sweep_grid_sum_isLong x_sweep_pivotRows x_sweep_pivotColumns x_sweep_fills x_sweep_weights x_sweep_factor_upper x_sweep_factor_lower x_sweep_factor_isLong x_values_known x_values_upper x_values_lower x_values_rest_upper x_values_rest_lower x_values_rest_isLong x_values_part_upper x_values_part_lower x_values_part_isLong y_taped y_faultKind y_faultPlace y_undos y_up y_low y_isLong y_brokenRow y_brokenColumn y_filled y_all y_tape y_isImage y_cu y_cl y_pivotRow y_pivotColumn y_pivotFill y_pivotWeight y_liveRow y_liveColumn y_xu y_xl y_isUnknown hh73 hI
  obtain ⟨R, C, cl, cu, hR1, hR6, hC1, hC6, rfl, rfl, hb, hG⟩ := inv_begin hI.1 y_cl y_cu
  obtain ⟨k, b, br, bc, mr, mc, b1, b2, fu, fw, fi, fills, L1, su, sl, si, U1, pCols, pRows, weights, up1, lo1, il1, brr, bcc, fd, cl1, cu1, lc1, lr1, pC1, pF1, pR1, pW1, s1, s2, hk6, hsw⟩ := sweep_ok 1 hR6 hC6 hG x_sweep_brokenRow x_sweep_brokenColumn x_sweep_bestRow x_sweep_bestColumn y_brokenRow y_brokenColumn y_filled y_isLong x_sweep_factor_isLong x_sweep_grid_sum_isLong x_sweep_factor_upper x_sweep_factor_lower x_sweep_grid_sum_upper x_sweep_grid_sum_lower y_up y_low x_sweep_fills x_sweep_grid_lower x_sweep_grid_upper x_sweep_pivotColumns x_sweep_pivotRows x_sweep_weights y_liveColumn y_liveRow y_pivotColumn y_pivotFill y_pivotRow y_pivotWeight
  unfold fX10_zero fX11_zero
  rw [hb]
  simp only [obs]
  rw [s2]
  simp only [obs]
  rcases col_cases p1 hC1 hC6 with ⟨f, hf, rfl, d1, d2⟩ | ⟨d1, d2⟩
  · rcases col_cases p2 hC1 hC6 with ⟨c, hc, rfl, c1, c2⟩ | ⟨c1, c2⟩
    · rw [d1, d2]
      simp only [obs, if_neg one0]
      rw [c1, c2]
      simp only [obs, if_neg one0]
      rw [s1]
      simp only [obs]
      rcases hsw with ⟨rfl, -, -⟩ | ⟨rfl, hS⟩
      · simp only [if_neg one0]
        exact ⟨_, _, rfl, rfl, rfl, hI⟩
      · simp only [↓reduceIte, fX7_freeBits, obs]
        have hlb := live_bit hS.2.2.1 hC6 hf
        rcases SW_free hk6 hC6 hS hf with ⟨g1, g2⟩ | ⟨g1, i, hi, -, g2⟩
        · obtain ⟨kn', vl', pu', pl', pi', ru', rl', ri', vu', up', lo', il', un', xl', xu', hV', r1, r2⟩ := null_ok (j := f) hR6 hC6 hk6 (by omega) hS x_values_lower x_values_upper y_isUnknown y_xl y_xu x_values_part_upper x_values_part_lower x_values_part_isLong up1 lo1 il1
          obtain ⟨a, a1, a2⟩ := ans_ok (show c < 6 by omega) hV' p3
          rw [if_neg (fun q => g1 (hlb.mp q)), g2]
          simp only [obs, ↓reduceIte]
          rw [r1, r2]
          simp only [obs]
          rw [a1, a2]
          simp only [obs]
          exact ⟨_, _, rfl, rfl, rfl, hI⟩
        · rw [if_pos (hlb.mpr g1), g2]
          simp only [obs, if_neg (neg1 (n := i) (by omega))]
          exact ⟨_, _, rfl, rfl, rfl, hI⟩
    · rw [d1, d2]
      simp only [obs, if_neg one0]
      rw [c1, c2]
      simp only [obs, ↓reduceIte, ite_self]
      exact ⟨_, _, rfl, rfl, rfl, hI⟩
  · rw [d1, d2]
    simp only [obs, ↓reduceIte, ite_self]
    exact ⟨_, _, rfl, rfl, rfl, hI⟩
