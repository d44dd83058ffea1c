/-! More that is read: patterns, free columns, pivots, counts. -/
theorem obs {α β : Type} (a : α) (f : α → Option β) : (some a).bind f = f a := Eq.trans rfl rfl
theorem ltp {β α : Type} (x : β) (K : β → Option α) : lt x K = K x := Eq.trans rfl rfl
theorem obind {α β : Type} {x : Option α} {t : α} {f : α → Option β} {y : Option β} (h : x = some t) (h2 : f t = y) : x.bind f = y := by
  rw [h]
  exact h2
theorem bN_congr {f g : Nat → Bool} : ∀ n, (∀ i, i < n → f i = g i) → bN f n = bN g n := by
  intro n
  induction n with
  | zero => intro _; rfl
  | succ n ih =>
    intro h
    rw [bN_s, bN_s, ih (fun i hi => h i (by omega)), h n (by omega)]
theorem rowIn_cases (p : Int32) {R : Nat} (h1 : 1 ≤ R) (h6 : R ≤ 6) : (∃ j, j < R ∧ p = nI j ∧ fX1_hasRow p (nI R) = some 1 ∧ fX11_isIn p 0 (nI R - 1) = some 1) ∨ (fX1_hasRow p (nI R) = some 0 ∧ fX11_isIn p 0 (nI R - 1) = some 0) := col_cases p h1 h6
theorem pat_row {r C : Nat} (hr : r < 6) (hC : C ≤ 6) (rows isB fr : Int32) (cl cu : Nat → Int32) : ∀ (m c fuel : Nat), c + m = C + 1 → m + 1 ≤ fuel → fX11_pattern_37 (nI r) 0 rows (nI C) isB fr cl cu fuel (nI (bN (nz cu r) c)) (nI c) = some (nI (bN (nz cu r) (C + 1)), rows, nI C, isB, fr, cl, cu) := by
  intro m
  induction m with
  | zero =>
    intro c fuel hc hf
    obtain ⟨fuel, rfl⟩ : ∃ f, fuel = f + 1 := ⟨fuel - 1, by omega⟩
    obtain rfl : c = C + 1 := by omega
    rw [fX11_pattern_37_s, if_pos rfl]
    unfold fX11_pattern_56
    rw [← nI_succ C, if_pos (nI_le (Nat.le_refl _) (by omega))]
  | succ m ih =>
    intro c fuel hc hf
    obtain ⟨fuel, rfl⟩ : ∃ f, fuel = f + 1 := ⟨fuel - 1, by omega⟩
    have hb := bN128 (nz cu r) (n := c) (by omega)
    have := ih (c + 1) fuel (by omega) (by omega)
    rw [fX11_pattern_37_s, if_pos rfl]
    unfold fX11_pattern_56 fX11_pattern_83
    rw [← nI_succ C, if_neg (nI_ge (by omega) (by omega)), if_pos rfl, cell_ok]
    simp only [obs, ltp, ← nI_succ, b_or _ hb c (by omega), inB_ok (n := 42) (i := 7 * r + c) (lt42 hr (by omega)) (by omega), nI_clamp (n := 7 * r + c) (by omega), Int32.or_zero]
    rw [bN_s] at this
    by_cases h : cu (7 * r + c) = 0
    · rw [if_pos h]
      rw [if_neg (by simp [nz, h]), Nat.or_zero] at this
      exact this
    · rw [if_neg h]
      rw [if_pos (by simp [nz, h])] at this
      exact this
theorem pat_col {c R : Nat} (hc : c < 7) (hR : R ≤ 6) {p2 : Int32} (hp : ¬ p2 = 0) (cols isB fr : Int32) (cl cu : Nat → Int32) : ∀ (m r fuel : Nat), r + m = R → m + 1 ≤ fuel → fX11_pattern_37 (nI c) p2 (nI R) cols isB fr cl cu fuel (nI (bN (fun r => nz cu r c) r)) (nI r) = some (nI (bN (fun r => nz cu r c) R), nI R, cols, isB, fr, cl, cu) := by
  intro m
  induction m with
  | zero =>
    intro r fuel hr hf
    obtain ⟨fuel, rfl⟩ : ∃ f, fuel = f + 1 := ⟨fuel - 1, by omega⟩
    obtain rfl : r = R := by omega
    rw [fX11_pattern_37_s, if_neg hp]
    unfold fX11_pattern_56
    rw [if_pos (nI_le (Nat.le_refl _) (by omega))]
  | succ m ih =>
    intro r fuel hr hf
    obtain ⟨fuel, rfl⟩ : ∃ f, fuel = f + 1 := ⟨fuel - 1, by omega⟩
    have hb := bN128 (fun r => nz cu r c) (n := r) (by omega)
    have := ih (r + 1) fuel (by omega) (by omega)
    rw [fX11_pattern_37_s, if_neg hp]
    unfold fX11_pattern_56 fX11_pattern_83
    rw [if_neg (nI_ge (by omega) (by omega)), if_neg hp, cell_ok]
    simp only [obs, ltp, ← nI_succ, b_or _ hb r (by omega), inB_ok (n := 42) (i := 7 * r + c) (lt42 (show r < 6 by omega) (by omega)) (by omega), nI_clamp (n := 7 * r + c) (by omega), Int32.or_zero]
    rw [bN_s] at this
    by_cases h : cu (7 * r + c) = 0
    · rw [if_pos h]
      rw [if_neg (by simp [nz, h]), Nat.or_zero] at this
      exact this
    · rw [if_neg h]
      rw [if_pos (by simp [nz, h])] at this
      exact this
theorem pure_pattern : Pure_pattern := by
  intro p1 p2 x_now_fault x_now_faultPlace x_now_refusal x_now_longRow x_now_longColumn x_now_matrix_rows x_now_matrix_columns x_now_matrix_upper x_now_matrix_lower x_now_tape_length x_now_tape_bytes x_images x_past_size x_past_top x_past_kept y_taped y_faultKind y_faultPlace y_undos y_all y_tape y_isImage y_cu y_cl hh26 hI
  obtain ⟨R, C, cl, cu, hR1, hR6, hC1, hC6, rfl, rfl, hb, hG⟩ := inv_begin hI.1 y_cl y_cu
  unfold fX10_pattern fX11_pattern
  rw [hb]
  simp only [obs]
  by_cases h2 : p2 = 0
  · subst h2
    rw [if_pos rfl, if_pos rfl]
    unfold fX11_pattern_24
    rcases rowIn_cases p1 hR1 hR6 with ⟨j, hj, rfl, a1, a2⟩ | ⟨a1, a2⟩
    · have q := pat_row (r := j) (by omega) hC6 (nI R) 0 0 cl cu (C + 1) 0 fuelN (by omega) (by unfold fuelN; omega)
      rw [show nI (bN (nz cu j) 0) = 0 from rfl, show nI 0 = 0 from rfl] at q
      rw [a1, a2]
      simp only [obs, if_neg one0]
      rw [rowBits_ok _ (by omega) hC6, q]
      refine ⟨_, _, rfl, rfl, ?_, hI⟩
      exact congrArg nI (bN_congr _ (fun i hi => (nz_congr (fun r c hr hc => (hG r c hr hc).1) (by omega) (by omega)).symm))
    · rw [a1, a2]
      simp only [obs, ↓reduceIte]
      exact ⟨_, _, rfl, rfl, rfl, hI⟩
  · rw [if_neg h2, if_neg h2]
    unfold fX11_pattern_24
    rcases side_cases p1 hC6 with ⟨j, hj, rfl, a1, a2⟩ | ⟨a1, a2⟩
    · have q := pat_col (c := j) (by omega) hR6 h2 (nI C) 0 0 cl cu R 0 fuelN (by omega) (by unfold fuelN; omega)
      rw [show nI (bN (fun r => nz cu r j) 0) = 0 from rfl, show nI 0 = 0 from rfl] at q
      rw [a1, a2]
      simp only [obs, if_neg one0]
      rw [colBits_ok _ (by omega) hR6, q]
      refine ⟨_, _, rfl, rfl, ?_, hI⟩
      exact congrArg nI (bN_congr _ (fun i hi => (nz_congr (fun r c hr hc => (hG r c hr hc).1) (by omega) (by omega)).symm))
    · rw [a1, a2]
      simp only [obs, ↓reduceIte]
      exact ⟨_, _, rfl, rfl, rfl, hI⟩
theorem free_loop (f : Nat → Bool) {C k : Nat} (hC : C ≤ 6) (pC : Nat → Int32) (hpf : ∀ c, c < C → (f c = true ∧ fX11_pivotOf (nI c) (nI k) pC = some (-1)) ∨ (f c = false ∧ ∃ i, i < 6 ∧ fX11_pivotOf (nI c) (nI k) pC = some (nI i))) (up lo : Int64) (il R brr bcc isB fd fr : Int32) (cl cu lc lr pF pR pW : Nat → Int32) : ∀ (m c fuel : Nat), c + m = C → m + 1 ≤ fuel → fX11_free_14 up lo il R (nI C) (nI k) brr bcc isB fd fr cl cu lc lr pC pF pR pW fuel (nI (bN f c)) (nI c) = fX11_free_47 (nI (bN f C)) up lo il R (nI C) (nI k) brr bcc isB fd fr cl cu lc lr pC pF pR pW := by
  intro m
  induction m with
  | zero =>
    intro c fuel hc hf
    obtain ⟨fuel, rfl⟩ : ∃ f, fuel = f + 1 := ⟨fuel - 1, by omega⟩
    obtain rfl : c = C := by omega
    rw [fX11_free_14_s, if_pos (nI_le (Nat.le_refl _) (by omega))]
  | succ m ih =>
    intro c fuel hc hf
    obtain ⟨fuel, rfl⟩ : ∃ f, fuel = f + 1 := ⟨fuel - 1, by omega⟩
    have hb := bN128 f (n := c) (by omega)
    have := ih (c + 1) fuel (by omega) (by omega)
    rw [bN_s] at this
    rw [fX11_free_14_s, if_neg (nI_ge (by omega) (by omega))]
    rcases hpf c (by omega) with ⟨e1, e2⟩ | ⟨e1, i, hi, e2⟩
    · rw [e2]
      simp only [obs, ltp, ↓reduceIte, b_or _ hb c (by omega), ← nI_succ]
      rw [if_pos e1] at this
      exact this
    · rw [e2]
      simp only [obs, ltp, if_neg (neg1 (n := i) (by omega)), Int32.or_zero, ← nI_succ]
      rw [if_neg (by rw [e1]; decide), Nat.or_zero] at this
      exact this
theorem free_any {C k : Nat} (hC : C ≤ 6) (hk : k ≤ 6) (pC : Nat → Int32) (up lo : Int64) (il R brr bcc isB fd fr : Int32) (cl cu lc lr pF pR pW : Nat → Int32) : ∀ (m c fuel : Nat) (v : Int32), c + m = C → m + 1 ≤ fuel → ∃ v', fX11_free_14 up lo il R (nI C) (nI k) brr bcc isB fd fr cl cu lc lr pC pF pR pW fuel v (nI c) = fX11_free_47 v' up lo il R (nI C) (nI k) brr bcc isB fd fr cl cu lc lr pC pF pR pW := by
  intro m
  induction m with
  | zero =>
    intro c fuel v hc hf
    obtain ⟨fuel, rfl⟩ : ∃ f, fuel = f + 1 := ⟨fuel - 1, by omega⟩
    obtain rfl : c = C := by omega
    exact ⟨v, by rw [fX11_free_14_s, if_pos (nI_le (Nat.le_refl _) (by omega))]⟩
  | succ m ih =>
    intro c fuel v hc hf
    obtain ⟨fuel, rfl⟩ : ∃ f, fuel = f + 1 := ⟨fuel - 1, by omega⟩
    rw [fX11_free_14_s, if_neg (nI_ge (by omega) (by omega))]
    rcases pivotOf_ok hk (nI c) pC with ⟨q1, q2⟩ | ⟨i, hi, q1, q2⟩
    · rw [q1]
      simp only [obs, ltp, ↓reduceIte, ← nI_succ]
      exact ih (c + 1) fuel _ (by omega) (by omega)
    · rw [q2]
      simp only [obs, ltp, if_neg (neg1 (n := i) (by omega)), ← nI_succ]
      exact ih (c + 1) fuel _ (by omega) (by omega)
theorem free_47b (v : Int32) (up lo : Int64) (il R C k brr bcc fd fr : Int32) (cl cu lc lr pC pF pR pW : Nat → Int32) : fX11_free_47 v up lo il R C k brr bcc 1 fd fr cl cu lc lr pC pF pR pW = some (-2000000000, up, lo, il, R, C, k, brr, bcc, 1, fd, fr, cl, cu, lc, lr, pC, pF, pR, pW) := by
  unfold fX11_free_47
  rw [if_neg one0]
theorem free_47g (v : Int32) (up lo : Int64) (il R C k brr bcc fd fr : Int32) (cl cu lc lr pC pF pR pW : Nat → Int32) : fX11_free_47 v up lo il R C k brr bcc 0 fd fr cl cu lc lr pC pF pR pW = some (v, up, lo, il, R, C, k, brr, bcc, 0, fd, fr, cl, cu, lc, lr, pC, pF, pR, pW) := by
  unfold fX11_free_47
  rw [if_pos rfl]
theorem free_ok {R C k mr mc : Nat} {U L pRows pCols fills weights cu cl lr lc pR pC pF pW : Nat → Int32} (hk : k ≤ 6) (hC : C ≤ 6) (hS : SW R C k mr mc U L pRows pCols fills weights cu cl lr lc pR pC pF pW) (up lo : Int64) (il brr bcc isB fd fr : Int32) (cl' cu' lc' lr' pF' pR' pW' : Nat → Int32) : fX11_free_14 up lo il (nI R) (nI C) (nI k) brr bcc isB fd fr cl' cu' lc' lr' pC pF' pR' pW' fuelN 0 0 = fX11_free_47 (nI mc) up lo il (nI R) (nI C) (nI k) brr bcc isB fd fr cl' cu' lc' lr' pC pF' pR' pW' := by
  have q := free_loop (lvB lc) hC pC (k := k) (fun c hc => by
      rcases SW_free hk hC hS hc with ⟨q1, q2⟩ | ⟨q1, i, hi, q2, q3⟩
      · left; exact ⟨by simp [lvB, q1], q2⟩
      · right; exact ⟨by simp [lvB, q1], i, by omega, q3⟩) up lo il (nI R) brr bcc isB fd fr cl' cu' lc' lr' pF' pR' pW' C 0 fuelN (by omega) (by unfold fuelN; omega)
  rw [bits_eq hS.2.2.1 hC]
  exact q
theorem pure_free : Pure_free := by
  intro x_now_fault x_now_faultPlace x_now_refusal x_now_longRow x_now_longColumn x_now_matrix_rows x_now_matrix_columns x_now_matrix_upper x_now_matrix_lower x_now_tape_length x_now_tape_bytes x_images x_past_size x_past_top x_past_kept x_sweep_brokenRow x_sweep_brokenColumn x_sweep_bestRow x_sweep_bestColumn x_sweep_grid_upper x_sweep_grid_lower x_sweep_grid_sum_upper x_sweep_grid_sum_lower x_sweep_grid_sum_isLong x_sweep_pivotRows x_sweep_pivotColumns x_sweep_fills x_sweep_weights x_sweep_factor_upper x_sweep_factor_lower x_sweep_factor_isLong y_taped y_faultKind y_faultPlace y_undos y_up y_low y_isLong y_brokenRow y_brokenColumn y_filled y_all y_tape y_isImage y_cu y_cl y_pivotRow y_pivotColumn y_pivotFill y_pivotWeight y_liveRow y_liveColumn hI
  obtain ⟨R, C, cl, cu, hR1, hR6, hC1, hC6, rfl, rfl, hb, hG⟩ := inv_begin hI.1 y_cl y_cu
  obtain ⟨k, b, br, bc, mr, mc, b1, b2, fu, fw, fi, fills, L1, su, sl, si, U1, pCols, pRows, weights, up1, lo1, il1, brr, bcc, fd, cl1, cu1, lc1, lr1, pC1, pF1, pR1, pW1, s1, s2, hk6, hsw⟩ := sweep_ok 1 hR6 hC6 hG x_sweep_brokenRow x_sweep_brokenColumn x_sweep_bestRow x_sweep_bestColumn y_brokenRow y_brokenColumn y_filled y_isLong x_sweep_factor_isLong x_sweep_grid_sum_isLong x_sweep_factor_upper x_sweep_factor_lower x_sweep_grid_sum_upper x_sweep_grid_sum_lower y_up y_low x_sweep_fills x_sweep_grid_lower x_sweep_grid_upper x_sweep_pivotColumns x_sweep_pivotRows x_sweep_weights y_liveColumn y_liveRow y_pivotColumn y_pivotFill y_pivotRow y_pivotWeight
  unfold fX10_free fX11_free
  rw [s1, hb]
  simp only [obs]
  rw [s2]
  simp only [obs]
  rcases hsw with ⟨rfl, -, -⟩ | ⟨rfl, hS⟩
  · obtain ⟨v', q⟩ := free_any hC6 hk6 pC1 up1 lo1 il1 (nI R) brr bcc 1 fd 0 cl1 cu1 lc1 lr1 pF1 pR1 pW1 C 0 fuelN 0 (by omega) (by unfold fuelN; omega)
    rw [show nI 0 = 0 from rfl, free_47b] at q
    rw [q]
    simp only [if_neg one0]
    exact ⟨_, _, rfl, rfl, rfl, hI⟩
  · rw [free_ok hk6 hC6 hS, free_47g]
    unfold fX7_freeBits
    simp only [↓reduceIte, obs]
    exact ⟨_, _, rfl, rfl, rfl, hI⟩
theorem rule_cases (p : Int32) : (∃ j, j < 3 ∧ p = nI j ∧ fX10_isRule p = some 1 ∧ fX11_isIn p 0 2 = some 1) ∨ (fX10_isRule p = some 0 ∧ fX11_isIn p 0 2 = some 0) := by
  unfold fX10_isRule fX11_isIn
  rcases pk_ix p (n := 3) (by omega) with h | h | ⟨j, hj, rfl⟩
  · right
    rw [if_pos h, if_pos h]
    exact ⟨rfl, rfl⟩
  · right
    have h' : (3 : Int32) ≤ p := h
    have h0 : ¬ p < 0 := fun q => by
      rw [Int32.lt_iff_toInt_lt] at q
      rw [Int32.le_iff_toInt_le] at h'
      have e0 : (0 : Int32).toInt = 0 := rfl
      have e3 : (3 : Int32).toInt = 3 := rfl
      omega
    have h2 : (2 : Int32) < p := by
      rw [Int32.lt_iff_toInt_lt]
      rw [Int32.le_iff_toInt_le] at h'
      have e0 : (2 : Int32).toInt = 2 := rfl
      have e3 : (3 : Int32).toInt = 3 := rfl
      omega
    rw [if_neg h0, if_neg h0, if_pos h', if_pos h2]
    exact ⟨rfl, rfl⟩
  · left
    refine ⟨j, hj, rfl, ?_⟩
    rw [if_neg (nI_pos (by omega)), if_neg (nI_pos (by omega)), if_neg (show ¬ (3 : Int32) ≤ nI j from nI_ge (a := j) (b := 3) hj (by omega)), if_neg (show ¬ (2 : Int32) < nI j from nI_nlt (a := 2) (b := j) (by omega) (by omega))]
    exact ⟨rfl, rfl⟩
theorem rank_cases (p : Int32) {k : Nat} (hk : k ≤ 6) : (∃ j, j < k ∧ p = nI j ∧ fX11_isIn p 0 (nI k - 1) = some 1) ∨ ((p < 0 ∨ nI k ≤ p) ∧ fX11_isIn p 0 (nI k - 1) = some 0) := by
  have e : (nI k - 1).toInt = (k : Int) - 1 := pk_sub_toInt (a := k) (b := 1) (by omega) (by omega)
  unfold fX11_isIn
  rcases pk_ix p (n := k) (by omega) with h | h | ⟨j, hj, rfl⟩
  · right
    exact ⟨Or.inl h, if_pos h⟩
  · right
    refine ⟨Or.inr h, ?_⟩
    have h0 : ¬ p < 0 := fun q => by
      rw [Int32.lt_iff_toInt_lt] at q
      rw [Int32.le_iff_toInt_le, nI_toInt (by omega)] at h
      have e0 : (0 : Int32).toInt = 0 := rfl
      omega
    rw [if_neg h0, if_pos (by rw [Int32.lt_iff_toInt_lt, e]; rw [Int32.le_iff_toInt_le, nI_toInt (by omega)] at h; omega)]
  · left
    refine ⟨j, hj, rfl, ?_⟩
    rw [if_neg (nI_pos (by omega)), if_neg (fun q => by rw [Int32.lt_iff_toInt_lt, e, nI_toInt (by omega)] at q; omega)]
theorem pivNum_ok {j k r c : Nat} (hj : j < k) (hk : k ≤ 6) (hr : r < 6) (hc : c < 7) (p3 : Int32) {fills L U pCols pRows weights : Nat → Int32} (e1 : pRows j = nI r) (e2 : pCols j = nI c) : fX7_pivotNumber (nI j) p3 (nI k) fills L U pCols pRows weights = some (if p3 = 0 then nI r else if p3 = 1 then nI c else if p3 = 2 then fills j else if p3 = 3 then weights j else if p3 = 4 then U (7 * r + c) else if p3 = 5 then L (7 * r + c) else -2000000000) := by
  unfold fX7_pivotNumber
  rw [if_neg (nI_pos (by omega)), if_neg (nI_ge hj (by omega)), if_pos (show nI j < (6 : Int32) from nI_lt (a := j) (b := 6) (by omega) (by omega))]
  simp only [inB_ok (n := 6) (i := j) (by omega) (by omega), nI_clamp (n := j) (by omega), e1, e2, upperAt_ok hr hc, lowerAt_ok hr hc, obs, ite_some]
theorem pivNum_no {p : Int32} {k : Nat} (h : p < 0 ∨ nI k ≤ p) (p3 : Int32) (fills L U pCols pRows weights : Nat → Int32) : fX7_pivotNumber p p3 (nI k) fills L U pCols pRows weights = some (-2000000000) := by
  unfold fX7_pivotNumber
  by_cases h0 : p < 0
  · rw [if_pos h0]
  · rw [if_neg h0]
    rcases h with h | h
    · exact absurd h h0
    · rw [if_pos h]
theorem pure_pivot : Pure_pivot := by
  intro p1 p2 p3 x_now_fault x_now_faultPlace x_now_refusal x_now_longRow x_now_longColumn x_now_matrix_rows x_now_matrix_columns x_now_matrix_upper x_now_matrix_lower x_now_tape_length x_now_tape_bytes x_images x_past_size x_past_top x_past_kept x_sweep_rank x_sweep_broken x_sweep_brokenRow x_sweep_brokenColumn x_sweep_liveRows x_sweep_liveColumns x_sweep_bestRow x_sweep_bestColumn x_sweep_grid_rows x_sweep_grid_columns x_sweep_grid_upper x_sweep_grid_lower x_sweep_grid_sum_upper x_sweep_grid_sum_lower x_sweep_grid_sum_isLong x_sweep_pivotRows x_sweep_pivotColumns x_sweep_fills x_sweep_weights x_sweep_factor_upper x_sweep_factor_lower x_sweep_factor_isLong y_taped y_faultKind y_faultPlace y_undos y_up y_low y_isLong y_rank y_brokenRow y_brokenColumn y_filled y_all y_tape y_isImage y_cu y_cl y_pivotRow y_pivotColumn y_pivotFill y_pivotWeight y_liveRow y_liveColumn hI
  obtain ⟨R, C, cl, cu, hR1, hR6, hC1, hC6, rfl, rfl, hb, hG⟩ := inv_begin hI.1 y_cl y_cu
  unfold fX10_pivot fX11_pivot
  rw [hb]
  simp only [obs]
  rcases rule_cases p1 with ⟨-, -, -, a1, a2⟩ | ⟨a1, a2⟩
  · obtain ⟨k, b, br, bc, mr, mc, b1, b2, fu, fw, fi, fills, L1, su, sl, si, U1, pCols, pRows, weights, up1, lo1, il1, brr, bcc, fd, cl1, cu1, lc1, lr1, pC1, pF1, pR1, pW1, s1, s2, hk6, hsw⟩ := sweep_ok p1 hR6 hC6 hG x_sweep_brokenRow x_sweep_brokenColumn x_sweep_bestRow x_sweep_bestColumn y_brokenRow y_brokenColumn y_filled y_isLong x_sweep_factor_isLong x_sweep_grid_sum_isLong x_sweep_factor_upper x_sweep_factor_lower x_sweep_grid_sum_upper x_sweep_grid_sum_lower y_up y_low x_sweep_fills x_sweep_grid_lower x_sweep_grid_upper x_sweep_pivotColumns x_sweep_pivotRows x_sweep_weights y_liveColumn y_liveRow y_pivotColumn y_pivotFill y_pivotRow y_pivotWeight
    rw [a1, a2]
    simp only [obs, if_neg one0]
    rw [s1, s2]
    simp only [obs]
    rcases hsw with ⟨rfl, -, -⟩ | ⟨rfl, hS⟩
    · simp only [if_neg one0]
      exact ⟨_, _, rfl, rfl, rfl, hI⟩
    · simp only [↓reduceIte]
      by_cases h2 : p2 = -1
      · simp only [if_pos h2]
        by_cases h3 : p3 = 0
        · simp only [if_pos h3]
          exact ⟨_, _, rfl, rfl, rfl, hI⟩
        · simp only [if_neg h3]
          by_cases h4 : p3 = 1
          · simp only [if_pos h4]
            obtain ⟨-, -, -, -, -, ri, ci, w1, -⟩ := hS
            obtain ⟨t, t1, t2⟩ := fills_ok hk6 (fun j hj => (w1 j hj).2.2.2.2.2.2.1)
            rw [t1, t2]
            simp only [obs]
            exact ⟨_, _, rfl, rfl, rfl, hI⟩
          · simp only [if_neg h4]
            exact ⟨_, _, rfl, rfl, rfl, hI⟩
      · simp only [if_neg h2]
        rcases rank_cases p2 hk6 with ⟨j, hj, rfl, c1⟩ | ⟨hor, c1⟩
        · obtain ⟨hG1, -, -, -, -, ri, ci, w1, -⟩ := hS
          obtain ⟨z1, z2, z3, z4, z5, z6, z7, z8, -⟩ := w1 j hj
          have hx := lt42 (show ri j < 6 by omega) (show ci j < 7 by omega)
          obtain ⟨g1, g2, -⟩ := hG1 (ri j) (ci j) z1 (by omega)
          rw [pivNum_ok hj hk6 (by omega) (by omega) p3 z3 z5, c1]
          simp only [obs, if_neg one0, inB_ok (n := 6) (i := j) (by omega) (by omega), nI_clamp (n := j) (by omega), z4, z6, cell_ok, inB_ok (n := 42) (i := 7 * ri j + ci j) hx (by omega), nI_clamp (n := 7 * ri j + ci j) (by omega), g1, g2, ← z7, ← z8]
          by_cases q0 : p3 = 0
          · simp only [if_pos q0]
            exact ⟨_, _, rfl, rfl, rfl, hI⟩
          simp only [if_neg q0]
          by_cases q1 : p3 = 1
          · simp only [if_pos q1]
            exact ⟨_, _, rfl, rfl, rfl, hI⟩
          simp only [if_neg q1]
          by_cases q2 : p3 = 2
          · simp only [if_pos q2]
            exact ⟨_, _, rfl, rfl, rfl, hI⟩
          simp only [if_neg q2]
          by_cases q3 : p3 = 3
          · simp only [if_pos q3]
            exact ⟨_, _, rfl, rfl, rfl, hI⟩
          simp only [if_neg q3]
          by_cases q4 : p3 = 4
          · simp only [if_pos q4]
            exact ⟨_, _, rfl, rfl, rfl, hI⟩
          simp only [if_neg q4]
          by_cases q5 : p3 = 5
          · simp only [if_pos q5]
            exact ⟨_, _, rfl, rfl, rfl, hI⟩
          simp only [if_neg q5]
          exact ⟨_, _, rfl, rfl, rfl, hI⟩
        · rw [pivNum_no hor, c1]
          simp only [obs, ↓reduceIte]
          exact ⟨_, _, rfl, rfl, rfl, hI⟩
  · rw [a1, a2]
    simp only [obs, ↓reduceIte]
    exact ⟨_, _, rfl, rfl, rfl, hI⟩
