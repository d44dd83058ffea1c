/-! What is read off an elimination: fills, kinds, free columns; the methods that do. -/
theorem inv_begin {rows columns : Int32} {lower upper all : Nat → Int32} (h : matAt rows columns lower upper all 0) (ycl ycu : Nat → Int32) : ∃ R C cl' cu', 1 ≤ R ∧ R ≤ 6 ∧ 1 ≤ C ∧ C ≤ 6 ∧ rows = nI R ∧ columns = nI C ∧ fX11_begins 0 all ycl ycu = some (nI R, nI C, 0, 0, cl', cu') ∧ eqG R C upper lower cu' cl' := by
  obtain ⟨e1, e2, ⟨hr1, hr6⟩, ⟨hc1, hc6⟩, hcell⟩ := h
  obtain ⟨R, hR1, hR6, rfl⟩ := dim_ok hr1 hr6
  obtain ⟨C, hC1, hC6, rfl⟩ := dim_ok hc1 hc6
  obtain ⟨cl', cu', hb, hcc⟩ := begins_ok (b := 0) (by omega) all ycl ycu
  refine ⟨R, C, cl', cu', hR1, hR6, hC1, hC6, rfl, rfl, ?_, fun r c hr hc => ?_⟩
  · rw [show (0 : Int32) = nI 0 from rfl, hb, ← e1, ← e2]
    rfl
  · have hj := lt42 (show r < 6 by omega) (show c < 7 by omega)
    obtain ⟨q1, q2, q3⟩ := hcell r c (by rw [nI_toInt (by omega)]; omega) (by rw [nI_toInt (by omega)]; omega)
    rw [(hcc _ hj).1, (hcc _ hj).2]
    refine ⟨?_, ?_, q3⟩
    · rw [q1]
    · rw [q2]
theorem fills_loop {k : Nat} (hk : k ≤ 6) {fills pF : Nat → Int32} (h : ∀ j, j < k → fills j = pF j) : ∀ (m j fuel fuel' : Nat) (s : Int32), j + m = k → m + 1 ≤ fuel → m + 1 ≤ fuel' → ∃ t, fX7_fillOfAll_4 (nI k) fills fuel s (nI j) = some t ∧ fX11_fills_4 (nI k) pF fuel' s (nI j) = some t := by
  intro m
  induction m with
  | zero =>
    intro j fuel fuel' s hm hf hf'
    obtain ⟨fuel, rfl⟩ : ∃ f, fuel = f + 1 := ⟨fuel - 1, by omega⟩
    obtain ⟨fuel', rfl⟩ : ∃ f, fuel' = f + 1 := ⟨fuel' - 1, by omega⟩
    obtain rfl : j = k := by omega
    exact ⟨s, by rw [fX7_fillOfAll_4_s, if_pos (nI_le (Nat.le_refl _) (by omega))], by rw [fX11_fills_4_s, if_pos (nI_le (Nat.le_refl _) (by omega))]⟩
  | succ m ih =>
    intro j fuel fuel' s hm hf hf'
    obtain ⟨fuel, rfl⟩ : ∃ f, fuel = f + 1 := ⟨fuel - 1, by omega⟩
    obtain ⟨fuel', rfl⟩ : ∃ f, fuel' = f + 1 := ⟨fuel' - 1, by omega⟩
    rw [fX7_fillOfAll_4_s, if_neg (nI_ge (by omega) (by omega)), if_neg (nI_ge6 (by omega)), fX11_fills_4_s, if_neg (nI_ge (by omega) (by omega))]
    simp only [inB_ok (n := 6) (i := j) (by omega) (by omega), nI_clamp (n := j) (by omega), lt_def, ← nI_succ, h j (by omega)]
    exact ih (j + 1) _ _ _ (by omega) (by omega) (by omega)
theorem fills_ok {k : Nat} (hk : k ≤ 6) {fills pF : Nat → Int32} (h : ∀ j, j < k → fills j = pF j) : ∃ t, fX7_fillOfAll (nI k) fills = some t ∧ fX11_fills (nI k) pF = some t :=
  fills_loop hk h k 0 fuelN fuelN 0 (by omega) (by unfold fuelN; omega) (by unfold fuelN; omega)
theorem pivotOf_loop {k : Nat} (hk : k ≤ 6) (p : Int32) (pC : Nat → Int32) : ∀ (m j fuel : Nat), j + m = k → m + 1 ≤ fuel → (∀ i, i < j → ¬ pC i = p) → (fX11_pivotOf_2 p (nI k) pC fuel (nI j) = some (-1) ∧ ∀ i, i < k → ¬ pC i = p) ∨ ∃ i, i < k ∧ pC i = p ∧ fX11_pivotOf_2 p (nI k) pC fuel (nI j) = some (nI i) := by
  intro m
  induction m with
  | zero =>
    intro j fuel hm hf h
    obtain ⟨fuel, rfl⟩ : ∃ f, fuel = f + 1 := ⟨fuel - 1, by omega⟩
    obtain rfl : j = k := by omega
    left
    exact ⟨by rw [fX11_pivotOf_2_s, if_pos (nI_le (Nat.le_refl _) (by omega))], h⟩
  | succ m ih =>
    intro j fuel hm hf h
    obtain ⟨fuel, rfl⟩ : ∃ f, fuel = f + 1 := ⟨fuel - 1, by omega⟩
    rw [fX11_pivotOf_2_s, if_neg (nI_ge (by omega) (by omega)), inB_ok (by omega) (by omega), nI_clamp (by omega), ← nI_succ]
    by_cases e : pC j = p
    · rw [if_pos e]
      right
      exact ⟨j, by omega, e, rfl⟩
    · rw [if_neg e]
      exact ih (j + 1) fuel (by omega) (by omega) (fun i hi => by
        by_cases e2 : i = j
        · subst e2; exact e
        · exact h i (by omega))
theorem pivotOf_ok {k : Nat} (hk : k ≤ 6) (p : Int32) (pC : Nat → Int32) : (fX11_pivotOf p (nI k) pC = some (-1) ∧ ∀ i, i < k → ¬ pC i = p) ∨ ∃ i, i < k ∧ pC i = p ∧ fX11_pivotOf p (nI k) pC = some (nI i) :=
  pivotOf_loop hk p pC k 0 fuelN (by omega) (by unfold fuelN; omega) (fun i hi => by omega)
/-- free, or a pivot's column -/
theorem SW_free {R C k mr mc c : Nat} {U L pRows pCols fills weights cu cl lr lc pR pC pF pW : Nat → Int32} (hk : k ≤ 6) (hC : C ≤ 6) (h : SW R C k mr mc U L pRows pCols fills weights cu cl lr lc pR pC pF pW) (hc : c < C) : (¬ lc c = 0 ∧ fX11_pivotOf (nI c) (nI k) pC = some (-1)) ∨ (lc c = 0 ∧ ∃ i, i < k ∧ pC i = nI c ∧ fX11_pivotOf (nI c) (nI k) pC = some (nI i)) := by
  obtain ⟨-, -, -, -, -, ri, ci, a1, a2, a3, a4, a5⟩ := h
  rcases pivotOf_ok hk (nI c) pC with ⟨q1, q2⟩ | ⟨i, hi, q1, q2⟩
  · left
    refine ⟨fun h0 => ?_, q1⟩
    obtain ⟨j, hj, e⟩ := a3 c hc h0
    refine q2 j hj ?_
    rw [(a1 j hj).2.2.2.2.2.1, e]
  · right
    refine ⟨?_, i, hi, q1, q2⟩
    obtain ⟨-, z1, -, -, -, z2, -, -, -, -, z3⟩ := a1 i hi
    rw [z2] at q1
    rw [← (nI_eq (by omega) (by omega)).mp q1]
    exact z3
theorem SW_row {R C k mr mc r : Nat} {U L pRows pCols fills weights cu cl lr lc pR pC pF pW : Nat → Int32} (hR : R ≤ 6) (h : SW R C k mr mc U L pRows pCols fills weights cu cl lr lc pR pC pF pW) (hr : r < R) : lr r = 0 ↔ ∃ j, j < k ∧ pR j = nI r := by
  obtain ⟨-, -, -, -, -, ri, ci, a1, a2, a3, a4, a5⟩ := h
  constructor
  · intro h0
    obtain ⟨j, hj, e⟩ := a2 r hr h0
    exact ⟨j, hj, by rw [(a1 j hj).2.2.2.1, e]⟩
  · intro ⟨j, hj, e⟩
    obtain ⟨z1, -, -, z2, -, -, -, -, -, z3, -⟩ := a1 j hj
    rw [z2] at e
    rw [← (nI_eq (by omega) (by omega)).mp e]
    exact z3
theorem kind_in {k C r : Nat} (hk : k ≤ 6) (cu pR : Nat → Int32) (rec : Int32 → Option Int32) : ∀ (m j fuel : Nat) (has : Int32), j + m = k → m + 1 ≤ fuel → (has = 0 ∨ has = 1) → (has = 1 ↔ ∃ i, i < j ∧ pR i = nI r) → ∃ has', (has' = 0 ∨ has' = 1) ∧ (has' = 1 ↔ ∃ i, i < k ∧ pR i = nI r) ∧ fX11_kindNow_14 (nI C) (nI k) cu pR (nI r) rec fuel has (nI j) = fX11_kindNow_48 (nI C) cu (nI r) rec has' := by
  intro m
  induction m with
  | zero =>
    intro j fuel has hm hf h01 h
    obtain ⟨fuel, rfl⟩ : ∃ f, fuel = f + 1 := ⟨fuel - 1, by omega⟩
    obtain rfl : j = k := by omega
    exact ⟨has, h01, h, by rw [fX11_kindNow_14_s, if_pos (nI_le (Nat.le_refl _) (by omega))]⟩
  | succ m ih =>
    intro j fuel has hm hf h01 h
    obtain ⟨fuel, rfl⟩ : ∃ f, fuel = f + 1 := ⟨fuel - 1, by omega⟩
    rw [fX11_kindNow_14_s, if_neg (nI_ge (by omega) (by omega)), inB_ok (by omega) (by omega), nI_clamp (by omega), ← nI_succ]
    rcases h01 with rfl | rfl
    · rw [if_pos rfl]
      have hno : ¬ ∃ i, i < j ∧ pR i = nI r := fun q => absurd (h.mpr q) (by decide)
      by_cases e : pR j = nI r
      · rw [if_pos e]
        exact ih (j + 1) fuel 1 (by omega) (by omega) (Or.inr rfl) ⟨fun _ => ⟨j, by omega, e⟩, fun _ => rfl⟩
      · rw [if_neg e]
        refine ih (j + 1) fuel 0 (by omega) (by omega) (Or.inl rfl) ⟨fun q => absurd q (by decide), fun ⟨i, hi, q⟩ => ?_⟩
        by_cases e2 : i = j
        · subst e2; exact absurd q e
        · exact absurd ⟨i, by omega, q⟩ hno
    · rw [if_neg one0]
      obtain ⟨i, hi, q⟩ := h.mp rfl
      exact ih (j + 1) fuel 1 (by omega) (by omega) (Or.inr rfl) ⟨fun _ => ⟨i, by omega, q⟩, fun _ => rfl⟩
theorem kind_out {R C k mr mc : Nat} {U L pRows pCols fills weights cu cl lr lc pR pC pF pW : Nat → Int32} (hk : k ≤ 6) (hR : R ≤ 6) (hC : C ≤ 6) (h : SW R C k mr mc U L pRows pCols fills weights cu cl lr lc pR pC pF pW) : ∀ (m r fuel : Nat), r + m = R → m + 1 ≤ fuel → (∀ i, i < r → lr i = 0 ∨ U (7 * i + C) = 0) → ((∃ i, i < R ∧ ¬ lr i = 0 ∧ ¬ U (7 * i + C) = 0) ∧ fX11_kindNow_2 (nI R) (nI C) (nI k) cu pR fuel (nI r) = some 0) ∨ ((∀ i, i < R → lr i = 0 ∨ U (7 * i + C) = 0) ∧ fX11_kindNow_2 (nI R) (nI C) (nI k) cu pR fuel (nI r) = some (if k = C then 1 else 2)) := by
  intro m
  induction m with
  | zero =>
    intro r fuel hm hf hb
    obtain ⟨fuel, rfl⟩ : ∃ f, fuel = f + 1 := ⟨fuel - 1, by omega⟩
    obtain rfl : r = R := by omega
    right
    refine ⟨hb, ?_⟩
    rw [fX11_kindNow_2_s, if_pos (nI_le (Nat.le_refl _) (by omega))]
    unfold fX11_kindNow_76
    by_cases e : k = C
    · rw [if_pos (by rw [e]), if_pos e]
    · rw [if_neg (fun q => e ((nI_eq (by omega) (by omega)).mp q)), if_neg e]
  | succ m ih =>
    intro r fuel hm hf hb
    obtain ⟨fuel, rfl⟩ : ∃ f, fuel = f + 1 := ⟨fuel - 1, by omega⟩
    have hrc := lt42 (show r < 6 by omega) (show C < 7 by omega)
    obtain ⟨has', h01, hh, q⟩ := kind_in hk (C := C) (r := r) cu pR (fX11_kindNow_2 (nI R) (nI C) (nI k) cu pR fuel) k 0 fuelN 0 (by omega) (by unfold fuelN; omega) (Or.inl rfl) ⟨fun q => absurd q (by decide), fun ⟨i, hi, _⟩ => by omega⟩
    rw [fX11_kindNow_2_s, if_neg (nI_ge (by omega) (by omega))]
    rw [show nI 0 = 0 from rfl] at q
    rw [q]
    unfold fX11_kindNow_48
    have hrow := SW_row hR h (show r < R by omega)
    rcases h01 with rfl | rfl
    · rw [if_pos rfl, cell_ok]
      simp only [Option.bind_some, inB_ok (n := 42) hrc (by omega), nI_clamp (n := 7 * r + C) (by omega), (h.1 r C (by omega) (Nat.le_refl _)).1, ← nI_succ]
      have hl : ¬ lr r = 0 := fun e => absurd (hh.mpr (hrow.mp e)) (by decide)
      by_cases e : U (7 * r + C) = 0
      · rw [if_pos e]
        refine ih (r + 1) fuel (by omega) (by omega) (fun i hi => ?_)
        by_cases e2 : i = r
        · subst e2; exact Or.inr e
        · exact hb i (by omega)
      · rw [if_neg e]
        left
        exact ⟨⟨r, by omega, hl, e⟩, rfl⟩
    · rw [if_neg one0, ← nI_succ]
      refine ih (r + 1) fuel (by omega) (by omega) (fun i hi => ?_)
      by_cases e2 : i = r
      · subst e2; exact Or.inl (hrow.mpr (hh.mp rfl))
      · exact hb i (by omega)
theorem bits_eq {m n : Nat} {lv : Nat → Int32} (h : liveAt m n lv) (hn : n ≤ 6) : m = bN (lvB lv) n := by
  apply Nat.eq_of_testBit_eq
  intro i
  rw [bN_bit]
  by_cases e : i < 6
  · exact h.2 i e
  · have : m.testBit i = false := Nat.testBit_lt_two_pow (Nat.lt_of_lt_of_le h.1 (Nat.pow_le_pow_right (n := 2) (by omega) (show 6 ≤ i by omega)))
    rw [this]
    simp [show ¬ i < n by omega]
theorem bN_0 (f : Nat → Bool) (n : Nat) : bN f n = 0 ↔ ∀ i, i < n → f i = false := by
  constructor
  · intro h i hi
    have := bN_bit f i n
    rw [h, Nat.zero_testBit] at this
    simpa [hi] using this.symm
  · intro h
    apply Nat.eq_of_testBit_eq
    intro i
    rw [bN_bit, Nat.zero_testBit]
    by_cases e : i < n
    · rw [h i e]; simp
    · simp [e]
theorem nI_z {a : Nat} (h : a < 2 ^ 31) : nI a = 0 ↔ a = 0 := nI_eq (b := 0) h (by omega)
theorem kind_ok {R C k mr mc : Nat} {U L pRows pCols fills weights cu cl lr lc pR pC pF pW : Nat → Int32} (hk : k ≤ 6) (hR : R ≤ 6) (hC : C ≤ 6) (h : SW R C k mr mc U L pRows pCols fills weights cu cl lr lc pR pC pF pW) : ∃ x, (x = 0 ∨ x = 1 ∨ x = 2) ∧ fX7_kindFound 0 (nI mr) (nI mc) (nI R) (nI C) U = some x ∧ fX11_kindNow (nI R) (nI C) (nI k) cu pR = some x := by
  have hm := bits_eq h.2.2.1 hC
  have hr := bits_eq h.2.1 hR
  have hb : ∀ f : Nat → Bool, ∀ n, n ≤ 6 → bN f n < 64 := fun f n hn => Nat.lt_of_lt_of_le (bN_lt f n) (Nat.pow_le_pow_right (n := 2) (by omega) hn)
  have hand : nI (bN (fun r => nz U r C) R) &&& nI mr = 0 ↔ ∀ i, i < R → lr i = 0 ∨ U (7 * i + C) = 0 := by
    rw [b_and, nI_z (Nat.lt_of_le_of_lt Nat.and_le_left (Nat.lt_of_lt_of_le (hb _ R hR) (by omega))), hr]
    constructor
    · intro q i hi
      have := congrArg (fun z => Nat.testBit z i) q
      simp only [Nat.testBit_and, bN_bit, Nat.zero_testBit, hi, decide_true, Bool.true_and] at this
      unfold nz lvB at this
      by_cases e : lr i = 0
      · exact Or.inl e
      · right
        simpa [e] using this
    · intro q
      apply Nat.eq_of_testBit_eq
      intro i
      rw [Nat.testBit_and, bN_bit, bN_bit, Nat.zero_testBit]
      by_cases e : i < R
      · rcases q i e with q | q
        · simp [lvB, q]
        · simp [nz, q]
      · simp [e]
  have hcol : nI mc = 0 ↔ k = C := by
    rw [nI_z (Nat.lt_of_lt_of_le h.2.2.1.1 (by omega)), hm, bN_0]
    have hn := h.2.2.2.2.1
    constructor
    · intro q
      have := cN_none C q
      omega
    · intro q
      exact cN_0 C (by omega)
  unfold fX7_kindFound
  rw [if_pos rfl, colBits_ok U (by omega) hR]
  simp only [Option.bind_some]
  rcases kind_out hk hR hC h R 0 fuelN (by omega) (by unfold fuelN; omega) (fun i hi => by omega) with ⟨⟨i, hi, q1, q2⟩, q3⟩ | ⟨q1, q2⟩
  · refine ⟨0, Or.inl rfl, ?_, q3⟩
    rw [if_neg (fun q => (hand.mp q i hi).elim q1 q2)]
  · rw [if_pos (hand.mpr q1)]
    by_cases e : k = C
    · rw [if_pos e] at q2
      exact ⟨1, Or.inr (Or.inl rfl), if_pos (hcol.mpr e), q2⟩
    · rw [if_neg e] at q2
      exact ⟨2, Or.inr (Or.inr rfl), if_neg (fun q => e (hcol.mp q)), q2⟩
theorem pure_kind : Pure_kind := by
  intro x_now_fault x_now_faultPlace x_now_refusal x_now_longRow x_now_longColumn x_now_matrix_rows x_now_matrix_columns x_now_matrix_upper x_now_matrix_lower x_now_tape_length x_now_tape_bytes x_images x_past_size x_past_top x_past_kept x_sweep_brokenRow x_sweep_brokenColumn x_sweep_bestRow x_sweep_bestColumn x_sweep_grid_upper x_sweep_grid_lower x_sweep_grid_sum_upper x_sweep_grid_sum_lower x_sweep_grid_sum_isLong x_sweep_pivotRows x_sweep_pivotColumns x_sweep_fills x_sweep_weights x_sweep_factor_upper x_sweep_factor_lower x_sweep_factor_isLong y_taped y_faultKind y_faultPlace y_undos y_up y_low y_isLong y_brokenRow y_brokenColumn y_filled y_all y_tape y_isImage y_cu y_cl y_pivotRow y_pivotColumn y_pivotFill y_pivotWeight y_liveRow y_liveColumn hI
  obtain ⟨R, C, cl, cu, hR1, hR6, hC1, hC6, rfl, rfl, hb, hG⟩ := inv_begin hI.1 y_cl y_cu
  obtain ⟨k, b, br, bc, mr, mc, b1, b2, fu, fw, fi, fills, L1, su, sl, si, U1, pCols, pRows, weights, up1, lo1, il1, brr, bcc, fd, cl1, cu1, lc1, lr1, pC1, pF1, pR1, pW1, s1, s2, hk6, hsw⟩ := sweep_ok 1 hR6 hC6 hG x_sweep_brokenRow x_sweep_brokenColumn x_sweep_bestRow x_sweep_bestColumn y_brokenRow y_brokenColumn y_filled y_isLong x_sweep_factor_isLong x_sweep_grid_sum_isLong x_sweep_factor_upper x_sweep_factor_lower x_sweep_grid_sum_upper x_sweep_grid_sum_lower y_up y_low x_sweep_fills x_sweep_grid_lower x_sweep_grid_upper x_sweep_pivotColumns x_sweep_pivotRows x_sweep_weights y_liveColumn y_liveRow y_pivotColumn y_pivotFill y_pivotRow y_pivotWeight
  unfold fX10_kind fX11_kind
  rw [s1, hb]
  simp only [Option.bind_some]
  rw [s2]
  simp only [Option.bind_some]
  rcases hsw with ⟨rfl, -, -⟩ | ⟨rfl, hS⟩
  · simp only [fX7_kindFound, if_neg one0, Option.bind_some]
    exact ⟨_, _, rfl, rfl, rfl, hI⟩
  · obtain ⟨x, -, q1, q2⟩ := kind_ok hk6 hR6 hC6 hS
    rw [q1, q2]
    simp only [Option.bind_some, ↓reduceIte]
    exact ⟨_, _, rfl, rfl, rfl, hI⟩
