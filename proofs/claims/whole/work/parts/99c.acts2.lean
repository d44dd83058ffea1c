/-! Acts that may grow too long: scale, add, reduce. -/
theorem null_loop {r C : Nat} (hr : r < 6) (hC : C ≤ 6) (cu : Nat → Int32) : ∀ (m c fuel : Nat), c + m = C + 1 → m + 1 ≤ fuel → (∀ i, i < c → cu (7 * r + i) = 0) → (fX11_isNull_2 (nI r) (nI C) cu fuel (nI c) = some 1 ∧ ∀ i, i < C + 1 → cu (7 * r + i) = 0) ∨ (fX11_isNull_2 (nI r) (nI C) cu fuel (nI c) = some 0 ∧ ∃ i, i < C + 1 ∧ ¬ cu (7 * r + i) = 0) := by
  intro m
  induction m with
  | zero =>
    intro c fuel hm hf h
    obtain ⟨fuel, rfl⟩ : ∃ f, fuel = f + 1 := ⟨fuel - 1, by omega⟩
    obtain rfl : c = C + 1 := by omega
    left
    rw [fX11_isNull_2_s, if_pos (nI_lt (by omega) (by omega))]
    exact ⟨rfl, h⟩
  | succ m ih =>
    intro c fuel hm hf h
    obtain ⟨fuel, rfl⟩ : ∃ f, fuel = f + 1 := ⟨fuel - 1, by omega⟩
    have hx := lt42 hr (show c < 7 by omega)
    rw [fX11_isNull_2_s, if_neg (nI_nlt (by omega) (by omega)), cell_ok]
    simp only [obs, inB_ok (n := 42) hx (by omega), nI_clamp (n := 7 * r + c) (by omega), ← nI_succ]
    by_cases e : cu (7 * r + c) = 0
    · rw [if_pos e]
      refine ih (c + 1) fuel (by omega) (by omega) (fun i hi => ?_)
      by_cases e2 : i = c
      · subst e2; exact e
      · exact h i (by omega)
    · right
      rw [if_neg e]
      exact ⟨rfl, c, by omega, e⟩
theorem null_row {R C r : Nat} (hrR : r < R) (hR : R ≤ 6) (hC : C ≤ 6) {U L cu cl : Nat → Int32} (hG : eqG R C U L cu cl) : (∃ w, fX1_rowBits (nI r) (nI C) U = some w ∧ w = 0 ∧ fX11_isNull (nI r) (nI C) cu = some 1) ∨ (∃ w, fX1_rowBits (nI r) (nI C) U = some w ∧ ¬ w = 0 ∧ fX11_isNull (nI r) (nI C) cu = some 0) := by
  have hl := null_loop (r := r) (by omega) hC cu (C + 1) 0 fuelN (by omega) (by unfold fuelN; omega) (fun i hi => by omega)
  rw [show nI 0 = 0 from rfl] at hl
  have hb := bN128 (nz U r) (n := C + 1) (by omega)
  rcases hl with ⟨q1, q2⟩ | ⟨q1, i, hi, q2⟩
  · left
    refine ⟨_, rowBits_ok U (by omega) hC, ?_, q1⟩
    rw [nI_z (by omega), bN_0]
    intro i hi
    unfold nz
    rw [← (hG r i hrR (by omega)).1, q2 i hi]
    rfl
  · right
    refine ⟨_, rowBits_ok U (by omega) hC, ?_, q1⟩
    rw [nI_z (by omega), bN_0]
    intro h
    have := h i hi
    unfold nz at this
    rw [← (hG r i hrR (by omega)).1] at this
    simp [q2] at this
theorem scale_loop {R C r : Nat} (p3 p4 : Int32) (tb1 : -999 ≤ p3.toInt ∧ p3.toInt ≤ 999) (tb2 : 1 ≤ p4.toInt ∧ p4.toInt ≤ 99) (hr : r < R) (hR : R ≤ 6) (hC : C ≤ 6) {U L : Nat → Int32} (hgood : ∀ r c, r < R → c ≤ C → goodE (U (7 * r + c)) (L (7 * r + c))) (lr lc nr nc brr bcc : Int32) : ∀ (m c fuel fuel' : Nat) (nl nu : Nat → Int32) (vu vl : Int64) (vi : Int32) (up lo : Int64) (il : Int32) (cl cu : Nat → Int32), c + m = C + 1 → m + 1 ≤ fuel → m + 1 ≤ fuel' → eqG R C nu nl cu cl → (∀ i, c ≤ i → i ≤ C → cu (7 * r + i) = U (7 * r + i) ∧ cl (7 * r + i) = L (7 * r + i)) →
    (∃ k nl' nu' vu' vl' vi' up' lo' il' cl' cu', fX0_stretch_50 (nI r) p3 p4 lr lc (nI C) L U nr nc fuel (nI c) nl nu vu vl vi = some (3, nI r, nI k, nr, nc, nl', nu', vu', vl', vi') ∧ fX11_scales_40 (nI r) p3 p4 (nI C) brr bcc 0 fuel' (nI c) up lo il cl cu = some (3, up', lo', il', nI r, nI k, 1, cl', cu')) ∨
    (∃ nl' nu' vu' vl' vi' up' lo' il' cl' cu', eqG R C nu' nl' cu' cl' ∧ fX0_stretch_50 (nI r) p3 p4 lr lc (nI C) L U nr nc fuel (nI c) nl nu vu vl vi = some (0, lr, lc, nr, nc, nl', nu', vu', vl', vi') ∧ fX11_scales_40 (nI r) p3 p4 (nI C) brr bcc 0 fuel' (nI c) up lo il cl cu = some (0, up', lo', il', brr, bcc, 0, cl', cu')) := by
  intro m
  induction m with
  | zero =>
    intro c fuel fuel' nl nu vu vl vi up lo il cl cu hm hf hf' hG hrest
    obtain ⟨fuel, rfl⟩ : ∃ f, fuel = f + 1 := ⟨fuel - 1, by omega⟩
    obtain ⟨fuel', rfl⟩ : ∃ f, fuel' = f + 1 := ⟨fuel' - 1, by omega⟩
    obtain rfl : c = C + 1 := by omega
    right
    rw [fX0_stretch_50_s, if_pos (nI_lt (by omega) (by omega)), fX11_scales_40_s, if_pos (nI_lt (by omega) (by omega))]
    exact ⟨_, _, _, _, _, _, _, _, _, _, hG, rfl, rfl⟩
  | succ m ih =>
    intro c fuel fuel' nl nu vu vl vi up lo il cl cu hm hf hf' hG hrest
    obtain ⟨fuel, rfl⟩ : ∃ f, fuel = f + 1 := ⟨fuel - 1, by omega⟩
    obtain ⟨fuel', rfl⟩ : ∃ f, fuel' = f + 1 := ⟨fuel' - 1, by omega⟩
    have hx := lt42 (show r < 6 by omega) (show c < 7 by omega)
    obtain ⟨e1, e2⟩ := hrest c (Nat.le_refl _) (by omega)
    have g1 := hgood r c hr (by omega)
    rw [fX0_stretch_50_s, if_neg (nI_nlt (by omega) (by omega)), load_ok (by omega) (by omega), fX11_scales_40_s, if_neg (nI_nlt (by omega) (by omega)), cell_ok]
    simp only [obs, inB_ok (n := 42) hx (by omega), nI_clamp (n := 7 * r + c) (by omega), e1, e2, ← nI_succ]
    rcases times2r g1 (V := p3) (M := p4) (by omega) (by omega) (by omega) with ⟨t1, x, y, t2⟩ | ⟨A, B, gA, t1, t2⟩
    · left
      rw [t1, t2]
      simp only [obs, if_neg one0, fX0_stretch_92, fX0_refuseLong, fX11_scales_88, fX11_breaks, ↓reduceIte]
      exact ⟨c, _, _, _, _, _, _, _, _, _, _, rfl, rfl⟩
    · rw [t1, t2]
      simp only [obs, ↓reduceIte]
      rw [put_ok (by omega) (by omega), lays_ok (by omega) (by omega)]
      simp only [obs, i64_32]
      refine ih (c + 1) _ _ _ _ _ _ _ _ _ _ _ _ (by omega) (by omega) (by omega) (eqG_put hG _ gA) (fun i h1 h2 => ?_)
      rw [pk_un (by omega), pk_un (by omega)]
      exact hrest i (by omega) h2
theorem stretch_ok {R C : Nat} (hR1 : 1 ≤ R) (hR6 : R ≤ 6) (hC6 : C ≤ 6) {U L cu cl : Nat → Int32} (hG : eqG R C U L cu cl) (p1 p3 p4 lr lc nr nc : Int32) (nl nu : Nat → Int32) (vu vl : Int64) (vi : Int32) (up lo : Int64) (il brr bcc : Int32) : ∃ u v, fX0_stretch p1 p3 p4 lr lc nr nc nl nu vu vl vi (nI R) (nI C) L U = some u ∧ fX11_scales p1 p3 p4 up lo il (nI R) (nI C) brr bcc 0 cl cu = some v ∧ v.1 = u.1 ∧ act4 u.1 ∧ (u.1 = 0 → u.2.2.2.1 = nI R ∧ u.2.2.2.2.1 = nI C ∧ eqG R C u.2.2.2.2.2.2.1 u.2.2.2.2.2.1 v.2.2.2.2.2.2.2.2 v.2.2.2.2.2.2.2.1) ∧ (u.1 = 3 → u.2.1 = v.2.2.2.2.1 ∧ u.2.2.1 = v.2.2.2.2.2.1) := by
  unfold fX0_stretch fX11_scales
  rcases row_cases p1 hR1 hR6 with ⟨r, hr, rfl, a1, a2⟩ | ⟨a1, a2⟩
  · rcases told_cases p3 p4 with ⟨t1, t2, tb1, tb2⟩ | ⟨t1, t2⟩
    · rw [a1, a2]
      simp only [obs, if_neg one0]
      rw [t1, t2]
      simp only [obs, if_neg one0]
      by_cases h1 : p3 = 0
      · rw [if_pos h1, if_pos h1]
        exact ⟨_, _, rfl, rfl, rfl, Or.inr (Or.inr (Or.inl rfl)), fun q => absurd (show (2 : Int32) = 0 from q) (by decide), fun q => absurd (show (2 : Int32) = 3 from q) (by decide)⟩
      rw [if_neg h1, if_neg h1]
      by_cases h2 : p3 = p4
      · rw [if_pos h2, if_pos h2]
        exact ⟨_, _, rfl, rfl, rfl, Or.inr (Or.inr (Or.inl rfl)), fun q => absurd (show (2 : Int32) = 0 from q) (by decide), fun q => absurd (show (2 : Int32) = 3 from q) (by decide)⟩
      rw [if_neg h2, if_neg h2]
      rcases null_row hr hR6 hC6 hG with ⟨w, w1, w2, w3⟩ | ⟨w, w1, w2, w3⟩
      · rw [w1, w3]
        simp only [obs, if_pos w2, if_neg one0]
        exact ⟨_, _, rfl, rfl, rfl, Or.inr (Or.inr (Or.inl rfl)), fun q => absurd (show (2 : Int32) = 0 from q) (by decide), fun q => absurd (show (2 : Int32) = 3 from q) (by decide)⟩
      · obtain ⟨L', U', hcp, hcc⟩ := copy_ok nl nu (nI R) (nI C) L U
        rw [w1, w3]
        simp only [obs, if_neg w2, ↓reduceIte]
        rw [hcp]
        simp only [obs]
        have hl := scale_loop p3 p4 tb1 tb2 hr hR6 hC6 (fun r c hr hc => (hG r c hr hc).2.2) lr lc (nI R) (nI C) brr bcc (C + 1) 0 fuelN fuelN L' U' vu vl vi up lo il cl cu (by omega) (by unfold fuelN; omega) (by unfold fuelN; omega) (eqG_copy hR6 hC6 hG hcc) (fun i _ hi => ⟨(hG r i hr hi).1, (hG r i hr hi).2.1⟩)
        rw [show nI 0 = 0 from rfl] at hl
        rcases hl with ⟨k, nl', nu', vu', vl', vi', up', lo', il', cl', cu', l1, l2⟩ | ⟨nl', nu', vu', vl', vi', up', lo', il', cl', cu', hG', l1, l2⟩
        · rw [l1, l2]
          exact ⟨_, _, rfl, rfl, rfl, Or.inr (Or.inr (Or.inr rfl)), fun q => absurd (show (3 : Int32) = 0 from q) (by decide), fun _ => ⟨rfl, rfl⟩⟩
        · rw [l1, l2]
          exact ⟨_, _, rfl, rfl, rfl, Or.inl rfl, fun _ => ⟨rfl, rfl, hG'⟩, fun q => absurd (show (0 : Int32) = 3 from q) (by decide)⟩
    · rw [a1, a2]
      simp only [obs, if_neg one0]
      rw [t1, t2]
      simp only [obs, ↓reduceIte]
      exact ⟨_, _, rfl, rfl, rfl, Or.inr (Or.inl rfl), fun q => absurd (show (1 : Int32) = 0 from q) (by decide), fun q => absurd (show (1 : Int32) = 3 from q) (by decide)⟩
  · rw [a1, a2]
    simp only [obs, ↓reduceIte]
    exact ⟨_, _, rfl, rfl, rfl, Or.inr (Or.inl rfl), fun q => absurd (show (1 : Int32) = 0 from q) (by decide), fun q => absurd (show (1 : Int32) = 3 from q) (by decide)⟩
theorem pure_scale : Pure_scale := by
  intro zf hzf p1 p2 p3 x_now_fault x_now_faultPlace x_now_refusal x_now_longRow x_now_longColumn x_now_matrix_rows x_now_matrix_columns x_now_matrix_upper x_now_matrix_lower x_now_tape_length x_now_tape_bytes x_images x_past_size x_past_top x_past_kept x_acts_longRow x_acts_longColumn x_acts_next_rows x_acts_next_columns x_acts_next_upper x_acts_next_lower x_acts_value_upper x_acts_value_lower x_acts_value_isLong y_taped y_faultKind y_faultPlace y_undos y_up y_low y_isLong y_brokenRow y_brokenColumn y_all y_tape y_isImage y_cu y_cl hI
  obtain ⟨R, C, cl, cu, hR1, hR6, hC1, hC6, rfl, rfl, hb, hG⟩ := inv_begin hI.1 y_cl y_cu
  obtain ⟨u, v, t1, t2, t3, t4, t5, t6⟩ := stretch_ok hR1 hR6 hC6 hG p1 p2 p3 x_acts_longRow x_acts_longColumn x_acts_next_rows x_acts_next_columns x_acts_next_lower x_acts_next_upper x_acts_value_upper x_acts_value_lower x_acts_value_isLong y_up y_low y_isLong y_brokenRow y_brokenColumn
  unfold fX10_scale fX11_scale
  rw [t1, hb]
  simp only [obs]
  rw [t2]
  simp only [obs]
  rw [t3]
  obtain ⟨u2, v2, c1, c2, c3, c4⟩ := concl_ok hR6 hC6 hI t4 u.2.1 u.2.2.1 u.2.2.2.1 u.2.2.2.2.1 u.2.2.2.2.2.1 u.2.2.2.2.2.2.1 v.2.2.2.2.2.2.2.1 v.2.2.2.2.2.2.2.2 v.2.2.2.2.1 v.2.2.2.2.2.1 t5 t6 zf
  rw [c1, c2]
  simp only [obs]
  exact ⟨_, _, rfl, rfl, c3, c4⟩
theorem addRow_ok {R C : Nat} (hR1 : 1 ≤ R) (hR6 : R ≤ 6) (hC6 : C ≤ 6) {U L cu cl : Nat → Int32} (hG : eqG R C U L cu cl) (p1 p2 p3 p4 lr lc nr nc : Int32) (nl : Nat → Int32) (su sl : Int64) (si : Int32) (nu : Nat → Int32) (vu vl : Int64) (vi : Int32) (up lo : Int64) (il brr bcc fd : Int32) : ∃ u v, fX0_addRow p1 p2 p3 p4 lr lc nr nc nl su sl si nu vu vl vi (nI R) (nI C) L U = some u ∧ fX11_addsTo p1 p2 p3 p4 up lo il (nI R) (nI C) brr bcc 0 fd cl cu = some v ∧ v.1 = u.1 ∧ act4 u.1 ∧ (u.1 = 0 → u.2.2.2.1 = nI R ∧ u.2.2.2.2.1 = nI C ∧ eqG R C u.2.2.2.2.2.2.2.2.2.1 u.2.2.2.2.2.1 v.2.2.2.2.2.2.2.2.2 v.2.2.2.2.2.2.2.2.1) ∧ (u.1 = 3 → u.2.1 = v.2.2.2.2.1 ∧ u.2.2.1 = v.2.2.2.2.2.1) := by
  unfold fX0_addRow fX11_addsTo
  rcases row_cases p1 hR1 hR6 with ⟨r, hr, rfl, a1, a2⟩ | ⟨a1, a2⟩
  · rcases row_cases p2 hR1 hR6 with ⟨o, ho, rfl, b1, b2⟩ | ⟨b1, b2⟩
    · rcases told_cases p3 p4 with ⟨t1, t2, tb1, tb2⟩ | ⟨t1, t2⟩
      · rw [a1, a2]
        simp only [obs, if_neg one0]
        rw [b1, b2]
        simp only [obs, if_neg one0]
        rw [t1, t2]
        simp only [obs, if_neg one0]
        by_cases h1 : nI r = nI o
        · rw [if_pos h1, if_pos h1]
          exact ⟨_, _, rfl, rfl, rfl, Or.inr (Or.inr (Or.inl rfl)), fun q => absurd (show (2 : Int32) = 0 from q) (by decide), fun q => absurd (show (2 : Int32) = 3 from q) (by decide)⟩
        rw [if_neg h1, if_neg h1]
        by_cases h2 : p3 = 0
        · rw [if_pos h2, if_pos h2]
          exact ⟨_, _, rfl, rfl, rfl, Or.inr (Or.inr (Or.inl rfl)), fun q => absurd (show (2 : Int32) = 0 from q) (by decide), fun q => absurd (show (2 : Int32) = 3 from q) (by decide)⟩
        rw [if_neg h2, if_neg h2]
        rcases null_row ho hR6 hC6 hG with ⟨w, w1, w2, w3⟩ | ⟨w, w1, w2, w3⟩
        · rw [w1, w3]
          simp only [obs, if_pos w2, if_neg one0]
          exact ⟨_, _, rfl, rfl, rfl, Or.inr (Or.inr (Or.inl rfl)), fun q => absurd (show (2 : Int32) = 0 from q) (by decide), fun q => absurd (show (2 : Int32) = 3 from q) (by decide)⟩
        · obtain ⟨L', U', hcp, hcc⟩ := copy_ok nl nu (nI R) (nI C) L U
          obtain ⟨A, B, hg, st, cm⟩ := told_start tb1 tb2
          rw [w1, w3]
          simp only [obs, if_neg w2, ↓reduceIte]
          rw [hcp, cm]
          simp only [obs]
          rw [st]
          simp only [obs]
          unfold fX1_addTimes fX11_adds
          have hl := adds_loop hR6 hr ho hC6 hg U' L' brr bcc fd (C + 1) 0 fuelN fuelN U' L' cu cl su sl A.toInt64 B.toInt64 si 0 (by omega) (by unfold fuelN; omega) (by unfold fuelN; omega) (eqG_copy hR6 hC6 hG hcc) (fun j _ => ⟨rfl, rfl⟩)
          rw [show cN (fl U' U' r) (min 0 C) = 0 from by rw [Nat.min_eq_left (by omega)]; rfl, show fd + nI 0 = fd from Int32.add_zero fd] at hl
          rw [show nI 0 = 0 from rfl] at hl
          rcases hl with ⟨k, su', sl', si', U2, L2, up', lo', il', fl', cu', cl', hk, l1, l2⟩ | ⟨su', sl', si', U2, L2, up', lo', il', cu', cl', l1, l2, hG', -⟩
          · rw [l1, l2]
            simp only [obs, ltp, if_neg (neg1 (n := k) (by omega)), if_neg one0, fX0_refuseLong]
            exact ⟨_, _, rfl, rfl, rfl, Or.inr (Or.inr (Or.inr rfl)), fun q => absurd (show (3 : Int32) = 0 from q) (by decide), fun _ => ⟨rfl, rfl⟩⟩
          · rw [l1, l2]
            simp only [obs, ltp, ↓reduceIte]
            exact ⟨_, _, rfl, rfl, rfl, Or.inl rfl, fun _ => ⟨rfl, rfl, hG'⟩, fun q => absurd (show (0 : Int32) = 3 from q) (by decide)⟩
      · rw [a1, a2]
        simp only [obs, if_neg one0]
        rw [b1, b2]
        simp only [obs, if_neg one0]
        rw [t1, t2]
        simp only [obs, ↓reduceIte]
        exact ⟨_, _, rfl, rfl, rfl, Or.inr (Or.inl rfl), fun q => absurd (show (1 : Int32) = 0 from q) (by decide), fun q => absurd (show (1 : Int32) = 3 from q) (by decide)⟩
    · rw [a1, a2]
      simp only [obs, if_neg one0]
      rw [b1, b2]
      simp only [obs, ↓reduceIte]
      exact ⟨_, _, rfl, rfl, rfl, Or.inr (Or.inl rfl), fun q => absurd (show (1 : Int32) = 0 from q) (by decide), fun q => absurd (show (1 : Int32) = 3 from q) (by decide)⟩
  · rw [a1, a2]
    simp only [obs, ↓reduceIte]
    exact ⟨_, _, rfl, rfl, rfl, Or.inr (Or.inl rfl), fun q => absurd (show (1 : Int32) = 0 from q) (by decide), fun q => absurd (show (1 : Int32) = 3 from q) (by decide)⟩
theorem pure_add : Pure_add := by
  intro zf hzf p1 p2 p3 p4 x_now_fault x_now_faultPlace x_now_refusal x_now_longRow x_now_longColumn x_now_matrix_rows x_now_matrix_columns x_now_matrix_upper x_now_matrix_lower x_now_tape_length x_now_tape_bytes x_images x_past_size x_past_top x_past_kept x_acts_longRow x_acts_longColumn x_acts_next_rows x_acts_next_columns x_acts_next_upper x_acts_next_lower x_acts_next_sum_upper x_acts_next_sum_lower x_acts_next_sum_isLong x_acts_value_upper x_acts_value_lower x_acts_value_isLong y_taped y_faultKind y_faultPlace y_undos y_up y_low y_isLong y_brokenRow y_brokenColumn y_filled y_all y_tape y_isImage y_cu y_cl hI
  obtain ⟨R, C, cl, cu, hR1, hR6, hC1, hC6, rfl, rfl, hb, hG⟩ := inv_begin hI.1 y_cl y_cu
  obtain ⟨u, v, t1, t2, t3, t4, t5, t6⟩ := addRow_ok hR1 hR6 hC6 hG p1 p2 p3 p4 x_acts_longRow x_acts_longColumn x_acts_next_rows x_acts_next_columns x_acts_next_lower x_acts_next_sum_upper x_acts_next_sum_lower x_acts_next_sum_isLong x_acts_next_upper x_acts_value_upper x_acts_value_lower x_acts_value_isLong y_up y_low y_isLong y_brokenRow y_brokenColumn y_filled
  unfold fX10_add fX11_add
  rw [t1, hb]
  simp only [obs]
  rw [t2]
  simp only [obs]
  rw [t3]
  obtain ⟨u2, v2, c1, c2, c3, c4⟩ := concl_ok hR6 hC6 hI t4 u.2.1 u.2.2.1 u.2.2.2.1 u.2.2.2.2.1 u.2.2.2.2.2.1 u.2.2.2.2.2.2.2.2.2.1 v.2.2.2.2.2.2.2.2.1 v.2.2.2.2.2.2.2.2.2 v.2.2.2.2.1 v.2.2.2.2.2.1 t5 t6 zf
  rw [c1, c2]
  simp only [obs]
  exact ⟨_, _, rfl, rfl, c3, c4⟩
theorem red_in {R C r b : Nat} (hr : r < R) (hR : R ≤ 6) (hC : C ≤ 6) (hb : b + 86 ≤ 3371) {all U L : Nat → Int32} (hall : ∀ r c, r < R → c ≤ C → all (b + 2 + (7 * r + c)) = U (7 * r + c) ∧ all (b + 44 + (7 * r + c)) = L (7 * r + c)) (up lo : Int64) (il rk brr bcc isB fd : Int32) (cl cu lc lr pC pF pR pW : Nat → Int32) (rec : Int32 → Option (Int32 × Int64 × Int64 × Int32 × Int32 × Int32 × Int32 × Int32 × Int32 × (Nat → Int32) × (Nat → Int32) × (Nat → Int32) × (Nat → Int32) × (Nat → Int32) × (Nat → Int32) × (Nat → Int32) × (Nat → Int32))) : ∀ (m c fuel : Nat), c + m = C + 1 → m + 1 ≤ fuel → (∀ i, i < c → cu (7 * r + i) = U (7 * r + i) ∧ cl (7 * r + i) = L (7 * r + i)) → ((∀ i, i ≤ C → cu (7 * r + i) = U (7 * r + i) ∧ cl (7 * r + i) = L (7 * r + i)) ∧ fX11_reduces_37 (nI C) (nI b) all (nI r) up lo il rk brr bcc isB fd cl cu lc lr pC pF pR pW rec fuel (nI c) = rec (nI (r + 1))) ∨ (¬ allEq R C cu cl U L ∧ fX11_reduces_37 (nI C) (nI b) all (nI r) up lo il rk brr bcc isB fd cl cu lc lr pC pF pR pW rec fuel (nI c) = some (0, up, lo, il, rk, brr, bcc, isB, fd, cl, cu, lc, lr, pC, pF, pR, pW)) := by
  intro m
  induction m with
  | zero =>
    intro c fuel hm hf h
    obtain ⟨fuel, rfl⟩ : ∃ f, fuel = f + 1 := ⟨fuel - 1, by omega⟩
    obtain rfl : c = C + 1 := by omega
    left
    rw [fX11_reduces_37_s, if_pos (nI_lt (by omega) (by omega))]
    unfold fX11_reduces_114
    rw [← nI_succ]
    exact ⟨fun i hi => h i (by omega), rfl⟩
  | succ m ih =>
    intro c fuel hm hf h
    obtain ⟨fuel, rfl⟩ : ∃ f, fuel = f + 1 := ⟨fuel - 1, by omega⟩
    have hx := lt42 (show r < 6 by omega) (show c < 7 by omega)
    obtain ⟨a1, a2⟩ := hall r c hr (by omega)
    have e2 : nI b + 2 + nI (7 * r + c) = nI (b + 2 + (7 * r + c)) := nI3 b 2 _
    have e44 : nI b + 44 + nI (7 * r + c) = nI (b + 44 + (7 * r + c)) := nI3 b 44 _
    rw [fX11_reduces_37_s, if_neg (nI_nlt (by omega) (by omega)), cell_ok]
    simp only [obs, e2, e44, inB_ok (n := 42) hx (by omega), nI_clamp (n := 7 * r + c) (by omega), inB_ok (n := 3371) (i := b + 2 + (7 * r + c)) (by omega) (by omega), inB_ok (n := 3371) (i := b + 44 + (7 * r + c)) (by omega) (by omega), nI_clamp (n := b + 2 + (7 * r + c)) (by omega), nI_clamp (n := b + 44 + (7 * r + c)) (by omega), a1, a2, ← nI_succ]
    by_cases h1 : cu (7 * r + c) = U (7 * r + c)
    · rw [if_pos h1]
      by_cases h2 : cl (7 * r + c) = L (7 * r + c)
      · rw [if_pos h2]
        refine ih (c + 1) fuel (by omega) (by omega) (fun i hi => ?_)
        by_cases e : i = c
        · subst e; exact ⟨h1, h2⟩
        · exact h i (by omega)
      · right
        rw [if_neg h2]
        exact ⟨fun q => h2 (q r c hr (by omega)).2, rfl⟩
    · right
      rw [if_neg h1]
      exact ⟨fun q => h1 (q r c hr (by omega)).1, rfl⟩
theorem red_out {R C b : Nat} (hR : R ≤ 6) (hC : C ≤ 6) (hb : b + 86 ≤ 3371) {all U L : Nat → Int32} (hall : ∀ r c, r < R → c ≤ C → all (b + 2 + (7 * r + c)) = U (7 * r + c) ∧ all (b + 44 + (7 * r + c)) = L (7 * r + c)) (up lo : Int64) (il rk brr bcc isB fd : Int32) (cl cu lc lr pC pF pR pW : Nat → Int32) : ∀ (m r fuel : Nat), r + m = R → m + 1 ≤ fuel → (∀ i c, i < r → c ≤ C → cu (7 * i + c) = U (7 * i + c) ∧ cl (7 * i + c) = L (7 * i + c)) → (allEq R C cu cl U L ∧ fX11_reduces_27 (nI R) (nI C) (nI b) all up lo il rk brr bcc isB fd cl cu lc lr pC pF pR pW fuel (nI r) = some (2, up, lo, il, rk, brr, bcc, isB, fd, cl, cu, lc, lr, pC, pF, pR, pW)) ∨ (¬ allEq R C cu cl U L ∧ fX11_reduces_27 (nI R) (nI C) (nI b) all up lo il rk brr bcc isB fd cl cu lc lr pC pF pR pW fuel (nI r) = some (0, up, lo, il, rk, brr, bcc, isB, fd, cl, cu, lc, lr, pC, pF, pR, pW)) := by
  intro m
  induction m with
  | zero =>
    intro r fuel hm hf h
    obtain ⟨fuel, rfl⟩ : ∃ f, fuel = f + 1 := ⟨fuel - 1, by omega⟩
    obtain rfl : r = R := by omega
    left
    rw [fX11_reduces_27_s, if_pos (nI_le (Nat.le_refl _) (by omega))]
    exact ⟨h, rfl⟩
  | succ m ih =>
    intro r fuel hm hf h
    obtain ⟨fuel, rfl⟩ : ∃ f, fuel = f + 1 := ⟨fuel - 1, by omega⟩
    rw [fX11_reduces_27_s, if_neg (nI_ge (by omega) (by omega))]
    have hl := red_in (show r < R by omega) hR hC hb hall up lo il rk brr bcc isB fd cl cu lc lr pC pF pR pW (fX11_reduces_27 (nI R) (nI C) (nI b) all up lo il rk brr bcc isB fd cl cu lc lr pC pF pR pW fuel) (C + 1) 0 fuelN (by omega) (by unfold fuelN; omega) (fun i hi => by omega)
    rw [show nI 0 = 0 from rfl] at hl
    rcases hl with ⟨q1, q2⟩ | ⟨q1, q2⟩
    · rw [q2]
      refine ih (r + 1) fuel (by omega) (by omega) (fun i c hi hc => ?_)
      by_cases e : i = r
      · subst e; exact q1 c hc
      · exact h i c (by omega) hc
    · right
      exact ⟨q1, q2⟩
/-- a reduction by both, the rule being one -/
theorem swept_ok {R C b j : Nat} (hj : j < 3) (hR6 : R ≤ 6) (hC6 : C ≤ 6) (hb : b + 86 ≤ 3371) {all U L cu cl : Nat → Int32} (hG : eqG R C U L cu cl) (hall : ∀ r c, r < R → c ≤ C → all (b + 2 + (7 * r + c)) = U (7 * r + c) ∧ all (b + 44 + (7 * r + c)) = L (7 * r + c)) (br bc b1 b2 : Int32) (fu fw : Int64) (fi : Int32) (fills L0 : Nat → Int32) (su sl : Int64) (si : Int32) (U0 pCols pRows weights : Nat → Int32) (aLR aLC nr nc : Int32) (nl : Nat → Int32) (su2 sl2 : Int64) (si2 : Int32) (nu : Nat → Int32) (up lo : Int64) (il rk brr bcc isB fd : Int32) (lc lr pC pF pR pW : Nat → Int32) :
    ∃ s u v, fX7_run (nI j) br bc b1 b2 fu fw fi fills L0 su sl si U0 pCols pRows weights (nI R) (nI C) L U = some s ∧ fX0_takeSwept aLR aLC nr nc nl su2 sl2 si2 nu L U s.2.1 s.2.2.1 s.2.2.2.1 s.2.2.2.2.2.2.2.2.2.2.2.2.1 s.2.2.2.2.2.2.2.2.2.2.2.2.2.1 s.2.2.2.2.2.2.2.2.2.2.2.2.2.2.1 s.2.2.2.2.2.2.2.2.2.2.2.2.2.2.2.2.2.2.1 = some u ∧ fX11_reduces (nI j) up lo il (nI R) (nI C) rk brr bcc isB fd (nI b) all cl cu lc lr pC pF pR pW = some v ∧ v.1 = u.1 ∧ act4 u.1 ∧ (u.1 = 0 → u.2.2.2.1 = nI R ∧ u.2.2.2.2.1 = nI C ∧ eqG R C u.2.2.2.2.2.2.2.2.2 u.2.2.2.2.2.1 v.2.2.2.2.2.2.2.2.2.2.1 v.2.2.2.2.2.2.2.2.2.1) ∧ (u.1 = 3 → u.2.1 = v.2.2.2.2.2.1 ∧ u.2.2.1 = v.2.2.2.2.2.2.1) := by
  have hrule : fX11_isIn (nI j) 0 2 = some 1 := by
    rcases rule_cases (nI j) with ⟨-, -, -, -, q⟩ | ⟨q, -⟩
    · exact q
    · unfold fX10_isRule at q
      rw [if_neg (nI_pos (by omega)), if_neg (show ¬ (3 : Int32) ≤ nI j from nI_ge (a := j) (b := 3) hj (by omega))] at q
      exact absurd (Option.some.inj q) one0
  obtain ⟨k, b', br', bc', mr', mc', b1', b2', fu', fw', fi', fills', L1, su', sl', si', U1, pCols', pRows', weights', up1, lo1, il1, brr', bcc', fd', cl1, cu1, lc1, lr1, pC1, pF1, pR1, pW1, s1, s2, hk6, hsw⟩ := sweep_ok (nI j) hR6 hC6 hG br bc b1 b2 brr bcc fd il fi si fu fw su sl up lo fills L0 U0 pCols pRows weights lc lr pC pF pR pW
  have hred : fX11_reduces (nI j) up lo il (nI R) (nI C) rk brr bcc isB fd (nI b) all cl cu lc lr pC pF pR pW = if b' = 0 then fX11_reduces_27 (nI R) (nI C) (nI b) all up1 lo1 il1 (nI k) brr' bcc' b' fd' cl1 cu1 lc1 lr1 pC1 pF1 pR1 pW1 fuelN 0 else some (3, up1, lo1, il1, nI k, brr', bcc', b', fd', cl1, cu1, lc1, lr1, pC1, pF1, pR1, pW1) := by
    unfold fX11_reduces
    rw [hrule]
    simp only [obs, if_neg one0]
    rw [s2]
    simp only [obs]
  rcases hsw with ⟨rfl, rfl, rfl⟩ | ⟨rfl, hS⟩
  · have ht : fX0_takeSwept aLR aLC nr nc nl su2 sl2 si2 nu L U 1 br' bc' (nI R) (nI C) L1 U1 = some (3, br', bc', nr, nc, nl, su2, sl2, si2, nu) := by
      unfold fX0_takeSwept fX0_refuseLong
      rw [if_neg one0]
      rfl
    rw [if_neg one0] at hred
    exact ⟨_, _, _, s1, ht, hred, rfl, Or.inr (Or.inr (Or.inr rfl)), fun q => absurd (show (3 : Int32) = 0 from q) (by decide), fun _ => ⟨rfl, rfl⟩⟩
  · rw [if_pos rfl] at hred
    obtain ⟨L', U', hcp, hcc⟩ := copy_ok nl nu (nI R) (nI C) L1 U1
    have hr := red_out hR6 hC6 hb hall up1 lo1 il1 (nI k) brr' bcc' 0 fd' cl1 cu1 lc1 lr1 pC1 pF1 pR1 pW1 R 0 fuelN (by omega) (by unfold fuelN; omega) (fun i c hi => by omega)
    rw [show nI 0 = 0 from rfl] at hr
    have hGe := eqG_copy hR6 hC6 hS.1 hcc
    have iff1 : allEq R C U' L' U L ↔ allEq R C cu1 cl1 U L := by
      constructor
      · intro h r c hr hc
        obtain ⟨x1, x2, -⟩ := hGe r c hr hc
        rw [x1, x2]
        exact h r c hr hc
      · intro h r c hr hc
        obtain ⟨x1, x2, -⟩ := hGe r c hr hc
        rw [← x1, ← x2]
        exact h r c hr hc
    rcases same_ok hR6 hC6 L' U' L U su2 sl2 si2 with ⟨su3, sl3, si3, q1, q2⟩ | ⟨su3, sl3, si3, q1, q2⟩
    · have ht : fX0_takeSwept aLR aLC nr nc nl su2 sl2 si2 nu L U 0 br' bc' (nI R) (nI C) L1 U1 = some (2, aLR, aLC, nI R, nI C, L', su3, sl3, si3, U') := by
        unfold fX0_takeSwept
        rw [if_pos rfl, hcp]
        simp only [obs]
        rw [q2]
        simp only [obs, if_neg one0]
      rcases hr with ⟨-, x⟩ | ⟨x, -⟩
      · rw [x] at hred
        exact ⟨_, _, _, s1, ht, hred, rfl, Or.inr (Or.inr (Or.inl rfl)), fun q => absurd (show (2 : Int32) = 0 from q) (by decide), fun q => absurd (show (2 : Int32) = 3 from q) (by decide)⟩
      · exact absurd (iff1.mp q1) x
    · have ht : fX0_takeSwept aLR aLC nr nc nl su2 sl2 si2 nu L U 0 br' bc' (nI R) (nI C) L1 U1 = some (0, aLR, aLC, nI R, nI C, L', su3, sl3, si3, U') := by
        unfold fX0_takeSwept
        rw [if_pos rfl, hcp]
        simp only [obs]
        rw [q2]
        simp only [obs, ↓reduceIte]
      rcases hr with ⟨x, -⟩ | ⟨-, x⟩
      · exact absurd (iff1.mpr x) q1
      · rw [x] at hred
        exact ⟨_, _, _, s1, ht, hred, rfl, Or.inl rfl, fun _ => ⟨rfl, rfl, hGe⟩, fun q => absurd (show (0 : Int32) = 3 from q) (by decide)⟩
theorem mat_all {rows cols : Int32} {lo up all : Nat → Int32} {b R C : Nat} (hR : R ≤ 6) (hC : C ≤ 6) (h : matAt rows cols lo up all b) (e1 : rows = nI R) (e2 : cols = nI C) : ∀ r c, r < R → c ≤ C → all (b + 2 + (7 * r + c)) = up (7 * r + c) ∧ all (b + 44 + (7 * r + c)) = lo (7 * r + c) := by
  subst e1
  subst e2
  intro r c hr hc
  obtain ⟨q1, q2, -⟩ := h.2.2.2.2 r c (by rw [nI_toInt (by omega)]; omega) (by rw [nI_toInt (by omega)]; omega)
  exact ⟨q1.symm, q2.symm⟩
theorem pure_reduce : Pure_reduce := by
  intro zf hzf p1 x_now_fault x_now_faultPlace x_now_refusal x_now_longRow x_now_longColumn x_now_matrix_rows x_now_matrix_columns x_now_matrix_upper x_now_matrix_lower x_now_tape_length x_now_tape_bytes x_images x_past_size x_past_top x_past_kept x_acts_longRow x_acts_longColumn x_acts_next_rows x_acts_next_columns x_acts_next_upper x_acts_next_lower x_acts_next_sum_upper x_acts_next_sum_lower x_acts_next_sum_isLong x_sweep_rank x_sweep_broken x_sweep_brokenRow x_sweep_brokenColumn x_sweep_liveRows x_sweep_liveColumns x_sweep_bestRow x_sweep_bestColumn x_sweep_grid_rows x_sweep_grid_columns x_sweep_grid_upper x_sweep_grid_lower x_sweep_grid_sum_upper x_sweep_grid_sum_lower x_sweep_grid_sum_isLong x_sweep_pivotRows x_sweep_pivotColumns x_sweep_fills x_sweep_weights x_sweep_factor_upper x_sweep_factor_lower x_sweep_factor_isLong y_taped y_faultKind y_faultPlace y_undos y_up y_low y_isLong y_rank y_brokenRow y_brokenColumn y_filled y_all y_tape y_isImage y_cu y_cl y_pivotRow y_pivotColumn y_pivotFill y_pivotWeight y_liveRow y_liveColumn hI
  obtain ⟨R, C, cl, cu, hR1, hR6, hC1, hC6, rfl, rfl, hb, hG⟩ := inv_begin hI.1 y_cl y_cu
  unfold fX10_reduce fX11_reduce
  rw [hb]
  simp only [obs]
  rcases rule_cases p1 with ⟨j, hj, rfl, a1, a2⟩ | ⟨a1, a2⟩
  · obtain ⟨s, u, v, t1, t2, t3, t4, t5, t6, t7⟩ := swept_ok hj hR6 hC6 (b := 0) (by omega) hG (mat_all hR6 hC6 hI.1 rfl rfl) x_sweep_brokenRow x_sweep_brokenColumn x_sweep_bestRow x_sweep_bestColumn x_sweep_factor_upper x_sweep_factor_lower x_sweep_factor_isLong x_sweep_fills x_sweep_grid_lower x_sweep_grid_sum_upper x_sweep_grid_sum_lower x_sweep_grid_sum_isLong x_sweep_grid_upper x_sweep_pivotColumns x_sweep_pivotRows x_sweep_weights x_acts_longRow x_acts_longColumn x_acts_next_rows x_acts_next_columns x_acts_next_lower x_acts_next_sum_upper x_acts_next_sum_lower x_acts_next_sum_isLong x_acts_next_upper y_up y_low y_isLong y_rank y_brokenRow y_brokenColumn 0 y_filled y_liveColumn y_liveRow y_pivotColumn y_pivotFill y_pivotRow y_pivotWeight
    rw [show nI 0 = 0 from rfl] at t3
    rw [a1, t3]
    simp only [obs, if_neg one0]
    rw [t1]
    simp only [obs]
    rw [t2]
    simp only [obs]
    rw [t4]
    obtain ⟨u2, v2, c1, c2, c3, c4⟩ := concl_ok hR6 hC6 hI t5 u.2.1 u.2.2.1 u.2.2.2.1 u.2.2.2.2.1 u.2.2.2.2.2.1 u.2.2.2.2.2.2.2.2.2 v.2.2.2.2.2.2.2.2.2.1 v.2.2.2.2.2.2.2.2.2.2.1 v.2.2.2.2.2.1 v.2.2.2.2.2.2.1 t6 t7 zf
    rw [c1, c2]
    simp only [obs]
    exact ⟨_, _, rfl, rfl, c3, c4⟩
  · unfold fX11_reduces
    rw [a1, a2]
    simp only [obs, ↓reduceIte]
    obtain ⟨u2, v2, c1, c2, c3, c4⟩ := concl_ok hR6 hC6 hI (p1 := 1) (Or.inr (Or.inl rfl)) x_acts_longRow x_acts_longColumn x_acts_next_rows x_acts_next_columns x_acts_next_lower x_acts_next_upper cl cu y_brokenRow y_brokenColumn (fun q => absurd q (by decide)) (fun q => absurd q (by decide)) zf
    rw [c1, c2]
    simp only [obs]
    exact ⟨_, _, rfl, rfl, c3, c4⟩
