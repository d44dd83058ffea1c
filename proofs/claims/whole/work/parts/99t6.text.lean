/-! A text: its size, then its lines. -/
section SIZE
variable {len : Nat} {B tape : Nat → Int32} (word first second number : Int32) (undos : Int32) (up lo : Int64) (il rw0 cl0 rk brr bcc isB fd fr tU tL : Int32) (all cl cu lc lr pC pF pR pW : Nat → Int32)
theorem t51_bad {f : Int32} (hf : badF f) (g nx to pl : Int32) (va : Int64) : ∃ all', (∀ j, ¬ (89 ≤ j ∧ j < 175) → all' j = all j) ∧ fX11_text_51 undos up lo il rw0 cl0 rk brr bcc isB fd fr tU tL all cl cu lc lr pC pF pR pW tape 0 f g (nI len) nx to pl va = fX11_text_81 undos tape 0 (nI len) fuelN 0 f g up lo il rw0 cl0 rk brr bcc isB fd fr nx to pl va tU tL all' cl cu lc lr pC pF pR pW := by
  obtain ⟨all', f1, -, -, -, f5⟩ := firsts_ok (b := 89) (by omega) 1 1 all
  rw [show nI 89 = 89 from rfl] at f1
  refine ⟨all', f5, ?_⟩
  unfold fX11_text_51
  rw [numeral_bad hf]
  simp only [obs, ltp]
  rw [numeral_bad hf]
  simp only [obs, ltp]
  rw [mustEnd_bad hf]
  simp only [obs]
  rw [f1]
  simp only [obs]
theorem size_ok (h : TP len B tape) {p n : Nat} {ty va : Int32} {va' : Int64} (hT : TokR len B p n ty va va') :
    (∃ f g u2 all' nx to pl vv, badF f ∧ (∀ j, ¬ (89 ≤ j ∧ j < 175) → all' j = all j) ∧ fX4_readSize 0 (-1) word first second number ty (nI p) va (nI n) (nI len) B = some u2 ∧ u2.1 = 0 ∧ u2.2.1 = f ∧ u2.2.2.1 = g ∧ ((fX11_hasWord 381245 0 (nI len) (nI n) ty (nI p) va' tape).bind fun u_2 => if u_2.1 = 0 then ((fX11_fails 1 u_2.2.2.2.1 0 (-1)).bind fun u_13 => fX11_text_51 undos up lo il rw0 cl0 rk brr bcc isB fd fr tU tL all cl cu lc lr pC pF pR pW tape 0 u_13.1 u_13.2 (nI len) u_2.2.1 u_2.2.2.1 u_2.2.2.2.1 u_2.2.2.2.2) else (fX11_text_51 undos up lo il rw0 cl0 rk brr bcc isB fd fr tU tL all cl cu lc lr pC pF pR pW tape 0 0 (-1) (nI len) u_2.2.1 u_2.2.2.1 u_2.2.2.2.1 u_2.2.2.2.2)) = fX11_text_81 undos tape 0 (nI len) fuelN 0 f g up lo il rw0 cl0 rk brr bcc isB fd fr nx to pl vv tU tL all' cl cu lc lr pC pF pR pW) ∨
    (∃ R C p9 n9 ty9 va9 va9' all', 1 ≤ R ∧ R ≤ 6 ∧ 1 ≤ C ∧ C ≤ 6 ∧ TokR len B p9 n9 ty9 va9 va9' ∧ fX11_firsts 89 (nI R) (nI C) all = some all' ∧ fX4_readSize 0 (-1) word first second number ty (nI p) va (nI n) (nI len) B = some (1, 0, -1, 1, nI R, nI C, nI p, nI C, ty9, nI p9, va9, nI n9) ∧ ((fX11_hasWord 381245 0 (nI len) (nI n) ty (nI p) va' tape).bind fun u_2 => if u_2.1 = 0 then ((fX11_fails 1 u_2.2.2.2.1 0 (-1)).bind fun u_13 => fX11_text_51 undos up lo il rw0 cl0 rk brr bcc isB fd fr tU tL all cl cu lc lr pC pF pR pW tape 0 u_13.1 u_13.2 (nI len) u_2.2.1 u_2.2.2.1 u_2.2.2.2.1 u_2.2.2.2.2) else (fX11_text_51 undos up lo il rw0 cl0 rk brr bcc isB fd fr tU tL all cl cu lc lr pC pF pR pW tape 0 0 (-1) (nI len) u_2.2.1 u_2.2.2.1 u_2.2.2.2.1 u_2.2.2.2.2)) = fX11_text_81 undos tape 0 (nI len) fuelN 0 0 (-1) up lo il rw0 cl0 rk brr bcc isB fd fr (nI n9) ty9 (nI p9) va9' tU tL all' cl cu lc lr pC pF pR pW) := by
  have none : ¬ (ty = 1 ∧ va' = 381245) → (∃ u2, fX4_readSize 0 (-1) word first second number ty (nI p) va (nI n) (nI len) B = some u2 ∧ u2.1 = 0 ∧ u2.2.1 = 1 ∧ u2.2.2.1 = nI p) → ∃ f g u2 all' nx to pl vv, badF f ∧ (∀ j, ¬ (89 ≤ j ∧ j < 175) → all' j = all j) ∧ fX4_readSize 0 (-1) word first second number ty (nI p) va (nI n) (nI len) B = some u2 ∧ u2.1 = 0 ∧ u2.2.1 = f ∧ u2.2.2.1 = g ∧ ((fX11_hasWord 381245 0 (nI len) (nI n) ty (nI p) va' tape).bind fun u_2 => if u_2.1 = 0 then ((fX11_fails 1 u_2.2.2.2.1 0 (-1)).bind fun u_13 => fX11_text_51 undos up lo il rw0 cl0 rk brr bcc isB fd fr tU tL all cl cu lc lr pC pF pR pW tape 0 u_13.1 u_13.2 (nI len) u_2.2.1 u_2.2.2.1 u_2.2.2.2.1 u_2.2.2.2.2) else (fX11_text_51 undos up lo il rw0 cl0 rk brr bcc isB fd fr tU tL all cl cu lc lr pC pF pR pW tape 0 0 (-1) (nI len) u_2.2.1 u_2.2.2.1 u_2.2.2.2.1 u_2.2.2.2.2)) = fX11_text_81 undos tape 0 (nI len) fuelN 0 f g up lo il rw0 cl0 rk brr bcc isB fd fr nx to pl vv tU tL all' cl cu lc lr pC pF pR pW := by
    intro hno ⟨u2, e1, e2, e3, e4⟩
    obtain ⟨all', x1, x2⟩ := t51_bad (len := len) (tape := tape) undos up lo il rw0 cl0 rk brr bcc isB fd fr tU tL all cl cu lc lr pC pF pR pW (f := 1) (Or.inl rfl) (nI p) (nI n) ty (nI p) va'
    refine ⟨1, nI p, u2, all', nI n, ty, nI p, va', Or.inl rfl, x1, e1, e2, e3, e4, ?_⟩
    rw [hasWord_no hno]
    simp only [obs, ↓reduceIte]
    rw [fails0]
    simp only [obs]
    exact x2
  have hT0 := hT
  obtain ⟨hpn, hnl, hc⟩ := hT
  have notw : ¬ ty = 1 → ∃ u2, fX4_readSize 0 (-1) word first second number ty (nI p) va (nI n) (nI len) B = some u2 ∧ u2.1 = 0 ∧ u2.2.1 = 1 ∧ u2.2.2.1 = nI p := by
    intro q
    unfold fX4_readSize fX4_takeWord fX4_fail
    rw [if_neg q]
    simp only [obs, tv0, ↓reduceIte]
    exact ⟨_, rfl, rfl, rfl, rfl⟩
  by_cases hty : ty = 1
  · rcases hc with e | ⟨-, hlt, w, hw, hv⟩ | ⟨e, -⟩ | ⟨e, -⟩ | ⟨e, -⟩
    · exact absurd (e.symm.trans hty) (by decide)
    · subst hty
      obtain ⟨p2, n2, ty2, va2, va2', a1, a2, a3, a4⟩ := adv_ok h hnl
      have htw : fX4_takeWord 0 (-1) word 1 (nI p) va (nI n) (nI len) B = some (1, 0, -1, w, nI p, ty2, nI p2, va2, nI n2) := by
        unfold fX4_takeWord
        rw [if_pos rfl, hw]
        simp only [obs]
        rw [a3]
        simp only [obs]
      by_cases hw1 : w = 1
      · subst hw1
        have hva : va' = 381245 := by
          rcases hv with ⟨-, q⟩ | ⟨q, -⟩ | ⟨q, -⟩ | ⟨q, -⟩ | ⟨q, -⟩ | ⟨q, -⟩ | ⟨q, -⟩ | ⟨q, -⟩
          · exact q
          · exact absurd q (by decide)
          · exact absurd q (by decide)
          · exact absurd q (by decide)
          · exact absurd q (by decide)
          · exact absurd q (by decide)
          · exact absurd q (by decide)
          · exact absurd q (by decide)
        subst hva
        clear none notw
        unfold fX4_readSize
        rw [htw, hasWord_yes a4]
        simp only [obs, if_neg one0, ↓reduceIte]
        unfold fX4_readSize_27 fX11_text_51
        rcases num_ok h a2 (a := 1) (b := 6) (by omega) (by omega) number with ⟨f, num', hf, r1, r2⟩ | ⟨r, p3, n3, ty3, va3, va3', v1, v2, v3, v4, r1, r2⟩
        · rw [show nI 1 = 1 from rfl, show nI 6 = 6 from rfl] at r1 r2
          left
          obtain ⟨all', f1, -, -, -, f5⟩ := firsts_ok (b := 89) (by omega) 1 1 all
          rw [show nI 89 = 89 from rfl] at f1
          rw [first_of r1 (Or.inl rfl), r2]
          simp only [obs, ↓reduceIte, ltp]
          rw [numeral_bad hf]
          simp only [obs, ltp]
          rw [mustEnd_bad hf]
          simp only [obs]
          rw [f1]
          simp only [obs]
          exact ⟨f, _, _, all', _, _, _, _, hf, f5, rfl, rfl, rfl, rfl, rfl⟩
        · rw [show nI 1 = 1 from rfl, show nI 6 = 6 from rfl] at r1 r2
          rw [first_of r1 (Or.inr rfl), r2]
          simp only [obs, if_neg one0, ltp]
          rcases num_ok h v4 (a := 1) (b := 6) (by omega) (by omega) (nI r) with ⟨f, num', hf, s1, s2⟩ | ⟨s, p4, n4, ty4, va4, va4', w1, w2, w3, w4, s1, s2⟩
          · rw [show nI 1 = 1 from rfl, show nI 6 = 6 from rfl] at s1 s2
            left
            obtain ⟨all', f1, -, -, -, f5⟩ := firsts_ok (b := 89) (by omega) (nI r) 1 all
            rw [show nI 89 = 89 from rfl] at f1
            rw [second_of s1 (Or.inl rfl), s2]
            simp only [obs, ↓reduceIte, ltp]
            rw [mustEnd_bad hf]
            simp only [obs]
            rw [f1]
            simp only [obs]
            exact ⟨f, _, _, all', _, _, _, _, hf, f5, rfl, rfl, rfl, rfl, rfl⟩
          · rw [show nI 1 = 1 from rfl, show nI 6 = 6 from rfl] at s1 s2
            rw [second_of s1 (Or.inr rfl), s2]
            simp only [obs, if_neg one0, ltp]
            obtain ⟨all', f1, -, -, -, f5⟩ := firsts_ok (b := 89) (by omega) (nI r) (nI s) all
            rw [show nI 89 = 89 from rfl] at f1
            rcases stop_ok h w4 with ⟨q1, q2⟩ | ⟨p5, n5, ty5, va5, va5', k1, k2, q1, q2⟩
            · left
              rw [q1, q2]
              simp only [obs, ↓reduceIte]
              rw [f1]
              simp only [obs]
              exact ⟨1, _, _, all', _, _, _, _, Or.inl rfl, f5, rfl, rfl, rfl, rfl, rfl⟩
            · right
              rw [q1, q2]
              simp only [obs, if_neg one0]
              rw [f1]
              simp only [obs]
              exact ⟨r, s, p5, n5, ty5, va5, va5', all', v1, v2, w1, w2, k2, f1, rfl, rfl⟩
      · left
        refine none (fun q => ?_) ?_
        · have hd := q.2
          rcases hv with ⟨c, -⟩ | ⟨-, c⟩ | ⟨-, c⟩ | ⟨-, c⟩ | ⟨-, c⟩ | ⟨-, c⟩ | ⟨-, c⟩ | ⟨-, c, -⟩
          · exact hw1 c
          · exact absurd (hd.symm.trans c) (by decide)
          · exact absurd (hd.symm.trans c) (by decide)
          · exact absurd (hd.symm.trans c) (by decide)
          · exact absurd (hd.symm.trans c) (by decide)
          · exact absurd (hd.symm.trans c) (by decide)
          · exact absurd (hd.symm.trans c) (by decide)
          · exact c hd
        · unfold fX4_readSize fX4_fail
          rw [htw]
          simp only [obs, if_neg one0, if_neg hw1, ↓reduceIte]
          exact ⟨_, rfl, rfl, rfl, rfl⟩
    · exact absurd (e.symm.trans hty) (by decide)
    · exact absurd (e.symm.trans hty) (by decide)
    · exact absurd (e.symm.trans hty) (by decide)
  · left
    exact none (fun q => hty q.1) (notw hty)
end SIZE
theorem pure_text : Pure_text := by
  intro x_now_fault x_now_faultPlace x_now_refusal x_now_longRow x_now_longColumn x_now_matrix_rows x_now_matrix_columns x_now_matrix_upper x_now_matrix_lower x_now_tape_length x_now_tape_bytes x_images x_past_size x_past_top x_past_kept x_acts_longRow x_acts_longColumn x_acts_next_rows x_acts_next_columns x_acts_next_upper x_acts_next_lower x_acts_next_sum_upper x_acts_next_sum_lower x_acts_next_sum_isLong x_acts_value_upper x_acts_value_lower x_acts_value_isLong x_sweep_rank x_sweep_broken x_sweep_brokenRow x_sweep_brokenColumn x_sweep_liveRows x_sweep_liveColumns x_sweep_bestRow x_sweep_bestColumn x_sweep_grid_rows x_sweep_grid_columns x_sweep_grid_upper x_sweep_grid_lower x_sweep_grid_sum_upper x_sweep_grid_sum_lower x_sweep_grid_sum_isLong x_sweep_pivotRows x_sweep_pivotColumns x_sweep_fills x_sweep_weights x_sweep_factor_upper x_sweep_factor_lower x_sweep_factor_isLong x_reader_word x_reader_first x_reader_second x_reader_number x_reader_scanner_tape_bytes x_reader_uppers x_reader_lowers x_told_rows x_told_columns x_told_upper x_told_lower x_ratio_upper x_ratio_lower x_ratio_isLong y_taped y_faultKind y_faultPlace y_undos y_up y_low y_isLong y_rows y_columns y_rank y_brokenRow y_brokenColumn y_isBroken y_filled y_from y_toldUp y_toldLow y_all y_tape y_isImage y_cu y_cl y_pivotRow y_pivotColumn y_pivotFill y_pivotWeight y_liveRow y_liveColumn hI
  have hI0 := hI
  obtain ⟨hm, hw, ⟨et, ⟨hl0, hl1⟩, hbt⟩, hf, hp, hi⟩ := hI
  dsimp only at et hl0 hl1 hbt
  subst et
  obtain ⟨len, hlen, rfl⟩ : ∃ n : Nat, n ≤ 400 ∧ x_now_tape_length = nI n := by
    refine ⟨x_now_tape_length.toInt.toNat, by omega, ?_⟩
    apply Int32.toInt_inj.mp
    rw [nI_toInt (by omega)]
    omega
  obtain ⟨B, hcp, hB⟩ := tcopy_ok x_reader_scanner_tape_bytes (nI len) x_now_tape_bytes (fun k hk => (hbt k hk).1)
  have h : TP len B y_tape := by
    refine ⟨hlen, fun k hk => ?_⟩
    have q := (hbt k hk).2
    rw [Nat.zero_add] at q
    rw [hB k hk, q]
    refine ⟨rfl, ?_⟩
    rw [← q]
    exact pk_andE (x_now_tape_bytes k) (m := 255) 8 (by decide)
  obtain ⟨p, n, ty, va, va', -, hT, ad1, ad2⟩ := adv_ok h (k := 0) (by omega)
  rw [show nI 0 = 0 from rfl] at ad1 ad2
  unfold fX10_text fX11_text fX4_open fX5_open
  rw [hcp, ad2]
  simp only [obs]
  rw [ad1]
  simp only [obs]
  rcases size_ok x_reader_word x_reader_first x_reader_second x_reader_number y_undos y_up y_low y_isLong y_rows y_columns y_rank y_brokenRow y_brokenColumn y_isBroken y_filled y_from y_toldUp y_toldLow y_all y_cl y_cu y_liveColumn y_liveRow y_pivotColumn y_pivotFill y_pivotRow y_pivotWeight h hT with ⟨f, g, u2, all', nx, to, pl, vv, hbf, ha, e1, c0, c1, c2, er⟩ | ⟨R, C, p9, n9, ty9, va9, va9', all', hR1, hR6, hC1, hC6, hT9, hfi, e1, er⟩
  · rw [e1, er]
    simp only [obs, ltp]
    rw [if_pos c0, c0, c1, c2, show fuelN = 4095 + 1 from rfl]
    obtain ⟨v, hv0, hv⟩ := bad81 (undos := y_undos) (tape := y_tape) (len := len) hbf 4095 0 g y_up y_low y_isLong y_rows y_columns y_rank y_brokenRow y_brokenColumn y_isBroken y_filled y_from nx to pl vv y_toldUp y_toldLow all' y_cl y_cu y_liveColumn y_liveRow y_pivotColumn y_pivotFill y_pivotRow y_pivotWeight
    obtain ⟨u, hu0, hu⟩ := bad49 (nmr := x_now_matrix_rows) (nmc := x_now_matrix_columns) (nml := x_now_matrix_lower) (nmu := x_now_matrix_upper) (ps := x_past_size) (pt := x_past_top) (len := len) (B := B) 4095 0 x_acts_longRow x_acts_longColumn x_acts_next_rows x_acts_next_columns x_acts_next_lower x_acts_next_sum_upper x_acts_next_sum_lower x_acts_next_sum_isLong x_acts_next_upper x_acts_value_upper x_acts_value_lower x_acts_value_isLong x_ratio_upper x_ratio_lower x_ratio_isLong f g (u2.2.2.2.1) (u2.2.2.2.2.1) (u2.2.2.2.2.2.1) (u2.2.2.2.2.2.2.1) (u2.2.2.2.2.2.2.2.1) x_reader_lowers (u2.2.2.2.2.2.2.2.2.1) (u2.2.2.2.2.2.2.2.2.2.1) (u2.2.2.2.2.2.2.2.2.2.2.1) (u2.2.2.2.2.2.2.2.2.2.2.2) x_reader_uppers x_sweep_rank x_sweep_broken x_sweep_brokenRow x_sweep_brokenColumn x_sweep_liveRows x_sweep_liveColumns x_sweep_bestRow x_sweep_bestColumn x_sweep_factor_upper x_sweep_factor_lower x_sweep_factor_isLong x_sweep_fills x_sweep_grid_rows x_sweep_grid_columns x_sweep_grid_lower x_sweep_grid_sum_upper x_sweep_grid_sum_lower x_sweep_grid_sum_isLong x_sweep_grid_upper x_sweep_pivotColumns x_sweep_pivotRows x_sweep_weights x_told_rows x_told_columns x_told_lower x_told_upper
    rw [hu0, hv0]
    exact ⟨u, v, rfl, rfl, bad_end hI0 ha hu hv⟩
  · obtain ⟨f1, i1, j1⟩ := fill_ok 0 x_told_upper (n := 42) (by omega)
    obtain ⟨f2, i2, j2⟩ := fill_ok 1 x_told_lower (n := 42) (by omega)
    obtain ⟨all2, g1, g2, g3, g4, g5⟩ := firsts_ok (b := 89) (by omega) (nI R) (nI C) y_all
    rw [show nI 89 = 89 from rfl, hfi] at g1
    obtain rfl : all' = all2 := Option.some.inj g1
    rw [e1, er]
    simp only [obs, ltp, if_neg one0]
    unfold fX1_clear
    rw [i1]
    simp only [obs]
    rw [i2]
    simp only [obs]
    have hmat : matAt (nI R) (nI C) f2 f1 all' 89 := by
      refine ⟨g2.symm, g3.symm, by rw [nI_toInt (by omega)]; omega, by rw [nI_toInt (by omega)]; omega, fun r c hr hc => ?_⟩
      rw [nI_toInt (by omega)] at hr hc
      have hj := lt42 (show r < 6 by omega) (show c < 7 by omega)
      rw [j1 _ hj, j2 _ hj, (g4 _ hj).1, (g4 _ hj).2]
      exact ⟨rfl, rfl, good01⟩
    have hl := text_loop h hI0 len 0 fuelN fuelN p9 n9 R C ty9 va9 va9' f2 f1 all' x_acts_longRow x_acts_longColumn x_acts_next_rows x_acts_next_columns x_acts_next_lower x_acts_next_sum_upper x_acts_next_sum_lower x_acts_next_sum_isLong x_acts_next_upper x_acts_value_upper x_acts_value_lower x_acts_value_isLong x_ratio_upper x_ratio_lower x_ratio_isLong 1 (nI R) (nI C) (nI p) (nI C) x_reader_lowers x_reader_uppers x_sweep_rank x_sweep_broken x_sweep_brokenRow x_sweep_brokenColumn x_sweep_liveRows x_sweep_liveColumns x_sweep_bestRow x_sweep_bestColumn x_sweep_factor_upper x_sweep_factor_lower x_sweep_factor_isLong x_sweep_fills x_sweep_grid_rows x_sweep_grid_columns x_sweep_grid_lower x_sweep_grid_sum_upper x_sweep_grid_sum_lower x_sweep_grid_sum_isLong x_sweep_grid_upper x_sweep_pivotColumns x_sweep_pivotRows x_sweep_weights y_up y_low y_isLong y_rows y_columns y_rank y_brokenRow y_brokenColumn y_isBroken y_filled y_from y_toldUp y_toldLow y_cl y_cu y_liveColumn y_liveRow y_pivotColumn y_pivotFill y_pivotRow y_pivotWeight (by omega) (by unfold fuelN; omega) (by unfold fuelN; omega) (by omega) hT9 hR1 hR6 hC1 hC6 hmat g5
    rw [show nI 0 = 0 from rfl] at hl
    exact hl
