/-! Acts: set, swap, scale, add, reduce. -/
theorem l64_eq {a b : Int32} : lg_cmp a.toInt64 b.toInt64 = 0 ↔ a = b := by
  rw [lg_cmp_eq]
  constructor
  · intro h; rw [← i64_32 a, h, i64_32]
  · intro h; rw [h]
def act4 (x : Int32) : Prop := x = 0 ∨ x = 1 ∨ x = 2 ∨ x = 3
theorem isAt_ok {r c : Nat} (hr : r < 6) (hc : c < 7) (L U : Nat → Int32) (A B : Int32) : (fX1_isAt (nI r) (nI c) L U A.toInt64 B.toInt64 = some 1 ∧ U (7 * r + c) = A ∧ L (7 * r + c) = B) ∨ (fX1_isAt (nI r) (nI c) L U A.toInt64 B.toInt64 = some 0 ∧ ¬ (U (7 * r + c) = A ∧ L (7 * r + c) = B)) := by
  unfold fX1_isAt
  rw [upperAt_ok hr hc, lowerAt_ok hr hc]
  simp only [obs]
  by_cases h1 : U (7 * r + c) = A
  · rw [if_pos (l64_eq.mpr h1)]
    by_cases h2 : L (7 * r + c) = B
    · left; rw [if_pos (l64_eq.mpr h2)]; exact ⟨rfl, h1, h2⟩
    · right; rw [if_neg (fun q => h2 (l64_eq.mp q))]; exact ⟨rfl, fun q => h2 q.2⟩
  · right; rw [if_neg (fun q => h1 (l64_eq.mp q))]; exact ⟨rfl, fun q => h1 q.1⟩
theorem tell_ok {R C : Nat} (hR1 : 1 ≤ R) (hR6 : R ≤ 6) (hC6 : C ≤ 6) {U L cu cl : Nat → Int32} (hG : eqG R C U L cu cl) (p1 p2 p3 p4 nr nc : Int32) (nl nu : Nat → Int32) (vu vl : Int64) (vi : Int32) (up lo : Int64) (il : Int32) : ∃ u v, fX0_tell p1 p2 p3 p4 nr nc nl nu vu vl vi (nI R) (nI C) L U = some u ∧ fX11_sets p1 p2 p3 p4 up lo il (nI R) (nI C) cl cu = some v ∧ v.1 = u.1 ∧ act4 u.1 ∧ (u.1 = 0 → u.2.1 = nI R ∧ u.2.2.1 = nI C ∧ eqG R C u.2.2.2.2.1 u.2.2.2.1 v.2.2.2.2.2 v.2.2.2.2.1) ∧ ¬ u.1 = 3 := by
  unfold fX0_tell fX11_sets fX11_isPlace
  rcases row_cases p1 hR1 hR6 with ⟨r, hr, rfl, a1, a2⟩ | ⟨a1, a2⟩
  · rcases side_cases p2 hC6 with ⟨c, hc, rfl, c1, c2⟩ | ⟨c1, c2⟩
    · rcases told_cases p3 p4 with ⟨t1, t2, tb1, tb2⟩ | ⟨t1, t2⟩
      · obtain ⟨A, B, hg, st, cm⟩ := told_start tb1 tb2
        obtain ⟨L', U', hcp, hcc⟩ := copy_ok nl nu (nI R) (nI C) L U
        have hrc := lt42 (show r < 6 by omega) (show c < 7 by omega)
        obtain ⟨e1, e2, -⟩ := hG r c hr hc
        simp only [a1, a2, c1, c2, t1, t2, st, cm, hcp, put_ok (show r < 6 by omega) (show c < 7 by omega), fX11_sets_69, lays_ok (show r < 6 by omega) (show c < 7 by omega), i64_32, obs, if_neg one0, cell_ok, inB_ok (n := 42) hrc (by omega), nI_clamp (n := 7 * r + c) (by omega), e1, e2]
        rcases isAt_ok (show r < 6 by omega) (show c < 7 by omega) L U A B with ⟨q1, q2, q3⟩ | ⟨q1, q2⟩
        · rw [q1, if_pos (l64_eq.mpr q2), if_pos (l64_eq.mpr q3)]
          simp only [obs, if_neg one0]
          exact ⟨_, _, rfl, rfl, rfl, Or.inr (Or.inr (Or.inl rfl)), fun q => absurd (show (2 : Int32) = 0 from q) (by decide), fun q => absurd (show (2 : Int32) = 3 from q) (by decide)⟩
        · rw [q1]
          simp only [obs, ↓reduceIte]
          have hG' := eqG_put (eqG_copy hR6 hC6 hG hcc) (7 * r + c) hg
          by_cases h1 : U (7 * r + c) = A
          · have h2 : ¬ L (7 * r + c) = B := fun q => q2 ⟨h1, q⟩
            rw [if_pos (l64_eq.mpr h1), if_neg (fun q => h2 (l64_eq.mp q))]
            exact ⟨_, _, rfl, rfl, rfl, Or.inl rfl, fun _ => ⟨rfl, rfl, hG'⟩, fun q => absurd (show (0 : Int32) = 3 from q) (by decide)⟩
          · rw [if_neg (fun q => h1 (l64_eq.mp q))]
            exact ⟨_, _, rfl, rfl, rfl, Or.inl rfl, fun _ => ⟨rfl, rfl, hG'⟩, fun q => absurd (show (0 : Int32) = 3 from q) (by decide)⟩
      · simp only [a1, a2, c1, c2, t1, t2, obs, if_neg one0, ↓reduceIte]
        exact ⟨_, _, rfl, rfl, rfl, Or.inr (Or.inl rfl), fun q => absurd (show (1 : Int32) = 0 from q) (by decide), fun q => absurd (show (1 : Int32) = 3 from q) (by decide)⟩
    · simp only [a1, a2, c1, c2, obs, if_neg one0, ↓reduceIte]
      exact ⟨_, _, rfl, rfl, rfl, Or.inr (Or.inl rfl), fun q => absurd (show (1 : Int32) = 0 from q) (by decide), fun q => absurd (show (1 : Int32) = 3 from q) (by decide)⟩
  · simp only [a1, a2, obs, ↓reduceIte]
    exact ⟨_, _, rfl, rfl, rfl, Or.inr (Or.inl rfl), fun q => absurd (show (1 : Int32) = 0 from q) (by decide), fun q => absurd (show (1 : Int32) = 3 from q) (by decide)⟩
theorem pure_set : Pure_set := by
  intro zf hzf p1 p2 p3 p4 x_now_fault x_now_faultPlace x_now_refusal x_now_longRow x_now_longColumn x_now_matrix_rows x_now_matrix_columns x_now_matrix_upper x_now_matrix_lower x_now_tape_length x_now_tape_bytes x_images x_past_size x_past_top x_past_kept x_acts_longRow x_acts_longColumn x_acts_next_rows x_acts_next_columns x_acts_next_upper x_acts_next_lower x_acts_value_upper x_acts_value_lower x_acts_value_isLong y_taped y_faultKind y_faultPlace y_undos y_up y_low y_isLong y_brokenRow y_brokenColumn y_all y_tape y_isImage y_cu y_cl hI
  obtain ⟨R, C, cl, cu, hR1, hR6, hC1, hC6, rfl, rfl, hb, hG⟩ := inv_begin hI.1 y_cl y_cu
  obtain ⟨u, v, t1, t2, t3, t4, t5, t6⟩ := tell_ok hR1 hR6 hC6 hG p1 p2 p3 p4 x_acts_next_rows x_acts_next_columns x_acts_next_lower x_acts_next_upper x_acts_value_upper x_acts_value_lower x_acts_value_isLong y_up y_low y_isLong
  unfold fX10_set fX11_set
  rw [t1, hb]
  simp only [obs]
  rw [t2]
  simp only [obs]
  rw [t3]
  obtain ⟨u2, v2, c1, c2, c3, c4⟩ := concl_ok hR6 hC6 hI t4 x_acts_longRow x_acts_longColumn u.2.1 u.2.2.1 u.2.2.2.1 u.2.2.2.2.1 v.2.2.2.2.1 v.2.2.2.2.2 y_brokenRow y_brokenColumn t5 (fun q => absurd q t6) zf
  rw [c1, c2]
  simp only [obs]
  exact ⟨_, _, rfl, rfl, c3, c4⟩
/-- whether two grids are alike -/
def allEq (R C : Nat) (U L V M : Nat → Int32) : Prop := ∀ r c, r < R → c ≤ C → U (7 * r + c) = V (7 * r + c) ∧ L (7 * r + c) = M (7 * r + c)
theorem same_in {r R C : Nat} (hr : r < R) (hR : R ≤ 6) (hC : C ≤ 6) (nl nu L U : Nat → Int32) (rec : Int32 → Int64 → Int64 → Int32 → Option (Int32 × Int64 × Int64 × Int32)) : ∀ (m c fuel : Nat) (su sl : Int64) (si : Int32), c + m = C + 1 → m + 1 ≤ fuel → (∀ i, i < c → nu (7 * r + i) = U (7 * r + i) ∧ nl (7 * r + i) = L (7 * r + i)) → (∃ su' sl' si', (∀ i, i ≤ C → nu (7 * r + i) = U (7 * r + i) ∧ nl (7 * r + i) = L (7 * r + i)) ∧ fX1_isSame_12 (nI C) nl nu L U (nI r) rec fuel (nI c) su sl si = rec (nI (r + 1)) su' sl' si') ∨ (∃ su' sl' si', ¬ allEq R C nu nl U L ∧ fX1_isSame_12 (nI C) nl nu L U (nI r) rec fuel (nI c) su sl si = some (0, su', sl', si')) := by
  intro m
  induction m with
  | zero =>
    intro c fuel su sl si hm hf h
    obtain ⟨fuel, rfl⟩ : ∃ f, fuel = f + 1 := ⟨fuel - 1, by omega⟩
    obtain rfl : c = C + 1 := by omega
    left
    rw [fX1_isSame_12_s, if_pos (nI_lt (by omega) (by omega))]
    unfold fX1_isSame_51
    rw [← nI_succ]
    exact ⟨_, _, _, fun i hi => h i (by omega), rfl⟩
  | succ m ih =>
    intro c fuel su sl si hm hf h
    obtain ⟨fuel, rfl⟩ : ∃ f, fuel = f + 1 := ⟨fuel - 1, by omega⟩
    rw [fX1_isSame_12_s, if_neg (nI_nlt (by omega) (by omega)), load_ok (by omega) (by omega)]
    simp only [obs]
    rcases isAt_ok (show r < 6 by omega) (show c < 7 by omega) nl nu (U (7 * r + c)) (L (7 * r + c)) with ⟨q1, q2, q3⟩ | ⟨q1, q2⟩
    · rw [q1]
      simp only [obs, if_neg one0, ← nI_succ]
      refine ih (c + 1) fuel _ _ _ (by omega) (by omega) (fun i hi => ?_)
      by_cases e : i = c
      · subst e; exact ⟨q2, q3⟩
      · exact h i (by omega)
    · right
      rw [q1]
      simp only [obs, ↓reduceIte]
      exact ⟨_, _, _, fun q => q2 (q r c hr (by omega)), rfl⟩
theorem same_out {R C : Nat} (hR : R ≤ 6) (hC : C ≤ 6) (nl nu L U : Nat → Int32) : ∀ (m r fuel : Nat) (su sl : Int64) (si : Int32), r + m = R → m + 1 ≤ fuel → (∀ i c, i < r → c ≤ C → nu (7 * i + c) = U (7 * i + c) ∧ nl (7 * i + c) = L (7 * i + c)) → (∃ su' sl' si', allEq R C nu nl U L ∧ fX1_isSame_2 (nI R) (nI C) nl nu L U fuel (nI r) su sl si = some (1, su', sl', si')) ∨ (∃ su' sl' si', ¬ allEq R C nu nl U L ∧ fX1_isSame_2 (nI R) (nI C) nl nu L U fuel (nI r) su sl si = some (0, su', sl', si')) := by
  intro m
  induction m with
  | zero =>
    intro r fuel su sl si hm hf h
    obtain ⟨fuel, rfl⟩ : ∃ f, fuel = f + 1 := ⟨fuel - 1, by omega⟩
    obtain rfl : r = R := by omega
    left
    rw [fX1_isSame_2_s, if_pos (nI_le (Nat.le_refl _) (by omega))]
    exact ⟨_, _, _, h, rfl⟩
  | succ m ih =>
    intro r fuel su sl si hm hf h
    obtain ⟨fuel, rfl⟩ : ∃ f, fuel = f + 1 := ⟨fuel - 1, by omega⟩
    rw [fX1_isSame_2_s, if_neg (nI_ge (by omega) (by omega))]
    have hl := same_in (show r < R by omega) hR hC nl nu L U (fX1_isSame_2 (nI R) (nI C) nl nu L U fuel) (C + 1) 0 fuelN su sl si (by omega) (by unfold fuelN; omega) (fun i hi => by omega)
    rw [show nI 0 = 0 from rfl] at hl
    rcases hl with ⟨su', sl', si', q1, q2⟩ | ⟨su', sl', si', q1, q2⟩
    · rw [q2]
      refine ih (r + 1) fuel _ _ _ (by omega) (by omega) (fun i c hi hc => ?_)
      by_cases e : i = r
      · subst e; exact q1 c hc
      · exact h i c (by omega) hc
    · right
      exact ⟨_, _, _, q1, q2⟩
theorem same_ok {R C : Nat} (hR : R ≤ 6) (hC : C ≤ 6) (nl nu L U : Nat → Int32) (su sl : Int64) (si : Int32) : (∃ su' sl' si', allEq R C nu nl U L ∧ fX1_isSame (nI R) (nI C) nl su sl si nu L U = some (1, su', sl', si')) ∨ (∃ su' sl' si', ¬ allEq R C nu nl U L ∧ fX1_isSame (nI R) (nI C) nl su sl si nu L U = some (0, su', sl', si')) := by
  unfold fX1_isSame
  exact same_out hR hC nl nu L U R 0 fuelN su sl si (by omega) (by unfold fuelN; omega) (fun i c hi => by omega)
/-- two rows change places -/
def swQ (R C r s c : Nat) (U L nu nl cu cl : Nat → Int32) : Prop := (∀ i, c ≤ i → i ≤ C → cu (7 * r + i) = U (7 * r + i) ∧ cl (7 * r + i) = L (7 * r + i) ∧ cu (7 * s + i) = U (7 * s + i) ∧ cl (7 * s + i) = L (7 * s + i)) ∧ (∀ i, i < c → nu (7 * r + i) = U (7 * s + i) ∧ nl (7 * r + i) = L (7 * s + i) ∧ nu (7 * s + i) = U (7 * r + i) ∧ nl (7 * s + i) = L (7 * r + i)) ∧ ∀ i j, i < R → j ≤ C → ¬ i = r → ¬ i = s → nu (7 * i + j) = U (7 * i + j) ∧ nl (7 * i + j) = L (7 * i + j)
theorem swap_loop {r s R C : Nat} (hr : r < R) (hs : s < R) (hR : R ≤ 6) (hC : C ≤ 6) {U L : Nat → Int32} (hgood : ∀ r c, r < R → c ≤ C → goodE (U (7 * r + c)) (L (7 * r + c))) (su sl : Int64) (si : Int32) (nr nc : Int32) : ∀ (m c fuel fuel' : Nat) (nl nu : Nat → Int32) (vu vl : Int64) (vi al : Int32) (cl cu : Nat → Int32), c + m = C + 1 → m + 1 ≤ fuel → m + 1 ≤ fuel' → eqG R C nu nl cu cl → swQ R C r s c U L nu nl cu cl → (al = 1 ∧ ∀ i, i < c → U (7 * r + i) = U (7 * s + i) ∧ L (7 * r + i) = L (7 * s + i)) ∨ (al = 0 ∧ ∃ i, i < c ∧ ¬ (U (7 * r + i) = U (7 * s + i) ∧ L (7 * r + i) = L (7 * s + i))) →
    ∃ nl' nu' vu' vl' vi' al' cl' cu', eqG R C nu' nl' cu' cl' ∧ swQ R C r s (C + 1) U L nu' nl' cu' cl' ∧ ((al' = 1 ∧ ∀ i, i < C + 1 → U (7 * r + i) = U (7 * s + i) ∧ L (7 * r + i) = L (7 * s + i)) ∨ (al' = 0 ∧ ∃ i, i < C + 1 ∧ ¬ (U (7 * r + i) = U (7 * s + i) ∧ L (7 * r + i) = L (7 * s + i)))) ∧ fX0_exchange_29 (nI r) (nI s) su sl si (nI C) L U nr nc fuel (nI c) nl nu vu vl vi = fX0_exchange_94 su sl si L U nr nc nl' nu' vu' vl' vi' ∧ fX11_swaps_23 (nI r) (nI s) (nI C) fuel' al (nI c) cl cu = fX11_swaps_152 al' cl' cu' := by
  intro m
  induction m with
  | zero =>
    intro c fuel fuel' nl nu vu vl vi al cl cu hm hf hf' hG hQ hal
    obtain ⟨fuel, rfl⟩ : ∃ f, fuel = f + 1 := ⟨fuel - 1, by omega⟩
    obtain ⟨fuel', rfl⟩ : ∃ f, fuel' = f + 1 := ⟨fuel' - 1, by omega⟩
    obtain rfl : c = C + 1 := by omega
    rw [fX0_exchange_29_s, if_pos (nI_lt (by omega) (by omega)), fX11_swaps_23_s, if_pos (nI_lt (by omega) (by omega))]
    exact ⟨_, _, _, _, _, _, _, _, hG, hQ, hal, rfl, rfl⟩
  | succ m ih =>
    intro c fuel fuel' nl nu vu vl vi al cl cu hm hf hf' hG hQ hal
    obtain ⟨fuel, rfl⟩ : ∃ f, fuel = f + 1 := ⟨fuel - 1, by omega⟩
    obtain ⟨fuel', rfl⟩ : ∃ f, fuel' = f + 1 := ⟨fuel' - 1, by omega⟩
    have hx := lt42 (show r < 6 by omega) (show c < 7 by omega)
    have hy := lt42 (show s < 6 by omega) (show c < 7 by omega)
    obtain ⟨e1, e2, e3, e4⟩ := hQ.1 c (Nat.le_refl _) (by omega)
    have go : ∀ al2 : Int32, ((al2 = 1 ∧ ∀ i, i < c + 1 → U (7 * r + i) = U (7 * s + i) ∧ L (7 * r + i) = L (7 * s + i)) ∨ (al2 = 0 ∧ ∃ i, i < c + 1 ∧ ¬ (U (7 * r + i) = U (7 * s + i) ∧ L (7 * r + i) = L (7 * s + i)))) → ∃ nl' nu' vu' vl' vi' al' cl' cu', eqG R C nu' nl' cu' cl' ∧ swQ R C r s (C + 1) U L nu' nl' cu' cl' ∧ ((al' = 1 ∧ ∀ i, i < C + 1 → U (7 * r + i) = U (7 * s + i) ∧ L (7 * r + i) = L (7 * s + i)) ∨ (al' = 0 ∧ ∃ i, i < C + 1 ∧ ¬ (U (7 * r + i) = U (7 * s + i) ∧ L (7 * r + i) = L (7 * s + i)))) ∧ fX0_exchange_29 (nI r) (nI s) su sl si (nI C) L U nr nc fuel (nI (c + 1)) (upd (upd nl (7 * s + c) (L (7 * r + c))) (7 * r + c) (L (7 * s + c))) (upd (upd nu (7 * s + c) (U (7 * r + c))) (7 * r + c) (U (7 * s + c))) (U (7 * s + c)).toInt64 (L (7 * s + c)).toInt64 0 = fX0_exchange_94 su sl si L U nr nc nl' nu' vu' vl' vi' ∧ fX11_swaps_111 (nI r) (nI s) (nI c) cl cu (fX11_swaps_23 (nI r) (nI s) (nI C) fuel') (nI (7 * s + c)) (U (7 * r + c)).toInt64 (L (7 * r + c)).toInt64 al2 = fX11_swaps_152 al' cl' cu' := by
      intro al2 hal2
      unfold fX11_swaps_111
      rw [inB_ok hy (by omega), inB_ok hy (by omega), nI_clamp (by omega), e3, e4, lays_ok (by omega) (by omega)]
      simp only [obs, i64_32]
      rw [lays_ok (by omega) (by omega)]
      simp only [obs, i64_32, ← nI_succ]
      refine ih (c + 1) _ _ _ _ _ _ _ _ _ _ (by omega) (by omega) (by omega) ?_ ?_ hal2
      · intro i j hi hj
        by_cases h1 : i = r ∧ j = c
        · obtain ⟨rfl, rfl⟩ := h1
          by_cases h2 : i = s
          · subst h2
            rw [pk_us, pk_us, pk_us, pk_us]
            exact ⟨rfl, rfl, hgood i j hr (by omega)⟩
          · rw [pk_us, pk_us, pk_un (by omega), pk_us, pk_un (by omega), pk_us]
            exact ⟨rfl, rfl, hgood s j hs (by omega)⟩
        · by_cases h2 : i = s ∧ j = c
          · obtain ⟨rfl, rfl⟩ := h2
            rw [pk_us, pk_us, pk_un (by omega), pk_us, pk_un (by omega), pk_us]
            exact ⟨rfl, rfl, hgood r j hr (by omega)⟩
          · rw [pk_un (by omega), pk_un (by omega), pk_un (by omega), pk_un (by omega), pk_un (by omega), pk_un (by omega), pk_un (by omega), pk_un (by omega)]
            exact hG i j hi hj
      · obtain ⟨w1, w2, w3⟩ := hQ
        refine ⟨fun i h1 h2 => ?_, fun i hi => ?_, fun i j hi hj h1 h2 => ?_⟩
        · rw [pk_un (by omega), pk_un (by omega), pk_un (by omega), pk_un (by omega), pk_un (by omega), pk_un (by omega), pk_un (by omega), pk_un (by omega)]
          exact w1 i (by omega) h2
        · by_cases e : i = c
          · subst e
            by_cases h2 : r = s
            · subst h2
              rw [pk_us, pk_us]
              exact ⟨rfl, rfl, rfl, rfl⟩
            · rw [pk_us, pk_us, pk_un (by omega), pk_us, pk_un (by omega), pk_us]
              exact ⟨rfl, rfl, rfl, rfl⟩
          · rw [pk_un (by omega), pk_un (by omega), pk_un (by omega), pk_un (by omega), pk_un (by omega), pk_un (by omega), pk_un (by omega), pk_un (by omega)]
            exact w2 i (by omega)
        · rw [pk_un (by omega), pk_un (by omega), pk_un (by omega), pk_un (by omega)]
          exact w3 i j hi hj h1 h2
    rw [fX0_exchange_29_s, if_neg (nI_nlt (by omega) (by omega)), load_ok (by omega) (by omega), load_ok (by omega) (by omega), fX11_swaps_23_s, if_neg (nI_nlt (by omega) (by omega)), cell_ok, cell_ok]
    simp only [obs, ltp]
    rw [put_ok (by omega) (by omega)]
    simp only [obs]
    rw [put_ok (by omega) (by omega)]
    simp only [obs, i64_32, ← nI_succ, inB_ok (n := 42) hx (by omega), inB_ok (n := 42) hy (by omega), nI_clamp (n := 7 * r + c) (by omega), nI_clamp (n := 7 * s + c) (by omega), e1, e2, e3, e4]
    rcases hal with ⟨rfl, h⟩ | ⟨rfl, i, hi, h⟩
    · rw [if_neg one0]
      by_cases h1 : U (7 * r + c) = U (7 * s + c)
      · rw [if_pos h1]
        by_cases h2 : L (7 * r + c) = L (7 * s + c)
        · rw [if_pos h2]
          refine go 1 (Or.inl ⟨rfl, fun i hi => ?_⟩)
          by_cases e : i = c
          · subst e; exact ⟨h1, h2⟩
          · exact h i (by omega)
        · rw [if_neg h2]
          exact go 0 (Or.inr ⟨rfl, c, by omega, fun q => h2 q.2⟩)
      · rw [if_neg h1]
        exact go 0 (Or.inr ⟨rfl, c, by omega, fun q => h1 q.1⟩)
    · rw [if_pos rfl]
      exact go 0 (Or.inr ⟨rfl, i, by omega, h⟩)
theorem exch_ok {R C : Nat} (hR1 : 1 ≤ R) (hR6 : R ≤ 6) (hC6 : C ≤ 6) {U L cu cl : Nat → Int32} (hG : eqG R C U L cu cl) (p1 p2 nr nc : Int32) (nl : Nat → Int32) (su sl : Int64) (si : Int32) (nu : Nat → Int32) (vu vl : Int64) (vi : Int32) : ∃ u v, fX0_exchange p1 p2 nr nc nl su sl si nu vu vl vi (nI R) (nI C) L U = some u ∧ fX11_swaps p1 p2 (nI R) (nI C) cl cu = some v ∧ v.1 = u.1 ∧ act4 u.1 ∧ (u.1 = 0 → u.2.1 = nI R ∧ u.2.2.1 = nI C ∧ eqG R C u.2.2.2.2.2.2.2.1 u.2.2.2.1 v.2.2 v.2.1) ∧ ¬ u.1 = 3 := by
  unfold fX0_exchange fX11_swaps
  rcases row_cases p1 hR1 hR6 with ⟨r, hr, rfl, a1, a2⟩ | ⟨a1, a2⟩
  · rcases row_cases p2 hR1 hR6 with ⟨s, hs, rfl, c1, c2⟩ | ⟨c1, c2⟩
    · obtain ⟨L', U', hcp, hcc⟩ := copy_ok nl nu (nI R) (nI C) L U
      simp only [a1, a2, c1, c2, obs, if_neg one0, hcp]
      obtain ⟨nl', nu', vu', vl', vi', al', cl', cu', hG', hQ', hal, l1, l2⟩ := swap_loop hr hs hR6 hC6 (fun r c hr hc => (hG r c hr hc).2.2) su sl si (nI R) (nI C) (C + 1) 0 fuelN fuelN L' U' vu vl vi 1 cl cu (by omega) (by unfold fuelN; omega) (by unfold fuelN; omega) (eqG_copy hR6 hC6 hG hcc) ⟨fun i _ hi => ⟨(hG r i hr hi).1, (hG r i hr hi).2.1, (hG s i hs hi).1, (hG s i hs hi).2.1⟩, fun i hi => by omega, fun i j hi hj _ _ => hcc _ (by omega)⟩ (Or.inl ⟨rfl, fun i hi => by omega⟩)
      rw [show nI 0 = 0 from rfl] at l1 l2
      rw [l1, l2]
      unfold fX0_exchange_94 fX11_swaps_152
      rcases same_ok hR6 hC6 nl' nu' L U su sl si with ⟨su', sl', si', q1, q2⟩ | ⟨su', sl', si', q1, q2⟩
      · have hal1 : al' = 1 := by
          rcases hal with ⟨h, -⟩ | ⟨-, i, hi, h⟩
          · exact h
          · exfalso
            obtain ⟨w1, w2, w3, w4⟩ := hQ'.2.1 i hi
            obtain ⟨x1, x2⟩ := q1 r i hr (by omega)
            exact h ⟨by rw [← x1, w1], by rw [← x2, w2]⟩
        rw [q2, if_neg (by rw [hal1]; exact one0)]
        simp only [obs, if_neg one0]
        exact ⟨_, _, rfl, rfl, rfl, Or.inr (Or.inr (Or.inl rfl)), fun q => absurd (show (2 : Int32) = 0 from q) (by decide), fun q => absurd (show (2 : Int32) = 3 from q) (by decide)⟩
      · have hal0 : al' = 0 := by
          rcases hal with ⟨-, h⟩ | ⟨h, -⟩
          · exfalso
            refine q1 (fun i j hi hj => ?_)
            by_cases e1 : i = r
            · subst e1
              obtain ⟨w1, w2, -, -⟩ := hQ'.2.1 j (by omega)
              obtain ⟨x1, x2⟩ := h j (by omega)
              exact ⟨by rw [w1, x1], by rw [w2, x2]⟩
            · by_cases e2 : i = s
              · subst e2
                obtain ⟨-, -, w1, w2⟩ := hQ'.2.1 j (by omega)
                obtain ⟨x1, x2⟩ := h j (by omega)
                exact ⟨by rw [w1, x1], by rw [w2, x2]⟩
              · exact hQ'.2.2 i j hi hj e1 e2
          · exact h
        rw [q2, if_pos hal0]
        simp only [obs, ↓reduceIte]
        exact ⟨_, _, rfl, rfl, rfl, Or.inl rfl, fun _ => ⟨rfl, rfl, hG'⟩, fun q => absurd (show (0 : Int32) = 3 from q) (by decide)⟩
    · simp only [a1, a2, c1, c2, obs, if_neg one0, ↓reduceIte]
      exact ⟨_, _, rfl, rfl, rfl, Or.inr (Or.inl rfl), fun q => absurd (show (1 : Int32) = 0 from q) (by decide), fun q => absurd (show (1 : Int32) = 3 from q) (by decide)⟩
  · simp only [a1, a2, obs, ↓reduceIte]
    exact ⟨_, _, rfl, rfl, rfl, Or.inr (Or.inl rfl), fun q => absurd (show (1 : Int32) = 0 from q) (by decide), fun q => absurd (show (1 : Int32) = 3 from q) (by decide)⟩
theorem pure_swap : Pure_swap := by
  intro zf hzf p1 p2 x_now_fault x_now_faultPlace x_now_refusal x_now_longRow x_now_longColumn x_now_matrix_rows x_now_matrix_columns x_now_matrix_upper x_now_matrix_lower x_now_tape_length x_now_tape_bytes x_images x_past_size x_past_top x_past_kept x_acts_longRow x_acts_longColumn x_acts_next_rows x_acts_next_columns x_acts_next_upper x_acts_next_lower x_acts_next_sum_upper x_acts_next_sum_lower x_acts_next_sum_isLong x_acts_value_upper x_acts_value_lower x_acts_value_isLong y_taped y_faultKind y_faultPlace y_undos y_brokenRow y_brokenColumn y_all y_tape y_isImage y_cu y_cl hI
  obtain ⟨R, C, cl, cu, hR1, hR6, hC1, hC6, rfl, rfl, hb, hG⟩ := inv_begin hI.1 y_cl y_cu
  obtain ⟨u, v, t1, t2, t3, t4, t5, t6⟩ := exch_ok hR1 hR6 hC6 hG p1 p2 x_acts_next_rows x_acts_next_columns x_acts_next_lower x_acts_next_sum_upper x_acts_next_sum_lower x_acts_next_sum_isLong x_acts_next_upper x_acts_value_upper x_acts_value_lower x_acts_value_isLong
  unfold fX10_swap fX11_swap
  rw [t1, hb]
  simp only [obs]
  rw [t2]
  simp only [obs]
  rw [t3]
  obtain ⟨u2, v2, c1, c2, c3, c4⟩ := concl_ok hR6 hC6 hI t4 x_acts_longRow x_acts_longColumn u.2.1 u.2.2.1 u.2.2.2.1 u.2.2.2.2.2.2.2.1 v.2.1 v.2.2 y_brokenRow y_brokenColumn t5 (fun q => absurd q t6) zf
  rw [c1, c2]
  simp only [obs]
  exact ⟨_, _, rfl, rfl, c3, c4⟩
