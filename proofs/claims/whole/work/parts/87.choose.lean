/-! Which place is better; the pivot that is chosen. -/
theorem abs_mul {u l : Int32} (hu : u.toInt.natAbs ≤ 1000000000) (hl : l.toInt.natAbs ≤ 1000000000) (h0 : 0 < l.toInt) : ((if 0 < u.toInt64 then u.toInt64 else -u.toInt64) * l.toInt64).toInt = ((u.toInt * l.toInt).natAbs : Int) := by
  have h := m64 hu hl
  have hn : (u.toInt * l.toInt).natAbs = u.toInt.natAbs * l.toInt.natAbs := Int.natAbs_mul _ _
  split
  · rename_i hc
    rw [Int64.lt_iff_toInt_lt, i64, l_0] at hc
    rw [h.1]
    have := Int.mul_pos hc h0
    omega
  · rename_i hc
    rw [Int64.lt_iff_toInt_lt, i64, l_0] at hc
    rw [Int64.neg_mul, l_neg (by rw [h.1]; omega), h.1]
    have : u.toInt * l.toInt ≤ 0 := Int.mul_nonpos_of_nonpos_of_nonneg (by omega) (by omega)
    omega
theorem abs_ge {x : Int64} (h : x.toInt.natAbs < 2 ^ 62) : (if 0 ≤ lg_cmp x 0 then x else -x).toInt = (x.toInt.natAbs : Int) := by
  split
  · rename_i hc
    rw [lg_cmp_ge, Int64.le_iff_toInt_le, l_0] at hc
    omega
  · rename_i hc
    rw [lg_cmp_ge, Int64.le_iff_toInt_le, l_0] at hc
    rw [l_neg (by omega)]
    omega
theorem ite_some {c : Prop} [Decidable c] (a b : Int32) : (if c then some a else some b) = some (if c then a else b) := by split <;> rfl
theorem great_ok {x y : Nat} {U L cu cl : Nat → Int32} (hx : x < 42) (hy : y < 42) (hGx : cu x = U x ∧ cl x = L x ∧ goodE (U x) (L x)) (hGy : cu y = U y ∧ cl y = L y ∧ goodE (U y) (L y)) : fX11_isGreater (nI x) (nI y) cl cu = some (if lg_cmp ((if 0 < (U x).toInt64 then (U x).toInt64 else -(U x).toInt64) * (L y).toInt64) ((if 0 < (U y).toInt64 then (U y).toInt64 else -(U y).toInt64) * (L x).toInt64) ≤ 0 then 0 else 1) := by
  obtain ⟨e1, e2, g1⟩ := hGx
  obtain ⟨e3, e4, g2⟩ := hGy
  have b1 := good_bd g1
  have b2 := good_bd g2
  have a1 := abs_mul b1.1 b2.2.1 b2.2.2
  have a2 := abs_mul b2.1 b1.2.1 b1.2.2
  have m1 := m64 b1.1 b2.2.1
  have m2 := m64 b2.1 b1.2.1
  have c1 := abs_ge (x := (U x).toInt64 * (L y).toInt64) (by rw [m1.1]; omega)
  have c2 := abs_ge (x := (U y).toInt64 * (L x).toInt64) (by rw [m2.1]; omega)
  rw [m1.1] at c1
  rw [m2.1] at c2
  have hh : ∀ P Q : Int64, P.toInt = (((U x).toInt * (L y).toInt).natAbs : Int) → Q.toInt = (((U y).toInt * (L x).toInt).natAbs : Int) → (lg_cmp P Q ≤ 0 ↔ lg_cmp ((if 0 < (U x).toInt64 then (U x).toInt64 else -(U x).toInt64) * (L y).toInt64) ((if 0 < (U y).toInt64 then (U y).toInt64 else -(U y).toInt64) * (L x).toInt64) ≤ 0) := by
    intro P Q hP hQ
    rw [lg_cmp_le, lg_cmp_le, Int64.le_iff_toInt_le, Int64.le_iff_toInt_le, a1, a2, hP, hQ]
  unfold fX11_isGreater fX11_isGreater_45
  simp only [inB_ok (n := 42) hx (by omega), inB_ok (n := 42) hy (by omega), nI_clamp (n := x) (by omega), nI_clamp (n := y) (by omega), lt_def, e1, e2, e3, e4]
  by_cases s1 : 0 ≤ lg_cmp ((U x).toInt64 * (L y).toInt64) 0
  · rw [if_pos s1] at c1 ⊢
    by_cases s2 : 0 ≤ lg_cmp ((U y).toInt64 * (L x).toInt64) 0
    · rw [if_pos s2] at c2 ⊢
      simp only [hh _ _ c1 c2]
      exact ite_some _ _
    · rw [if_neg s2] at c2 ⊢
      simp only [hh _ _ c1 c2]
      exact ite_some _ _
  · rw [if_neg s1] at c1 ⊢
    by_cases s2 : 0 ≤ lg_cmp ((U y).toInt64 * (L x).toInt64) 0
    · rw [if_pos s2] at c2 ⊢
      simp only [hh _ _ c1 c2]
      exact ite_some _ _
    · rw [if_neg s2] at c2 ⊢
      simp only [hh _ _ c1 c2]
      exact ite_some _ _
theorem better_ok (rule : Int32) {r c br bc R C mr mc : Nat} {U L cu cl lr lc : Nat → Int32} (hrR : r < R) (hcC : c < C) (hbrR : br < R) (hbcC : bc < C) (hR : R ≤ 6) (hC : C ≤ 6) (hG : eqG R C U L cu cl) (h1 : liveAt mr R lr) (h2 : liveAt mc C lc) : ∃ b, (b = 0 ∨ b = 1) ∧ fX7_isBetter rule (nI r) (nI c) (nI mr) (nI mc) (nI br) (nI bc) (nI R) (nI C) L U = some b ∧ fX11_isBetter rule (nI r) (nI c) (nI br) (nI bc) (nI R) (nI C) cl cu lc lr = some b := by
  have hr : r < 6 := by omega
  have hc : c < 6 := by omega
  have hbr : br < 6 := by omega
  have hbc : bc < 6 := by omega
  unfold fX7_isBetter fX11_isBetter
  rw [if_neg (neg1 (n := br) (by omega))]
  by_cases k0 : rule = 0
  · rw [if_pos k0, if_pos k0]
    by_cases q : nI bc ≤ nI c
    · exact ⟨0, Or.inl rfl, if_pos q, if_pos q⟩
    · exact ⟨1, Or.inr rfl, if_neg q, if_neg q⟩
  rw [if_neg k0, if_neg k0]
  by_cases k1 : rule = 1
  · rw [if_pos k1, if_pos k1]
    obtain ⟨w1, a1, a2⟩ := weight_ok (r := r) (c := c) hrR hcC hR hC (fun r c hr hc => (hG r c hr hc).1) h1 h2
    obtain ⟨w2, a3, a4⟩ := weight_ok (r := br) (c := bc) hbrR hbcC hR hC (fun r c hr hc => (hG r c hr hc).1) h1 h2
    rw [a1, a2, a3, a4]
    simp only [Option.bind_some]
    by_cases q : w2 ≤ w1
    · exact ⟨0, Or.inl rfl, if_pos q, if_pos q⟩
    · exact ⟨1, Or.inr rfl, if_neg q, if_neg q⟩
  rw [if_neg k1, if_neg k1]
  rw [upperAt_ok hr (by omega), upperAt_ok hbr (by omega), lowerAt_ok hr (by omega), lowerAt_ok hbr (by omega), cell_ok, cell_ok]
  simp only [Option.bind_some, lt_def]
  rw [great_ok (lt42 hr (by omega)) (lt42 hbr (by omega)) (hG r c hrR (by omega)) (hG br bc hbrR (by omega))]
  simp only [Option.bind_some]
  generalize lg_cmp (_ * _) (_ * _) = z
  split
  · exact ⟨0, Or.inl rfl, rfl, rfl⟩
  · exact ⟨1, Or.inr rfl, rfl, rfl⟩
/-- the best place till now -/
def bestP (R C : Nat) (lr lc U : Nat → Int32) (br bc : Int32) : Prop := (br = -1 ∧ bc = -1) ∨ ∃ i j, i < R ∧ j < C ∧ br = nI i ∧ bc = nI j ∧ ¬ lr i = 0 ∧ ¬ lc j = 0 ∧ ¬ U (7 * i + j) = 0
theorem choose_in (rule : Int32) {r R C mr mc : Nat} {U L cu cl lr lc : Nat → Int32} (hr : r < R) (hR : R ≤ 6) (hC : C ≤ 6) (hG : eqG R C U L cu cl) (h1 : liveAt mr R lr) (h2 : liveAt mc C lc) (rec : Int32 → Int32 → Int32 → Option (Int32 × Int32)) (rec' : Int32 → Int32 → Int32 → Option (Int32 × (Nat → Int32) × (Nat → Int32) × (Nat → Int32) × (Nat → Int32))) :
    ∀ (m c fuel fuel' : Nat) (br bc : Int32), c + m = C → m + 1 ≤ fuel → m + 1 ≤ fuel' → bestP R C lr lc U br bc → ∃ br' bc', bestP R C lr lc U br' bc' ∧ fX7_choose_25 rule (nI mr) (nI mc) (nI R) (nI C) L U (nI r) rec fuel (nI c) br bc = rec (nI (r + 1)) br' bc' ∧ fX11_pivots_19 rule (nI R) (nI C) cl cu lc lr (nI r) rec' fuel' br bc (nI c) = rec' br' bc' (nI (r + 1)) := by
  intro m
  induction m with
  | zero =>
    intro c fuel fuel' br bc hm hf hf' hb
    obtain ⟨fuel, rfl⟩ : ∃ f, fuel = f + 1 := ⟨fuel - 1, by omega⟩
    obtain ⟨fuel', rfl⟩ : ∃ f, fuel' = f + 1 := ⟨fuel' - 1, by omega⟩
    obtain rfl : c = C := by omega
    refine ⟨br, bc, hb, ?_, ?_⟩
    · rw [fX7_choose_25_s, if_pos (nI_le (Nat.le_refl _) (by omega)), nI_succ]
      rfl
    · rw [fX11_pivots_19_s, if_pos (nI_le (Nat.le_refl _) (by omega)), nI_succ]
      rfl
  | succ m ih =>
    intro c fuel fuel' br bc hm hf hf' hb
    obtain ⟨fuel, rfl⟩ : ∃ f, fuel = f + 1 := ⟨fuel - 1, by omega⟩
    obtain ⟨fuel', rfl⟩ : ∃ f, fuel' = f + 1 := ⟨fuel' - 1, by omega⟩
    have hrc := lt42 (show r < 6 by omega) (show c < 7 by omega)
    obtain ⟨e1, e2, -⟩ := hG r c hr (by omega)
    rw [fX7_choose_25_s, if_neg (nI_ge (by omega) (by omega)), isLive_ok hr hR (show c < C by omega) hC h1 h2]
    rw [fX11_pivots_19_s, if_neg (nI_ge (by omega) (by omega))]
    simp only [Option.bind_some, ← nI_succ, inB_ok (n := 6) (i := r) (by omega) (by omega), inB_ok (n := 6) (i := c) (by omega) (by omega), nI_clamp (n := r) (by omega), nI_clamp (n := c) (by omega), cell_ok, inB_ok (n := 42) (i := 7 * r + c) hrc (by omega), nI_clamp (n := 7 * r + c) (by omega), e1]
    by_cases hl : lr r = 0
    · simp only [if_pos hl, ↓reduceIte]
      exact ih (c + 1) _ _ _ _ (by omega) (by omega) (by omega) hb
    by_cases hl2 : lc c = 0
    · simp only [if_neg hl, if_pos hl2, ↓reduceIte]
      exact ih (c + 1) _ _ _ _ (by omega) (by omega) (by omega) hb
    by_cases hu : U (7 * r + c) = 0
    · simp only [if_neg hl, if_neg hl2, if_pos hu, ↓reduceIte]
      exact ih (c + 1) _ _ _ _ (by omega) (by omega) (by omega) hb
    simp only [if_neg hl, if_neg hl2, if_neg hu, if_neg one0]
    have hnew : bestP R C lr lc U (nI r) (nI c) := Or.inr ⟨r, c, hr, by omega, rfl, rfl, hl, hl2, hu⟩
    rcases hb with ⟨rfl, rfl⟩ | ⟨i, j, hi, hj, rfl, rfl, q1, q2, q3⟩
    · rw [if_pos rfl]
      simp only [fX11_isBetter, if_pos (rfl : (-1 : Int32) = -1), Option.bind_some, if_neg one0]
      exact ih (c + 1) _ _ _ _ (by omega) (by omega) (by omega) hnew
    · rw [if_neg (neg1 (by omega))]
      obtain ⟨b, hb, b1, b2⟩ := better_ok rule (r := r) (c := c) (br := i) (bc := j) (by omega) (by omega) (by omega) (by omega) hR hC hG h1 h2
      rw [b1, b2]
      simp only [Option.bind_some]
      rcases hb with rfl | rfl
      · rw [if_pos rfl, if_pos rfl]
        exact ih (c + 1) _ _ _ _ (by omega) (by omega) (by omega) (Or.inr ⟨i, j, hi, hj, rfl, rfl, q1, q2, q3⟩)
      · rw [if_neg one0, if_neg one0]
        exact ih (c + 1) _ _ _ _ (by omega) (by omega) (by omega) hnew
theorem choose_out (rule : Int32) {R C mr mc : Nat} {U L cu cl lr lc : Nat → Int32} (hR : R ≤ 6) (hC : C ≤ 6) (hG : eqG R C U L cu cl) (h1 : liveAt mr R lr) (h2 : liveAt mc C lc) (rank : Int32) (pC pF pR pW : Nat → Int32) :
    ∀ (m r fuel fuel' : Nat) (br bc : Int32), r + m = R → m + 1 ≤ fuel → m + 1 ≤ fuel' → bestP R C lr lc U br bc → ∃ br' bc', bestP R C lr lc U br' bc' ∧ fX7_choose_12 rule (nI mr) (nI mc) (nI R) (nI C) L U fuel (nI r) br bc = some (br', bc') ∧ fX11_pivots_7 rule (nI R) (nI C) rank cl cu lc lr pC pF pR pW fuel' br bc (nI r) = fX11_pivots_98 (nI R) (nI C) rank cu lc lr pC pF pR pW br' bc' := by
  intro m
  induction m with
  | zero =>
    intro r fuel fuel' br bc hm hf hf' hb
    obtain ⟨fuel, rfl⟩ : ∃ f, fuel = f + 1 := ⟨fuel - 1, by omega⟩
    obtain ⟨fuel', rfl⟩ : ∃ f, fuel' = f + 1 := ⟨fuel' - 1, by omega⟩
    obtain rfl : r = R := by omega
    refine ⟨br, bc, hb, ?_, ?_⟩
    · rw [fX7_choose_12_s, if_pos (nI_le (Nat.le_refl _) (by omega))]
    · rw [fX11_pivots_7_s, if_pos (nI_le (Nat.le_refl _) (by omega))]
  | succ m ih =>
    intro r fuel fuel' br bc hm hf hf' hb
    obtain ⟨fuel, rfl⟩ : ∃ f, fuel = f + 1 := ⟨fuel - 1, by omega⟩
    obtain ⟨fuel', rfl⟩ : ∃ f, fuel' = f + 1 := ⟨fuel' - 1, by omega⟩
    rw [fX7_choose_12_s, if_neg (nI_ge (by omega) (by omega)), fX11_pivots_7_s, if_neg (nI_ge (by omega) (by omega))]
    obtain ⟨br', bc', hb', q1, q2⟩ := choose_in rule (r := r) (by omega) hR hC hG h1 h2 (fX7_choose_12 rule (nI mr) (nI mc) (nI R) (nI C) L U fuel) (fX11_pivots_7 rule (nI R) (nI C) rank cl cu lc lr pC pF pR pW fuel') C 0 fuelN fuelN br bc (by omega) (by unfold fuelN; omega) (by unfold fuelN; omega) hb
    rw [show (0 : Int32) = nI 0 from rfl, q1, q2]
    exact ih (r + 1) _ _ _ _ (by omega) (by omega) (by omega) hb'
theorem choose_ok (rule : Int32) {R C mr mc k : Nat} {U L cu cl lr lc : Nat → Int32} (hk : k < 6 ∨ ∀ i, i < R → lr i = 0) (hR : R ≤ 6) (hC : C ≤ 6) (hG : eqG R C U L cu cl) (h1 : liveAt mr R lr) (h2 : liveAt mc C lc) (pC pF pR pW : Nat → Int32) :
    (fX7_choose rule (nI mr) (nI mc) (nI R) (nI C) L U = some (-1, -1) ∧ fX11_pivots rule (nI R) (nI C) (nI k) cl cu lc lr pC pF pR pW = some (0, pC, pF, pR, pW)) ∨
    (∃ i j w, i < R ∧ j < C ∧ ¬ lr i = 0 ∧ ¬ lc j = 0 ∧ ¬ U (7 * i + j) = 0 ∧ fX7_choose rule (nI mr) (nI mc) (nI R) (nI C) L U = some (nI i, nI j) ∧ fX7_weightOf (nI i) (nI j) (nI mr) (nI mc) (nI R) (nI C) U = some w ∧ fX11_pivots rule (nI R) (nI C) (nI k) cl cu lc lr pC pF pR pW = some (1, upd pC k (nI j), upd pF k 0, upd pR k (nI i), upd pW k w)) := by
  unfold fX7_choose fX11_pivots
  obtain ⟨br', bc', hb', q1, q2⟩ := choose_out rule hR hC hG h1 h2 (nI k) pC pF pR pW R 0 fuelN fuelN (-1) (-1) (by omega) (by unfold fuelN; omega) (by unfold fuelN; omega) (Or.inl ⟨rfl, rfl⟩)
  rw [show (0 : Int32) = nI 0 from rfl, q1, q2]
  unfold fX11_pivots_98
  rcases hb' with ⟨rfl, rfl⟩ | ⟨i, j, hi, hj, rfl, rfl, p1, p2, p3⟩
  · left
    rw [if_pos rfl]
    exact ⟨rfl, rfl⟩
  · right
    obtain ⟨w, a1, a2⟩ := weight_ok (r := i) (c := j) hi hj hR hC (fun r c hr hc => (hG r c hr hc).1) h1 h2
    have hk : k < 6 := by
      rcases hk with h | h
      · exact h
      · exact absurd (h i hi) p1
    refine ⟨i, j, w, hi, hj, p1, p2, p3, rfl, a1, ?_⟩
    rw [if_neg (neg1 (by omega))]
    simp only [inB_ok (n := 6) hk (by omega), nI_clamp (n := k) (by omega), lt_def, a2, Option.bind_some]
    rfl
