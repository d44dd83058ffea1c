/-! The reference's copy of a matrix; rows and columns that are there. -/
theorem nI3 (b c k : Nat) : nI b + nI c + nI k = nI (b + c + k) := by rw [nI_add, nI_add]
theorem laysFrom_loop {b : Nat} (hb : b + 86 ≤ 3371) (all : Nat → Int32) (R C : Int32) : ∀ (m k fuel : Nat) (cl cu : Nat → Int32), k + m = 42 → m + 1 ≤ fuel → (∀ j, j < k → cu j = all (b + 2 + j) ∧ cl j = all (b + 44 + j)) → ∃ cl' cu', fX11_laysFrom_26 (nI b) all R C fuel (nI k) cl cu = some (R, C, cl', cu') ∧ ∀ j, j < 42 → cu' j = all (b + 2 + j) ∧ cl' j = all (b + 44 + j) := by
  intro m
  induction m with
  | zero =>
    intro k fuel cl cu hk hf hj
    obtain ⟨fuel, rfl⟩ : ∃ f, fuel = f + 1 := ⟨fuel - 1, by omega⟩
    obtain rfl : k = 42 := by omega
    exact ⟨cl, cu, by rw [fX11_laysFrom_26_s, if_pos (show (42 : Int32) ≤ nI 42 by decide)], hj⟩
  | succ m ih =>
    intro k fuel cl cu hk hf hj
    obtain ⟨fuel, rfl⟩ : ∃ f, fuel = f + 1 := ⟨fuel - 1, by omega⟩
    have e2 : nI b + 2 + nI k = nI (b + 2 + k) := nI3 b 2 k
    have e44 : nI b + 44 + nI k = nI (b + 44 + k) := nI3 b 44 k
    obtain ⟨cl', cu', h1, h2⟩ := ih (k + 1) fuel (upd cl k (all (b + 44 + k))) (upd cu k (all (b + 2 + k))) (by omega) (by omega) (by
      intro j hjk
      by_cases h : j = k
      · subst h
        rw [pk_us, pk_us]
        exact ⟨rfl, rfl⟩
      · rw [pk_un h, pk_un h]
        exact hj j (by omega))
    refine ⟨cl', cu', ?_, h2⟩
    rw [fX11_laysFrom_26_s, if_neg (nI_ge42 (by omega))]
    simp only [lt_def, e2, e44, inB_ok (n := 3371) (i := b + 2 + k) (by omega) (by omega), inB_ok (n := 3371) (i := b + 44 + k) (by omega) (by omega), inB_ok (n := 42) (i := k) (by omega) (by omega), nI_clamp (n := b + 2 + k) (by omega), nI_clamp (n := b + 44 + k) (by omega), nI_clamp (n := k) (by omega), ← nI_succ]
    exact h1
theorem begins_ok {b : Nat} (hb : b + 86 ≤ 3371) (all cl cu : Nat → Int32) : ∃ cl' cu', fX11_begins (nI b) all cl cu = some (all b, all (b + 1), 0, nI b, cl', cu') ∧ ∀ j, j < 42 → cu' j = all (b + 2 + j) ∧ cl' j = all (b + 44 + j) := by
  obtain ⟨cl', cu', h1, h2⟩ := laysFrom_loop hb all (all b) (all (b + 1)) 42 0 fuelN cl cu (by omega) (by unfold fuelN; omega) (by intro j h; omega)
  refine ⟨cl', cu', ?_, h2⟩
  have e0 : nI b + 0 = nI b := by rw [show (0 : Int32) = nI 0 from rfl, nI_add]; rfl
  have e1 : nI b + 1 = nI (b + 1) := nI_add b 1
  unfold fX11_begins fX11_laysFrom
  simp only [lt_def, e0, e1, inB_ok (n := 3371) (i := b) (by omega) (by omega), inB_ok (n := 3371) (i := b + 1) (by omega) (by omega), nI_clamp (n := b) (by omega), nI_clamp (n := b + 1) (by omega)]
  rw [show (0 : Int32) = nI 0 from rfl, h1]
  rfl
/-- a row that is there, or not: both say so -/
theorem row_cases (p : Int32) {R : Nat} (h1 : 1 ≤ R) (h6 : R ≤ 6) : (∃ j, j < R ∧ p = nI j ∧ fX1_hasRow p (nI R) = some 1 ∧ fX11_isRow p (nI R) = some 1) ∨ (fX1_hasRow p (nI R) = some 0 ∧ fX11_isRow p (nI R) = some 0) := by
  have e : nI R - 1 = nI (R - 1) := pk_sub (a := R) (b := 1) h1
  rcases pk_ix p (n := R) (by omega) with h | h | ⟨j, hj, rfl⟩
  · right
    refine ⟨?_, ?_⟩
    · unfold fX1_hasRow
      rw [if_pos h]
    · unfold fX11_isRow fX11_isIn
      rw [if_pos h]
      rfl
  · right
    have h0 : ¬ p < 0 := fun q => by
      rw [Int32.lt_iff_toInt_lt] at q
      rw [Int32.le_iff_toInt_le, nI_toInt (by omega)] at h
      have e0 : (0 : Int32).toInt = 0 := rfl
      omega
    refine ⟨?_, ?_⟩
    · unfold fX1_hasRow
      rw [if_neg h0, if_pos h]
    · unfold fX11_isRow fX11_isIn
      rw [e, if_neg h0, if_pos (by
        rw [Int32.lt_iff_toInt_lt, nI_toInt (by omega)]
        rw [Int32.le_iff_toInt_le, nI_toInt (by omega)] at h
        omega)]
      rfl
  · left
    refine ⟨j, hj, rfl, ?_, ?_⟩
    · unfold fX1_hasRow
      rw [if_neg (nI_pos (by omega)), if_neg (nI_ge hj (by omega))]
    · unfold fX11_isRow fX11_isIn
      rw [e, if_neg (nI_pos (by omega)), if_neg (nI_nlt (a := R - 1) (b := j) (by omega) (by omega))]
      rfl
/-- a column or the side -/
theorem side_cases (p : Int32) {C : Nat} (h6 : C ≤ 6) : (∃ j, j ≤ C ∧ p = nI j ∧ fX1_hasColumnOrSide p (nI C) = some 1 ∧ fX11_isIn p 0 (nI C) = some 1) ∨ (fX1_hasColumnOrSide p (nI C) = some 0 ∧ fX11_isIn p 0 (nI C) = some 0) := by
  rcases pk_ix p (n := C + 1) (by omega) with h | h | ⟨j, hj, rfl⟩
  · right
    unfold fX1_hasColumnOrSide fX11_isIn
    rw [if_pos h]
    exact ⟨rfl, rfl⟩
  · right
    have h0 : ¬ p < 0 := fun q => by
      rw [Int32.lt_iff_toInt_lt] at q
      rw [Int32.le_iff_toInt_le, nI_toInt (by omega)] at h
      have e0 : (0 : Int32).toInt = 0 := rfl
      omega
    have h1 : nI C < p := by
      rw [Int32.lt_iff_toInt_lt, nI_toInt (by omega)]
      rw [Int32.le_iff_toInt_le, nI_toInt (by omega)] at h
      omega
    unfold fX1_hasColumnOrSide fX11_isIn
    rw [if_neg h0, if_pos h1]
    exact ⟨rfl, rfl⟩
  · left
    refine ⟨j, by omega, rfl, ?_⟩
    unfold fX1_hasColumnOrSide fX11_isIn
    rw [if_neg (nI_pos (by omega)), if_neg (nI_nlt (a := C) (b := j) (by omega) (by omega))]
    exact ⟨rfl, rfl⟩
/-- a column -/
theorem col_cases (p : Int32) {C : Nat} (h1 : 1 ≤ C) (h6 : C ≤ 6) : (∃ j, j < C ∧ p = nI j ∧ fX1_hasColumn p (nI C) = some 1 ∧ fX11_isIn p 0 (nI C - 1) = some 1) ∨ (fX1_hasColumn p (nI C) = some 0 ∧ fX11_isIn p 0 (nI C - 1) = some 0) := by
  have e : nI C - 1 = nI (C - 1) := pk_sub (a := C) (b := 1) h1
  rcases pk_ix p (n := C) (by omega) with h | h | ⟨j, hj, rfl⟩
  · right
    unfold fX1_hasColumn fX11_isIn
    rw [if_pos h, if_pos h]
    exact ⟨rfl, rfl⟩
  · right
    have h0 : ¬ p < 0 := fun q => by
      rw [Int32.lt_iff_toInt_lt] at q
      rw [Int32.le_iff_toInt_le, nI_toInt (by omega)] at h
      have e0 : (0 : Int32).toInt = 0 := rfl
      omega
    have h2 : nI (C - 1) < p := by
      rw [Int32.lt_iff_toInt_lt, nI_toInt (by omega)]
      rw [Int32.le_iff_toInt_le, nI_toInt (by omega)] at h
      omega
    unfold fX1_hasColumn fX11_isIn
    rw [e, if_neg h0, if_neg h0, if_pos h, if_pos h2]
    exact ⟨rfl, rfl⟩
  · left
    refine ⟨j, hj, rfl, ?_⟩
    unfold fX1_hasColumn fX11_isIn
    rw [e, if_neg (nI_pos (by omega)), if_neg (nI_pos (by omega)), if_neg (nI_ge hj (by omega)), if_neg (nI_nlt (a := C - 1) (b := j) (by omega) (by omega))]
    exact ⟨rfl, rfl⟩
theorem pure_entry : Pure_entry := by
  intro p1 p2 p3 nf nfp nr nlr nlc mr mc mu ml tl tb ic ps pt pk yt yk yp yu ya ytp yi ycu ycl hz h
  have h0 := h
  obtain ⟨⟨e1, e2, ⟨hr1, hr6⟩, ⟨hc1, hc6⟩, hcell⟩, -⟩ := h
  dsimp only at e1 e2 hr1 hr6 hc1 hc6 hcell
  obtain ⟨R, hR1, hR6, rfl⟩ := dim_ok hr1 hr6
  obtain ⟨C, hC1, hC6, rfl⟩ := dim_ok hc1 hc6
  obtain ⟨cl', cu', hb, hcc⟩ := begins_ok (b := 0) (by omega) ya ycl ycu
  have hb : fX11_begins 0 ya ycl ycu = some (nI R, nI C, 0, 0, cl', cu') := by
    rw [show (0 : Int32) = nI 0 from rfl, hb, ← e1, ← e2]
    rfl
  unfold fX10_entry fX11_entry fX11_isPlace
  rw [hb]
  simp only [Option.bind_some]
  rcases row_cases p1 hR1 hR6 with ⟨r, hr, rfl, a1, a2⟩ | ⟨a1, a2⟩
  · rcases side_cases p2 hC6 with ⟨k, hk, rfl, b1, b2⟩ | ⟨b1, b2⟩
    · have hx := hcell r k (by rw [nI_toInt (by omega)]; omega) (by rw [nI_toInt (by omega)]; omega)
      have hy := hcc (7 * r + k) (lt42 (by omega) (by omega))
      simp only [a1, a2, b1, b2, Option.bind_some, if_neg (show ¬ (1 : Int32) = 0 by decide), upperAt_ok (r := r) (c := k) (by omega) (by omega), lowerAt_ok (r := r) (c := k) (by omega) (by omega), cell_ok, inB_ok (n := 42) (i := 7 * r + k) (lt42 (by omega) (by omega)) (by omega), nI_clamp (n := 7 * r + k) (by omega)]
      by_cases h3 : p3 = 0
      · rw [if_pos h3, if_pos h3]
        exact ⟨_, _, rfl, rfl, by rw [hx.1, hy.1], h0⟩
      · rw [if_neg h3, if_neg h3]
        exact ⟨_, _, rfl, rfl, by rw [hx.2.1, hy.2], h0⟩
    · simp only [a1, a2, b1, b2, Option.bind_some, if_neg (show ¬ (1 : Int32) = 0 by decide), if_pos]
      exact ⟨_, _, rfl, rfl, rfl, h0⟩
  · simp only [a1, a2, Option.bind_some, if_pos]
    exact ⟨_, _, rfl, rfl, rfl, h0⟩
