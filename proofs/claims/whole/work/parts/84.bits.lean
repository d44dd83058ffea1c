/-! Bits: rows and columns of a grid as numbers; how many. -/
def bN (f : Nat → Bool) : Nat → Nat
  | 0 => 0
  | n + 1 => bN f n ||| (if f n then 2 ^ n else 0)
def cN (f : Nat → Bool) : Nat → Nat
  | 0 => 0
  | n + 1 => cN f n + (if f n then 1 else 0)
theorem bN_s (f : Nat → Bool) (n : Nat) : bN f (n + 1) = bN f n ||| (if f n then 2 ^ n else 0) := rfl
theorem cN_s (f : Nat → Bool) (n : Nat) : cN f (n + 1) = cN f n + (if f n then 1 else 0) := rfl
theorem bN_bit (f : Nat → Bool) (i : Nat) : ∀ n, (bN f n).testBit i = (decide (i < n) && f i) := by
  intro n
  induction n with
  | zero => simp [bN]
  | succ n ih =>
    rw [bN_s, Nat.testBit_or, ih]
    by_cases h : f n
    · rw [if_pos h, Nat.testBit_two_pow]
      by_cases e : n = i
      · subst e; simp [h]
      · have : (i < n + 1) ↔ (i < n) := by omega
        simp [e, this]
    · rw [if_neg h, Nat.zero_testBit, Bool.or_false]
      by_cases e : n = i
      · subst e; simp [h]
      · have : (i < n + 1) ↔ (i < n) := by omega
        simp [this]
theorem bN_lt (f : Nat → Bool) : ∀ n, bN f n < 2 ^ n := by
  intro n
  induction n with
  | zero => simp [bN]
  | succ n ih =>
    rw [bN_s]
    refine Nat.or_lt_two_pow (by rw [Nat.pow_succ]; omega) ?_
    split
    · exact Nat.pow_lt_pow_right (by omega) (by omega)
    · exact Nat.two_pow_pos _
theorem cN_congr {f g : Nat → Bool} : ∀ n, (∀ i, i < n → f i = g i) → cN f n = cN g n := by
  intro n
  induction n with
  | zero => intro _; rfl
  | succ n ih =>
    intro h
    rw [cN_s, cN_s, ih (fun i hi => h i (by omega)), h n (by omega)]
theorem cN_le (f : Nat → Bool) : ∀ n, cN f n ≤ n := by
  intro n
  induction n with
  | zero => exact Nat.le_refl _
  | succ n ih => rw [cN_s]; split <;> omega
/-- nothing from n on -/
theorem cN_end {f : Nat → Bool} {n : Nat} (h : ∀ i, n ≤ i → f i = false) : ∀ m, n ≤ m → cN f m = cN f n := by
  intro m hm
  induction m with
  | zero => obtain rfl : n = 0 := by omega
            rfl
  | succ m ih =>
    by_cases e : n = m + 1
    · subst e; rfl
    · rw [cN_s, h m (by omega), ih (by omega)]
      simp
theorem b_or : ∀ a, a < 128 → ∀ n, n < 7 → nI a ||| ((1 : Int32) <<< (nI n &&& 31)) = nI (a ||| 2 ^ n) := by decide +kernel
theorem b_pc : ∀ a, a < 128 → fJ6_bitCount_0f7a4 (nI a) = some (nI (cN a.testBit 7)) := by decide +kernel
theorem b_get : ∀ m, m < 64 → ∀ i, i < 6 → ((nI m >>> (nI i &&& 31)) &&& 1) = (if m.testBit i then 1 else 0) := by decide +kernel
theorem b_del : ∀ m, m < 64 → ∀ i, i < 6 → (nI m &&& (((1 : Int32) <<< (nI i &&& 31)) ^^^ (-1))) = nI (m &&& (63 - 2 ^ i)) := by decide +kernel
theorem b_delb : ∀ m, m < 64 → ∀ i, i < 6 → m &&& (63 - 2 ^ i) < 64 ∧ ∀ j, j < 6 → (m &&& (63 - 2 ^ i)).testBit j = (m.testBit j && !(decide (j = i))) := by decide +kernel
theorem b_all : ∀ n, n < 7 → ((1 : Int32) <<< (nI n &&& 31)) - 1 = nI (2 ^ n - 1) := by decide +kernel
theorem b_allb : ∀ n, n < 7 → ∀ j, j < 7 → (2 ^ n - 1).testBit j = decide (j < n) := by decide +kernel
theorem b_and (a b : Nat) : nI a &&& nI b = nI (a &&& b) := by
  apply Int32.toBitVec_inj.mp
  rw [Int32.toBitVec_and]
  exact (BitVec.ofNat_and ..).symm
/-- a cell that is not 0 -/
def nz (U : Nat → Int32) (r c : Nat) : Bool := decide (¬ U (7 * r + c) = 0)
theorem rowBits_loop {r C : Nat} (U : Nat → Int32) (hr : r < 6) (hC : C ≤ 6) : ∀ (m c fuel : Nat), c + m = C + 1 → m + 1 ≤ fuel → fX1_rowBits_4 (nI r) (nI C) U fuel (nI (bN (nz U r) c)) (nI c) = some (nI (bN (nz U r) (C + 1))) := by
  intro m
  induction m with
  | zero =>
    intro c fuel hc hf
    obtain ⟨fuel, rfl⟩ : ∃ f, fuel = f + 1 := ⟨fuel - 1, by omega⟩
    obtain rfl : c = C + 1 := by omega
    rw [fX1_rowBits_4_s, if_pos (nI_lt (by omega) (by omega))]
  | succ m ih =>
    intro c fuel hc hf
    obtain ⟨fuel, rfl⟩ : ∃ f, fuel = f + 1 := ⟨fuel - 1, by omega⟩
    have hb : bN (nz U r) c < 128 := Nat.lt_of_lt_of_le (bN_lt _ c) (Nat.pow_le_pow_right (by omega) (show c ≤ 7 by omega))
    have := ih (c + 1) fuel (by omega) (by omega)
    rw [fX1_rowBits_4_s, if_neg (nI_nlt (by omega) (by omega)), upperAt_ok hr (by omega)]
    simp only [Option.bind_some, lt_def, ← nI_succ, b_or _ hb c (by omega)]
    rw [bN_s] at this
    by_cases h : U (7 * r + c) = 0
    · rw [if_pos h]
      rw [if_neg (by simp [nz, h]), Nat.or_zero] at this
      exact this
    · rw [if_neg h]
      rw [if_pos (by simp [nz, h])] at this
      exact this
theorem rowBits_ok {r C : Nat} (U : Nat → Int32) (hr : r < 6) (hC : C ≤ 6) : fX1_rowBits (nI r) (nI C) U = some (nI (bN (nz U r) (C + 1))) :=
  rowBits_loop U hr hC (C + 1) 0 fuelN (by omega) (by unfold fuelN; omega)
theorem colBits_loop {c R : Nat} (U : Nat → Int32) (hc : c < 7) (hR : R ≤ 6) : ∀ (m r fuel : Nat), r + m = R → m + 1 ≤ fuel → fX1_columnBits_4 (nI c) (nI R) U fuel (nI (bN (fun r => nz U r c) r)) (nI r) = some (nI (bN (fun r => nz U r c) R)) := by
  intro m
  induction m with
  | zero =>
    intro r fuel hr hf
    obtain ⟨fuel, rfl⟩ : ∃ f, fuel = f + 1 := ⟨fuel - 1, by omega⟩
    obtain rfl : r = R := by omega
    rw [fX1_columnBits_4_s, if_pos (nI_le (Nat.le_refl _) (by omega))]
  | succ m ih =>
    intro r fuel hr hf
    obtain ⟨fuel, rfl⟩ : ∃ f, fuel = f + 1 := ⟨fuel - 1, by omega⟩
    have hb : bN (fun r => nz U r c) r < 128 := Nat.lt_of_lt_of_le (bN_lt _ r) (Nat.pow_le_pow_right (by omega) (show r ≤ 7 by omega))
    have := ih (r + 1) fuel (by omega) (by omega)
    rw [fX1_columnBits_4_s, if_neg (nI_ge (by omega) (by omega)), upperAt_ok (by omega) hc]
    simp only [Option.bind_some, lt_def, ← nI_succ, b_or _ hb r (by omega)]
    rw [bN_s] at this
    by_cases h : U (7 * r + c) = 0
    · rw [if_pos h]
      rw [if_neg (by simp [nz, h]), Nat.or_zero] at this
      exact this
    · rw [if_neg h]
      rw [if_pos (by simp [nz, h])] at this
      exact this
theorem colBits_ok {c R : Nat} (U : Nat → Int32) (hc : c < 7) (hR : R ≤ 6) : fX1_columnBits (nI c) (nI R) U = some (nI (bN (fun r => nz U r c) R)) :=
  colBits_loop U hc hR R 0 fuelN (by omega) (by unfold fuelN; omega)
theorem allCols_ok {C : Nat} (h : C ≤ 6) : fX1_allColumns (nI C) = some (nI (2 ^ C - 1)) := by
  unfold fX1_allColumns
  rw [b_all C (by omega)]
theorem and128 {a b : Nat} (h : a < 128) : a &&& b < 128 := Nat.lt_of_le_of_lt Nat.and_le_left h
theorem bN128 (f : Nat → Bool) {n : Nat} (h : n ≤ 7) : bN f n < 128 := Nat.lt_of_lt_of_le (bN_lt _ n) (Nat.pow_le_pow_right (by omega) h)
/-- how many bits of a row lie in a set of n -/
theorem pc_and (f g : Nat → Bool) {n k m : Nat} (hn : n ≤ 7) (hk : k ≤ n) (hm : ∀ i, i < 7 → m.testBit i = (decide (i < k) && g i)) : fJ6_bitCount_0f7a4 (nI (bN f n) &&& nI m) = some (nI (cN (fun i => f i && g i) k)) := by
  rw [b_and, b_pc _ (and128 (bN128 f hn))]
  have e : cN (bN f n &&& m).testBit 7 = cN (fun i => decide (i < k) && (f i && g i)) 7 := by
    refine cN_congr 7 (fun i hi => ?_)
    rw [Nat.testBit_and, bN_bit, hm i hi]
    by_cases h1 : i < k
    · have h2 : i < n := by omega
      simp [h1, h2]
    · simp [h1]
  rw [e, cN_end (n := k) (fun i hi => by simp [show ¬ i < k by omega]) 7 (by omega)]
  congr 2
  exact cN_congr k (fun i hi => by simp [hi])
/-! counts by the reference -/
def lvB (lv : Nat → Int32) (i : Nat) : Bool := decide (¬ lv i = 0)
theorem nI_p0 (n : Nat) : nI n + 0 = nI n := Int32.add_zero _
theorem inRow_loop {r C : Nat} (U lv : Nat → Int32) (hr : r < 6) (hC : C ≤ 6) : ∀ (m c fuel : Nat), c + m = C → m + 1 ≤ fuel → fX11_inRow_4 (nI r) (nI C) U lv fuel (nI (cN (fun i => nz U r i && lvB lv i) c)) (nI c) = some (nI (cN (fun i => nz U r i && lvB lv i) C)) := by
  intro m
  induction m with
  | zero =>
    intro c fuel hc hf
    obtain ⟨fuel, rfl⟩ : ∃ f, fuel = f + 1 := ⟨fuel - 1, by omega⟩
    obtain rfl : c = C := by omega
    rw [fX11_inRow_4_s, if_pos (nI_le (Nat.le_refl _) (by omega))]
  | succ m ih =>
    intro c fuel hc hf
    obtain ⟨fuel, rfl⟩ : ∃ f, fuel = f + 1 := ⟨fuel - 1, by omega⟩
    have := ih (c + 1) fuel (by omega) (by omega)
    rw [fX11_inRow_4_s, if_neg (nI_ge (by omega) (by omega)), inB_ok (by omega) (by omega), nI_clamp (by omega), cell_ok]
    simp only [Option.bind_some, lt_def, ← nI_succ, inB_ok (n := 42) (i := 7 * r + c) (lt42 hr (by omega)) (by omega), nI_clamp (n := 7 * r + c) (by omega), nI_p0]
    rw [cN_s] at this
    by_cases h : lv c = 0
    · rw [if_pos h]
      rw [if_neg (by simp [lvB, h]), Nat.add_zero] at this
      exact this
    · rw [if_neg h]
      by_cases h2 : U (7 * r + c) = 0
      · rw [if_pos h2]
        rw [if_neg (by simp [nz, h2]), Nat.add_zero] at this
        exact this
      · rw [if_neg h2]
        rw [if_pos (by simp [nz, h2, lvB, h])] at this
        exact this
theorem inRow_ok {r C : Nat} (U lv : Nat → Int32) (hr : r < 6) (hC : C ≤ 6) : fX11_inRow (nI r) (nI C) U lv = some (nI (cN (fun i => nz U r i && lvB lv i) C)) :=
  inRow_loop U lv hr hC C 0 fuelN (by omega) (by unfold fuelN; omega)
theorem inCol_loop {c R : Nat} (U lv : Nat → Int32) (hc : c < 7) (hR : R ≤ 6) : ∀ (m r fuel : Nat), r + m = R → m + 1 ≤ fuel → fX11_inColumn_4 (nI c) (nI R) U lv fuel (nI (cN (fun i => nz U i c && lvB lv i) r)) (nI r) = some (nI (cN (fun i => nz U i c && lvB lv i) R)) := by
  intro m
  induction m with
  | zero =>
    intro r fuel hr hf
    obtain ⟨fuel, rfl⟩ : ∃ f, fuel = f + 1 := ⟨fuel - 1, by omega⟩
    obtain rfl : r = R := by omega
    rw [fX11_inColumn_4_s, if_pos (nI_le (Nat.le_refl _) (by omega))]
  | succ m ih =>
    intro r fuel hr hf
    obtain ⟨fuel, rfl⟩ : ∃ f, fuel = f + 1 := ⟨fuel - 1, by omega⟩
    have := ih (r + 1) fuel (by omega) (by omega)
    rw [fX11_inColumn_4_s, if_neg (nI_ge (by omega) (by omega)), inB_ok (by omega) (by omega), nI_clamp (by omega), cell_ok]
    simp only [Option.bind_some, lt_def, ← nI_succ, inB_ok (n := 42) (i := 7 * r + c) (lt42 (by omega) hc) (by omega), nI_clamp (n := 7 * r + c) (by omega), nI_p0]
    rw [cN_s] at this
    by_cases h : lv r = 0
    · rw [if_pos h]
      rw [if_neg (by simp [lvB, h]), Nat.add_zero] at this
      exact this
    · rw [if_neg h]
      by_cases h2 : U (7 * r + c) = 0
      · rw [if_pos h2]
        rw [if_neg (by simp [nz, h2]), Nat.add_zero] at this
        exact this
      · rw [if_neg h2]
        rw [if_pos (by simp [nz, h2, lvB, h])] at this
        exact this
theorem inCol_ok {c R : Nat} (U lv : Nat → Int32) (hc : c < 7) (hR : R ≤ 6) : fX11_inColumn (nI c) (nI R) U lv = some (nI (cN (fun i => nz U i c && lvB lv i) R)) :=
  inCol_loop U lv hc hR R 0 fuelN (by omega) (by unfold fuelN; omega)
/-- what is live, as bits and as truth values -/
def liveAt (m n : Nat) (lv : Nat → Int32) : Prop := m < 64 ∧ ∀ i, i < 6 → m.testBit i = (decide (i < n) && lvB lv i)
theorem live7 {m n : Nat} {lv : Nat → Int32} (h : liveAt m n lv) (hn : n ≤ 6) : ∀ i, i < 7 → m.testBit i = (decide (i < n) && lvB lv i) := by
  intro i hi
  by_cases e : i < 6
  · exact h.2 i e
  · have h6 : ¬ i < n := by omega
    have : m.testBit i = false := Nat.testBit_lt_two_pow (Nat.lt_of_lt_of_le h.1 (Nat.pow_le_pow_right (n := 2) (by omega) (show 6 ≤ i by omega)))
    rw [this]
    simp [h6]
theorem nz_congr {R C : Nat} {U V : Nat → Int32} (h : ∀ r c, r < R → c ≤ C → V (7 * r + c) = U (7 * r + c)) {r c : Nat} (hr : r < R) (hc : c ≤ C) : nz V r c = nz U r c := by
  unfold nz
  rw [h r c hr hc]
/-- the weight: both say the same -/
theorem weight_ok {r c R C mr mc : Nat} {U V lr lc : Nat → Int32} (hr : r < R) (hc : c < C) (hR : R ≤ 6) (hC : C ≤ 6) (h : ∀ r c, r < R → c ≤ C → V (7 * r + c) = U (7 * r + c)) (h1 : liveAt mr R lr) (h2 : liveAt mc C lc) : ∃ w, fX7_weightOf (nI r) (nI c) (nI mr) (nI mc) (nI R) (nI C) U = some w ∧ fX11_weight (nI r) (nI c) (nI R) (nI C) V lc lr = some w := by
  refine ⟨(nI (cN (fun i => nz U r i && lvB lc i) C) - 1) * (nI (cN (fun i => nz U i c && lvB lr i) R) - 1), ?_, ?_⟩
  · unfold fX7_weightOf
    rw [rowBits_ok U (by omega) hC]
    simp only [Option.bind_some]
    rw [pc_and (nz U r) (lvB lc) (n := C + 1) (k := C) (by omega) (by omega) (live7 h2 hC), colBits_ok U (by omega) hR]
    simp only [Option.bind_some]
    rw [pc_and (fun r => nz U r c) (lvB lr) (n := R) (k := R) (by omega) (by omega) (live7 h1 hR)]
    rfl
  · unfold fX11_weight
    rw [inRow_ok V lc (by omega) hC, inCol_ok V lr (by omega) hR]
    simp only [Option.bind_some]
    rw [cN_congr (f := fun i => nz V r i && lvB lc i) (g := fun i => nz U r i && lvB lc i) C (fun i hi => by rw [nz_congr h hr (by omega)]), cN_congr (f := fun i => nz V i c && lvB lr i) (g := fun i => nz U i c && lvB lr i) R (fun i hi => by rw [nz_congr h (by omega) (by omega)])]
