/-! A row is cleared; all rows under a pivot are. -/
theorem b_nim : ∀ b, b < 128 → ∀ C, C < 7 → ((nI b ^^^ (-1)) &&& nI (2 ^ C - 1)) = nI (bN (fun i => !(b.testBit i)) C) := by decide +kernel
theorem pc_fill (U0 U : Nat → Int32) (r : Nat) {C : Nat} (hC : C ≤ 6) : fJ6_bitCount_0f7a4 ((nI (bN (nz U r) (C + 1)) &&& (nI (bN (nz U0 r) (C + 1)) ^^^ (-1))) &&& nI (2 ^ C - 1)) = some (nI (cN (fl U0 U r) C)) := by
  rw [Int32.and_assoc, b_nim _ (bN128 _ (by omega)) C (by omega)]
  rw [pc_and (nz U r) (fun i => !(nz U0 r i)) (n := C + 1) (k := C) (by omega) (by omega) (fun i hi => by
    rw [bN_bit, bN_bit]
    by_cases h : i < C
    · have h2 : i < C + 1 := by omega
      simp [h, h2]
    · simp [h])]
  congr 2
  exact cN_congr C (fun i hi => by unfold fl; rw [Bool.and_comm])
theorem neg1 {n : Nat} (h : n < 2 ^ 31) : ¬ nI n = -1 := fun e => nI_pos h (by rw [e]; decide)
theorem clearRow_ok {r pr pc R C : Nat} (hR : R ≤ 6) (hrR : r < R) (hprR : pr < R) (hpc : pc < C) (hC : C ≤ 6) {U L cu cl : Nat → Int32} (hG : eqG R C U L cu cl) (hz : ¬ U (7 * pr + pc) = 0) (br bc brr bcc F : Int32) (su sl : Int64) (si : Int32)
    (rec : Int32 → Int64 → Int64 → Int32 → Int32 → Int32 → Int32 → Int32 → (Nat → Int32) → (Nat → Int32) → Option (Int64 × Int64 × Int32 × Int32 × Int32 × Int32 × Int32 × (Nat → Int32) × (Nat → Int32) × (Nat → Int32))) :
    (∃ n k fu fw fi L' su' sl' si' U' x y z F' cl' cu', k ≤ C ∧ fX7_clearRow (nI r) 0 br bc (nI pr) (nI pc) (nI C) L su sl si U = some (n, 1, nI r, nI k, fu, fw, fi, L', su', sl', si', U') ∧
      ((fX11_by (U (7 * r + pc)).toInt64 (L (7 * r + pc)).toInt64 (U (7 * pr + pc)).toInt64 (L (7 * pr + pc)).toInt64).bind fun u_7 => if u_7.2.2 = 0 then (fX11_clears_131 (nI C) (nI pr) (nI r) F cl cu rec u_7.1 u_7.2.1 u_7.2.2 brr bcc 0) else ((fX11_breaks (nI r) (nI pc) brr bcc 0).bind fun u_9 => fX11_clears_131 (nI C) (nI pr) (nI r) F cl cu rec u_7.1 u_7.2.1 u_7.2.2 u_9.1 u_9.2.1 u_9.2.2)) = rec (nI (r + 1)) x y z (nI r) (nI k) 1 F' cl' cu') ∨
    (∃ fu fw fi L' su' sl' si' U' x y z cl' cu', fX7_clearRow (nI r) 0 br bc (nI pr) (nI pc) (nI C) L su sl si U = some (nI (cN (fl U U' r) C), 0, br, bc, fu, fw, fi, L', su', sl', si', U') ∧
      ((fX11_by (U (7 * r + pc)).toInt64 (L (7 * r + pc)).toInt64 (U (7 * pr + pc)).toInt64 (L (7 * pr + pc)).toInt64).bind fun u_7 => if u_7.2.2 = 0 then (fX11_clears_131 (nI C) (nI pr) (nI r) F cl cu rec u_7.1 u_7.2.1 u_7.2.2 brr bcc 0) else ((fX11_breaks (nI r) (nI pc) brr bcc 0).bind fun u_9 => fX11_clears_131 (nI C) (nI pr) (nI r) F cl cu rec u_7.1 u_7.2.1 u_7.2.2 u_9.1 u_9.2.1 u_9.2.2)) = rec (nI (r + 1)) x y z brr bcc 0 (F + nI (cN (fl U U' r) C)) cl' cu' ∧ eqG R C U' L' cu' cl' ∧ ∀ j, ¬ (7 * r ≤ j ∧ j < 7 * r + 7) → U' j = U j ∧ L' j = L j) := by
  have hr : r < 6 := by omega
  have hpr : pr < 6 := by omega
  have g1 := (hG r pc hrR (by omega)).2.2
  have g2 := (hG pr pc hprR (by omega)).2.2
  unfold fX7_clearRow
  simp only [rowBits_ok U hr hC, load_ok hr (show pc < 7 by omega), upperAt_ok hpr (show pc < 7 by omega), lowerAt_ok hpr (show pc < 7 by omega), Option.bind_some, fX3_negate, lt_def, fX7_clearRow_113, fX7_clearRow_133, allCols_ok hC, fX11_breaks, fX11_clears_131, ↓reduceIte, if_neg one0]
  rcases over2 g1 g2 hz with ⟨t1, x, y, t2⟩ | ⟨A, B, gA, t1, t2⟩
  · left
    rw [t1, t2]
    simp only [Option.bind_some, if_neg one0, if_neg (neg1 (n := pc) (by omega)), rowBits_ok U hr hC, pc_fill U U r hC, ← nI_succ]
    exact ⟨_, pc, _, _, _, _, _, _, _, _, _, _, _, _, _, _, by omega, rfl, rfl⟩
  · obtain ⟨gN, eN⟩ := good_neg gA
    rw [t1, t2]
    simp only [Option.bind_some, ↓reduceIte, eN, ← nI_succ]
    unfold fX1_addTimes fX11_adds
    have hl := adds_loop hR hrR hprR hC gN U L brr bcc F (C + 1) 0 fuelN fuelN U L cu cl su sl A.toInt64 B.toInt64 si 0 (by omega) (by unfold fuelN; omega) (by unfold fuelN; omega) hG (fun j _ => ⟨rfl, rfl⟩)
    rw [show cN (fl U U r) (min 0 C) = 0 from by rw [Nat.min_eq_left (by omega)]; rfl, show F + nI 0 = F from Int32.add_zero F] at hl
    rw [show (0 : Int32) = nI 0 from rfl] at hl ⊢
    rcases hl with ⟨k, su', sl', si', U', L', up', lo', il', fl', cu', cl', hk, h1, h2⟩ | ⟨su', sl', si', U', L', up', lo', il', cu', cl', h1, h2, h3, h4⟩
    · left
      rw [h1, h2]
      simp only [Option.bind_some, if_neg (neg1 (n := k) (by omega)), rowBits_ok U' hr hC, pc_fill U U' r hC]
      exact ⟨_, k, _, _, _, _, _, _, _, _, _, _, _, _, _, _, hk, rfl, rfl⟩
    · right
      rw [h1, h2]
      simp only [Option.bind_some, ↓reduceIte, rowBits_ok U' hr hC, pc_fill U U' r hC]
      exact ⟨_, _, _, _, _, _, _, _, _, _, _, _, _, rfl, rfl, h3, h4⟩
theorem isLive_ok {r c R C mr mc : Nat} {U lr lc : Nat → Int32} (hr : r < R) (hR : R ≤ 6) (hc : c < C) (hC : C ≤ 6) (h1 : liveAt mr R lr) (h2 : liveAt mc C lc) : fX7_isLive (nI r) (nI c) (nI mr) (nI mc) U = some (if lr r = 0 then 0 else if lc c = 0 then 0 else if U (7 * r + c) = 0 then 0 else 1) := by
  unfold fX7_isLive
  rw [b_get _ h1.1 r (by omega), b_get _ h2.1 c (by omega), h1.2 r (by omega), h2.2 c (by omega), upperAt_ok (by omega) (by omega)]
  by_cases e1 : lr r = 0
  · simp [e1, lvB]
  · by_cases e2 : lc c = 0
    · simp [e1, e2, hr, lvB]
    · simp only [e1, e2, hr, hc, lvB, decide_true, not_false_eq_true, Bool.and_self, ↓reduceIte, Option.bind_some]
      split <;> rfl
theorem rows_loop {pr pc R C mr mc k : Nat} (hk : k < 6) (hR : R ≤ 6) (hpr : pr < R) (hpc : pc < C) (hC : C ≤ 6) {lr lc : Nat → Int32} (h1 : liveAt mr R lr) (h2 : liveAt mc C lc) (hlc : ¬ lc pc = 0) (U0 L0 fills0 : Nat → Int32) (hz : ¬ U0 (7 * pr + pc) = 0) (pC pR pW pF : Nat → Int32)
    (rec : Int32 → Int32 → Int32 → Int32 → Int32 → Int32 → Int32 → Int32 → Int32 → Int64 → Int64 → Int32 → (Nat → Int32) → (Nat → Int32) → Int64 → Int64 → Int32 → (Nat → Int32) → (Nat → Int32) → (Nat → Int32) → (Nat → Int32) → Option (Int32 × Int32 × Int32 × Int32 × Int32 × Int32 × Int32 × Int32 × Int64 × Int64 × Int32 × (Nat → Int32) × Int32 × Int32 × (Nat → Int32) × Int64 × Int64 × Int32 × (Nat → Int32) × (Nat → Int32) × (Nat → Int32) × (Nat → Int32))) :
    ∀ (m r fuel fuel' : Nat) (br bc brr bcc : Int32) (fu fw : Int64) (fi : Int32) (fills U L cu cl : Nat → Int32) (su sl up lo : Int64) (si il : Int32) (F : Int32), r + m = R → m + 2 ≤ fuel → m + 2 ≤ fuel' → eqG R C U L cu cl → fills k = F → (∀ j, ¬ j = k → fills j = fills0 j) → (∀ i c, i < 6 → c < 7 → i = pr ∨ lr i = 0 → U (7 * i + c) = U0 (7 * i + c) ∧ L (7 * i + c) = L0 (7 * i + c)) →
    ∃ br' bc' brr' bcc' b' fu' fw' fi' fills' L' su' sl' si' U' up' lo' il' F' cl' cu',
      fX7_run_123 (nI k) (nI mr) (nI mc) (nI R) (nI C) rec (nI pr) (nI pc) pC pR pW fuel (nI r) 0 br bc fu fw fi fills L su sl si U = fX7_run_185 (nI k) (nI mr) (nI mc) rec b' br' bc' (nI pr) (nI pc) fu' fw' fi' fills' L' su' sl' si' U' pC pR pW ∧
      fX11_clears_22 (nI k) (nI R) (nI C) lr pF (nI pr) (nI pc) fuel' (nI r) up lo il brr bcc 0 F cl cu = fX11_clears_160 (nI k) pF up' lo' il' brr' bcc' b' F' cl' cu' ∧
      ((b' = 1 ∧ br' = brr' ∧ bc' = bcc' ∧ (∃ i, i < R ∧ br' = nI i) ∧ ∃ i, i ≤ C ∧ bc' = nI i) ∨ (b' = 0 ∧ eqG R C U' L' cu' cl' ∧ fills' k = F' ∧ (∀ j, ¬ j = k → fills' j = fills0 j) ∧ ∀ i c, i < 6 → c < 7 → i = pr ∨ lr i = 0 → U' (7 * i + c) = U0 (7 * i + c) ∧ L' (7 * i + c) = L0 (7 * i + c))) := by
  intro m
  induction m with
  | zero =>
    intro r fuel fuel' br bc brr bcc fu fw fi fills U L cu cl su sl up lo si il F hm hf hf' hG hF hj hfr
    obtain ⟨fuel, rfl⟩ : ∃ f, fuel = f + 1 := ⟨fuel - 1, by omega⟩
    obtain ⟨fuel', rfl⟩ : ∃ f, fuel' = f + 1 := ⟨fuel' - 1, by omega⟩
    obtain rfl : r = R := by omega
    rw [fX7_run_123_s, if_pos (nI_le (Nat.le_refl _) (by omega)), fX11_clears_22_s, if_pos (nI_le (Nat.le_refl _) (by omega))]
    exact ⟨_, _, _, _, _, _, _, _, _, _, _, _, _, _, _, _, _, _, _, _, rfl, rfl, Or.inr ⟨rfl, hG, hF, hj, hfr⟩⟩
  | succ m ih =>
    intro r fuel fuel' br bc brr bcc fu fw fi fills U L cu cl su sl up lo si il F hm hf hf' hG hF hj hfr
    obtain ⟨fuel, rfl⟩ : ∃ f, fuel = f + 2 := ⟨fuel - 2, by omega⟩
    obtain ⟨fuel', rfl⟩ : ∃ f, fuel' = f + 2 := ⟨fuel' - 2, by omega⟩
    have hrc := lt42 (show r < 6 by omega) (show pc < 7 by omega)
    have hpp := lt42 (show pr < 6 by omega) (show pc < 7 by omega)
    obtain ⟨e1, e2, -⟩ := hG r pc (by omega) (by omega)
    obtain ⟨e3, e4, -⟩ := hG pr pc hpr (by omega)
    have hzz : ¬ U (7 * pr + pc) = 0 := by rw [(hfr pr pc (by omega) (by omega) (Or.inl rfl)).1]; exact hz
    rw [fX7_run_123_s, if_neg (nI_ge (by omega) (by omega)), if_pos rfl, fX11_clears_22_s, if_neg (nI_ge (by omega) (by omega)), if_pos rfl, cell_ok, isLive_ok (by omega) hR hpc hC h1 h2]
    simp only [Option.bind_some, ← nI_succ, inB_ok (n := 6) (i := r) (by omega) (by omega), inB_ok (n := 6) (i := k) hk (by omega), nI_clamp (n := r) (by omega), nI_clamp (n := k) (by omega), inB_ok (n := 42) (i := 7 * r + pc) hrc (by omega), nI_clamp (n := 7 * r + pc) (by omega), cell_ok, inB_ok (n := 42) (i := 7 * pr + pc) hpp (by omega), nI_clamp (n := 7 * pr + pc) (by omega), e1, e2, e3, e4, lt_def]
    by_cases hp : r = pr
    · subst hp
      rw [if_pos rfl, if_pos rfl]
      exact ih (r + 1) _ _ br bc brr bcc _ _ _ fills U L cu cl _ _ _ _ _ _ F (by omega) (by omega) (by omega) hG hF hj hfr
    have hp' : ¬ nI r = nI pr := fun e => hp ((nI_eq (by omega) (by omega)).mp e)
    rw [if_neg hp', if_neg hp']
    by_cases hl : lr r = 0
    · simp only [if_pos hl, ↓reduceIte]
      exact ih (r + 1) _ _ br bc brr bcc _ _ _ fills U L cu cl _ _ _ _ _ _ F (by omega) (by omega) (by omega) hG hF hj hfr
    by_cases hu : U (7 * r + pc) = 0
    · simp only [if_neg hl, if_neg hlc, if_pos hu, ↓reduceIte]
      exact ih (r + 1) _ _ br bc brr bcc _ _ _ fills U L cu cl _ _ _ _ _ _ F (by omega) (by omega) (by omega) hG hF hj hfr
    simp only [if_neg hl, if_neg hlc, if_neg hu, if_neg one0]
    rcases clearRow_ok hR (show r < R by omega) hpr hpc hC hG hzz br bc brr bcc F su sl si (fX11_clears_22 (nI k) (nI R) (nI C) lr pF (nI pr) (nI pc) (fuel' + 1)) with ⟨n, kk, fu', fw', fi', L', su', sl', si', U', x, y, z, F', cl', cu', hkk, c1, c2⟩ | ⟨fu', fw', fi', L', su', sl', si', U', x, y, z, cl', cu', c1, c2, c3, c4⟩
    · rw [c1, c2]
      simp only [Option.bind_some]
      have ex : ∀ (a b c d : Int32) (q1 q2 q3 q4 : Int64) (q5 q6 : Int32) (w1 w2 w3 : Nat → Int32), fX7_run_123 (nI k) (nI mr) (nI mc) (nI R) (nI C) rec (nI pr) (nI pc) pC pR pW (fuel + 1) a 1 b c q1 q2 q5 w1 w2 q3 q4 q6 w3 = fX7_run_185 (nI k) (nI mr) (nI mc) rec 1 b c (nI pr) (nI pc) q1 q2 q5 w1 w2 q3 q4 q6 w3 pC pR pW := by
        intros
        rw [fX7_run_123_s]
        split
        · rfl
        · rw [if_neg one0]
      have ey : ∀ (a b c d : Int32) (q1 q2 : Int64) (q5 : Int32) (w1 w2 : Nat → Int32), fX11_clears_22 (nI k) (nI R) (nI C) lr pF (nI pr) (nI pc) (fuel' + 1) a q1 q2 q5 b c 1 d w1 w2 = fX11_clears_160 (nI k) pF q1 q2 q5 b c 1 d w1 w2 := by
        intros
        rw [fX11_clears_22_s]
        split
        · rfl
        · rw [if_neg one0]
      rw [ex _ _ _ 0, ey]
      exact ⟨_, _, _, _, _, _, _, _, _, _, _, _, _, _, _, _, _, _, _, _, rfl, rfl, Or.inl ⟨rfl, rfl, rfl, ⟨r, by omega, rfl⟩, kk, hkk, rfl⟩⟩
    · rw [c1, c2]
      simp only [Option.bind_some]
      refine ih (r + 1) _ _ _ _ _ _ _ _ _ _ U' L' cu' cl' _ _ _ _ _ _ _ (by omega) (by omega) (by omega) c3 (by rw [pk_us, hF]) (fun j hjk => by rw [pk_un hjk]; exact hj j hjk) ?_
      intro i c hi hc hor
      have hir : ¬ i = r := fun e => by
        subst e
        rcases hor with h | h
        · exact hp h
        · exact hl h
      rw [(c4 (7 * i + c) (by omega)).1, (c4 (7 * i + c) (by omega)).2]
      exact hfr i c hi hc hor
