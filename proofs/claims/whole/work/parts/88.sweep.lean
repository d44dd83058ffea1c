/-! The whole elimination: class's run beside the reference's goes. -/
theorem acI_0 {α : Type} {K : Option α} : acI 42 42 0 0 42 K = K := by
  unfold acI
  exact if_pos (by decide)
theorem copy_ok (L0 U0 : Nat → Int32) (R C : Int32) (L U : Nat → Int32) : ∃ L' U', fX1_copy L0 U0 R C L U = some (R, C, L', U') ∧ ∀ j, j < 42 → U' j = U j ∧ L' j = L j := by
  unfold fX1_copy
  rw [acI_0, lt_def, acI_0, lt_def]
  refine ⟨_, _, rfl, fun j hj => ?_⟩
  unfold va_cpy
  rw [if_pos (show (0 : Int32).toNatClampNeg ≤ j ∧ j < (0 : Int32).toNatClampNeg + (42 : Int32).toNatClampNeg from ⟨Nat.zero_le _, by rw [show (0 : Int32).toNatClampNeg + (42 : Int32).toNatClampNeg = 42 from by decide]; exact hj⟩), if_pos (show (0 : Int32).toNatClampNeg ≤ j ∧ j < (0 : Int32).toNatClampNeg + (42 : Int32).toNatClampNeg from ⟨Nat.zero_le _, by rw [show (0 : Int32).toNatClampNeg + (42 : Int32).toNatClampNeg = 42 from by decide]; exact hj⟩)]
  rw [show (0 : Int32).toNatClampNeg + (j - (0 : Int32).toNatClampNeg) = j from by rw [show (0 : Int32).toNatClampNeg = 0 from by decide]; omega]
  exact ⟨rfl, rfl⟩
theorem nI_ge6 {k : Nat} (h : k < 6) : ¬ (6 : Int32) ≤ nI k := nI_ge (a := k) (b := 6) h (by omega)
theorem le66 : (6 : Int32) ≤ nI 6 := by decide
theorem nar1 : vp_nar .boolean 1 = 1 := by decide
theorem nar0 : vp_nar .boolean 0 = 0 := by decide
/-- one more that isn't live -/
theorem cN_del {f g : Nat → Bool} {i : Nat} (hf : f i = true) (hg : g i = false) (h : ∀ j, ¬ j = i → g j = f j) : ∀ n, i < n → cN f n = cN g n + 1 := by
  intro n
  induction n with
  | zero => intro hi; omega
  | succ n ih =>
    intro hi
    rw [cN_s, cN_s]
    by_cases e : i = n
    · subst e
      rw [hf, hg, cN_congr i (fun j hj => (h j (by omega)).symm)]
      simp
    · rw [ih (by omega), h n (by omega)]
      omega
theorem cN_0 {f : Nat → Bool} : ∀ n, cN f n = 0 → ∀ i, i < n → f i = false := by
  intro n
  induction n with
  | zero => intro _ i hi; omega
  | succ n ih =>
    intro h i hi
    rw [cN_s] at h
    by_cases e : f n = true
    · rw [if_pos e] at h; omega
    · by_cases e2 : i = n
      · subst e2; exact Bool.eq_false_iff.mpr e
      · exact ih (by omega) i (by omega)
theorem cN_pos {f : Nat → Bool} {i : Nat} (hf : f i = true) : ∀ n, i < n → 0 < cN f n := by
  intro n hi
  rcases Nat.eq_zero_or_pos (cN f n) with h | h
  · rw [cN_0 n h i hi] at hf; exact absurd hf (by decide)
  · exact h
theorem cN_all {f : Nat → Bool} : ∀ n, (∀ i, i < n → f i = true) → cN f n = n := by
  intro n
  induction n with
  | zero => intro _; rfl
  | succ n ih => intro h; rw [cN_s, ih (fun i hi => h i (by omega)), h n (by omega)]; rfl
theorem cN_none {f : Nat → Bool} : ∀ n, (∀ i, i < n → f i = false) → cN f n = 0 := by
  intro n
  induction n with
  | zero => intro _; rfl
  | succ n ih => intro h; rw [cN_s, ih (fun i hi => h i (by omega)), h n (by omega)]; rfl
theorem live_del {m n i : Nat} {lv : Nat → Int32} (h : liveAt m n lv) (hi : i < 6) : liveAt (m &&& (63 - 2 ^ i)) n (upd lv i 0) := by
  obtain ⟨q1, q2⟩ := b_delb m h.1 i hi
  refine ⟨q1, fun j hj => ?_⟩
  rw [q2 j hj, h.2 j hj]
  unfold lvB
  by_cases e : j = i
  · subst e
    rw [pk_us]
    simp
  · rw [pk_un e]
    simp [e]
/-- what stands after k pivots -/
def SW (R C k mr mc : Nat) (U L pRows pCols fills weights cu cl lr lc pR pC pF pW : Nat → Int32) : Prop :=
  eqG R C U L cu cl ∧ liveAt mr R lr ∧ liveAt mc C lc ∧ cN (lvB lr) R + k = R ∧ cN (lvB lc) C + k = C ∧
  ∃ ri ci : Nat → Nat, (∀ j, j < k → ri j < R ∧ ci j < C ∧ pRows j = nI (ri j) ∧ pR j = nI (ri j) ∧ pCols j = nI (ci j) ∧ pC j = nI (ci j) ∧ fills j = pF j ∧ weights j = pW j ∧ ¬ U (7 * ri j + ci j) = 0 ∧ lr (ri j) = 0 ∧ lc (ci j) = 0) ∧
    (∀ i, i < R → lr i = 0 → ∃ j, j < k ∧ ri j = i) ∧ (∀ i, i < C → lc i = 0 → ∃ j, j < k ∧ ci j = i) ∧
    (∀ j j', j < k → j' < k → ri j = ri j' → j = j') ∧ (∀ j j', j < k → j' < k → ci j = ci j' → j = j')
/-- one pivot more -/
theorem SW_step {R C k mr mc i j : Nat} {U L U' L' pRows pCols fills fills' weights cu cl cu' cl' lr lc pR pC pF pF' pW : Nat → Int32} {w : Int32} (hR : R ≤ 6) (hC : C ≤ 6) (h : SW R C k mr mc U L pRows pCols fills weights cu cl lr lc pR pC pF pW) (hi : i < R) (hj : j < C) (h1 : ¬ lr i = 0) (h2 : ¬ lc j = 0) (h3 : ¬ U (7 * i + j) = 0) (hG : eqG R C U' L' cu' cl') (hF : fills' k = pF' k) (hfk : ∀ x, ¬ x = k → fills' x = fills x) (hpk : ∀ x, ¬ x = k → pF' x = pF x)
    (hfr : ∀ x c, x < 6 → c < 7 → x = i ∨ lr x = 0 → U' (7 * x + c) = U (7 * x + c) ∧ L' (7 * x + c) = L (7 * x + c)) :
    SW R C (k + 1) (mr &&& (63 - 2 ^ i)) (mc &&& (63 - 2 ^ j)) U' L' (upd pRows k (nI i)) (upd pCols k (nI j)) fills' (upd weights k w) cu' cl' (upd lr i 0) (upd lc j 0) (upd pR k (nI i)) (upd pC k (nI j)) pF' (upd pW k w) := by
  obtain ⟨g, l1, l2, n1, n2, ri, ci, a1, a2, a3, a4, a5⟩ := h
  have d1 := cN_del (f := lvB lr) (g := lvB (upd lr i 0)) (i := i) (by simp [lvB, h1]) (by simp [lvB, pk_us]) (fun x hx => by unfold lvB; rw [pk_un hx]) R hi
  have d2 := cN_del (f := lvB lc) (g := lvB (upd lc j 0)) (i := j) (by simp [lvB, h2]) (by simp [lvB, pk_us]) (fun x hx => by unfold lvB; rw [pk_un hx]) C hj
  refine ⟨hG, live_del l1 (by omega), live_del l2 (by omega), by omega, by omega, fun x => if x = k then i else ri x, fun x => if x = k then j else ci x, ?_, ?_, ?_, ?_, ?_⟩
  · intro x hx
    by_cases e : x = k
    · subst e
      simp only [if_pos]
      rw [pk_us, pk_us, pk_us, pk_us, pk_us, pk_us, pk_us, pk_us]
      refine ⟨hi, hj, rfl, rfl, rfl, rfl, hF, rfl, ?_, rfl, rfl⟩
      rw [(hfr i j (by omega) (by omega) (Or.inl rfl)).1]
      exact h3
    · obtain ⟨q1, q2, q3, q4, q5, q6, q7, q8, q9, q10, q11⟩ := a1 x (by omega)
      simp only [if_neg e]
      rw [pk_un e, pk_un e, pk_un e, pk_un e, pk_un e, pk_un e, hfk x e, hpk x e]
      refine ⟨q1, q2, q3, q4, q5, q6, q7, q8, ?_, ?_, ?_⟩
      · rw [(hfr (ri x) (ci x) (by omega) (by omega) (Or.inr q10)).1]
        exact q9
      · rw [pk_un (fun e => h1 (by rw [← e]; exact q10))]; exact q10
      · rw [pk_un (fun e => h2 (by rw [← e]; exact q11))]; exact q11
  · intro x hx h0
    by_cases e : x = i
    · exact ⟨k, by omega, by dsimp only; rw [if_pos rfl]; exact e.symm⟩
    · rw [pk_un e] at h0
      obtain ⟨y, hy, e2⟩ := a2 x hx h0
      exact ⟨y, by omega, by dsimp only; rw [if_neg (by omega)]; exact e2⟩
  · intro x hx h0
    by_cases e : x = j
    · exact ⟨k, by omega, by dsimp only; rw [if_pos rfl]; exact e.symm⟩
    · rw [pk_un e] at h0
      obtain ⟨y, hy, e2⟩ := a3 x hx h0
      exact ⟨y, by omega, by dsimp only; rw [if_neg (by omega)]; exact e2⟩
  · intro x y hx hy e
    dsimp only at e
    by_cases ex : x = k
    · by_cases ey : y = k
      · omega
      · rw [if_pos ex, if_neg ey] at e
        have := (a1 y (by omega)).2.2.2.2.2.2.2.2.2.1
        rw [← e] at this
        exact absurd this h1
    · by_cases ey : y = k
      · rw [if_neg ex, if_pos ey] at e
        have := (a1 x (by omega)).2.2.2.2.2.2.2.2.2.1
        rw [e] at this
        exact absurd this h1
      · rw [if_neg ex, if_neg ey] at e
        exact a4 x y (by omega) (by omega) e
  · intro x y hx hy e
    dsimp only at e
    by_cases ex : x = k
    · by_cases ey : y = k
      · omega
      · rw [if_pos ex, if_neg ey] at e
        have := (a1 y (by omega)).2.2.2.2.2.2.2.2.2.2
        rw [← e] at this
        exact absurd this h2
    · by_cases ey : y = k
      · rw [if_neg ex, if_pos ey] at e
        have := (a1 x (by omega)).2.2.2.2.2.2.2.2.2.2
        rw [e] at this
        exact absurd this h2
      · rw [if_neg ex, if_neg ey] at e
        exact a5 x y (by omega) (by omega) e
theorem run_loop (rule : Int32) {R C : Nat} (hR : R ≤ 6) (hC : C ≤ 6) : ∀ (m k fuel fuel' mr mc : Nat) (br bc brr bcc : Int32) (b1 b2 : Int32) (fu fw : Int64) (fi : Int32) (su sl up lo : Int64) (si il fd : Int32) (U L pRows pCols fills weights cu cl lr lc pR pC pF pW : Nat → Int32), k + m = 6 → m + 2 ≤ fuel → m + 2 ≤ fuel' → SW R C k mr mc U L pRows pCols fills weights cu cl lr lc pR pC pF pW →
    ∃ k' b' br' bc' mr' mc' b1' b2' fu' fw' fi' fills' L' su' sl' si' U' pCols' pRows' weights' up' lo' il' brr' bcc' fd' cl' cu' lc' lr' pC' pF' pR' pW',
      fX7_run_46 rule (nI R) (nI C) fuel (nI k) (nI k) 0 br bc (nI mr) (nI mc) b1 b2 fu fw fi fills L su sl si U pCols pRows weights = some (nI k', b', br', bc', nI mr', nI mc', b1', b2', fu', fw', fi', fills', nI R, nI C, L', su', sl', si', U', pCols', pRows', weights') ∧
      fX11_goes_38 rule (nI R) (nI C) fuel' up lo il (nI k) brr bcc 0 fd cl cu lc lr pC pF pR pW = some (up', lo', il', nI k', brr', bcc', b', fd', cl', cu', lc', lr', pC', pF', pR', pW') ∧ k' ≤ 6 ∧
      ((b' = 1 ∧ br' = brr' ∧ bc' = bcc') ∨ (b' = 0 ∧ SW R C k' mr' mc' U' L' pRows' pCols' fills' weights' cu' cl' lr' lc' pR' pC' pF' pW')) := by
  intro m
  induction m with
  | zero =>
    intro k fuel fuel' mr mc br bc brr bcc b1 b2 fu fw fi su sl up lo si il fd U L pRows pCols fills weights cu cl lr lc pR pC pF pW hm hf hf' hS
    obtain ⟨fuel, rfl⟩ : ∃ f, fuel = f + 1 := ⟨fuel - 1, by omega⟩
    obtain ⟨fuel', rfl⟩ : ∃ f, fuel' = f + 1 := ⟨fuel' - 1, by omega⟩
    obtain rfl : k = 6 := by omega
    have hn : ∀ i, i < R → lr i = 0 := by
      intro i hi
      have hz := cN_0 R (show cN (lvB lr) R = 0 by have := hS.2.2.2.1; omega) i hi
      unfold lvB at hz
      simpa using hz
    rw [fX7_run_46_s, if_pos le66, fX11_goes_38_s, if_pos rfl]
    rcases choose_ok rule (k := 6) (Or.inr hn) hR hC hS.1 hS.2.1 hS.2.2.1 pC pF pR pW with ⟨-, q⟩ | ⟨i, j, w, hi, hj, h1, -⟩
    · rw [q]
      simp only [Option.bind_some, ↓reduceIte]
      exact ⟨6, _, _, _, _, _, _, _, _, _, _, _, _, _, _, _, _, _, _, _, _, _, _, _, _, _, _, _, _, _, _, _, _, _, rfl, rfl, by omega, Or.inr ⟨rfl, hS⟩⟩
    · exact absurd (hn i hi) h1
  | succ m ih =>
    intro k fuel fuel' mr mc br bc brr bcc b1 b2 fu fw fi su sl up lo si il fd U L pRows pCols fills weights cu cl lr lc pR pC pF pW hm hf hf' hS
    obtain ⟨fuel, rfl⟩ : ∃ f, fuel = f + 2 := ⟨fuel - 2, by omega⟩
    obtain ⟨fuel', rfl⟩ : ∃ f, fuel' = f + 2 := ⟨fuel' - 2, by omega⟩
    rw [fX7_run_46_s, if_neg (nI_ge6 (by omega)), if_pos rfl, fX11_goes_38_s, if_pos rfl]
    rcases choose_ok rule (k := k) (Or.inl (by omega)) hR hC hS.1 hS.2.1 hS.2.2.1 pC pF pR pW with ⟨q1, q⟩ | ⟨i, j, w, hi, hj, h1, h2, h3, q1, q2, q3⟩
    · rw [q1, q]
      simp only [Option.bind_some, ↓reduceIte]
      exact ⟨k, _, _, _, _, _, _, _, _, _, _, _, _, _, _, _, _, _, _, _, _, _, _, _, _, _, _, _, _, _, _, _, _, _, rfl, rfl, by omega, Or.inr ⟨rfl, hS⟩⟩
    · have hk : k < 6 := by omega
      rw [q1, q3]
      simp only [Option.bind_some, if_neg (neg1 (n := i) (by omega)), if_neg one0, inB_ok (n := 6) hk (by omega), nI_clamp (n := k) (by omega), lt_def, q2, fX11_clears, pk_us]
      obtain ⟨br', bc', brr', bcc', b', fu', fw', fi', fills', L', su', sl', si', U', up', lo', il', F', cl', cu', r1, r2, r3⟩ := rows_loop hk hR hi hj hC hS.2.1 hS.2.2.1 h2 U L fills h3 (upd pCols k (nI j)) (upd pRows k (nI i)) (upd weights k w) (upd pF k 0) (fX7_run_46 rule (nI R) (nI C) (fuel + 1)) R 0 fuelN fuelN br bc brr bcc fu fw fi (upd fills k 0) U L cu cl su sl up lo si il 0 (by omega) (by unfold fuelN; omega) (by unfold fuelN; omega) hS.1 pk_us (fun x hx => pk_un hx) (fun x c _ _ _ => ⟨rfl, rfl⟩)
      rw [show nI 0 = 0 from rfl] at r1 r2
      rw [r1, r2]
      unfold fX11_clears_160 fX7_run_185
      simp only [Option.bind_some, inB_ok (n := 6) hk (by omega), nI_clamp (n := k) (by omega), lt_def, pk_us, inB_ok (n := 6) (i := i) (by omega) (by omega), inB_ok (n := 6) (i := j) (by omega) (by omega), nI_clamp (n := i) (by omega), nI_clamp (n := j) (by omega), nar0, ← nI_succ, b_del _ hS.2.1.1 i (by omega), b_del _ hS.2.2.1.1 j (by omega)]
      rcases r3 with ⟨rfl, rfl, rfl, -, -⟩ | ⟨rfl, c1, c2, c3, c4⟩
      · rw [fX7_run_46_s, fX11_goes_38_s]
        simp only [if_neg one0, ite_self]
        exact ⟨k + 1, _, _, _, _, _, _, _, _, _, _, _, _, _, _, _, _, _, _, _, _, _, _, _, _, _, _, _, _, _, _, _, _, _, rfl, rfl, by omega, Or.inl ⟨rfl, rfl, rfl⟩⟩
      · refine ih (k + 1) _ _ _ _ _ _ _ _ _ _ _ _ _ _ _ _ _ _ _ _ _ _ _ _ _ _ _ _ _ _ _ _ _ _ (by omega) (by omega) (by omega) (SW_step hR hC hS hi hj h1 h2 h3 c1 (by rw [pk_us]; exact c2) c3 (fun x hx => by rw [pk_un hx, pk_un hx]) c4)
theorem live_all {R : Nat} (hR : R ≤ 6) {lv : Nat → Int32} (h : ∀ i, i < 6 → lv i = 1) : liveAt (2 ^ R - 1) R lv := by
  refine ⟨?_, fun i hi => ?_⟩
  · have : 2 ^ R ≤ 2 ^ 6 := Nat.pow_le_pow_right (by omega) hR
    omega
  · rw [b_allb R (by omega) i (by omega)]
    unfold lvB
    rw [h i hi]
    simp
theorem ones_loop (rule : Int32) (up lo : Int64) (il R C brr bcc fd : Int32) (cl cu pC pF pR pW : Nat → Int32) : ∀ (m k fuel : Nat) (lc lr : Nat → Int32), k + m = 6 → m + 1 ≤ fuel → (∀ i, i < k → lc i = 1 ∧ lr i = 1) → ∃ lc' lr', (∀ i, i < 6 → lc' i = 1 ∧ lr' i = 1) ∧ fX11_goes_12 rule up lo il R C brr bcc fd cl cu pC pF pR pW 0 0 fuel (nI k) lc lr = fX11_goes_38 rule R C fuelN up lo il 0 brr bcc 0 fd cl cu lc' lr' pC pF pR pW := by
  intro m
  induction m with
  | zero =>
    intro k fuel lc lr hm hf h
    obtain ⟨fuel, rfl⟩ : ∃ f, fuel = f + 1 := ⟨fuel - 1, by omega⟩
    obtain rfl : k = 6 := by omega
    exact ⟨lc, lr, h, by rw [fX11_goes_12_s, if_pos le66]⟩
  | succ m ih =>
    intro k fuel lc lr hm hf h
    obtain ⟨fuel, rfl⟩ : ∃ f, fuel = f + 1 := ⟨fuel - 1, by omega⟩
    rw [fX11_goes_12_s, if_neg (nI_ge6 (by omega))]
    simp only [inB_ok (n := 6) (i := k) (by omega) (by omega), nI_clamp (n := k) (by omega), lt_def, nar1, ← nI_succ]
    refine ih (k + 1) fuel _ _ (by omega) (by omega) (fun i hi => ?_)
    by_cases e : i = k
    · subst e; rw [pk_us, pk_us]; exact ⟨rfl, rfl⟩
    · rw [pk_un e, pk_un e]; exact h i (by omega)
/-- the elimination, by both -/
theorem sweep_ok (rule : Int32) {R C : Nat} (hR : R ≤ 6) (hC : C ≤ 6) {U L cu cl : Nat → Int32} (hG : eqG R C U L cu cl) (br bc b1 b2 brr bcc fd il fi si : Int32) (fu fw su sl up lo : Int64) (fills L0 U0 pCols pRows weights lc lr pC pF pR pW : Nat → Int32) :
    ∃ k' b' br' bc' mr' mc' b1' b2' fu' fw' fi' fills' L' su' sl' si' U' pCols' pRows' weights' up' lo' il' brr' bcc' fd' cl' cu' lc' lr' pC' pF' pR' pW',
      fX7_run rule br bc b1 b2 fu fw fi fills L0 su sl si U0 pCols pRows weights (nI R) (nI C) L U = some (nI k', b', br', bc', nI mr', nI mc', b1', b2', fu', fw', fi', fills', nI R, nI C, L', su', sl', si', U', pCols', pRows', weights') ∧
      fX11_goes rule up lo il (nI R) (nI C) brr bcc fd cl cu lc lr pC pF pR pW = some (up', lo', il', nI k', brr', bcc', b', fd', cl', cu', lc', lr', pC', pF', pR', pW') ∧ k' ≤ 6 ∧
      ((b' = 1 ∧ br' = brr' ∧ bc' = bcc') ∨ (b' = 0 ∧ SW R C k' mr' mc' U' L' pRows' pCols' fills' weights' cu' cl' lr' lc' pR' pC' pF' pW')) := by
  obtain ⟨L1, U1, hc, hcc⟩ := copy_ok L0 U0 (nI R) (nI C) L U
  obtain ⟨lc1, lr1, hl, hg⟩ := ones_loop rule up lo il (nI R) (nI C) brr bcc fd cl cu pC pF pR pW 6 0 fuelN lc lr (by omega) (by unfold fuelN; omega) (fun i hi => by omega)
  unfold fX7_run fX11_goes
  rw [hc, show (0 : Int32) = nI 0 from rfl] at *
  simp only [Option.bind_some, lt_def, b_all R (by omega), allCols_ok hC]
  rw [show (nI 0 : Int32) = 0 from rfl] at hg
  rw [show (nI 0 : Int32) = 0 from rfl, hg]
  refine run_loop rule hR hC 6 0 fuelN fuelN (2 ^ R - 1) (2 ^ C - 1) br bc brr bcc b1 b2 fu fw fi su sl up lo si il fd U1 L1 pRows pCols fills weights cu cl lr1 lc1 pR pC pF pW (by omega) (by unfold fuelN; omega) (by unfold fuelN; omega) ⟨?_, live_all hR (fun i hi => (hl i hi).2), live_all hC (fun i hi => (hl i hi).1), ?_, ?_, fun _ => 0, fun _ => 0, fun j hj => by omega, ?_, ?_, fun j j' hj => by omega, fun j j' hj => by omega⟩
  · intro r c hr hc
    have hj := lt42 (show r < 6 by omega) (show c < 7 by omega)
    obtain ⟨e1, e2, e3⟩ := hG r c hr hc
    rw [(hcc _ hj).1, (hcc _ hj).2]
    exact ⟨e1, e2, e3⟩
  · rw [cN_all R (fun i hi => by unfold lvB; rw [(hl i (by omega)).2]; rfl)]; rfl
  · rw [cN_all C (fun i hi => by unfold lvB; rw [(hl i (by omega)).1]; rfl)]; rfl
  · intro i hi h0
    rw [(hl i (by omega)).2] at h0
    exact absurd h0 one0
  · intro i hi h0
    rw [(hl i (by omega)).1] at h0
    exact absurd h0 one0
