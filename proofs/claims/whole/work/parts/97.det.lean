/-! Determinants: the product of the pivots; how often rows are turned round. -/
def sN (f : Nat → Nat) : Nat → Nat
  | 0 => 0
  | n + 1 => sN f n + f n
theorem sN_s (f : Nat → Nat) (n : Nat) : sN f (n + 1) = sN f n + f n := rfl
theorem sN_congr {f g : Nat → Nat} : ∀ n, (∀ i, i < n → f i = g i) → sN f n = sN g n := by
  intro n
  induction n with
  | zero => intro _; rfl
  | succ n ih =>
    intro h
    rw [sN_s, sN_s, ih (fun i hi => h i (by omega)), h n (by omega)]
theorem sN_add (f g : Nat → Nat) : ∀ n, sN (fun i => f i + g i) n = sN f n + sN g n := by
  intro n
  induction n with
  | zero => rfl
  | succ n ih => rw [sN_s, sN_s, sN_s, ih]; omega
theorem sN_zero {f : Nat → Nat} (n : Nat) (h : ∀ i, i < n → f i = 0) : sN f n = 0 := by
  rw [sN_congr n h]
  induction n with
  | zero => rfl
  | succ n ih => rw [sN_s, ih (fun i hi => h i (by omega))]
theorem sN_one {f g : Nat → Nat} {i0 : Nat} : ∀ n, i0 < n → (∀ i, i < n → ¬ i = i0 → f i = g i) → sN f n + g i0 = sN g n + f i0 := by
  intro n
  induction n with
  | zero => intro h; omega
  | succ n ih =>
    intro hi h
    rw [sN_s, sN_s]
    by_cases e : i0 = n
    · subst e
      rw [sN_congr i0 (fun i hi => h i (by omega) (by omega))]
      omega
    · have := ih (by omega) (fun i hi => h i (by omega))
      have h2 := h n (by omega) (by omega)
      omega
theorem sN_perm (f : Nat → Nat) : ∀ (n : Nat) (q : Nat → Nat), (∀ i, i < n → q i < n) → (∀ y, y < n → ∃ x, x < n ∧ q x = y) → (∀ i j, i < n → j < n → q i = q j → i = j) → sN (fun i => f (q i)) n = sN f n := by
  intro n
  induction n with
  | zero => intros; rfl
  | succ n ih =>
    intro q h1 h2 h3
    rw [sN_s, sN_s]
    by_cases e : q n = n
    · have := ih q (fun i hi => by
        have := h1 i (by omega)
        have h4 : ¬ q i = n := fun e2 => by
          have := h3 i n (by omega) (by omega) (by rw [e2, e])
          omega
        omega) (fun y hy => by
        obtain ⟨x, hx, ex⟩ := h2 y (by omega)
        have : ¬ x = n := fun e2 => by
          subst e2
          omega
        exact ⟨x, by omega, ex⟩) (fun i j hi hj => h3 i j (by omega) (by omega))
      rw [this, e]
    · obtain ⟨i0, hi0, e0⟩ := h2 n (by omega)
      have hi0n : i0 < n := by
        have : ¬ i0 = n := fun e2 => e (by rw [← e2]; rw [e0]; exact e2.symm)
        omega
      have hm := h1 n (by omega)
      have := ih (fun i => if i = i0 then q n else q i) (fun i hi => by
        by_cases c : i = i0
        · rw [if_pos c]; omega
        · rw [if_neg c]
          have a := h1 i (by omega)
          have b : ¬ q i = n := fun e2 => c (h3 i i0 (by omega) (by omega) (by rw [e2, e0]))
          omega) (fun y hy => by
        obtain ⟨x, hx, ex⟩ := h2 y (by omega)
        by_cases c : x = n
        · exact ⟨i0, hi0n, by rw [if_pos rfl, ← c]; exact ex⟩
        · have d : ¬ x = i0 := fun e2 => by
            rw [e2, e0] at ex
            omega
          exact ⟨x, by omega, by rw [if_neg d]; exact ex⟩) (fun i j hi hj ee => by
        by_cases c : i = i0
        · by_cases d : j = i0
          · omega
          · rw [if_pos c, if_neg d] at ee
            have := h3 n j (by omega) (by omega) ee
            omega
        · by_cases d : j = i0
          · rw [if_neg c, if_pos d] at ee
            have := h3 i n (by omega) (by omega) ee
            omega
          · rw [if_neg c, if_neg d] at ee
            exact h3 i j (by omega) (by omega) ee)
      have o := sN_one (f := fun i => f (q i)) (g := fun i => f (if i = i0 then q n else q i)) (i0 := i0) n hi0n (fun i hi hne => by rw [if_neg hne])
      rw [if_pos rfl, this, e0] at o
      omega
def tT (g : Nat → Nat → Nat) : Nat → Nat
  | 0 => 0
  | n + 1 => tT g n + sN (fun i => g i n) n
theorem tT_s (g : Nat → Nat → Nat) (n : Nat) : tT g (n + 1) = tT g n + sN (fun i => g i n) n := rfl
theorem tT_dbl {g : Nat → Nat → Nat} (hs : ∀ i j, g i j = g j i) (h0 : ∀ i, g i i = 0) : ∀ n, sN (fun i => sN (g i) n) n = 2 * tT g n := by
  intro n
  induction n with
  | zero => rfl
  | succ n ih =>
    rw [sN_s, tT_s, sN_s, sN_congr n (f := fun i => sN (g i) (n + 1)) (g := fun i => sN (g i) n + g i n) (fun i _ => rfl), sN_add, ih, h0 n, sN_congr n (f := g n) (g := fun i => g i n) (fun i _ => hs n i)]
    omega
theorem tT_perm {g : Nat → Nat → Nat} (hs : ∀ i j, g i j = g j i) (h0 : ∀ i, g i i = 0) (n : Nat) (q : Nat → Nat) (h1 : ∀ i, i < n → q i < n) (h2 : ∀ y, y < n → ∃ x, x < n ∧ q x = y) (h3 : ∀ i j, i < n → j < n → q i = q j → i = j) : tT (fun i j => g (q i) (q j)) n = tT g n := by
  have a := tT_dbl (g := fun i j => g (q i) (q j)) (fun i j => hs _ _) (fun i => h0 _) n
  have b := tT_dbl hs h0 n
  have c : sN (fun i => sN (fun j => g (q i) (q j)) n) n = sN (fun i => sN (g i) n) n := by
    rw [sN_congr n (g := fun i => sN (g (q i)) n) (fun i _ => sN_perm (g (q i)) n q h1 h2 h3)]
    exact sN_perm (fun i => sN (g i) n) n q h1 h2 h3
  have a' : sN (fun i => sN (fun j => g (q i) (q j)) n) n = 2 * tT (fun i j => g (q i) (q j)) n := a
  omega
theorem tT_up (h : Nat → Nat → Nat) : ∀ n, sN (fun c => sN (fun d => if c < d then h c d else 0) n) n = tT h n := by
  intro n
  induction n with
  | zero => rfl
  | succ n ih =>
    rw [sN_s, tT_s, sN_congr n (g := fun c => sN (fun d => if c < d then h c d else 0) n + h c n) (fun c hc => by rw [sN_s, if_pos hc]), sN_add, ih, sN_zero (n + 1) (fun d hd => if_neg (by omega))]
    rfl
/-- two that stand the other way round -/
def gT (ri ci : Nat → Nat) (i j : Nat) : Nat := if (ri i < ri j ∧ ci j < ci i) ∨ (ri j < ri i ∧ ci i < ci j) then 1 else 0
theorem gT_s (ri ci : Nat → Nat) (i j : Nat) : gT ri ci i j = gT ri ci j i := by
  unfold gT
  by_cases h : (ri i < ri j ∧ ci j < ci i) ∨ (ri j < ri i ∧ ci i < ci j)
  · rw [if_pos h, if_pos h.symm]
  · rw [if_neg h, if_neg (fun q => h q.symm)]
theorem gT_0 (ri ci : Nat → Nat) (i : Nat) : gT ri ci i i = 0 := by
  unfold gT
  exact if_neg (by omega)
theorem par_t (n : Nat) : (nI (n % 2) = 0 ∧ nI ((n + 1) % 2) = 1) ∨ (¬ nI (n % 2) = 0 ∧ nI ((n + 1) % 2) = 0) := by
  rcases Nat.mod_two_eq_zero_or_one n with h | h
  · left
    have e : (n + 1) % 2 = 1 := by omega
    rw [h, e]
    exact ⟨rfl, rfl⟩
  · right
    have e : (n + 1) % 2 = 0 := by omega
    rw [h, e]
    exact ⟨one0, rfl⟩
theorem det_in {a K : Nat} (ha : a < K) (hK : K ≤ 6) {ri ci : Nat → Nat} {pRows pCols : Nat → Int32} (hr : ∀ j, j < K → ri j < 6 ∧ ci j < 6 ∧ pRows j = nI (ri j) ∧ pCols j = nI (ci j)) (hri : ∀ j j', j < K → j' < K → ri j = ri j' → j = j') (hci : ∀ j j', j < K → j' < K → ci j = ci j' → j = j') (rec : Int32 → Int32 → Int64 → Int64 → Int32 → Option (Int64 × Int64 × Int32)) (pu pl : Int64) (pi : Int32) (s : Nat) : ∀ (m e fuel : Nat), e + m = a → m + 1 ≤ fuel → fX7_multiplyPivots_84 (nI K) pCols pRows (nI a) rec (nI (ri a)) (nI (ci a)) pu pl pi fuel (nI ((s + sN (fun i => gT ri ci i a) e) % 2)) (nI e) = rec (nI ((s + sN (fun i => gT ri ci i a) a) % 2)) (nI (a + 1)) pu pl pi := by
  intro m
  induction m with
  | zero =>
    intro e fuel he hf
    obtain ⟨fuel, rfl⟩ : ∃ f, fuel = f + 1 := ⟨fuel - 1, by omega⟩
    obtain rfl : e = a := by omega
    rw [fX7_multiplyPivots_84_s, if_pos (nI_le (Nat.le_refl _) (by omega))]
    unfold fX7_multiplyPivots_141
    rw [← nI_succ]
  | succ m ih =>
    intro e fuel he hf
    obtain ⟨fuel, rfl⟩ : ∃ f, fuel = f + 1 := ⟨fuel - 1, by omega⟩
    have := ih (e + 1) fuel (by omega) (by omega)
    rw [sN_s, ← Nat.add_assoc] at this
    obtain ⟨x1, x2, x3, x4⟩ := hr e (by omega)
    obtain ⟨y1, y2, -, -⟩ := hr a ha
    have ne1 : ¬ ri e = ri a := fun q => by have := hri e a (by omega) ha q; omega
    have ne2 : ¬ ci e = ci a := fun q => by have := hci e a (by omega) ha q; omega
    rw [fX7_multiplyPivots_84_s, if_neg (nI_ge (by omega) (by omega)), rowOf_ok (by omega) hK, x3]
    simp only [obs]
    unfold fX7_multiplyPivots_106
    rw [colOf_ok (by omega) hK, x4]
    simp only [obs, ← nI_succ]
    have tog : gT ri ci e a = 1 → (if nI ((s + sN (fun i => gT ri ci i a) e) % 2) = 0 then fX7_multiplyPivots_84 (nI K) pCols pRows (nI a) rec (nI (ri a)) (nI (ci a)) pu pl pi fuel 1 (nI (e + 1)) else fX7_multiplyPivots_84 (nI K) pCols pRows (nI a) rec (nI (ri a)) (nI (ci a)) pu pl pi fuel 0 (nI (e + 1))) = rec (nI ((s + sN (fun i => gT ri ci i a) a) % 2)) (nI (a + 1)) pu pl pi := by
      intro hg
      rw [hg] at this
      rcases par_t (s + sN (fun i => gT ri ci i a) e) with ⟨q1, q2⟩ | ⟨q1, q2⟩
      · rw [if_pos q1]
        rw [q2] at this
        exact this
      · rw [if_neg q1]
        rw [q2] at this
        exact this
    have stay : gT ri ci e a = 0 → fX7_multiplyPivots_84 (nI K) pCols pRows (nI a) rec (nI (ri a)) (nI (ci a)) pu pl pi fuel (nI ((s + sN (fun i => gT ri ci i a) e) % 2)) (nI (e + 1)) = rec (nI ((s + sN (fun i => gT ri ci i a) a) % 2)) (nI (a + 1)) pu pl pi := by
      intro hg
      rw [hg, Nat.add_zero] at this
      exact this
    by_cases c1 : ri a ≤ ri e
    · rw [if_pos (nI_le c1 (by omega))]
      by_cases c2 : ci a ≤ ci e
      · rw [if_pos (nI_le c2 (by omega)), if_pos trivial]
        exact stay (by unfold gT; exact if_neg (by omega))
      · rw [if_neg (nI_ge (by omega) (by omega)), if_neg (show ¬ (0 : Int32) = 1 by decide)]
        exact tog (by unfold gT; exact if_pos (by omega))
    · rw [if_neg (nI_ge (by omega) (by omega))]
      by_cases c2 : ci a ≤ ci e
      · rw [if_pos (nI_le c2 (by omega)), if_neg one0]
        exact tog (by unfold gT; exact if_pos (by omega))
      · rw [if_neg (nI_ge (by omega) (by omega)), if_pos trivial]
        exact stay (by unfold gT; exact if_neg (by omega))
theorem det_bad {K : Nat} (hK : K ≤ 6) {ri ci : Nat → Nat} {pRows pCols : Nat → Int32} (hr : ∀ j, j < K → ri j < 6 ∧ ci j < 6 ∧ pRows j = nI (ri j) ∧ pCols j = nI (ci j)) (hri : ∀ j j', j < K → j' < K → ri j = ri j' → j = j') (hci : ∀ j j', j < K → j' < K → ci j = ci j' → j = j') (U L : Nat → Int32) : ∀ (m a fuel : Nat), a + m = K → m + 1 ≤ fuel → fX7_multiplyPivots_31 (nI K) L U pCols pRows fuel (nI (tT (gT ri ci) a % 2)) (nI a) 0 1 1 = fX7_multiplyPivots_147 (nI (tT (gT ri ci) K % 2)) 0 1 1 := by
  intro m
  induction m with
  | zero =>
    intro a fuel ha hf
    obtain ⟨fuel, rfl⟩ : ∃ f, fuel = f + 1 := ⟨fuel - 1, by omega⟩
    obtain rfl : a = K := by omega
    rw [fX7_multiplyPivots_31_s, if_pos (nI_le (Nat.le_refl _) (by omega))]
  | succ m ih =>
    intro a fuel ha hf
    obtain ⟨fuel, rfl⟩ : ∃ f, fuel = f + 1 := ⟨fuel - 1, by omega⟩
    have := ih (a + 1) fuel (by omega) (by omega)
    rw [tT_s] at this
    obtain ⟨x1, x2, x3, x4⟩ := hr a (by omega)
    have q := det_in (show a < K by omega) hK hr hri hci (fX7_multiplyPivots_31 (nI K) L U pCols pRows fuel) 0 1 1 (tT (gT ri ci) a) a 0 fuelN (by omega) (by unfold fuelN; omega)
    rw [show sN (fun i => gT ri ci i a) 0 = 0 from rfl, Nat.add_zero, show nI 0 = 0 from rfl] at q
    rw [fX7_multiplyPivots_31_s, if_neg (nI_ge (by omega) (by omega)), rowOf_ok (by omega) hK, colOf_ok (by omega) hK, x3, x4]
    simp only [obs]
    rw [upperAt_ok x1 (by omega), lowerAt_ok x1 (by omega)]
    simp only [obs, times_was]
    rw [q]
    exact this
theorem det_loop {R C K : Nat} (hR : R ≤ 6) (hC : C ≤ 6) (hK : K ≤ 6) {ri ci : Nat → Nat} {pRows pCols pR pC : Nat → Int32} {U L cu cl : Nat → Int32} (hG : eqG R C U L cu cl) (hr : ∀ j, j < K → ri j < R ∧ ci j < C ∧ pRows j = nI (ri j) ∧ pCols j = nI (ci j) ∧ pR j = nI (ri j) ∧ pC j = nI (ci j)) (hri : ∀ j j', j < K → j' < K → ri j = ri j' → j = j') (hci : ∀ j j', j < K → j' < K → ci j = ci j' → j = j') (cc brr bcc isB fd : Int32) (lc lr pF pW : Nat → Int32) : ∀ (m a fuel fuel' : Nat) (A B : Int32), a + m = K → m + 1 ≤ fuel → m + 1 ≤ fuel' → goodE A B →
    (fX7_multiplyPivots_31 (nI K) L U pCols pRows fuel (nI (tT (gT ri ci) a % 2)) (nI a) A.toInt64 B.toInt64 0 = fX7_multiplyPivots_147 (nI (tT (gT ri ci) K % 2)) 0 1 1 ∧ ∃ v, fX11_hasDeterminant_50 cc (nI K) brr bcc isB fd cl cu lc lr pC pF pR pW fuel' (nI a) A.toInt64 B.toInt64 0 = some v ∧ v.1 = 0) ∨
    (∃ A' B', goodE A' B' ∧ fX7_multiplyPivots_31 (nI K) L U pCols pRows fuel (nI (tT (gT ri ci) a % 2)) (nI a) A.toInt64 B.toInt64 0 = fX7_multiplyPivots_147 (nI (tT (gT ri ci) K % 2)) A'.toInt64 B'.toInt64 0 ∧ fX11_hasDeterminant_50 cc (nI K) brr bcc isB fd cl cu lc lr pC pF pR pW fuel' (nI a) A.toInt64 B.toInt64 0 = fX11_hasDeterminant_115 cc A'.toInt64 B'.toInt64 0 (nI K) brr bcc isB fd cl cu lc lr pC pF pR pW) := by
  have hr' : ∀ j, j < K → ri j < 6 ∧ ci j < 6 ∧ pRows j = nI (ri j) ∧ pCols j = nI (ci j) := fun j hj => by
    obtain ⟨x1, x2, x3, x4, -, -⟩ := hr j hj
    exact ⟨by omega, by omega, x3, x4⟩
  intro m
  induction m with
  | zero =>
    intro a fuel fuel' A B ha hf hf' hg
    obtain ⟨fuel, rfl⟩ : ∃ f, fuel = f + 1 := ⟨fuel - 1, by omega⟩
    obtain ⟨fuel', rfl⟩ : ∃ f, fuel' = f + 1 := ⟨fuel' - 1, by omega⟩
    obtain rfl : a = K := by omega
    right
    rw [fX7_multiplyPivots_31_s, if_pos (nI_le (Nat.le_refl _) (by omega)), fX11_hasDeterminant_50_s, if_pos (nI_le (Nat.le_refl _) (by omega))]
    exact ⟨A, B, hg, rfl, rfl⟩
  | succ m ih =>
    intro a fuel fuel' A B ha hf hf' hg
    obtain ⟨fuel, rfl⟩ : ∃ f, fuel = f + 1 := ⟨fuel - 1, by omega⟩
    obtain ⟨fuel', rfl⟩ : ∃ f, fuel' = f + 1 := ⟨fuel' - 1, by omega⟩
    obtain ⟨x1, x2, x3, x4, x5, x6⟩ := hr a (by omega)
    have hx := lt42 (show ri a < 6 by omega) (show ci a < 7 by omega)
    obtain ⟨e1, e2, g1⟩ := hG (ri a) (ci a) x1 (by omega)
    rw [fX7_multiplyPivots_31_s, if_neg (nI_ge (by omega) (by omega)), rowOf_ok (by omega) hK, colOf_ok (by omega) hK, x3, x4, fX11_hasDeterminant_50_s, if_neg (nI_ge (by omega) (by omega))]
    simp only [obs]
    rw [upperAt_ok (by omega) (by omega), lowerAt_ok (by omega) (by omega)]
    simp only [obs, inB_ok (n := 6) (i := a) (by omega) (by omega), nI_clamp (n := a) (by omega), x5, x6, cell_ok, inB_ok (n := 42) hx (by omega), nI_clamp (n := 7 * ri a + ci a) (by omega), e1, e2]
    rcases times2 hg g1 with ⟨t1, x, y, t2⟩ | ⟨A1, B1, gA1, t1, t2⟩
    · left
      rw [t1, t2]
      simp only [obs, if_neg one0]
      have q := det_in (show a < K by omega) hK hr' hri hci (fX7_multiplyPivots_31 (nI K) L U pCols pRows fuel) 0 1 1 (tT (gT ri ci) a) a 0 fuelN (by omega) (by unfold fuelN; omega)
      rw [show sN (fun i => gT ri ci i a) 0 = 0 from rfl, Nat.add_zero, show nI 0 = 0 from rfl] at q
      rw [q]
      have b := det_bad hK hr' hri hci U L m (a + 1) fuel (by omega) (by omega)
      rw [tT_s] at b
      exact ⟨b, _, rfl, rfl⟩
    · rw [t1, t2]
      simp only [obs, ↓reduceIte]
      have q := det_in (show a < K by omega) hK hr' hri hci (fX7_multiplyPivots_31 (nI K) L U pCols pRows fuel) A1.toInt64 B1.toInt64 0 (tT (gT ri ci) a) a 0 fuelN (by omega) (by unfold fuelN; omega)
      rw [show sN (fun i => gT ri ci i a) 0 = 0 from rfl, Nat.add_zero, show nI 0 = 0 from rfl] at q
      rw [q, ← nI_succ]
      have := ih (a + 1) fuel fuel' A1 B1 (by omega) (by omega) (by omega) gA1
      rw [tT_s] at this
      exact this
theorem turn_in {C K c : Nat} (hC : C ≤ 6) (hK : K ≤ 6) (hc : c < C) {ri ci q : Nat → Nat} {pR pC : Nat → Int32} (hq : ∀ c, c < C → q c < K ∧ ci (q c) = c ∧ fX11_pivotOf (nI c) (nI K) pC = some (nI (q c))) (hr : ∀ j, j < K → ri j < 6 ∧ pR j = nI (ri j))
    (rec : Int32 → Int32 → Option (Int32 × Int64 × Int64 × Int32 × Int32 × Int32 × Int32 × Int32 × Int32 × (Nat → Int32) × (Nat → Int32) × (Nat → Int32) × (Nat → Int32) × (Nat → Int32) × (Nat → Int32) × (Nat → Int32) × (Nat → Int32))) (s : Nat) : ∀ (m d fuel : Nat), d + m = C → c < d → m + 1 ≤ fuel → fX11_hasDeterminant_131 (nI C) (nI c) (nI K) pC pR rec fuel (nI (s + sN (fun d => if c < d then gT ri ci (q c) (q d) else 0) d)) (nI d) = rec (nI (s + sN (fun d => if c < d then gT ri ci (q c) (q d) else 0) C)) (nI (c + 1)) := by
  intro m
  induction m with
  | zero =>
    intro d fuel hd hcd hf
    obtain ⟨fuel, rfl⟩ : ∃ f, fuel = f + 1 := ⟨fuel - 1, by omega⟩
    obtain rfl : d = C := by omega
    rw [fX11_hasDeterminant_131_s, if_pos (nI_le (Nat.le_refl _) (by omega))]
    unfold fX11_hasDeterminant_176
    rw [← nI_succ]
  | succ m ih =>
    intro d fuel hd hcd hf
    obtain ⟨fuel, rfl⟩ : ∃ f, fuel = f + 1 := ⟨fuel - 1, by omega⟩
    have := ih (d + 1) fuel (by omega) (by omega) (by omega)
    rw [sN_s, if_pos hcd, ← Nat.add_assoc] at this
    obtain ⟨a1, a2, a3⟩ := hq c hc
    obtain ⟨b1, b2, b3⟩ := hq d (by omega)
    obtain ⟨r1, r2⟩ := hr (q c) a1
    obtain ⟨r3, r4⟩ := hr (q d) b1
    rw [fX11_hasDeterminant_131_s, if_neg (nI_ge (by omega) (by omega)), a3]
    simp only [obs]
    rw [b3]
    simp only [obs, inB_ok (n := 6) (i := q c) (by omega) (by omega), inB_ok (n := 6) (i := q d) (by omega) (by omega), nI_clamp (n := q c) (by omega), nI_clamp (n := q d) (by omega), r2, r4, ltp, nI_p0, ← nI_succ]
    by_cases h : ri (q c) ≤ ri (q d)
    · rw [if_pos (nI_le h (by omega))]
      rw [show gT ri ci (q c) (q d) = 0 from by unfold gT; exact if_neg (by omega), Nat.add_zero] at this
      exact this
    · rw [if_neg (nI_ge (by omega) (by omega))]
      rw [show gT ri ci (q c) (q d) = 1 from by unfold gT; exact if_pos (by omega)] at this
      exact this
theorem turn_out {C K : Nat} (hC : C ≤ 6) (hK : K ≤ 6) {ri ci q : Nat → Nat} {pR pC : Nat → Int32} (hq : ∀ c, c < C → q c < K ∧ ci (q c) = c ∧ fX11_pivotOf (nI c) (nI K) pC = some (nI (q c))) (hr : ∀ j, j < K → ri j < 6 ∧ pR j = nI (ri j)) (up lo : Int64) (il brr bcc isB fd : Int32) (cl cu lc lr pF pW : Nat → Int32) : ∀ (m c fuel : Nat), c + m = C → m + 1 ≤ fuel → fX11_hasDeterminant_119 (nI C) up lo il (nI K) brr bcc isB fd cl cu lc lr pC pF pR pW fuel (nI (sN (fun c => sN (fun d => if c < d then gT ri ci (q c) (q d) else 0) C) c)) (nI c) = fX11_hasDeterminant_182 (nI (sN (fun c => sN (fun d => if c < d then gT ri ci (q c) (q d) else 0) C) C)) up lo il (nI K) brr bcc isB fd cl cu lc lr pC pF pR pW := by
  intro m
  induction m with
  | zero =>
    intro c fuel hc hf
    obtain ⟨fuel, rfl⟩ : ∃ f, fuel = f + 1 := ⟨fuel - 1, by omega⟩
    obtain rfl : c = C := by omega
    rw [fX11_hasDeterminant_119_s, if_pos (nI_le (Nat.le_refl _) (by omega))]
  | succ m ih =>
    intro c fuel hc hf
    obtain ⟨fuel, rfl⟩ : ∃ f, fuel = f + 1 := ⟨fuel - 1, by omega⟩
    have := ih (c + 1) fuel (by omega) (by omega)
    rw [sN_s] at this
    have i := turn_in hC hK (show c < C by omega) hq hr (fX11_hasDeterminant_119 (nI C) up lo il (nI K) brr bcc isB fd cl cu lc lr pC pF pR pW fuel) (sN (fun c => sN (fun d => if c < d then gT ri ci (q c) (q d) else 0) C) c) (C - (c + 1)) (c + 1) fuelN (by omega) (by omega) (by unfold fuelN; omega)
    rw [sN_zero (c + 1) (fun d hd => if_neg (by omega)), Nat.add_zero] at i
    rw [fX11_hasDeterminant_119_s, if_neg (nI_ge (by omega) (by omega)), ltp, ← nI_succ, i]
    exact this
theorem tT_bd (g : Nat → Nat → Nat) (h : ∀ i j, g i j ≤ 1) : ∀ n, n ≤ 6 → tT g n ≤ 6 * n := by
  intro n
  induction n with
  | zero => intro _; exact Nat.le_refl _
  | succ n ih =>
    intro hn
    have : ∀ k, sN (fun i => g i n) k ≤ k := by
      intro k
      induction k with
      | zero => exact Nat.le_refl _
      | succ k ih2 => rw [sN_s]; have := h k n; omega
    have := this n
    rw [tT_s]
    have := ih (by omega)
    omega
/-- the determinant by both; p2: turned once more -/
theorem det_ok {n : Nat} (hn : n ≤ 6) {U L cu cl : Nat → Int32} (hG : eqG n n U L cu cl) (p2 p3 : Int32) (qu ql : Int64) (qi : Int32) (rank broken br bc mr mc b1 b2 : Int32) (fu fw : Int64) (fi : Int32) (fills : Nat → Int32) (gr gc : Int32) (L0 : Nat → Int32) (su sl : Int64) (si : Int32) (U0 pCols pRows weights : Nat → Int32) (up lo : Int64) (il brr bcc fd : Int32) (lc lr pC pF pR pW : Nat → Int32) :
    ∃ u v, fX10_determinantOf p2 p3 qu ql qi rank broken br bc mr mc b1 b2 fu fw fi fills gr gc L0 su sl si U0 pCols pRows weights (nI n) (nI n) L U = some u ∧ fX11_hasDeterminant up lo il (nI n) (nI n) brr bcc fd cl cu lc lr pC pF pR pW = some v ∧
      ((v.1 = 0 ∧ u.1 = -2000000000) ∨ (v.1 = 1 ∧ ∃ A B : Int32, goodE A B ∧ v.2.1 = A.toInt64 ∧ v.2.2.1 = B.toInt64 ∧ fX11_tells p3 (if p2 = 0 then A.toInt64 else -A.toInt64) B.toInt64 = some u.1)) := by
  obtain ⟨k, b, br', bc', mr', mc', b1', b2', fu', fw', fi', fills', L1, su', sl', si', U1, pCols', pRows', weights', up1, lo1, il1, brr', bcc', fd', cl1, cu1, lc1, lr1, pC1, pF1, pR1, pW1, s1, s2, hk6, hsw⟩ := sweep_ok 1 hn hn hG br bc b1 b2 brr bcc fd il fi si fu fw su sl up lo fills L0 U0 pCols pRows weights lc lr pC pF pR pW
  have fin : ∀ (A B : Int32) (q : Option (Int32 × Int64 × Int64 × Int32 × Int32 × Int32 × Int32 × Int32 × Int32 × Int32 × Int32 × Int32 × Int64 × Int64 × Int32 × (Nat → Int32) × Int32 × Int32 × (Nat → Int32) × Int64 × Int64 × Int32 × (Nat → Int32) × (Nat → Int32) × (Nat → Int32) × (Nat → Int32))), goodE A B → (if p2 = 0 then (fX10_determinantOf_54 p3 A.toInt64 B.toInt64 0 (nI k) 0 br' bc' (nI mr') (nI mc') b1' b2' fu' fw' fi' fills' (nI n) (nI n) L1 su' sl' si' U1 pCols' pRows' weights') else ((fX3_negate A.toInt64).bind fun u_5 => fX10_determinantOf_54 p3 u_5 B.toInt64 0 (nI k) 0 br' bc' (nI mr') (nI mc') b1' b2' fu' fw' fi' fills' (nI n) (nI n) L1 su' sl' si' U1 pCols' pRows' weights')) = q → ∃ u, q = some u ∧ fX11_tells p3 (if p2 = 0 then A.toInt64 else -A.toInt64) B.toInt64 = some u.1 := by
    intro A B q gA hq
    subst hq
    unfold fX10_determinantOf_54 fX3_negate
    by_cases h2 : p2 = 0
    · simp only [if_pos h2]
      rw [answer_ok]
      obtain ⟨z, hz⟩ := tells_some p3 A.toInt64 B.toInt64
      rw [hz]
      exact ⟨_, rfl, rfl⟩
    · simp only [if_neg h2, ltp, obs]
      rw [(good_neg gA).2, answer_ok]
      obtain ⟨z, hz⟩ := tells_some p3 (-A).toInt64 B.toInt64
      rw [hz]
      exact ⟨_, rfl, rfl⟩
  have bad : ∃ u, (if p2 = 0 then (fX10_determinantOf_54 p3 0 1 1 (nI k) 0 br' bc' (nI mr') (nI mc') b1' b2' fu' fw' fi' fills' (nI n) (nI n) L1 su' sl' si' U1 pCols' pRows' weights') else ((fX3_negate 0).bind fun u_5 => fX10_determinantOf_54 p3 u_5 1 1 (nI k) 0 br' bc' (nI mr') (nI mc') b1' b2' fu' fw' fi' fills' (nI n) (nI n) L1 su' sl' si' U1 pCols' pRows' weights')) = some u ∧ u.1 = -2000000000 := by
    unfold fX10_determinantOf_54 fX3_negate
    by_cases h2 : p2 = 0
    · simp only [if_pos h2, answer_un]
      exact ⟨_, rfl, rfl⟩
    · simp only [if_neg h2, ltp, obs, answer_un]
      exact ⟨_, rfl, rfl⟩
  unfold fX10_determinantOf fX11_hasDeterminant fX1_isSquare
  rw [if_pos rfl]
  simp only [obs, if_neg one0]
  rw [s1, s2]
  simp only [obs]
  rcases hsw with ⟨rfl, -, -⟩ | ⟨rfl, hS⟩
  · simp only [if_neg one0]
    exact ⟨_, _, rfl, rfl, Or.inl ⟨rfl, rfl⟩⟩
  · simp only [↓reduceIte]
    unfold fX7_multiplyPivots fX11_hasDeterminant_31
    have n1 := hS.2.2.2.1
    have n2 := hS.2.2.2.2.1
    have cm1 : fX11_comes 1 1 = some (1, 1, 0) := by have h := comes_same good11; rw [e64_1] at h; exact h
    have cm0 : fX11_comes 0 1 = some (0, 1, 0) := by have h := comes_same good01; rw [e64_0, e64_1] at h; exact h
    by_cases hk : n ≤ k
    · obtain rfl : k = n := by omega
      obtain ⟨hG1, -, -, -, -, ri, ci, w1, w2, w3, w4, w5⟩ := id hS
      have hfree : ∀ c, c < k → ∃ j, j < k ∧ ci j = c ∧ fX11_pivotOf (nI c) (nI k) pC1 = some (nI j) := by
        intro c hc
        rcases SW_free hk6 hn hS hc with ⟨g1, -⟩ | ⟨g1, i, hi, g2, g3⟩
        · have := cN_0 k (show cN (lvB lc1) k = 0 by omega) c hc
          unfold lvB at this
          simp [g1] at this
        · refine ⟨i, hi, ?_, g3⟩
          have z := w1 i hi
          rw [z.2.2.2.2.2.1] at g2
          exact (nI_eq (by omega) (by omega)).mp g2
      obtain ⟨q, hq⟩ : ∃ q : Nat → Nat, ∀ c, c < k → q c < k ∧ ci (q c) = c ∧ fX11_pivotOf (nI c) (nI k) pC1 = some (nI (q c)) :=
        ⟨fun c => if h : c < k then Classical.choose (hfree c h) else 0, fun c hc => by simp only [dif_pos hc]; exact Classical.choose_spec (hfree c hc)⟩
      have hT : tT (fun i j => gT ri ci (q i) (q j)) k = tT (gT ri ci) k := tT_perm (gT_s ri ci) (gT_0 ri ci) k q (fun i hi => (hq i hi).1) (fun y hy => ⟨ci y, (w1 y hy).2.1, w5 _ _ (hq _ (w1 y hy).2.1).1 hy (hq _ (w1 y hy).2.1).2.1⟩) (fun i j hi hj e => by
        have a := (hq i hi).2.1
        have b := (hq j hj).2.1
        rw [e] at a
        omega)
      have hb := tT_bd (gT ri ci) (fun i j => by unfold gT; split <;> omega) k hn
      rw [if_pos (nI_le (Nat.le_refl _) (by omega)), cm1, start11]
      simp only [obs, if_pos (nI_le (Nat.le_refl k) (by omega))]
      have hl := det_loop hn hn hk6 hG1 (fun j hj => by
        obtain ⟨z1, z2, z3, z4, z5, z6, -⟩ := w1 j hj
        exact ⟨z1, z2, z3, z5, z4, z6⟩) w4 w5 (nI k) brr' bcc' 0 fd' lc1 lr1 pF1 pW1 k 0 fuelN fuelN 1 1 (by omega) (by unfold fuelN; omega) (by unfold fuelN; omega) good11
      rw [show nI (tT (gT ri ci) 0 % 2) = 0 from rfl, show nI 0 = 0 from rfl, e64_1] at hl
      rcases hl with ⟨l1, v, l2, l3⟩ | ⟨A, B, gA, l1, l2⟩
      · rw [l1, l2]
        unfold fX7_multiplyPivots_147
        have hneg : fX3_negate 0 = some 0 := rfl
        rw [hneg]
        simp only [obs, ite_self]
        obtain ⟨u, u1, u2⟩ := bad
        rw [hneg] at u1
        simp only [obs] at u1
        exact ⟨u, v, u1, rfl, Or.inl ⟨l3, u2⟩⟩
      · rw [l1, l2]
        unfold fX11_hasDeterminant_115
        have ht := turn_out hn hk6 hq (fun j hj => ⟨by have := (w1 j hj).1; omega, (w1 j hj).2.2.2.1⟩) A.toInt64 B.toInt64 0 brr' bcc' 0 fd' cl1 cu1 lc1 lr1 pF1 pW1 k 0 fuelN (by omega) (by unfold fuelN; omega)
        rw [show nI (sN (fun c => sN (fun d => if c < d then gT ri ci (q c) (q d) else 0) k) 0) = 0 from rfl, show nI 0 = 0 from rfl, tT_up (fun c d => gT ri ci (q c) (q d)) k, hT] at ht
        rw [ht]
        unfold fX11_hasDeterminant_182 fX7_multiplyPivots_147
        rw [show nI (tT (gT ri ci) k) - nI (tT (gT ri ci) k) / 2 * 2 = nI (tT (gT ri ci) k % 2) from pk_rem (a := tT (gT ri ci) k) (d := 2) (by omega) (by omega) (by omega)]
        rcases Nat.mod_two_eq_zero_or_one (tT (gT ri ci) k) with hp | hp
        · rw [hp, if_pos (show nI 0 = 0 from rfl), if_neg (show ¬ nI 0 = 1 by decide)]
          simp only [obs]
          obtain ⟨u, u1, u2⟩ := fin A B _ gA rfl
          exact ⟨u, _, u1, rfl, Or.inr ⟨rfl, A, B, gA, rfl, rfl, u2⟩⟩
        · rw [hp, if_neg (show ¬ nI 1 = 0 by decide), if_pos (show nI 1 = 1 from rfl)]
          unfold fX3_negate
          simp only [ltp, obs]
          obtain ⟨gN, eN⟩ := good_neg gA
          rw [eN]
          obtain ⟨u, u1, u2⟩ := fin (-A) B _ gN rfl
          unfold fX3_negate at u1
          simp only [ltp, obs] at u1
          exact ⟨u, _, u1, rfl, Or.inr ⟨rfl, -A, B, gN, rfl, rfl, u2⟩⟩
    · have hk' : ¬ nI n ≤ nI k := nI_ge (by omega) (by omega)
      rw [if_neg hk', cm0, start01]
      simp only [obs, if_neg hk']
      obtain ⟨u, u1, u2⟩ := fin 0 1 _ good01 rfl
      exact ⟨u, _, u1, rfl, Or.inr ⟨rfl, 0, 1, good01, rfl, rfl, u2⟩⟩
theorem pure_determinant : Pure_determinant := by
  intro p1 x_now_fault x_now_faultPlace x_now_refusal x_now_longRow x_now_longColumn x_now_matrix_rows x_now_matrix_columns x_now_matrix_upper x_now_matrix_lower x_now_tape_length x_now_tape_bytes x_images x_past_size x_past_top x_past_kept x_sweep_rank x_sweep_broken x_sweep_brokenRow x_sweep_brokenColumn x_sweep_liveRows x_sweep_liveColumns x_sweep_bestRow x_sweep_bestColumn x_sweep_grid_rows x_sweep_grid_columns x_sweep_grid_upper x_sweep_grid_lower x_sweep_grid_sum_upper x_sweep_grid_sum_lower x_sweep_grid_sum_isLong x_sweep_pivotRows x_sweep_pivotColumns x_sweep_fills x_sweep_weights x_sweep_factor_upper x_sweep_factor_lower x_sweep_factor_isLong x_ratio_upper x_ratio_lower x_ratio_isLong y_taped y_faultKind y_faultPlace y_undos y_up y_low y_isLong y_rank y_brokenRow y_brokenColumn y_filled y_all y_tape y_isImage y_cu y_cl y_pivotRow y_pivotColumn y_pivotFill y_pivotWeight y_liveRow y_liveColumn hh63 hI
  obtain ⟨R, C, cl, cu, hR1, hR6, hC1, hC6, rfl, rfl, hb, hG⟩ := inv_begin hI.1 y_cl y_cu
  unfold fX10_determinant fX11_determinant
  rw [hb]
  simp only [obs]
  by_cases hRC : R = C
  · subst hRC
    obtain ⟨u, v, h1, h2, hor⟩ := det_ok hR6 hG 0 p1 x_ratio_upper x_ratio_lower x_ratio_isLong x_sweep_rank x_sweep_broken x_sweep_brokenRow x_sweep_brokenColumn x_sweep_liveRows x_sweep_liveColumns x_sweep_bestRow x_sweep_bestColumn x_sweep_factor_upper x_sweep_factor_lower x_sweep_factor_isLong x_sweep_fills x_sweep_grid_rows x_sweep_grid_columns x_sweep_grid_lower x_sweep_grid_sum_upper x_sweep_grid_sum_lower x_sweep_grid_sum_isLong x_sweep_grid_upper x_sweep_pivotColumns x_sweep_pivotRows x_sweep_weights y_up y_low y_isLong y_brokenRow y_brokenColumn y_filled y_liveColumn y_liveRow y_pivotColumn y_pivotFill y_pivotRow y_pivotWeight
    rw [h1, if_pos rfl, h2]
    simp only [obs]
    rcases hor with ⟨v1, u1⟩ | ⟨v1, A, B, gA, z1, z2, ht⟩
    · rw [if_pos v1]
      exact ⟨_, _, rfl, rfl, u1, hI⟩
    · rw [if_neg (by rw [v1]; exact one0), z1, z2]
      rw [if_pos rfl] at ht
      rw [ht]
      simp only [obs]
      exact ⟨_, _, rfl, rfl, rfl, hI⟩
  · have hne : ¬ nI R = nI C := fun e => hRC ((nI_eq (by omega) (by omega)).mp e)
    unfold fX10_determinantOf fX1_isSquare
    rw [if_neg hne, if_neg hne]
    simp only [obs, ↓reduceIte]
    exact ⟨_, _, rfl, rfl, rfl, hI⟩
