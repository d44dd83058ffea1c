/-! What solves: values of columns, one pivot behind the other. -/
def VS (kn : Nat) (vu vl un : Nat → Int32) (xu xl : Nat → Int64) : Prop := kn < 64 ∧ ∀ c, c < 6 → (un c = 0 ∧ kn.testBit c = true ∧ xu c = (vu c).toInt64 ∧ xl c = (vl c).toInt64 ∧ goodE (vu c) (vl c)) ∨ (un c = 1 ∧ kn.testBit c = false)
theorem l64_0 {u : Int32} : lg_cmp u.toInt64 0 = 0 ↔ u = 0 := by
  rw [lg_cmp_eq]
  constructor
  · intro h; rw [← i64_32 u, h]; rfl
  · intro h; rw [h]; rfl
theorem mult_0 {r c : Nat} (hr : r < 6) (hc : c < 7) {U L : Nat → Int32} (hg : goodE (U (7 * r + c)) (L (7 * r + c))) (h : U (7 * r + c) = 0) (kn : Int32) (vl vu : Nat → Int32) : fX9_multiply (nI r) (nI c) kn vl vu L U = some (0, 1, 0) := by
  unfold fX9_multiply
  rw [load_ok hr hc]
  simp only [obs]
  rw [if_pos (l64_0.mpr h)]
  rw [h] at hg
  rw [h, good_zero hg]
  rfl
theorem mult_un {r c kn : Nat} (hr : r < 6) (hc : c < 6) {U L : Nat → Int32} (h : ¬ U (7 * r + c) = 0) (hk : kn < 64) (hb : kn.testBit c = false) (vl vu : Nat → Int32) : fX9_multiply (nI r) (nI c) (nI kn) vl vu L U = some (0, 1, 1) := by
  unfold fX9_multiply fX9_multiply_44 fX3_spoil
  rw [load_ok hr (by omega)]
  simp only [obs]
  rw [if_neg (fun q => h (l64_0.mp q)), if_neg (nI_pos (by omega)), if_neg (nI_ge6 hc), b_get kn hk c hc, hb, if_pos (show (if false = true then (1 : Int32) else 0) = 0 by decide)]
theorem mult_ok {r c kn : Nat} (hr : r < 6) (hc : c < 6) {U L : Nat → Int32} (h : ¬ U (7 * r + c) = 0) (hk : kn < 64) (hb : kn.testBit c = true) (vl vu : Nat → Int32) : fX9_multiply (nI r) (nI c) (nI kn) vl vu L U = fX3_times (vu c).toInt64 (vl c).toInt64 (U (7 * r + c)).toInt64 (L (7 * r + c)).toInt64 0 := by
  unfold fX9_multiply
  rw [load_ok hr (by omega)]
  simp only [obs]
  rw [if_neg (fun q => h (l64_0.mp q)), if_neg (nI_pos (by omega)), if_neg (nI_ge6 hc), b_get kn hk c hc, hb, if_neg (show ¬ (if true = true then (1 : Int32) else 0) = 0 by decide), inB_ok hc (by omega), inB_ok hc (by omega), nI_clamp (by omega), bd3]
/-- a sum of the class beside the reference's -/
def RS (ru rl : Int64) (ri : Int32) (a b : Int64) (bad : Int32) : Prop := (ri = 0 ∧ bad = 0 ∧ ∃ A B : Int32, goodE A B ∧ ru = A.toInt64 ∧ rl = B.toInt64 ∧ a = A.toInt64 ∧ b = B.toInt64) ∨ (ri = 1 ∧ bad = 1)
theorem sub_in {R r own C kn : Nat} (hrR : r < R) (hr : r < 6) (hC : C ≤ 6) (hown : own < 6) {U L cu cl vu vl un : Nat → Int32} {xu xl : Nat → Int64} (hG : eqG R C U L cu cl) (hV : VS kn vu vl un xu xl) (v4 : Int32)
    (rec : Int32 → Int32 → (Nat → Int32) → Int64 → Int64 → Int32 → Int64 → Int64 → Int32 → (Nat → Int32) → Option (Int32 × (Nat → Int32) × Int64 × Int64 × Int32 × Int64 × Int64 × Int32 × (Nat → Int32))) :
    ∀ (m c fuel fuel' : Nat) (pu pl : Int64) (pi : Int32) (ru rl : Int64) (ri : Int32) (a b : Int64) (bad : Int32) (up lo : Int64) (il : Int32), c + m = C → m + 1 ≤ fuel → m + 1 ≤ fuel' → RS ru rl ri a b bad →
    ∃ pu' pl' pi' ru' rl' ri' a' b' bad' up' lo' il', RS ru' rl' ri' a' b' bad' ∧ fX9_substitute_64 (nI C) L U v4 (nI kn) vl vu rec (nI r) (nI own) fuel (nI c) pu pl pi ru rl ri = fX9_substitute_133 L U v4 (nI kn) vl vu rec (nI r) (nI own) pu' pl' pi' ru' rl' ri' ∧
      fX11_solvesOne_69 (nI C) cl cu un xl xu (nI r) (nI own) fuel' a b bad (nI c) up lo il = fX11_solvesOne_239 cl cu un xl xu (nI r) (nI own) a' b' bad' up' lo' il' := by
  intro m
  induction m with
  | zero =>
    intro c fuel fuel' pu pl pi ru rl ri a b bad up lo il hm hf hf' hr
    obtain ⟨fuel, rfl⟩ : ∃ f, fuel = f + 1 := ⟨fuel - 1, by omega⟩
    obtain ⟨fuel', rfl⟩ : ∃ f, fuel' = f + 1 := ⟨fuel' - 1, by omega⟩
    obtain rfl : c = C := by omega
    rw [fX9_substitute_64_s, if_pos (nI_le (Nat.le_refl _) (by omega)), fX11_solvesOne_69_s, if_pos (nI_le (Nat.le_refl _) (by omega))]
    exact ⟨_, _, _, _, _, _, _, _, _, _, _, _, hr, rfl, rfl⟩
  | succ m ih =>
    intro c fuel fuel' pu pl pi ru rl ri a b bad up lo il hm hf hf' hrs
    obtain ⟨fuel, rfl⟩ : ∃ f, fuel = f + 1 := ⟨fuel - 1, by omega⟩
    obtain ⟨fuel', rfl⟩ : ∃ f, fuel' = f + 1 := ⟨fuel' - 1, by omega⟩
    have hrc := lt42 hr (show c < 7 by omega)
    obtain ⟨e1, e2, g1⟩ := hG r c hrR (by omega)
    rw [fX9_substitute_64_s, if_neg (nI_ge (by omega) (by omega)), fX11_solvesOne_69_s, if_neg (nI_ge (by omega) (by omega))]
    by_cases ho : c = own
    · subst ho
      rw [if_pos rfl, if_pos rfl, ← nI_succ]
      exact ih (c + 1) _ _ _ _ _ _ _ _ _ _ _ _ _ _ (by omega) (by omega) (by omega) hrs
    have ho' : ¬ nI c = nI own := fun e => ho ((nI_eq (by omega) (by omega)).mp e)
    rw [if_neg ho', if_neg ho', cell_ok]
    simp only [obs, inB_ok (n := 42) hrc (by omega), nI_clamp (n := 7 * r + c) (by omega), e1, ← nI_succ, fX11_solvesOne_122, fX9_substitute_106, cell_ok, inB_ok (n := 6) (i := c) (by omega) (by omega), nI_clamp (n := c) (by omega), e2, ltp, fX3_spoil]
    by_cases hu : U (7 * r + c) = 0
    · rw [if_pos hu, mult_0 hr (by omega) g1 hu]
      simp only [obs, ↓reduceIte]
      rcases hrs with ⟨rfl, rfl, A, B, gA, rfl, rfl, rfl, rfl⟩ | ⟨rfl, rfl⟩
      · rw [minus_0 gA]
        simp only [obs]
        exact ih (c + 1) _ _ _ _ _ _ _ _ _ _ _ _ _ _ (by omega) (by omega) (by omega) (Or.inl ⟨rfl, rfl, A, B, gA, rfl, rfl, rfl, rfl⟩)
      · rw [minus_was]
        simp only [obs]
        exact ih (c + 1) _ _ _ _ _ _ _ _ _ _ _ _ _ _ (by omega) (by omega) (by omega) (Or.inr ⟨rfl, rfl⟩)
    rw [if_neg hu]
    rcases hV.2 c (by omega) with ⟨u1, k1, x1, x2, gv⟩ | ⟨u1, k1⟩
    · rw [mult_ok hr (by omega) hu hV.1 k1, u1, x1, x2]
      rcases times2 g1 gv with ⟨t1, x, y, t2⟩ | ⟨A, B, gA, t1, t2⟩
      · rw [t1, t2]
        simp only [obs, if_neg one0, minus_was, ↓reduceIte]
        rcases hrs with ⟨rfl, rfl, -⟩ | ⟨rfl, rfl⟩
        · simp only [↓reduceIte, fX11_solvesOne_202, fX11_solvesOne_214, if_neg one0, ← nI_succ]
          exact ih (c + 1) _ _ _ _ _ _ _ _ _ _ _ _ _ _ (by omega) (by omega) (by omega) (Or.inr ⟨rfl, rfl⟩)
        · simp only [if_neg one0]
          exact ih (c + 1) _ _ _ _ _ _ _ _ _ _ _ _ _ _ (by omega) (by omega) (by omega) (Or.inr ⟨rfl, rfl⟩)
      · rw [t1, t2]
        simp only [obs, ↓reduceIte]
        rcases hrs with ⟨rfl, rfl, A', B', gA', rfl, rfl, rfl, rfl⟩ | ⟨rfl, rfl⟩
        · simp only [↓reduceIte]
          rcases minus2 gA' gA with ⟨t3, x, y, t4⟩ | ⟨A2, B2, gA2, t3, t4⟩
          · rw [t3, t4]
            simp only [obs, ↓reduceIte, fX11_solvesOne_202, fX11_solvesOne_214, if_neg one0, ← nI_succ]
            exact ih (c + 1) _ _ _ _ _ _ _ _ _ _ _ _ _ _ (by omega) (by omega) (by omega) (Or.inr ⟨rfl, rfl⟩)
          · rw [t3, t4]
            simp only [obs, ↓reduceIte, fX11_solvesOne_202, ← nI_succ]
            exact ih (c + 1) _ _ _ _ _ _ _ _ _ _ _ _ _ _ (by omega) (by omega) (by omega) (Or.inl ⟨rfl, rfl, A2, B2, gA2, rfl, rfl, rfl, rfl⟩)
        · simp only [if_neg one0, minus_was, obs]
          exact ih (c + 1) _ _ _ _ _ _ _ _ _ _ _ _ _ _ (by omega) (by omega) (by omega) (Or.inr ⟨rfl, rfl⟩)
    · rw [mult_un hr (by omega) hu hV.1 k1, u1]
      simp only [obs, if_neg one0, minus_was]
      rcases hrs with ⟨rfl, rfl, -⟩ | ⟨rfl, rfl⟩
      · simp only [↓reduceIte]
        exact ih (c + 1) _ _ _ _ _ _ _ _ _ _ _ _ _ _ (by omega) (by omega) (by omega) (Or.inr ⟨rfl, rfl⟩)
      · simp only [if_neg one0]
        exact ih (c + 1) _ _ _ _ _ _ _ _ _ _ _ _ _ _ (by omega) (by omega) (by omega) (Or.inr ⟨rfl, rfl⟩)
theorem b_orb : ∀ m, m < 64 → ∀ i, i < 6 → m ||| 2 ^ i < 64 ∧ ∀ j, j < 6 → (m ||| 2 ^ i).testBit j = (m.testBit j || decide (j = i)) := by decide +kernel
/-- a value is kept, or that it is unknown -/
theorem keep_ok {own kn : Nat} (ho : own < 6) (hk : kn < 64) (vl vu : Nat → Int32) {A B : Int32} : fX9_keep (nI own) (nI kn) vl A.toInt64 B.toInt64 0 vu = some (nI (kn ||| 2 ^ own), upd vl own B, upd vu own A) := by
  unfold fX9_keep
  rw [if_neg (nI_pos (by omega)), if_neg (nI_ge6 ho)]
  simp only [ltp, inB_ok (n := 6) ho (by omega), nI_clamp (n := own) (by omega), i64_32, ↓reduceIte, b_or kn (by omega) own (by omega)]
theorem keep_un {own kn : Nat} (ho : own < 6) (hk : kn < 64) (vl vu : Nat → Int32) (a b : Int64) : fX9_keep (nI own) (nI kn) vl a b 1 vu = some (nI (kn &&& (63 - 2 ^ own)), upd vl own b.toInt32, upd vu own a.toInt32) := by
  unfold fX9_keep
  rw [if_neg (nI_pos (by omega)), if_neg (nI_ge6 ho)]
  simp only [ltp, inB_ok (n := 6) ho (by omega), nI_clamp (n := own) (by omega), if_neg one0, b_del kn hk own (by omega)]
theorem VS_keep {own kn : Nat} (ho : own < 6) {vu vl un : Nat → Int32} {xu xl : Nat → Int64} (hV : VS kn vu vl un xu xl) {A B : Int32} (hg : goodE A B) : VS (kn ||| 2 ^ own) (upd vu own A) (upd vl own B) (upd un own 0) (vp_updL xu own A.toInt64) (vp_updL xl own B.toInt64) := by
  obtain ⟨q1, q2⟩ := b_orb kn hV.1 own ho
  refine ⟨q1, fun c hc => ?_⟩
  by_cases e : c = own
  · subst e
    left
    rw [pk_us, pk_us, pk_us, pk_uLs, pk_uLs, q2 c hc]
    exact ⟨rfl, by simp, rfl, rfl, hg⟩
  · rw [pk_un e, pk_un e, pk_un e, pk_uLn e, pk_uLn e, q2 c hc, decide_eq_false e, Bool.or_false]
    exact hV.2 c hc
theorem VS_un {own kn : Nat} (ho : own < 6) {vu vl un : Nat → Int32} {xu xl : Nat → Int64} (hV : VS kn vu vl un xu xl) (A B : Int32) (a b : Int64) : VS (kn &&& (63 - 2 ^ own)) (upd vu own A) (upd vl own B) (upd un own 1) (vp_updL xu own a) (vp_updL xl own b) := by
  obtain ⟨q1, q2⟩ := b_delb kn hV.1 own ho
  refine ⟨q1, fun c hc => ?_⟩
  by_cases e : c = own
  · subst e
    right
    rw [pk_us, q2 c hc]
    exact ⟨rfl, by simp⟩
  · rw [pk_un e, pk_un e, pk_un e, pk_uLn e, pk_uLn e, q2 c hc, decide_eq_false e, Bool.not_false, Bool.and_true]
    exact hV.2 c hc
theorem sub_end {R C r own kn : Nat} (hrR : r < R) (hr : r < 6) (hoC : own < C) (hown : own < 6) {U L cu cl vu vl un : Nat → Int32} {xu xl : Nat → Int64} (hG : eqG R C U L cu cl) (hz : ¬ U (7 * r + own) = 0) (hV : VS kn vu vl un xu xl) (v4 : Int32)
    (rec : Int32 → Int32 → (Nat → Int32) → Int64 → Int64 → Int32 → Int64 → Int64 → Int32 → (Nat → Int32) → Option (Int32 × (Nat → Int32) × Int64 × Int64 × Int32 × Int64 × Int64 × Int32 × (Nat → Int32)))
    (pu pl : Int64) (pi : Int32) {ru rl : Int64} {ri : Int32} {a b : Int64} {bad : Int32} (hrs : RS ru rl ri a b bad) (up lo : Int64) (il : Int32) :
    ∃ kn' vl' vu' ru' rl' ri' up' lo' il' un' xl' xu', VS kn' vu' vl' un' xu' xl' ∧ fX9_substitute_133 L U v4 (nI kn) vl vu rec (nI r) (nI own) pu pl pi ru rl ri = rec (v4 + (-1)) (nI kn') vl' pu pl pi ru' rl' ri' vu' ∧
      fX11_solvesOne_239 cl cu un xl xu (nI r) (nI own) a b bad up lo il = some (up', lo', il', un', xl', xu') := by
  have hrc := lt42 hr (show own < 7 by omega)
  obtain ⟨e1, e2, g1⟩ := hG r own hrR (by omega)
  unfold fX9_substitute_133 fX11_solvesOne_239
  rw [upperAt_ok hr (by omega), lowerAt_ok hr (by omega), cell_ok]
  simp only [obs, inB_ok (n := 42) hrc (by omega), nI_clamp (n := 7 * r + own) (by omega), e1, e2, fX11_solvesOne_276, fX11_solvesOne_299, inB_ok (n := 6) hown (by omega), nI_clamp (n := own) (by omega), ltp, nar0, nar1]
  rcases hrs with ⟨rfl, rfl, A, B, gA, rfl, rfl, rfl, rfl⟩ | ⟨rfl, rfl⟩
  · simp only [↓reduceIte]
    rcases over2 gA g1 hz with ⟨t1, x, y, t2⟩ | ⟨A', B', gA', t1, t2⟩
    · rw [t1, t2]
      simp only [obs, if_neg one0, keep_un hown hV.1]
      exact ⟨_, _, _, _, _, _, _, _, _, _, _, _, VS_un hown hV _ _ _ _, rfl, rfl⟩
    · rw [t1, t2]
      simp only [obs, ↓reduceIte, keep_ok hown hV.1]
      exact ⟨_, _, _, _, _, _, _, _, _, _, _, _, VS_keep hown hV gA', rfl, rfl⟩
  · simp only [if_neg one0, over_was, obs, keep_un hown hV.1]
    exact ⟨_, _, _, _, _, _, _, _, _, _, _, _, VS_un hown hV _ _ _ _, rfl, rfl⟩
theorem rowOf_ok {j k : Nat} (hj : j < k) (hk : k ≤ 6) (f : Nat → Int32) : fX7_rowOf (nI j) (nI k) f = some (f j) := by
  unfold fX7_rowOf
  rw [if_neg (nI_pos (by omega)), if_neg (nI_ge hj (by omega)), if_neg (nI_ge6 (by omega)), inB_ok (by omega) (by omega), nI_clamp (by omega)]
theorem colOf_ok {j k : Nat} (hj : j < k) (hk : k ≤ 6) (f : Nat → Int32) : fX7_columnOf (nI j) (nI k) f = some (f j) := by
  unfold fX7_columnOf
  rw [if_neg (nI_pos (by omega)), if_neg (nI_ge hj (by omega)), if_neg (nI_ge6 (by omega)), inB_ok (by omega) (by omega), nI_clamp (by omega)]
theorem sub_loop {R C K mr mc : Nat} (hR : R ≤ 6) (hC : C ≤ 6) (hK : K ≤ 6) {U L pRows pCols fills weights cu cl lr lc pR pC pF pW : Nat → Int32} (hS : SW R C K mr mc U L pRows pCols fills weights cu cl lr lc pR pC pF pW) {p2 one : Int32} (hp : (p2 = 1 ∧ one = -1) ∨ (p2 = 0 ∧ ¬ one = -1)) :
    ∀ (n fuel fuel' kn : Nat) (vl vu un : Nat → Int32) (xl xu : Nat → Int64) (pu pl : Int64) (pi : Int32) (ru rl : Int64) (ri : Int32) (up lo : Int64) (il : Int32), n ≤ K → n + 1 ≤ fuel → n + 1 ≤ fuel' → VS kn vu vl un xu xl →
    ∃ kn' vl' pu' pl' pi' ru' rl' ri' vu' up' lo' il' un' xl' xu', VS kn' vu' vl' un' xu' xl' ∧ fX9_substitute_13 p2 (nI K) (nI C) L U pCols pRows fuel (nI n - 1) (nI kn) vl pu pl pi ru rl ri vu = some (nI kn', vl', pu', pl', pi', ru', rl', ri', vu') ∧
      fX11_solves_51 one (nI C) cl cu pC pR fuel' (nI n - 1) up lo il un xl xu = some (up', lo', il', un', xl', xu') := by
  intro n
  induction n with
  | zero =>
    intro fuel fuel' kn vl vu un xl xu pu pl pi ru rl ri up lo il hn hf hf' hV
    obtain ⟨fuel, rfl⟩ : ∃ f, fuel = f + 1 := ⟨fuel - 1, by omega⟩
    obtain ⟨fuel', rfl⟩ : ∃ f, fuel' = f + 1 := ⟨fuel' - 1, by omega⟩
    rw [fX9_substitute_13_s, if_pos (show nI 0 - 1 < 0 by decide), fX11_solves_51_s, if_pos (show nI 0 - 1 < 0 by decide)]
    exact ⟨_, _, _, _, _, _, _, _, _, _, _, _, _, _, _, hV, rfl, rfl⟩
  | succ n ih =>
    intro fuel fuel' kn vl vu un xl xu pu pl pi ru rl ri up lo il hn hf hf' hV
    obtain ⟨fuel, rfl⟩ : ∃ f, fuel = f + 1 := ⟨fuel - 1, by omega⟩
    obtain ⟨fuel', rfl⟩ : ∃ f, fuel' = f + 1 := ⟨fuel' - 1, by omega⟩
    have hG := hS.1
    obtain ⟨-, -, -, -, -, rr, cc, w1, -⟩ := hS
    obtain ⟨z1, z2, z3, z4, z5, z6, -, -, z9, -⟩ := w1 n (by omega)
    have hr6 : rr n < 6 := by omega
    have hc6 : cc n < 6 := by omega
    have hrc := lt42 hr6 (show C < 7 by omega)
    obtain ⟨e1, e2, g1⟩ := hG (rr n) C z1 (Nat.le_refl _)
    have en : nI (n + 1) - 1 = nI n := pk_sub (a := n + 1) (b := 1) (by omega)
    have em : nI n + (-1) = nI n - 1 := (Int32.sub_eq_add_neg _ _).symm
    rw [en, fX9_substitute_13_s, if_neg (nI_pos (by omega)), fX11_solves_51_s, if_neg (nI_pos (by omega)), rowOf_ok (by omega) hK, colOf_ok (by omega) hK, start01, z3, z5]
    simp only [obs, load_ok hr6 (show C < 7 by omega), fX11_solvesOne, fX11_solvesOne_37, inB_ok (n := 6) (i := n) (by omega) (by omega), nI_clamp (n := n) (by omega), z4, z6, ltp, cell_ok, inB_ok (n := 42) hrc (by omega), nI_clamp (n := 7 * rr n + C) (by omega), e1, e2, ↓reduceIte, if_neg one0]
    have go : ∀ (ru rl a b : Int64), RS ru rl 0 a b 0 → ∃ kn' vl' pu' pl' pi' ru' rl' ri' vu' up' lo' il' un' xl' xu', VS kn' vu' vl' un' xu' xl' ∧ fX9_substitute_64 (nI C) L U (nI n) (nI kn) vl vu (fX9_substitute_13 p2 (nI K) (nI C) L U pCols pRows fuel) (nI (rr n)) (nI (cc n)) fuelN 0 pu pl pi ru rl 0 = some (nI kn', vl', pu', pl', pi', ru', rl', ri', vu') ∧
        ((fX11_solvesOne_69 (nI C) cl cu un xl xu (nI (rr n)) (nI (cc n)) fuelN a b 0 0 up lo il).bind fun u_2 => fX11_solves_51 one (nI C) cl cu pC pR fuel' (nI n + (-1)) u_2.1 u_2.2.1 u_2.2.2.1 u_2.2.2.2.1 u_2.2.2.2.2.1 u_2.2.2.2.2.2) = some (up', lo', il', un', xl', xu') := by
      intro ru rl a b hrs
      obtain ⟨pu', pl', pi', ru', rl', ri2, a', b', bad', up', lo', il', hrs', q1, q2⟩ := sub_in z1 hr6 hC hc6 hG hV (nI n) (fX9_substitute_13 p2 (nI K) (nI C) L U pCols pRows fuel) C 0 fuelN fuelN pu pl pi ru rl 0 a b 0 up lo il (by omega) (by unfold fuelN; omega) (by unfold fuelN; omega) hrs
      rw [show nI 0 = 0 from rfl] at q1 q2
      obtain ⟨kn2, vl2, vu2, ru2, rl2, ri3, up2, lo2, il2, un2, xl2, xu2, hV2, q3, q4⟩ := sub_end z1 hr6 z2 hc6 hG z9 hV (nI n) (fX9_substitute_13 p2 (nI K) (nI C) L U pCols pRows fuel) pu' pl' pi' hrs' up' lo' il'
      rw [q1, q2, q3, q4]
      simp only [obs]
      rw [em]
      exact ih _ _ _ _ _ _ _ _ _ _ _ _ _ _ _ _ _ (by omega) (by omega) (by omega) hV2
    rcases hp with ⟨rfl, rfl⟩ | ⟨rfl, hne⟩
    · simp only [if_neg one0, ↓reduceIte]
      exact go _ _ _ _ (Or.inl ⟨rfl, rfl, _, _, g1, rfl, rfl, rfl, rfl⟩)
    · simp only [↓reduceIte, if_neg hne]
      exact go _ _ _ _ (Or.inl ⟨rfl, rfl, 0, 1, good01, rfl, rfl, rfl, rfl⟩)
