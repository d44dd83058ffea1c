/-! Numbers: exact sums and products of longs; Euclid's steps; a fraction in lowest terms. -/
theorem l_add {x y : Int64} (h1 : -9223372036854775808 ≤ x.toInt + y.toInt) (h2 : x.toInt + y.toInt < 9223372036854775808) : (x + y).toInt = x.toInt + y.toInt := by
  rw [Int64.toInt_add]; exact Int.bmod_eq_of_le (by omega) (by omega)
theorem l_sub {x y : Int64} (h1 : -9223372036854775808 ≤ x.toInt - y.toInt) (h2 : x.toInt - y.toInt < 9223372036854775808) : (x - y).toInt = x.toInt - y.toInt := by
  rw [Int64.toInt_sub]; exact Int.bmod_eq_of_le (by omega) (by omega)
theorem l_mul {x y : Int64} (h1 : -9223372036854775808 ≤ x.toInt * y.toInt) (h2 : x.toInt * y.toInt < 9223372036854775808) : (x * y).toInt = x.toInt * y.toInt := by
  rw [Int64.toInt_mul]; exact Int.bmod_eq_of_le (by omega) (by omega)
theorem l_neg {x : Int64} (h1 : -9223372036854775808 < x.toInt) : (-x).toInt = -x.toInt := by
  have := x.toInt_lt
  rw [Int64.toInt_neg]; exact Int.bmod_eq_of_le (by omega) (by omega)
theorem l_0 : (0 : Int64).toInt = 0 := rfl
theorem l_1 : (1 : Int64).toInt = 1 := rfl
theorem l_div {x y : Int64} (h : ¬ y.toInt = -1) : (x / y).toInt = x.toInt.tdiv y.toInt := by
  refine Int64.toInt_div_of_ne_right x y (fun e => h ?_)
  rw [e]; rfl
/-- a long by its number -/
theorem l_ext {x : Int64} {z : Int} (h : x.toInt = z) : x = Int64.ofInt z := by rw [← h, Int64.ofInt_toInt]
theorem l_of {z : Int} (h1 : -9223372036854775808 ≤ z) (h2 : z < 9223372036854775808) : (Int64.ofInt z).toInt = z := Int64.toInt_ofInt_of_le (by omega) (by omega)
theorem l_ofN {n : Nat} (h : n < 9223372036854775808) : lN n = Int64.ofInt (n : Int) := l_ext (pk_lT (by omega))
theorem i_of {z : Int} (h1 : -2147483648 ≤ z) (h2 : z < 2147483648) : (Int32.ofInt z).toInt = z := Int32.toInt_ofInt_of_le (by omega) (by omega)
theorem i_ext {x : Int32} {z : Int} (h : x.toInt = z) : x = Int32.ofInt z := by rw [← h, Int32.ofInt_toInt]
theorem lt_def {β α : Type} (x : β) (K : β → Option α) : lt x K = K x := rfl
theorem nzL_ok {α : Type} {y : Int64} {K : Option α} (h : ¬ y = 0) : nzL y K = K := if_neg h
theorem nzI_ok {α : Type} {y : Int32} {K : Option α} (h : ¬ y = 0) : nzI y K = K := if_neg h
/-- bounds of a product -/
theorem mul_bd {a b : Int} {m n : Nat} (ha : a.natAbs ≤ m) (hb : b.natAbs ≤ n) : (a * b).natAbs ≤ m * n := by
  rw [Int.natAbs_mul]; exact Nat.mul_le_mul ha hb
/-- Euclid: two steps halve -/
theorem mod_half {y r : Nat} (h0 : 0 < r) (h1 : r < y) : 2 * (y % r) < y := by
  have h2 := Nat.mod_lt y h0
  have h3 := Nat.div_add_mod y r
  have h4 : 1 ≤ y / r := Nat.div_pos (Nat.le_of_lt h1) h0
  have h5 : r * 1 ≤ r * (y / r) := Nat.mul_le_mul_left r h4
  omega
theorem settle_loop (p1 p2 : Int64) (t : Int32) : ∀ (m x y k fuel : Nat), y < 2 ^ m → m ≤ 62 → x < 2 ^ 63 → k + 2 * m < 199 → 2 * m + 2 ≤ fuel → fX3_settle_49 p1 p2 t fuel (lN x) (lN y) (nI k) = fX3_settle_85 p1 p2 t (lN (Nat.gcd x y)) := by
  intro m
  induction m with
  | zero =>
    intro x y k fuel hy hm hx hk hf
    obtain rfl : y = 0 := by omega
    obtain ⟨fuel, rfl⟩ : ∃ f, fuel = f + 1 := ⟨fuel - 1, by omega⟩
    rw [fX3_settle_49_s]
    rw [if_neg (show ¬ (200 : Int32) ≤ nI k from fun h => nI_ge (a := k) (b := 200) (by omega) (by omega) h)]
    rw [if_pos (show lg_cmp (lN 0) 0 = 0 from (lg_cmp_eq _ _).mpr rfl), Nat.gcd_zero_right]
  | succ m ih =>
    intro x y k fuel hy hm hx hk hf
    by_cases h0 : y = 0
    · subst h0
      exact ih x 0 k fuel (Nat.two_pow_pos m) (by omega) hx (by omega) (by omega)
    · have hp : 2 ^ (m + 1) ≤ 2 ^ 62 := Nat.pow_le_pow_right (by omega) (by omega)
      have hy63 : y < 2 ^ 63 := by omega
      obtain ⟨fuel, rfl⟩ : ∃ f, fuel = f + 2 := ⟨fuel - 2, by omega⟩
      have step : ∀ (x y k f : Nat), x < 2 ^ 63 → y < 2 ^ 63 → ¬ y = 0 → k < 199 → fX3_settle_49 p1 p2 t (f + 1) (lN x) (lN y) (nI k) = fX3_settle_49 p1 p2 t f (lN y) (lN (x % y)) (nI (k + 1)) := by
        intro x y k f hx hy h0 hk
        have hne : ¬ lN y = 0 := fun e => h0 ((pk_lEQ hy (b := 0) (by omega)).mp e)
        rw [fX3_settle_49_s]
        rw [if_neg (show ¬ (200 : Int32) ≤ nI k from fun h => nI_ge (a := k) (b := 200) (by omega) (by omega) h)]
        rw [if_neg (fun h => hne ((lg_cmp_eq _ _).mp h))]
        unfold nzL
        rw [if_neg hne]
        unfold lt
        rw [pk_lRem hx (by omega) hy, ← nI_succ]
      rw [step x y k (fuel + 1) hx hy63 h0 (by omega)]
      have hr : x % y < y := Nat.mod_lt x (by omega)
      by_cases h1 : x % y = 0
      · rw [h1]
        have := ih y 0 (k + 1) (fuel + 1) (Nat.two_pow_pos m) (by omega) hy63 (by omega) (by omega)
        rw [this, Nat.gcd_zero_right]
        congr 2
        rw [Nat.gcd_comm, Nat.gcd_rec, h1, Nat.gcd_zero_left]
      · rw [step y (x % y) (k + 1) fuel hy63 (by omega) h1 (by omega)]
        have h2 := mod_half (y := y) (r := x % y) (by omega) hr
        have h3 : y % (x % y) < 2 ^ m := by
          have : 2 ^ (m + 1) = 2 * 2 ^ m := by rw [Nat.pow_succ]; omega
          omega
        rw [ih (x % y) (y % (x % y)) (k + 1 + 1) fuel h3 (by omega) (by omega) (by omega) (by omega)]
        congr 2
        rw [Nat.gcd_comm (x % y), ← Nat.gcd_rec, ← Nat.gcd_rec, Nat.gcd_comm]
theorem common_loop : ∀ (m x y fuel : Nat), y < 2 ^ m → m ≤ 62 → x < 2 ^ 63 → 2 * m + 2 ≤ fuel → fX11_common_17 fuel (lN x) (lN y) = some (lN (Nat.gcd x y)) := by
  intro m
  induction m with
  | zero =>
    intro x y fuel hy hm hx hf
    obtain rfl : y = 0 := by omega
    obtain ⟨fuel, rfl⟩ : ∃ f, fuel = f + 1 := ⟨fuel - 1, by omega⟩
    rw [fX11_common_17_s]
    rw [if_pos (show lg_cmp (lN 0) 0 = 0 from (lg_cmp_eq _ _).mpr rfl), Nat.gcd_zero_right]
  | succ m ih =>
    intro x y fuel hy hm hx hf
    by_cases h0 : y = 0
    · subst h0
      exact ih x 0 fuel (Nat.two_pow_pos m) (by omega) hx (by omega)
    · have hp : 2 ^ (m + 1) ≤ 2 ^ 62 := Nat.pow_le_pow_right (by omega) (by omega)
      have hy63 : y < 2 ^ 63 := by omega
      obtain ⟨fuel, rfl⟩ : ∃ f, fuel = f + 2 := ⟨fuel - 2, by omega⟩
      have step : ∀ (x y f : Nat), x < 2 ^ 63 → y < 2 ^ 63 → ¬ y = 0 → fX11_common_17 (f + 1) (lN x) (lN y) = fX11_common_17 f (lN y) (lN (x % y)) := by
        intro x y f hx hy h0
        have hne : ¬ lN y = 0 := fun e => h0 ((pk_lEQ hy (b := 0) (by omega)).mp e)
        rw [fX11_common_17_s]
        rw [if_neg (fun h => hne ((lg_cmp_eq _ _).mp h))]
        unfold nzL
        rw [if_neg hne]
        unfold lt
        rw [pk_lRem hx (by omega) hy]
      rw [step x y (fuel + 1) hx hy63 h0]
      have hr : x % y < y := Nat.mod_lt x (by omega)
      by_cases h1 : x % y = 0
      · rw [h1]
        have := ih y 0 (fuel + 1) (Nat.two_pow_pos m) (by omega) hy63 (by omega)
        rw [this, Nat.gcd_zero_right]
        congr 2
        rw [Nat.gcd_comm, Nat.gcd_rec, h1, Nat.gcd_zero_left]
      · rw [step y (x % y) fuel hy63 (by omega) h1]
        have h2 := mod_half (y := y) (r := x % y) (by omega) hr
        have h3 : y % (x % y) < 2 ^ m := by
          have : 2 ^ (m + 1) = 2 * 2 ^ m := by rw [Nat.pow_succ]; omega
          omega
        rw [ih (x % y) (y % (x % y)) fuel h3 (by omega) (by omega) (by omega)]
        congr 2
        rw [Nat.gcd_comm (x % y), ← Nat.gcd_rec, ← Nat.gcd_rec, Nat.gcd_comm]
/-- the greatest that both share -/
def gI (a b : Int) : Int := (Nat.gcd a.natAbs b.natAbs : Nat)
/-- upper and lower number of a / b in lowest terms, the lower above 0 -/
def qU (a b : Int) : Int := (if b < 0 then -a else a).tdiv (gI a b)
def qL (a b : Int) : Int := (if b < 0 then -b else b).tdiv (gI a b)
/-- a number of it is LONG -/
def isLg (a b : Int) : Prop := 1000000000 < qU a b ∨ qU a b < -1000000000 ∨ 1000000000 < qL a b
theorem lt_lg (a b : Int) : isLg a b ∨ ¬ isLg a b := Classical.em _
theorem l_abs {x : Int64} (h : x.toInt.natAbs < 2 ^ 62) : (if 0 ≤ lg_cmp x 0 then x else -x) = lN x.toInt.natAbs := by
  split
  · rename_i h0
    rw [lg_cmp_ge, Int64.le_iff_toInt_le, l_0] at h0
    apply Int64.toInt_inj.mp
    rw [pk_lT (by omega)]
    omega
  · rename_i h0
    rw [lg_cmp_ge, Int64.le_iff_toInt_le, l_0] at h0
    apply Int64.toInt_inj.mp
    rw [pk_lT (by omega), l_neg (by omega)]
    omega
theorem gI_pos {a b : Int} (h : ¬ b = 0) : 0 < gI a b := by
  unfold gI
  have : 0 < Nat.gcd a.natAbs b.natAbs := Nat.gcd_pos_of_pos_right _ (by omega)
  omega
theorem gI_le {a b : Int} (h : ¬ b = 0) : gI a b ≤ b.natAbs := by
  unfold gI
  have : Nat.gcd a.natAbs b.natAbs ≤ b.natAbs := Nat.gcd_le_right _ (by omega)
  omega
/-- what Euclid's steps come to: the divisor, with the lower number's sign -/
theorem settle_to96 {p1 p2 : Int64} (h0 : ¬ p2.toInt = 0) (h1 : p1.toInt.natAbs < 2 ^ 62) (h2 : p2.toInt.natAbs < 2 ^ 62) : ∃ x : Int64, x.toInt = (if p2.toInt < 0 then -gI p1.toInt p2.toInt else gI p1.toInt p2.toInt) ∧ fX3_settle p1 p2 0 = fX3_settle_96 p1 p2 0 x := by
  have hg := gI_pos (a := p1.toInt) h0
  have hgl := gI_le (a := p1.toInt) h0
  have e30 : ∀ st : Int64, st = lN p1.toInt.natAbs → fX3_settle_30 p1 p2 0 st = fX3_settle_85 p1 p2 0 (lN (Nat.gcd p1.toInt.natAbs p2.toInt.natAbs)) := by
    intro st hst
    unfold fX3_settle_30
    have hab := l_abs h2
    have hl := settle_loop p1 p2 0 62 p1.toInt.natAbs p2.toInt.natAbs 0 fuelN h2 (by omega) (by omega) (by omega) (by unfold fuelN; omega)
    split
    · rename_i hc
      rw [if_pos hc] at hab
      rw [← hab] at hl
      rw [hst]
      exact hl
    · rename_i hc
      rw [if_neg hc] at hab
      rw [← hab] at hl
      unfold lt
      rw [hst]
      exact hl
  have e : fX3_settle p1 p2 0 = fX3_settle_85 p1 p2 0 (lN (Nat.gcd p1.toInt.natAbs p2.toInt.natAbs)) := by
    unfold fX3_settle
    have hab := l_abs h1
    rw [if_pos rfl, if_neg (fun h => h0 (by rw [(lg_cmp_eq _ _).mp h]; rfl))]
    split
    · rename_i hc
      rw [if_pos hc] at hab
      exact e30 _ hab
    · rename_i hc
      rw [if_neg hc] at hab
      exact e30 _ hab
  have hgn : (lN (Nat.gcd p1.toInt.natAbs p2.toInt.natAbs)).toInt = gI p1.toInt p2.toInt := by
    rw [pk_lT]
    · rfl
    · unfold gI at hgl; omega
  rw [e]
  by_cases hn : p2.toInt < 0
  · refine ⟨-lN (Nat.gcd p1.toInt.natAbs p2.toInt.natAbs), ?_, ?_⟩
    · rw [if_pos hn, l_neg (by omega), hgn]
    · unfold fX3_settle_85
      rw [if_neg (fun h => by rw [lg_cmp_ge, Int64.le_iff_toInt_le, l_0] at h; omega)]
      rfl
  · refine ⟨_, by rw [if_neg hn]; exact hgn, ?_⟩
    unfold fX3_settle_85
    rw [if_pos ((lg_cmp_ge _ _).mpr (by rw [Int64.le_iff_toInt_le, l_0]; omega))]
theorem l_c1 : (1000000000 : Int64).toInt = 1000000000 := rfl
theorem l_c2 : (-1000000000 : Int64).toInt = -1000000000 := rfl
/-- the quotients by it -/
theorem q_div {a b : Int} {p x : Int64} (hp : p.toInt = a) (h0 : ¬ b = 0) (ha : a.natAbs < 2 ^ 62) (hb : b.natAbs < 2 ^ 62) (hx : x.toInt = (if b < 0 then -gI a b else gI a b)) : ¬ x = 0 ∧ (p / x).toInt = qU a b := by
  have hg := gI_pos (a := a) h0
  have hne : ¬ x.toInt = 0 := by rw [hx]; split <;> omega
  refine ⟨fun e => hne (by rw [e]; rfl), ?_⟩
  have hpm : p ≠ Int64.minValue := fun e => by
    have : p.toInt = -9223372036854775808 := by rw [e]; rfl
    omega
  rw [Int64.toInt_div_of_ne_left _ _ hpm, hp, hx]
  unfold qU
  split
  · rw [Int.tdiv_neg, Int.neg_tdiv]
  · rfl
theorem q_divL {a b : Int} {p x : Int64} (hp : p.toInt = b) (h0 : ¬ b = 0) (hb : b.natAbs < 2 ^ 62) (hx : x.toInt = (if b < 0 then -gI a b else gI a b)) : (p / x).toInt = qL a b := by
  have hpm : p ≠ Int64.minValue := fun e => by
    have : p.toInt = -9223372036854775808 := by rw [e]; rfl
    omega
  rw [Int64.toInt_div_of_ne_left _ _ hpm, hp, hx]
  unfold qL
  split
  · rw [Int.tdiv_neg, Int.neg_tdiv]
  · rfl
/-- a fraction is settled: LONG, or in lowest terms -/
theorem settle_long {p1 p2 : Int64} (h0 : ¬ p2.toInt = 0) (h1 : p1.toInt.natAbs < 2 ^ 62) (h2 : p2.toInt.natAbs < 2 ^ 62) (hl : isLg p1.toInt p2.toInt) : fX3_settle p1 p2 0 = some (0, 1, 1) := by
  obtain ⟨x, hx, e⟩ := settle_to96 h0 h1 h2
  obtain ⟨hne, hU⟩ := q_div (p := p1) rfl h0 h1 h2 hx
  have hL := q_divL (a := p1.toInt) (p := p2) rfl h0 h2 hx
  rw [e]
  unfold fX3_settle_96
  rw [if_neg (fun h => hne ((lg_cmp_eq _ _).mp h))]
  simp only [nzL_ok hne, lt_def]
  rcases hl with h | h | h
  · rw [if_pos ((lg_cmp_gt _ _).mpr (by rw [Int64.lt_iff_toInt_lt, hU, l_c1]; exact h))]; rfl
  · by_cases h3 : 0 < lg_cmp (p1 / x) 1000000000
    · rw [if_pos h3]; rfl
    · rw [if_neg h3, if_pos ((lg_cmp_lt _ _).mpr (by rw [Int64.lt_iff_toInt_lt, hU, l_c2]; exact h))]; rfl
  · by_cases h3 : 0 < lg_cmp (p1 / x) 1000000000
    · rw [if_pos h3]; rfl
    · rw [if_neg h3]
      by_cases h4 : lg_cmp (p1 / x) (-1000000000) < 0
      · rw [if_pos h4]; rfl
      · rw [if_neg h4, if_neg (fun h5 => by rw [lg_cmp_le, Int64.le_iff_toInt_le, hL, l_c1] at h5; omega)]; rfl
theorem settle_ok {p1 p2 : Int64} (h0 : ¬ p2.toInt = 0) (h1 : p1.toInt.natAbs < 2 ^ 62) (h2 : p2.toInt.natAbs < 2 ^ 62) (hl : ¬ isLg p1.toInt p2.toInt) : fX3_settle p1 p2 0 = some (Int64.ofInt (qU p1.toInt p2.toInt), Int64.ofInt (qL p1.toInt p2.toInt), 0) := by
  obtain ⟨x, hx, e⟩ := settle_to96 h0 h1 h2
  obtain ⟨hne, hU⟩ := q_div (p := p1) rfl h0 h1 h2 hx
  have hL := q_divL (a := p1.toInt) (p := p2) rfl h0 h2 hx
  have hn : ¬ 1000000000 < qU p1.toInt p2.toInt ∧ ¬ qU p1.toInt p2.toInt < -1000000000 ∧ ¬ 1000000000 < qL p1.toInt p2.toInt := ⟨fun h => hl (Or.inl h), fun h => hl (Or.inr (Or.inl h)), fun h => hl (Or.inr (Or.inr h))⟩
  rw [e]
  unfold fX3_settle_96
  rw [if_neg (fun h => hne ((lg_cmp_eq _ _).mp h))]
  simp only [nzL_ok hne, lt_def]
  rw [if_neg (fun h => by rw [lg_cmp_gt, Int64.lt_iff_toInt_lt, hU, l_c1] at h; exact hn.1 h), if_neg (fun h => by rw [lg_cmp_lt, Int64.lt_iff_toInt_lt, hU, l_c2] at h; exact hn.2.1 h), if_pos ((lg_cmp_le _ _).mpr (by rw [Int64.le_iff_toInt_le, hL, l_c1]; omega))]
  rw [l_ext hU, l_ext hL]
theorem settle_was {p1 p2 : Int64} {t : Int32} (h : ¬ t = 0) : fX3_settle p1 p2 t = some (0, 1, 1) := by
  unfold fX3_settle
  rw [if_neg h]
  rfl
/-- the reference's -/
theorem common_ok {p1 p2 : Int64} (h0 : 0 < p2.toInt) (h1 : p1.toInt.natAbs < 2 ^ 62) (h2 : p2.toInt.natAbs < 2 ^ 62) : ∃ x : Int64, x.toInt = gI p1.toInt p2.toInt ∧ fX11_common p1 p2 = some x := by
  have hgl := gI_le (a := p1.toInt) (b := p2.toInt) (by omega)
  have hab := l_abs h1
  have e2 : p2 = lN p2.toInt.natAbs := by
    apply Int64.toInt_inj.mp
    rw [pk_lT (by omega)]
    omega
  have hl := common_loop 62 p1.toInt.natAbs p2.toInt.natAbs fuelN h2 (by omega) (by omega) (by unfold fuelN; omega)
  refine ⟨lN (Nat.gcd p1.toInt.natAbs p2.toInt.natAbs), ?_, ?_⟩
  · rw [pk_lT]
    · rfl
    · unfold gI at hgl; omega
  · rw [← e2] at hl
    unfold fX11_common
    split
    · rename_i hc
      rw [if_pos hc] at hab
      rw [← hab] at hl
      exact hl
    · rename_i hc
      rw [if_neg hc] at hab
      rw [← hab] at hl
      exact hl
theorem comes_at {p1 p2 : Int64} (h0 : 0 < p2.toInt) (h1 : p1.toInt.natAbs < 2 ^ 62) (h2 : p2.toInt.natAbs < 2 ^ 62) : ∃ x : Int64, ¬ x = 0 ∧ (p1 / x).toInt = qU p1.toInt p2.toInt ∧ (p2 / x).toInt = qL p1.toInt p2.toInt ∧ fX11_comes p1 p2 = (if 0 < lg_cmp (p1 / x) 1000000000 then some (p1 / x, p2 / x, 1) else if lg_cmp (p1 / x) (-1000000000) < 0 then some (p1 / x, p2 / x, 1) else if lg_cmp (p2 / x) 1000000000 ≤ 0 then some (p1 / x, p2 / x, 0) else some (p1 / x, p2 / x, 1)) := by
  obtain ⟨x, hx, e⟩ := common_ok h0 h1 h2
  have hx2 : x.toInt = (if p2.toInt < 0 then -gI p1.toInt p2.toInt else gI p1.toInt p2.toInt) := by rw [if_neg (by omega)]; exact hx
  obtain ⟨hne, hU⟩ := q_div (p := p1) rfl (by omega) h1 h2 hx2
  have hL := q_divL (a := p1.toInt) (p := p2) rfl (by omega) h2 hx2
  refine ⟨x, hne, hU, hL, ?_⟩
  unfold fX11_comes
  rw [e]
  show nzL x _ = _
  simp only [nzL_ok hne, lt_def]
theorem comes_ok {p1 p2 : Int64} (h0 : 0 < p2.toInt) (h1 : p1.toInt.natAbs < 2 ^ 62) (h2 : p2.toInt.natAbs < 2 ^ 62) (hl : ¬ isLg p1.toInt p2.toInt) : fX11_comes p1 p2 = some (Int64.ofInt (qU p1.toInt p2.toInt), Int64.ofInt (qL p1.toInt p2.toInt), 0) := by
  obtain ⟨x, hne, hU, hL, e⟩ := comes_at h0 h1 h2
  have hn : ¬ 1000000000 < qU p1.toInt p2.toInt ∧ ¬ qU p1.toInt p2.toInt < -1000000000 ∧ ¬ 1000000000 < qL p1.toInt p2.toInt := ⟨fun h => hl (Or.inl h), fun h => hl (Or.inr (Or.inl h)), fun h => hl (Or.inr (Or.inr h))⟩
  rw [e, if_neg (fun h => by rw [lg_cmp_gt, Int64.lt_iff_toInt_lt, hU, l_c1] at h; exact hn.1 h), if_neg (fun h => by rw [lg_cmp_lt, Int64.lt_iff_toInt_lt, hU, l_c2] at h; exact hn.2.1 h), if_pos ((lg_cmp_le _ _).mpr (by rw [Int64.le_iff_toInt_le, hL, l_c1]; omega))]
  rw [l_ext hU, l_ext hL]
theorem comes_long {p1 p2 : Int64} (h0 : 0 < p2.toInt) (h1 : p1.toInt.natAbs < 2 ^ 62) (h2 : p2.toInt.natAbs < 2 ^ 62) (hl : isLg p1.toInt p2.toInt) : fX11_comes p1 p2 = some (Int64.ofInt (qU p1.toInt p2.toInt), Int64.ofInt (qL p1.toInt p2.toInt), 1) := by
  obtain ⟨x, hne, hU, hL, e⟩ := comes_at h0 h1 h2
  rw [e, ← l_ext hU, ← l_ext hL]
  rcases hl with h | h | h
  · rw [if_pos ((lg_cmp_gt _ _).mpr (by rw [Int64.lt_iff_toInt_lt, hU, l_c1]; exact h))]
  · by_cases h3 : 0 < lg_cmp (p1 / x) 1000000000
    · rw [if_pos h3]
    · rw [if_neg h3, if_pos ((lg_cmp_lt _ _).mpr (by rw [Int64.lt_iff_toInt_lt, hU, l_c2]; exact h))]
  · by_cases h3 : 0 < lg_cmp (p1 / x) 1000000000
    · rw [if_pos h3]
    · rw [if_neg h3]
      by_cases h4 : lg_cmp (p1 / x) (-1000000000) < 0
      · rw [if_pos h4]
      · rw [if_neg h4, if_neg (fun h5 => by rw [lg_cmp_le, Int64.le_iff_toInt_le, hL, l_c1] at h5; omega)]
/-! What lowest terms are. -/
theorem qU_abs (a b : Int) : (qU a b).natAbs = a.natAbs / Nat.gcd a.natAbs b.natAbs := by
  unfold qU gI
  rw [Int.natAbs_tdiv]
  split
  · rw [Int.natAbs_neg]; rfl
  · rfl
theorem qL_abs (a b : Int) : (qL a b).natAbs = b.natAbs / Nat.gcd a.natAbs b.natAbs := by
  unfold qL gI
  rw [Int.natAbs_tdiv]
  split
  · rw [Int.natAbs_neg]; rfl
  · rfl
theorem q_cop {a b : Int} (h : ¬ b = 0) : Nat.gcd (qU a b).natAbs (qL a b).natAbs = 1 := by
  rw [qU_abs, qL_abs]
  exact Nat.gcd_div_gcd_div_gcd_of_pos_right (by omega)
theorem qL_pos {a b : Int} (h : ¬ b = 0) : 0 < qL a b := by
  have h1 := qL_abs a b
  have h2 : 0 < b.natAbs / Nat.gcd a.natAbs b.natAbs := Nat.div_pos (Nat.gcd_le_right _ (by omega)) (Nat.gcd_pos_of_pos_right _ (by omega))
  have h3 : 0 ≤ qL a b := by
    unfold qL
    refine Int.tdiv_nonneg ?_ (by unfold gI; omega)
    split <;> omega
  omega
/-- in lowest terms already -/
theorem q_same {a b : Int} (hb : 0 < b) (hc : Nat.gcd a.natAbs b.natAbs = 1) : qU a b = a ∧ qL a b = b := by
  unfold qU qL gI
  rw [hc, if_neg (by omega), if_neg (by omega)]
  exact ⟨Int.tdiv_one a, Int.tdiv_one b⟩
/-- signs don't matter -/
theorem q_neg {a b : Int} (h : ¬ b = 0) : qU (-a) (-b) = qU a b ∧ qL (-a) (-b) = qL a b := by
  unfold qU qL gI
  rw [Int.natAbs_neg, Int.natAbs_neg]
  by_cases hb : b < 0
  · rw [if_pos hb, if_neg (show ¬ -b < 0 by omega), if_pos hb, if_neg (show ¬ -b < 0 by omega)]
    exact ⟨rfl, rfl⟩
  · rw [if_neg hb, if_pos (show -b < 0 by omega), if_neg hb, if_pos (show -b < 0 by omega), Int.neg_neg, Int.neg_neg]
    exact ⟨rfl, rfl⟩
/-- what isn't LONG makes an entry -/
theorem q_good {a b : Int} (h : ¬ b = 0) (hl : ¬ isLg a b) : goodE (Int64.ofInt (qU a b)).toInt32 (Int64.ofInt (qL a b)).toInt32 ∧ (Int64.ofInt (qU a b)).toInt32.toInt = qU a b ∧ (Int64.ofInt (qL a b)).toInt32.toInt = qL a b := by
  have hn : ¬ 1000000000 < qU a b ∧ ¬ qU a b < -1000000000 ∧ ¬ 1000000000 < qL a b := ⟨fun h => hl (Or.inl h), fun h => hl (Or.inr (Or.inl h)), fun h => hl (Or.inr (Or.inr h))⟩
  have hp := qL_pos (a := a) h
  have e1 : (Int64.ofInt (qU a b)).toInt32.toInt = qU a b := by
    rw [Int64.toInt_toInt32, l_of (by omega) (by omega)]
    exact Int.bmod_eq_of_le (by omega) (by omega)
  have e2 : (Int64.ofInt (qL a b)).toInt32.toInt = qL a b := by
    rw [Int64.toInt_toInt32, l_of (by omega) (by omega)]
    exact Int.bmod_eq_of_le (by omega) (by omega)
  refine ⟨?_, e1, e2⟩
  unfold goodE
  rw [e1, e2]
  exact ⟨hp, by omega, by omega, by omega, q_cop h⟩
