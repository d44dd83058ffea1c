/-! Fractions: what class and reference come to is alike. -/
theorem good_bd {u v : Int32} (h : goodE u v) : u.toInt.natAbs ≤ 1000000000 ∧ v.toInt.natAbs ≤ 1000000000 ∧ 0 < v.toInt := by
  obtain ⟨h1, h2, h3, h4, -⟩ := h
  omega
theorem i64 (u : Int32) : u.toInt64.toInt = u.toInt := Int32.toInt_toInt64 u
theorem i64_32 (u : Int32) : u.toInt64.toInt32 = u := Int32.toInt32_toInt64 u
theorem fits_good {a b : Int} (h : ¬ b = 0) (hl : ¬ isLg a b) : ∃ U L : Int32, goodE U L ∧ Int64.ofInt (qU a b) = U.toInt64 ∧ Int64.ofInt (qL a b) = L.toInt64 := by
  obtain ⟨hg, e1, e2⟩ := q_good h hl
  refine ⟨_, _, hg, ?_, ?_⟩
  · exact (l_ext (by rw [i64, e1])).symm
  · exact (l_ext (by rw [i64, e2])).symm
theorem two {a b a' b' : Int64} (hb : 0 < b'.toInt) (h1 : a'.toInt.natAbs < 2 ^ 62) (h2 : b'.toInt.natAbs < 2 ^ 62) (h : (a.toInt = a'.toInt ∧ b.toInt = b'.toInt) ∨ (a.toInt = -a'.toInt ∧ b.toInt = -b'.toInt)) :
    (fX3_settle a b 0 = some (0, 1, 1) ∧ ∃ x y, fX11_comes a' b' = some (x, y, 1)) ∨ (∃ U L : Int32, goodE U L ∧ fX3_settle a b 0 = some (U.toInt64, L.toInt64, 0) ∧ fX11_comes a' b' = some (U.toInt64, L.toInt64, 0)) := by
  have hq : qU a.toInt b.toInt = qU a'.toInt b'.toInt ∧ qL a.toInt b.toInt = qL a'.toInt b'.toInt := by
    rcases h with ⟨e1, e2⟩ | ⟨e1, e2⟩
    · rw [e1, e2]; exact ⟨rfl, rfl⟩
    · rw [e1, e2]; exact q_neg (by omega)
  have hn : ¬ b.toInt = 0 := by rcases h with ⟨e1, e2⟩ | ⟨e1, e2⟩ <;> omega
  have ha : a.toInt.natAbs < 2 ^ 62 := by rcases h with ⟨e1, e2⟩ | ⟨e1, e2⟩ <;> omega
  have hbb : b.toInt.natAbs < 2 ^ 62 := by rcases h with ⟨e1, e2⟩ | ⟨e1, e2⟩ <;> omega
  have hl : isLg a.toInt b.toInt ↔ isLg a'.toInt b'.toInt := by unfold isLg; rw [hq.1, hq.2]
  rcases lt_lg a'.toInt b'.toInt with hL | hL
  · left
    exact ⟨settle_long hn ha hbb (hl.mpr hL), _, _, comes_long hb h1 h2 hL⟩
  · right
    obtain ⟨U, L, hg, e1, e2⟩ := fits_good (a := a'.toInt) (b := b'.toInt) (by omega) hL
    refine ⟨U, L, hg, ?_, ?_⟩
    · rw [settle_ok hn ha hbb (fun h => hL (hl.mp h)), hq.1, hq.2, e1, e2]
    · rw [comes_ok hb h1 h2 hL, e1, e2]
theorem settle_same {U L : Int32} (h : goodE U L) : fX3_settle U.toInt64 L.toInt64 0 = some (U.toInt64, L.toInt64, 0) := by
  have hb := good_bd h
  have hq := q_same (a := U.toInt) (b := L.toInt) h.1 h.2.2.2.2
  rw [settle_ok (by rw [i64]; omega) (by rw [i64]; omega) (by rw [i64]; omega) (by
    rw [i64, i64]; unfold isLg; rw [hq.1, hq.2]; obtain ⟨h1, h2, h3, h4, -⟩ := h; omega), i64, i64, hq.1, hq.2, ← i64 U, ← i64 L, Int64.ofInt_toInt, Int64.ofInt_toInt]
theorem comes_same {U L : Int32} (h : goodE U L) : fX11_comes U.toInt64 L.toInt64 = some (U.toInt64, L.toInt64, 0) := by
  have hb := good_bd h
  have hq := q_same (a := U.toInt) (b := L.toInt) h.1 h.2.2.2.2
  rw [comes_ok (by rw [i64]; omega) (by rw [i64]; omega) (by rw [i64]; omega) (by
    rw [i64, i64]; unfold isLg; rw [hq.1, hq.2]; obtain ⟨h1, h2, h3, h4, -⟩ := h; omega), i64, i64, hq.1, hq.2, ← i64 U, ← i64 L, Int64.ofInt_toInt, Int64.ofInt_toInt]
theorem good01 : goodE 0 1 := by unfold goodE; decide
theorem good11 : goodE 1 1 := by unfold goodE; decide
theorem e64_0 : (0 : Int32).toInt64 = 0 := rfl
theorem e64_1 : (1 : Int32).toInt64 = 1 := rfl
theorem i32_neg {U : Int32} (h : -1000000000 ≤ U.toInt) : (-U).toInt = -U.toInt := by
  have := U.toInt_lt
  rw [Int32.toInt_neg]; exact Int.bmod_eq_of_le (by omega) (by omega)
theorem good_neg {U L : Int32} (h : goodE U L) : goodE (-U) L ∧ -(U.toInt64) = (-U).toInt64 := by
  obtain ⟨h1, h2, h3, h4, h5⟩ := h
  have e := i32_neg h3
  refine ⟨⟨h1, h2, by omega, by omega, by rw [e, Int.natAbs_neg]; exact h5⟩, ?_⟩
  apply Int64.toInt_inj.mp
  rw [i64, e, l_neg (by rw [i64]; omega), i64]
/-- exact products of entries -/
theorem m64 {U V : Int32} (h1 : U.toInt.natAbs ≤ 1000000000) (h2 : V.toInt.natAbs ≤ 1000000000) : (U.toInt64 * V.toInt64).toInt = U.toInt * V.toInt ∧ (U.toInt * V.toInt).natAbs ≤ 1000000000000000000 := by
  have h := mul_bd h1 h2
  refine ⟨?_, by omega⟩
  rw [l_mul (by rw [i64, i64]; omega) (by rw [i64, i64]; omega), i64, i64]
def twoR (c : Option (Int64 × Int64 × Int32)) (r : Option (Int64 × Int64 × Int32)) : Prop :=
  (c = some (0, 1, 1) ∧ ∃ x y, r = some (x, y, 1)) ∨ (∃ U L : Int32, goodE U L ∧ c = some (U.toInt64, L.toInt64, 0) ∧ r = some (U.toInt64, L.toInt64, 0))
theorem prod_pos {a b : Int} (h1 : 0 < a) (h2 : 0 < b) : 0 < a * b := Int.mul_pos h1 h2
theorem bd3 (x : Option (Int64 × Int64 × Int32)) : (x.bind fun u => some (u.1, u.2.1, u.2.2)) = x := by cases x <;> rfl
theorem times2 {U L V M : Int32} (h1 : goodE U L) (h2 : goodE V M) : twoR (fX3_times V.toInt64 M.toInt64 U.toInt64 L.toInt64 0) (fX11_times U.toInt64 L.toInt64 V.toInt64 M.toInt64) := by
  have b1 := good_bd h1
  have b2 := good_bd h2
  have e1 := m64 b1.1 b2.1
  have e2 := m64 b1.2.1 b2.2.1
  have hp := prod_pos b1.2.2 b2.2.2
  unfold twoR fX3_times fX11_times
  rw [bd3, bd3]
  exact two (by rw [e2.1]; exact hp) (by rw [e1.1]; omega) (by rw [e2.1]; omega) (Or.inl ⟨rfl, rfl⟩)
theorem times_comm (a b c d : Int64) : fX11_times a b c d = fX11_times c d a b := by
  unfold fX11_times
  rw [Int64.mul_comm a c, Int64.mul_comm b d]
theorem plus_comm (a b c d : Int64) : fX11_plus a b c d = fX11_plus c d a b := by
  unfold fX11_plus
  rw [Int64.mul_comm b d, Int64.add_comm (a * d)]
theorem plus2 {U L V M : Int32} (h1 : goodE U L) (h2 : goodE V M) : twoR (fX3_plus V.toInt64 M.toInt64 U.toInt64 L.toInt64 0) (fX11_plus U.toInt64 L.toInt64 V.toInt64 M.toInt64) := by
  have b1 := good_bd h1
  have b2 := good_bd h2
  have e1 := m64 b1.1 b2.2.1
  have e3 := m64 b2.1 b1.2.1
  have e2 := m64 b1.2.1 b2.2.1
  have hp := prod_pos b1.2.2 b2.2.2
  have e4 : (U.toInt64 * M.toInt64 + V.toInt64 * L.toInt64).toInt = U.toInt * M.toInt + V.toInt * L.toInt := by
    rw [l_add (by rw [e1.1, e3.1]; omega) (by rw [e1.1, e3.1]; omega), e1.1, e3.1]
  unfold twoR fX3_plus fX11_plus
  rw [bd3, bd3]
  exact two (by rw [e2.1]; exact hp) (by rw [e4]; omega) (by rw [e2.1]; omega) (Or.inl ⟨rfl, rfl⟩)
theorem minus2 {U L V M : Int32} (h1 : goodE U L) (h2 : goodE V M) : twoR (fX3_minus V.toInt64 M.toInt64 U.toInt64 L.toInt64 0) (fX11_plus U.toInt64 L.toInt64 (-V.toInt64) M.toInt64) := by
  obtain ⟨h2n, en⟩ := good_neg h2
  have b1 := good_bd h1
  have b2 := good_bd h2
  have e1 := m64 b1.1 b2.2.1
  have e3 := m64 b2.1 b1.2.1
  have e2 := m64 b1.2.1 b2.2.1
  have hp := prod_pos b1.2.2 b2.2.2
  have e4 : (U.toInt64 * M.toInt64 - V.toInt64 * L.toInt64).toInt = U.toInt * M.toInt - V.toInt * L.toInt := by
    rw [l_sub (by rw [e1.1, e3.1]; omega) (by rw [e1.1, e3.1]; omega), e1.1, e3.1]
  have e5 : U.toInt64 * M.toInt64 + -V.toInt64 * L.toInt64 = U.toInt64 * M.toInt64 - V.toInt64 * L.toInt64 := by
    rw [Int64.neg_mul, Int64.sub_eq_add_neg]
  unfold twoR fX3_minus fX11_plus
  rw [bd3, bd3, e5]
  exact two (by rw [e2.1]; exact hp) (by rw [e4]; omega) (by rw [e2.1]; omega) (Or.inl ⟨rfl, rfl⟩)
theorem over2 {U L V M : Int32} (h1 : goodE U L) (h2 : goodE V M) (h0 : ¬ V = 0) : twoR (fX3_over V.toInt64 M.toInt64 U.toInt64 L.toInt64 0) (fX11_by U.toInt64 L.toInt64 V.toInt64 M.toInt64) := by
  have b1 := good_bd h1
  have b2 := good_bd h2
  have e1 := m64 b1.1 b2.2.1
  have e2 := m64 b1.2.1 b2.1
  have hv : ¬ V.toInt = 0 := fun h => h0 (Int32.toInt_inj.mp h)
  unfold twoR fX3_over fX11_by fX11_by_20
  rw [bd3]
  by_cases hc : 0 ≤ lg_cmp V.toInt64 0
  · rw [if_pos hc, if_pos hc, bd3]
    rw [lg_cmp_ge, Int64.le_iff_toInt_le, i64, l_0] at hc
    have hp := prod_pos b1.2.2 (show 0 < V.toInt by omega)
    exact two (by rw [e2.1]; exact hp) (by rw [e1.1]; omega) (by rw [e2.1]; omega) (Or.inl ⟨rfl, rfl⟩)
  · rw [if_neg hc, if_neg hc, bd3]
    rw [lg_cmp_ge, Int64.le_iff_toInt_le, i64, l_0] at hc
    have hp := prod_pos b1.2.2 (show 0 < -V.toInt by omega)
    have e3 : (-U.toInt64 * M.toInt64).toInt = -(U.toInt * M.toInt) := by rw [Int64.neg_mul, l_neg (by rw [e1.1]; omega), e1.1]
    have e4 : (-L.toInt64 * V.toInt64).toInt = -(L.toInt * V.toInt) := by rw [Int64.neg_mul, l_neg (by rw [e2.1]; omega), e2.1]
    rw [Int.mul_neg] at hp
    exact two (by rw [e4]; exact hp) (by rw [e3]; omega) (by rw [e4]; omega) (Or.inr ⟨by rw [e3, e1.1]; omega, by rw [e4, e2.1]; omega⟩)
theorem times_was (a b c d : Int64) : fX3_times a b c d 1 = some (0, 1, 1) := by unfold fX3_times; rw [settle_was (by decide)]; rfl
theorem plus_was (a b c d : Int64) : fX3_plus a b c d 1 = some (0, 1, 1) := by unfold fX3_plus; rw [settle_was (by decide)]; rfl
theorem minus_was (a b c d : Int64) : fX3_minus a b c d 1 = some (0, 1, 1) := by unfold fX3_minus; rw [settle_was (by decide)]; rfl
theorem over_was (a b c d : Int64) : fX3_over a b c d 1 = some (0, 1, 1) := by unfold fX3_over; rw [settle_was (by decide)]; rfl
/-- 0 more -/
theorem minus_0 {U L : Int32} (h : goodE U L) : fX3_minus 0 1 U.toInt64 L.toInt64 0 = some (U.toInt64, L.toInt64, 0) := by
  unfold fX3_minus
  rw [bd3, Int64.mul_one, Int64.mul_one, Int64.zero_mul, Int64.sub_zero]
  exact settle_same h
theorem plus_0 {U L : Int32} (h : goodE U L) : fX3_plus 0 1 U.toInt64 L.toInt64 0 = some (U.toInt64, L.toInt64, 0) := by
  unfold fX3_plus
  rw [bd3, Int64.mul_one, Int64.mul_one, Int64.zero_mul, Int64.add_zero]
  exact settle_same h
theorem start_same {U L : Int32} (h : goodE U L) : fX3_start U.toInt64 L.toInt64 = some (U.toInt64, L.toInt64, 0) := by
  unfold fX3_start
  rw [settle_same h]
  rfl
theorem start01 : fX3_start 0 1 = some (0, 1, 0) := start_same good01
theorem start11 : fX3_start 1 1 = some (1, 1, 0) := start_same good11
/-- 0 is 0 / 1 -/
theorem good_zero {L : Int32} (h : goodE 0 L) : L = 1 := by
  obtain ⟨h1, h2, -, -, h5⟩ := h
  rw [show (0 : Int32).toInt.natAbs = 0 from rfl, Nat.gcd_zero_left] at h5
  apply Int32.toInt_inj.mp
  rw [show (1 : Int32).toInt = 1 from rfl]
  omega
