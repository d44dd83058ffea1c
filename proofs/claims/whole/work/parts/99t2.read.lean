/-! What is read: numbers, signs, stops, fractions, by both. -/
theorem tv0 {α : Type} {K : Option α} : tvI 0 K = K := if_pos (Or.inl rfl)
theorem tv1 {α : Type} {K : Option α} : tvI 1 K = K := if_pos (Or.inr rfl)
theorem good0 : fX11_isGood 0 = some 1 := rfl
theorem goodN {f : Int32} (h : ¬ f = 0) : fX11_isGood f = some 0 := if_neg h
theorem fails0 (k p f : Int32) : fX11_fails k p 0 f = some (k, p) := rfl
/-- a fault that has been met -/
def badF (f : Int32) : Prop := f = 1 ∨ f = 2 ∨ f = 3
theorem bad_ne {f : Int32} (h : badF f) : ¬ f = 0 := by
  rcases h with rfl | rfl | rfl <;> decide
theorem failsB {f : Int32} (h : badF f) (k p g : Int32) : fX11_fails k p f g = some (f, g) := by
  unfold fX11_fails
  rw [if_neg (by rcases h with rfl | rfl | rfl <;> decide)]
theorem hasSign_bad {f : Int32} (h : badF f) (c s nx to pl : Int32) (va : Int64) (tape : Nat → Int32) : fX11_hasSign c f s nx to pl va tape = some (0, nx, to, pl, va) := by
  unfold fX11_hasSign fX11_hasSign_30
  rw [goodN (bad_ne h), obs, if_pos rfl, if_pos rfl, tv0]
theorem numeral_bad {f : Int32} (h : badF f) (a b g s nx to pl : Int32) (va : Int64) (tape : Nat → Int32) : fX11_numeral a b f g s nx to pl va tape = some (a, f, g, nx, to, pl, va) := by
  unfold fX11_numeral fX11_numeral_24 fX11_numeral_60
  simp only [goodN (bad_ne h), obs, ↓reduceIte]
theorem mustEnd_bad {f : Int32} (h : badF f) (g s nx to pl : Int32) (va : Int64) (tape : Nat → Int32) : fX11_mustEnd f g s nx to pl va tape = some (f, g, nx, to, pl, va) := by
  unfold fX11_mustEnd
  simp only [goodN (bad_ne h), obs, ↓reduceIte]
theorem frac_bad {f : Int32} (h : badF f) (g s nx to pl : Int32) (va : Int64) (tape : Nat → Int32) : fX11_readsFraction f g s nx to pl va tape = some (f, g, nx, to, pl, va, 0, 1) := by
  unfold fX11_readsFraction fX11_readsFraction_27
  simp only [hasSign_bad h, numeral_bad h, obs, ltp, ↓reduceIte]
theorem hasWord_bad {f : Int32} (h : badF f) (c : Int64) (s nx to pl : Int32) (va : Int64) (tape : Nat → Int32) : fX11_hasWord c f s nx to pl va tape = some (0, nx, to, pl, va) := by
  unfold fX11_hasWord fX11_hasWord_29
  rw [goodN (bad_ne h), obs, if_pos rfl, if_pos rfl, tv0]
section READ
variable {len : Nat} {B tape : Nat → Int32}
theorem num_ok (h : TP len B tape) {p n : Nat} {ty va : Int32} {va' : Int64} (hT : TokR len B p n ty va va') {a b : Nat} (hb : b ≤ 999) (ha : a ≤ 999) (number : Int32) :
    (∃ f num', badF f ∧ fX4_takeNumber (nI a) (nI b) 0 (-1) number ty (nI p) va (nI n) (nI len) B = some (0, f, nI p, num', ty, nI p, va, nI n) ∧ fX11_numeral (nI a) (nI b) 0 (-1) (nI len) (nI n) ty (nI p) va' tape = some (nI a, f, nI p, nI n, ty, nI p, va')) ∨
    (∃ v p2 n2 ty2 va2 va2', a ≤ v ∧ v ≤ b ∧ p < p2 ∧ TokR len B p2 n2 ty2 va2 va2' ∧ fX4_takeNumber (nI a) (nI b) 0 (-1) number ty (nI p) va (nI n) (nI len) B = some (1, 0, -1, nI v, ty2, nI p2, va2, nI n2) ∧ fX11_numeral (nI a) (nI b) 0 (-1) (nI len) (nI n) ty (nI p) va' tape = some (nI v, 0, -1, nI n2, ty2, nI p2, va2')) := by
  obtain ⟨hpn, hnl, hc⟩ := hT
  unfold fX4_takeNumber fX11_numeral
  rw [good0, obs, if_neg one0]
  by_cases h2 : ty = 2
  · rcases hc with e | ⟨e, -⟩ | ⟨-, hlt, v, hv, rfl, rfl⟩ | ⟨e, -⟩ | ⟨e, -⟩
    · exact absurd (e.symm.trans h2) (by decide)
    · exact absurd (e.symm.trans h2) (by decide)
    · subst h2
      rw [if_pos rfl, if_pos rfl]
      unfold fX11_numeral_24 fX11_numeral_51
      rw [good0, obs, if_neg one0]
      have L1 : lg_cmp (nI v).toInt64 (nI a).toInt64 < 0 ↔ v < a := by
        rw [lg_cmp_lt, Int64.lt_iff_toInt_lt, i64, i64, nI_toInt (by omega), nI_toInt (by omega)]
        omega
      have L2 : lg_cmp (nI v).toInt64 (nI b).toInt64 ≤ 0 ↔ v ≤ b := by
        rw [lg_cmp_le, Int64.le_iff_toInt_le, i64, i64, nI_toInt (by omega), nI_toInt (by omega)]
        omega
      by_cases c1 : v < a
      · left
        rw [if_pos (nI_lt c1 (by omega)), if_pos (L1.mpr c1)]
        unfold fX4_takeNumber_51 fX4_fail fX11_numeral_60
        simp only [fails0, obs, tv0, goodN (f := 2) (by decide), ↓reduceIte]
        exact ⟨2, _, Or.inr (Or.inl rfl), rfl, rfl⟩
      · rw [if_neg (show ¬ nI v < nI a from nI_nlt (by omega) (by omega)), if_neg (show ¬ lg_cmp (nI v).toInt64 (nI a).toInt64 < 0 from fun q => c1 (L1.mp q))]
        by_cases c2 : v ≤ b
        · right
          obtain ⟨p2, n2, ty2, va2, va2', q1, q2, q3, q4⟩ := adv_ok h hnl
          rw [if_pos (nI_le c2 (by omega)), if_pos (L2.mpr c2)]
          unfold fX11_numeral_60
          rw [q3]
          simp only [obs, good0, if_neg one0, ltp]
          rw [q4]
          simp only [obs, i64_32]
          exact ⟨v, p2, n2, ty2, va2, va2', by omega, c2, by omega, q2, rfl, rfl⟩
        · left
          rw [if_neg (show ¬ nI v ≤ nI b from nI_ge (by omega) (by omega)), if_neg (show ¬ lg_cmp (nI v).toInt64 (nI b).toInt64 ≤ 0 from fun q => c2 (L2.mp q))]
          unfold fX4_takeNumber_51 fX4_fail fX11_numeral_60
          simp only [fails0, obs, tv0, goodN (f := 2) (by decide), ↓reduceIte]
          exact ⟨2, _, Or.inr (Or.inl rfl), rfl, rfl⟩
    · exact absurd (e.symm.trans h2) (by decide)
    · exact absurd (e.symm.trans h2) (by decide)
  · left
    rw [if_neg h2, if_neg h2]
    unfold fX11_numeral_24 fX11_numeral_60 fX4_fail
    simp only [fails0, obs, tv0, goodN (f := 1) (by decide), ↓reduceIte]
    exact ⟨1, _, Or.inl rfl, rfl, rfl⟩
theorem sign_ok (h : TP len B tape) {p n : Nat} {ty va : Int32} {va' : Int64} (hT : TokR len B p n ty va va') (c : Int32) :
    (fX5_isSign c ty va = some 0 ∧ fX11_hasSign c 0 (nI len) (nI n) ty (nI p) va' tape = some (0, nI n, ty, nI p, va')) ∨
    (fX5_isSign c ty va = some 1 ∧ ∃ p2 n2 ty2 va2 va2', p < p2 ∧ TokR len B p2 n2 ty2 va2 va2' ∧ fX5_advance (nI n) (nI len) B = some (ty2, nI p2, va2, nI n2) ∧ fX11_hasSign c 0 (nI len) (nI n) ty (nI p) va' tape = some (1, nI n2, ty2, nI p2, va2')) := by
  obtain ⟨hpn, hnl, hc⟩ := hT
  unfold fX5_isSign fX11_hasSign
  rw [good0, obs, if_neg one0]
  by_cases h3 : ty = 3
  · rcases hc with e | ⟨e, -⟩ | ⟨e, -⟩ | ⟨-, hlt, -, rfl⟩ | ⟨e, -⟩
    · exact absurd (e.symm.trans h3) (by decide)
    · exact absurd (e.symm.trans h3) (by decide)
    · exact absurd (e.symm.trans h3) (by decide)
    · subst h3
      rw [if_pos rfl, if_pos rfl]
      by_cases e : va = c
      · right
        obtain ⟨p2, n2, ty2, va2, va2', q1, q2, q3, q4⟩ := adv_ok h hnl
        rw [if_pos e, if_pos (l64_eq.mpr e)]
        unfold fX11_hasSign_30
        rw [if_neg one0, q4]
        simp only [obs, tv1]
        exact ⟨by first | rfl | trivial, p2, n2, ty2, va2, va2', by omega, q2, q3, by first | rfl | trivial⟩
      · left
        rw [if_neg e, if_neg (fun q => e (l64_eq.mp q))]
        unfold fX11_hasSign_30
        rw [if_pos rfl, tv0]
        exact ⟨rfl, rfl⟩
    · exact absurd (e.symm.trans h3) (by decide)
  · left
    rw [if_neg h3, if_neg h3]
    unfold fX11_hasSign_30
    rw [if_pos rfl, tv0]
    exact ⟨rfl, rfl⟩
theorem stop_ok (h : TP len B tape) {p n : Nat} {ty va : Int32} {va' : Int64} (hT : TokR len B p n ty va va') :
    (fX4_readStop 0 (-1) ty (nI p) va (nI n) (nI len) B = some (0, 1, nI p, ty, nI p, va, nI n) ∧ fX11_mustEnd 0 (-1) (nI len) (nI n) ty (nI p) va' tape = some (1, nI p, nI n, ty, nI p, va')) ∨
    (∃ p2 n2 ty2 va2 va2', p < p2 ∧ TokR len B p2 n2 ty2 va2 va2' ∧ fX4_readStop 0 (-1) ty (nI p) va (nI n) (nI len) B = some (1, 0, -1, ty2, nI p2, va2, nI n2) ∧ fX11_mustEnd 0 (-1) (nI len) (nI n) ty (nI p) va' tape = some (0, -1, nI n2, ty2, nI p2, va2')) := by
  unfold fX4_readStop fX11_mustEnd
  rw [good0, obs, if_neg one0]
  rcases sign_ok h hT 59 with ⟨q1, q2⟩ | ⟨q1, p2, n2, ty2, va2, va2', q2, q3, q4, q5⟩
  · left
    rw [q1, q2]
    simp only [obs, ↓reduceIte, fails0, fX4_fail, tv0] <;> exact ⟨by first | rfl | trivial, by first | rfl | trivial⟩
  · right
    rw [q1, q5]
    simp only [obs, if_neg one0]
    rw [q4]
    simp only [obs]
    exact ⟨p2, n2, ty2, va2, va2', q2, q3, rfl, rfl⟩
/-- a told fraction -/
def toldB (u l : Int32) : Prop := (-999 ≤ u.toInt ∧ u.toInt ≤ 999) ∧ (1 ≤ l.toInt ∧ l.toInt ≤ 99)
theorem told_neg {v : Nat} (hv : v ≤ 999) : (-999 ≤ (-nI v).toInt ∧ (-nI v).toInt ≤ 999) ∧ (-999 ≤ (nI v).toInt ∧ (nI v).toInt ≤ 999) := by
  have e := nI_toInt (n := v) (by omega)
  have e2 : (-nI v).toInt = -(nI v).toInt := i32_neg (by omega)
  rw [e2, e]
  omega
theorem frac65_ok (h : TP len B tape) {k : Nat} (hk : k < 7) {p n : Nat} {ty va : Int32} {va' : Int64} (hT : TokR len B p n ty va va') (st number : Int32) (lowers uppers : Nat → Int32) :
    (∃ f g u lo nx to pl vv, badF f ∧ fX4_takeFraction_65 (nI k) lowers (nI len) B uppers st (nI k) 0 (-1) number ty (nI p) va (nI n) = some u ∧ u.1 = 0 ∧ u.2.1 = f ∧ u.2.2.1 = g ∧ fX11_readsFraction_27 (nI len) tape st 0 (-1) (nI n) ty (nI p) va' = some (f, g, nx, to, pl, vv, st, lo) ∧ (1 ≤ lo.toInt ∧ lo.toInt ≤ 99)) ∨
    (∃ lo num' lowers' p2 n2 ty2 va2 va2', (1 ≤ lo.toInt ∧ lo.toInt ≤ 99) ∧ lowers' k = lo ∧ (∀ i, ¬ i = k → lowers' i = lowers i) ∧ p ≤ p2 ∧ TokR len B p2 n2 ty2 va2 va2' ∧ fX4_takeFraction_65 (nI k) lowers (nI len) B uppers st (nI k) 0 (-1) number ty (nI p) va (nI n) = some (1, 0, -1, num', lowers', ty2, nI p2, va2, nI n2, upd uppers k st) ∧ fX11_readsFraction_27 (nI len) tape st 0 (-1) (nI n) ty (nI p) va' = some (0, -1, nI n2, ty2, nI p2, va2', st, lo)) := by
  unfold fX4_takeFraction_65 fX11_readsFraction_27
  simp only [ltp, inB_ok (n := 7) hk (by omega), nI_clamp (n := k) (by omega)]
  rcases sign_ok h hT 47 with ⟨q1, q2⟩ | ⟨q1, p2, n2, ty2, va2, va2', q2, q3, q4, q5⟩
  · right
    rw [q1, q2]
    simp only [obs, ↓reduceIte]
    exact ⟨1, number, _, p, n, ty, va, va', by decide, pk_us, fun i hi => pk_un hi, Nat.le_refl _, hT, rfl, rfl⟩
  · rw [q1, q5]
    simp only [obs, if_neg one0]
    rw [q4]
    simp only [obs]
    rcases num_ok h q3 (a := 1) (b := 99) (by omega) (by omega) number with ⟨f, num', hf, r1, r2⟩ | ⟨v, p3, n3, ty3, va3, va3', v1, v2, v3, v4, r1, r2⟩
    · left
      rw [show nI 1 = 1 from rfl, show nI 99 = 99 from rfl] at r1 r2
      rw [r1, r2]
      simp only [obs, ↓reduceIte]
      exact ⟨f, nI p2, _, 1, _, _, _, _, hf, rfl, rfl, rfl, rfl, rfl, by decide⟩
    · right
      rw [show nI 1 = 1 from rfl, show nI 99 = 99 from rfl] at r1 r2
      rw [r1, r2]
      simp only [obs, if_neg one0]
      refine ⟨nI v, nI v, upd (upd lowers k 1) k (nI v), p3, n3, ty3, va3, va3', by rw [nI_toInt (by omega)]; omega, pk_us, fun i hi => ?_, by omega, v4, rfl, rfl⟩
      rw [pk_un hi, pk_un hi]
theorem frac_ok (h : TP len B tape) {k : Nat} (hk : k < 7) {p n : Nat} {ty va : Int32} {va' : Int64} (hT : TokR len B p n ty va va') (number : Int32) (lowers uppers : Nat → Int32) :
    (∃ f g u up lo nx to pl vv, badF f ∧ toldB up lo ∧ fX4_takeFraction (nI k) 0 (-1) number lowers ty (nI p) va (nI n) (nI len) B uppers = some u ∧ u.1 = 0 ∧ u.2.1 = f ∧ u.2.2.1 = g ∧ fX11_readsFraction 0 (-1) (nI len) (nI n) ty (nI p) va' tape = some (f, g, nx, to, pl, vv, up, lo)) ∨
    (∃ up lo num' lowers' p2 n2 ty2 va2 va2', toldB up lo ∧ lowers' k = lo ∧ (∀ i, ¬ i = k → lowers' i = lowers i) ∧ p ≤ p2 ∧ TokR len B p2 n2 ty2 va2 va2' ∧ fX4_takeFraction (nI k) 0 (-1) number lowers ty (nI p) va (nI n) (nI len) B uppers = some (1, 0, -1, num', lowers', ty2, nI p2, va2, nI n2, upd uppers k up) ∧ fX11_readsFraction 0 (-1) (nI len) (nI n) ty (nI p) va' tape = some (0, -1, nI n2, ty2, nI p2, va2', up, lo)) := by
  unfold fX4_takeFraction fX11_readsFraction
  have go : ∀ (less : Int32) {p n : Nat} {ty va : Int32} {va' : Int64}, TokR len B p n ty va va' →
    (∃ f g u up lo nx to pl vv, badF f ∧ toldB up lo ∧ fX4_takeFraction_21 (nI k) 0 (-1) number lowers (nI len) B uppers less ty (nI p) va (nI n) = some u ∧ u.1 = 0 ∧ u.2.1 = f ∧ u.2.2.1 = g ∧ ((fX11_numeral 0 999 0 (-1) (nI len) (nI n) ty (nI p) va' tape).bind fun u_3 => lt u_3.1 fun x_4 => if less = 0 then (fX11_readsFraction_27 (nI len) tape x_4 u_3.2.1 u_3.2.2.1 u_3.2.2.2.1 u_3.2.2.2.2.1 u_3.2.2.2.2.2.1 u_3.2.2.2.2.2.2) else (fX11_readsFraction_27 (nI len) tape (-x_4) u_3.2.1 u_3.2.2.1 u_3.2.2.2.1 u_3.2.2.2.2.1 u_3.2.2.2.2.2.1 u_3.2.2.2.2.2.2)) = some (f, g, nx, to, pl, vv, up, lo)) ∨
    (∃ up lo num' lowers' p2 n2 ty2 va2 va2', toldB up lo ∧ lowers' k = lo ∧ (∀ i, ¬ i = k → lowers' i = lowers i) ∧ p ≤ p2 ∧ TokR len B p2 n2 ty2 va2 va2' ∧ fX4_takeFraction_21 (nI k) 0 (-1) number lowers (nI len) B uppers less ty (nI p) va (nI n) = some (1, 0, -1, num', lowers', ty2, nI p2, va2, nI n2, upd uppers k up) ∧ ((fX11_numeral 0 999 0 (-1) (nI len) (nI n) ty (nI p) va' tape).bind fun u_3 => lt u_3.1 fun x_4 => if less = 0 then (fX11_readsFraction_27 (nI len) tape x_4 u_3.2.1 u_3.2.2.1 u_3.2.2.2.1 u_3.2.2.2.2.1 u_3.2.2.2.2.2.1 u_3.2.2.2.2.2.2) else (fX11_readsFraction_27 (nI len) tape (-x_4) u_3.2.1 u_3.2.2.1 u_3.2.2.2.1 u_3.2.2.2.2.1 u_3.2.2.2.2.2.1 u_3.2.2.2.2.2.2)) = some (0, -1, nI n2, ty2, nI p2, va2', up, lo)) := by
    intro less p n ty va va' hT
    unfold fX4_takeFraction_21
    rw [if_neg (nI_pos (by omega)), if_neg (show ¬ (7 : Int32) ≤ nI k from nI_ge (a := k) (b := 7) hk (by omega))]
    rcases num_ok h hT (a := 0) (b := 999) (by omega) (by omega) number with ⟨f, num', hf, r1, r2⟩ | ⟨v, p3, n3, ty3, va3, va3', v1, v2, v3, v4, r1, r2⟩
    · left
      rw [show nI 0 = 0 from rfl, show nI 999 = 999 from rfl] at r1 r2
      rw [r1, r2]
      simp only [obs, ↓reduceIte, ltp]
      have h27 : ∀ st : Int32, fX11_readsFraction_27 (nI len) tape st f (nI p) (nI n) ty (nI p) va' = some (f, nI p, nI n, ty, nI p, va', st, 1) := by
        intro st
        unfold fX11_readsFraction_27
        rw [hasSign_bad hf]
        simp only [obs, ↓reduceIte]
      simp only [h27, show -(0 : Int32) = 0 from rfl, ite_self]
      exact ⟨f, nI p, _, 0, 1, _, _, _, _, hf, ⟨by decide, by decide⟩, rfl, rfl, rfl, rfl, rfl⟩
    · rw [show nI 0 = 0 from rfl, show nI 999 = 999 from rfl] at r1 r2
      rw [r1, r2]
      simp only [obs, if_neg one0, ltp]
      obtain ⟨t1, t2⟩ := told_neg v2
      by_cases hl : less = 0
      · simp only [if_pos hl]
        rcases frac65_ok h hk v4 (nI v) (nI v) lowers uppers with ⟨f, g, u, lo, nx, to, pl, vv, hf, s1, s2, s3, s4, s5, s6⟩ | ⟨lo, num', lowers', p2, n2, ty2, va2, va2', s1, s2, s3, s4, s5, s6, s7⟩
        · left
          exact ⟨f, g, u, nI v, lo, nx, to, pl, vv, hf, ⟨t2, s6⟩, s1, s2, s3, s4, s5⟩
        · right
          exact ⟨nI v, lo, num', lowers', p2, n2, ty2, va2, va2', ⟨t2, s1⟩, s2, s3, by omega, s5, s6, s7⟩
      · simp only [if_neg hl]
        rcases frac65_ok h hk v4 (-nI v) (nI v) lowers uppers with ⟨f, g, u, lo, nx, to, pl, vv, hf, s1, s2, s3, s4, s5, s6⟩ | ⟨lo, num', lowers', p2, n2, ty2, va2, va2', s1, s2, s3, s4, s5, s6, s7⟩
        · left
          exact ⟨f, g, u, -nI v, lo, nx, to, pl, vv, hf, ⟨t1, s6⟩, s1, s2, s3, s4, s5⟩
        · right
          exact ⟨-nI v, lo, num', lowers', p2, n2, ty2, va2, va2', ⟨t1, s1⟩, s2, s3, by omega, s5, s6, s7⟩
  rcases sign_ok h hT 45 with ⟨q1, q2⟩ | ⟨q1, p2, n2, ty2, va2, va2', q2, q3, q4, q5⟩
  · rw [q1, q2]
    simp only [obs, ↓reduceIte, ltp]
    have hg := go 0 hT
    simp only [↓reduceIte, ltp] at hg
    exact hg
  · rw [q1, q5]
    simp only [obs, if_neg one0, ltp]
    rw [q4]
    simp only [obs]
    have hg0 := go 1 q3
    simp only [if_neg one0, ltp] at hg0
    rcases hg0 with hg | ⟨up, lo, num', lowers', p3, n3, ty3, va3, va3', s1, s2, s3, s4, s5, s6, s7⟩
    · left
      exact hg
    · right
      exact ⟨up, lo, num', lowers', p3, n3, ty3, va3, va3', s1, s2, s3, by omega, s5, s6, s7⟩
end READ
