/-! Lines by their words. -/
theorem first_of {a b f g number ty pl va nx len : Int32} {B : Nat → Int32} {x f' g' num' ty' pl' va2 nx' : Int32} (h : fX4_takeNumber a b f g number ty pl va nx len B = some (x, f', g', num', ty', pl', va2, nx')) (hx : x = 0 ∨ x = 1) : fX4_takeFirst a b f g number ty pl va nx len B = some (x, f', g', num', num', ty', pl', va2, nx') := by
  unfold fX4_takeFirst
  rw [h]
  rcases hx with rfl | rfl
  · simp only [obs, ltp, tv0]
  · simp only [obs, ltp, tv1]
theorem second_of {a b f g number ty pl va nx len : Int32} {B : Nat → Int32} {x f' g' num' ty' pl' va2 nx' : Int32} (h : fX4_takeNumber a b f g number ty pl va nx len B = some (x, f', g', num', ty', pl', va2, nx')) (hx : x = 0 ∨ x = 1) : fX4_takeSecond a b f g number ty pl va nx len B = some (x, f', g', num', num', ty', pl', va2, nx') := by
  unfold fX4_takeSecond
  rw [h]
  rcases hx with rfl | rfl
  · simp only [obs, ltp, tv0]
  · simp only [obs, ltp, tv1]
section LINEW
variable {len : Nat} {B tape : Nat → Int32} {R C : Nat} {tl tu all : Nat → Int32}
variable (word first second number : Int32) (lowers uppers : Nat → Int32) (aLR aLC anr anc : Int32) (anl : Nat → Int32) (asu asl : Int64) (asi : Int32) (anu : Nat → Int32) (avu avl : Int64) (avi : Int32) (qu ql : Int64) (qi : Int32) (sk sb sbr sbc slr slc sB1 sB2 : Int32) (sfu sfw : Int64) (sfi : Int32) (sfl : Nat → Int32) (sgr sgc : Int32) (sgl : Nat → Int32) (ssu ssl : Int64) (ssi : Int32) (sgu spc spr swt : Nat → Int32)
variable (up lo : Int64) (il rk brr bcc fd tU tL : Int32) (cl cu lc lr pC pF pR pW : Nat → Int32)
theorem line_swap (h : TP len B tape) {p n : Nat} {va : Int32} {va' : Int64} (hT : TokR len B p n 1 va va') (hpn : p < n) (hw : fX5_wordAhead (nI p) (nI n) (nI len) B = some 4) (hv : va' = 390787) (hR1 : 1 ≤ R) (hR6 : R ≤ 6) (hC1 : 1 ≤ C) (hC6 : C ≤ 6) (hm : matAt (nI R) (nI C) tl tu all 89) : (∃ f g, badF f ∧ clsBad (fX4_readLine (nI R) (nI C) 0 (-1) word first second number lowers 1 (nI p) va (nI n) (nI len) B uppers) (fun u7 => fX4_readStop u7.2.1 u7.2.2.1 u7.2.2.2.2.2.2.2.2.2.1 u7.2.2.2.2.2.2.2.2.2.2.1 u7.2.2.2.2.2.2.2.2.2.2.2.1 u7.2.2.2.2.2.2.2.2.2.2.2.2.1 (nI len) B) (fun u7 u8 => fX10_carryOut aLR aLC anr anc anl asu asl asi anu avu avl avi qu ql qi u8.2.1 u8.2.2.1 u7.2.2.2.1 u7.2.2.2.2.1 u7.2.2.2.2.2.1 u7.2.2.2.2.2.2.1 u7.2.2.2.2.2.2.2.2.1 u7.2.2.2.2.2.2.2.2.2.2.2.2.2 sk sb sbr sbc slr slc sB1 sB2 sfu sfw sfi sfl sgr sgc sgl ssu ssl ssi sgu spc spr swt (nI R) (nI C) tl tu) f g ∧ refBad (fX11_readsLine 0 (-1) up lo il rk brr bcc fd (nI len) (nI n) 1 (nI p) va' tU tL all cl cu lc lr pC pF pR pW tape) f g all) ∨
    (∃ p9 n9 ty9 va9 va9' tl9 tu9 all9, p < p9 ∧ TokR len B p9 n9 ty9 va9 va9' ∧ matAt (nI R) (nI C) tl9 tu9 all9 89 ∧ (∀ j, ¬ (89 ≤ j ∧ j < 175) → all9 j = all j) ∧ clsGood (fX4_readLine (nI R) (nI C) 0 (-1) word first second number lowers 1 (nI p) va (nI n) (nI len) B uppers) (fun u7 => fX4_readStop u7.2.1 u7.2.2.1 u7.2.2.2.2.2.2.2.2.2.1 u7.2.2.2.2.2.2.2.2.2.2.1 u7.2.2.2.2.2.2.2.2.2.2.2.1 u7.2.2.2.2.2.2.2.2.2.2.2.2.1 (nI len) B) (fun u7 u8 => fX10_carryOut aLR aLC anr anc anl asu asl asi anu avu avl avi qu ql qi u8.2.1 u8.2.2.1 u7.2.2.2.1 u7.2.2.2.2.1 u7.2.2.2.2.2.1 u7.2.2.2.2.2.2.1 u7.2.2.2.2.2.2.2.2.1 u7.2.2.2.2.2.2.2.2.2.2.2.2.2 sk sb sbr sbc slr slc sB1 sB2 sfu sfw sfi sfl sgr sgc sgl ssu ssl ssi sgu spc spr swt (nI R) (nI C) tl tu) ty9 (nI p9) va9 (nI n9) (nI R) (nI C) tl9 tu9 ∧ refGood (fX11_readsLine 0 (-1) up lo il rk brr bcc fd (nI len) (nI n) 1 (nI p) va' tU tL all cl cu lc lr pC pF pR pW tape) (nI n9) ty9 (nI p9) va9' all9) := by
  obtain ⟨cl1, cu1, hb, hG⟩ := mat_begin (b := 89) (by omega) hR6 hC6 rfl rfl hm cl cu
  rw [show nI 89 = 89 from rfl] at hb
  obtain ⟨p2, n2, ty2, va2, va2', a1, a2, a3, a4⟩ := adv_ok h hT.2.1
  subst hv
  have eR : nI R - 1 = nI (R - 1) := pk_sub (a := R) (b := 1) hR1
  have htw : fX4_takeWord 0 (-1) word 1 (nI p) va (nI n) (nI len) B = some (1, 0, -1, 4, nI p, ty2, nI p2, va2, nI n2) := by
    unfold fX4_takeWord
    rw [if_pos rfl, hw]
    simp only [obs]
    rw [a3]
    simp only [obs]
  unfold fX4_readLine fX11_readsLine fX11_readsLine_21
  rw [htw, hb]
  simp only [obs, if_neg one0, show ((4 : Int32) = 2) = False from by decide, show ((4 : Int32) = 3) = False from by decide, show ((4 : Int32) = 4) = True from by decide, show ((4 : Int32) = 5) = False from by decide, show ((4 : Int32) = 6) = False from by decide, show ((4 : Int32) = 7) = False from by decide, ↓reduceIte]
  rw [hasWord_no (by decide)]
  simp only [obs, ↓reduceIte]
  rw [hasWord_no (by decide)]
  simp only [obs, ↓reduceIte]
  rw [hasWord_yes a4]
  simp only [obs, if_neg one0]
  have cA : fX11_readsAct 390787 0 (-1) up lo il (nI R) (nI C) rk brr bcc 0 fd 89 (nI len) (nI n2) ty2 (nI p2) va2' tU tL all cl1 cu1 lc lr pC pF pR pW tape = (fX11_numeral 0 (nI R - 1) 0 (-1) (nI len) (nI n2) ty2 (nI p2) va2' tape).bind fun u_1 => fX11_readsAct_28 390787 up lo il (nI R) (nI C) rk brr bcc 0 fd 89 (nI len) tU tL all cl1 cu1 lc lr pC pF pR pW tape u_1.1 u_1.2.1 u_1.2.2.1 u_1.2.2.2.1 u_1.2.2.2.2.1 u_1.2.2.2.2.2.1 u_1.2.2.2.2.2.2 := by
    unfold fX11_readsAct
    simp only [show (lg_cmp (390787 : Int64) 261031658 = 0) = False from by decide, show (lg_cmp (390787 : Int64) 390787 = 0) = True from by decide, show (lg_cmp (390787 : Int64) 841 = 0) = False from by decide, show (lg_cmp (390787 : Int64) 10157486 = 0) = False from by decide, ↓reduceIte]
  rcases num_ok h a2 (a := 0) (b := R - 1) (by omega) (by omega) number with ⟨f, num', hf, r1, r2⟩ | ⟨r, p3, n3, ty3, va3, va3', v1, v2, v3, v4, r1, r2⟩
  · rw [show nI 0 = 0 from rfl, ← eR] at r1 r2
    left
    refine ⟨f, nI p2, hf, ?_, ?_⟩
    · rw [first_of r1 (Or.inl rfl)]
      simp only [obs, ↓reduceIte]
      exact ⟨_, rfl, Or.inl ⟨rfl, rfl, rfl⟩⟩
    · rw [r2, obs] at cA
      obtain ⟨u5, hu, h0, h1, h2⟩ := act28_bad hf (p1 := 390787) (up := up) (lo := lo) (il := il) (rows := nI R) (cols := nI C) (rk := rk) (brr := brr) (bcc := bcc) (isB := 0) (fd := fd) (fr := 89) (s := nI len) (tU := tU) (tL := tL) (all := all) (cl := cl1) (cu := cu1) (lc := lc) (lr := lr) (pC := pC) (pF := pF) (pR := pR) (pW := pW) (tape := tape) (st := 0) (g := nI p2) (nx := nI n2) (to := ty2) (pl := nI p2) (va := va2')
      exact l102_bad (cA.trans hu) h0 h1 h2 hf
  · rw [show nI 0 = 0 from rfl, ← eR] at r1 r2
    rw [r2] at cA
    simp only [obs] at cA
    unfold fX11_readsAct_28 fX11_readsAct_45 at cA
    simp only [show (lg_cmp (390787 : Int64) 261031658 = 0) = False from by decide, show (lg_cmp (390787 : Int64) 390787 = 0) = True from by decide, show (lg_cmp (390787 : Int64) 841 = 0) = False from by decide, show (lg_cmp (390787 : Int64) 10157486 = 0) = False from by decide, ↓reduceIte] at cA
    rw [first_of r1 (Or.inr rfl)]
    simp only [obs, if_neg one0]
    rcases num_ok h v4 (a := 0) (b := R - 1) (by omega) (by omega) (nI r) with ⟨f, num', hf, s1, s2⟩ | ⟨s, p4, n4, ty4, va4, va4', w1, w2, w3, w4, s1, s2⟩
    · rw [show nI 0 = 0 from rfl, ← eR] at s1 s2
      left
      refine ⟨f, nI p3, hf, ?_, ?_⟩
      · rw [second_of s1 (Or.inl rfl)]
        simp only [obs, ↓reduceIte]
        exact ⟨_, rfl, Or.inl ⟨rfl, rfl, rfl⟩⟩
      · rw [s2] at cA
        simp only [obs] at cA
        obtain ⟨u5, hu, h0, h1, h2⟩ := act60_bad hf (p1 := 390787) (up := up) (lo := lo) (il := il) (rows := nI R) (cols := nI C) (rk := rk) (brr := brr) (bcc := bcc) (isB := 0) (fd := fd) (fr := 89) (s := nI len) (tU := tU) (tL := tL) (all := all) (cl := cl1) (cu := cu1) (lc := lc) (lr := lr) (pC := pC) (pF := pF) (pR := pR) (pW := pW) (tape := tape) (v3 := nI r) (st := 0) (g := nI p3) (nx := nI n3) (to := ty3) (pl := nI p3) (va := va3')
        exact l102_bad (cA.trans hu) h0 h1 h2 hf
    · rw [show nI 0 = 0 from rfl, ← eR] at s1 s2
      rw [s2] at cA
      simp only [obs] at cA
      unfold fX11_readsAct_60 fX11_readsAct_82 at cA
      simp only [show (lg_cmp (390787 : Int64) 261031658 = 0) = False from by decide, show (lg_cmp (390787 : Int64) 390787 = 0) = True from by decide, show (lg_cmp (390787 : Int64) 841 = 0) = False from by decide, show (lg_cmp (390787 : Int64) 10157486 = 0) = False from by decide, ↓reduceIte] at cA
      rw [second_of s1 (Or.inr rfl)]
      simp only [obs, if_neg one0]
      rcases stop_ok h w4 with ⟨q1, q2⟩ | ⟨p5, n5, ty5, va5, va5', k1, k2, q1, q2⟩
      · left
        rw [q2] at cA
        simp only [obs, goodN (f := 1) (by decide), ↓reduceIte] at cA
        refine ⟨1, nI p4, Or.inl rfl, ⟨_, rfl, Or.inr ⟨one0, _, q1, Or.inl ⟨rfl, rfl, rfl⟩⟩⟩, ?_⟩
        exact l102_bad cA rfl rfl rfl (Or.inl rfl)
      · rw [q2] at cA
        simp only [obs, good0, if_neg one0] at cA
        obtain ⟨u, v, t1, t2, t3, t4, t5, t6⟩ := exch_ok hR1 hR6 hC6 hG (nI r) (nI s) anr anc anl asu asl asi anu avu avl avi
        have hco : fX10_carryOut aLR aLC anr anc anl asu asl asi anu avu avl avi qu ql qi 0 (-1) 4 (nI r) (nI s) (nI p) lowers uppers sk sb sbr sbc slr slc sB1 sB2 sfu sfw sfi sfl sgr sgc sgl ssu ssl ssi sgu spc spr swt (nI R) (nI C) tl tu = fX10_carryOut_210 qu ql qi 0 (-1) (nI p) (nI R) (nI C) tl tu u.1 aLR aLC u.2.1 u.2.2.1 u.2.2.2.1 u.2.2.2.2.1 u.2.2.2.2.2.1 u.2.2.2.2.2.2.1 u.2.2.2.2.2.2.2.1 u.2.2.2.2.2.2.2.2.1 u.2.2.2.2.2.2.2.2.2.1 u.2.2.2.2.2.2.2.2.2.2 sk sb sbr sbc slr slc sB1 sB2 sfu sfw sfi sfl sgr sgc sgl ssu ssl ssi sgu spc spr swt := by
          unfold fX10_carryOut
          rw [upR0, loR0]
          simp only [obs, show ((4 : Int32) = 2) = False from by decide, show ((4 : Int32) = 3) = False from by decide, show ((4 : Int32) = 4) = True from by decide, show ((4 : Int32) = 5) = False from by decide, show ((4 : Int32) = 6) = False from by decide, show ((4 : Int32) = 7) = False from by decide, ↓reduceIte]
          rw [t1]
          simp only [obs, ltp]
        rw [t2] at cA
        simp only [obs] at cA
        by_cases hx : u.1 = 0
        · right
          obtain ⟨x1, x2, hGx⟩ := t5 hx
          rw [hx] at hco
          obtain ⟨u9, L', U', o1, o2, o3, o4, o5, o6, o7, o8, hcc⟩ := co_yes qu ql qi 0 (-1) (nI p) (nI R) (nI C) tl tu aLR aLC u.2.1 u.2.2.1 u.2.2.2.1 u.2.2.2.2.1 u.2.2.2.2.2.1 u.2.2.2.2.2.2.1 u.2.2.2.2.2.2.2.1 u.2.2.2.2.2.2.2.2.1 u.2.2.2.2.2.2.2.2.2.1 u.2.2.2.2.2.2.2.2.2.2 sk sb sbr sbc slr slc sB1 sB2 sfu sfw sfi sfl sgr sgc sgl ssu ssl ssi sgu spc spr swt
          obtain ⟨all9, m1, m2, m3⟩ := l102_good (tl9 := L') (tu9 := U') hR1 hR6 hC1 hC6 hm cA (t3.trans hx) rfl rfl (eqG_copy hR6 hC6 hGx hcc) (pl0 := nI p)
          exact ⟨p5, n5, ty5, va5, va5', L', U', all9, by omega, k2, m1, m2, ⟨_, _, u9, rfl, one0, q1, one0, ⟨rfl, rfl, rfl, rfl⟩, hco.trans o1, o2, ⟨o3, o4, o5.trans x1, o6.trans x2, o7, o8⟩⟩, m3⟩
        · left
          obtain ⟨u9, o1, o2, o3, o4⟩ := co_no qu ql qi 0 (-1) (nI p) (nI R) (nI C) tl tu aLR aLC u.2.1 u.2.2.1 u.2.2.2.1 u.2.2.2.2.1 u.2.2.2.2.2.1 u.2.2.2.2.2.2.1 u.2.2.2.2.2.2.2.1 u.2.2.2.2.2.2.2.2.1 u.2.2.2.2.2.2.2.2.2.1 u.2.2.2.2.2.2.2.2.2.2 sk sb sbr sbc slr slc sB1 sB2 sfu sfw sfi sfl sgr sgc sgl ssu ssl ssi sgu spc spr swt hx
          refine ⟨3, nI p, Or.inr (Or.inr rfl), ⟨_, rfl, Or.inr ⟨one0, _, q1, Or.inr ⟨one0, u9, hco.trans o1, o2, o3, o4⟩⟩⟩, ?_⟩
          exact l102_ref cA (by rw [t3]; exact t4) (by rw [t3]; exact hx) rfl
theorem line_scale (h : TP len B tape) {p n : Nat} {va : Int32} {va' : Int64} (hT : TokR len B p n 1 va va') (hpn : p < n) (hw : fX5_wordAhead (nI p) (nI n) (nI len) B = some 5) (hv : va' = 10157486) (hR1 : 1 ≤ R) (hR6 : R ≤ 6) (hC1 : 1 ≤ C) (hC6 : C ≤ 6) (hm : matAt (nI R) (nI C) tl tu all 89) : (∃ f g, badF f ∧ clsBad (fX4_readLine (nI R) (nI C) 0 (-1) word first second number lowers 1 (nI p) va (nI n) (nI len) B uppers) (fun u7 => fX4_readStop u7.2.1 u7.2.2.1 u7.2.2.2.2.2.2.2.2.2.1 u7.2.2.2.2.2.2.2.2.2.2.1 u7.2.2.2.2.2.2.2.2.2.2.2.1 u7.2.2.2.2.2.2.2.2.2.2.2.2.1 (nI len) B) (fun u7 u8 => fX10_carryOut aLR aLC anr anc anl asu asl asi anu avu avl avi qu ql qi u8.2.1 u8.2.2.1 u7.2.2.2.1 u7.2.2.2.2.1 u7.2.2.2.2.2.1 u7.2.2.2.2.2.2.1 u7.2.2.2.2.2.2.2.2.1 u7.2.2.2.2.2.2.2.2.2.2.2.2.2 sk sb sbr sbc slr slc sB1 sB2 sfu sfw sfi sfl sgr sgc sgl ssu ssl ssi sgu spc spr swt (nI R) (nI C) tl tu) f g ∧ refBad (fX11_readsLine 0 (-1) up lo il rk brr bcc fd (nI len) (nI n) 1 (nI p) va' tU tL all cl cu lc lr pC pF pR pW tape) f g all) ∨
    (∃ p9 n9 ty9 va9 va9' tl9 tu9 all9, p < p9 ∧ TokR len B p9 n9 ty9 va9 va9' ∧ matAt (nI R) (nI C) tl9 tu9 all9 89 ∧ (∀ j, ¬ (89 ≤ j ∧ j < 175) → all9 j = all j) ∧ clsGood (fX4_readLine (nI R) (nI C) 0 (-1) word first second number lowers 1 (nI p) va (nI n) (nI len) B uppers) (fun u7 => fX4_readStop u7.2.1 u7.2.2.1 u7.2.2.2.2.2.2.2.2.2.1 u7.2.2.2.2.2.2.2.2.2.2.1 u7.2.2.2.2.2.2.2.2.2.2.2.1 u7.2.2.2.2.2.2.2.2.2.2.2.2.1 (nI len) B) (fun u7 u8 => fX10_carryOut aLR aLC anr anc anl asu asl asi anu avu avl avi qu ql qi u8.2.1 u8.2.2.1 u7.2.2.2.1 u7.2.2.2.2.1 u7.2.2.2.2.2.1 u7.2.2.2.2.2.2.1 u7.2.2.2.2.2.2.2.2.1 u7.2.2.2.2.2.2.2.2.2.2.2.2.2 sk sb sbr sbc slr slc sB1 sB2 sfu sfw sfi sfl sgr sgc sgl ssu ssl ssi sgu spc spr swt (nI R) (nI C) tl tu) ty9 (nI p9) va9 (nI n9) (nI R) (nI C) tl9 tu9 ∧ refGood (fX11_readsLine 0 (-1) up lo il rk brr bcc fd (nI len) (nI n) 1 (nI p) va' tU tL all cl cu lc lr pC pF pR pW tape) (nI n9) ty9 (nI p9) va9' all9) := by
  obtain ⟨cl1, cu1, hb, hG⟩ := mat_begin (b := 89) (by omega) hR6 hC6 rfl rfl hm cl cu
  rw [show nI 89 = 89 from rfl] at hb
  obtain ⟨p2, n2, ty2, va2, va2', a1, a2, a3, a4⟩ := adv_ok h hT.2.1
  subst hv
  have eR : nI R - 1 = nI (R - 1) := pk_sub (a := R) (b := 1) hR1
  have htw : fX4_takeWord 0 (-1) word 1 (nI p) va (nI n) (nI len) B = some (1, 0, -1, 5, nI p, ty2, nI p2, va2, nI n2) := by
    unfold fX4_takeWord
    rw [if_pos rfl, hw]
    simp only [obs]
    rw [a3]
    simp only [obs]
  unfold fX4_readLine fX11_readsLine fX11_readsLine_21
  rw [htw, hb]
  simp only [obs, if_neg one0, show ((5 : Int32) = 2) = False from by decide, show ((5 : Int32) = 3) = False from by decide, show ((5 : Int32) = 4) = False from by decide, show ((5 : Int32) = 5) = True from by decide, show ((5 : Int32) = 6) = False from by decide, show ((5 : Int32) = 7) = False from by decide, ↓reduceIte]
  rw [hasWord_no (by decide)]
  simp only [obs, ↓reduceIte]
  rw [hasWord_no (by decide)]
  simp only [obs, ↓reduceIte]
  rw [hasWord_no (by decide)]
  simp only [obs, ↓reduceIte]
  rw [hasWord_yes a4]
  simp only [obs, if_neg one0]
  have cA : fX11_readsAct 10157486 0 (-1) up lo il (nI R) (nI C) rk brr bcc 0 fd 89 (nI len) (nI n2) ty2 (nI p2) va2' tU tL all cl1 cu1 lc lr pC pF pR pW tape = (fX11_numeral 0 (nI R - 1) 0 (-1) (nI len) (nI n2) ty2 (nI p2) va2' tape).bind fun u_1 => fX11_readsAct_28 10157486 up lo il (nI R) (nI C) rk brr bcc 0 fd 89 (nI len) tU tL all cl1 cu1 lc lr pC pF pR pW tape u_1.1 u_1.2.1 u_1.2.2.1 u_1.2.2.2.1 u_1.2.2.2.2.1 u_1.2.2.2.2.2.1 u_1.2.2.2.2.2.2 := by
    unfold fX11_readsAct
    simp only [show (lg_cmp (10157486 : Int64) 261031658 = 0) = False from by decide, show (lg_cmp (10157486 : Int64) 390787 = 0) = False from by decide, show (lg_cmp (10157486 : Int64) 841 = 0) = False from by decide, show (lg_cmp (10157486 : Int64) 10157486 = 0) = True from by decide, ↓reduceIte]
  rcases num_ok h a2 (a := 0) (b := R - 1) (by omega) (by omega) number with ⟨f, num', hf, r1, r2⟩ | ⟨r, p3, n3, ty3, va3, va3', v1, v2, v3, v4, r1, r2⟩
  · rw [show nI 0 = 0 from rfl, ← eR] at r1 r2
    left
    refine ⟨f, nI p2, hf, ?_, ?_⟩
    · rw [first_of r1 (Or.inl rfl)]
      simp only [obs, ↓reduceIte]
      exact ⟨_, rfl, Or.inl ⟨rfl, rfl, rfl⟩⟩
    · rw [r2, obs] at cA
      obtain ⟨u5, hu, h0, h1, h2⟩ := act28_bad hf (p1 := 10157486) (up := up) (lo := lo) (il := il) (rows := nI R) (cols := nI C) (rk := rk) (brr := brr) (bcc := bcc) (isB := 0) (fd := fd) (fr := 89) (s := nI len) (all := all) (cl := cl1) (cu := cu1) (lc := lc) (lr := lr) (pC := pC) (pF := pF) (pR := pR) (pW := pW) (tape := tape) (tU := tU) (tL := tL) (st := 0) (g := nI p2) (nx := nI n2) (to := ty2) (pl := nI p2) (va := va2')
      exact l102_bad (cA.trans hu) h0 h1 h2 hf
  · rw [show nI 0 = 0 from rfl, ← eR] at r1 r2
    rw [r2] at cA
    simp only [obs] at cA
    unfold fX11_readsAct_28 fX11_readsAct_45 at cA
    simp only [show (lg_cmp (10157486 : Int64) 261031658 = 0) = False from by decide, show (lg_cmp (10157486 : Int64) 390787 = 0) = False from by decide, show (lg_cmp (10157486 : Int64) 841 = 0) = False from by decide, show (lg_cmp (10157486 : Int64) 10157486 = 0) = True from by decide, ↓reduceIte] at cA
    rw [first_of r1 (Or.inr rfl)]
    simp only [obs, if_neg one0]
    unfold fX11_readsAct_60 at cA
    simp only [show (lg_cmp (10157486 : Int64) 261031658 = 0) = False from by decide, show (lg_cmp (10157486 : Int64) 390787 = 0) = False from by decide, show (lg_cmp (10157486 : Int64) 841 = 0) = False from by decide, show (lg_cmp (10157486 : Int64) 10157486 = 0) = True from by decide, ↓reduceIte] at cA
    rcases onefrac_ok h v4 (nI r) lowers uppers with ⟨f, g, u0, up2, lo2, nx, to, pl, vv, hf, g1, g2, g3, g4, g5, g6⟩ | ⟨up2, lo2, num', lowers', p6, n6, ty6, va6, va6', g1, g2, g3, g4, g5, g6⟩
    · left
      refine ⟨f, g, hf, ?_, ?_⟩
      · rw [g2]
        simp only [obs]
        rw [if_pos g3]
        exact ⟨_, rfl, Or.inl ⟨rfl, g4, g5⟩⟩
      · rw [g6] at cA
        simp only [obs] at cA
        obtain ⟨u5, hu, h0, h1, h2⟩ := act82_bad hf (p1 := 10157486) (up := up) (lo := lo) (il := il) (rows := nI R) (cols := nI C) (rk := rk) (brr := brr) (bcc := bcc) (isB := 0) (fd := fd) (fr := 89) (s := nI len) (all := all) (cl := cl1) (cu := cu1) (lc := lc) (lr := lr) (pC := pC) (pF := pF) (pR := pR) (pW := pW) (tape := tape) (v3 := nI r) (v4 := 0) (g := g) (nx := nx) (to := to) (pl := pl) (va := vv) (tU := up2) (tL := lo2)
        exact l102_bad (cA.trans hu) h0 h1 h2 hf
    · rw [g6] at cA
      simp only [obs] at cA
      unfold fX11_readsAct_82 at cA
      simp only [show (lg_cmp (10157486 : Int64) 261031658 = 0) = False from by decide, show (lg_cmp (10157486 : Int64) 390787 = 0) = False from by decide, show (lg_cmp (10157486 : Int64) 841 = 0) = False from by decide, show (lg_cmp (10157486 : Int64) 10157486 = 0) = True from by decide, ↓reduceIte] at cA
      rw [g5]
      simp only [obs, if_neg one0]
      rcases stop_ok h g4 with ⟨q1, q2⟩ | ⟨p5, n5, ty5, va5, va5', k1, k2, q1, q2⟩
      · left
        rw [q2] at cA
        simp only [obs, goodN (f := 1) (by decide), ↓reduceIte] at cA
        refine ⟨1, nI p6, Or.inl rfl, ⟨_, rfl, Or.inr ⟨one0, _, q1, Or.inl ⟨rfl, rfl, rfl⟩⟩⟩, ?_⟩
        exact l102_bad cA rfl rfl rfl (Or.inl rfl)
      · rw [q2] at cA
        simp only [obs, good0, if_neg one0] at cA
        obtain ⟨u, v, t1, t2, t3, t4, t5, t6⟩ := stretch_ok hR1 hR6 hC6 hG (nI r) up2 lo2 aLR aLC anr anc anl anu avu avl avi up lo il brr bcc
        have hco : fX10_carryOut aLR aLC anr anc anl asu asl asi anu avu avl avi qu ql qi 0 (-1) 5 (nI r) second (nI p) lowers' (upd uppers 0 up2) sk sb sbr sbc slr slc sB1 sB2 sfu sfw sfi sfl sgr sgc sgl ssu ssl ssi sgu spc spr swt (nI R) (nI C) tl tu = fX10_carryOut_210 qu ql qi 0 (-1) (nI p) (nI R) (nI C) tl tu u.1 u.2.1 u.2.2.1 u.2.2.2.1 u.2.2.2.2.1 u.2.2.2.2.2.1 asu asl asi u.2.2.2.2.2.2.1 u.2.2.2.2.2.2.2.1 u.2.2.2.2.2.2.2.2.1 u.2.2.2.2.2.2.2.2.2 sk sb sbr sbc slr slc sB1 sB2 sfu sfw sfi sfl sgr sgc sgl ssu ssl ssi sgu spc spr swt := by
          unfold fX10_carryOut
          rw [upR0, loR0]
          simp only [obs, show ((5 : Int32) = 2) = False from by decide, show ((5 : Int32) = 3) = False from by decide, show ((5 : Int32) = 4) = False from by decide, show ((5 : Int32) = 5) = True from by decide, show ((5 : Int32) = 6) = False from by decide, show ((5 : Int32) = 7) = False from by decide, ↓reduceIte]
          rw [pk_us, g2, t1]
          simp only [obs, ltp]
        rw [t2] at cA
        simp only [obs] at cA
        by_cases hx : u.1 = 0
        · right
          obtain ⟨x1, x2, hGx⟩ := t5 hx
          rw [hx] at hco
          obtain ⟨u9, L', U', o1, o2, o3, o4, o5, o6, o7, o8, hcc⟩ := co_yes qu ql qi 0 (-1) (nI p) (nI R) (nI C) tl tu u.2.1 u.2.2.1 u.2.2.2.1 u.2.2.2.2.1 u.2.2.2.2.2.1 asu asl asi u.2.2.2.2.2.2.1 u.2.2.2.2.2.2.2.1 u.2.2.2.2.2.2.2.2.1 u.2.2.2.2.2.2.2.2.2 sk sb sbr sbc slr slc sB1 sB2 sfu sfw sfi sfl sgr sgc sgl ssu ssl ssi sgu spc spr swt
          obtain ⟨all9, m1, m2, m3⟩ := l102_good (tl9 := L') (tu9 := U') hR1 hR6 hC1 hC6 hm cA (t3.trans hx) rfl rfl (eqG_copy hR6 hC6 hGx hcc) (pl0 := nI p)
          exact ⟨p5, n5, ty5, va5, va5', L', U', all9, by omega, k2, m1, m2, ⟨_, _, u9, rfl, one0, q1, one0, ⟨rfl, rfl, rfl, rfl⟩, hco.trans o1, o2, ⟨o3, o4, o5.trans x1, o6.trans x2, o7, o8⟩⟩, m3⟩
        · left
          obtain ⟨u9, o1, o2, o3, o4⟩ := co_no qu ql qi 0 (-1) (nI p) (nI R) (nI C) tl tu u.2.1 u.2.2.1 u.2.2.2.1 u.2.2.2.2.1 u.2.2.2.2.2.1 asu asl asi u.2.2.2.2.2.2.1 u.2.2.2.2.2.2.2.1 u.2.2.2.2.2.2.2.2.1 u.2.2.2.2.2.2.2.2.2 sk sb sbr sbc slr slc sB1 sB2 sfu sfw sfi sfl sgr sgc sgl ssu ssl ssi sgu spc spr swt hx
          refine ⟨3, nI p, Or.inr (Or.inr rfl), ⟨_, rfl, Or.inr ⟨one0, _, q1, Or.inr ⟨one0, u9, hco.trans o1, o2, o3, o4⟩⟩⟩, ?_⟩
          exact l102_ref cA (by rw [t3]; exact t4) (by rw [t3]; exact hx) rfl
theorem line_add (h : TP len B tape) {p n : Nat} {va : Int32} {va' : Int64} (hT : TokR len B p n 1 va va') (hpn : p < n) (hw : fX5_wordAhead (nI p) (nI n) (nI len) B = some 6) (hv : va' = 841) (hR1 : 1 ≤ R) (hR6 : R ≤ 6) (hC1 : 1 ≤ C) (hC6 : C ≤ 6) (hm : matAt (nI R) (nI C) tl tu all 89) : (∃ f g, badF f ∧ clsBad (fX4_readLine (nI R) (nI C) 0 (-1) word first second number lowers 1 (nI p) va (nI n) (nI len) B uppers) (fun u7 => fX4_readStop u7.2.1 u7.2.2.1 u7.2.2.2.2.2.2.2.2.2.1 u7.2.2.2.2.2.2.2.2.2.2.1 u7.2.2.2.2.2.2.2.2.2.2.2.1 u7.2.2.2.2.2.2.2.2.2.2.2.2.1 (nI len) B) (fun u7 u8 => fX10_carryOut aLR aLC anr anc anl asu asl asi anu avu avl avi qu ql qi u8.2.1 u8.2.2.1 u7.2.2.2.1 u7.2.2.2.2.1 u7.2.2.2.2.2.1 u7.2.2.2.2.2.2.1 u7.2.2.2.2.2.2.2.2.1 u7.2.2.2.2.2.2.2.2.2.2.2.2.2 sk sb sbr sbc slr slc sB1 sB2 sfu sfw sfi sfl sgr sgc sgl ssu ssl ssi sgu spc spr swt (nI R) (nI C) tl tu) f g ∧ refBad (fX11_readsLine 0 (-1) up lo il rk brr bcc fd (nI len) (nI n) 1 (nI p) va' tU tL all cl cu lc lr pC pF pR pW tape) f g all) ∨
    (∃ p9 n9 ty9 va9 va9' tl9 tu9 all9, p < p9 ∧ TokR len B p9 n9 ty9 va9 va9' ∧ matAt (nI R) (nI C) tl9 tu9 all9 89 ∧ (∀ j, ¬ (89 ≤ j ∧ j < 175) → all9 j = all j) ∧ clsGood (fX4_readLine (nI R) (nI C) 0 (-1) word first second number lowers 1 (nI p) va (nI n) (nI len) B uppers) (fun u7 => fX4_readStop u7.2.1 u7.2.2.1 u7.2.2.2.2.2.2.2.2.2.1 u7.2.2.2.2.2.2.2.2.2.2.1 u7.2.2.2.2.2.2.2.2.2.2.2.1 u7.2.2.2.2.2.2.2.2.2.2.2.2.1 (nI len) B) (fun u7 u8 => fX10_carryOut aLR aLC anr anc anl asu asl asi anu avu avl avi qu ql qi u8.2.1 u8.2.2.1 u7.2.2.2.1 u7.2.2.2.2.1 u7.2.2.2.2.2.1 u7.2.2.2.2.2.2.1 u7.2.2.2.2.2.2.2.2.1 u7.2.2.2.2.2.2.2.2.2.2.2.2.2 sk sb sbr sbc slr slc sB1 sB2 sfu sfw sfi sfl sgr sgc sgl ssu ssl ssi sgu spc spr swt (nI R) (nI C) tl tu) ty9 (nI p9) va9 (nI n9) (nI R) (nI C) tl9 tu9 ∧ refGood (fX11_readsLine 0 (-1) up lo il rk brr bcc fd (nI len) (nI n) 1 (nI p) va' tU tL all cl cu lc lr pC pF pR pW tape) (nI n9) ty9 (nI p9) va9' all9) := by
  obtain ⟨cl1, cu1, hb, hG⟩ := mat_begin (b := 89) (by omega) hR6 hC6 rfl rfl hm cl cu
  rw [show nI 89 = 89 from rfl] at hb
  obtain ⟨p2, n2, ty2, va2, va2', a1, a2, a3, a4⟩ := adv_ok h hT.2.1
  subst hv
  have eR : nI R - 1 = nI (R - 1) := pk_sub (a := R) (b := 1) hR1
  have htw : fX4_takeWord 0 (-1) word 1 (nI p) va (nI n) (nI len) B = some (1, 0, -1, 6, nI p, ty2, nI p2, va2, nI n2) := by
    unfold fX4_takeWord
    rw [if_pos rfl, hw]
    simp only [obs]
    rw [a3]
    simp only [obs]
  unfold fX4_readLine fX11_readsLine fX11_readsLine_21
  rw [htw, hb]
  simp only [obs, if_neg one0, show ((6 : Int32) = 2) = False from by decide, show ((6 : Int32) = 3) = False from by decide, show ((6 : Int32) = 4) = False from by decide, show ((6 : Int32) = 5) = False from by decide, show ((6 : Int32) = 6) = True from by decide, show ((6 : Int32) = 7) = False from by decide, ↓reduceIte]
  rw [hasWord_no (by decide)]
  simp only [obs, ↓reduceIte]
  rw [hasWord_no (by decide)]
  simp only [obs, ↓reduceIte]
  rw [hasWord_no (by decide)]
  simp only [obs, ↓reduceIte]
  rw [hasWord_no (by decide)]
  simp only [obs, ↓reduceIte]
  rw [hasWord_yes a4]
  simp only [obs, if_neg one0]
  have cA : fX11_readsAct 841 0 (-1) up lo il (nI R) (nI C) rk brr bcc 0 fd 89 (nI len) (nI n2) ty2 (nI p2) va2' tU tL all cl1 cu1 lc lr pC pF pR pW tape = (fX11_numeral 0 (nI R - 1) 0 (-1) (nI len) (nI n2) ty2 (nI p2) va2' tape).bind fun u_1 => fX11_readsAct_28 841 up lo il (nI R) (nI C) rk brr bcc 0 fd 89 (nI len) tU tL all cl1 cu1 lc lr pC pF pR pW tape u_1.1 u_1.2.1 u_1.2.2.1 u_1.2.2.2.1 u_1.2.2.2.2.1 u_1.2.2.2.2.2.1 u_1.2.2.2.2.2.2 := by
    unfold fX11_readsAct
    simp only [show (lg_cmp (841 : Int64) 261031658 = 0) = False from by decide, show (lg_cmp (841 : Int64) 390787 = 0) = False from by decide, show (lg_cmp (841 : Int64) 841 = 0) = True from by decide, show (lg_cmp (841 : Int64) 10157486 = 0) = False from by decide, ↓reduceIte]
  rcases num_ok h a2 (a := 0) (b := R - 1) (by omega) (by omega) number with ⟨f, num', hf, r1, r2⟩ | ⟨r, p3, n3, ty3, va3, va3', v1, v2, v3, v4, r1, r2⟩
  · rw [show nI 0 = 0 from rfl, ← eR] at r1 r2
    left
    refine ⟨f, nI p2, hf, ?_, ?_⟩
    · rw [first_of r1 (Or.inl rfl)]
      simp only [obs, ↓reduceIte]
      exact ⟨_, rfl, Or.inl ⟨rfl, rfl, rfl⟩⟩
    · rw [r2, obs] at cA
      obtain ⟨u5, hu, h0, h1, h2⟩ := act28_bad hf (p1 := 841) (up := up) (lo := lo) (il := il) (rows := nI R) (cols := nI C) (rk := rk) (brr := brr) (bcc := bcc) (isB := 0) (fd := fd) (fr := 89) (s := nI len) (all := all) (cl := cl1) (cu := cu1) (lc := lc) (lr := lr) (pC := pC) (pF := pF) (pR := pR) (pW := pW) (tape := tape) (tU := tU) (tL := tL) (st := 0) (g := nI p2) (nx := nI n2) (to := ty2) (pl := nI p2) (va := va2')
      exact l102_bad (cA.trans hu) h0 h1 h2 hf
  · rw [show nI 0 = 0 from rfl, ← eR] at r1 r2
    rw [r2] at cA
    simp only [obs] at cA
    unfold fX11_readsAct_28 fX11_readsAct_45 at cA
    simp only [show (lg_cmp (841 : Int64) 261031658 = 0) = False from by decide, show (lg_cmp (841 : Int64) 390787 = 0) = False from by decide, show (lg_cmp (841 : Int64) 841 = 0) = True from by decide, show (lg_cmp (841 : Int64) 10157486 = 0) = False from by decide, ↓reduceIte] at cA
    rw [first_of r1 (Or.inr rfl)]
    simp only [obs, if_neg one0]
    rcases num_ok h v4 (a := 0) (b := R - 1) (by omega) (by omega) (nI r) with ⟨f, num', hf, s1, s2⟩ | ⟨s, p4, n4, ty4, va4, va4', w1, w2, w3, w4, s1, s2⟩
    · rw [show nI 0 = 0 from rfl, ← eR] at s1 s2
      left
      refine ⟨f, nI p3, hf, ?_, ?_⟩
      · rw [second_of s1 (Or.inl rfl)]
        simp only [obs, ↓reduceIte]
        exact ⟨_, rfl, Or.inl ⟨rfl, rfl, rfl⟩⟩
      · rw [s2] at cA
        simp only [obs] at cA
        obtain ⟨u5, hu, h0, h1, h2⟩ := act60_bad hf (p1 := 841) (up := up) (lo := lo) (il := il) (rows := nI R) (cols := nI C) (rk := rk) (brr := brr) (bcc := bcc) (isB := 0) (fd := fd) (fr := 89) (s := nI len) (all := all) (cl := cl1) (cu := cu1) (lc := lc) (lr := lr) (pC := pC) (pF := pF) (pR := pR) (pW := pW) (tape := tape) (tU := tU) (tL := tL) (v3 := nI r) (st := 0) (g := nI p3) (nx := nI n3) (to := ty3) (pl := nI p3) (va := va3')
        exact l102_bad (cA.trans hu) h0 h1 h2 hf
    · rw [show nI 0 = 0 from rfl, ← eR] at s1 s2
      rw [s2] at cA
      simp only [obs] at cA
      unfold fX11_readsAct_60 at cA
      simp only [show (lg_cmp (841 : Int64) 261031658 = 0) = False from by decide, show (lg_cmp (841 : Int64) 390787 = 0) = False from by decide, show (lg_cmp (841 : Int64) 841 = 0) = True from by decide, show (lg_cmp (841 : Int64) 10157486 = 0) = False from by decide, ↓reduceIte] at cA
      rw [second_of s1 (Or.inr rfl)]
      simp only [obs, if_neg one0]
      rcases onefrac_ok h w4 (nI s) lowers uppers with ⟨f, g, u0, up2, lo2, nx, to, pl, vv, hf, g1, g2, g3, g4, g5, g6⟩ | ⟨up2, lo2, num', lowers', p6, n6, ty6, va6, va6', g1, g2, g3, g4, g5, g6⟩
      · left
        refine ⟨f, g, hf, ?_, ?_⟩
        · rw [g2]
          simp only [obs]
          rw [if_pos g3]
          exact ⟨_, rfl, Or.inl ⟨rfl, g4, g5⟩⟩
        · rw [g6] at cA
          simp only [obs] at cA
          obtain ⟨u5, hu, h0, h1, h2⟩ := act82_bad hf (p1 := 841) (up := up) (lo := lo) (il := il) (rows := nI R) (cols := nI C) (rk := rk) (brr := brr) (bcc := bcc) (isB := 0) (fd := fd) (fr := 89) (s := nI len) (all := all) (cl := cl1) (cu := cu1) (lc := lc) (lr := lr) (pC := pC) (pF := pF) (pR := pR) (pW := pW) (tape := tape) (v3 := nI r) (v4 := nI s) (g := g) (nx := nx) (to := to) (pl := pl) (va := vv) (tU := up2) (tL := lo2)
          exact l102_bad (cA.trans hu) h0 h1 h2 hf
      · rw [g6] at cA
        simp only [obs] at cA
        unfold fX11_readsAct_82 at cA
        simp only [show (lg_cmp (841 : Int64) 261031658 = 0) = False from by decide, show (lg_cmp (841 : Int64) 390787 = 0) = False from by decide, show (lg_cmp (841 : Int64) 841 = 0) = True from by decide, show (lg_cmp (841 : Int64) 10157486 = 0) = False from by decide, ↓reduceIte] at cA
        rw [g5]
        simp only [obs, if_neg one0]
        rcases stop_ok h g4 with ⟨q1, q2⟩ | ⟨p5, n5, ty5, va5, va5', k1, k2, q1, q2⟩
        · left
          rw [q2] at cA
          simp only [obs, goodN (f := 1) (by decide), ↓reduceIte] at cA
          refine ⟨1, nI p6, Or.inl rfl, ⟨_, rfl, Or.inr ⟨one0, _, q1, Or.inl ⟨rfl, rfl, rfl⟩⟩⟩, ?_⟩
          exact l102_bad cA rfl rfl rfl (Or.inl rfl)
        · rw [q2] at cA
          simp only [obs, good0, if_neg one0] at cA
          obtain ⟨u, v, t1, t2, t3, t4, t5, t6⟩ := addRow_ok hR1 hR6 hC6 hG (nI r) (nI s) up2 lo2 aLR aLC anr anc anl asu asl asi anu avu avl avi up lo il brr bcc fd
          have hco : fX10_carryOut aLR aLC anr anc anl asu asl asi anu avu avl avi qu ql qi 0 (-1) 6 (nI r) (nI s) (nI p) lowers' (upd uppers 0 up2) sk sb sbr sbc slr slc sB1 sB2 sfu sfw sfi sfl sgr sgc sgl ssu ssl ssi sgu spc spr swt (nI R) (nI C) tl tu = fX10_carryOut_210 qu ql qi 0 (-1) (nI p) (nI R) (nI C) tl tu u.1 u.2.1 u.2.2.1 u.2.2.2.1 u.2.2.2.2.1 u.2.2.2.2.2.1 u.2.2.2.2.2.2.1 u.2.2.2.2.2.2.2.1 u.2.2.2.2.2.2.2.2.1 u.2.2.2.2.2.2.2.2.2.1 u.2.2.2.2.2.2.2.2.2.2.1 u.2.2.2.2.2.2.2.2.2.2.2.1 u.2.2.2.2.2.2.2.2.2.2.2.2 sk sb sbr sbc slr slc sB1 sB2 sfu sfw sfi sfl sgr sgc sgl ssu ssl ssi sgu spc spr swt := by
            unfold fX10_carryOut
            rw [upR0, loR0]
            simp only [obs, show ((6 : Int32) = 2) = False from by decide, show ((6 : Int32) = 3) = False from by decide, show ((6 : Int32) = 4) = False from by decide, show ((6 : Int32) = 5) = False from by decide, show ((6 : Int32) = 6) = True from by decide, show ((6 : Int32) = 7) = False from by decide, ↓reduceIte]
            rw [pk_us, g2, t1]
            simp only [obs, ltp]
          rw [t2] at cA
          simp only [obs] at cA
          by_cases hx : u.1 = 0
          · right
            obtain ⟨x1, x2, hGx⟩ := t5 hx
            rw [hx] at hco
            obtain ⟨u9, L', U', o1, o2, o3, o4, o5, o6, o7, o8, hcc⟩ := co_yes qu ql qi 0 (-1) (nI p) (nI R) (nI C) tl tu u.2.1 u.2.2.1 u.2.2.2.1 u.2.2.2.2.1 u.2.2.2.2.2.1 u.2.2.2.2.2.2.1 u.2.2.2.2.2.2.2.1 u.2.2.2.2.2.2.2.2.1 u.2.2.2.2.2.2.2.2.2.1 u.2.2.2.2.2.2.2.2.2.2.1 u.2.2.2.2.2.2.2.2.2.2.2.1 u.2.2.2.2.2.2.2.2.2.2.2.2 sk sb sbr sbc slr slc sB1 sB2 sfu sfw sfi sfl sgr sgc sgl ssu ssl ssi sgu spc spr swt
            obtain ⟨all9, m1, m2, m3⟩ := l102_good (tl9 := L') (tu9 := U') hR1 hR6 hC1 hC6 hm cA (t3.trans hx) rfl rfl (eqG_copy hR6 hC6 hGx hcc) (pl0 := nI p)
            exact ⟨p5, n5, ty5, va5, va5', L', U', all9, by omega, k2, m1, m2, ⟨_, _, u9, rfl, one0, q1, one0, ⟨rfl, rfl, rfl, rfl⟩, hco.trans o1, o2, ⟨o3, o4, o5.trans x1, o6.trans x2, o7, o8⟩⟩, m3⟩
          · left
            obtain ⟨u9, o1, o2, o3, o4⟩ := co_no qu ql qi 0 (-1) (nI p) (nI R) (nI C) tl tu u.2.1 u.2.2.1 u.2.2.2.1 u.2.2.2.2.1 u.2.2.2.2.2.1 u.2.2.2.2.2.2.1 u.2.2.2.2.2.2.2.1 u.2.2.2.2.2.2.2.2.1 u.2.2.2.2.2.2.2.2.2.1 u.2.2.2.2.2.2.2.2.2.2.1 u.2.2.2.2.2.2.2.2.2.2.2.1 u.2.2.2.2.2.2.2.2.2.2.2.2 sk sb sbr sbc slr slc sB1 sB2 sfu sfw sfi sfl sgr sgc sgl ssu ssl ssi sgu spc spr swt hx
            refine ⟨3, nI p, Or.inr (Or.inr rfl), ⟨_, rfl, Or.inr ⟨one0, _, q1, Or.inr ⟨one0, u9, hco.trans o1, o2, o3, o4⟩⟩⟩, ?_⟩
            exact l102_ref cA (by rw [t3]; exact t4) (by rw [t3]; exact hx) rfl
theorem line_reduce (h : TP len B tape) {p n : Nat} {va : Int32} {va' : Int64} (hT : TokR len B p n 1 va va') (hpn : p < n) (hw : fX5_wordAhead (nI p) (nI n) (nI len) B = some 7) (hv : va' = 261031658) (hR1 : 1 ≤ R) (hR6 : R ≤ 6) (hC1 : 1 ≤ C) (hC6 : C ≤ 6) (hm : matAt (nI R) (nI C) tl tu all 89) : (∃ f g, badF f ∧ clsBad (fX4_readLine (nI R) (nI C) 0 (-1) word first second number lowers 1 (nI p) va (nI n) (nI len) B uppers) (fun u7 => fX4_readStop u7.2.1 u7.2.2.1 u7.2.2.2.2.2.2.2.2.2.1 u7.2.2.2.2.2.2.2.2.2.2.1 u7.2.2.2.2.2.2.2.2.2.2.2.1 u7.2.2.2.2.2.2.2.2.2.2.2.2.1 (nI len) B) (fun u7 u8 => fX10_carryOut aLR aLC anr anc anl asu asl asi anu avu avl avi qu ql qi u8.2.1 u8.2.2.1 u7.2.2.2.1 u7.2.2.2.2.1 u7.2.2.2.2.2.1 u7.2.2.2.2.2.2.1 u7.2.2.2.2.2.2.2.2.1 u7.2.2.2.2.2.2.2.2.2.2.2.2.2 sk sb sbr sbc slr slc sB1 sB2 sfu sfw sfi sfl sgr sgc sgl ssu ssl ssi sgu spc spr swt (nI R) (nI C) tl tu) f g ∧ refBad (fX11_readsLine 0 (-1) up lo il rk brr bcc fd (nI len) (nI n) 1 (nI p) va' tU tL all cl cu lc lr pC pF pR pW tape) f g all) ∨
    (∃ p9 n9 ty9 va9 va9' tl9 tu9 all9, p < p9 ∧ TokR len B p9 n9 ty9 va9 va9' ∧ matAt (nI R) (nI C) tl9 tu9 all9 89 ∧ (∀ j, ¬ (89 ≤ j ∧ j < 175) → all9 j = all j) ∧ clsGood (fX4_readLine (nI R) (nI C) 0 (-1) word first second number lowers 1 (nI p) va (nI n) (nI len) B uppers) (fun u7 => fX4_readStop u7.2.1 u7.2.2.1 u7.2.2.2.2.2.2.2.2.2.1 u7.2.2.2.2.2.2.2.2.2.2.1 u7.2.2.2.2.2.2.2.2.2.2.2.1 u7.2.2.2.2.2.2.2.2.2.2.2.2.1 (nI len) B) (fun u7 u8 => fX10_carryOut aLR aLC anr anc anl asu asl asi anu avu avl avi qu ql qi u8.2.1 u8.2.2.1 u7.2.2.2.1 u7.2.2.2.2.1 u7.2.2.2.2.2.1 u7.2.2.2.2.2.2.1 u7.2.2.2.2.2.2.2.2.1 u7.2.2.2.2.2.2.2.2.2.2.2.2.2 sk sb sbr sbc slr slc sB1 sB2 sfu sfw sfi sfl sgr sgc sgl ssu ssl ssi sgu spc spr swt (nI R) (nI C) tl tu) ty9 (nI p9) va9 (nI n9) (nI R) (nI C) tl9 tu9 ∧ refGood (fX11_readsLine 0 (-1) up lo il rk brr bcc fd (nI len) (nI n) 1 (nI p) va' tU tL all cl cu lc lr pC pF pR pW tape) (nI n9) ty9 (nI p9) va9' all9) := by
  obtain ⟨cl1, cu1, hb, hG⟩ := mat_begin (b := 89) (by omega) hR6 hC6 rfl rfl hm cl cu
  rw [show nI 89 = 89 from rfl] at hb
  obtain ⟨p2, n2, ty2, va2, va2', a1, a2, a3, a4⟩ := adv_ok h hT.2.1
  subst hv
  have eR : nI R - 1 = nI (R - 1) := pk_sub (a := R) (b := 1) hR1
  have htw : fX4_takeWord 0 (-1) word 1 (nI p) va (nI n) (nI len) B = some (1, 0, -1, 7, nI p, ty2, nI p2, va2, nI n2) := by
    unfold fX4_takeWord
    rw [if_pos rfl, hw]
    simp only [obs]
    rw [a3]
    simp only [obs]
  unfold fX4_readLine fX11_readsLine fX11_readsLine_21
  rw [htw, hb]
  simp only [obs, if_neg one0, show ((7 : Int32) = 2) = False from by decide, show ((7 : Int32) = 3) = False from by decide, show ((7 : Int32) = 4) = False from by decide, show ((7 : Int32) = 5) = False from by decide, show ((7 : Int32) = 6) = False from by decide, show ((7 : Int32) = 7) = True from by decide, ↓reduceIte]
  rw [hasWord_no (by decide)]
  simp only [obs, ↓reduceIte]
  rw [hasWord_no (by decide)]
  simp only [obs, ↓reduceIte]
  rw [hasWord_no (by decide)]
  simp only [obs, ↓reduceIte]
  rw [hasWord_no (by decide)]
  simp only [obs, ↓reduceIte]
  rw [hasWord_no (by decide)]
  simp only [obs, ↓reduceIte]
  rw [hasWord_yes a4]
  simp only [obs, if_neg one0]
  have cA : fX11_readsAct 261031658 0 (-1) up lo il (nI R) (nI C) rk brr bcc 0 fd 89 (nI len) (nI n2) ty2 (nI p2) va2' tU tL all cl1 cu1 lc lr pC pF pR pW tape = (fX11_numeral 0 2 0 (-1) (nI len) (nI n2) ty2 (nI p2) va2' tape).bind fun u_1 => fX11_readsAct_28 261031658 up lo il (nI R) (nI C) rk brr bcc 0 fd 89 (nI len) tU tL all cl1 cu1 lc lr pC pF pR pW tape u_1.1 u_1.2.1 u_1.2.2.1 u_1.2.2.2.1 u_1.2.2.2.2.1 u_1.2.2.2.2.2.1 u_1.2.2.2.2.2.2 := by
    unfold fX11_readsAct
    simp only [show (lg_cmp (261031658 : Int64) 261031658 = 0) = True from by decide, show (lg_cmp (261031658 : Int64) 390787 = 0) = False from by decide, show (lg_cmp (261031658 : Int64) 841 = 0) = False from by decide, show (lg_cmp (261031658 : Int64) 10157486 = 0) = False from by decide, ↓reduceIte]
  rcases num_ok h a2 (a := 0) (b := 2) (by omega) (by omega) number with ⟨f, num', hf, r1, r2⟩ | ⟨r, p3, n3, ty3, va3, va3', v1, v2, v3, v4, r1, r2⟩
  · rw [show nI 0 = 0 from rfl, show nI 2 = 2 from rfl] at r1 r2
    left
    refine ⟨f, nI p2, hf, ?_, ?_⟩
    · rw [first_of r1 (Or.inl rfl)]
      simp only [obs, tv0]
      exact ⟨_, rfl, Or.inl ⟨rfl, rfl, rfl⟩⟩
    · rw [r2, obs] at cA
      obtain ⟨u5, hu, h0, h1, h2⟩ := act28_bad hf (p1 := 261031658) (up := up) (lo := lo) (il := il) (rows := nI R) (cols := nI C) (rk := rk) (brr := brr) (bcc := bcc) (isB := 0) (fd := fd) (fr := 89) (s := nI len) (all := all) (cl := cl1) (cu := cu1) (lc := lc) (lr := lr) (pC := pC) (pF := pF) (pR := pR) (pW := pW) (tape := tape) (tU := tU) (tL := tL) (st := 0) (g := nI p2) (nx := nI n2) (to := ty2) (pl := nI p2) (va := va2')
      exact l102_bad (cA.trans hu) h0 h1 h2 hf
  · rw [show nI 0 = 0 from rfl, show nI 2 = 2 from rfl] at r1 r2
    rw [r2] at cA
    simp only [obs] at cA
    unfold fX11_readsAct_28 fX11_readsAct_45 at cA
    simp only [show (lg_cmp (261031658 : Int64) 261031658 = 0) = True from by decide, show (lg_cmp (261031658 : Int64) 390787 = 0) = False from by decide, show (lg_cmp (261031658 : Int64) 841 = 0) = False from by decide, show (lg_cmp (261031658 : Int64) 10157486 = 0) = False from by decide, ↓reduceIte] at cA
    rw [first_of r1 (Or.inr rfl)]
    simp only [obs, tv1]
    unfold fX11_readsAct_60 fX11_readsAct_82 at cA
    simp only [show (lg_cmp (261031658 : Int64) 261031658 = 0) = True from by decide, show (lg_cmp (261031658 : Int64) 390787 = 0) = False from by decide, show (lg_cmp (261031658 : Int64) 841 = 0) = False from by decide, show (lg_cmp (261031658 : Int64) 10157486 = 0) = False from by decide, ↓reduceIte] at cA
    rcases stop_ok h v4 with ⟨q1, q2⟩ | ⟨p5, n5, ty5, va5, va5', k1, k2, q1, q2⟩
    · left
      rw [q2] at cA
      simp only [obs, goodN (f := 1) (by decide), ↓reduceIte] at cA
      refine ⟨1, nI p3, Or.inl rfl, ⟨_, rfl, Or.inr ⟨one0, _, q1, Or.inl ⟨rfl, rfl, rfl⟩⟩⟩, ?_⟩
      exact l102_bad cA rfl rfl rfl (Or.inl rfl)
    · rw [q2] at cA
      simp only [obs, good0, if_neg one0] at cA
      obtain ⟨s, u, v, t0, t1, t2, t3, t4, t5, t6⟩ := swept_ok (j := r) (by omega) hR6 hC6 (b := 89) (by omega) hG (mat_all hR6 hC6 hm rfl rfl) sbr sbc sB1 sB2 sfu sfw sfi sfl sgl ssu ssl ssi sgu spc spr swt aLR aLC anr anc anl asu asl asi anu up lo il rk brr bcc 0 fd lc lr pC pF pR pW
      rw [show nI 89 = 89 from rfl] at t2
      have hco : fX10_carryOut aLR aLC anr anc anl asu asl asi anu avu avl avi qu ql qi 0 (-1) 7 (nI r) second (nI p) lowers uppers sk sb sbr sbc slr slc sB1 sB2 sfu sfw sfi sfl sgr sgc sgl ssu ssl ssi sgu spc spr swt (nI R) (nI C) tl tu = fX10_carryOut_210 qu ql qi 0 (-1) (nI p) (nI R) (nI C) tl tu u.1 u.2.1 u.2.2.1 u.2.2.2.1 u.2.2.2.2.1 u.2.2.2.2.2.1 u.2.2.2.2.2.2.1 u.2.2.2.2.2.2.2.1 u.2.2.2.2.2.2.2.2.1 u.2.2.2.2.2.2.2.2.2 avu avl avi s.1 s.2.1 s.2.2.1 s.2.2.2.1 s.2.2.2.2.1 s.2.2.2.2.2.1 s.2.2.2.2.2.2.1 s.2.2.2.2.2.2.2.1 s.2.2.2.2.2.2.2.2.1 s.2.2.2.2.2.2.2.2.2.1 s.2.2.2.2.2.2.2.2.2.2.1 s.2.2.2.2.2.2.2.2.2.2.2.1 s.2.2.2.2.2.2.2.2.2.2.2.2.1 s.2.2.2.2.2.2.2.2.2.2.2.2.2.1 s.2.2.2.2.2.2.2.2.2.2.2.2.2.2.1 s.2.2.2.2.2.2.2.2.2.2.2.2.2.2.2.1 s.2.2.2.2.2.2.2.2.2.2.2.2.2.2.2.2.1 s.2.2.2.2.2.2.2.2.2.2.2.2.2.2.2.2.2.1 s.2.2.2.2.2.2.2.2.2.2.2.2.2.2.2.2.2.2.1 s.2.2.2.2.2.2.2.2.2.2.2.2.2.2.2.2.2.2.2.1 s.2.2.2.2.2.2.2.2.2.2.2.2.2.2.2.2.2.2.2.2.1 s.2.2.2.2.2.2.2.2.2.2.2.2.2.2.2.2.2.2.2.2.2 := by
        unfold fX10_carryOut
        rw [upR0, loR0]
        simp only [obs, show ((7 : Int32) = 2) = False from by decide, show ((7 : Int32) = 3) = False from by decide, show ((7 : Int32) = 4) = False from by decide, show ((7 : Int32) = 5) = False from by decide, show ((7 : Int32) = 6) = False from by decide, show ((7 : Int32) = 7) = True from by decide, ↓reduceIte]
        rw [t0]
        simp only [obs]
        rw [t1]
        simp only [obs, ltp]
      rw [t2] at cA
      simp only [obs] at cA
      by_cases hx : u.1 = 0
      · right
        obtain ⟨x1, x2, hGx⟩ := t5 hx
        rw [hx] at hco
        obtain ⟨u9, L', U', o1, o2, o3, o4, o5, o6, o7, o8, hcc⟩ := co_yes qu ql qi 0 (-1) (nI p) (nI R) (nI C) tl tu u.2.1 u.2.2.1 u.2.2.2.1 u.2.2.2.2.1 u.2.2.2.2.2.1 u.2.2.2.2.2.2.1 u.2.2.2.2.2.2.2.1 u.2.2.2.2.2.2.2.2.1 u.2.2.2.2.2.2.2.2.2 avu avl avi s.1 s.2.1 s.2.2.1 s.2.2.2.1 s.2.2.2.2.1 s.2.2.2.2.2.1 s.2.2.2.2.2.2.1 s.2.2.2.2.2.2.2.1 s.2.2.2.2.2.2.2.2.1 s.2.2.2.2.2.2.2.2.2.1 s.2.2.2.2.2.2.2.2.2.2.1 s.2.2.2.2.2.2.2.2.2.2.2.1 s.2.2.2.2.2.2.2.2.2.2.2.2.1 s.2.2.2.2.2.2.2.2.2.2.2.2.2.1 s.2.2.2.2.2.2.2.2.2.2.2.2.2.2.1 s.2.2.2.2.2.2.2.2.2.2.2.2.2.2.2.1 s.2.2.2.2.2.2.2.2.2.2.2.2.2.2.2.2.1 s.2.2.2.2.2.2.2.2.2.2.2.2.2.2.2.2.2.1 s.2.2.2.2.2.2.2.2.2.2.2.2.2.2.2.2.2.2.1 s.2.2.2.2.2.2.2.2.2.2.2.2.2.2.2.2.2.2.2.1 s.2.2.2.2.2.2.2.2.2.2.2.2.2.2.2.2.2.2.2.2.1 s.2.2.2.2.2.2.2.2.2.2.2.2.2.2.2.2.2.2.2.2.2
        obtain ⟨all9, m1, m2, m3⟩ := l102_good (tl9 := L') (tu9 := U') hR1 hR6 hC1 hC6 hm cA (t3.trans hx) rfl rfl (eqG_copy hR6 hC6 hGx hcc) (pl0 := nI p)
        exact ⟨p5, n5, ty5, va5, va5', L', U', all9, by omega, k2, m1, m2, ⟨_, _, u9, rfl, one0, q1, one0, ⟨rfl, rfl, rfl, rfl⟩, hco.trans o1, o2, ⟨o3, o4, o5.trans x1, o6.trans x2, o7, o8⟩⟩, m3⟩
      · left
        obtain ⟨u9, o1, o2, o3, o4⟩ := co_no qu ql qi 0 (-1) (nI p) (nI R) (nI C) tl tu u.2.1 u.2.2.1 u.2.2.2.1 u.2.2.2.2.1 u.2.2.2.2.2.1 u.2.2.2.2.2.2.1 u.2.2.2.2.2.2.2.1 u.2.2.2.2.2.2.2.2.1 u.2.2.2.2.2.2.2.2.2 avu avl avi s.1 s.2.1 s.2.2.1 s.2.2.2.1 s.2.2.2.2.1 s.2.2.2.2.2.1 s.2.2.2.2.2.2.1 s.2.2.2.2.2.2.2.1 s.2.2.2.2.2.2.2.2.1 s.2.2.2.2.2.2.2.2.2.1 s.2.2.2.2.2.2.2.2.2.2.1 s.2.2.2.2.2.2.2.2.2.2.2.1 s.2.2.2.2.2.2.2.2.2.2.2.2.1 s.2.2.2.2.2.2.2.2.2.2.2.2.2.1 s.2.2.2.2.2.2.2.2.2.2.2.2.2.2.1 s.2.2.2.2.2.2.2.2.2.2.2.2.2.2.2.1 s.2.2.2.2.2.2.2.2.2.2.2.2.2.2.2.2.1 s.2.2.2.2.2.2.2.2.2.2.2.2.2.2.2.2.2.1 s.2.2.2.2.2.2.2.2.2.2.2.2.2.2.2.2.2.2.1 s.2.2.2.2.2.2.2.2.2.2.2.2.2.2.2.2.2.2.2.1 s.2.2.2.2.2.2.2.2.2.2.2.2.2.2.2.2.2.2.2.2.1 s.2.2.2.2.2.2.2.2.2.2.2.2.2.2.2.2.2.2.2.2.2 hx
        refine ⟨3, nI p, Or.inr (Or.inr rfl), ⟨_, rfl, Or.inr ⟨one0, _, q1, Or.inr ⟨one0, u9, hco.trans o1, o2, o3, o4⟩⟩⟩, ?_⟩
        exact l102_ref cA (by rw [t3]; exact t4) (by rw [t3]; exact hx) rfl
theorem line_set (h : TP len B tape) {p n : Nat} {va : Int32} {va' : Int64} (hT : TokR len B p n 1 va va') (hpn : p < n) (hw : fX5_wordAhead (nI p) (nI n) (nI len) B = some 3) (hv : va' = 14006) (hR1 : 1 ≤ R) (hR6 : R ≤ 6) (hC1 : 1 ≤ C) (hC6 : C ≤ 6) (hm : matAt (nI R) (nI C) tl tu all 89) : (∃ f g, badF f ∧ clsBad (fX4_readLine (nI R) (nI C) 0 (-1) word first second number lowers 1 (nI p) va (nI n) (nI len) B uppers) (fun u7 => fX4_readStop u7.2.1 u7.2.2.1 u7.2.2.2.2.2.2.2.2.2.1 u7.2.2.2.2.2.2.2.2.2.2.1 u7.2.2.2.2.2.2.2.2.2.2.2.1 u7.2.2.2.2.2.2.2.2.2.2.2.2.1 (nI len) B) (fun u7 u8 => fX10_carryOut aLR aLC anr anc anl asu asl asi anu avu avl avi qu ql qi u8.2.1 u8.2.2.1 u7.2.2.2.1 u7.2.2.2.2.1 u7.2.2.2.2.2.1 u7.2.2.2.2.2.2.1 u7.2.2.2.2.2.2.2.2.1 u7.2.2.2.2.2.2.2.2.2.2.2.2.2 sk sb sbr sbc slr slc sB1 sB2 sfu sfw sfi sfl sgr sgc sgl ssu ssl ssi sgu spc spr swt (nI R) (nI C) tl tu) f g ∧ refBad (fX11_readsLine 0 (-1) up lo il rk brr bcc fd (nI len) (nI n) 1 (nI p) va' tU tL all cl cu lc lr pC pF pR pW tape) f g all) ∨
    (∃ p9 n9 ty9 va9 va9' tl9 tu9 all9, p < p9 ∧ TokR len B p9 n9 ty9 va9 va9' ∧ matAt (nI R) (nI C) tl9 tu9 all9 89 ∧ (∀ j, ¬ (89 ≤ j ∧ j < 175) → all9 j = all j) ∧ clsGood (fX4_readLine (nI R) (nI C) 0 (-1) word first second number lowers 1 (nI p) va (nI n) (nI len) B uppers) (fun u7 => fX4_readStop u7.2.1 u7.2.2.1 u7.2.2.2.2.2.2.2.2.2.1 u7.2.2.2.2.2.2.2.2.2.2.1 u7.2.2.2.2.2.2.2.2.2.2.2.1 u7.2.2.2.2.2.2.2.2.2.2.2.2.1 (nI len) B) (fun u7 u8 => fX10_carryOut aLR aLC anr anc anl asu asl asi anu avu avl avi qu ql qi u8.2.1 u8.2.2.1 u7.2.2.2.1 u7.2.2.2.2.1 u7.2.2.2.2.2.1 u7.2.2.2.2.2.2.1 u7.2.2.2.2.2.2.2.2.1 u7.2.2.2.2.2.2.2.2.2.2.2.2.2 sk sb sbr sbc slr slc sB1 sB2 sfu sfw sfi sfl sgr sgc sgl ssu ssl ssi sgu spc spr swt (nI R) (nI C) tl tu) ty9 (nI p9) va9 (nI n9) (nI R) (nI C) tl9 tu9 ∧ refGood (fX11_readsLine 0 (-1) up lo il rk brr bcc fd (nI len) (nI n) 1 (nI p) va' tU tL all cl cu lc lr pC pF pR pW tape) (nI n9) ty9 (nI p9) va9' all9) := by
  obtain ⟨cl1, cu1, hb, hG⟩ := mat_begin (b := 89) (by omega) hR6 hC6 rfl rfl hm cl cu
  rw [show nI 89 = 89 from rfl] at hb
  obtain ⟨p2, n2, ty2, va2, va2', a1, a2, a3, a4⟩ := adv_ok h hT.2.1
  subst hv
  have eR : nI R - 1 = nI (R - 1) := pk_sub (a := R) (b := 1) hR1
  have htw : fX4_takeWord 0 (-1) word 1 (nI p) va (nI n) (nI len) B = some (1, 0, -1, 3, nI p, ty2, nI p2, va2, nI n2) := by
    unfold fX4_takeWord
    rw [if_pos rfl, hw]
    simp only [obs]
    rw [a3]
    simp only [obs]
  unfold fX4_readLine fX11_readsLine fX11_readsLine_21
  rw [htw, hb]
  simp only [obs, if_neg one0, show ((3 : Int32) = 2) = False from by decide, show ((3 : Int32) = 3) = True from by decide, show ((3 : Int32) = 4) = False from by decide, show ((3 : Int32) = 5) = False from by decide, show ((3 : Int32) = 6) = False from by decide, show ((3 : Int32) = 7) = False from by decide, ↓reduceIte]
  rw [hasWord_no (by decide)]
  simp only [obs, ↓reduceIte]
  rw [hasWord_yes a4]
  simp only [obs, if_neg one0]
  rcases num_ok h a2 (a := 0) (b := R - 1) (by omega) (by omega) number with ⟨f, num', hf, r1, r2⟩ | ⟨r, p3, n3, ty3, va3, va3', v1, v2, v3, v4, r1, r2⟩
  · rw [show nI 0 = 0 from rfl, ← eR] at r1 r2
    left
    refine ⟨f, nI p2, hf, ?_, ?_⟩
    · rw [first_of r1 (Or.inl rfl)]
      simp only [obs, ↓reduceIte]
      exact ⟨_, rfl, Or.inl ⟨rfl, rfl, rfl⟩⟩
    · unfold fX11_readsSet
      rw [r2]
      simp only [obs, ltp]
      rw [numeral_bad hf]
      simp only [obs, ltp]
      rw [frac_bad hf]
      simp only [obs, goodN (bad_ne hf), ↓reduceIte]
      rw [mustEnd_bad hf]
      simp only [obs]
      exact l128_bad hf
  · rw [show nI 0 = 0 from rfl, ← eR] at r1 r2
    rw [first_of r1 (Or.inr rfl)]
    simp only [obs, if_neg one0]
    unfold fX11_readsSet
    rw [r2]
    simp only [obs, ltp]
    rcases num_ok h v4 (a := 0) (b := C) (by omega) (by omega) (nI r) with ⟨f, num', hf, s1, s2⟩ | ⟨s, p4, n4, ty4, va4, va4', w1, w2, w3, w4, s1, s2⟩
    · rw [show nI 0 = 0 from rfl] at s1 s2
      left
      refine ⟨f, nI p3, hf, ?_, ?_⟩
      · rw [second_of s1 (Or.inl rfl)]
        simp only [obs, ↓reduceIte]
        exact ⟨_, rfl, Or.inl ⟨rfl, rfl, rfl⟩⟩
      · rw [s2]
        simp only [obs, ltp]
        rw [frac_bad hf]
        simp only [obs, goodN (bad_ne hf), ↓reduceIte]
        rw [mustEnd_bad hf]
        simp only [obs]
        exact l128_bad hf
    · rw [show nI 0 = 0 from rfl] at s1 s2
      rw [second_of s1 (Or.inr rfl), s2]
      simp only [obs, if_neg one0, ltp]
      rcases onefrac_ok h w4 (nI s) lowers uppers with ⟨f, g, u0, up2, lo2, nx, to, pl, vv, hf, g1, g2, g3, g4, g5, g6⟩ | ⟨up2, lo2, num', lowers', p6, n6, ty6, va6, va6', g1, g2, g3, g4, g5, g6⟩
      · left
        refine ⟨f, g, hf, ?_, ?_⟩
        · rw [g2]
          simp only [obs]
          rw [if_pos g3]
          exact ⟨_, rfl, Or.inl ⟨rfl, g4, g5⟩⟩
        · rw [g6]
          simp only [obs, goodN (bad_ne hf), ↓reduceIte]
          rw [mustEnd_bad hf]
          simp only [obs]
          exact l128_bad hf
      · obtain ⟨A, Bq, hg, -, cm⟩ := told_start g1.1 g1.2
        rw [g5, g6]
        simp only [obs, if_neg one0, good0]
        rw [cm]
        simp only [obs]
        rw [lays_ok (by omega) (by omega)]
        simp only [obs, i64_32]
        rcases stop_ok h g4 with ⟨q1, q2⟩ | ⟨p5, n5, ty5, va5, va5', k1, k2, q1, q2⟩
        · left
          rw [q2]
          simp only [obs]
          exact ⟨1, nI p6, Or.inl rfl, ⟨_, rfl, Or.inr ⟨one0, _, q1, Or.inl ⟨rfl, rfl, rfl⟩⟩⟩, l128_bad (Or.inl rfl)⟩
        · right
          rw [q2]
          simp only [obs]
          obtain ⟨qu', ql', qi', tl', tu', l1, l2, l3⟩ := tell_loop (f := s) (t := s) (show r < R by omega) hR6 hC6 w2 (by omega) (uppers := upd uppers 0 up2) (lowers := lowers') (cu := upd cu1 (7 * r + s) A) (cl := upd cl1 (7 * r + s) Bq) (tu0 := tu) (tl0 := tl) (fun i h1 h2 => by
            obtain rfl : i = s := by omega
            rw [Nat.sub_self, pk_us, pk_us, pk_us, g2]
            exact ⟨g1, cm⟩) 1 s fuelN qu ql qi tl tu (by omega) (by unfold fuelN; omega) (Nat.le_refl _) (fun i h1 h2 => by omega) (fun j _ => ⟨rfl, rfl⟩)
          have hG' : eqG R C tu' tl' (upd cu1 (7 * r + s) A) (upd cl1 (7 * r + s) Bq) := by
            intro i j hi hj
            by_cases e : 7 * i + j = 7 * r + s
            · rw [e]
              obtain ⟨y1, y2, y3⟩ := l2 s (Nat.le_refl _) (Nat.le_refl _)
              exact ⟨y1.symm, y2.symm, y3⟩
            · rw [(l3 (7 * i + j) (by omega)).1, (l3 (7 * i + j) (by omega)).2, pk_un e, pk_un e]
              exact hG i j hi hj
          obtain ⟨all9, m1, m2, m3⟩ := l128_good hR1 hR6 hC1 hC6 hm hG' (up := A.toInt64) (lo := Bq.toInt64) (il := 0) (rows := nI R) (cols := nI C) (rk := rk) (brr := brr) (bcc := bcc) (isB := 0) (fd := fd) (fr := 89) (nx := nI n5) (to := ty5) (pl := nI p5) (va := va5') (tU := up2) (tL := lo2) (lc := lc) (lr := lr) (pC := pC) (pF := pF) (pR := pR) (pW := pW)
          have hco : ∃ u9 : U9, fX10_carryOut aLR aLC anr anc anl asu asl asi anu avu avl avi qu ql qi 0 (-1) 3 (nI r) (nI s) (nI p) lowers' (upd uppers 0 up2) sk sb sbr sbc slr slc sB1 sB2 sfu sfw sfi sfl sgr sgc sgl ssu ssl ssi sgu spc spr swt (nI R) (nI C) tl tu = some u9 ∧ ¬ u9.1 = 0 ∧ (u9.2.2.2.2.2.2.2.2.2.2.2.2.2.2.2.2.1 = 0 ∧ u9.2.2.2.2.2.2.2.2.2.2.2.2.2.2.2.2.2.1 = -1 ∧ u9.2.2.2.2.2.2.2.2.2.2.2.2.2.2.2.2.2.2.2.2.2.2.2.2.2.2.2.2.2.2.2.2.2.2.2.2.2.2.2.2.1 = nI R ∧ u9.2.2.2.2.2.2.2.2.2.2.2.2.2.2.2.2.2.2.2.2.2.2.2.2.2.2.2.2.2.2.2.2.2.2.2.2.2.2.2.2.2.1 = nI C ∧ u9.2.2.2.2.2.2.2.2.2.2.2.2.2.2.2.2.2.2.2.2.2.2.2.2.2.2.2.2.2.2.2.2.2.2.2.2.2.2.2.2.2.2.1 = tl' ∧ u9.2.2.2.2.2.2.2.2.2.2.2.2.2.2.2.2.2.2.2.2.2.2.2.2.2.2.2.2.2.2.2.2.2.2.2.2.2.2.2.2.2.2.2 = tu') := by
            unfold fX10_carryOut
            rw [upR0, loR0]
            simp only [obs, show ((3 : Int32) = 2) = False from by decide, show ((3 : Int32) = 3) = True from by decide, show ((3 : Int32) = 4) = False from by decide, show ((3 : Int32) = 5) = False from by decide, show ((3 : Int32) = 6) = False from by decide, show ((3 : Int32) = 7) = False from by decide, ↓reduceIte]
            unfold fX10_tellRead
            rw [l1]
            simp only [obs, tv1]
            exact ⟨_, rfl, one0, rfl, rfl, rfl, rfl, rfl, rfl⟩
          obtain ⟨u9, o1, o2, o3⟩ := hco
          exact ⟨p5, n5, ty5, va5, va5', tl', tu', all9, by omega, k2, m1, m2, ⟨_, _, u9, rfl, one0, q1, one0, ⟨rfl, rfl, rfl, rfl⟩, o1, o2, o3⟩, m3⟩
theorem line_row (h : TP len B tape) {p n : Nat} {va : Int32} {va' : Int64} (hT : TokR len B p n 1 va va') (hpn : p < n) (hw : fX5_wordAhead (nI p) (nI n) (nI len) B = some 2) (hv : va' = 13550) (hR1 : 1 ≤ R) (hR6 : R ≤ 6) (hC1 : 1 ≤ C) (hC6 : C ≤ 6) (hm : matAt (nI R) (nI C) tl tu all 89) : (∃ f g, badF f ∧ clsBad (fX4_readLine (nI R) (nI C) 0 (-1) word first second number lowers 1 (nI p) va (nI n) (nI len) B uppers) (fun u7 => fX4_readStop u7.2.1 u7.2.2.1 u7.2.2.2.2.2.2.2.2.2.1 u7.2.2.2.2.2.2.2.2.2.2.1 u7.2.2.2.2.2.2.2.2.2.2.2.1 u7.2.2.2.2.2.2.2.2.2.2.2.2.1 (nI len) B) (fun u7 u8 => fX10_carryOut aLR aLC anr anc anl asu asl asi anu avu avl avi qu ql qi u8.2.1 u8.2.2.1 u7.2.2.2.1 u7.2.2.2.2.1 u7.2.2.2.2.2.1 u7.2.2.2.2.2.2.1 u7.2.2.2.2.2.2.2.2.1 u7.2.2.2.2.2.2.2.2.2.2.2.2.2 sk sb sbr sbc slr slc sB1 sB2 sfu sfw sfi sfl sgr sgc sgl ssu ssl ssi sgu spc spr swt (nI R) (nI C) tl tu) f g ∧ refBad (fX11_readsLine 0 (-1) up lo il rk brr bcc fd (nI len) (nI n) 1 (nI p) va' tU tL all cl cu lc lr pC pF pR pW tape) f g all) ∨
    (∃ p9 n9 ty9 va9 va9' tl9 tu9 all9, p < p9 ∧ TokR len B p9 n9 ty9 va9 va9' ∧ matAt (nI R) (nI C) tl9 tu9 all9 89 ∧ (∀ j, ¬ (89 ≤ j ∧ j < 175) → all9 j = all j) ∧ clsGood (fX4_readLine (nI R) (nI C) 0 (-1) word first second number lowers 1 (nI p) va (nI n) (nI len) B uppers) (fun u7 => fX4_readStop u7.2.1 u7.2.2.1 u7.2.2.2.2.2.2.2.2.2.1 u7.2.2.2.2.2.2.2.2.2.2.1 u7.2.2.2.2.2.2.2.2.2.2.2.1 u7.2.2.2.2.2.2.2.2.2.2.2.2.1 (nI len) B) (fun u7 u8 => fX10_carryOut aLR aLC anr anc anl asu asl asi anu avu avl avi qu ql qi u8.2.1 u8.2.2.1 u7.2.2.2.1 u7.2.2.2.2.1 u7.2.2.2.2.2.1 u7.2.2.2.2.2.2.1 u7.2.2.2.2.2.2.2.2.1 u7.2.2.2.2.2.2.2.2.2.2.2.2.2 sk sb sbr sbc slr slc sB1 sB2 sfu sfw sfi sfl sgr sgc sgl ssu ssl ssi sgu spc spr swt (nI R) (nI C) tl tu) ty9 (nI p9) va9 (nI n9) (nI R) (nI C) tl9 tu9 ∧ refGood (fX11_readsLine 0 (-1) up lo il rk brr bcc fd (nI len) (nI n) 1 (nI p) va' tU tL all cl cu lc lr pC pF pR pW tape) (nI n9) ty9 (nI p9) va9' all9) := by
  obtain ⟨cl1, cu1, hb, hG⟩ := mat_begin (b := 89) (by omega) hR6 hC6 rfl rfl hm cl cu
  rw [show nI 89 = 89 from rfl] at hb
  obtain ⟨p2, n2, ty2, va2, va2', a1, a2, a3, a4⟩ := adv_ok h hT.2.1
  subst hv
  have eR : nI R - 1 = nI (R - 1) := pk_sub (a := R) (b := 1) hR1
  have htw : fX4_takeWord 0 (-1) word 1 (nI p) va (nI n) (nI len) B = some (1, 0, -1, 2, nI p, ty2, nI p2, va2, nI n2) := by
    unfold fX4_takeWord
    rw [if_pos rfl, hw]
    simp only [obs]
    rw [a3]
    simp only [obs]
  unfold fX4_readLine fX11_readsLine fX11_readsLine_21
  rw [htw, hb]
  simp only [obs, if_neg one0, show ((2 : Int32) = 2) = True from by decide, show ((2 : Int32) = 3) = False from by decide, show ((2 : Int32) = 4) = False from by decide, show ((2 : Int32) = 5) = False from by decide, show ((2 : Int32) = 6) = False from by decide, show ((2 : Int32) = 7) = False from by decide, ↓reduceIte]
  rw [hasWord_yes a4]
  simp only [obs, if_neg one0]
  rcases num_ok h a2 (a := 0) (b := R - 1) (by omega) (by omega) number with ⟨f, num', hf, r1, r2⟩ | ⟨r, p3, n3, ty3, va3, va3', v1, v2, v3, v4, r1, r2⟩
  · rw [show nI 0 = 0 from rfl, ← eR] at r1 r2
    left
    refine ⟨f, nI p2, hf, ?_, ?_⟩
    · rw [first_of r1 (Or.inl rfl)]
      simp only [obs, ↓reduceIte]
      exact ⟨_, rfl, Or.inl ⟨rfl, rfl, rfl⟩⟩
    · unfold fX11_readsRow
      rw [r2]
      simp only [obs, ltp]
      rw [show fuelN = 4095 + 1 from rfl, row_bad hC6 hf]
      simp only [obs]
      exact l128_bad hf
  · rw [show nI 0 = 0 from rfl, ← eR] at r1 r2
    rw [first_of r1 (Or.inr rfl)]
    simp only [obs, if_neg one0]
    unfold fX11_readsRow fX4_takeFractions
    rw [r2]
    simp only [obs, ltp, ← nI_succ]
    have hl := row_loop h (show r < R by omega) hR6 hC6 cu1 cl1 (C + 1) 0 fuelN fuelN (nI r) lowers uppers p3 n3 ty3 va3 va3' up lo il tU tL cl1 cu1 (by omega) (by unfold fuelN; omega) (by unfold fuelN; omega) v4 (fun i hi => by omega) (fun j _ => ⟨rfl, rfl⟩)
    rw [show nI 0 = 0 from rfl] at hl
    rcases hl with ⟨f, g, u0, w0, hf, g1, g2, g3, g4, g5, g6, g7⟩ | ⟨num', lowers', uppers', p6, n6, ty6, va6, va6', up', lo', il', tU', tL', cl', cu', g1, g2, g3, g4, g5, g6⟩
    · left
      refine ⟨f, g, hf, ?_, ?_⟩
      · rw [g1]
        simp only [obs]
        rw [if_pos g2]
        exact ⟨_, rfl, Or.inl ⟨rfl, g3, g4⟩⟩
      · rw [g5]
        simp only [obs]
        rw [g6, g7]
        exact l128_bad hf
    · rw [g3, g4]
      simp only [obs, if_neg one0]
      unfold fX11_readsRow_67
      rcases stop_ok h g2 with ⟨q1, q2⟩ | ⟨p5, n5, ty5, va5, va5', k1, k2, q1, q2⟩
      · left
        rw [q2]
        simp only [obs]
        exact ⟨1, nI p6, Or.inl rfl, ⟨_, rfl, Or.inr ⟨one0, _, q1, Or.inl ⟨rfl, rfl, rfl⟩⟩⟩, l128_bad (Or.inl rfl)⟩
      · right
        rw [q2]
        simp only [obs]
        have hl := tell_loop (f := 0) (t := C) (show r < R by omega) hR6 hC6 (Nat.le_refl _) (by omega) (uppers := uppers') (lowers := lowers') (cu := cu') (cl := cl') (tu0 := tu) (tl0 := tl) (fun i h1 h2 => by
          rw [Nat.sub_zero]
          exact g5 i (by omega)) (C + 1) 0 fuelN qu ql qi tl tu (by omega) (by unfold fuelN; omega) (Nat.le_refl _) (fun i h1 h2 => by omega) (fun j _ => ⟨rfl, rfl⟩)
        rw [show nI 0 = 0 from rfl] at hl
        obtain ⟨qu', ql', qi', tl', tu', l1, l2, l3⟩ := hl
        have hG' : eqG R C tu' tl' cu' cl' := by
          intro i j hi hj
          by_cases e : i = r
          · subst e
            obtain ⟨y1, y2, y3⟩ := l2 j (by omega) hj
            exact ⟨y1.symm, y2.symm, y3⟩
          · rw [(l3 (7 * i + j) (by omega)).1, (l3 (7 * i + j) (by omega)).2, (g6 (7 * i + j) (by omega)).1, (g6 (7 * i + j) (by omega)).2]
            exact hG i j hi hj
        obtain ⟨all9, m1, m2, m3⟩ := l128_good hR1 hR6 hC1 hC6 hm hG' (up := up') (lo := lo') (il := il') (rows := nI R) (cols := nI C) (rk := rk) (brr := brr) (bcc := bcc) (isB := 0) (fd := fd) (fr := 89) (nx := nI n5) (to := ty5) (pl := nI p5) (va := va5') (tU := tU') (tL := tL') (lc := lc) (lr := lr) (pC := pC) (pF := pF) (pR := pR) (pW := pW)
        have hco : ∃ u9 : U9, fX10_carryOut aLR aLC anr anc anl asu asl asi anu avu avl avi qu ql qi 0 (-1) 2 (nI r) second (nI p) lowers' uppers' sk sb sbr sbc slr slc sB1 sB2 sfu sfw sfi sfl sgr sgc sgl ssu ssl ssi sgu spc spr swt (nI R) (nI C) tl tu = some u9 ∧ ¬ u9.1 = 0 ∧ (u9.2.2.2.2.2.2.2.2.2.2.2.2.2.2.2.2.1 = 0 ∧ u9.2.2.2.2.2.2.2.2.2.2.2.2.2.2.2.2.2.1 = -1 ∧ u9.2.2.2.2.2.2.2.2.2.2.2.2.2.2.2.2.2.2.2.2.2.2.2.2.2.2.2.2.2.2.2.2.2.2.2.2.2.2.2.2.1 = nI R ∧ u9.2.2.2.2.2.2.2.2.2.2.2.2.2.2.2.2.2.2.2.2.2.2.2.2.2.2.2.2.2.2.2.2.2.2.2.2.2.2.2.2.2.1 = nI C ∧ u9.2.2.2.2.2.2.2.2.2.2.2.2.2.2.2.2.2.2.2.2.2.2.2.2.2.2.2.2.2.2.2.2.2.2.2.2.2.2.2.2.2.2.1 = tl' ∧ u9.2.2.2.2.2.2.2.2.2.2.2.2.2.2.2.2.2.2.2.2.2.2.2.2.2.2.2.2.2.2.2.2.2.2.2.2.2.2.2.2.2.2.2 = tu') := by
          unfold fX10_carryOut
          rw [upR0, loR0]
          simp only [obs, ↓reduceIte]
          unfold fX10_tellRead
          rw [l1]
          simp only [obs, tv1]
          exact ⟨_, rfl, one0, rfl, rfl, rfl, rfl, rfl, rfl⟩
        obtain ⟨u9, o1, o2, o3⟩ := hco
        exact ⟨p5, n5, ty5, va5, va5', tl', tu', all9, by omega, k2, m1, m2, ⟨_, _, u9, rfl, one0, q1, one0, ⟨rfl, rfl, rfl, rfl⟩, o1, o2, o3⟩, m3⟩
end LINEW
