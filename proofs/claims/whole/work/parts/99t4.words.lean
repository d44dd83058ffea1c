/-! Lines by their words. -/
theorem first_of {a b f g number ty pl va nx len : Int32} {B : Nat → Int32} {x f' g' num' ty' pl' va2 nx' : Int32} (h : fX4_takeNumber a b f g number ty pl va nx len B = some (x, f', g', num', ty', pl', va2, nx')) (hx : x = 0 ∨ x = 1) : fX4_takeFirst a b f g number ty pl va nx len B = some (x, f', g', num', num', ty', pl', va2, nx') := by
  unfold fX4_takeFirst
  rw [h]
  rcases hx with rfl | rfl
  · simp only [obs, ltp, tv0]
  · simp only [obs, ltp, tv1]
theorem second_of {a b f g number ty pl va nx len : Int32} {B : Nat → Int32} {x f' g' num' ty' pl' va2 nx' : Int32} (h : fX4_takeNumber a b f g number ty pl va nx len B = some (x, f', g', num', ty', pl', va2, nx')) (hx : x = 0 ∨ x = 1) : fX4_takeSecond a b f g number ty pl va nx len B = some (x, f', g', num', num', ty', pl', va2, nx') := by
  unfold fX4_takeSecond
  rw [h]
  rcases hx with rfl | rfl
  · simp only [obs, ltp, tv0]
  · simp only [obs, ltp, tv1]
section LINEW
variable {len : Nat} {B tape : Nat → Int32} {R C : Nat} {tl tu all : Nat → Int32}
variable (word first second number : Int32) (lowers uppers : Nat → Int32) (aLR aLC anr anc : Int32) (anl : Nat → Int32) (asu asl : Int64) (asi : Int32) (anu : Nat → Int32) (avu avl : Int64) (avi : Int32) (qu ql : Int64) (qi : Int32) (sk sb sbr sbc slr slc sB1 sB2 : Int32) (sfu sfw : Int64) (sfi : Int32) (sfl : Nat → Int32) (sgr sgc : Int32) (sgl : Nat → Int32) (ssu ssl : Int64) (ssi : Int32) (sgu spc spr swt : Nat → Int32)
variable (up lo : Int64) (il rk brr bcc fd tU tL : Int32) (cl cu lc lr pC pF pR pW : Nat → Int32)
theorem line_swap (h : TP len B tape) {p n : Nat} {va : Int32} {va' : Int64} (hT : TokR len B p n 1 va va') (hpn : p < n) (hw : fX5_wordAhead (nI p) (nI n) (nI len) B = some 4) (hv : va' = 390787) (hR1 : 1 ≤ R) (hR6 : R ≤ 6) (hC1 : 1 ≤ C) (hC6 : C ≤ 6) (hm : matAt (nI R) (nI C) tl tu all 89) : (∃ f g, badF f ∧ clsBad (fX4_readLine (nI R) (nI C) 0 (-1) word first second number lowers 1 (nI p) va (nI n) (nI len) B uppers) (fun u7 => fX4_readStop u7.2.1 u7.2.2.1 u7.2.2.2.2.2.2.2.2.2.1 u7.2.2.2.2.2.2.2.2.2.2.1 u7.2.2.2.2.2.2.2.2.2.2.2.1 u7.2.2.2.2.2.2.2.2.2.2.2.2.1 (nI len) B) (fun u7 u8 => fX10_carryOut aLR aLC anr anc anl asu asl asi anu avu avl avi qu ql qi u8.2.1 u8.2.2.1 u7.2.2.2.1 u7.2.2.2.2.1 u7.2.2.2.2.2.1 u7.2.2.2.2.2.2.1 u7.2.2.2.2.2.2.2.2.1 u7.2.2.2.2.2.2.2.2.2.2.2.2.2 sk sb sbr sbc slr slc sB1 sB2 sfu sfw sfi sfl sgr sgc sgl ssu ssl ssi sgu spc spr swt (nI R) (nI C) tl tu) f g ∧ refBad (fX11_readsLine 0 (-1) up lo il rk brr bcc fd (nI len) (nI n) 1 (nI p) va' tU tL all cl cu lc lr pC pF pR pW tape) f g all) ∨
    (∃ p9 n9 ty9 va9 va9' tl9 tu9 all9, p < p9 ∧ TokR len B p9 n9 ty9 va9 va9' ∧ matAt (nI R) (nI C) tl9 tu9 all9 89 ∧ (∀ j, ¬ (89 ≤ j ∧ j < 175) → all9 j = all j) ∧ clsGood (fX4_readLine (nI R) (nI C) 0 (-1) word first second number lowers 1 (nI p) va (nI n) (nI len) B uppers) (fun u7 => fX4_readStop u7.2.1 u7.2.2.1 u7.2.2.2.2.2.2.2.2.2.1 u7.2.2.2.2.2.2.2.2.2.2.1 u7.2.2.2.2.2.2.2.2.2.2.2.1 u7.2.2.2.2.2.2.2.2.2.2.2.2.1 (nI len) B) (fun u7 u8 => fX10_carryOut aLR aLC anr anc anl asu asl asi anu avu avl avi qu ql qi u8.2.1 u8.2.2.1 u7.2.2.2.1 u7.2.2.2.2.1 u7.2.2.2.2.2.1 u7.2.2.2.2.2.2.1 u7.2.2.2.2.2.2.2.2.1 u7.2.2.2.2.2.2.2.2.2.2.2.2.2 sk sb sbr sbc slr slc sB1 sB2 sfu sfw sfi sfl sgr sgc sgl ssu ssl ssi sgu spc spr swt (nI R) (nI C) tl tu) ty9 (nI p9) va9 (nI n9) (nI R) (nI C) tl9 tu9 ∧ refGood (fX11_readsLine 0 (-1) up lo il rk brr bcc fd (nI len) (nI n) 1 (nI p) va' tU tL all cl cu lc lr pC pF pR pW tape) (nI n9) ty9 (nI p9) va9' all9) := by
  obtain ⟨cl1, cu1, hb, hG⟩ := mat_begin (b := 89) (by omega) hR6 hC6 rfl rfl hm cl cu
  rw [show nI 89 = 89 from rfl] at hb
  obtain ⟨p2, n2, ty2, va2, va2', a1, a2, a3, a4⟩ := adv_ok h hT.2.1
  subst hv
  have eR : nI R - 1 = nI (R - 1) := pk_sub (a := R) (b := 1) hR1
  have htw : fX4_takeWord 0 (-1) word 1 (nI p) va (nI n) (nI len) B = some (1, 0, -1, 4, nI p, ty2, nI p2, va2, nI n2) := by
    unfold fX4_takeWord
    rw [if_pos rfl, hw]
    simp only [obs]
    rw [a3]
    simp only [obs]
  unfold fX4_readLine fX11_readsLine fX11_readsLine_21
  rw [htw, hb]
  simp only [obs, if_neg one0, show ((4 : Int32) = 2) = False from by decide, show ((4 : Int32) = 3) = False from by decide, show ((4 : Int32) = 4) = True from by decide, show ((4 : Int32) = 5) = False from by decide, show ((4 : Int32) = 6) = False from by decide, show ((4 : Int32) = 7) = False from by decide, ↓reduceIte]
  rw [hasWord_no (by decide)]
  simp only [obs, ↓reduceIte]
  rw [hasWord_no (by decide)]
  simp only [obs, ↓reduceIte]
  rw [hasWord_yes a4]
  simp only [obs, if_neg one0]
  have cA : fX11_readsAct 390787 0 (-1) up lo il (nI R) (nI C) rk brr bcc 0 fd 89 (nI len) (nI n2) ty2 (nI p2) va2' tU tL all cl1 cu1 lc lr pC pF pR pW tape = (fX11_numeral 0 (nI R - 1) 0 (-1) (nI len) (nI n2) ty2 (nI p2) va2' tape).bind fun u_1 => fX11_readsAct_28 390787 up lo il (nI R) (nI C) rk brr bcc 0 fd 89 (nI len) tU tL all cl1 cu1 lc lr pC pF pR pW tape u_1.1 u_1.2.1 u_1.2.2.1 u_1.2.2.2.1 u_1.2.2.2.2.1 u_1.2.2.2.2.2.1 u_1.2.2.2.2.2.2 := by
    unfold fX11_readsAct
    simp only [show (lg_cmp (390787 : Int64) 261031658 = 0) = False from by decide, show (lg_cmp (390787 : Int64) 390787 = 0) = True from by decide, show (lg_cmp (390787 : Int64) 841 = 0) = False from by decide, show (lg_cmp (390787 : Int64) 10157486 = 0) = False from by decide, ↓reduceIte]
  rcases num_ok h a2 (a := 0) (b := R - 1) (by omega) (by omega) number with ⟨f, num', hf, r1, r2⟩ | ⟨r, p3, n3, ty3, va3, va3', v1, v2, v3, v4, r1, r2⟩
  · rw [show nI 0 = 0 from rfl, ← eR] at r1 r2
    left
    refine ⟨f, nI p2, hf, ?_, ?_⟩
    · rw [first_of r1 (Or.inl rfl)]
      simp only [obs, ↓reduceIte]
      exact ⟨_, rfl, Or.inl ⟨rfl, rfl, rfl⟩⟩
    · rw [r2, obs] at cA
      obtain ⟨u5, hu, h0, h1, h2⟩ := act28_bad hf (p1 := 390787) (up := up) (lo := lo) (il := il) (rows := nI R) (cols := nI C) (rk := rk) (brr := brr) (bcc := bcc) (isB := 0) (fd := fd) (fr := 89) (s := nI len) (tU := tU) (tL := tL) (all := all) (cl := cl1) (cu := cu1) (lc := lc) (lr := lr) (pC := pC) (pF := pF) (pR := pR) (pW := pW) (tape := tape) (st := 0) (g := nI p2) (nx := nI n2) (to := ty2) (pl := nI p2) (va := va2')
      exact l102_bad (cA.trans hu) h0 h1 h2 hf
  · rw [show nI 0 = 0 from rfl, ← eR] at r1 r2
    rw [r2] at cA
    simp only [obs] at cA
    unfold fX11_readsAct_28 fX11_readsAct_45 at cA
    simp only [show (lg_cmp (390787 : Int64) 261031658 = 0) = False from by decide, show (lg_cmp (390787 : Int64) 390787 = 0) = True from by decide, show (lg_cmp (390787 : Int64) 841 = 0) = False from by decide, show (lg_cmp (390787 : Int64) 10157486 = 0) = False from by decide, ↓reduceIte] at cA
    rw [first_of r1 (Or.inr rfl)]
    simp only [obs, if_neg one0]
    rcases num_ok h v4 (a := 0) (b := R - 1) (by omega) (by omega) (nI r) with ⟨f, num', hf, s1, s2⟩ | ⟨s, p4, n4, ty4, va4, va4', w1, w2, w3, w4, s1, s2⟩
    · rw [show nI 0 = 0 from rfl, ← eR] at s1 s2
      left
      refine ⟨f, nI p3, hf, ?_, ?_⟩
      · rw [second_of s1 (Or.inl rfl)]
        simp only [obs, ↓reduceIte]
        exact ⟨_, rfl, Or.inl ⟨rfl, rfl, rfl⟩⟩
      · rw [s2] at cA
        simp only [obs] at cA
        obtain ⟨u5, hu, h0, h1, h2⟩ := act60_bad hf (p1 := 390787) (up := up) (lo := lo) (il := il) (rows := nI R) (cols := nI C) (rk := rk) (brr := brr) (bcc := bcc) (isB := 0) (fd := fd) (fr := 89) (s := nI len) (tU := tU) (tL := tL) (all := all) (cl := cl1) (cu := cu1) (lc := lc) (lr := lr) (pC := pC) (pF := pF) (pR := pR) (pW := pW) (tape := tape) (v3 := nI r) (st := 0) (g := nI p3) (nx := nI n3) (to := ty3) (pl := nI p3) (va := va3')
        exact l102_bad (cA.trans hu) h0 h1 h2 hf
    · rw [show nI 0 = 0 from rfl, ← eR] at s1 s2
      rw [s2] at cA
      simp only [obs] at cA
      unfold fX11_readsAct_60 fX11_readsAct_82 at cA
      simp only [show (lg_cmp (390787 : Int64) 261031658 = 0) = False from by decide, show (lg_cmp (390787 : Int64) 390787 = 0) = True from by decide, show (lg_cmp (390787 : Int64) 841 = 0) = False from by decide, show (lg_cmp (390787 : Int64) 10157486 = 0) = False from by decide, ↓reduceIte] at cA
      rw [second_of s1 (Or.inr rfl)]
      simp only [obs, if_neg one0]
      rcases stop_ok h w4 with ⟨q1, q2⟩ | ⟨p5, n5, ty5, va5, va5', k1, k2, q1, q2⟩
      · left
        rw [q2] at cA
        simp only [obs, goodN (f := 1) (by decide), ↓reduceIte] at cA
        refine ⟨1, nI p4, Or.inl rfl, ⟨_, rfl, Or.inr ⟨one0, _, q1, Or.inl ⟨rfl, rfl, rfl⟩⟩⟩, ?_⟩
        exact l102_bad cA rfl rfl rfl (Or.inl rfl)
      · rw [q2] at cA
        simp only [obs, good0, if_neg one0] at cA
        obtain ⟨u, v, t1, t2, t3, t4, t5, t6⟩ := exch_ok hR1 hR6 hC6 hG (nI r) (nI s) anr anc anl asu asl asi anu avu avl avi
        have hco : fX10_carryOut aLR aLC anr anc anl asu asl asi anu avu avl avi qu ql qi 0 (-1) 4 (nI r) (nI s) (nI p) lowers uppers sk sb sbr sbc slr slc sB1 sB2 sfu sfw sfi sfl sgr sgc sgl ssu ssl ssi sgu spc spr swt (nI R) (nI C) tl tu = fX10_carryOut_210 qu ql qi 0 (-1) (nI p) (nI R) (nI C) tl tu u.1 aLR aLC u.2.1 u.2.2.1 u.2.2.2.1 u.2.2.2.2.1 u.2.2.2.2.2.1 u.2.2.2.2.2.2.1 u.2.2.2.2.2.2.2.1 u.2.2.2.2.2.2.2.2.1 u.2.2.2.2.2.2.2.2.2.1 u.2.2.2.2.2.2.2.2.2.2 sk sb sbr sbc slr slc sB1 sB2 sfu sfw sfi sfl sgr sgc sgl ssu ssl ssi sgu spc spr swt := by
          unfold fX10_carryOut
          rw [upR0, loR0]
          simp only [obs, show ((4 : Int32) = 2) = False from by decide, show ((4 : Int32) = 3) = False from by decide, show ((4 : Int32) = 4) = True from by decide, show ((4 : Int32) = 5) = False from by decide, show ((4 : Int32) = 6) = False from by decide, show ((4 : Int32) = 7) = False from by decide, ↓reduceIte]
          rw [t1]
          simp only [obs, ltp]
        rw [t2] at cA
        simp only [obs] at cA
        by_cases hx : u.1 = 0
        · right
          obtain ⟨x1, x2, hGx⟩ := t5 hx
          rw [hx] at hco
          obtain ⟨u9, L', U', o1, o2, o3, o4, o5, o6, o7, o8, hcc⟩ := co_yes qu ql qi 0 (-1) (nI p) (nI R) (nI C) tl tu aLR aLC u.2.1 u.2.2.1 u.2.2.2.1 u.2.2.2.2.1 u.2.2.2.2.2.1 u.2.2.2.2.2.2.1 u.2.2.2.2.2.2.2.1 u.2.2.2.2.2.2.2.2.1 u.2.2.2.2.2.2.2.2.2.1 u.2.2.2.2.2.2.2.2.2.2 sk sb sbr sbc slr slc sB1 sB2 sfu sfw sfi sfl sgr sgc sgl ssu ssl ssi sgu spc spr swt
          obtain ⟨all9, m1, m2, m3⟩ := l102_good (tl9 := L') (tu9 := U') hR1 hR6 hC1 hC6 hm cA (t3.trans hx) rfl rfl (eqG_copy hR6 hC6 hGx hcc) (pl0 := nI p)
          exact ⟨p5, n5, ty5, va5, va5', L', U', all9, by omega, k2, m1, m2, ⟨_, _, u9, rfl, one0, q1, one0, ⟨rfl, rfl, rfl, rfl⟩, hco.trans o1, o2, ⟨o3, o4, o5.trans x1, o6.trans x2, o7, o8⟩⟩, m3⟩
        · left
          obtain ⟨u9, o1, o2, o3, o4⟩ := co_no qu ql qi 0 (-1) (nI p) (nI R) (nI C) tl tu aLR aLC u.2.1 u.2.2.1 u.2.2.2.1 u.2.2.2.2.1 u.2.2.2.2.2.1 u.2.2.2.2.2.2.1 u.2.2.2.2.2.2.2.1 u.2.2.2.2.2.2.2.2.1 u.2.2.2.2.2.2.2.2.2.1 u.2.2.2.2.2.2.2.2.2.2 sk sb sbr sbc slr slc sB1 sB2 sfu sfw sfi sfl sgr sgc sgl ssu ssl ssi sgu spc spr swt hx
          refine ⟨3, nI p, Or.inr (Or.inr rfl), ⟨_, rfl, Or.inr ⟨one0, _, q1, Or.inr ⟨one0, u9, hco.trans o1, o2, o3, o4⟩⟩⟩, ?_⟩
          exact l102_ref cA (by rw [t3]; exact t4) (by rw [t3]; exact hx) rfl
end LINEW
