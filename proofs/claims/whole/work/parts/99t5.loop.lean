/-! A text, line by line. -/
section LINEO
variable {len : Nat} {B tape : Nat → Int32} {R C : Nat} {tl tu all : Nat → Int32}
variable (word first second number : Int32) (lowers uppers : Nat → Int32) (aLR aLC anr anc : Int32) (anl : Nat → Int32) (asu asl : Int64) (asi : Int32) (anu : Nat → Int32) (avu avl : Int64) (avi : Int32) (qu ql : Int64) (qi : Int32) (sk sb sbr sbc slr slc sB1 sB2 : Int32) (sfu sfw : Int64) (sfi : Int32) (sfl : Nat → Int32) (sgr sgc : Int32) (sgl : Nat → Int32) (ssu ssl : Int64) (ssi : Int32) (sgu spc spr swt : Nat → Int32)
variable (up lo : Int64) (il rk brr bcc fd tU tL : Int32) (cl cu lc lr pC pF pR pW : Nat → Int32)
theorem line_ok (h : TP len B tape) {p n : Nat} {ty va : Int32} {va' : Int64} (hT : TokR len B p n ty va va') (hne : ¬ ty = 0) (hR1 : 1 ≤ R) (hR6 : R ≤ 6) (hC1 : 1 ≤ C) (hC6 : C ≤ 6) (hm : matAt (nI R) (nI C) tl tu all 89) : (∃ f g, badF f ∧ clsBad (fX4_readLine (nI R) (nI C) 0 (-1) word first second number lowers ty (nI p) va (nI n) (nI len) B uppers) (fun u7 => fX4_readStop u7.2.1 u7.2.2.1 u7.2.2.2.2.2.2.2.2.2.1 u7.2.2.2.2.2.2.2.2.2.2.1 u7.2.2.2.2.2.2.2.2.2.2.2.1 u7.2.2.2.2.2.2.2.2.2.2.2.2.1 (nI len) B) (fun u7 u8 => fX10_carryOut aLR aLC anr anc anl asu asl asi anu avu avl avi qu ql qi u8.2.1 u8.2.2.1 u7.2.2.2.1 u7.2.2.2.2.1 u7.2.2.2.2.2.1 u7.2.2.2.2.2.2.1 u7.2.2.2.2.2.2.2.2.1 u7.2.2.2.2.2.2.2.2.2.2.2.2.2 sk sb sbr sbc slr slc sB1 sB2 sfu sfw sfi sfl sgr sgc sgl ssu ssl ssi sgu spc spr swt (nI R) (nI C) tl tu) f g ∧ refBad (fX11_readsLine 0 (-1) up lo il rk brr bcc fd (nI len) (nI n) ty (nI p) va' tU tL all cl cu lc lr pC pF pR pW tape) f g all) ∨
    (∃ p9 n9 ty9 va9 va9' tl9 tu9 all9, p < p9 ∧ TokR len B p9 n9 ty9 va9 va9' ∧ matAt (nI R) (nI C) tl9 tu9 all9 89 ∧ (∀ j, ¬ (89 ≤ j ∧ j < 175) → all9 j = all j) ∧ clsGood (fX4_readLine (nI R) (nI C) 0 (-1) word first second number lowers ty (nI p) va (nI n) (nI len) B uppers) (fun u7 => fX4_readStop u7.2.1 u7.2.2.1 u7.2.2.2.2.2.2.2.2.2.1 u7.2.2.2.2.2.2.2.2.2.2.1 u7.2.2.2.2.2.2.2.2.2.2.2.1 u7.2.2.2.2.2.2.2.2.2.2.2.2.1 (nI len) B) (fun u7 u8 => fX10_carryOut aLR aLC anr anc anl asu asl asi anu avu avl avi qu ql qi u8.2.1 u8.2.2.1 u7.2.2.2.1 u7.2.2.2.2.1 u7.2.2.2.2.2.1 u7.2.2.2.2.2.2.1 u7.2.2.2.2.2.2.2.2.1 u7.2.2.2.2.2.2.2.2.2.2.2.2.2 sk sb sbr sbc slr slc sB1 sB2 sfu sfw sfi sfl sgr sgc sgl ssu ssl ssi sgu spc spr swt (nI R) (nI C) tl tu) ty9 (nI p9) va9 (nI n9) (nI R) (nI C) tl9 tu9 ∧ refGood (fX11_readsLine 0 (-1) up lo il rk brr bcc fd (nI len) (nI n) ty (nI p) va' tU tL all cl cu lc lr pC pF pR pW tape) (nI n9) ty9 (nI p9) va9' all9) := by
  have hT0 := hT
  obtain ⟨hpn, hnl, hc⟩ := hT
  rcases hc with e | ⟨rfl, hlt, w, hw, hv⟩ | ⟨rfl, -⟩ | ⟨rfl, -⟩ | ⟨rfl, -⟩
  · exact absurd e hne
  · rcases hv with ⟨rfl, hv⟩ | ⟨rfl, hv⟩ | ⟨rfl, hv⟩ | ⟨rfl, hv⟩ | ⟨rfl, hv⟩ | ⟨rfl, hv⟩ | ⟨rfl, hv⟩ | ⟨rfl, -, c1, c2, c3, c4, c5, c6⟩
    · left
      exact line_none word first second number lowers uppers aLR aLC anr anc anl asu asl asi anu avu avl avi qu ql qi sk sb sbr sbc slr slc sB1 sB2 sfu sfw sfi sfl sgr sgc sgl ssu ssl ssi sgu spc spr swt up lo il rk brr bcc fd tU tL cl cu lc lr pC pF pR pW h hT0 hne hR6 hC6 hm (Or.inr ⟨1, hw, Or.inr rfl, by rw [hv]; decide, by rw [hv]; decide, by rw [hv]; decide, by rw [hv]; decide, by rw [hv]; decide, by rw [hv]; decide⟩)
    · exact line_row word first second number lowers uppers aLR aLC anr anc anl asu asl asi anu avu avl avi qu ql qi sk sb sbr sbc slr slc sB1 sB2 sfu sfw sfi sfl sgr sgc sgl ssu ssl ssi sgu spc spr swt up lo il rk brr bcc fd tU tL cl cu lc lr pC pF pR pW h hT0 hlt hw hv hR1 hR6 hC1 hC6 hm
    · exact line_set word first second number lowers uppers aLR aLC anr anc anl asu asl asi anu avu avl avi qu ql qi sk sb sbr sbc slr slc sB1 sB2 sfu sfw sfi sfl sgr sgc sgl ssu ssl ssi sgu spc spr swt up lo il rk brr bcc fd tU tL cl cu lc lr pC pF pR pW h hT0 hlt hw hv hR1 hR6 hC1 hC6 hm
    · exact line_swap word first second number lowers uppers aLR aLC anr anc anl asu asl asi anu avu avl avi qu ql qi sk sb sbr sbc slr slc sB1 sB2 sfu sfw sfi sfl sgr sgc sgl ssu ssl ssi sgu spc spr swt up lo il rk brr bcc fd tU tL cl cu lc lr pC pF pR pW h hT0 hlt hw hv hR1 hR6 hC1 hC6 hm
    · exact line_scale word first second number lowers uppers aLR aLC anr anc anl asu asl asi anu avu avl avi qu ql qi sk sb sbr sbc slr slc sB1 sB2 sfu sfw sfi sfl sgr sgc sgl ssu ssl ssi sgu spc spr swt up lo il rk brr bcc fd tU tL cl cu lc lr pC pF pR pW h hT0 hlt hw hv hR1 hR6 hC1 hC6 hm
    · exact line_add word first second number lowers uppers aLR aLC anr anc anl asu asl asi anu avu avl avi qu ql qi sk sb sbr sbc slr slc sB1 sB2 sfu sfw sfi sfl sgr sgc sgl ssu ssl ssi sgu spc spr swt up lo il rk brr bcc fd tU tL cl cu lc lr pC pF pR pW h hT0 hlt hw hv hR1 hR6 hC1 hC6 hm
    · exact line_reduce word first second number lowers uppers aLR aLC anr anc anl asu asl asi anu avu avl avi qu ql qi sk sb sbr sbc slr slc sB1 sB2 sfu sfw sfi sfl sgr sgc sgl ssu ssl ssi sgu spc spr swt up lo il rk brr bcc fd tU tL cl cu lc lr pC pF pR pW h hT0 hlt hw hv hR1 hR6 hC1 hC6 hm
    · left
      exact line_none word first second number lowers uppers aLR aLC anr anc anl asu asl asi anu avu avl avi qu ql qi sk sb sbr sbc slr slc sB1 sB2 sfu sfw sfi sfl sgr sgc sgl ssu ssl ssi sgu spc spr swt up lo il rk brr bcc fd tU tL cl cu lc lr pC pF pR pW h hT0 hne hR6 hC6 hm (Or.inr ⟨0, hw, Or.inl rfl, c1, c2, c3, c4, c5, c6⟩)
  · left
    exact line_none word first second number lowers uppers aLR aLC anr anc anl asu asl asi anu avu avl avi qu ql qi sk sb sbr sbc slr slc sB1 sB2 sfu sfw sfi sfl sgr sgc sgl ssu ssl ssi sgu spc spr swt up lo il rk brr bcc fd tU tL cl cu lc lr pC pF pR pW h hT0 hne hR6 hC6 hm (Or.inl (by decide))
  · left
    exact line_none word first second number lowers uppers aLR aLC anr anc anl asu asl asi anu avu avl avi qu ql qi sk sb sbr sbc slr slc sB1 sB2 sfu sfw sfi sfl sgr sgc sgl ssu ssl ssi sgu spc spr swt up lo il rk brr bcc fd tU tL cl cu lc lr pC pF pR pW h hT0 hne hR6 hC6 hm (Or.inl (by decide))
  · left
    exact line_none word first second number lowers uppers aLR aLC anr anc anl asu asl asi anu avu avl avi qu ql qi sk sb sbr sbc slr slc sB1 sB2 sfu sfw sfi sfl sgr sgc sgl ssu ssl ssi sgu spc spr swt up lo il rk brr bcc fd tU tL cl cu lc lr pC pF pR pW h hT0 hne hR6 hC6 hm (Or.inl (by decide))
end LINEO
abbrev UT : Type := Int32 × Int32 × Int32 × Int32 × Int32 × (Nat → Int32) × Int64 × Int64 × Int32 × (Nat → Int32) × Int64 × Int64 × Int32 × Int32 × Int32 × Int32 × Int32 × (Nat → Int32) × (Nat → Int32) × Int32 × Int32 × Int32 × Int64 × Int64 × Int32 × Int32 × Int32 × Int32 × Int32 × Int32 × Int32 × Int32 × (Nat → Int32) × Int32 × Int32 × Int32 × Int32 × Int32 × (Nat → Int32) × (Nat → Int32) × Int32 × Int32 × Int32 × Int32 × Int32 × Int32 × Int32 × Int32 × Int64 × Int64 × Int32 × (Nat → Int32) × Int32 × Int32 × (Nat → Int32) × Int64 × Int64 × Int32 × (Nat → Int32) × (Nat → Int32) × (Nat → Int32) × (Nat → Int32) × Int32 × Int32 × (Nat → Int32) × (Nat → Int32)
abbrev VT : Type := Int32 × Int32 × Int32 × Int32 × Int32 × Int64 × Int64 × Int32 × Int32 × Int32 × Int32 × Int32 × Int32 × Int32 × Int32 × Int32 × Int32 × Int32 × Int32 × Int32 × Int64 × Int32 × Int32 × (Nat → Int32) × (Nat → Int32) × (Nat → Int32) × (Nat → Int32) × (Nat → Int32) × (Nat → Int32) × (Nat → Int32) × (Nat → Int32) × (Nat → Int32)
section TEXT
variable {len : Nat} {B tape : Nat → Int32} {nmr nmc : Int32} {nml nmu : Nat → Int32} {ps pt undos : Int32} {nf nfp nr nlr nlc tl0 : Int32} {tb : Nat → Int32} {pk : PC} {ic : IC} {all0 yi : Nat → Int32} {yt yk yp : Int32}
/-- behind a fault all else stays -/
theorem inv_bad (hI : INV (nf, nfp, nr, nlr, nlc, nmr, nmc, nml, nmu, tl0, tb) ps pt pk ic all0 tape yi yt yk yp undos) {all : Nat → Int32} (ha : ∀ j, ¬ (89 ≤ j ∧ j < 175) → all j = all0 j) (f g : Int32) : INV (f, g, nr, nlr, nlc, nmr, nmc, nml, nmu, 0, tb) ps pt pk ic all tape yi 0 f g undos := by
  obtain ⟨hm, hw, ht, hf, hp, hi⟩ := hI
  obtain ⟨sz, tp, rfl, rfl, rfl, hpn⟩ := past_to hp
  exact ⟨matAt_move hm (fun _ _ => ⟨rfl, rfl⟩) (fun k hk => ha _ (by omega)), whyAt_move hw (fun k hk => ha _ (by omega)), ⟨rfl, (show 0 ≤ (0 : Int32).toInt ∧ (0 : Int32).toInt ≤ 400 by decide), ht.2.2⟩, ⟨rfl, rfl⟩, past_of (past_congr hpn (fun k h1 h2 => ha _ (by omega))), img_congr hi (fun k hk => ha _ (by omega))⟩
theorem inv_good (hI : INV (nf, nfp, nr, nlr, nlc, nmr, nmc, nml, nmu, tl0, tb) ps pt pk ic all0 tape yi yt yk yp undos) {all all' tl tu tl' tu' : Nat → Int32} {R C : Nat} (ha : ∀ j, ¬ (89 ≤ j ∧ j < 175) → all j = all0 j) (hm : matAt (nI R) (nI C) tl tu all 89) (hcc : ∀ j, j < 42 → tu' j = tu j ∧ tl' j = tl j) (hc : ∀ k, all' k = if 0 ≤ k ∧ k < 0 + 86 then all (89 + (k - 0)) else all k) : INV (0, -1, nr, nlr, nlc, nI R, nI C, tl', tu', 0, tb) 0 0 pk ic all' tape yi 0 0 (-1) 0 := by
  obtain ⟨-, hw, ht, hf, hp, hi⟩ := hI
  refine ⟨matAt_move hm hcc (fun k hk => ?_), whyAt_move hw (fun k hk => ?_), ⟨rfl, (show 0 ≤ (0 : Int32).toInt ∧ (0 : Int32).toInt ≤ 400 by decide), ht.2.2⟩, ⟨rfl, rfl⟩, past_of (sz := 0) (tp := 0) ⟨by omega, by omega, fun j hj => by omega⟩, img_congr hi (fun k hk => ?_)⟩
  · rw [hc, if_pos (by omega)]
    exact congrArg all (by omega)
  · rw [hc, if_neg (by omega)]
    exact ha _ (by omega)
  · rw [hc, if_neg (by omega)]
    exact ha _ (by omega)
theorem bad49 (k : Nat) (v1 : Int32) (aLR aLC anr anc : Int32) (anl : Nat → Int32) (asu asl : Int64) (asi : Int32) (anu : Nat → Int32) (avu avl : Int64) (avi : Int32) (qu ql : Int64) (qi : Int32) (f g word first second wp number : Int32) (lowers : Nat → Int32) (ty pl va nx : Int32) (uppers : Nat → Int32) (sk sb sbr sbc slr slc sB1 sB2 : Int32) (sfu sfw : Int64) (sfi : Int32) (sfl : Nat → Int32) (sgr sgc : Int32) (sgl : Nat → Int32) (ssu ssl : Int64) (ssi : Int32) (sgu spc spr swt : Nat → Int32) (tr tc : Int32) (tl tu : Nat → Int32) : ∃ u : UT, fX10_text_49 nmr nmc nml nmu ps pt (nI len) B (k + 1) v1 0 aLR aLC anr anc anl asu asl asi anu avu avl avi qu ql qi f g word first second wp number lowers ty pl va nx uppers sk sb sbr sbc slr slc sB1 sB2 sfu sfw sfi sfl sgr sgc sgl ssu ssl ssi sgu spc spr swt tr tc tl tu = some u ∧ u.1 = -1 ∧ u.2.2.2.2.2.2.2.2.2.2.2.2.2.1 = f ∧ u.2.2.2.2.2.2.2.2.2.2.2.2.2.2.1 = g ∧ u.2.2.2.2.2.2.2.2.2.2.2.2.2.2.2.1 = nmr ∧ u.2.2.2.2.2.2.2.2.2.2.2.2.2.2.2.2.1 = nmc ∧ u.2.2.2.2.2.2.2.2.2.2.2.2.2.2.2.2.2.1 = nml ∧ u.2.2.2.2.2.2.2.2.2.2.2.2.2.2.2.2.2.2.1 = nmu ∧ u.2.2.2.2.2.2.2.2.2.2.2.2.2.2.2.2.2.2.2.1 = 0 ∧ u.2.2.2.2.2.2.2.2.2.2.2.2.2.2.2.2.2.2.2.2.1 = ps ∧ u.2.2.2.2.2.2.2.2.2.2.2.2.2.2.2.2.2.2.2.2.2.1 = pt := by
  rw [fX10_text_49_s, if_pos rfl]
  unfold fX10_text_123
  rw [if_pos rfl]
  exact ⟨_, rfl, rfl, rfl, rfl, rfl, rfl, rfl, rfl, rfl, rfl, rfl⟩
theorem bad81 {f : Int32} (hf : badF f) (k : Nat) (v3 g : Int32) (up lo : Int64) (il rw0 cl0 rk brr bcc isB fd fr nx to pl : Int32) (va : Int64) (tU tL : Int32) (all cl cu lc lr pC pF pR pW : Nat → Int32) : ∃ v : VT, fX11_text_81 undos tape 0 (nI len) (k + 1) v3 f g up lo il rw0 cl0 rk brr bcc isB fd fr nx to pl va tU tL all cl cu lc lr pC pF pR pW = some v ∧ v.1 = -1 ∧ v.2.1 = 0 ∧ v.2.2.1 = f ∧ v.2.2.2.1 = g ∧ v.2.2.2.2.1 = undos ∧ v.2.2.2.2.2.2.2.2.2.2.2.2.2.2.2.2.2.2.2.2.2.2.2.1 = all := by
  rw [fX11_text_81_s, goodN (bad_ne hf), obs, if_pos rfl]
  unfold fX11_text_105
  rw [goodN (bad_ne hf), obs, if_pos rfl]
  exact ⟨_, rfl, rfl, rfl, rfl, rfl, rfl, rfl⟩
/-- both end at a fault -/
theorem bad_end (hI : INV (nf, nfp, nr, nlr, nlc, nmr, nmc, nml, nmu, tl0, tb) ps pt pk ic all0 tape yi yt yk yp undos) {all : Nat → Int32} (ha : ∀ j, ¬ (89 ≤ j ∧ j < 175) → all j = all0 j) {f g : Int32} {u : UT} {v : VT} (hu : u.1 = -1 ∧ u.2.2.2.2.2.2.2.2.2.2.2.2.2.1 = f ∧ u.2.2.2.2.2.2.2.2.2.2.2.2.2.2.1 = g ∧ u.2.2.2.2.2.2.2.2.2.2.2.2.2.2.2.1 = nmr ∧ u.2.2.2.2.2.2.2.2.2.2.2.2.2.2.2.2.1 = nmc ∧ u.2.2.2.2.2.2.2.2.2.2.2.2.2.2.2.2.2.1 = nml ∧ u.2.2.2.2.2.2.2.2.2.2.2.2.2.2.2.2.2.2.1 = nmu ∧ u.2.2.2.2.2.2.2.2.2.2.2.2.2.2.2.2.2.2.2.1 = 0 ∧ u.2.2.2.2.2.2.2.2.2.2.2.2.2.2.2.2.2.2.2.2.1 = ps ∧ u.2.2.2.2.2.2.2.2.2.2.2.2.2.2.2.2.2.2.2.2.2.1 = pt) (hv : v.1 = -1 ∧ v.2.1 = 0 ∧ v.2.2.1 = f ∧ v.2.2.2.1 = g ∧ v.2.2.2.2.1 = undos ∧ v.2.2.2.2.2.2.2.2.2.2.2.2.2.2.2.2.2.2.2.2.2.2.2.1 = all) : u.1 = v.1 ∧ INV (u.2.2.2.2.2.2.2.2.2.2.2.2.2.1, u.2.2.2.2.2.2.2.2.2.2.2.2.2.2.1, nr, nlr, nlc, u.2.2.2.2.2.2.2.2.2.2.2.2.2.2.2.1, u.2.2.2.2.2.2.2.2.2.2.2.2.2.2.2.2.1, u.2.2.2.2.2.2.2.2.2.2.2.2.2.2.2.2.2.1, u.2.2.2.2.2.2.2.2.2.2.2.2.2.2.2.2.2.2.1, u.2.2.2.2.2.2.2.2.2.2.2.2.2.2.2.2.2.2.2.1, tb) u.2.2.2.2.2.2.2.2.2.2.2.2.2.2.2.2.2.2.2.2.1 u.2.2.2.2.2.2.2.2.2.2.2.2.2.2.2.2.2.2.2.2.2.1 pk ic v.2.2.2.2.2.2.2.2.2.2.2.2.2.2.2.2.2.2.2.2.2.2.2.1 tape yi v.2.1 v.2.2.1 v.2.2.2.1 v.2.2.2.2.1 := by
  obtain ⟨a1, a2, a3, a4, a5, a6, a7, a8, a9, a10⟩ := hu
  obtain ⟨b1, b2, b3, b4, b5, b6⟩ := hv
  refine ⟨a1.trans b1.symm, ?_⟩
  rw [a2, a3, a4, a5, a6, a7, a8, a9, a10, b2, b3, b4, b5, b6]
  exact inv_bad hI ha f g
theorem text_loop (h : TP len B tape) (hI : INV (nf, nfp, nr, nlr, nlc, nmr, nmc, nml, nmu, tl0, tb) ps pt pk ic all0 tape yi yt yk yp undos) : ∀ (m lines fuel fuel' p n R C : Nat) (ty va : Int32) (va' : Int64) (tl tu all : Nat → Int32) (aLR aLC anr anc : Int32) (anl : Nat → Int32) (asu asl : Int64) (asi : Int32) (anu : Nat → Int32) (avu avl : Int64) (avi : Int32) (qu ql : Int64) (qi : Int32) (word first second wp number : Int32) (lowers uppers : Nat → Int32) (sk sb sbr sbc slr slc sB1 sB2 : Int32) (sfu sfw : Int64) (sfi : Int32) (sfl : Nat → Int32) (sgr sgc : Int32) (sgl : Nat → Int32) (ssu ssl : Int64) (ssi : Int32) (sgu spc spr swt : Nat → Int32) (up lo : Int64) (il rw0 cl0 rk brr bcc isB fd fr tU tL : Int32) (cl cu lc lr pC pF pR pW : Nat → Int32), len - p ≤ m → m + 3 ≤ fuel → m + 3 ≤ fuel' → lines ≤ p → TokR len B p n ty va va' → 1 ≤ R → R ≤ 6 → 1 ≤ C → C ≤ 6 → matAt (nI R) (nI C) tl tu all 89 → (∀ j, ¬ (89 ≤ j ∧ j < 175) → all j = all0 j) →
    ∃ (u : UT) (v : VT), fX10_text_49 nmr nmc nml nmu ps pt (nI len) B fuel (nI lines) 1 aLR aLC anr anc anl asu asl asi anu avu avl avi qu ql qi 0 (-1) word first second wp number lowers ty (nI p) va (nI n) uppers sk sb sbr sbc slr slc sB1 sB2 sfu sfw sfi sfl sgr sgc sgl ssu ssl ssi sgu spc spr swt (nI R) (nI C) tl tu = some u ∧ fX11_text_81 undos tape 0 (nI len) fuel' (nI lines) 0 (-1) up lo il rw0 cl0 rk brr bcc isB fd fr (nI n) ty (nI p) va' tU tL all cl cu lc lr pC pF pR pW = some v ∧ u.1 = v.1 ∧ INV (u.2.2.2.2.2.2.2.2.2.2.2.2.2.1, u.2.2.2.2.2.2.2.2.2.2.2.2.2.2.1, nr, nlr, nlc, u.2.2.2.2.2.2.2.2.2.2.2.2.2.2.2.1, u.2.2.2.2.2.2.2.2.2.2.2.2.2.2.2.2.1, u.2.2.2.2.2.2.2.2.2.2.2.2.2.2.2.2.2.1, u.2.2.2.2.2.2.2.2.2.2.2.2.2.2.2.2.2.2.1, u.2.2.2.2.2.2.2.2.2.2.2.2.2.2.2.2.2.2.2.1, tb) u.2.2.2.2.2.2.2.2.2.2.2.2.2.2.2.2.2.2.2.2.1 u.2.2.2.2.2.2.2.2.2.2.2.2.2.2.2.2.2.2.2.2.2.1 pk ic v.2.2.2.2.2.2.2.2.2.2.2.2.2.2.2.2.2.2.2.2.2.2.2.1 tape yi v.2.1 v.2.2.1 v.2.2.2.1 v.2.2.2.2.1 := by
  intro m
  induction m with
  | zero =>
    intro lines fuel fuel' p n R C ty va va' tl tu all aLR aLC anr anc anl asu asl asi anu avu avl avi qu ql qi word first second wp number lowers uppers sk sb sbr sbc slr slc sB1 sB2 sfu sfw sfi sfl sgr sgc sgl ssu ssl ssi sgu spc spr swt up lo il rw0 cl0 rk brr bcc isB fd fr tU tL cl cu lc lr pC pF pR pW hm hf hf' hlp hT hR1 hR6 hC1 hC6 hmat hfr
    obtain ⟨fuel, rfl⟩ : ∃ f, fuel = f + 1 := ⟨fuel - 1, by omega⟩
    obtain ⟨fuel', rfl⟩ : ∃ f, fuel' = f + 1 := ⟨fuel' - 1, by omega⟩
    have hl := h.1
    have hty : ty = 0 := by
      obtain ⟨q1, q2, hc⟩ := hT
      rcases hc with e | ⟨-, q, -⟩ | ⟨-, q, -⟩ | ⟨-, q, -⟩ | ⟨-, q⟩
      · exact e
      · omega
      · omega
      · omega
      · omega
    subst hty
    obtain ⟨L', U', hcp, hcc⟩ := copy_ok nml nmu (nI R) (nI C) tl tu
    obtain ⟨al, c1, d1⟩ := copies_ok (f := 89) (t := 0) (n := 86) (by omega) (by omega) (Or.inl (by omega)) all
    rw [show nI 89 = 89 from rfl, show nI 0 = 0 from rfl, show nI 86 = 86 from rfl] at c1
    rw [fX10_text_49_s, if_neg one0, fX11_text_81_s, good0, obs, if_neg one0, if_pos rfl]
    unfold fX4_isAtEnd fX10_text_123 fX11_text_105 fX2_forget
    rw [if_pos rfl, obs, if_neg one0, if_neg one0, ite_self, hcp, good0]
    simp only [obs, if_neg one0]
    rw [c1]
    simp only [obs]
    exact ⟨_, _, rfl, rfl, rfl, inv_good hI hfr hmat hcc d1⟩
  | succ m ih =>
    intro lines fuel fuel' p n R C ty va va' tl tu all aLR aLC anr anc anl asu asl asi anu avu avl avi qu ql qi word first second wp number lowers uppers sk sb sbr sbc slr slc sB1 sB2 sfu sfw sfi sfl sgr sgc sgl ssu ssl ssi sgu spc spr swt up lo il rw0 cl0 rk brr bcc isB fd fr tU tL cl cu lc lr pC pF pR pW hm hf hf' hlp hT hR1 hR6 hC1 hC6 hmat hfr
    obtain ⟨fuel, rfl⟩ : ∃ f, fuel = f + 2 := ⟨fuel - 2, by omega⟩
    obtain ⟨fuel', rfl⟩ : ∃ f, fuel' = f + 2 := ⟨fuel' - 2, by omega⟩
    have hl := h.1
    by_cases hty : ty = 0
    · subst hty
      obtain ⟨L', U', hcp, hcc⟩ := copy_ok nml nmu (nI R) (nI C) tl tu
      obtain ⟨al, c1, d1⟩ := copies_ok (f := 89) (t := 0) (n := 86) (by omega) (by omega) (Or.inl (by omega)) all
      rw [show nI 89 = 89 from rfl, show nI 0 = 0 from rfl, show nI 86 = 86 from rfl] at c1
      rw [fX10_text_49_s, if_neg one0, fX11_text_81_s, good0, obs, if_neg one0, if_pos rfl]
      unfold fX4_isAtEnd fX10_text_123 fX11_text_105 fX2_forget
      rw [if_pos rfl, obs, if_neg one0, if_neg one0, ite_self, hcp, good0]
      simp only [obs, if_neg one0]
      rw [c1]
      simp only [obs]
      exact ⟨_, _, rfl, rfl, rfl, inv_good hI hfr hmat hcc d1⟩
    · have hpn : p < n := by
        obtain ⟨q1, q2, hc⟩ := hT
        rcases hc with e | ⟨-, q, -⟩ | ⟨-, q, -⟩ | ⟨-, q, -⟩ | ⟨-, q⟩
        · exact absurd e hty
        · exact q
        · exact q
        · exact q
        · exact q
      have hnl := hT.2.1
      have h400 : ¬ (400 : Int32) ≤ nI lines := nI_ge (a := lines) (b := 400) (by omega) (by omega)
      have hline := line_ok word first second number lowers uppers aLR aLC anr anc anl asu asl asi anu avu avl avi qu ql qi sk sb sbr sbc slr slc sB1 sB2 sfu sfw sfi sfl sgr sgc sgl ssu ssl ssi sgu spc spr swt up lo il rk brr bcc fd tU tL cl cu lc lr pC pF pR pW h hT hty hR1 hR6 hC1 hC6 hmat
      rw [fX10_text_49_s, if_neg one0, if_neg h400, fX11_text_81_s, good0, obs, if_neg one0, if_neg hty]
      unfold fX4_isAtEnd
      rw [if_neg hty, obs, if_pos rfl, ← nI_succ]
      rcases hline with ⟨f, g, hbf, ⟨u7, e7, hcb⟩, ⟨v8, e8, x1, x2, x3⟩⟩ | ⟨p9, n9, ty9, va9, va9', tl9, tu9, all9, y1, y2, y3, y4, ⟨u7, u8, u9, e7, z7, e8, z8, ⟨s1, s2, s3, s4⟩, e9, z9, ⟨o1, o2, o3, o4, o5, o6⟩⟩, ⟨v8, ev, x1, x2, x3, x4, x5, x6, x7⟩⟩
      · rw [e7, e8]
        simp only [obs]
        rw [x1, x2, x3]
        obtain ⟨v, hv0, hv⟩ := bad81 (undos := undos) (tape := tape) (len := len) hbf fuel' (nI (lines + 1)) g (v8.2.2.1) (v8.2.2.2.1) (v8.2.2.2.2.1) (v8.2.2.2.2.2.1) (v8.2.2.2.2.2.2.1) (v8.2.2.2.2.2.2.2.1) (v8.2.2.2.2.2.2.2.2.1) (v8.2.2.2.2.2.2.2.2.2.1) (v8.2.2.2.2.2.2.2.2.2.2.1) (v8.2.2.2.2.2.2.2.2.2.2.2.1) (v8.2.2.2.2.2.2.2.2.2.2.2.2.1) (v8.2.2.2.2.2.2.2.2.2.2.2.2.2.1) (v8.2.2.2.2.2.2.2.2.2.2.2.2.2.2.1) (v8.2.2.2.2.2.2.2.2.2.2.2.2.2.2.2.1) (v8.2.2.2.2.2.2.2.2.2.2.2.2.2.2.2.2.1) (v8.2.2.2.2.2.2.2.2.2.2.2.2.2.2.2.2.2.1) (v8.2.2.2.2.2.2.2.2.2.2.2.2.2.2.2.2.2.2.1) all (v8.2.2.2.2.2.2.2.2.2.2.2.2.2.2.2.2.2.2.2.2.1) (v8.2.2.2.2.2.2.2.2.2.2.2.2.2.2.2.2.2.2.2.2.2.1) (v8.2.2.2.2.2.2.2.2.2.2.2.2.2.2.2.2.2.2.2.2.2.2.1) (v8.2.2.2.2.2.2.2.2.2.2.2.2.2.2.2.2.2.2.2.2.2.2.2.1) (v8.2.2.2.2.2.2.2.2.2.2.2.2.2.2.2.2.2.2.2.2.2.2.2.2.1) (v8.2.2.2.2.2.2.2.2.2.2.2.2.2.2.2.2.2.2.2.2.2.2.2.2.2.1) (v8.2.2.2.2.2.2.2.2.2.2.2.2.2.2.2.2.2.2.2.2.2.2.2.2.2.2.1) (v8.2.2.2.2.2.2.2.2.2.2.2.2.2.2.2.2.2.2.2.2.2.2.2.2.2.2.2)
        rw [hv0]
        rcases hcb with ⟨c1, c2, c3⟩ | ⟨c0, u8, e8', hcb⟩
        · rw [if_pos c1, c2, c3]
          obtain ⟨u, hu0, hu⟩ := bad49 (nmr := nmr) (nmc := nmc) (nml := nml) (nmu := nmu) (ps := ps) (pt := pt) (len := len) (B := B) fuel (nI (lines + 1)) aLR aLC anr anc anl asu asl asi anu avu avl avi qu ql qi f g (u7.2.2.2.1) (u7.2.2.2.2.1) (u7.2.2.2.2.2.1) (u7.2.2.2.2.2.2.1) (u7.2.2.2.2.2.2.2.1) (u7.2.2.2.2.2.2.2.2.1) (u7.2.2.2.2.2.2.2.2.2.1) (u7.2.2.2.2.2.2.2.2.2.2.1) (u7.2.2.2.2.2.2.2.2.2.2.2.1) (u7.2.2.2.2.2.2.2.2.2.2.2.2.1) (u7.2.2.2.2.2.2.2.2.2.2.2.2.2) sk sb sbr sbc slr slc sB1 sB2 sfu sfw sfi sfl sgr sgc sgl ssu ssl ssi sgu spc spr swt (nI R) (nI C) tl tu
          rw [hu0]
          exact ⟨u, v, rfl, rfl, bad_end hI hfr hu hv⟩
        · rw [if_neg c0]
          have e8'' : fX4_readStop u7.2.1 u7.2.2.1 u7.2.2.2.2.2.2.2.2.2.1 u7.2.2.2.2.2.2.2.2.2.2.1 u7.2.2.2.2.2.2.2.2.2.2.2.1 u7.2.2.2.2.2.2.2.2.2.2.2.2.1 (nI len) B = some u8 := e8'
          rw [e8'']
          simp only [obs]
          rcases hcb with ⟨c1, c2, c3⟩ | ⟨c1, u9, e9, d1, d2, d3⟩
          · rw [if_pos c1, c2, c3]
            obtain ⟨u, hu0, hu⟩ := bad49 (nmr := nmr) (nmc := nmc) (nml := nml) (nmu := nmu) (ps := ps) (pt := pt) (len := len) (B := B) fuel (nI (lines + 1)) aLR aLC anr anc anl asu asl asi anu avu avl avi qu ql qi f g (u7.2.2.2.1) (u7.2.2.2.2.1) (u7.2.2.2.2.2.1) (u7.2.2.2.2.2.2.1) (u7.2.2.2.2.2.2.2.1) (u7.2.2.2.2.2.2.2.2.1) (u8.2.2.2.1) (u8.2.2.2.2.1) (u8.2.2.2.2.2.1) (u8.2.2.2.2.2.2) (u7.2.2.2.2.2.2.2.2.2.2.2.2.2) sk sb sbr sbc slr slc sB1 sB2 sfu sfw sfi sfl sgr sgc sgl ssu ssl ssi sgu spc spr swt (nI R) (nI C) tl tu
            rw [hu0]
            exact ⟨u, v, rfl, rfl, bad_end hI hfr hu hv⟩
          · rw [if_neg c1]
            have e9' : fX10_carryOut aLR aLC anr anc anl asu asl asi anu avu avl avi qu ql qi u8.2.1 u8.2.2.1 u7.2.2.2.1 u7.2.2.2.2.1 u7.2.2.2.2.2.1 u7.2.2.2.2.2.2.1 u7.2.2.2.2.2.2.2.2.1 u7.2.2.2.2.2.2.2.2.2.2.2.2.2 sk sb sbr sbc slr slc sB1 sB2 sfu sfw sfi sfl sgr sgc sgl ssu ssl ssi sgu spc spr swt (nI R) (nI C) tl tu = some u9 := e9
            rw [e9']
            simp only [obs]
            rw [if_pos d1, d2, d3]
            obtain ⟨u, hu0, hu⟩ := bad49 (nmr := nmr) (nmc := nmc) (nml := nml) (nmu := nmu) (ps := ps) (pt := pt) (len := len) (B := B) fuel (nI (lines + 1)) (u9.2.1) (u9.2.2.1) (u9.2.2.2.1) (u9.2.2.2.2.1) (u9.2.2.2.2.2.1) (u9.2.2.2.2.2.2.1) (u9.2.2.2.2.2.2.2.1) (u9.2.2.2.2.2.2.2.2.1) (u9.2.2.2.2.2.2.2.2.2.1) (u9.2.2.2.2.2.2.2.2.2.2.1) (u9.2.2.2.2.2.2.2.2.2.2.2.1) (u9.2.2.2.2.2.2.2.2.2.2.2.2.1) (u9.2.2.2.2.2.2.2.2.2.2.2.2.2.1) (u9.2.2.2.2.2.2.2.2.2.2.2.2.2.2.1) (u9.2.2.2.2.2.2.2.2.2.2.2.2.2.2.2.1) f g (u7.2.2.2.1) (u7.2.2.2.2.1) (u7.2.2.2.2.2.1) (u7.2.2.2.2.2.2.1) (u7.2.2.2.2.2.2.2.1) (u7.2.2.2.2.2.2.2.2.1) (u8.2.2.2.1) (u8.2.2.2.2.1) (u8.2.2.2.2.2.1) (u8.2.2.2.2.2.2) (u7.2.2.2.2.2.2.2.2.2.2.2.2.2) (u9.2.2.2.2.2.2.2.2.2.2.2.2.2.2.2.2.2.2.1) (u9.2.2.2.2.2.2.2.2.2.2.2.2.2.2.2.2.2.2.2.1) (u9.2.2.2.2.2.2.2.2.2.2.2.2.2.2.2.2.2.2.2.2.1) (u9.2.2.2.2.2.2.2.2.2.2.2.2.2.2.2.2.2.2.2.2.2.1) (u9.2.2.2.2.2.2.2.2.2.2.2.2.2.2.2.2.2.2.2.2.2.2.1) (u9.2.2.2.2.2.2.2.2.2.2.2.2.2.2.2.2.2.2.2.2.2.2.2.1) (u9.2.2.2.2.2.2.2.2.2.2.2.2.2.2.2.2.2.2.2.2.2.2.2.2.1) (u9.2.2.2.2.2.2.2.2.2.2.2.2.2.2.2.2.2.2.2.2.2.2.2.2.2.1) (u9.2.2.2.2.2.2.2.2.2.2.2.2.2.2.2.2.2.2.2.2.2.2.2.2.2.2.1) (u9.2.2.2.2.2.2.2.2.2.2.2.2.2.2.2.2.2.2.2.2.2.2.2.2.2.2.2.1) (u9.2.2.2.2.2.2.2.2.2.2.2.2.2.2.2.2.2.2.2.2.2.2.2.2.2.2.2.2.1) (u9.2.2.2.2.2.2.2.2.2.2.2.2.2.2.2.2.2.2.2.2.2.2.2.2.2.2.2.2.2.1) (u9.2.2.2.2.2.2.2.2.2.2.2.2.2.2.2.2.2.2.2.2.2.2.2.2.2.2.2.2.2.2.1) (u9.2.2.2.2.2.2.2.2.2.2.2.2.2.2.2.2.2.2.2.2.2.2.2.2.2.2.2.2.2.2.2.1) (u9.2.2.2.2.2.2.2.2.2.2.2.2.2.2.2.2.2.2.2.2.2.2.2.2.2.2.2.2.2.2.2.2.1) (u9.2.2.2.2.2.2.2.2.2.2.2.2.2.2.2.2.2.2.2.2.2.2.2.2.2.2.2.2.2.2.2.2.2.1) (u9.2.2.2.2.2.2.2.2.2.2.2.2.2.2.2.2.2.2.2.2.2.2.2.2.2.2.2.2.2.2.2.2.2.2.1) (u9.2.2.2.2.2.2.2.2.2.2.2.2.2.2.2.2.2.2.2.2.2.2.2.2.2.2.2.2.2.2.2.2.2.2.2.1) (u9.2.2.2.2.2.2.2.2.2.2.2.2.2.2.2.2.2.2.2.2.2.2.2.2.2.2.2.2.2.2.2.2.2.2.2.2.1) (u9.2.2.2.2.2.2.2.2.2.2.2.2.2.2.2.2.2.2.2.2.2.2.2.2.2.2.2.2.2.2.2.2.2.2.2.2.2.1) (u9.2.2.2.2.2.2.2.2.2.2.2.2.2.2.2.2.2.2.2.2.2.2.2.2.2.2.2.2.2.2.2.2.2.2.2.2.2.2.1) (u9.2.2.2.2.2.2.2.2.2.2.2.2.2.2.2.2.2.2.2.2.2.2.2.2.2.2.2.2.2.2.2.2.2.2.2.2.2.2.2.1) (u9.2.2.2.2.2.2.2.2.2.2.2.2.2.2.2.2.2.2.2.2.2.2.2.2.2.2.2.2.2.2.2.2.2.2.2.2.2.2.2.2.1) (u9.2.2.2.2.2.2.2.2.2.2.2.2.2.2.2.2.2.2.2.2.2.2.2.2.2.2.2.2.2.2.2.2.2.2.2.2.2.2.2.2.2.1) (u9.2.2.2.2.2.2.2.2.2.2.2.2.2.2.2.2.2.2.2.2.2.2.2.2.2.2.2.2.2.2.2.2.2.2.2.2.2.2.2.2.2.2.1) (u9.2.2.2.2.2.2.2.2.2.2.2.2.2.2.2.2.2.2.2.2.2.2.2.2.2.2.2.2.2.2.2.2.2.2.2.2.2.2.2.2.2.2.2)
            rw [hu0]
            exact ⟨u, v, rfl, rfl, bad_end hI hfr hu hv⟩
      · have e8' : fX4_readStop u7.2.1 u7.2.2.1 u7.2.2.2.2.2.2.2.2.2.1 u7.2.2.2.2.2.2.2.2.2.2.1 u7.2.2.2.2.2.2.2.2.2.2.2.1 u7.2.2.2.2.2.2.2.2.2.2.2.2.1 (nI len) B = some u8 := e8
        have e9' : fX10_carryOut aLR aLC anr anc anl asu asl asi anu avu avl avi qu ql qi u8.2.1 u8.2.2.1 u7.2.2.2.1 u7.2.2.2.2.1 u7.2.2.2.2.2.1 u7.2.2.2.2.2.2.1 u7.2.2.2.2.2.2.2.2.1 u7.2.2.2.2.2.2.2.2.2.2.2.2.2 sk sb sbr sbc slr slc sB1 sB2 sfu sfw sfi sfl sgr sgc sgl ssu ssl ssi sgu spc spr swt (nI R) (nI C) tl tu = some u9 := e9
        rw [e7, ev]
        simp only [obs]
        rw [if_neg z7, e8']
        simp only [obs]
        rw [if_neg z8, e9']
        simp only [obs]
        rw [if_neg z9, s1, s2, s3, s4, o1, o2, o3, o4, o5, o6, x1, x2, x3, x4, x5, x6, x7]
        exact ih (lines + 1) (fuel + 1) (fuel' + 1) p9 n9 R C ty9 va9 va9' tl9 tu9 all9 (u9.2.1) (u9.2.2.1) (u9.2.2.2.1) (u9.2.2.2.2.1) (u9.2.2.2.2.2.1) (u9.2.2.2.2.2.2.1) (u9.2.2.2.2.2.2.2.1) (u9.2.2.2.2.2.2.2.2.1) (u9.2.2.2.2.2.2.2.2.2.1) (u9.2.2.2.2.2.2.2.2.2.2.1) (u9.2.2.2.2.2.2.2.2.2.2.2.1) (u9.2.2.2.2.2.2.2.2.2.2.2.2.1) (u9.2.2.2.2.2.2.2.2.2.2.2.2.2.1) (u9.2.2.2.2.2.2.2.2.2.2.2.2.2.2.1) (u9.2.2.2.2.2.2.2.2.2.2.2.2.2.2.2.1) (u7.2.2.2.1) (u7.2.2.2.2.1) (u7.2.2.2.2.2.1) (u7.2.2.2.2.2.2.1) (u7.2.2.2.2.2.2.2.1) (u7.2.2.2.2.2.2.2.2.1) (u7.2.2.2.2.2.2.2.2.2.2.2.2.2) (u9.2.2.2.2.2.2.2.2.2.2.2.2.2.2.2.2.2.2.1) (u9.2.2.2.2.2.2.2.2.2.2.2.2.2.2.2.2.2.2.2.1) (u9.2.2.2.2.2.2.2.2.2.2.2.2.2.2.2.2.2.2.2.2.1) (u9.2.2.2.2.2.2.2.2.2.2.2.2.2.2.2.2.2.2.2.2.2.1) (u9.2.2.2.2.2.2.2.2.2.2.2.2.2.2.2.2.2.2.2.2.2.2.1) (u9.2.2.2.2.2.2.2.2.2.2.2.2.2.2.2.2.2.2.2.2.2.2.2.1) (u9.2.2.2.2.2.2.2.2.2.2.2.2.2.2.2.2.2.2.2.2.2.2.2.2.1) (u9.2.2.2.2.2.2.2.2.2.2.2.2.2.2.2.2.2.2.2.2.2.2.2.2.2.1) (u9.2.2.2.2.2.2.2.2.2.2.2.2.2.2.2.2.2.2.2.2.2.2.2.2.2.2.1) (u9.2.2.2.2.2.2.2.2.2.2.2.2.2.2.2.2.2.2.2.2.2.2.2.2.2.2.2.1) (u9.2.2.2.2.2.2.2.2.2.2.2.2.2.2.2.2.2.2.2.2.2.2.2.2.2.2.2.2.1) (u9.2.2.2.2.2.2.2.2.2.2.2.2.2.2.2.2.2.2.2.2.2.2.2.2.2.2.2.2.2.1) (u9.2.2.2.2.2.2.2.2.2.2.2.2.2.2.2.2.2.2.2.2.2.2.2.2.2.2.2.2.2.2.1) (u9.2.2.2.2.2.2.2.2.2.2.2.2.2.2.2.2.2.2.2.2.2.2.2.2.2.2.2.2.2.2.2.1) (u9.2.2.2.2.2.2.2.2.2.2.2.2.2.2.2.2.2.2.2.2.2.2.2.2.2.2.2.2.2.2.2.2.1) (u9.2.2.2.2.2.2.2.2.2.2.2.2.2.2.2.2.2.2.2.2.2.2.2.2.2.2.2.2.2.2.2.2.2.1) (u9.2.2.2.2.2.2.2.2.2.2.2.2.2.2.2.2.2.2.2.2.2.2.2.2.2.2.2.2.2.2.2.2.2.2.1) (u9.2.2.2.2.2.2.2.2.2.2.2.2.2.2.2.2.2.2.2.2.2.2.2.2.2.2.2.2.2.2.2.2.2.2.2.1) (u9.2.2.2.2.2.2.2.2.2.2.2.2.2.2.2.2.2.2.2.2.2.2.2.2.2.2.2.2.2.2.2.2.2.2.2.2.1) (u9.2.2.2.2.2.2.2.2.2.2.2.2.2.2.2.2.2.2.2.2.2.2.2.2.2.2.2.2.2.2.2.2.2.2.2.2.2.1) (u9.2.2.2.2.2.2.2.2.2.2.2.2.2.2.2.2.2.2.2.2.2.2.2.2.2.2.2.2.2.2.2.2.2.2.2.2.2.2.1) (u9.2.2.2.2.2.2.2.2.2.2.2.2.2.2.2.2.2.2.2.2.2.2.2.2.2.2.2.2.2.2.2.2.2.2.2.2.2.2.2.1) (v8.2.2.1) (v8.2.2.2.1) (v8.2.2.2.2.1) (v8.2.2.2.2.2.1) (v8.2.2.2.2.2.2.1) (v8.2.2.2.2.2.2.2.1) (v8.2.2.2.2.2.2.2.2.1) (v8.2.2.2.2.2.2.2.2.2.1) (v8.2.2.2.2.2.2.2.2.2.2.1) (v8.2.2.2.2.2.2.2.2.2.2.2.1) (v8.2.2.2.2.2.2.2.2.2.2.2.2.1) (v8.2.2.2.2.2.2.2.2.2.2.2.2.2.2.2.2.2.1) (v8.2.2.2.2.2.2.2.2.2.2.2.2.2.2.2.2.2.2.1) (v8.2.2.2.2.2.2.2.2.2.2.2.2.2.2.2.2.2.2.2.2.1) (v8.2.2.2.2.2.2.2.2.2.2.2.2.2.2.2.2.2.2.2.2.2.1) (v8.2.2.2.2.2.2.2.2.2.2.2.2.2.2.2.2.2.2.2.2.2.2.1) (v8.2.2.2.2.2.2.2.2.2.2.2.2.2.2.2.2.2.2.2.2.2.2.2.1) (v8.2.2.2.2.2.2.2.2.2.2.2.2.2.2.2.2.2.2.2.2.2.2.2.2.1) (v8.2.2.2.2.2.2.2.2.2.2.2.2.2.2.2.2.2.2.2.2.2.2.2.2.2.1) (v8.2.2.2.2.2.2.2.2.2.2.2.2.2.2.2.2.2.2.2.2.2.2.2.2.2.2.1) (v8.2.2.2.2.2.2.2.2.2.2.2.2.2.2.2.2.2.2.2.2.2.2.2.2.2.2.2) (by omega) (by omega) (by omega) (by omega) y2 hR1 hR6 hC1 hC6 y3 (fun j hj => by rw [y4 j hj]; exact hfr j hj)
end TEXT
