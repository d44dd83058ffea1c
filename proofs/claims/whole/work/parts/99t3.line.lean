/-! A line of a text, by both. -/
abbrev U7 : Type := Int32 × Int32 × Int32 × Int32 × Int32 × Int32 × Int32 × Int32 × (Nat → Int32) × Int32 × Int32 × Int32 × Int32 × (Nat → Int32)
abbrev U8 : Type := Int32 × Int32 × Int32 × Int32 × Int32 × Int32 × Int32
abbrev U9 : Type := Int32 × Int32 × Int32 × Int32 × Int32 × (Nat → Int32) × Int64 × Int64 × Int32 × (Nat → Int32) × Int64 × Int64 × Int32 × Int64 × Int64 × Int32 × Int32 × Int32 × Int32 × Int32 × Int32 × Int32 × Int32 × Int32 × Int32 × Int32 × Int64 × Int64 × Int32 × (Nat → Int32) × Int32 × Int32 × (Nat → Int32) × Int64 × Int64 × Int32 × (Nat → Int32) × (Nat → Int32) × (Nat → Int32) × (Nat → Int32) × Int32 × Int32 × (Nat → Int32) × (Nat → Int32)
abbrev V28 : Type := Int32 × Int32 × Int64 × Int64 × Int32 × Int32 × Int32 × Int32 × Int32 × Int32 × Int32 × Int32 × Int32 × Int32 × Int32 × Int32 × Int64 × Int32 × Int32 × (Nat → Int32) × (Nat → Int32) × (Nat → Int32) × (Nat → Int32) × (Nat → Int32) × (Nat → Int32) × (Nat → Int32) × (Nat → Int32) × (Nat → Int32)
/-- the class meets a fault in the line -/
def clsBad (RL : Option U7) (RS : U7 → Option U8) (CO : U7 → U8 → Option U9) (f g : Int32) : Prop :=
  ∃ u7, RL = some u7 ∧ ((u7.1 = 0 ∧ u7.2.1 = f ∧ u7.2.2.1 = g) ∨ (¬ u7.1 = 0 ∧ ∃ u8, RS u7 = some u8 ∧ ((u8.1 = 0 ∧ u8.2.1 = f ∧ u8.2.2.1 = g) ∨ (¬ u8.1 = 0 ∧ ∃ u9, CO u7 u8 = some u9 ∧ u9.1 = 0 ∧ u9.2.2.2.2.2.2.2.2.2.2.2.2.2.2.2.2.1 = f ∧ u9.2.2.2.2.2.2.2.2.2.2.2.2.2.2.2.2.2.1 = g))))
def clsGood (RL : Option U7) (RS : U7 → Option U8) (CO : U7 → U8 → Option U9) (ty p va n R C : Int32) (tl tu : Nat → Int32) : Prop :=
  ∃ u7 u8 u9, RL = some u7 ∧ ¬ u7.1 = 0 ∧ RS u7 = some u8 ∧ ¬ u8.1 = 0 ∧ (u8.2.2.2.1 = ty ∧ u8.2.2.2.2.1 = p ∧ u8.2.2.2.2.2.1 = va ∧ u8.2.2.2.2.2.2 = n) ∧ CO u7 u8 = some u9 ∧ ¬ u9.1 = 0 ∧ (u9.2.2.2.2.2.2.2.2.2.2.2.2.2.2.2.2.1 = 0 ∧ u9.2.2.2.2.2.2.2.2.2.2.2.2.2.2.2.2.2.1 = -1 ∧ u9.2.2.2.2.2.2.2.2.2.2.2.2.2.2.2.2.2.2.2.2.2.2.2.2.2.2.2.2.2.2.2.2.2.2.2.2.2.2.2.2.1 = R ∧ u9.2.2.2.2.2.2.2.2.2.2.2.2.2.2.2.2.2.2.2.2.2.2.2.2.2.2.2.2.2.2.2.2.2.2.2.2.2.2.2.2.2.1 = C ∧ u9.2.2.2.2.2.2.2.2.2.2.2.2.2.2.2.2.2.2.2.2.2.2.2.2.2.2.2.2.2.2.2.2.2.2.2.2.2.2.2.2.2.2.1 = tl ∧ u9.2.2.2.2.2.2.2.2.2.2.2.2.2.2.2.2.2.2.2.2.2.2.2.2.2.2.2.2.2.2.2.2.2.2.2.2.2.2.2.2.2.2.2 = tu)
def refBad (o : Option V28) (f g : Int32) (all : Nat → Int32) : Prop := ∃ v, o = some v ∧ v.1 = f ∧ v.2.1 = g ∧ v.2.2.2.2.2.2.2.2.2.2.2.2.2.2.2.2.2.2.2.1 = all
def refGood (o : Option V28) (nx to pl : Int32) (va : Int64) (all : Nat → Int32) : Prop := ∃ v, o = some v ∧ v.1 = 0 ∧ v.2.1 = -1 ∧ v.2.2.2.2.2.2.2.2.2.2.2.2.2.1 = nx ∧ v.2.2.2.2.2.2.2.2.2.2.2.2.2.2.1 = to ∧ v.2.2.2.2.2.2.2.2.2.2.2.2.2.2.2.1 = pl ∧ v.2.2.2.2.2.2.2.2.2.2.2.2.2.2.2.2.1 = va ∧ v.2.2.2.2.2.2.2.2.2.2.2.2.2.2.2.2.2.2.2.1 = all
theorem l128_bad {f : Int32} (h : badF f) {all : Nat → Int32} {g : Int32} {up lo : Int64} {il rows cols rk brr bcc isB fd fr nx to pl : Int32} {va : Int64} {tU tL : Int32} {cl cu lc lr pC pF pR pW : Nat → Int32} : refBad (fX11_readsLine_128 all f g up lo il rows cols rk brr bcc isB fd fr nx to pl va tU tL cl cu lc lr pC pF pR pW) f g all := by
  unfold fX11_readsLine_128
  rw [goodN (bad_ne h), obs, if_pos rfl]
  exact ⟨_, rfl, rfl, rfl, rfl⟩
theorem l128_good {R C : Nat} (hR1 : 1 ≤ R) (hR6 : R ≤ 6) (hC1 : 1 ≤ C) (hC6 : C ≤ 6) {all tl0 tu0 tl tu cl cu : Nat → Int32} (hm : matAt (nI R) (nI C) tl0 tu0 all 89) (hG : eqG R C tu tl cu cl) {up lo : Int64} {il rows cols rk brr bcc isB fd fr nx to pl : Int32} {va : Int64} {tU tL : Int32} {lc lr pC pF pR pW : Nat → Int32} : ∃ all', matAt (nI R) (nI C) tl tu all' 89 ∧ (∀ j, ¬ (89 ≤ j ∧ j < 175) → all' j = all j) ∧ refGood (fX11_readsLine_128 all 0 (-1) up lo il rows cols rk brr bcc isB fd fr nx to pl va tU tL cl cu lc lr pC pF pR pW) nx to pl va all' := by
  obtain ⟨all', b1, b2, b3⟩ := becomes_ok (b := 89) (by omega) cl cu all
  obtain ⟨e1, e2, d1, d2, -⟩ := hm
  refine ⟨all', ⟨e1.trans (b3 89 (by omega)).symm, e2.trans (b3 (89 + 1) (by omega)).symm, d1, d2, fun r c hr hc => ?_⟩, fun j hj => b3 j (by omega), ?_⟩
  · rw [nI_toInt (by omega)] at hr hc
    have hj := lt42 (show r < 6 by omega) (show c < 7 by omega)
    obtain ⟨g1, g2, g3⟩ := hG r c (by omega) (by omega)
    obtain ⟨x1, x2⟩ := b2 _ hj
    rw [x1, x2, g1, g2]
    exact ⟨rfl, rfl, g3⟩
  · unfold fX11_readsLine_128
    rw [show nI 89 = 89 from rfl] at b1
    rw [good0, obs, if_neg one0, b1, obs]
    exact ⟨_, rfl, rfl, rfl, rfl, rfl, rfl, rfl, rfl⟩
theorem hasWord_no {X : Int64} {s nx to pl : Int32} {va : Int64} {tape : Nat → Int32} (h : ¬ (to = 1 ∧ va = X)) : fX11_hasWord X 0 s nx to pl va tape = some (0, nx, to, pl, va) := by
  unfold fX11_hasWord fX11_hasWord_29
  rw [good0, obs, if_neg one0]
  by_cases h1 : to = 1
  · rw [if_pos h1, if_neg (fun q => h ⟨h1, (lg_cmp_eq _ _).mp q⟩), if_pos rfl, tv0]
  · rw [if_neg h1, if_pos rfl, tv0]
theorem hasWord_yes {X : Int64} {s nx pl a b c : Int32} {d : Int64} {tape : Nat → Int32} (h : fX11_takes s nx tape = some (a, b, c, d)) : fX11_hasWord X 0 s nx 1 pl X tape = some (1, a, b, c, d) := by
  unfold fX11_hasWord fX11_hasWord_29
  rw [good0, obs, if_neg one0, if_pos rfl, if_pos ((lg_cmp_eq _ _).mpr rfl), if_neg one0, h]
  simp only [obs, tv1]
theorem mat_begin {rows columns : Int32} {lower upper all : Nat → Int32} {b R C : Nat} (hb : b + 86 ≤ 3371) (hR6 : R ≤ 6) (hC6 : C ≤ 6) (e1 : rows = nI R) (e2 : columns = nI C) (h : matAt rows columns lower upper all b) (ycl ycu : Nat → Int32) : ∃ cl' cu', fX11_begins (nI b) all ycl ycu = some (nI R, nI C, 0, nI b, cl', cu') ∧ eqG R C upper lower cu' cl' := by
  subst e1
  subst e2
  obtain ⟨f1, f2, -, -, hcell⟩ := h
  obtain ⟨cl', cu', hb, hcc⟩ := begins_ok hb all ycl ycu
  refine ⟨cl', cu', by rw [hb, ← f1, ← f2], fun r c hr hc => ?_⟩
  have hj := lt42 (show r < 6 by omega) (show c < 7 by omega)
  obtain ⟨q1, q2, q3⟩ := hcell r c (by rw [nI_toInt (by omega)]; omega) (by rw [nI_toInt (by omega)]; omega)
  rw [(hcc _ hj).1, (hcc _ hj).2]
  exact ⟨by rw [q1], by rw [q2], q3⟩
theorem upR {k : Nat} (hk : k < 7) (f : Nat → Int32) : fX4_upperRead (nI k) f = some (f k) := by
  unfold fX4_upperRead
  rw [if_neg (nI_pos (by omega)), if_neg (show ¬ (7 : Int32) ≤ nI k from nI_ge (a := k) (b := 7) hk (by omega)), inB_ok hk (by omega), nI_clamp (by omega)]
theorem loR {k : Nat} (hk : k < 7) (f : Nat → Int32) : fX4_lowerRead (nI k) f = some (f k) := by
  unfold fX4_lowerRead
  rw [if_neg (nI_pos (by omega)), if_neg (show ¬ (7 : Int32) ≤ nI k from nI_ge (a := k) (b := 7) hk (by omega)), inB_ok hk (by omega), nI_clamp (by omega)]
theorem upR0 (f : Nat → Int32) : fX4_upperRead 0 f = some (f 0) := upR (k := 0) (by omega) f
theorem loR0 (f : Nat → Int32) : fX4_lowerRead 0 f = some (f 0) := loR (k := 0) (by omega) f
/-- ENTRIES told by the class -/
theorem tell_loop {R C r f t : Nat} (hrR : r < R) (hR : R ≤ 6) (hC : C ≤ 6) (htC : t ≤ C) (ht7 : t - f < 7) {uppers lowers cu cl tu0 tl0 : Nat → Int32} (hcell : ∀ i, f ≤ i → i ≤ t → toldB (uppers (i - f)) (lowers (i - f)) ∧ fX11_comes (uppers (i - f)).toInt64 (lowers (i - f)).toInt64 = some ((cu (7 * r + i)).toInt64, (cl (7 * r + i)).toInt64, 0)) :
    ∀ (m c fuel : Nat) (qu ql : Int64) (qi : Int32) (tl tu : Nat → Int32), c + m = t + 1 → m + 1 ≤ fuel → f ≤ c → (∀ i, f ≤ i → i < c → tu (7 * r + i) = cu (7 * r + i) ∧ tl (7 * r + i) = cl (7 * r + i) ∧ goodE (tu (7 * r + i)) (tl (7 * r + i))) → (∀ j, ¬ (7 * r + f ≤ j ∧ j < 7 * r + c) → tu j = tu0 j ∧ tl j = tl0 j) → ∃ qu' ql' qi' tl' tu', fX10_tellRead_2 (nI f) (nI t) (nI r) lowers uppers fuel (nI c) qu ql qi tl tu = some (1, qu', ql', qi', tl', tu') ∧ (∀ i, f ≤ i → i ≤ t → tu' (7 * r + i) = cu (7 * r + i) ∧ tl' (7 * r + i) = cl (7 * r + i) ∧ goodE (tu' (7 * r + i)) (tl' (7 * r + i))) ∧ ∀ j, ¬ (7 * r + f ≤ j ∧ j ≤ 7 * r + t) → tu' j = tu0 j ∧ tl' j = tl0 j := by
  intro m
  induction m with
  | zero =>
    intro c fuel qu ql qi tl tu hm hf hfc h1 h2
    obtain ⟨fuel, rfl⟩ : ∃ f, fuel = f + 1 := ⟨fuel - 1, by omega⟩
    obtain rfl : c = t + 1 := by omega
    rw [fX10_tellRead_2_s, if_pos (nI_lt (by omega) (by omega))]
    exact ⟨_, _, _, _, _, rfl, fun i hi hi2 => h1 i hi (by omega), fun j hj => h2 j (by omega)⟩
  | succ m ih =>
    intro c fuel qu ql qi tl tu hm hf hfc h1 h2
    obtain ⟨fuel, rfl⟩ : ∃ f, fuel = f + 1 := ⟨fuel - 1, by omega⟩
    obtain ⟨⟨b1, b2⟩, hcm⟩ := hcell c hfc (by omega)
    obtain ⟨A, Bq, hg, st, cm⟩ := told_start b1 b2
    rw [hcm] at cm
    have x1 : cu (7 * r + c) = A := by
      have := congrArg Int64.toInt32 (Prod.ext_iff.mp (Option.some.inj cm)).1
      rw [i64_32, i64_32] at this
      exact this
    have x2 : cl (7 * r + c) = Bq := by
      have := congrArg Int64.toInt32 (Prod.ext_iff.mp (Prod.ext_iff.mp (Option.some.inj cm)).2).1
      rw [i64_32, i64_32] at this
      exact this
    rw [fX10_tellRead_2_s, if_neg (nI_nlt (by omega) (by omega)), if_neg (show ¬ (7 : Int32) ≤ nI c from nI_ge (a := c) (b := 7) (by omega) (by omega)), pk_sub hfc, upR (by omega), loR (by omega)]
    simp only [obs]
    rw [st]
    simp only [obs]
    rw [put_ok (by omega) (by omega)]
    simp only [obs, i64_32, ← nI_succ]
    refine ih (c + 1) fuel _ _ _ _ _ (by omega) (by omega) (by omega) (fun i hi hi2 => ?_) (fun j hj => ?_)
    · by_cases e : i = c
      · subst e
        rw [pk_us, pk_us, x1, x2]
        exact ⟨rfl, rfl, hg⟩
      · rw [pk_un (by omega), pk_un (by omega)]
        exact h1 i hi (by omega)
    · rw [pk_un (by omega), pk_un (by omega)]
      exact h2 j (by omega)
abbrev U25 : Type := Int32 × Int32 × Int32 × Int64 × Int64 × Int32 × Int32 × Int32 × Int32 × Int32 × Int32 × Int32 × Int32 × Int32 × Int64 × Int32 × Int32 × (Nat → Int32) × (Nat → Int32) × (Nat → Int32) × (Nat → Int32) × (Nat → Int32) × (Nat → Int32) × (Nat → Int32) × (Nat → Int32)
/-- an act's line that has a fault -/
theorem act82_bad {f : Int32} (h : badF f) {p1 up lo : Int64} {il rows cols rk brr bcc isB fd fr s : Int32} {all cl cu lc lr pC pF pR pW tape : Nat → Int32} {v3 v4 g nx to pl : Int32} {va : Int64} {tU tL : Int32} : ∃ u5 : U25, fX11_readsAct_82 p1 up lo il rows cols rk brr bcc isB fd fr s all cl cu lc lr pC pF pR pW tape v3 v4 f g nx to pl va tU tL = some u5 ∧ u5.1 = 0 ∧ u5.2.1 = f ∧ u5.2.2.1 = g := by
  unfold fX11_readsAct_82
  rw [mustEnd_bad h]
  simp only [obs, goodN (bad_ne h), ↓reduceIte]
  exact ⟨_, rfl, rfl, rfl, rfl⟩
theorem act60_bad {f : Int32} (h : badF f) {p1 up lo : Int64} {il rows cols rk brr bcc isB fd fr s tU tL : Int32} {all cl cu lc lr pC pF pR pW tape : Nat → Int32} {v3 st g nx to pl : Int32} {va : Int64} : ∃ u5 : U25, fX11_readsAct_60 p1 up lo il rows cols rk brr bcc isB fd fr s tU tL all cl cu lc lr pC pF pR pW tape v3 st f g nx to pl va = some u5 ∧ u5.1 = 0 ∧ u5.2.1 = f ∧ u5.2.2.1 = g := by
  unfold fX11_readsAct_60
  rw [frac_bad h]
  simp only [obs]
  split
  · exact act82_bad h
  · split
    · exact act82_bad h
    · exact act82_bad h
theorem act28_bad {f : Int32} (h : badF f) {p1 up lo : Int64} {il rows cols rk brr bcc isB fd fr s tU tL : Int32} {all cl cu lc lr pC pF pR pW tape : Nat → Int32} {st g nx to pl : Int32} {va : Int64} : ∃ u5 : U25, fX11_readsAct_28 p1 up lo il rows cols rk brr bcc isB fd fr s tU tL all cl cu lc lr pC pF pR pW tape st f g nx to pl va = some u5 ∧ u5.1 = 0 ∧ u5.2.1 = f ∧ u5.2.2.1 = g := by
  unfold fX11_readsAct_28 fX11_readsAct_45
  rw [numeral_bad h]
  simp only [obs]
  split
  · exact act60_bad h
  · split
    · exact act60_bad h
    · exact act60_bad h
section L102
variable {up lo : Int64} {il rk brr bcc fd s tU tL : Int32} {all lc lr pC pF pR pW tape : Nat → Int32} {pl0 : Int32} {X : Int64} {rows cols isB fr nx to pl : Int32} {va : Int64} {cl cu : Nat → Int32} {u5 : U25}
theorem l102_bad (hA : fX11_readsAct X 0 (-1) up lo il rows cols rk brr bcc isB fd fr s nx to pl va tU tL all cl cu lc lr pC pF pR pW tape = some u5) {f g : Int32} (h0 : u5.1 = 0) (hf : u5.2.1 = f) (hg : u5.2.2.1 = g) (hb : badF f) : refBad (fX11_readsLine_102 0 (-1) up lo il rk brr bcc fd s tU tL all lc lr pC pF pR pW tape pl0 X rows cols isB fr nx to pl va cl cu) f g all := by
  unfold fX11_readsLine_102
  rw [hA, obs, if_pos (by rw [h0]; decide), hf, hg]
  exact l128_bad hb
theorem l102_ref (hA : fX11_readsAct X 0 (-1) up lo il rows cols rk brr bcc isB fd fr s nx to pl va tU tL all cl cu lc lr pC pF pR pW tape = some u5) (h0 : act4 u5.1) (h1 : ¬ u5.1 = 0) (hf : u5.2.1 = 0) : refBad (fX11_readsLine_102 0 (-1) up lo il rk brr bcc fd s tU tL all lc lr pC pF pR pW tape pl0 X rows cols isB fr nx to pl va cl cu) 3 pl0 all := by
  unfold fX11_readsLine_102
  have hn : ¬ u5.1 ≤ 0 := by
    rcases h0 with e | e | e | e
    · exact absurd e h1
    · rw [e]; decide
    · rw [e]; decide
    · rw [e]; decide
  rw [hA, obs, if_neg hn, hf, fails0, obs]
  exact l128_bad (Or.inr (Or.inr rfl))
theorem l102_good {R C : Nat} (hR1 : 1 ≤ R) (hR6 : R ≤ 6) (hC1 : 1 ≤ C) (hC6 : C ≤ 6) {tl0 tu0 tl9 tu9 : Nat → Int32} (hm : matAt (nI R) (nI C) tl0 tu0 all 89) (hA : fX11_readsAct X 0 (-1) up lo il rows cols rk brr bcc isB fd fr s nx to pl va tU tL all cl cu lc lr pC pF pR pW tape = some u5) (h0 : u5.1 = 0) (hf : u5.2.1 = 0) (hg : u5.2.2.1 = -1) (hG : eqG R C tu9 tl9 u5.2.2.2.2.2.2.2.2.2.2.2.2.2.2.2.2.2.2.1 u5.2.2.2.2.2.2.2.2.2.2.2.2.2.2.2.2.2.1) : ∃ all', matAt (nI R) (nI C) tl9 tu9 all' 89 ∧ (∀ j, ¬ (89 ≤ j ∧ j < 175) → all' j = all j) ∧ refGood (fX11_readsLine_102 0 (-1) up lo il rk brr bcc fd s tU tL all lc lr pC pF pR pW tape pl0 X rows cols isB fr nx to pl va cl cu) u5.2.2.2.2.2.2.2.2.2.2.2.1 u5.2.2.2.2.2.2.2.2.2.2.2.2.1 u5.2.2.2.2.2.2.2.2.2.2.2.2.2.1 u5.2.2.2.2.2.2.2.2.2.2.2.2.2.2.1 all' := by
  unfold fX11_readsLine_102
  rw [hA, obs, if_pos (by rw [h0]; decide), hf, hg]
  exact l128_good hR1 hR6 hC1 hC6 hm hG
end L102
section CO
variable (qu ql : Int64) (qi f g wp tr tc : Int32) (tl tu : Nat → Int32) (aLR aLC anr anc : Int32) (anl : Nat → Int32) (asu asl : Int64) (asi : Int32) (anu : Nat → Int32) (avu avl : Int64) (avi : Int32) (sk sb sbr sbc slr slc sB1 sB2 : Int32) (sfu sfw : Int64) (sfi : Int32) (sfl : Nat → Int32) (sgr sgc : Int32) (sgl : Nat → Int32) (ssu ssl : Int64) (ssi : Int32) (sgu spc spr swt : Nat → Int32)
theorem co_no {x : Int32} (hx : ¬ x = 0) : ∃ u9 : U9, fX10_carryOut_210 qu ql qi f g wp tr tc tl tu x aLR aLC anr anc anl asu asl asi anu avu avl avi sk sb sbr sbc slr slc sB1 sB2 sfu sfw sfi sfl sgr sgc sgl ssu ssl ssi sgu spc spr swt = some u9 ∧ u9.1 = 0 ∧ u9.2.2.2.2.2.2.2.2.2.2.2.2.2.2.2.2.1 = 3 ∧ u9.2.2.2.2.2.2.2.2.2.2.2.2.2.2.2.2.2.1 = wp := by
  unfold fX10_carryOut_210 fX4_refuse fX4_fail
  rw [if_neg hx]
  simp only [obs, tv0]
  exact ⟨_, rfl, rfl, rfl, rfl⟩
theorem co_yes : ∃ (u9 : U9) (L' U' : Nat → Int32), fX10_carryOut_210 qu ql qi f g wp tr tc tl tu 0 aLR aLC anr anc anl asu asl asi anu avu avl avi sk sb sbr sbc slr slc sB1 sB2 sfu sfw sfi sfl sgr sgc sgl ssu ssl ssi sgu spc spr swt = some u9 ∧ ¬ u9.1 = 0 ∧ u9.2.2.2.2.2.2.2.2.2.2.2.2.2.2.2.2.1 = f ∧ u9.2.2.2.2.2.2.2.2.2.2.2.2.2.2.2.2.2.1 = g ∧ u9.2.2.2.2.2.2.2.2.2.2.2.2.2.2.2.2.2.2.2.2.2.2.2.2.2.2.2.2.2.2.2.2.2.2.2.2.2.2.2.2.1 = anr ∧ u9.2.2.2.2.2.2.2.2.2.2.2.2.2.2.2.2.2.2.2.2.2.2.2.2.2.2.2.2.2.2.2.2.2.2.2.2.2.2.2.2.2.1 = anc ∧ u9.2.2.2.2.2.2.2.2.2.2.2.2.2.2.2.2.2.2.2.2.2.2.2.2.2.2.2.2.2.2.2.2.2.2.2.2.2.2.2.2.2.2.1 = L' ∧ u9.2.2.2.2.2.2.2.2.2.2.2.2.2.2.2.2.2.2.2.2.2.2.2.2.2.2.2.2.2.2.2.2.2.2.2.2.2.2.2.2.2.2.2 = U' ∧ ∀ j, j < 42 → U' j = anu j ∧ L' j = anl j := by
  obtain ⟨L', U', hcp, hcc⟩ := copy_ok tl tu anr anc anl anu
  unfold fX10_carryOut_210
  rw [if_pos rfl, hcp]
  simp only [obs]
  exact ⟨_, L', U', rfl, one0, rfl, rfl, rfl, rfl, rfl, rfl, hcc⟩
end CO
section FR
variable {len : Nat} {B tape : Nat → Int32}
theorem onefrac_ok (h : TP len B tape) {p n : Nat} {ty va : Int32} {va' : Int64} (hT : TokR len B p n ty va va') (number : Int32) (lowers uppers : Nat → Int32) :
    (∃ f g u up lo nx to pl vv, badF f ∧ toldB up lo ∧ fX4_takeFractions 1 0 (-1) number lowers ty (nI p) va (nI n) (nI len) B uppers = some u ∧ u.1 = 0 ∧ u.2.1 = f ∧ u.2.2.1 = g ∧ fX11_readsFraction 0 (-1) (nI len) (nI n) ty (nI p) va' tape = some (f, g, nx, to, pl, vv, up, lo)) ∨
    (∃ up lo num' lowers' p2 n2 ty2 va2 va2', toldB up lo ∧ lowers' 0 = lo ∧ p ≤ p2 ∧ TokR len B p2 n2 ty2 va2 va2' ∧ fX4_takeFractions 1 0 (-1) number lowers ty (nI p) va (nI n) (nI len) B uppers = some (1, 0, -1, num', lowers', ty2, nI p2, va2, nI n2, upd uppers 0 up) ∧ fX11_readsFraction 0 (-1) (nI len) (nI n) ty (nI p) va' tape = some (0, -1, nI n2, ty2, nI p2, va2', up, lo)) := by
  unfold fX4_takeFractions
  rw [show fuelN = 4094 + 1 + 1 from rfl, fX4_takeFractions_2_s, if_neg (show ¬ (1 : Int32) ≤ 0 by decide), if_neg (show ¬ (7 : Int32) ≤ 0 by decide)]
  have hf := frac_ok h (k := 0) (by omega) hT number lowers uppers
  rw [show nI 0 = 0 from rfl] at hf
  rcases hf with ⟨f, g, u, up, lo, nx, to, pl, vv, q1, q2, q3, q4, q5, q6, q7⟩ | ⟨up, lo, num', lowers', p2, n2, ty2, va2, va2', q1, q2, q3, q4, q5, q6, q7⟩
  · left
    rw [q3, obs, if_pos q4]
    exact ⟨f, g, _, up, lo, nx, to, pl, vv, q1, q2, rfl, rfl, q5, q6, q7⟩
  · right
    rw [q6]
    simp only [obs, if_neg one0]
    rw [fX4_takeFractions_2_s, if_pos (show (1 : Int32) ≤ 0 + 1 by decide)]
    exact ⟨up, lo, num', lowers', p2, n2, ty2, va2, va2', q1, q2, q4, q5, rfl, q7⟩
theorem row67_bad {f : Int32} (hf : badF f) (s : Int32) (tape : Nat → Int32) (g : Int32) (up lo : Int64) (il nx to pl : Int32) (va : Int64) (tU tL : Int32) (cl cu : Nat → Int32) : fX11_readsRow_67 s tape f g up lo il nx to pl va tU tL cl cu = some (f, g, up, lo, il, nx, to, pl, va, tU, tL, cl, cu) := by
  unfold fX11_readsRow_67
  rw [mustEnd_bad hf]
  rfl
theorem row_bad {C : Nat} (hC : C ≤ 6) {f : Int32} (hf : badF f) (s : Int32) (tape : Nat → Int32) (v1 : Int32) (fuel : Nat) (v2 g : Int32) (up lo : Int64) (il nx to pl : Int32) (va : Int64) (tU tL : Int32) (cl cu : Nat → Int32) : fX11_readsRow_14 (nI C) s tape v1 (fuel + 1) v2 f g up lo il nx to pl va tU tL cl cu = some (f, g, up, lo, il, nx, to, pl, va, tU, tL, cl, cu) := by
  rw [fX11_readsRow_14_s, row67_bad hf, goodN (bad_ne hf), obs, if_pos rfl, ite_self]
theorem row_loop (h : TP len B tape) {R C r : Nat} (hrR : r < R) (hR : R ≤ 6) (hC : C ≤ 6) (cu0 cl0 : Nat → Int32) : ∀ (m c fuel fuel' : Nat) (number : Int32) (lowers uppers : Nat → Int32) (p n : Nat) (ty va : Int32) (va' : Int64) (up lo : Int64) (il tU tL : Int32) (cl cu : Nat → Int32), c + m = C + 1 → m + 2 ≤ fuel → m + 2 ≤ fuel' → TokR len B p n ty va va' → (∀ i, i < c → toldB (uppers i) (lowers i) ∧ fX11_comes (uppers i).toInt64 (lowers i).toInt64 = some ((cu (7 * r + i)).toInt64, (cl (7 * r + i)).toInt64, 0)) → (∀ j, ¬ (7 * r ≤ j ∧ j < 7 * r + c) → cu j = cu0 j ∧ cl j = cl0 j) →
    (∃ f g u w, badF f ∧ fX4_takeFractions_2 (nI (C + 1)) (nI len) B fuel (nI c) 0 (-1) number lowers ty (nI p) va (nI n) uppers = some u ∧ u.1 = 0 ∧ u.2.1 = f ∧ u.2.2.1 = g ∧ fX11_readsRow_14 (nI C) (nI len) tape (nI r) fuel' (nI c) 0 (-1) up lo il (nI n) ty (nI p) va' tU tL cl cu = some w ∧ w.1 = f ∧ w.2.1 = g) ∨
    (∃ num' lowers' uppers' p2 n2 ty2 va2 va2' up' lo' il' tU' tL' cl' cu', p ≤ p2 ∧ TokR len B p2 n2 ty2 va2 va2' ∧ fX4_takeFractions_2 (nI (C + 1)) (nI len) B fuel (nI c) 0 (-1) number lowers ty (nI p) va (nI n) uppers = some (1, 0, -1, num', lowers', ty2, nI p2, va2, nI n2, uppers') ∧ fX11_readsRow_14 (nI C) (nI len) tape (nI r) fuel' (nI c) 0 (-1) up lo il (nI n) ty (nI p) va' tU tL cl cu = fX11_readsRow_67 (nI len) tape 0 (-1) up' lo' il' (nI n2) ty2 (nI p2) va2' tU' tL' cl' cu' ∧ (∀ i, i < C + 1 → toldB (uppers' i) (lowers' i) ∧ fX11_comes (uppers' i).toInt64 (lowers' i).toInt64 = some ((cu' (7 * r + i)).toInt64, (cl' (7 * r + i)).toInt64, 0)) ∧ ∀ j, ¬ (7 * r ≤ j ∧ j < 7 * r + (C + 1)) → cu' j = cu0 j ∧ cl' j = cl0 j) := by
  intro m
  induction m with
  | zero =>
    intro c fuel fuel' number lowers uppers p n ty va va' up lo il tU tL cl cu hm hf hf' hT h1 h2
    obtain ⟨fuel, rfl⟩ : ∃ f, fuel = f + 1 := ⟨fuel - 1, by omega⟩
    obtain ⟨fuel', rfl⟩ : ∃ f, fuel' = f + 1 := ⟨fuel' - 1, by omega⟩
    obtain rfl : c = C + 1 := by omega
    right
    rw [fX4_takeFractions_2_s, if_pos (nI_le (Nat.le_refl _) (by omega)), fX11_readsRow_14_s, if_pos (nI_lt (by omega) (by omega))]
    exact ⟨_, _, _, _, _, _, _, _, _, _, _, _, _, _, _, Nat.le_refl _, hT, rfl, rfl, h1, h2⟩
  | succ m ih =>
    intro c fuel fuel' number lowers uppers p n ty va va' up lo il tU tL cl cu hm hf hf' hT h1 h2
    obtain ⟨fuel, rfl⟩ : ∃ f, fuel = f + 1 := ⟨fuel - 1, by omega⟩
    obtain ⟨fuel', rfl⟩ : ∃ f, fuel' = f + 2 := ⟨fuel' - 2, by omega⟩
    rw [fX4_takeFractions_2_s, if_neg (nI_ge (by omega) (by omega)), if_neg (show ¬ (7 : Int32) ≤ nI c from nI_ge (a := c) (b := 7) (by omega) (by omega)), fX11_readsRow_14_s, if_neg (nI_nlt (by omega) (by omega)), good0, obs, if_neg one0]
    rcases frac_ok h (k := c) (by omega) hT number lowers uppers with ⟨f, g, u, up2, lo2, nx, to, pl, vv, q1, q2, q3, q4, q5, q6, q7⟩ | ⟨up2, lo2, num', lowers', p2, n2, ty2, va2, va2', q1, q2, q3, q4, q5, q6, q7⟩
    · left
      obtain ⟨A, Bq, hg, -, cm⟩ := told_start q2.1 q2.2
      rw [q3, q7, obs, if_pos q4]
      simp only [obs]
      rw [cm]
      simp only [obs]
      rw [lays_ok (by omega) (by omega)]
      simp only [obs]
      rw [row_bad hC q1]
      exact ⟨f, g, _, _, q1, rfl, rfl, q5, q6, rfl, rfl, rfl⟩
    · obtain ⟨A, Bq, hg, -, cm⟩ := told_start q1.1 q1.2
      rw [q6, q7]
      simp only [obs, if_neg one0]
      rw [cm]
      simp only [obs]
      rw [lays_ok (by omega) (by omega)]
      simp only [obs, i64_32, ← nI_succ]
      have hc1 : ∀ i, i < c + 1 → toldB (upd uppers c up2 i) (lowers' i) ∧ fX11_comes (upd uppers c up2 i).toInt64 (lowers' i).toInt64 = some ((upd cu (7 * r + c) A (7 * r + i)).toInt64, (upd cl (7 * r + c) Bq (7 * r + i)).toInt64, 0) := by
        intro i hi
        by_cases e : i = c
        · subst e
          rw [pk_us, pk_us, pk_us, q2]
          exact ⟨q1, cm⟩
        · rw [pk_un e, pk_un (by omega), pk_un (by omega), q3 i e]
          exact h1 i (by omega)
      have hc2 : ∀ j, ¬ (7 * r ≤ j ∧ j < 7 * r + (c + 1)) → upd cu (7 * r + c) A j = cu0 j ∧ upd cl (7 * r + c) Bq j = cl0 j := by
        intro j hj
        rw [pk_un (by omega), pk_un (by omega)]
        exact h2 j (by omega)
      rcases ih (c + 1) fuel (fuel' + 1) num' lowers' (upd uppers c up2) p2 n2 ty2 va2 va2' A.toInt64 Bq.toInt64 0 up2 lo2 (upd cl (7 * r + c) Bq) (upd cu (7 * r + c) A) (by omega) (by omega) (by omega) q5 hc1 hc2 with hl | ⟨num3, lowers3, uppers3, p3, n3, ty3, va3, va3', up3, lo3, il3, tU3, tL3, cl3, cu3, r1, r2, r3, r4, r5, r6⟩
      · left
        exact hl
      · right
        exact ⟨num3, lowers3, uppers3, p3, n3, ty3, va3, va3', up3, lo3, il3, tU3, tL3, cl3, cu3, by omega, r2, r3, r4, r5, r6⟩
end FR
section LINE
variable {len : Nat} {B tape : Nat → Int32} {R C : Nat} {tl tu all : Nat → Int32}
variable (word first second number : Int32) (lowers uppers : Nat → Int32) (aLR aLC anr anc : Int32) (anl : Nat → Int32) (asu asl : Int64) (asi : Int32) (anu : Nat → Int32) (avu avl : Int64) (avi : Int32) (qu ql : Int64) (qi : Int32) (sk sb sbr sbc slr slc sB1 sB2 : Int32) (sfu sfw : Int64) (sfi : Int32) (sfl : Nat → Int32) (sgr sgc : Int32) (sgl : Nat → Int32) (ssu ssl : Int64) (ssi : Int32) (sgu spc spr swt : Nat → Int32)
variable (up lo : Int64) (il rk brr bcc fd tU tL : Int32) (cl cu lc lr pC pF pR pW : Nat → Int32)
theorem line_none (h : TP len B tape) {p n : Nat} {ty va : Int32} {va' : Int64} (hT : TokR len B p n ty va va') (hne : ¬ ty = 0) (hR6 : R ≤ 6) (hC6 : C ≤ 6) (hm : matAt (nI R) (nI C) tl tu all 89) (hno : ¬ ty = 1 ∨ ∃ w, fX5_wordAhead (nI p) (nI n) (nI len) B = some w ∧ (w = 0 ∨ w = 1) ∧ ¬ va' = 13550 ∧ ¬ va' = 14006 ∧ ¬ va' = 390787 ∧ ¬ va' = 10157486 ∧ ¬ va' = 841 ∧ ¬ va' = 261031658) : ∃ f g, badF f ∧ clsBad (fX4_readLine (nI R) (nI C) 0 (-1) word first second number lowers ty (nI p) va (nI n) (nI len) B uppers) (fun u7 => fX4_readStop u7.2.1 u7.2.2.1 u7.2.2.2.2.2.2.2.2.2.1 u7.2.2.2.2.2.2.2.2.2.2.1 u7.2.2.2.2.2.2.2.2.2.2.2.1 u7.2.2.2.2.2.2.2.2.2.2.2.2.1 (nI len) B) (fun u7 u8 => fX10_carryOut aLR aLC anr anc anl asu asl asi anu avu avl avi qu ql qi u8.2.1 u8.2.2.1 u7.2.2.2.1 u7.2.2.2.2.1 u7.2.2.2.2.2.1 u7.2.2.2.2.2.2.1 u7.2.2.2.2.2.2.2.2.1 u7.2.2.2.2.2.2.2.2.2.2.2.2.2 sk sb sbr sbc slr slc sB1 sB2 sfu sfw sfi sfl sgr sgc sgl ssu ssl ssi sgu spc spr swt (nI R) (nI C) tl tu) f g ∧ refBad (fX11_readsLine 0 (-1) up lo il rk brr bcc fd (nI len) (nI n) ty (nI p) va' tU tL all cl cu lc lr pC pF pR pW tape) f g all := by
  obtain ⟨cl1, cu1, hb, hG⟩ := mat_begin (b := 89) (by omega) hR6 hC6 rfl rfl hm cl cu
  rw [show nI 89 = 89 from rfl] at hb
  have hX : ∀ X : Int64, X = 13550 ∨ X = 14006 ∨ X = 390787 ∨ X = 10157486 ∨ X = 841 ∨ X = 261031658 → ¬ (ty = 1 ∧ va' = X) := by
    intro X hX ⟨q1, q2⟩
    rcases hno with q | ⟨w, -, -, c1, c2, c3, c4, c5, c6⟩
    · exact q q1
    · rw [← q2] at hX
      rcases hX with q | q | q | q | q | q
      · exact c1 q
      · exact c2 q
      · exact c3 q
      · exact c4 q
      · exact c5 q
      · exact c6 q
  refine ⟨1, nI p, Or.inl rfl, ?_, ?_⟩
  · unfold fX4_readLine fX4_takeWord
    rcases hno with q | ⟨w, w1, w2, -⟩
    · rw [if_neg q]
      simp only [fX4_fail, obs, tv0, ↓reduceIte]
      exact ⟨_, rfl, Or.inl ⟨rfl, rfl, rfl⟩⟩
    · by_cases q : ty = 1
      · obtain ⟨p2, n2, ty2, va2, va2', -, -, a3, -⟩ := adv_ok h hT.2.1
        rw [if_pos q, w1]
        simp only [obs]
        rw [a3]
        simp only [obs, if_neg one0]
        rcases w2 with rfl | rfl
        · rw [if_neg (by decide), if_neg (by decide), if_neg (by decide), if_neg (by decide), if_neg (by decide), if_neg (by decide)]
          simp only [fX4_fail, obs, tv0]
          exact ⟨_, rfl, Or.inl ⟨rfl, rfl, rfl⟩⟩
        · rw [if_neg (by decide), if_neg (by decide), if_neg (by decide), if_neg (by decide), if_neg (by decide), if_neg (by decide)]
          simp only [fX4_fail, obs, tv0]
          exact ⟨_, rfl, Or.inl ⟨rfl, rfl, rfl⟩⟩
      · rw [if_neg q]
        simp only [fX4_fail, obs, tv0, ↓reduceIte]
        exact ⟨_, rfl, Or.inl ⟨rfl, rfl, rfl⟩⟩
  · have go : ∀ st : Int64, refBad (fX11_readsLine_21 0 (-1) up lo il rk brr bcc fd (nI len) (nI n) ty (nI p) va' tU tL all cl cu lc lr pC pF pR pW tape (nI p) st) 1 (nI p) all := by
      intro st
      unfold fX11_readsLine_21
      rw [hb, hasWord_no (hX _ (Or.inl rfl))]
      simp only [obs, ↓reduceIte]
      rw [hasWord_no (hX _ (Or.inr (Or.inl rfl)))]
      simp only [obs, ↓reduceIte]
      rw [hasWord_no (hX _ (Or.inr (Or.inr (Or.inl rfl))))]
      simp only [obs, ↓reduceIte]
      rw [hasWord_no (hX _ (Or.inr (Or.inr (Or.inr (Or.inl rfl)))))]
      simp only [obs, ↓reduceIte]
      rw [hasWord_no (hX _ (Or.inr (Or.inr (Or.inr (Or.inr (Or.inl rfl))))))]
      simp only [obs, ↓reduceIte]
      rw [hasWord_no (hX _ (Or.inr (Or.inr (Or.inr (Or.inr (Or.inr rfl))))))]
      simp only [obs, ↓reduceIte]
      rw [fails0]
      simp only [obs]
      exact l128_bad (Or.inl rfl)
    unfold fX11_readsLine
    by_cases q : ty = 1
    · rw [if_pos q]
      exact go _
    · rw [if_neg q]
      exact go _
end LINE
