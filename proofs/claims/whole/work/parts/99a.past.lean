/-! The reference's rows: copies within them; the past; an act is concluded. -/
theorem copies_loop {f t n : Nat} (hf : f + n ≤ 3371) (ht : t + n ≤ 3371) (h : t ≤ f ∨ f + n ≤ t) (all0 : Nat → Int32) : ∀ (m v fuel : Nat) (cur : Nat → Int32), v + m = n → m + 1 ≤ fuel → (∀ k, cur k = if t ≤ k ∧ k < t + v then all0 (f + (k - t)) else all0 k) → ∃ all', fX11_copies_3 (nI f) (nI t) (nI n) fuel (nI v) cur = some all' ∧ ∀ k, all' k = if t ≤ k ∧ k < t + n then all0 (f + (k - t)) else all0 k := by
  intro m
  induction m with
  | zero =>
    intro v fuel cur hv hfu hc
    obtain ⟨fuel, rfl⟩ : ∃ f, fuel = f + 1 := ⟨fuel - 1, by omega⟩
    obtain rfl : v = n := by omega
    exact ⟨cur, by rw [fX11_copies_3_s, if_pos (nI_le (Nat.le_refl _) (by omega))], hc⟩
  | succ m ih =>
    intro v fuel cur hv hfu hc
    obtain ⟨fuel, rfl⟩ : ∃ f, fuel = f + 1 := ⟨fuel - 1, by omega⟩
    rw [fX11_copies_3_s, if_neg (nI_ge (by omega) (by omega)), nI_add, nI_add, inB_ok (by omega) (by omega), ltp, inB_ok (by omega) (by omega), ltp, nI_clamp (by omega), nI_clamp (by omega), ← nI_succ]
    refine ih (v + 1) fuel _ (by omega) (by omega) (fun k => ?_)
    by_cases e : k = t + v
    · subst e
      rw [pk_us, hc (f + v), if_neg (by omega), if_pos (by omega)]
      congr 1
      omega
    · rw [pk_un e, hc k]
      by_cases e2 : t ≤ k ∧ k < t + v
      · rw [if_pos e2, if_pos (by omega)]
      · rw [if_neg e2, if_neg (by omega)]
theorem copies_ok {f t n : Nat} (hf : f + n ≤ 3371) (ht : t + n ≤ 3371) (h : t ≤ f ∨ f + n ≤ t) (all : Nat → Int32) : ∃ all', fX11_copies (nI f) (nI t) (nI n) all = some all' ∧ ∀ k, all' k = if t ≤ k ∧ k < t + n then all (f + (k - t)) else all k := by
  obtain ⟨all', h1, h2⟩ := copies_loop hf ht h all n 0 fuelN all (by omega) (by unfold fuelN; omega) (fun k => by rw [if_neg (by omega)])
  refine ⟨all', ?_, h2⟩
  unfold fX11_copies
  exact h1
theorem becomes_loop {b : Nat} (hb : b + 86 ≤ 3371) (cl cu all0 : Nat → Int32) : ∀ (m v fuel : Nat) (cur : Nat → Int32), v + m = 42 → m + 1 ≤ fuel → (∀ j, j < v → cur (b + 2 + j) = cu j ∧ cur (b + 44 + j) = cl j) → (∀ j, ¬ (b + 2 ≤ j ∧ j < b + 86) → cur j = all0 j) → ∃ all', fX11_becomes_2 (nI b) cl cu fuel (nI v) cur = some all' ∧ (∀ j, j < 42 → all' (b + 2 + j) = cu j ∧ all' (b + 44 + j) = cl j) ∧ ∀ j, ¬ (b + 2 ≤ j ∧ j < b + 86) → all' j = all0 j := by
  intro m
  induction m with
  | zero =>
    intro v fuel cur hv hfu h1 h2
    obtain ⟨fuel, rfl⟩ : ∃ f, fuel = f + 1 := ⟨fuel - 1, by omega⟩
    obtain rfl : v = 42 := by omega
    exact ⟨cur, by rw [fX11_becomes_2_s, if_pos (show (42 : Int32) ≤ nI 42 by decide)], h1, h2⟩
  | succ m ih =>
    intro v fuel cur hv hfu h1 h2
    obtain ⟨fuel, rfl⟩ : ∃ f, fuel = f + 1 := ⟨fuel - 1, by omega⟩
    have e2 : nI b + 2 + nI v = nI (b + 2 + v) := nI3 b 2 v
    have e44 : nI b + 44 + nI v = nI (b + 44 + v) := nI3 b 44 v
    rw [fX11_becomes_2_s, if_neg (nI_ge42 (by omega)), e2, e44]
    simp only [ltp, inB_ok (n := 42) (i := v) (by omega) (by omega), inB_ok (n := 3371) (i := b + 2 + v) (by omega) (by omega), inB_ok (n := 3371) (i := b + 44 + v) (by omega) (by omega), nI_clamp (n := v) (by omega), nI_clamp (n := b + 2 + v) (by omega), nI_clamp (n := b + 44 + v) (by omega), ← nI_succ]
    refine ih (v + 1) fuel _ (by omega) (by omega) (fun j hj => ?_) (fun j hj => ?_)
    · by_cases e : j = v
      · subst e
        rw [pk_un (by omega), pk_us, pk_us]
        exact ⟨rfl, rfl⟩
      · rw [pk_un (by omega), pk_un (by omega), pk_un (by omega), pk_un (by omega)]
        exact h1 j (by omega)
    · rw [pk_un (by omega), pk_un (by omega)]
      exact h2 j hj
theorem becomes_ok {b : Nat} (hb : b + 86 ≤ 3371) (cl cu all : Nat → Int32) : ∃ all', fX11_becomes (nI b) all cl cu = some all' ∧ (∀ j, j < 42 → all' (b + 2 + j) = cu j ∧ all' (b + 44 + j) = cl j) ∧ ∀ j, ¬ (b + 2 ≤ j ∧ j < b + 86) → all' j = all j := by
  obtain ⟨all', h1, h2, h3⟩ := becomes_loop hb cl cu all 42 0 fuelN all (by omega) (by unfold fuelN; omega) (fun j hj => by omega) (fun j _ => rfl)
  refine ⟨all', ?_, h2, h3⟩
  unfold fX11_becomes
  exact h1
theorem matAt_move {rows cols : Int32} {lo up lo' up' all all' : Nat → Int32} {b b' : Nat} (h : matAt rows cols lo up all b) (hc : ∀ j, j < 42 → up' j = up j ∧ lo' j = lo j) (ha : ∀ k, k < 86 → all' (b' + k) = all (b + k)) : matAt rows cols lo' up' all' b' := by
  obtain ⟨e1, e2, h1, h2, h3⟩ := h
  refine ⟨e1.trans (ha 0 (by omega)).symm, e2.trans (ha 1 (by omega)).symm, h1, h2, fun r c hr hcc => ?_⟩
  obtain ⟨q1, q2, q3⟩ := h3 r c hr hcc
  have hj : 7 * r + c < 42 := by omega
  have a1 := ha (2 + (7 * r + c)) (by omega)
  have a2 := ha (44 + (7 * r + c)) (by omega)
  rw [(hc _ hj).1, (hc _ hj).2, Nat.add_assoc, Nat.add_assoc, a1, a2]
  rw [Nat.add_assoc] at q1 q2
  exact ⟨q1, q2, q3⟩
theorem whyAt_move {a b c : Int32} {all all' : Nat → Int32} {k k' : Nat} (h : whyAt a b c all k) (ha : ∀ j, j < 3 → all' (k' + j) = all (k + j)) : whyAt a b c all' k' := by
  obtain ⟨e1, h1, h2⟩ := h
  exact ⟨e1.trans (ha 0 (by omega)).symm, h1, fun q => ⟨(h2 q).1.trans (ha 1 (by omega)).symm, (h2 q).2.trans (ha 2 (by omega)).symm⟩⟩
theorem tapeAt_move {l t : Int32} {by' by2 all all' : Nat → Int32} {k k' : Nat} (h : tapeAt l by' t all k) (hb : ∀ j, j < 400 → by2 j = by' j) (ha : ∀ j, j < 400 → all' (k' + j) = all (k + j)) : tapeAt l by2 t all' k' := by
  obtain ⟨e1, h1, h2⟩ := h
  refine ⟨e1, h1, fun j hj => ?_⟩
  rw [hb j hj, ha j hj]
  exact h2 j hj
/-- the past, in numbers -/
def pastN (sz tp : Nat) (kept : PC) (all : Nat → Int32) : Prop := sz ≤ 20 ∧ tp < 20 ∧ ∀ j, j < sz → ∃ g : GC, kept ((tp + 39 - j) % 20) = some g ∧ matAt g.1 g.2.1 g.2.2.2 g.2.2.1 all (175 + 86 * (sz - 1 - j))
def pastI (size top : Int32) (kept : PC) (all : Nat → Int32) (undos : Int32) : Prop := size = undos ∧ (0 ≤ size.toInt ∧ size.toInt ≤ 20) ∧ (0 ≤ top.toInt ∧ top.toInt < 20) ∧ ∀ j : Nat, (j : Int) < size.toInt → ∃ g : GC, kept ((top.toInt + 39 - j) % 20).toNat = some g ∧ matAt g.1 g.2.1 g.2.2.2 g.2.2.1 all (175 + 86 * (size.toInt.toNat - 1 - j))
theorem past_to {size top undos : Int32} {kept : PC} {all : Nat → Int32} (h : pastI size top kept all undos) : ∃ sz tp, size = nI sz ∧ top = nI tp ∧ undos = nI sz ∧ pastN sz tp kept all := by
  obtain ⟨e, ⟨s1, s2⟩, ⟨t1, t2⟩, hj⟩ := h
  have es : size = nI size.toInt.toNat := by
    apply Int32.toInt_inj.mp
    rw [nI_toInt (by omega)]
    omega
  have et : top = nI top.toInt.toNat := by
    apply Int32.toInt_inj.mp
    rw [nI_toInt (by omega)]
    omega
  refine ⟨size.toInt.toNat, top.toInt.toNat, es, et, by rw [← e]; exact es, by omega, by omega, fun j h => ?_⟩
  obtain ⟨g, q1, q2⟩ := hj j (by omega)
  refine ⟨g, ?_, q2⟩
  rw [← q1]
  congr 1
  omega
theorem past_of {sz tp : Nat} {kept : PC} {all : Nat → Int32} (h : pastN sz tp kept all) : pastI (nI sz) (nI tp) kept all (nI sz) := by
  obtain ⟨h1, h2, h3⟩ := h
  have e1 := nI_toInt (n := sz) (by omega)
  have e2 := nI_toInt (n := tp) (by omega)
  refine ⟨rfl, by omega, by omega, fun j hj => ?_⟩
  obtain ⟨g, q1, q2⟩ := h3 j (by omega)
  refine ⟨g, ?_, ?_⟩
  · rw [← q1]
    congr 1
    omega
  · rw [show (nI sz).toInt.toNat = sz by omega]
    exact q2
theorem past_congr {sz tp : Nat} {kept : PC} {all all' : Nat → Int32} (h : pastN sz tp kept all) (ha : ∀ k, 175 ≤ k → k < 1895 → all' k = all k) : pastN sz tp kept all' := by
  obtain ⟨h1, h2, h3⟩ := h
  refine ⟨h1, h2, fun j hj => ?_⟩
  obtain ⟨g, q1, q2⟩ := h3 j hj
  exact ⟨g, q1, matAt_move q2 (fun _ _ => ⟨rfl, rfl⟩) (fun k hk => ha _ (by omega) (by omega))⟩
def imgI (ic : IC) (isImage all : Nat → Int32) : Prop := ∀ k, k < 3 → (isImage k = 0 ∧ ic k = none) ∨ (isImage k = 1 ∧ ∃ g : SC, ic k = some g ∧ matAt g.2.2.2.2.2.1 g.2.2.2.2.2.2.1 g.2.2.2.2.2.2.2.1 g.2.2.2.2.2.2.2.2.1 all (1895 + 492 * k) ∧ whyAt g.2.2.1 g.2.2.2.1 g.2.2.2.2.1 all (1895 + 492 * k + 86) ∧
    tapeAt g.2.2.2.2.2.2.2.2.2.1 g.2.2.2.2.2.2.2.2.2.2 (all (1895 + 492 * k + 489)) all (1895 + 492 * k + 89) ∧ g.1 = all (1895 + 492 * k + 490) ∧ g.2.1 = all (1895 + 492 * k + 491))
theorem img_congr {ic : IC} {isImage all all' : Nat → Int32} (h : imgI ic isImage all) (ha : ∀ k, 1895 ≤ k → all' k = all k) : imgI ic isImage all' := by
  intro k hk
  rcases h k hk with h | ⟨h1, g, h2, h3, h4, h5, h6, h7⟩
  · exact Or.inl h
  · right
    refine ⟨h1, g, h2, matAt_move h3 (fun _ _ => ⟨rfl, rfl⟩) (fun j _ => ha _ (by omega)), whyAt_move h4 (fun j _ => ha _ (by omega)), ?_, by rw [ha _ (by omega)]; exact h6, by rw [ha _ (by omega)]; exact h7⟩
    rw [ha _ (by omega)]
    exact tapeAt_move h5 (fun _ _ => rfl) (fun j _ => ha _ (by omega))
theorem e175 (s : Nat) : (175 : Int32) + 86 * nI s = nI (175 + 86 * s) := by
  rw [show (175 : Int32) = nI 175 from rfl, show (86 : Int32) = nI 86 from rfl, pk_mul, nI_add]
/-- a matrix is kept by both -/
theorem keep_past {sz tp : Nat} {kept : PC} {all lo up : Nat → Int32} {rows cols : Int32} (h : pastN sz tp kept all) (hm : matAt rows cols lo up all 0) (zf : Nat → Int32) : ∃ sz' tp' kept' all', fX2_keep (nI sz) (nI tp) rows cols lo up zf kept = some (nI sz', nI tp', kept') ∧ fX11_keeps (nI sz) all = some (nI sz', all') ∧ pastN sz' tp' kept' all' ∧ ∀ k, ¬ (175 ≤ k ∧ k < 1895) → all' k = all k := by
  obtain ⟨h1, h2, h3⟩ := h
  obtain ⟨L', U', hcp, hcc⟩ := copy_ok (gLo zf (kept tp)) (gUp (kept tp)) rows cols lo up
  have htop : nI tp + 1 - (nI tp + 1) / 20 * 20 = nI ((tp + 1) % 20) := by
    rw [← nI_succ]
    exact pk_rem (a := tp + 1) (d := 20) (by omega) (by omega) (by omega)
  have hk : fX2_keep (nI sz) (nI tp) rows cols lo up zf kept = some ((if 20 < nI sz + 1 then 20 else nI sz + 1), nI ((tp + 1) % 20), upO kept tp (some (rows, cols, U', L'))) := by
    unfold fX2_keep
    rw [if_neg (nI_pos (by omega)), if_pos (show nI tp < (20 : Int32) from nI_lt (a := tp) (b := 20) (by omega) (by omega)), nI_clamp (by omega), hcp]
    simp only [obs]
    rw [htop]
  by_cases hs : sz = 20
  · subst hs
    obtain ⟨a1, c1, d1⟩ := copies_ok (f := 261) (t := 175) (n := 1634) (by omega) (by omega) (Or.inl (by omega)) all
    obtain ⟨a2, c2, d2⟩ := copies_ok (f := 0) (t := 175 + 86 * 19) (n := 86) (by omega) (by omega) (Or.inr (by omega)) a1
    refine ⟨20, (tp + 1) % 20, upO kept tp (some (rows, cols, U', L')), a2, ?_, ?_, ⟨by omega, by omega, fun j hj => ?_⟩, fun k hk => ?_⟩
    · rw [hk, if_pos (show (20 : Int32) < nI 20 + 1 by decide)]
      rfl
    · unfold fX11_keeps fX11_keeps_32
      rw [if_pos (show nI 20 = 20 from rfl)]
      rw [show nI 261 = 261 from rfl, show nI 175 = 175 from rfl, show nI 1634 = 1634 from rfl] at c1
      rw [c1]
      simp only [obs, ltp]
      rw [show nI 20 - 1 = nI 19 from rfl, e175 19]
      rw [show nI 0 = 0 from rfl, show nI 86 = 86 from rfl] at c2
      rw [c2]
      simp only [obs]
      rfl
    · by_cases e : j = 0
      · subst e
        refine ⟨(rows, cols, U', L'), ?_, ?_⟩
        · rw [show ((tp + 1) % 20 + 39 - 0) % 20 = tp by omega, upO_at]
        · refine matAt_move hm hcc (fun k hk => ?_)
          rw [d2, if_pos (by omega), d1, if_neg (by omega)]
          exact congrArg all (by omega)
      · obtain ⟨g, q1, q2⟩ := h3 (j - 1) (by omega)
        refine ⟨g, ?_, ?_⟩
        · rw [upO_ne (by omega), ← q1]
          exact congrArg kept (by omega)
        · refine matAt_move q2 (fun _ _ => ⟨rfl, rfl⟩) (fun k hk => ?_)
          rw [d2, if_neg (by omega), d1, if_pos (by omega)]
          exact congrArg all (by omega)
    · rw [d2, if_neg (by omega), d1, if_neg (by omega)]
  · obtain ⟨a2, c2, d2⟩ := copies_ok (f := 0) (t := 175 + 86 * sz) (n := 86) (by omega) (by omega) (Or.inr (by omega)) all
    refine ⟨sz + 1, (tp + 1) % 20, upO kept tp (some (rows, cols, U', L')), a2, ?_, ?_, ⟨by omega, by omega, fun j hj => ?_⟩, fun k hk => ?_⟩
    · rw [hk, ← nI_succ, if_neg (show ¬ (20 : Int32) < nI (sz + 1) from nI_nlt (a := 20) (b := sz + 1) (by omega) (by omega))]
    · unfold fX11_keeps fX11_keeps_32
      rw [if_neg (show ¬ nI sz = 20 from fun e => hs ((nI_eq (b := 20) (by omega) (by omega)).mp e)), e175 sz]
      rw [show nI 0 = 0 from rfl, show nI 86 = 86 from rfl] at c2
      rw [c2]
      simp only [obs, ltp, ← nI_succ]
    · by_cases e : j = 0
      · subst e
        refine ⟨(rows, cols, U', L'), ?_, ?_⟩
        · rw [show ((tp + 1) % 20 + 39 - 0) % 20 = tp by omega, upO_at]
        · refine matAt_move hm hcc (fun k hk => ?_)
          rw [d2, if_pos (by omega)]
          exact congrArg all (by omega)
      · obtain ⟨g, q1, q2⟩ := h3 (j - 1) (by omega)
        refine ⟨g, ?_, ?_⟩
        · rw [upO_ne (by omega), ← q1]
          exact congrArg kept (by omega)
        · refine matAt_move q2 (fun _ _ => ⟨rfl, rfl⟩) (fun k hk => ?_)
          rw [d2, if_neg (by omega)]
          exact congrArg all (by omega)
    · rw [d2, if_neg (by omega)]
theorem acted_no {p1 : Int32} (hp : ¬ p1 ≤ 0) (yu brr bcc : Int32) (all cl cu : Nat → Int32) : fX11_acted p1 yu brr bcc all cl cu = some (p1, yu, upd (upd (upd all 86 p1) 87 brr) 88 bcc) := by
  unfold fX11_acted
  rw [show (86 : Int32) = nI 86 from rfl, show (87 : Int32) = nI 87 from rfl, show (88 : Int32) = nI 88 from rfl, inB_ok (by omega) (by omega), ltp, inB_ok (by omega) (by omega), ltp, inB_ok (by omega) (by omega), ltp, if_neg hp, nI_clamp (by omega), nI_clamp (by omega), nI_clamp (by omega)]
theorem acted_yes (yu brr bcc : Int32) (all cl cu : Nat → Int32) : fX11_acted 0 yu brr bcc all cl cu = ((fX11_keeps yu (upd (upd (upd all 86 0) 87 brr) 88 bcc)).bind fun u_4 => (fX11_becomes 0 u_4.2 cl cu).bind fun u_5 => some (0, u_4.1, u_5)) := by
  unfold fX11_acted
  rw [show (86 : Int32) = nI 86 from rfl, show (87 : Int32) = nI 87 from rfl, show (88 : Int32) = nI 88 from rfl, inB_ok (by omega) (by omega), ltp, inB_ok (by omega) (by omega), ltp, inB_ok (by omega) (by omega), ltp, if_pos (show (0 : Int32) ≤ 0 by decide), nI_clamp (by omega), nI_clamp (by omega), nI_clamp (by omega)]
theorem upd3 {all : Nat → Int32} {x y z : Int32} {k : Nat} (h : ¬ (86 ≤ k ∧ k < 89)) : upd (upd (upd all 86 x) 87 y) 88 z k = all k := by
  rw [pk_un (by omega), pk_un (by omega), pk_un (by omega)]
theorem upd3_why (all : Nat → Int32) (x y z : Int32) : upd (upd (upd all 86 x) 87 y) 88 z 86 = x ∧ upd (upd (upd all 86 x) 87 y) 88 z 87 = y ∧ upd (upd (upd all 86 x) 87 y) 88 z 88 = z := by
  refine ⟨?_, ?_, pk_us⟩
  · rw [pk_un (by omega), pk_un (by omega), pk_us]
  · rw [pk_un (by omega), pk_us]
theorem concl_ok {R C : Nat} (hR6 : R ≤ 6) (hC6 : C ≤ 6) {nf nfp nr nlr nlc : Int32} {ml mu : Nat → Int32} {tl : Int32} {tb : Nat → Int32} {ps pt : Int32} {pk : PC} {ic : IC} {ya ytp yi : Nat → Int32} {yt yk yp yu : Int32} (hI : INV (nf, nfp, nr, nlr, nlc, nI R, nI C, ml, mu, tl, tb) ps pt pk ic ya ytp yi yt yk yp yu) {p1 : Int32} (hp : p1 = 0 ∨ p1 = 1 ∨ p1 = 2 ∨ p1 = 3) (aLR aLC nr' nc' : Int32) (nl nu cl cu : Nat → Int32) (brr bcc : Int32) (h0 : p1 = 0 → nr' = nI R ∧ nc' = nI C ∧ eqG R C nu nl cu cl) (h3 : p1 = 3 → aLR = brr ∧ aLC = bcc) (zf : Nat → Int32) :
    ∃ u v, fX10_conclude p1 aLR aLC nr' nc' nl nu (nI R) (nI C) ml mu ps pt pk zf = some u ∧ fX11_acted p1 yu brr bcc ya cl cu = some v ∧ u.1 = v.1 ∧ INV (nf, nfp, u.2.1, u.2.2.1, u.2.2.2.1, u.2.2.2.2.1, u.2.2.2.2.2.1, u.2.2.2.2.2.2.1, u.2.2.2.2.2.2.2.1, tl, tb) u.2.2.2.2.2.2.2.2.1 u.2.2.2.2.2.2.2.2.2.1 u.2.2.2.2.2.2.2.2.2.2 ic v.2.2 ytp yi yt yk yp v.2.1 := by
  obtain ⟨hm, hw, ht, hf, hpast, himg⟩ := hI
  have hw1 := upd3_why ya p1 brr bcc
  have m3 : ∀ k, k < 86 → upd (upd (upd ya 86 p1) 87 brr) 88 bcc (0 + k) = ya (0 + k) := fun k hk => upd3 (by omega)
  have no : ¬ p1 = 0 → ∀ lr lc : Int32, (p1 = 3 → lr = aLR ∧ lc = aLC) → (0 ≤ p1.toInt ∧ p1.toInt ≤ 3) → INV (nf, nfp, p1, lr, lc, nI R, nI C, ml, mu, tl, tb) ps pt pk ic (upd (upd (upd ya 86 p1) 87 brr) 88 bcc) ytp yi yt yk yp yu := by
    intro hn lr lc hl hb
    obtain ⟨sz, tp, rfl, rfl, rfl, hpn⟩ := past_to hpast
    refine ⟨matAt_move hm (fun _ _ => ⟨rfl, rfl⟩) m3, ⟨hw1.1.symm, hb, fun q => ?_⟩, ht, hf, past_of (past_congr hpn (fun k h1 h2 => upd3 (by omega))), img_congr himg (fun k hk => upd3 (by omega))⟩
    rw [(hl q).1, (hl q).2, (h3 q).1, (h3 q).2]
    exact ⟨hw1.2.1.symm, hw1.2.2.symm⟩
  rcases hp with rfl | rfl | rfl | rfl
  · obtain ⟨rfl, rfl, hG⟩ := h0 rfl
    obtain ⟨sz, tp, rfl, rfl, rfl, hpn⟩ := past_to hpast
    have hpn3 := past_congr (all' := upd (upd (upd ya 86 0) 87 brr) 88 bcc) hpn (fun k h1 h2 => upd3 (by omega))
    have hm3 := matAt_move (all' := upd (upd (upd ya 86 0) 87 brr) 88 bcc) (b' := 0) hm (fun _ _ => ⟨rfl, rfl⟩) m3
    obtain ⟨sz', tp', kept', all', k1, k2, hpn', hfr⟩ := keep_past hpn3 hm3 zf
    obtain ⟨all2, b1, b2, b3⟩ := becomes_ok (b := 0) (by omega) cl cu all'
    obtain ⟨L', U', hcp, hcc⟩ := copy_ok ml mu (nI R) (nI C) nl nu
    rw [show nI 0 = 0 from rfl] at b1
    rw [acted_yes, k2]
    unfold fX10_conclude fX10_conclude_28 fX10_conclude_51
    rw [if_neg (by decide), if_neg (by decide), if_pos rfl, k1]
    simp only [obs]
    rw [hcp, b1]
    simp only [obs]
    have hINV : INV (nf, nfp, 0, -1, -1, nI R, nI C, L', U', tl, tb) (nI sz') (nI tp') kept' ic all2 ytp yi yt yk yp (nI sz') := by
      refine ⟨?_, ⟨?_, (show 0 ≤ (0 : Int32).toInt ∧ (0 : Int32).toInt ≤ 3 by decide), fun q => absurd (show (0 : Int32) = 3 from q) (by decide)⟩, ht, hf, past_of (past_congr hpn' (fun k h1 h2 => b3 k (by omega))), img_congr himg (fun k hk => by rw [b3 k (by omega), hfr k (by omega)]; exact upd3 (by omega))⟩
      · obtain ⟨e1, e2, d1, d2, -⟩ := hm3
        dsimp only at e1 e2 d1 d2
        refine ⟨e1.trans (by rw [b3 0 (by omega), hfr 0 (by omega)]), e2.trans (by rw [b3 (0 + 1) (by omega), hfr (0 + 1) (by omega)]), d1, d2, fun r c hr hc => ?_⟩
        dsimp only at hr hc ⊢
        rw [nI_toInt (by omega)] at hr hc
        have hj := lt42 (show r < 6 by omega) (show c < 7 by omega)
        obtain ⟨g1, g2, g3⟩ := hG r c (by omega) (by omega)
        obtain ⟨x1, x2⟩ := b2 _ hj
        rw [(hcc _ hj).1, (hcc _ hj).2, x1, x2, g1, g2]
        exact ⟨rfl, rfl, g3⟩
      · dsimp only
        rw [b3 86 (by omega), hfr 86 (by omega)]
        exact hw1.1.symm
    exact ⟨_, _, rfl, rfl, rfl, hINV⟩
  · rw [acted_no (by decide)]
    unfold fX10_conclude fX10_conclude_28 fX10_conclude_51
    rw [if_neg (by decide), if_neg (by decide), if_neg (by decide)]
    exact ⟨_, _, rfl, rfl, rfl, no (by decide) _ _ (fun q => absurd q (by decide)) (by decide)⟩
  · rw [acted_no (by decide)]
    unfold fX10_conclude fX10_conclude_28 fX10_conclude_51
    rw [if_neg (by decide), if_neg (by decide), if_neg (by decide)]
    exact ⟨_, _, rfl, rfl, rfl, no (by decide) _ _ (fun q => absurd q (by decide)) (by decide)⟩
  · rw [acted_no (by decide)]
    unfold fX10_conclude fX10_conclude_28 fX10_conclude_51
    rw [if_pos rfl, if_pos rfl, if_neg (by decide)]
    exact ⟨_, _, rfl, rfl, rfl, no (by decide) _ _ (fun _ => ⟨rfl, rfl⟩) (by decide)⟩
theorem pure_undo : Pure_undo := by
  intro x_now_fault x_now_faultPlace x_now_refusal x_now_longRow x_now_longColumn x_now_matrix_rows x_now_matrix_columns x_now_matrix_upper x_now_matrix_lower x_now_tape_length x_now_tape_bytes x_images x_past_size x_past_top x_past_kept y_taped y_faultKind y_faultPlace y_undos y_all y_tape y_isImage hI
  have hI0 := hI
  obtain ⟨hm, hw, ht, hf, hpast, himg⟩ := hI
  obtain ⟨sz, tp, rfl, rfl, rfl, hpn⟩ := past_to hpast
  unfold fX10_undo fX11_undo
  by_cases hs : sz = 0
  · subst hs
    rw [if_pos (show nI 0 = 0 from rfl), if_pos (show nI 0 = 0 from rfl)]
    exact ⟨_, _, rfl, rfl, rfl, hI0⟩
  · obtain ⟨h1, h2, h3⟩ := hpn
    obtain ⟨g, q1, q2⟩ := h3 0 (by omega)
    have hs' : ¬ nI sz = 0 := fun e => hs ((nI_z (by omega)).mp e)
    have elast : nI tp + 20 - 1 - (nI tp + 20 - 1) / 20 * 20 = nI ((tp + 19) % 20) := by
      have e : nI tp + 20 - 1 = nI (tp + 19) := by
        rw [show (20 : Int32) = nI 20 from rfl, nI_add, show (1 : Int32) = nI 1 from rfl, pk_sub (by omega)]
        rfl
      rw [e]
      exact pk_rem (a := tp + 19) (d := 20) (by omega) (by omega) (by omega)
    have es : nI sz - 1 = nI (sz - 1) := pk_sub (a := sz) (b := 1) (by omega)
    have ekept : x_past_kept ((tp + 19) % 20) = some g := by rw [← q1]; congr 1; omega
    obtain ⟨L', U', hcp, hcc⟩ := copy_ok x_now_matrix_lower x_now_matrix_upper g.1 g.2.1 g.2.2.2 g.2.2.1
    obtain ⟨a2, c2, d2⟩ := copies_ok (f := 175 + 86 * (sz - 1)) (t := 0) (n := 86) (by omega) (by omega) (Or.inl (by omega)) y_all
    rw [show nI 0 = 0 from rfl, show nI 86 = 86 from rfl] at c2
    have htb : fX2_takeBack (nI sz) (nI tp) x_now_matrix_rows x_now_matrix_columns x_now_matrix_lower x_now_matrix_upper x_past_kept = some (nI (sz - 1), nI ((tp + 19) % 20), g.1, g.2.1, L', U') := by
      unfold fX2_takeBack
      rw [ltp, elast, if_neg hs', if_neg (nI_pos (by omega)), if_pos (show nI ((tp + 19) % 20) < (20 : Int32) from nI_lt (a := (tp + 19) % 20) (b := 20) (by omega) (by omega)), nI_clamp (by omega), ekept]
      dsimp only
      rw [hcp, es]
      rfl
    rw [if_neg hs', if_neg hs', htb, ltp, es, e175, c2]
    simp only [obs]
    have hINV : INV (x_now_fault, x_now_faultPlace, x_now_refusal, x_now_longRow, x_now_longColumn, g.1, g.2.1, L', U', x_now_tape_length, x_now_tape_bytes) (nI (sz - 1)) (nI ((tp + 19) % 20)) x_past_kept x_images a2 y_tape y_isImage y_taped y_faultKind y_faultPlace (nI (sz - 1)) := by
      refine ⟨matAt_move q2 hcc (fun k hk => ?_), whyAt_move hw (fun j hj => ?_), ht, hf, past_of ⟨by omega, by omega, fun j hj => ?_⟩, img_congr himg (fun k hk => ?_)⟩
      · rw [d2, if_pos (by omega)]
        exact congrArg y_all (by omega)
      · rw [d2, if_neg (by omega)]
      · obtain ⟨g', r1, r2⟩ := h3 (j + 1) (by omega)
        refine ⟨g', ?_, matAt_move r2 (fun _ _ => ⟨rfl, rfl⟩) (fun k hk => ?_)⟩
        · rw [← r1]
          exact congrArg x_past_kept (by omega)
        · rw [d2, if_neg (by omega)]
          exact congrArg y_all (by omega)
      · rw [d2, if_neg (by omega)]
    exact ⟨_, _, rfl, rfl, rfl, hINV⟩
