/-! Cells of a grid: row r, column c lies at 7 r + c. -/
theorem nI_cell (r c : Nat) : nI r * 7 + nI c = nI (7 * r + c) := by
  rw [show (7 : Int32) = nI 7 from rfl, pk_mul, nI_add]
  congr 1
  omega
theorem nI_cell' (r c : Nat) : 7 * nI r + nI c = nI (7 * r + c) := by
  rw [show (7 : Int32) = nI 7 from rfl, pk_mul, nI_add]
theorem lt42 {r c : Nat} (hr : r < 6) (hc : c < 7) : 7 * r + c < 42 := by omega
theorem nI_lt0 {n : Nat} (h : n < 2 ^ 31) : ¬ nI n < 0 := nI_pos h
theorem nI_ge42 {n : Nat} (h : n < 42) : ¬ (42 : Int32) ≤ nI n := nI_ge (a := n) (b := 42) h (by omega)
theorem inB_ok {α : Type} {n i : Nat} {K : Option α} (h : i < n) (hn : n < 2 ^ 31) : inB n (nI i) K = K := by
  unfold inB
  rw [if_neg (nI_in h hn)]
theorem upperAt_ok {r c : Nat} (hr : r < 6) (hc : c < 7) (U : Nat → Int32) : fX1_upperAt (nI r) (nI c) U = some (U (7 * r + c)) := by
  have h := lt42 hr hc
  simp only [fX1_upperAt, lt_def, nI_cell, nI_lt0 (n := 7 * r + c) (by omega), nI_ge42 h, inB_ok (n := 42) h (by omega), nI_clamp (n := 7 * r + c) (by omega), ↓reduceIte]
theorem lowerAt_ok {r c : Nat} (hr : r < 6) (hc : c < 7) (U : Nat → Int32) : fX1_lowerAt (nI r) (nI c) U = some (U (7 * r + c)) := by
  have h := lt42 hr hc
  simp only [fX1_lowerAt, lt_def, nI_cell, nI_lt0 (n := 7 * r + c) (by omega), nI_ge42 h, inB_ok (n := 42) h (by omega), nI_clamp (n := 7 * r + c) (by omega), ↓reduceIte]
theorem put_ok {r c : Nat} (hr : r < 6) (hc : c < 7) (Lo Up : Nat → Int32) (pu pl : Int64) : fX1_put (nI r) (nI c) Lo Up pu pl = some (upd Lo (7 * r + c) pl.toInt32, upd Up (7 * r + c) pu.toInt32) := by
  have h := lt42 hr hc
  simp only [fX1_put, lt_def, nI_cell, nI_lt0 (n := 7 * r + c) (by omega), nI_ge42 h, inB_ok (n := 42) h (by omega), nI_clamp (n := 7 * r + c) (by omega), ↓reduceIte]
theorem cell_ok (r c : Nat) : fX11_cell (nI r) (nI c) = some (nI (7 * r + c)) := by
  unfold fX11_cell
  rw [nI_cell']
theorem lays_ok {r c : Nat} (hr : r < 6) (hc : c < 7) (Lo Up : Nat → Int32) (pu pl : Int64) : fX11_laysCell (nI r) (nI c) pu pl Lo Up = some (upd Lo (7 * r + c) pl.toInt32, upd Up (7 * r + c) pu.toInt32) := by
  have h := lt42 hr hc
  simp only [fX11_laysCell, lt_def, cell_ok, Option.bind_some, inB_ok (n := 42) h (by omega), nI_clamp (n := 7 * r + c) (by omega)]
theorem load_ok {r c : Nat} (hr : r < 6) (hc : c < 7) (Lo Up : Nat → Int32) : fX3_load (nI r) (nI c) Lo Up = some ((Up (7 * r + c)).toInt64, (Lo (7 * r + c)).toInt64, 0) := by
  simp only [fX3_load, lt_def, upperAt_ok hr hc, lowerAt_ok hr hc, Option.bind_some]
/-- an int of a matrix' size -/
theorem dim_ok {x : Int32} (h1 : 1 ≤ x.toInt) (h2 : x.toInt ≤ 6) : ∃ n : Nat, 1 ≤ n ∧ n ≤ 6 ∧ x = nI n := by
  refine ⟨x.toInt.toNat, by omega, by omega, ?_⟩
  apply Int32.toInt_inj.mp
  rw [nI_toInt (by omega)]
  omega
/-! The plain methods. -/
theorem pure_end : Pure_end := by
  intro p1 nf nfp nr nlr nlc mr mc mu ml tl tb ic ps pt pk yt yk yp yu ya ytp yi h
  obtain ⟨hm, hw, ⟨e, hlen, hb⟩, hf, hp, hi⟩ := h
  dsimp only at e hlen hb
  subst e
  by_cases h1 : p1 < 0
  · refine ⟨(-1, tl), (-1, tl), ?_, ?_, rfl, hm, hw, ⟨rfl, hlen, hb⟩, hf, hp, hi⟩
    · unfold fX10_end
      rw [if_pos h1]
    · unfold fX11_end fX11_isIn
      rw [if_pos h1]
      rfl
  · by_cases h2 : p1 ≤ tl
    · refine ⟨(p1, p1), (p1, p1), ?_, ?_, rfl, hm, hw, ⟨rfl, ?_, hb⟩, hf, hp, hi⟩
      · unfold fX10_end
        rw [if_neg h1, if_pos h2]
      · unfold fX11_end fX11_isIn
        rw [if_neg h1, if_neg (fun h => by rw [Int32.lt_iff_toInt_lt] at h; rw [Int32.le_iff_toInt_le] at h2; omega)]
        rfl
      · dsimp only
        rw [Int32.le_iff_toInt_le] at h2
        rw [Int32.lt_iff_toInt_lt] at h1
        have e0 : (0 : Int32).toInt = 0 := rfl
        omega
    · refine ⟨(-1, tl), (-1, tl), ?_, ?_, rfl, hm, hw, ⟨rfl, hlen, hb⟩, hf, hp, hi⟩
      · unfold fX10_end
        rw [if_neg h1, if_neg h2]
      · unfold fX11_end fX11_isIn
        rw [if_neg h1, if_pos (by rw [Int32.lt_iff_toInt_lt]; rw [Int32.le_iff_toInt_le] at h2; omega)]
        rfl
theorem pure_fault : Pure_fault := by
  intro p1 nf nfp nr nlr nlc mr mc mu ml tl tb ic ps pt pk yt yk yp yu ya ytp yi h
  have h0 := h
  obtain ⟨hm, hw, ht, ⟨e1, e2⟩, hp, hi⟩ := h
  dsimp only at e1 e2
  subst e1
  subst e2
  unfold fX10_fault fX11_fault
  by_cases h1 : p1 = 0
  · exact ⟨nf, nf, by rw [if_pos h1], by rw [if_pos h1], rfl, h0⟩
  · by_cases h2 : p1 = 1
    · exact ⟨nfp, nfp, by rw [if_neg h1, if_pos h2], by rw [if_neg h1, if_pos h2], rfl, h0⟩
    · exact ⟨-1, -1, by rw [if_neg h1, if_neg h2], by rw [if_neg h1, if_neg h2], rfl, h0⟩
theorem pure_why : Pure_why := by
  intro p1 p2 nf nfp nr nlr nlc mr mc mu ml tl tb ic ps pt pk yt yk yp yu ya ytp yi h
  have h0 := h
  obtain ⟨hm, ⟨e1, hr, hl⟩, ht, hf, hp, hi⟩ := h
  dsimp only at e1 hr hl
  have e86 : ya (86 : Int32).toNatClampNeg = nr := e1.symm
  have hin : ∀ {K : Option Int32}, inB 3371 86 K = K := fun {K} => inB_ok (n := 3371) (i := 86) (by omega) (by omega)
  have i11 : fX11_isIn p1 0 1 = if p1 < 0 then some 0 else if 1 < p1 then some 0 else some 1 := rfl
  have i12 : fX11_isIn p2 0 2 = if p2 < 0 then some 0 else if 2 < p2 then some 0 else some 1 := rfl
  by_cases h1 : p1 < 0
  · refine ⟨-1, -1, ?_, ?_, rfl, h0⟩
    · unfold fX10_why
      rw [if_pos h1]
    · unfold fX11_why
      rw [i11, if_pos h1]
      rfl
  by_cases h2 : 1 < p1
  · refine ⟨-1, -1, ?_, ?_, rfl, h0⟩
    · unfold fX10_why
      rw [if_neg h1, if_pos h2]
    · unfold fX11_why
      rw [i11, if_neg h1, if_pos h2]
      rfl
  by_cases h3 : p2 < 0
  · refine ⟨-1, -1, ?_, ?_, rfl, h0⟩
    · unfold fX10_why
      rw [if_neg h1, if_neg h2, if_pos h3]
    · unfold fX11_why
      rw [i11, if_neg h1, if_neg h2, i12, if_pos h3]
      rfl
  by_cases h4 : p2 ≤ 2
  · have h4' : ¬ 2 < p2 := fun h => by rw [Int32.lt_iff_toInt_lt] at h; rw [Int32.le_iff_toInt_le] at h4; omega
    have hx : fX10_why p1 p2 nr nlr nlc = (if p1 = 0 then (if nr = 0 then fX10_why_58 p1 p2 nr nlr nlc 0 else fX10_why_58 p1 p2 nr nlr nlc 1) else (if nr = 3 then fX10_why_58 p1 p2 nr nlr nlc 1 else fX10_why_58 p1 p2 nr nlr nlc 0)) := by
      unfold fX10_why
      rw [if_neg h1, if_neg h2, if_neg h3, if_pos h4]
    have hy : fX11_why p1 p2 ya = (if nr = 0 then some 0 else (if p1 = 1 then (if nr = 3 then fX11_why_48 p1 p2 ya else some 0) else fX11_why_48 p1 p2 ya)) := by
      unfold fX11_why
      rw [i11, if_neg h1, if_neg h2, i12, if_neg h3, if_neg h4']
      simp only [Option.bind_some]
      rw [if_neg (show ¬ (1 : Int32) = 0 by decide), if_neg (show ¬ (1 : Int32) = 0 by decide), hin, e86, hin]
    have hp1 : p1 = 0 ∨ p1 = 1 := by
      have e0 : (0 : Int32).toInt = 0 := rfl
      have e2 : (1 : Int32).toInt = 1 := rfl
      rw [Int32.lt_iff_toInt_lt] at h1 h2
      rcases (show p1.toInt = 0 ∨ p1.toInt = 1 by omega) with h | h
      · exact Or.inl (Int32.toInt_inj.mp (h.trans e0.symm))
      · exact Or.inr (Int32.toInt_inj.mp (h.trans e2.symm))
    have hp2 : p2 = 0 ∨ p2 = 1 ∨ p2 = 2 := by
      have e0 : (0 : Int32).toInt = 0 := rfl
      have e2 : (1 : Int32).toInt = 1 := rfl
      have e3 : (2 : Int32).toInt = 2 := rfl
      rw [Int32.lt_iff_toInt_lt] at h3
      rw [Int32.le_iff_toInt_le] at h4
      rcases (show p2.toInt = 0 ∨ p2.toInt = 1 ∨ p2.toInt = 2 by omega) with h | h | h
      · exact Or.inl (Int32.toInt_inj.mp (h.trans e0.symm))
      · exact Or.inr (Or.inl (Int32.toInt_inj.mp (h.trans e2.symm)))
      · exact Or.inr (Or.inr (Int32.toInt_inj.mp (h.trans e3.symm)))
    by_cases hz : nr = 0
    · refine ⟨0, 0, ?_, by rw [hy, if_pos hz], rfl, h0⟩
      rcases hp1 with rfl | rfl
      · rw [hx, if_pos rfl, if_pos hz]; rfl
      · rw [hx, if_neg (by decide), if_neg (fun h => by rw [hz] at h; exact absurd h (by decide))]; rfl
    · rcases hp1 with rfl | rfl
      · have hx2 : fX10_why 0 p2 nr nlr nlc = fX10_why_58 0 p2 nr nlr nlc 1 := by rw [hx, if_pos rfl, if_neg hz]
        have hy2 : fX11_why 0 p2 ya = fX11_why_48 0 p2 ya := by rw [hy, if_neg hz, if_neg (by decide)]
        rw [hx2, hy2]
        rcases hp2 with rfl | rfl | rfl
        · exact ⟨nr, nr, rfl, by unfold fX11_why_48; rw [if_pos rfl, if_pos rfl, hin, e86], rfl, h0⟩
        · exact ⟨-1, -1, rfl, rfl, rfl, h0⟩
        · exact ⟨-1, -1, rfl, rfl, rfl, h0⟩
      · by_cases h5 : nr = 3
        · have hx2 : fX10_why 1 p2 nr nlr nlc = fX10_why_58 1 p2 nr nlr nlc 1 := by rw [hx, if_neg (by decide), if_pos h5]
          have hy2 : fX11_why 1 p2 ya = fX11_why_48 1 p2 ya := by rw [hy, if_neg hz, if_pos rfl, if_pos h5]
          rw [hx2, hy2]
          obtain ⟨l1, l2⟩ := hl h5
          rcases hp2 with rfl | rfl | rfl
          · exact ⟨4, 4, rfl, rfl, rfl, h0⟩
          · refine ⟨nlr, nlr, rfl, ?_, rfl, h0⟩
            unfold fX11_why_48
            rw [if_neg (by decide), if_neg (by decide), show (86 : Int32) + 1 = nI 87 from rfl, inB_ok (by omega) (by omega), nI_clamp (by omega), l1]
          · refine ⟨nlc, nlc, rfl, ?_, rfl, h0⟩
            unfold fX11_why_48
            rw [if_neg (by decide), if_neg (by decide), show (86 : Int32) + 2 = nI 88 from rfl, inB_ok (by omega) (by omega), nI_clamp (by omega), l2]
        · refine ⟨0, 0, by rw [hx, if_neg (by decide), if_neg h5]; rfl, by rw [hy, if_neg hz, if_pos rfl, if_neg h5], rfl, h0⟩
  · refine ⟨-1, -1, ?_, ?_, rfl, h0⟩
    · unfold fX10_why
      rw [if_neg h1, if_neg h2, if_neg h3, if_neg h4]
    · unfold fX11_why
      rw [i11, if_neg h1, if_neg h2, i12, if_neg h3, if_pos (by rw [Int32.lt_iff_toInt_lt]; rw [Int32.le_iff_toInt_le] at h4; omega)]
      rfl
