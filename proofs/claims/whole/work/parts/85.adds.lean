/-! A row to which a factor times another is added. -/
/-- a grid of the class beside the reference's copy -/
def eqG (R C : Nat) (U L cu cl : Nat → Int32) : Prop := ∀ r c, r < R → c ≤ C → cu (7 * r + c) = U (7 * r + c) ∧ cl (7 * r + c) = L (7 * r + c) ∧ goodE (U (7 * r + c)) (L (7 * r + c))
theorem eqG_put {R C : Nat} {U L cu cl : Nat → Int32} (h : eqG R C U L cu cl) (k : Nat) {A B : Int32} (hg : goodE A B) : eqG R C (upd U k A) (upd L k B) (upd cu k A) (upd cl k B) := by
  intro r c hr hc
  by_cases e : 7 * r + c = k
  · subst e
    rw [pk_us, pk_us, pk_us, pk_us]
    exact ⟨rfl, rfl, hg⟩
  · rw [pk_un e, pk_un e, pk_un e, pk_un e]
    exact h r c hr hc
theorem one0 : ¬ (1 : Int32) = 0 := by decide
/-- places that fill up -/
def fl (U0 U : Nat → Int32) (r i : Nat) : Bool := !(nz U0 r i) && nz U r i
theorem adds_loop {r o R C : Nat} (hR : R ≤ 6) (hrR : r < R) (hoR : o < R) (hC : C ≤ 6) {a b : Int32} (hab : goodE a b) (U0 L0 : Nat → Int32) (br bc f0 : Int32) : ∀ (m c fuel fuel' : Nat) (U L cu cl : Nat → Int32) (su sl up lo : Int64) (si il : Int32), c + m = C + 1 → m + 1 ≤ fuel → m + 1 ≤ fuel' → eqG R C U L cu cl → (∀ j, ¬ (7 * r ≤ j ∧ j < 7 * r + c) → U j = U0 j ∧ L j = L0 j) →
    (∃ k su' sl' si' U' L' up' lo' il' fl' cu' cl', k ≤ C ∧ fX1_addTimes_3 (nI r) (nI o) a.toInt64 b.toInt64 (nI C) fuel (nI c) L su sl si U = some (nI k, L', su', sl', si', U') ∧ fX11_adds_3 (nI r) (nI o) a.toInt64 b.toInt64 (nI C) fuel' (nI c) up lo il br bc 0 (f0 + nI (cN (fl U0 U r) (min c C))) cl cu = some (up', lo', il', nI r, nI k, 1, fl', cl', cu')) ∨
    (∃ su' sl' si' U' L' up' lo' il' cu' cl', fX1_addTimes_3 (nI r) (nI o) a.toInt64 b.toInt64 (nI C) fuel (nI c) L su sl si U = some (-1, L', su', sl', si', U') ∧ fX11_adds_3 (nI r) (nI o) a.toInt64 b.toInt64 (nI C) fuel' (nI c) up lo il br bc 0 (f0 + nI (cN (fl U0 U r) (min c C))) cl cu = some (up', lo', il', br, bc, 0, f0 + nI (cN (fl U0 U' r) C), cl', cu') ∧ eqG R C U' L' cu' cl' ∧ ∀ j, ¬ (7 * r ≤ j ∧ j < 7 * r + 7) → U' j = U0 j ∧ L' j = L0 j) := by
  have hr : r < 6 := by omega
  have ho : o < 6 := by omega
  intro m
  induction m with
  | zero =>
    intro c fuel fuel' U L cu cl su sl up lo si il hc hf hf' hG hF
    obtain ⟨fuel, rfl⟩ : ∃ f, fuel = f + 1 := ⟨fuel - 1, by omega⟩
    obtain ⟨fuel', rfl⟩ : ∃ f, fuel' = f + 1 := ⟨fuel' - 1, by omega⟩
    obtain rfl : c = C + 1 := by omega
    right
    refine ⟨su, sl, si, U, L, up, lo, il, cu, cl, ?_, ?_, hG, fun j hj => hF j (by omega)⟩
    · rw [fX1_addTimes_3_s, if_pos (nI_lt (by omega) (by omega))]
    · rw [fX11_adds_3_s, if_pos (nI_lt (by omega) (by omega)), Nat.min_eq_right (by omega)]
  | succ m ih =>
    intro c fuel fuel' U L cu cl su sl up lo si il hc hf hf' hG hF
    obtain ⟨fuel, rfl⟩ : ∃ f, fuel = f + 1 := ⟨fuel - 1, by omega⟩
    obtain ⟨fuel', rfl⟩ : ∃ f, fuel' = f + 1 := ⟨fuel' - 1, by omega⟩
    have hro := lt42 ho (show c < 7 by omega)
    have hrr := lt42 hr (show c < 7 by omega)
    obtain ⟨e1, e2, g1⟩ := hG o c hoR (by omega)
    obtain ⟨e3, e4, g2⟩ := hG r c hrR (by omega)
    have hx : ∀ X, fX1_addTimes_3 (nI r) (nI o) a.toInt64 b.toInt64 (nI C) (fuel + 1) (nI c) L su sl si U = X ↔ ((fX3_times a.toInt64 b.toInt64 (U (7 * o + c)).toInt64 (L (7 * o + c)).toInt64 0).bind fun u_2 => (fX3_plus (U (7 * r + c)).toInt64 (L (7 * r + c)).toInt64 u_2.1 u_2.2.1 u_2.2.2).bind fun u_5 => if u_5.2.2 = 0 then fX1_addTimes_3 (nI r) (nI o) a.toInt64 b.toInt64 (nI C) fuel (nI (c + 1)) (upd L (7 * r + c) u_5.2.1.toInt32) u_5.1 u_5.2.1 u_5.2.2 (upd U (7 * r + c) u_5.1.toInt32) else some (nI c, L, u_5.1, u_5.2.1, u_5.2.2, U)) = X := by
      intro X
      rw [fX1_addTimes_3_s, if_neg (nI_nlt (by omega) (by omega))]
      simp only [load_ok ho (show c < 7 by omega), upperAt_ok hr (show c < 7 by omega), lowerAt_ok hr (show c < 7 by omega), put_ok hr (show c < 7 by omega), Option.bind_some, ← nI_succ]
    have hy : ∀ F X, fX11_adds_3 (nI r) (nI o) a.toInt64 b.toInt64 (nI C) (fuel' + 1) (nI c) up lo il br bc 0 F cl cu = X ↔ ((fX11_times a.toInt64 b.toInt64 (U (7 * o + c)).toInt64 (L (7 * o + c)).toInt64).bind fun u_4 => if u_4.2.2 = 0 then ((fX11_plus (U (7 * r + c)).toInt64 (L (7 * r + c)).toInt64 u_4.1 u_4.2.1).bind fun u_5 => if u_5.2.2 = 0 then (fX11_adds_115 (nI r) (nI C) (nI c) F cl cu (fX11_adds_3 (nI r) (nI o) a.toInt64 b.toInt64 (nI C) fuel') (nI (7 * r + c)) u_5.1 u_5.2.1 u_5.2.2 br bc 0) else (fX11_adds_115 (nI r) (nI C) (nI c) F cl cu (fX11_adds_3 (nI r) (nI o) a.toInt64 b.toInt64 (nI C) fuel') (nI (7 * r + c)) u_5.1 u_5.2.1 u_5.2.2 (nI r) (nI c) 1)) else some (u_4.1, u_4.2.1, u_4.2.2, nI r, nI c, 1, F, cl, cu)) = X := by
      intro F X
      rw [fX11_adds_3_s, if_neg (nI_nlt (by omega) (by omega)), if_pos rfl]
      simp only [cell_ok, Option.bind_some, inB_ok (n := 42) (i := 7 * o + c) hro (by omega), inB_ok (n := 42) (i := 7 * r + c) hrr (by omega), nI_clamp (n := 7 * o + c) (by omega), nI_clamp (n := 7 * r + c) (by omega), e1, e2, e3, e4, fX11_adds_65, fX11_breaks, ↓reduceIte]
    simp only [hx, hy]
    rw [times_comm]
    rcases times2 g1 hab with ⟨t1, x, y, t2⟩ | ⟨A, B, gA, t1, t2⟩
    · left
      rw [t1, t2]
      simp only [Option.bind_some, plus_was, if_neg one0]
      exact ⟨c, _, _, _, _, _, _, _, _, _, _, _, by omega, rfl, rfl⟩
    · rw [t1, t2]
      simp only [Option.bind_some, ↓reduceIte]
      rw [plus_comm]
      rcases plus2 gA g2 with ⟨t3, x, y, t4⟩ | ⟨A', B', gA', t3, t4⟩
      · left
        rw [t3, t4]
        simp only [Option.bind_some, fX11_adds_115, if_neg one0]
        exact ⟨c, _, _, _, _, _, _, _, _, _, _, _, by omega, rfl, rfl⟩
      · rw [t3, t4]
        simp only [Option.bind_some, ↓reduceIte, i64_32]
        have hfr : ∀ j, ¬ (7 * r ≤ j ∧ j < 7 * r + (c + 1)) → upd U (7 * r + c) A' j = U0 j ∧ upd L (7 * r + c) B' j = L0 j := by
          intro j hj
          rw [pk_un (by omega), pk_un (by omega)]
          exact hF j (by omega)
        have hc0 : ∀ i, i < c → fl U0 (upd U (7 * r + c) A') r i = fl U0 U r i := by
          intro i hi
          unfold fl nz
          rw [pk_un (by omega)]
        have hUc : U (7 * r + c) = U0 (7 * r + c) := (hF _ (by omega)).1
        have h115 : fX11_adds_115 (nI r) (nI C) (nI c) (f0 + nI (cN (fl U0 U r) (min c C))) cl cu (fX11_adds_3 (nI r) (nI o) a.toInt64 b.toInt64 (nI C) fuel') (nI (7 * r + c)) A'.toInt64 B'.toInt64 0 br bc 0 = fX11_adds_3 (nI r) (nI o) a.toInt64 b.toInt64 (nI C) fuel' (nI (c + 1)) A'.toInt64 B'.toInt64 0 br bc 0 (f0 + nI (cN (fl U0 (upd U (7 * r + c) A') r) (min (c + 1) C))) (upd cl (7 * r + c) B') (upd cu (7 * r + c) A') := by
          unfold fX11_adds_115 fX11_adds_161
          simp only [lt_def, lays_ok hr (show c < 7 by omega), Option.bind_some, i64_32, ← nI_succ, Int32.add_zero, ↓reduceIte]
          by_cases hcC : C ≤ c
          · rw [if_pos (nI_le hcC (by omega)), Nat.min_eq_right hcC, Nat.min_eq_right (by omega), cN_congr C (fun i hi => (hc0 i (by omega)).symm)]
          · rw [if_neg (nI_ge (by omega) (by omega)), inB_ok hrr (by omega), nI_clamp (by omega), e3, Nat.min_eq_left (by omega), Nat.min_eq_left (by omega), cN_s, cN_congr c hc0]
            have hcmp : lg_cmp A'.toInt64 0 = 0 ↔ A' = 0 := by
              rw [lg_cmp_eq]
              constructor
              · intro h; rw [← i64_32 A', h]; rfl
              · intro h; rw [h]; rfl
            have hfl : fl U0 (upd U (7 * r + c) A') r c = (decide (U (7 * r + c) = 0) && decide (¬ A' = 0)) := by
              unfold fl nz
              rw [pk_us, hUc]
              simp
            by_cases hu : U (7 * r + c) = 0
            · rw [if_pos hu]
              by_cases hA : A' = 0
              · rw [if_pos (hcmp.mpr hA), if_neg (by rw [hfl]; simp [hA])]
                rfl
              · rw [if_neg (fun h => hA (hcmp.mp h)), if_pos (by rw [hfl]; simp [hA, hu])]
                have e9 : f0 + nI (cN (fl U0 U r) c) + 1 = f0 + nI (cN (fl U0 U r) c + 1) := by rw [nI_succ (cN (fl U0 U r) c), Int32.add_assoc]
                rw [e9]
            · rw [if_neg hu, if_neg (by rw [hfl]; simp [hu])]
              rfl
        rw [h115]
        exact ih (c + 1) fuel fuel' _ _ _ _ _ _ _ _ _ _ (by omega) (by omega) (by omega) (eqG_put hG _ gA') hfr
