/-! All is as an image has it; the beginning. -/
theorem again_loop {b : Nat} (hb : b + 492 ≤ 3371) (all tape0 : Nat → Int32) : ∀ (m v fuel : Nat) (tape : Nat → Int32), v + m = 400 → m + 1 ≤ fuel → (∀ j, tape j = if j < v then all (b + 89 + j) else tape0 j) → ∃ tape', fX11_again_40 (nI b) all fuel (nI v) tape = fX11_again_70 (nI b) all tape' ∧ ∀ j, tape' j = if j < 400 then all (b + 89 + j) else tape0 j := by
  intro m
  induction m with
  | zero =>
    intro v fuel tape hv hf h
    obtain ⟨fuel, rfl⟩ : ∃ f, fuel = f + 1 := ⟨fuel - 1, by omega⟩
    obtain rfl : v = 400 := by omega
    exact ⟨tape, by rw [fX11_again_40_s, if_pos (show (400 : Int32) ≤ nI 400 by decide)], h⟩
  | succ m ih =>
    intro v fuel tape hv hf h
    obtain ⟨fuel, rfl⟩ : ∃ f, fuel = f + 1 := ⟨fuel - 1, by omega⟩
    have e : nI b + 89 + nI v = nI (b + 89 + v) := nI3 b 89 v
    rw [fX11_again_40_s, if_neg (show ¬ (400 : Int32) ≤ nI v from nI_ge (a := v) (b := 400) (by omega) (by omega)), e, inB_ok (by omega) (by omega), ltp, inB_ok (by omega) (by omega), ltp, nI_clamp (by omega), nI_clamp (by omega), ← nI_succ]
    refine ih (v + 1) fuel _ (by omega) (by omega) (fun j => ?_)
    by_cases e : j = v
    · subst e
      rw [pk_us, if_pos (by omega)]
    · rw [pk_un e, h j]
      by_cases e2 : j < v
      · rw [if_pos e2, if_pos (by omega)]
      · rw [if_neg e2, if_neg (by omega)]
theorem pure_again : Pure_again := by
  intro p1 x_now_fault x_now_faultPlace x_now_refusal x_now_longRow x_now_longColumn x_now_matrix_rows x_now_matrix_columns x_now_matrix_upper x_now_matrix_lower x_now_tape_length x_now_tape_bytes x_images x_past_size x_past_top x_past_kept y_taped y_faultKind y_faultPlace y_undos y_all y_tape y_isImage hI
  have hI0 := hI
  obtain ⟨hm, hw, ht, hf, hp, hi⟩ := hI
  dsimp only at hm hw ht hf hp hi
  rcases rule_cases p1 with ⟨k, hk, rfl, a1, a2⟩ | ⟨a1, a2⟩
  · rcases hi k hk with ⟨i1, i2⟩ | ⟨i1, g, i2, h3, h4, h5, h6, h7⟩
    · have hx : fX10_again (nI k) (x_now_fault, x_now_faultPlace, x_now_refusal, x_now_longRow, x_now_longColumn, x_now_matrix_rows, x_now_matrix_columns, x_now_matrix_lower, x_now_matrix_upper, x_now_tape_length, x_now_tape_bytes) x_past_size x_past_top x_images = some (0, (x_now_fault, x_now_faultPlace, x_now_refusal, x_now_longRow, x_now_longColumn, x_now_matrix_rows, x_now_matrix_columns, x_now_matrix_lower, x_now_matrix_upper, x_now_tape_length, x_now_tape_bytes), x_past_size, x_past_top) := by
        unfold fX10_again
        rw [if_neg (nI_pos (by omega)), if_pos (show nI k < (3 : Int32) from nI_lt (a := k) (b := 3) hk (by omega)), nI_clamp (by omega), i2]
      have hy : fX11_again (nI k) y_taped y_faultKind y_faultPlace y_undos y_all y_isImage y_tape = some (0, y_taped, y_faultKind, y_faultPlace, y_undos, y_all, y_tape) := by
        unfold fX11_again
        rw [a2]
        simp only [obs, if_neg one0]
        rw [inB_ok hk (by omega), nI_clamp (by omega), if_pos i1]
      exact ⟨_, _, hx, hy, rfl, hI0⟩
    · obtain ⟨lo', up', tb', s1, s2, s3⟩ := state_copy x_now_matrix_lower x_now_matrix_upper x_now_tape_bytes g.1 g.2.1 g.2.2.1 g.2.2.2.1 g.2.2.2.2.1 g.2.2.2.2.2.1 g.2.2.2.2.2.2.1 g.2.2.2.2.2.2.2.1 g.2.2.2.2.2.2.2.2.1 g.2.2.2.2.2.2.2.2.2.1 g.2.2.2.2.2.2.2.2.2.2 (fun j hj => (h5.2.2 j hj).1)
      obtain ⟨al1, c1, d1⟩ := copies_ok (f := 1895 + 492 * k) (t := 0) (n := 89) (by omega) (by omega) (Or.inl (by omega)) y_all
      obtain ⟨tp1, l1, l2⟩ := again_loop (b := 1895 + 492 * k) (by omega) al1 y_tape 400 0 fuelN y_tape (by omega) (by unfold fuelN; omega) (fun j => by rw [if_neg (by omega)])
      rw [show nI 0 = 0 from rfl, show nI 89 = 89 from rfl] at c1
      rw [show nI 0 = 0 from rfl] at l1
      have hO : ∀ j, 89 ≤ j → al1 j = y_all j := fun j hj => by rw [d1, if_neg (by omega)]
      have e3 : nI (1895 + 492 * k) + 89 + 400 = nI (1895 + 492 * k + 489) := by
        rw [show (89 : Int32) = nI 89 from rfl, show (400 : Int32) = nI 400 from rfl, nI_add, nI_add]
      have e4 : nI (1895 + 492 * k) + 89 + 400 + 1 = nI (1895 + 492 * k + 490) := by
        rw [e3, show (1 : Int32) = nI 1 from rfl, nI_add]
      have e5 : nI (1895 + 492 * k) + 89 + 400 + 2 = nI (1895 + 492 * k + 491) := by
        rw [e3, show (2 : Int32) = nI 2 from rfl, nI_add]
      have hx : fX10_again (nI k) (x_now_fault, x_now_faultPlace, x_now_refusal, x_now_longRow, x_now_longColumn, x_now_matrix_rows, x_now_matrix_columns, x_now_matrix_lower, x_now_matrix_upper, x_now_tape_length, x_now_tape_bytes) x_past_size x_past_top x_images = some (1, (g.1, g.2.1, g.2.2.1, g.2.2.2.1, g.2.2.2.2.1, g.2.2.2.2.2.1, g.2.2.2.2.2.2.1, lo', up', g.2.2.2.2.2.2.2.2.2.1, tb'), 0, 0) := by
        unfold fX10_again
        rw [if_neg (nI_pos (by omega)), if_pos (show nI k < (3 : Int32) from nI_lt (a := k) (b := 3) hk (by omega)), nI_clamp (by omega), i2]
        dsimp only
        rw [s1]
        rfl
      have hy : fX11_again (nI k) y_taped y_faultKind y_faultPlace y_undos y_all y_isImage y_tape = some (1, al1 (1895 + 492 * k + 489), al1 (1895 + 492 * k + 490), al1 (1895 + 492 * k + 491), 0, al1, tp1) := by
        unfold fX11_again
        rw [a2]
        simp only [obs, if_neg one0]
        rw [inB_ok hk (by omega), nI_clamp (by omega), if_neg (by rw [i1]; exact one0), ltp, e1895, c1]
        simp only [obs]
        rw [l1]
        unfold fX11_again_70
        rw [e5, e4, e3]
        simp only [ltp, inB_ok (n := 3371) (i := 1895 + 492 * k + 489) (by omega) (by omega), inB_ok (n := 3371) (i := 1895 + 492 * k + 490) (by omega) (by omega), inB_ok (n := 3371) (i := 1895 + 492 * k + 491) (by omega) (by omega), nI_clamp (n := 1895 + 492 * k + 489) (by omega), nI_clamp (n := 1895 + 492 * k + 490) (by omega), nI_clamp (n := 1895 + 492 * k + 491) (by omega)]
      refine ⟨_, _, hx, hy, rfl, ?_⟩
      have hINV : INV (g.1, g.2.1, g.2.2.1, g.2.2.2.1, g.2.2.2.2.1, g.2.2.2.2.2.1, g.2.2.2.2.2.2.1, lo', up', g.2.2.2.2.2.2.2.2.2.1, tb') 0 0 x_past_kept x_images al1 tp1 y_isImage (al1 (1895 + 492 * k + 489)) (al1 (1895 + 492 * k + 490)) (al1 (1895 + 492 * k + 491)) 0 := by
        refine ⟨matAt_move h3 s2 (fun j hj => ?_), whyAt_move h4 (fun j hj => ?_), ?_, ⟨?_, ?_⟩, past_of (sz := 0) (tp := 0) ⟨by omega, by omega, fun j hj => by omega⟩, img_congr hi (fun j hj => hO j (by omega))⟩
        · rw [d1, if_pos (by omega)]
          exact congrArg y_all (by omega)
        · rw [d1, if_pos (by omega)]
          exact congrArg y_all (by omega)
        · rw [hO _ (by omega)]
          refine tapeAt_move h5 s3 (fun j hj => ?_)
          rw [l2, if_pos (by omega), hO _ (by omega)]
          exact congrArg y_all (by omega)
        · show g.1 = _
          rw [hO _ (by omega)]
          exact h6
        · show g.2.1 = _
          rw [hO _ (by omega)]
          exact h7
      exact hINV
  · have hx : fX10_again p1 (x_now_fault, x_now_faultPlace, x_now_refusal, x_now_longRow, x_now_longColumn, x_now_matrix_rows, x_now_matrix_columns, x_now_matrix_lower, x_now_matrix_upper, x_now_tape_length, x_now_tape_bytes) x_past_size x_past_top x_images = some (0, (x_now_fault, x_now_faultPlace, x_now_refusal, x_now_longRow, x_now_longColumn, x_now_matrix_rows, x_now_matrix_columns, x_now_matrix_lower, x_now_matrix_upper, x_now_tape_length, x_now_tape_bytes), x_past_size, x_past_top) := by
      unfold fX10_isRule at a1
      unfold fX10_again
      by_cases h0 : p1 < 0
      · rw [if_pos h0]
      · rw [if_neg h0] at a1 ⊢
        by_cases h3 : (3 : Int32) ≤ p1
        · rw [if_neg (fun q => by rw [Int32.lt_iff_toInt_lt] at q; rw [Int32.le_iff_toInt_le] at h3; omega)]
        · rw [if_neg h3] at a1
          exact absurd (Option.some.inj a1) one0
    have hy : fX11_again p1 y_taped y_faultKind y_faultPlace y_undos y_all y_isImage y_tape = some (0, y_taped, y_faultKind, y_faultPlace, y_undos, y_all, y_tape) := by
      unfold fX11_again
      rw [a2]
      simp only [obs, ↓reduceIte]
    exact ⟨_, _, hx, hy, rfl, hI0⟩
theorem firsts_loop {b : Nat} (hb : b + 86 ≤ 3371) (all0 : Nat → Int32) : ∀ (m v fuel : Nat) (all : Nat → Int32), v + m = 42 → m + 1 ≤ fuel → (∀ j, j < v → all (b + 2 + j) = 0 ∧ all (b + 44 + j) = 1) → (∀ j, ¬ (b + 2 ≤ j ∧ j < b + 86) → all j = all0 j) → ∃ all', fX11_firsts_21 (nI b) fuel (nI v) all = some all' ∧ (∀ j, j < 42 → all' (b + 2 + j) = 0 ∧ all' (b + 44 + j) = 1) ∧ ∀ j, ¬ (b + 2 ≤ j ∧ j < b + 86) → all' j = all0 j := by
  intro m
  induction m with
  | zero =>
    intro v fuel cur hv hfu h1 h2
    obtain ⟨fuel, rfl⟩ : ∃ f, fuel = f + 1 := ⟨fuel - 1, by omega⟩
    obtain rfl : v = 42 := by omega
    exact ⟨cur, by rw [fX11_firsts_21_s, if_pos (show (42 : Int32) ≤ nI 42 by decide)], h1, h2⟩
  | succ m ih =>
    intro v fuel cur hv hfu h1 h2
    obtain ⟨fuel, rfl⟩ : ∃ f, fuel = f + 1 := ⟨fuel - 1, by omega⟩
    have e2 : nI b + 2 + nI v = nI (b + 2 + v) := nI3 b 2 v
    have e44 : nI b + 44 + nI v = nI (b + 44 + v) := nI3 b 44 v
    rw [fX11_firsts_21_s, if_neg (nI_ge42 (by omega)), e2, e44]
    simp only [ltp, inB_ok (n := 3371) (i := b + 2 + v) (by omega) (by omega), inB_ok (n := 3371) (i := b + 44 + v) (by omega) (by omega), nI_clamp (n := b + 2 + v) (by omega), nI_clamp (n := b + 44 + v) (by omega), ← nI_succ]
    refine ih (v + 1) fuel _ (by omega) (by omega) (fun j hj => ?_) (fun j hj => ?_)
    · by_cases e : j = v
      · subst e
        rw [pk_un (by omega), pk_us, pk_us]
        exact ⟨rfl, rfl⟩
      · rw [pk_un (by omega), pk_un (by omega), pk_un (by omega), pk_un (by omega)]
        exact h1 j (by omega)
    · rw [pk_un (by omega), pk_un (by omega)]
      exact h2 j hj
theorem firsts_ok {b : Nat} (hb : b + 86 ≤ 3371) (rows cols : Int32) (all : Nat → Int32) : ∃ all', fX11_firsts (nI b) rows cols all = some all' ∧ all' b = rows ∧ all' (b + 1) = cols ∧ (∀ j, j < 42 → all' (b + 2 + j) = 0 ∧ all' (b + 44 + j) = 1) ∧ ∀ j, ¬ (b ≤ j ∧ j < b + 86) → all' j = all j := by
  obtain ⟨all', h1, h2, h3⟩ := firsts_loop hb (upd (upd all b rows) (b + 1) cols) 42 0 fuelN (upd (upd all b rows) (b + 1) cols) (by omega) (by unfold fuelN; omega) (fun j hj => by omega) (fun j _ => rfl)
  refine ⟨all', ?_, ?_, ?_, h2, fun j hj => ?_⟩
  · unfold fX11_firsts
    rw [show nI b + 0 = nI b from Int32.add_zero _, show nI b + 1 = nI (b + 1) from nI_add b 1, inB_ok (by omega) (by omega), ltp, inB_ok (by omega) (by omega), ltp, nI_clamp (by omega), nI_clamp (by omega)]
    exact h1
  · rw [h3 b (by omega), pk_un (by omega), pk_us]
  · rw [h3 (b + 1) (by omega), pk_us]
  · rw [h3 j (by omega), pk_un (by omega), pk_un (by omega)]
theorem start_inv : ∃ (z_fill z_firsts : Nat → Int32), fJ7_fill_53178 1 (fun _ => 0) 42 = some z_fill ∧ fX11_firsts 0 2 2 (fun _ => 0) = some z_firsts ∧ INV (0, (-1), 0, (-1), (-1), 2, 2, z_fill, (fun _ => 0), 0, (fun _ => 0)) 0 0 (fun _ => none) (fun _ => none) z_firsts (fun _ => 0) (fun _ => 0) 0 0 (-1) 0 := by
  obtain ⟨zf, h1, h2⟩ := fill_ok 1 (fun _ => 0) (n := 42) (by omega)
  obtain ⟨all, f1, f2, f3, f4, f5⟩ := firsts_ok (b := 0) (by omega) 2 2 (fun _ => 0)
  refine ⟨zf, all, h1, f1, ⟨f2.symm, f3.symm, (show 1 ≤ (2 : Int32).toInt ∧ (2 : Int32).toInt ≤ 6 by decide), (show 1 ≤ (2 : Int32).toInt ∧ (2 : Int32).toInt ≤ 6 by decide), fun r c hr hc => ?_⟩, ⟨(f5 86 (by omega)).symm, (show 0 ≤ (0 : Int32).toInt ∧ (0 : Int32).toInt ≤ 3 by decide), fun q => absurd (show (0 : Int32) = 3 from q) (by decide)⟩, ⟨rfl, (show 0 ≤ (0 : Int32).toInt ∧ (0 : Int32).toInt ≤ 400 by decide), fun k hk => ⟨(show -128 ≤ (0 : Int32).toInt ∧ (0 : Int32).toInt ≤ 127 by decide), (show (0 : Int32) &&& 255 = 0 by decide)⟩⟩, ⟨rfl, rfl⟩, ⟨rfl, by decide, by decide, fun j hj => ?_⟩, fun k hk => Or.inl ⟨rfl, rfl⟩⟩
  · have hr' : (r : Int) < (2 : Int32).toInt := hr
    have hc' : (c : Int) ≤ (2 : Int32).toInt := hc
    have e2 : (2 : Int32).toInt = 2 := rfl
    have hj : 7 * r + c < 42 := by omega
    obtain ⟨x1, x2⟩ := f4 _ hj
    show (0 : Int32) = all (0 + 2 + (7 * r + c)) ∧ zf (7 * r + c) = all (0 + 44 + (7 * r + c)) ∧ goodE 0 (zf (7 * r + c))
    rw [x1, x2, h2 _ hj]
    exact ⟨rfl, rfl, good01⟩
  · have e0 : (0 : Int32).toInt = 0 := rfl
    omega
