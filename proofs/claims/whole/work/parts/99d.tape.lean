/-! The tape is fed; images; the beginning. -/
theorem tn_mod (y : Int32) : y.toBitVec.toNat % 256 = (y.toInt % 256).toNat := by
  have h : y.toInt = y.toBitVec.toInt := rfl
  have hl := y.toBitVec.isLt
  rw [h, BitVec.toInt_eq_toNat_cond]
  split <;> omega
theorem byte_and (x : Int32) : x.toInt8.toInt32 &&& 255 = x &&& 255 := by
  rw [pk_and x (m := 255) 8 (by decide), pk_and x.toInt8.toInt32 (m := 255) 8 (by decide)]
  congr 1
  show x.toInt8.toInt32.toBitVec.toNat % 256 = x.toBitVec.toNat % 256
  rw [tn_mod, tn_mod, Int8.toInt_toInt32, Int32.toInt_toInt8]
  congr 1
  exact Int.bmod_emod
theorem app_step {n s : Nat} (hn : n < 400) (hs : s ≤ 24) (p : Int32) (hv : nI s &&& 31 = nI s) (f : Nat) (b : Nat → Int32) : fX8_append_3 p (f + 1) (nI s) (nI n) b = fX8_append_3 p f (nI s + (-8)) (nI (n + 1)) (upd b n (p >>> nI s).toInt8.toInt32) := by
  rw [fX8_append_3_s, if_neg (nI_pos (by omega)), if_neg (show ¬ (400 : Int32) ≤ nI n from nI_ge (a := n) (b := 400) hn (by omega)), if_neg (nI_pos (by omega)), hv, ltp, inB_ok hn (by omega), ltp, ltp, nI_clamp (by omega), pk_vb, ← nI_succ]
theorem app_ok {n : Nat} (hn : n + 4 ≤ 400) (p : Int32) (b : Nat → Int32) : ∃ b2, fX8_append p (nI n) b = some (nI (n + 4), b2) ∧ ∀ j, b2 j = if n ≤ j ∧ j < n + 4 then (p >>> nI (24 - 8 * (j - n))).toInt8.toInt32 else b j := by
  refine ⟨upd (upd (upd (upd b n (p >>> nI 24).toInt8.toInt32) (n + 1) (p >>> nI 16).toInt8.toInt32) (n + 1 + 1) (p >>> nI 8).toInt8.toInt32) (n + 1 + 1 + 1) (p >>> nI 0).toInt8.toInt32, ?_, fun j => ?_⟩
  · unfold fX8_append
    rw [show fuelN = 4091 + 1 + 1 + 1 + 1 + 1 from rfl, show (24 : Int32) = nI 24 from rfl, app_step (by omega) (by omega) p (by decide), show nI 24 + -8 = nI 16 from by decide, app_step (by omega) (by omega) p (by decide), show nI 16 + -8 = nI 8 from by decide, app_step (by omega) (by omega) p (by decide), show nI 8 + -8 = nI 0 from by decide, app_step (by omega) (by omega) p (by decide), fX8_append_3_s, if_pos (show nI 0 + -8 < 0 by decide)]
  · by_cases e3 : j = n + 3
    · subst e3
      rw [if_pos (by omega), show n + 3 - n = 3 by omega]
      exact pk_us
    rw [pk_un (by omega)]
    by_cases e2 : j = n + 2
    · subst e2
      rw [if_pos (by omega), show n + 2 - n = 2 by omega]
      exact pk_us
    rw [pk_un (by omega)]
    by_cases e1 : j = n + 1
    · subst e1
      rw [if_pos (by omega), show n + 1 - n = 1 by omega]
      exact pk_us
    rw [pk_un (by omega)]
    by_cases e0 : j = n
    · subst e0
      rw [if_pos (by omega), Nat.sub_self]
      exact pk_us
    rw [pk_un e0, if_neg (by omega)]
def selP (p1 p2 p3 p4 p5 : Int32) (k : Nat) : Int32 := if 4 ≤ k then (if 8 ≤ k then (if 12 ≤ k then (if 16 ≤ k then p5 else p4) else p3) else p2) else p1
theorem sh_k : ∀ k, k < 20 → (((24 : Int32) - 8 * (nI k &&& 3)) &&& 31) = nI (24 - 8 * (k % 4)) := by decide +kernel
theorem fr_step {n k : Nat} (hk : k < 20) (hn : n + 20 ≤ 400) (p1 p2 p3 p4 p5 : Int32) (f : Nat) (tape : Nat → Int32) : fX11_feed_18 p1 p2 p3 p4 p5 (nI n) (f + 1) (nI k) tape = fX11_feed_18 p1 p2 p3 p4 p5 (nI n) f (nI (k + 1)) (upd tape (n + k) ((selP p1 p2 p3 p4 p5 k >>> nI (24 - 8 * (k % 4))) &&& 255)) := by
  have go : ∀ x : Int32, fX11_feed_71 (nI n) (nI k) tape (fX11_feed_18 p1 p2 p3 p4 p5 (nI n) f) x = fX11_feed_18 p1 p2 p3 p4 p5 (nI n) f (nI (k + 1)) (upd tape (n + k) ((x >>> nI (24 - 8 * (k % 4))) &&& 255)) := by
    intro x
    unfold fX11_feed_71
    rw [sh_k k hk, ltp, nI_add, inB_ok (by omega) (by omega), ltp, nI_clamp (by omega), ← nI_succ]
  rw [fX11_feed_18_s, if_neg (show ¬ (20 : Int32) ≤ nI k from nI_ge (a := k) (b := 20) hk (by omega))]
  unfold selP
  by_cases h4 : 4 ≤ k
  · rw [if_pos h4, if_pos (show (4 : Int32) ≤ nI k from nI_le (a := 4) (b := k) h4 (by omega))]
    by_cases h8 : 8 ≤ k
    · rw [if_pos h8, if_pos (show (8 : Int32) ≤ nI k from nI_le (a := 8) (b := k) h8 (by omega))]
      by_cases h12 : 12 ≤ k
      · rw [if_pos h12, if_pos (show (12 : Int32) ≤ nI k from nI_le (a := 12) (b := k) h12 (by omega))]
        by_cases h16 : 16 ≤ k
        · rw [if_pos h16, if_pos (show (16 : Int32) ≤ nI k from nI_le (a := 16) (b := k) h16 (by omega))]
          exact go p5
        · rw [if_neg h16, if_neg (show ¬ (16 : Int32) ≤ nI k from nI_ge (a := k) (b := 16) (by omega) (by omega))]
          exact go p4
      · rw [if_neg h12, if_neg (show ¬ (12 : Int32) ≤ nI k from nI_ge (a := k) (b := 12) (by omega) (by omega))]
        exact go p3
    · rw [if_neg h8, if_neg (show ¬ (8 : Int32) ≤ nI k from nI_ge (a := k) (b := 8) (by omega) (by omega))]
      exact go p2
  · rw [if_neg h4, if_neg (show ¬ (4 : Int32) ≤ nI k from nI_ge (a := k) (b := 4) (by omega) (by omega))]
    exact go p1
theorem fr_loop {n : Nat} (hn : n + 20 ≤ 400) (p1 p2 p3 p4 p5 : Int32) (tape0 : Nat → Int32) : ∀ (m k fuel : Nat) (tape : Nat → Int32), k + m = 20 → m + 1 ≤ fuel → (∀ j, tape j = if n ≤ j ∧ j < n + k then (selP p1 p2 p3 p4 p5 (j - n) >>> nI (24 - 8 * ((j - n) % 4))) &&& 255 else tape0 j) → ∃ tape', fX11_feed_18 p1 p2 p3 p4 p5 (nI n) fuel (nI k) tape = some (nI (n + 20), nI (n + 20), tape') ∧ ∀ j, tape' j = if n ≤ j ∧ j < n + 20 then (selP p1 p2 p3 p4 p5 (j - n) >>> nI (24 - 8 * ((j - n) % 4))) &&& 255 else tape0 j := by
  intro m
  induction m with
  | zero =>
    intro k fuel tape hk hf h
    obtain ⟨fuel, rfl⟩ : ∃ f, fuel = f + 1 := ⟨fuel - 1, by omega⟩
    obtain rfl : k = 20 := by omega
    refine ⟨tape, ?_, h⟩
    rw [fX11_feed_18_s, if_pos (show (20 : Int32) ≤ nI 20 by decide)]
    unfold fX11_feed_108
    rw [ltp, show (20 : Int32) = nI 20 from rfl, nI_add]
  | succ m ih =>
    intro k fuel tape hk hf h
    obtain ⟨fuel, rfl⟩ : ∃ f, fuel = f + 1 := ⟨fuel - 1, by omega⟩
    rw [fr_step (by omega) hn]
    refine ih (k + 1) fuel _ (by omega) (by omega) (fun j => ?_)
    by_cases e : j = n + k
    · subst e
      rw [pk_us, if_pos (by omega), show n + k - n = k by omega]
    · rw [pk_un e, h j]
      by_cases e2 : n ≤ j ∧ j < n + k
      · rw [if_pos e2, if_pos (by omega)]
      · rw [if_neg e2, if_neg (by omega)]
theorem pure_feed : Pure_feed := by
  intro p1 p2 p3 p4 p5 x_now_fault x_now_faultPlace x_now_refusal x_now_longRow x_now_longColumn x_now_matrix_rows x_now_matrix_columns x_now_matrix_upper x_now_matrix_lower x_now_tape_length x_now_tape_bytes x_images x_past_size x_past_top x_past_kept y_taped y_faultKind y_faultPlace y_undos y_all y_tape y_isImage hI
  have hI0 := hI
  obtain ⟨hm, hw, ⟨et, ⟨hl0, hl1⟩, hb⟩, hf, hp, hi⟩ := hI
  dsimp only at et hl0 hl1 hb
  subst et
  obtain ⟨n, hn, rfl⟩ : ∃ n : Nat, n ≤ 400 ∧ x_now_tape_length = nI n := by
    refine ⟨x_now_tape_length.toInt.toNat, by omega, ?_⟩
    apply Int32.toInt_inj.mp
    rw [nI_toInt (by omega)]
    omega
  unfold fX10_feed fX11_feed
  rw [show (20 : Int32) = nI 20 from rfl, nI_add]
  by_cases h : n + 20 ≤ 400
  · have hle : nI (n + 20) ≤ (400 : Int32) := nI_le (a := n + 20) (b := 400) h (by omega)
    obtain ⟨b1, a1, c1⟩ := app_ok (n := n) (by omega) p1 x_now_tape_bytes
    obtain ⟨b2, a2, c2⟩ := app_ok (n := n + 4) (by omega) p2 b1
    obtain ⟨b3, a3, c3⟩ := app_ok (n := n + 4 + 4) (by omega) p3 b2
    obtain ⟨b4, a4, c4⟩ := app_ok (n := n + 4 + 4 + 4) (by omega) p4 b3
    obtain ⟨b5, a5, c5⟩ := app_ok (n := n + 4 + 4 + 4 + 4) (by omega) p5 b4
    obtain ⟨tape', t1, t2⟩ := fr_loop h p1 p2 p3 p4 p5 y_tape 20 0 fuelN y_tape (by omega) (by unfold fuelN; omega) (fun j => by rw [if_neg (by omega)])
    rw [show nI 0 = 0 from rfl] at t1
    rw [if_pos hle, if_pos hle, a1, t1]
    simp only [obs]
    rw [a2]
    simp only [obs]
    rw [a3]
    simp only [obs]
    rw [a4]
    simp only [obs]
    rw [a5]
    simp only [obs]
    have hINV : INV (x_now_fault, x_now_faultPlace, x_now_refusal, x_now_longRow, x_now_longColumn, x_now_matrix_rows, x_now_matrix_columns, x_now_matrix_lower, x_now_matrix_upper, nI (n + 4 + 4 + 4 + 4 + 4), b5) x_past_size x_past_top x_past_kept x_images y_all tape' y_isImage (nI (n + 20)) y_faultKind y_faultPlace y_undos := by
      refine ⟨hm, hw, ⟨rfl, ?_, fun k hk => ?_⟩, hf, hp, hi⟩
      · show 0 ≤ (nI (n + 4 + 4 + 4 + 4 + 4)).toInt ∧ (nI (n + 4 + 4 + 4 + 4 + 4)).toInt ≤ 400
        rw [nI_toInt (by omega)]
        omega
      · show (-128 ≤ (b5 k).toInt ∧ (b5 k).toInt ≤ 127) ∧ b5 k &&& 255 = tape' (0 + k)
        have fin : ∀ x : Int32, (-128 ≤ x.toInt8.toInt32.toInt ∧ x.toInt8.toInt32.toInt ≤ 127) ∧ x.toInt8.toInt32 &&& 255 = x &&& 255 := by
          intro x
          have := lg_i2b_range x
          exact ⟨by omega, byte_and x⟩
        rw [Nat.zero_add, t2, c5]
        by_cases k5 : n + 4 + 4 + 4 + 4 ≤ k ∧ k < n + 4 + 4 + 4 + 4 + 4
        · rw [if_pos k5, if_pos (by omega), show selP p1 p2 p3 p4 p5 (k - n) = p5 from by unfold selP; rw [if_pos (by omega), if_pos (by omega), if_pos (by omega), if_pos (by omega)], show (k - n) % 4 = k - (n + 4 + 4 + 4 + 4) by omega]
          exact fin _
        rw [if_neg k5, c4]
        by_cases k4 : n + 4 + 4 + 4 ≤ k ∧ k < n + 4 + 4 + 4 + 4
        · rw [if_pos k4, if_pos (by omega), show selP p1 p2 p3 p4 p5 (k - n) = p4 from by unfold selP; rw [if_pos (by omega), if_pos (by omega), if_pos (by omega), if_neg (by omega)], show (k - n) % 4 = k - (n + 4 + 4 + 4) by omega]
          exact fin _
        rw [if_neg k4, c3]
        by_cases k3 : n + 4 + 4 ≤ k ∧ k < n + 4 + 4 + 4
        · rw [if_pos k3, if_pos (by omega), show selP p1 p2 p3 p4 p5 (k - n) = p3 from by unfold selP; rw [if_pos (by omega), if_pos (by omega), if_neg (by omega)], show (k - n) % 4 = k - (n + 4 + 4) by omega]
          exact fin _
        rw [if_neg k3, c2]
        by_cases k2 : n + 4 ≤ k ∧ k < n + 4 + 4
        · rw [if_pos k2, if_pos (by omega), show selP p1 p2 p3 p4 p5 (k - n) = p2 from by unfold selP; rw [if_pos (by omega), if_neg (by omega)], show (k - n) % 4 = k - (n + 4) by omega]
          exact fin _
        rw [if_neg k2, c1]
        by_cases k1 : n ≤ k ∧ k < n + 4
        · rw [if_pos k1, if_pos (by omega), show selP p1 p2 p3 p4 p5 (k - n) = p1 from by unfold selP; rw [if_neg (by omega)], show (k - n) % 4 = k - n by omega]
          exact fin _
        rw [if_neg k1, if_neg (by omega)]
        have := hb k hk
        rw [Nat.zero_add] at this
        exact this
    exact ⟨_, _, rfl, rfl, rfl, hINV⟩
  · have hle : ¬ nI (n + 20) ≤ (400 : Int32) := nI_ge (a := 400) (b := n + 20) (by omega) (by omega)
    rw [if_neg hle, if_neg hle]
    exact ⟨_, _, rfl, rfl, rfl, hI0⟩
theorem fits_b {x : Int32} (h : -128 ≤ x.toInt ∧ x.toInt ≤ 127) : fits .byte (.int x) = true := by
  have h1 : (-128 : Int32).toInt = -128 := by decide
  have h2 : (127 : Int32).toInt = 127 := by decide
  simp only [fits, Bool.and_eq_true, decide_eq_true_eq, Int32.le_iff_toInt_le, h1, h2]
  exact h
theorem tcopy_ok (b0 : Nat → Int32) (l : Int32) (b : Nat → Int32) (h : ∀ k, k < 400 → -128 ≤ (b k).toInt ∧ (b k).toInt ≤ 127) : ∃ b', fX8_copy b0 l b = some (l, b') ∧ ∀ k, k < 400 → b' k = b k := by
  have e0 : (0 : Int32).toNatClampNeg = 0 := by decide
  have e4 : (400 : Int32).toNatClampNeg = 400 := by decide
  unfold fX8_copy acB
  rw [e0, e4, if_pos ⟨by decide, by decide, by decide, by omega, by omega, fun i hi => fits_b (by rw [Nat.zero_add]; exact h i hi)⟩, ltp]
  refine ⟨_, rfl, fun k hk => ?_⟩
  unfold va_cpy
  rw [if_pos ⟨by omega, by omega⟩]
  congr 1
  omega
theorem state_copy (lo0 up0 by0 : Nat → Int32) (f fp r lr lc rows cols : Int32) (lo up : Nat → Int32) (tl : Int32) (tb : Nat → Int32) (h : ∀ k, k < 400 → -128 ≤ (tb k).toInt ∧ (tb k).toInt ≤ 127) : ∃ lo' up' tb', fX6_copy lo0 up0 by0 f fp r lr lc rows cols lo up tl tb = some (f, fp, r, lr, lc, rows, cols, lo', up', tl, tb') ∧ (∀ j, j < 42 → up' j = up j ∧ lo' j = lo j) ∧ ∀ k, k < 400 → tb' k = tb k := by
  obtain ⟨lo', up', h1, h2⟩ := copy_ok lo0 up0 rows cols lo up
  obtain ⟨tb', h3, h4⟩ := tcopy_ok by0 tl tb h
  refine ⟨lo', up', tb', ?_, h2, h4⟩
  unfold fX6_copy
  rw [h1]
  simp only [obs]
  rw [h3]
  simp only [obs]
theorem e1895 (s : Nat) : (1895 : Int32) + 492 * nI s = nI (1895 + 492 * s) := by
  rw [show (1895 : Int32) = nI 1895 from rfl, show (492 : Int32) = nI 492 from rfl, pk_mul, nI_add]
theorem img_loop {b : Nat} (hb : b + 492 ≤ 3371) (p1 taped fk fp : Int32) (isI tape all0 : Nat → Int32) : ∀ (m v fuel : Nat) (all : Nat → Int32), v + m = 400 → m + 1 ≤ fuel → (∀ j, all j = if b + 89 ≤ j ∧ j < b + 89 + v then tape (j - (b + 89)) else all0 j) → ∃ all', fX11_image_31 p1 taped fk fp isI tape (nI b) fuel (nI v) all = fX11_image_61 p1 taped fk fp isI (nI b) all' ∧ ∀ j, all' j = if b + 89 ≤ j ∧ j < b + 89 + 400 then tape (j - (b + 89)) else all0 j := by
  intro m
  induction m with
  | zero =>
    intro v fuel all hv hf h
    obtain ⟨fuel, rfl⟩ : ∃ f, fuel = f + 1 := ⟨fuel - 1, by omega⟩
    obtain rfl : v = 400 := by omega
    exact ⟨all, by rw [fX11_image_31_s, if_pos (show (400 : Int32) ≤ nI 400 by decide)], h⟩
  | succ m ih =>
    intro v fuel all hv hf h
    obtain ⟨fuel, rfl⟩ : ∃ f, fuel = f + 1 := ⟨fuel - 1, by omega⟩
    have e : nI b + 89 + nI v = nI (b + 89 + v) := nI3 b 89 v
    rw [fX11_image_31_s, if_neg (show ¬ (400 : Int32) ≤ nI v from nI_ge (a := v) (b := 400) (by omega) (by omega)), e, inB_ok (by omega) (by omega), ltp, inB_ok (by omega) (by omega), ltp, nI_clamp (by omega), nI_clamp (by omega), ← nI_succ]
    refine ih (v + 1) fuel _ (by omega) (by omega) (fun j => ?_)
    by_cases e : j = b + 89 + v
    · subst e
      rw [pk_us, if_pos (by omega), show b + 89 + v - (b + 89) = v by omega]
    · rw [pk_un e, h j]
      by_cases e2 : b + 89 ≤ j ∧ j < b + 89 + v
      · rw [if_pos e2, if_pos (by omega)]
      · rw [if_neg e2, if_neg (by omega)]
theorem pure_image : Pure_image := by
  intro zf hzf p1 x_now_fault x_now_faultPlace x_now_refusal x_now_longRow x_now_longColumn x_now_matrix_rows x_now_matrix_columns x_now_matrix_upper x_now_matrix_lower x_now_tape_length x_now_tape_bytes x_images x_past_size x_past_top x_past_kept y_taped y_faultKind y_faultPlace y_undos y_all y_tape y_isImage hI
  have hI0 := hI
  obtain ⟨hm, hw, ht, hf, hp, hi⟩ := hI
  dsimp only at hm hw ht hf hp hi
  rcases rule_cases p1 with ⟨k, hk, rfl, a1, a2⟩ | ⟨a1, a2⟩
  · obtain ⟨lo', up', tb', s1, s2, s3⟩ := state_copy (sLo zf (x_images k)) (sUp (x_images k)) (sBy (x_images k)) x_now_fault x_now_faultPlace x_now_refusal x_now_longRow x_now_longColumn x_now_matrix_rows x_now_matrix_columns x_now_matrix_lower x_now_matrix_upper x_now_tape_length x_now_tape_bytes (fun j hj => (ht.2.2 j hj).1)
    obtain ⟨al1, c1, d1⟩ := copies_ok (f := 0) (t := 1895 + 492 * k) (n := 89) (by omega) (by omega) (Or.inr (by omega)) y_all
    obtain ⟨al2, l1, l2⟩ := img_loop (b := 1895 + 492 * k) (by omega) (nI k) y_taped y_faultKind y_faultPlace y_isImage y_tape al1 400 0 fuelN al1 (by omega) (by unfold fuelN; omega) (fun j => by rw [if_neg (by omega)])
    rw [show nI 0 = 0 from rfl, show nI 89 = 89 from rfl] at c1
    rw [show nI 0 = 0 from rfl] at l1
    have e3 : nI (1895 + 492 * k) + 89 + 400 = nI (1895 + 492 * k + 489) := by
      rw [show (89 : Int32) = nI 89 from rfl, show (400 : Int32) = nI 400 from rfl, nI_add, nI_add]
    have e4 : nI (1895 + 492 * k) + 89 + 400 + 1 = nI (1895 + 492 * k + 490) := by
      rw [e3, show (1 : Int32) = nI 1 from rfl, nI_add]
    have e5 : nI (1895 + 492 * k) + 89 + 400 + 2 = nI (1895 + 492 * k + 491) := by
      rw [e3, show (2 : Int32) = nI 2 from rfl, nI_add]
    have hx : fX10_image (nI k) (x_now_fault, x_now_faultPlace, x_now_refusal, x_now_longRow, x_now_longColumn, x_now_matrix_rows, x_now_matrix_columns, x_now_matrix_lower, x_now_matrix_upper, x_now_tape_length, x_now_tape_bytes) zf x_images = some (1, upO x_images k (some (x_now_fault, x_now_faultPlace, x_now_refusal, x_now_longRow, x_now_longColumn, x_now_matrix_rows, x_now_matrix_columns, lo', up', x_now_tape_length, tb'))) := by
      unfold fX10_image
      rw [if_neg (nI_pos (by omega)), if_pos (show nI k < (3 : Int32) from nI_lt (a := k) (b := 3) hk (by omega)), nI_clamp (by omega)]
      dsimp only
      rw [s1]
      rfl
    have hy : fX11_image (nI k) y_taped y_faultKind y_faultPlace y_all y_isImage y_tape = some (1, upd (upd (upd al2 (1895 + 492 * k + 489) y_taped) (1895 + 492 * k + 490) y_faultKind) (1895 + 492 * k + 491) y_faultPlace, upd y_isImage k 1) := by
      unfold fX11_image
      rw [a2]
      simp only [obs, if_neg one0]
      rw [ltp, e1895, c1]
      simp only [obs]
      rw [l1]
      unfold fX11_image_61
      rw [e5, e4, e3]
      simp only [ltp, inB_ok (n := 3371) (i := 1895 + 492 * k + 489) (by omega) (by omega), inB_ok (n := 3371) (i := 1895 + 492 * k + 490) (by omega) (by omega), inB_ok (n := 3371) (i := 1895 + 492 * k + 491) (by omega) (by omega), inB_ok (n := 3) hk (by omega), nI_clamp (n := 1895 + 492 * k + 489) (by omega), nI_clamp (n := 1895 + 492 * k + 490) (by omega), nI_clamp (n := 1895 + 492 * k + 491) (by omega), nI_clamp (n := k) (by omega), nar1]
    have hA : ∀ j, upd (upd (upd al2 (1895 + 492 * k + 489) y_taped) (1895 + 492 * k + 490) y_faultKind) (1895 + 492 * k + 491) y_faultPlace j = if j = 1895 + 492 * k + 491 then y_faultPlace else if j = 1895 + 492 * k + 490 then y_faultKind else if j = 1895 + 492 * k + 489 then y_taped else if 1895 + 492 * k + 89 ≤ j ∧ j < 1895 + 492 * k + 89 + 400 then y_tape (j - (1895 + 492 * k + 89)) else if 1895 + 492 * k ≤ j ∧ j < 1895 + 492 * k + 89 then y_all (0 + (j - (1895 + 492 * k))) else y_all j := by
      intro j
      by_cases h1 : j = 1895 + 492 * k + 491
      · subst h1; rw [pk_us, if_pos rfl]
      rw [pk_un h1, if_neg h1]
      by_cases h2 : j = 1895 + 492 * k + 490
      · subst h2; rw [pk_us, if_pos rfl]
      rw [pk_un h2, if_neg h2]
      by_cases h3 : j = 1895 + 492 * k + 489
      · subst h3; rw [pk_us, if_pos rfl]
      rw [pk_un h3, if_neg h3, l2, d1]
    have hO : ∀ j, ¬ (1895 + 492 * k ≤ j ∧ j < 1895 + 492 * k + 492) → upd (upd (upd al2 (1895 + 492 * k + 489) y_taped) (1895 + 492 * k + 490) y_faultKind) (1895 + 492 * k + 491) y_faultPlace j = y_all j := by
      intro j hj
      rw [hA, if_neg (by omega), if_neg (by omega), if_neg (by omega), if_neg (by omega), if_neg (by omega)]
    refine ⟨_, _, hx, hy, rfl, ?_⟩
    have hINV : INV (x_now_fault, x_now_faultPlace, x_now_refusal, x_now_longRow, x_now_longColumn, x_now_matrix_rows, x_now_matrix_columns, x_now_matrix_lower, x_now_matrix_upper, x_now_tape_length, x_now_tape_bytes) x_past_size x_past_top x_past_kept (upO x_images k (some (x_now_fault, x_now_faultPlace, x_now_refusal, x_now_longRow, x_now_longColumn, x_now_matrix_rows, x_now_matrix_columns, lo', up', x_now_tape_length, tb'))) (upd (upd (upd al2 (1895 + 492 * k + 489) y_taped) (1895 + 492 * k + 490) y_faultKind) (1895 + 492 * k + 491) y_faultPlace) y_tape (upd y_isImage k 1) y_taped y_faultKind y_faultPlace y_undos := by
      obtain ⟨sz, tp, rfl, rfl, rfl, hpn⟩ := past_to hp
      refine ⟨matAt_move hm (fun _ _ => ⟨rfl, rfl⟩) (fun j hj => hO _ (by omega)), whyAt_move hw (fun j hj => hO _ (by omega)), ht, hf, past_of (past_congr hpn (fun j h1 h2 => hO _ (by omega))), fun k' hk' => ?_⟩
      by_cases e : k' = k
      · subst e
        right
        refine ⟨pk_us, _, upO_at _ _ _, ?_, ?_, ?_, ?_, ?_⟩
        · refine matAt_move hm s2 (fun j hj => ?_)
          rw [hA, if_neg (by omega), if_neg (by omega), if_neg (by omega), if_neg (by omega), if_pos (by omega)]
          exact congrArg y_all (by omega)
        · refine whyAt_move hw (fun j hj => ?_)
          rw [hA, if_neg (by omega), if_neg (by omega), if_neg (by omega), if_neg (by omega), if_pos (by omega)]
          exact congrArg y_all (by omega)
        · have e489 : upd (upd (upd al2 (1895 + 492 * k' + 489) y_taped) (1895 + 492 * k' + 490) y_faultKind) (1895 + 492 * k' + 491) y_faultPlace (1895 + 492 * k' + 489) = y_taped := by
            rw [hA, if_neg (by omega), if_neg (by omega), if_pos rfl]
          rw [e489]
          refine tapeAt_move ht s3 (fun j hj => ?_)
          rw [hA, if_neg (by omega), if_neg (by omega), if_neg (by omega), if_pos (by omega)]
          exact congrArg y_tape (by omega)
        · show x_now_fault = _
          rw [hA, if_neg (by omega), if_pos rfl]
          exact hf.1
        · show x_now_faultPlace = _
          rw [hA, if_pos rfl]
          exact hf.2
      · rcases hi k' hk' with h | ⟨h1, g, h2, h3, h4, h5, h6, h7⟩
        · left
          rw [pk_un e, upO_ne e]
          exact h
        · right
          rw [pk_un e, upO_ne e]
          refine ⟨h1, g, h2, matAt_move h3 (fun _ _ => ⟨rfl, rfl⟩) (fun j _ => hO _ (by omega)), whyAt_move h4 (fun j _ => hO _ (by omega)), ?_, by rw [hO _ (by omega)]; exact h6, by rw [hO _ (by omega)]; exact h7⟩
          rw [hO (1895 + 492 * k' + 489) (by omega)]
          exact tapeAt_move h5 (fun _ _ => rfl) (fun j _ => hO _ (by omega))
    exact hINV
  · have hx : fX10_image p1 (x_now_fault, x_now_faultPlace, x_now_refusal, x_now_longRow, x_now_longColumn, x_now_matrix_rows, x_now_matrix_columns, x_now_matrix_lower, x_now_matrix_upper, x_now_tape_length, x_now_tape_bytes) zf x_images = some (0, x_images) := by
      unfold fX10_isRule at a1
      unfold fX10_image
      by_cases h0 : p1 < 0
      · rw [if_pos h0]
      · rw [if_neg h0] at a1 ⊢
        by_cases h3 : (3 : Int32) ≤ p1
        · rw [if_neg (fun q => by rw [Int32.lt_iff_toInt_lt] at q; rw [Int32.le_iff_toInt_le] at h3; omega)]
        · rw [if_neg h3] at a1
          exact absurd (Option.some.inj a1) one0
    have hy : fX11_image p1 y_taped y_faultKind y_faultPlace y_all y_isImage y_tape = some (0, y_all, y_isImage) := by
      unfold fX11_image
      rw [a2]
      simp only [obs, ↓reduceIte]
    exact ⟨_, _, hx, hy, rfl, hI0⟩
