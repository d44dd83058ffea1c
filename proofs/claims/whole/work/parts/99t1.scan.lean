/-! The tape token by token: the scanner beside the reference's. -/
/-- the byte at a place, -1 behind the end -/
def chr (len : Nat) (tape : Nat → Int32) (k : Nat) : Int32 := if k < len then tape k else -1
def TP (len : Nat) (B tape : Nat → Int32) : Prop := len ≤ 400 ∧ ∀ k, k < 400 → B k &&& 255 = tape k ∧ ∃ j, j < 256 ∧ tape k = nI j
theorem byC {len : Nat} {B tape : Nat → Int32} (h : TP len B tape) {k : Nat} (hk : k ≤ 400) : fX8_byteAt (nI k) (nI len) B = some (chr len tape k) := by
  unfold fX8_byteAt chr
  have hl := h.1
  rw [if_neg (nI_pos (by omega))]
  by_cases e : k < len
  · rw [if_neg (nI_ge e (by omega)), if_neg (show ¬ (400 : Int32) ≤ nI k from nI_ge (a := k) (b := 400) (by omega) (by omega)), inB_ok (by omega) (by omega), nI_clamp (by omega), if_pos e, (h.2 k (by omega)).1]
  · rw [if_pos (nI_le (by omega) (by omega)), if_neg e]
theorem byR {len : Nat} {B tape : Nat → Int32} (h : TP len B tape) {k : Nat} (hk : k ≤ 400) : fX11_byteAt (nI k) (nI len) tape = some (chr len tape k) := by
  unfold fX11_byteAt chr
  have hl := h.1
  by_cases e : k < len
  · rw [if_neg (nI_ge e (by omega)), inB_ok (by omega) (by omega), nI_clamp (by omega), if_pos e]
  · rw [if_pos (nI_le (by omega) (by omega)), if_neg e]
theorem isL_eq (x : Int32) : fX11_isLetter x = fX5_isLetter x := rfl
theorem isD_eq (x : Int32) : fX11_isDigit x = fX5_isDigit x := rfl
theorem isL_no : fX5_isLetter (-1) = some 0 := by decide
theorem isD_no : fX5_isDigit (-1) = some 0 := by decide
theorem isL_nat : ∀ j, j < 256 → fX5_isLetter (nI j) = some (if 97 ≤ j ∧ j ≤ 122 then 1 else 0) := by decide +kernel
theorem isD_nat : ∀ j, j < 256 → fX5_isDigit (nI j) = some (if 48 ≤ j ∧ j ≤ 57 then 1 else 0) := by decide +kernel
theorem isB_nat : ∀ j, j < 256 → fX5_isBlank (nI j) = some (if j = 32 ∨ j = 10 then 1 else 0) := by decide +kernel
theorem chr_in {len : Nat} {B tape : Nat → Int32} (h : TP len B tape) {k : Nat} (hk : k < len) : ∃ j, j < 256 ∧ chr len tape k = nI j := by
  obtain ⟨j, hj, e⟩ := (h.2 k (by have := h.1; omega)).2
  refine ⟨j, hj, ?_⟩
  unfold chr
  rw [if_pos hk, e]
theorem chr_out {len : Nat} {tape : Nat → Int32} {k : Nat} (hk : ¬ k < len) : chr len tape k = -1 := if_neg hk
/-! blanks -/
theorem blank_loop {len : Nat} {B tape : Nat → Int32} (h : TP len B tape) : ∀ (m k fuel fuel' : Nat), k + m = len → m + 1 ≤ fuel → m + 1 ≤ fuel' → ∃ k', k ≤ k' ∧ k' ≤ len ∧ fX5_advance_0 (nI len) B fuel (nI k) = fX5_advance_44 (nI len) B (nI k') ∧ fX11_takes_0 (nI len) tape fuel' (nI k) = fX11_takes_39 (nI len) tape (nI k') := by
  have hl := h.1
  intro m
  induction m with
  | zero =>
    intro k fuel fuel' hk hf hf'
    obtain ⟨fuel, rfl⟩ : ∃ f, fuel = f + 1 := ⟨fuel - 1, by omega⟩
    obtain ⟨fuel', rfl⟩ : ∃ f, fuel' = f + 1 := ⟨fuel' - 1, by omega⟩
    obtain rfl : k = len := by omega
    refine ⟨k, by omega, by omega, ?_, ?_⟩
    · rw [fX5_advance_0_s, if_pos (nI_le (Nat.le_refl _) (by omega))]
    · rw [fX11_takes_0_s, byR h (by omega), chr_out (by omega)]
      rw [obs, if_neg (show ¬ (-1 : Int32) = 32 by decide), obs, if_neg (show ¬ (-1 : Int32) = 10 by decide)]
  | succ m ih =>
    intro k fuel fuel' hk hf hf'
    obtain ⟨fuel, rfl⟩ : ∃ f, fuel = f + 1 := ⟨fuel - 1, by omega⟩
    obtain ⟨fuel', rfl⟩ : ∃ f, fuel' = f + 1 := ⟨fuel' - 1, by omega⟩
    obtain ⟨j, hj, e⟩ := chr_in h (show k < len by omega)
    rw [fX5_advance_0_s, if_neg (nI_ge (by omega) (by omega)), byC h (by omega), fX11_takes_0_s, byR h (by omega), e]
    rw [obs, obs, obs, isB_nat j hj, obs, ltp, ltp, ← nI_succ]
    by_cases c : j = 32 ∨ j = 10
    · obtain ⟨k', q1, q2, q3, q4⟩ := ih (k + 1) fuel fuel' (by omega) (by omega) (by omega)
      refine ⟨k', by omega, q2, ?_, ?_⟩
      · rw [if_pos c, if_neg one0]
        exact q3
      · rcases c with c | c
        · rw [if_pos (by rw [c]; rfl)]
          exact q4
        · rw [if_neg (by rw [c]; decide), if_pos (by rw [c]; rfl)]
          exact q4
    · refine ⟨k, by omega, by omega, ?_, ?_⟩
      · rw [if_neg c, if_pos rfl]
      · rw [if_neg (show ¬ nI j = (32 : Int32) from fun q => c (Or.inl ((nI_eq (b := 32) (by omega) (by omega)).mp q))), if_neg (show ¬ nI j = (10 : Int32) from fun q => c (Or.inr ((nI_eq (b := 10) (by omega) (by omega)).mp q)))]
theorem adv_eq (next len : Int32) (B : Nat → Int32) : fX5_advance next len B = fX5_advance_0 len B (fuelN + 1) next := by
  rw [fX5_advance_0_s]
  rfl
theorem takes_eq (len next : Int32) (tape : Nat → Int32) : fX11_takes len next tape = fX11_takes_0 len tape (fuelN + 1) next := by
  rw [fX11_takes_0_s]
  rfl
/-! words: 27 times what came, and the letter's number -/
def hN (d : Nat → Nat) : Nat → Nat
  | 0 => 0
  | n + 1 => 27 * hN d n + d n
theorem hN_s (d : Nat → Nat) (n : Nat) : hN d (n + 1) = 27 * hN d n + d n := rfl
theorem hN_bd (d : Nat → Nat) (h : ∀ k, d k ≤ 26) : ∀ n, hN d n < 27 ^ n := by
  intro n
  induction n with
  | zero => exact Nat.one_pos
  | succ n ih =>
    rw [hN_s, Nat.pow_succ]
    have := h n
    omega
theorem hN_inj {d e : Nat → Nat} : ∀ (L m : Nat), (∀ k, k < m → 1 ≤ d k ∧ d k ≤ 26) → (∀ k, k < L → 1 ≤ e k ∧ e k ≤ 26) → hN d m = hN e L → m = L ∧ ∀ k, k < L → d k = e k := by
  intro L
  induction L with
  | zero =>
    intro m hd he h
    cases m with
    | zero => exact ⟨rfl, fun k hk => by omega⟩
    | succ m =>
      have := hd m (by omega)
      rw [hN_s] at h
      have h0 : hN e 0 = 0 := rfl
      omega
  | succ L ih =>
    intro m hd he h
    have hL := he L (by omega)
    rw [hN_s] at h
    cases m with
    | zero =>
      have h0 : hN d 0 = 0 := rfl
      omega
    | succ m =>
      have hm := hd m (by omega)
      rw [hN_s] at h
      obtain ⟨q1, q2⟩ := ih m (fun k hk => hd k (by omega)) (fun k hk => he k (by omega)) (by omega)
      refine ⟨by omega, fun k hk => ?_⟩
      by_cases e' : k = L
      · subst e'; subst q1; omega
      · exact q2 k (by omega)
theorem hN_congr {d e : Nat → Nat} : ∀ n, (∀ k, k < n → d k = e k) → hN d n = hN e n := by
  intro n
  induction n with
  | zero => intro _; rfl
  | succ n ih => intro h; rw [hN_s, hN_s, ih (fun k hk => h k (by omega)), h n (by omega)]
/-- the number of the letter at a place -/
def ltr (tape : Nat → Int32) (p k : Nat) : Nat := (tape (p + k)).toInt.toNat - 96
/-- the words' letters -/
def wE (i k : Nat) : Nat := ((bytJ.getD i []).getD k 0).toInt.toNat - 96
theorem wE_ok : ∀ i, i < 7 → ∀ k, k < lenJ.getD i 0 → (1 ≤ wE i k ∧ wE i k ≤ 26) ∧ strCh i k = nI (96 + wE i k) := by decide +kernel
theorem len_ok : ∀ i, i < 7 → lenJ.getD i 0 ≤ 6 := by decide
def wH (i : Nat) : Nat := hN (wE i) (lenJ.getD i 0)
theorem wH_ok : wH 0 = 381245 ∧ wH 1 = 13550 ∧ wH 2 = 14006 ∧ wH 3 = 390787 ∧ wH 4 = 10157486 ∧ wH 5 = 841 ∧ wH 6 = 261031658 := by decide +kernel
/-- the letters from p to n -/
def isLs (len : Nat) (tape : Nat → Int32) (p n : Nat) : Prop := ∀ k, p ≤ k → k < n → ∃ j, 97 ≤ j ∧ j ≤ 122 ∧ tape k = nI j
theorem ltr_in {len p n k : Nat} {tape : Nat → Int32} (h : isLs len tape p n) (hk : p + k < n) : (1 ≤ ltr tape p k ∧ ltr tape p k ≤ 26) ∧ tape (p + k) = nI (96 + ltr tape p k) := by
  obtain ⟨j, h1, h2, e⟩ := h (p + k) (by omega) hk
  have e2 : ltr tape p k = j - 96 := by
    unfold ltr
    rw [e, nI_toInt (by omega)]
    omega
  rw [e2, e]
  refine ⟨by omega, ?_⟩
  congr 1
  omega
def hashV (tape : Nat → Int32) (p m : Nat) : Int64 := if m ≤ 9 then Int64.ofInt (hN (ltr tape p) m) else -1
theorem hash_step {len p m : Nat} {tape : Nat → Int32} (h : isLs len tape p (p + m)) {j : Nat} (hj : 97 ≤ j ∧ j ≤ 122) (e : tape (p + m) = nI j) (hm : m < 9) : 27 * hashV tape p m + (nI j).toInt64 - 97 + 1 = hashV tape p (m + 1) := by
  unfold hashV
  rw [if_pos (by omega), if_pos (by omega), hN_s]
  have hl : ltr tape p m = j - 96 := by
    unfold ltr
    rw [e, nI_toInt (by omega)]
    omega
  have hb : hN (ltr tape p) m < 27 ^ 9 := by
    have h1 : hN (ltr tape p) m = hN (fun k => if k < m then ltr tape p k else 1) m := hN_congr m (fun k hk => by rw [if_pos hk])
    have h2 := hN_bd (fun k => if k < m then ltr tape p k else 1) (fun k => by
      by_cases q : k < m
      · rw [if_pos q]; exact (ltr_in h (by omega)).1.2
      · rw [if_neg q]; omega) m
    have h3 : 27 ^ m ≤ 27 ^ 9 := Nat.pow_le_pow_right (by omega) (by omega)
    omega
  have hb' : (27 : Nat) ^ 9 = 7625597484987 := by decide
  have c97 : (97 : Int64).toInt = 97 := rfl
  have c27 : (27 : Int64).toInt = 27 := rfl
  have a0 : (Int64.ofInt (hN (ltr tape p) m : Int)).toInt = (hN (ltr tape p) m : Int) := l_of (by omega) (by omega)
  have a1 : (27 * Int64.ofInt (hN (ltr tape p) m : Int)).toInt = 27 * (hN (ltr tape p) m : Int) := by
    rw [l_mul (by rw [a0, c27]; omega) (by rw [a0, c27]; omega), a0, c27]
  have aj : (nI j).toInt64.toInt = (j : Int) := by rw [i64, nI_toInt (by omega)]
  have a2 : (27 * Int64.ofInt (hN (ltr tape p) m : Int) + (nI j).toInt64).toInt = 27 * (hN (ltr tape p) m : Int) + j := by
    rw [l_add (by rw [a1, aj]; omega) (by rw [a1, aj]; omega), a1, aj]
  have a3 : (27 * Int64.ofInt (hN (ltr tape p) m : Int) + (nI j).toInt64 - 97).toInt = 27 * (hN (ltr tape p) m : Int) + j - 97 := by
    rw [l_sub (by rw [a2, c97]; omega) (by rw [a2, c97]; omega), a2, c97]
  have a4 : (27 * Int64.ofInt (hN (ltr tape p) m : Int) + (nI j).toInt64 - 97 + 1).toInt = 27 * (hN (ltr tape p) m : Int) + j - 97 + 1 := by
    rw [l_add (by rw [a3, l_1]; omega) (by rw [a3, l_1]; omega), a3, l_1]
  refine l_ext (a4.trans ?_)
  rw [hl]
  omega
theorem word_loop {len p : Nat} {B tape : Nat → Int32} (h : TP len B tape) : ∀ (m k fuel fuel' : Nat), k + m = len → m + 1 ≤ fuel → m + 1 ≤ fuel' → p ≤ k → isLs len tape p k → ∃ n, k ≤ n ∧ n ≤ len ∧ isLs len tape p n ∧ fX5_skipLetters_0 (nI len) B fuel (nI k) = some (nI n) ∧ fX11_takes_80 (nI len) tape (nI p) fuel' (nI k) (hashV tape p (k - p)) = some (nI n, 1, nI p, hashV tape p (n - p)) := by
  have hl := h.1
  intro m
  induction m with
  | zero =>
    intro k fuel fuel' hk hf hf' hp hL
    obtain ⟨fuel, rfl⟩ : ∃ f, fuel = f + 1 := ⟨fuel - 1, by omega⟩
    obtain ⟨fuel', rfl⟩ : ∃ f, fuel' = f + 1 := ⟨fuel' - 1, by omega⟩
    obtain rfl : k = len := by omega
    refine ⟨k, by omega, by omega, hL, ?_, ?_⟩
    · rw [fX5_skipLetters_0_s, if_pos (nI_le (Nat.le_refl _) (by omega))]
    · rw [fX11_takes_80_s, byR h (by omega), chr_out (by omega), obs, isL_eq, isL_no, obs, if_pos rfl]
      rfl
  | succ m ih =>
    intro k fuel fuel' hk hf hf' hp hL
    obtain ⟨fuel, rfl⟩ : ∃ f, fuel = f + 1 := ⟨fuel - 1, by omega⟩
    obtain ⟨fuel', rfl⟩ : ∃ f, fuel' = f + 1 := ⟨fuel' - 1, by omega⟩
    obtain ⟨j, hj, e⟩ := chr_in h (show k < len by omega)
    have etape : tape k = nI j := by
      unfold chr at e
      rw [if_pos (by omega)] at e
      exact e
    rw [fX5_skipLetters_0_s, if_neg (nI_ge (by omega) (by omega)), byC h (by omega), fX11_takes_80_s, byR h (by omega), e, obs, isL_nat j hj, obs, obs, isL_eq, isL_nat j hj, obs, obs, ltp, ltp, ltp, ltp, ← nI_succ, pk_sub hp]
    by_cases c : 97 ≤ j ∧ j ≤ 122
    · have hL' : isLs len tape p (k + 1) := by
        intro i h1 h2
        by_cases q : i = k
        · subst q; exact ⟨j, c.1, c.2, etape⟩
        · exact hL i h1 (by omega)
      obtain ⟨n, q1, q2, q3, q4, q5⟩ := ih (k + 1) fuel fuel' (by omega) (by omega) (by omega) (by omega) hL'
      refine ⟨n, by omega, q2, q3, ?_, ?_⟩
      · rw [if_pos c, if_neg one0]
        exact q4
      · rw [if_pos c, if_neg one0]
        by_cases h9 : 9 ≤ k - p
        · rw [if_pos (show (9 : Int32) ≤ nI (k - p) from nI_le (a := 9) (b := k - p) h9 (by omega))]
          rw [show hashV tape p (k + 1 - p) = -1 from if_neg (by omega)] at q5
          exact q5
        · rw [if_neg (show ¬ (9 : Int32) ≤ nI (k - p) from nI_ge (a := k - p) (b := 9) (by omega) (by omega))]
          have hs := hash_step (m := k - p) (p := p) (j := j) (by rw [show p + (k - p) = k by omega]; exact hL) c (by rw [show p + (k - p) = k by omega]; exact etape) (by omega)
          rw [show k - p + 1 = k + 1 - p by omega] at hs
          rw [hs]
          exact q5
    · refine ⟨k, by omega, by omega, hL, ?_, ?_⟩
      · rw [if_neg c, if_pos rfl]
      · rw [if_neg c, if_pos rfl]
        rfl
theorem skip_eq (next len : Int32) (B : Nat → Int32) : fX5_skipLetters next len B = fX5_skipLetters_0 len B (fuelN + 1) next := by
  rw [fX5_skipLetters_0_s]
  rfl
/-! which word it is -/
theorem isWord_loop {len p n i : Nat} {B tape : Nat → Int32} (h : TP len B tape) (hi : i < 7) (hn : n ≤ len) (hpn : p + lenJ.getD i 0 = n) (hL : isLs len tape p n) : ∀ (m v fuel : Nat), v + m = lenJ.getD i 0 → m + 1 ≤ fuel → (∀ k, k < v → ltr tape p k = wE i k) → (fX5_isWord_20 (nI p) (nI len) B i fuel (nI v) = some 1 ∧ ∀ k, k < lenJ.getD i 0 → ltr tape p k = wE i k) ∨ (fX5_isWord_20 (nI p) (nI len) B i fuel (nI v) = some 0 ∧ ∃ k, k < lenJ.getD i 0 ∧ ¬ ltr tape p k = wE i k) := by
  have hl := h.1
  have h6 := len_ok i hi
  have es : strLen i = nI (lenJ.getD i 0) := rfl
  intro m
  induction m with
  | zero =>
    intro v fuel hv hf hh
    obtain ⟨fuel, rfl⟩ : ∃ f, fuel = f + 1 := ⟨fuel - 1, by omega⟩
    have hv' : v = lenJ.getD i 0 := by omega
    left
    refine ⟨?_, by rw [← hv']; exact hh⟩
    rw [fX5_isWord_20_s, es, if_pos (nI_le (by omega) (by omega))]
  | succ m ih =>
    intro v fuel hv hf hh
    obtain ⟨fuel, rfl⟩ : ∃ f, fuel = f + 1 := ⟨fuel - 1, by omega⟩
    obtain ⟨⟨l1, l2⟩, l3⟩ := ltr_in (k := v) hL (by omega)
    obtain ⟨⟨w1, w2⟩, w3⟩ := wE_ok i hi v (by omega)
    rw [fX5_isWord_20_s, es, if_neg (nI_ge (by omega) (by omega)), nI_add, byC h (by omega), obs, inB_ok (by omega) (by omega), nI_clamp (by omega), w3, ← nI_succ, show chr len tape (p + v) = tape (p + v) from if_pos (by omega), l3]
    by_cases c : ltr tape p v = wE i v
    · rw [if_pos (by rw [c])]
      refine ih (v + 1) fuel (by omega) (by omega) (fun k hk => ?_)
      by_cases q : k = v
      · subst q; exact c
      · exact hh k (by omega)
    · right
      rw [if_neg (fun q => c (by have := (nI_eq (by omega) (by omega)).mp q; omega))]
      exact ⟨rfl, v, by omega, c⟩
theorem hash_iff {len p n i : Nat} {tape : Nat → Int32} (hi : i < 7) (hpn : p ≤ n) (hL : isLs len tape p n) : hashV tape p (n - p) = Int64.ofInt (wH i) ↔ (p + lenJ.getD i 0 = n ∧ ∀ k, k < lenJ.getD i 0 → ltr tape p k = wE i k) := by
  have h6 := len_ok i hi
  have wb : wH i < 27 ^ 9 := by
    have : ∀ i, i < 7 → wH i < 27 ^ 9 := by decide +kernel
    exact this i hi
  have hb' : (27 : Nat) ^ 9 = 7625597484987 := by decide
  have ew : (Int64.ofInt (wH i : Int)).toInt = (wH i : Int) := l_of (by omega) (by omega)
  constructor
  · intro e
    by_cases h9 : n - p ≤ 9
    · unfold hashV at e
      rw [if_pos h9] at e
      have hb : hN (ltr tape p) (n - p) < 27 ^ 9 := by
        have h1 : hN (ltr tape p) (n - p) = hN (fun k => if k < n - p then ltr tape p k else 1) (n - p) := hN_congr _ (fun k hk => by rw [if_pos hk])
        have h2 := hN_bd (fun k => if k < n - p then ltr tape p k else 1) (fun k => by
          by_cases q : k < n - p
          · rw [if_pos q]; exact (ltr_in hL (by omega)).1.2
          · rw [if_neg q]; omega) (n - p)
        have h3 : 27 ^ (n - p) ≤ 27 ^ 9 := Nat.pow_le_pow_right (by omega) (by omega)
        omega
      have ea : (Int64.ofInt (hN (ltr tape p) (n - p) : Int)).toInt = (hN (ltr tape p) (n - p) : Int) := l_of (by omega) (by omega)
      have e2 : hN (ltr tape p) (n - p) = wH i := by
        have := congrArg Int64.toInt e
        rw [ea, ew] at this
        omega
      obtain ⟨q1, q2⟩ := hN_inj (lenJ.getD i 0) (n - p) (fun k hk => (ltr_in hL (by omega)).1) (fun k hk => (wE_ok i hi k hk).1) e2
      exact ⟨by omega, q2⟩
    · unfold hashV at e
      rw [if_neg h9] at e
      have := congrArg Int64.toInt e
      rw [ew] at this
      have hm : (-1 : Int64).toInt = -1 := rfl
      omega
  · intro ⟨q1, q2⟩
    unfold hashV
    rw [if_pos (by omega), show n - p = lenJ.getD i 0 by omega, hN_congr _ q2]
    rfl
theorem isWord_ok {len p n i : Nat} {B tape : Nat → Int32} (h : TP len B tape) (hi : i < 7) (hpn : p ≤ n) (hn : n ≤ len) (hL : isLs len tape p n) : (fX5_isWord (nI p) (nI n) (nI len) B i = some 1 ∧ hashV tape p (n - p) = Int64.ofInt (wH i)) ∨ (fX5_isWord (nI p) (nI n) (nI len) B i = some 0 ∧ ¬ hashV tape p (n - p) = Int64.ofInt (wH i)) := by
  have h6 := len_ok i hi
  have hl := h.1
  have es : strLen i = nI (lenJ.getD i 0) := rfl
  rw [hash_iff hi hpn hL]
  unfold fX5_isWord
  rw [pk_sub hpn, es]
  by_cases c : n - p = lenJ.getD i 0
  · rw [if_pos (by rw [c])]
    have hq := isWord_loop h hi hn (show p + lenJ.getD i 0 = n by omega) hL (lenJ.getD i 0) 0 fuelN (by omega) (by unfold fuelN; omega) (fun k hk => by omega)
    rw [show nI 0 = 0 from rfl] at hq
    rcases hq with ⟨q1, q2⟩ | ⟨q1, k, q2, q3⟩
    · left; exact ⟨q1, by omega, q2⟩
    · right; exact ⟨q1, fun q => q3 (q.2 k q2)⟩
  · right
    rw [if_neg (fun q => c ((nI_eq (by omega) (by omega)).mp q))]
    exact ⟨rfl, fun q => c (by omega)⟩
/-- a word of the class beside the reference's number -/
def wv (w : Int32) (va : Int64) : Prop := (w = 1 ∧ va = 381245) ∨ (w = 2 ∧ va = 13550) ∨ (w = 3 ∧ va = 14006) ∨ (w = 4 ∧ va = 390787) ∨ (w = 5 ∧ va = 10157486) ∨ (w = 6 ∧ va = 841) ∨ (w = 7 ∧ va = 261031658) ∨ (w = 0 ∧ ¬ va = 381245 ∧ ¬ va = 13550 ∧ ¬ va = 14006 ∧ ¬ va = 390787 ∧ ¬ va = 10157486 ∧ ¬ va = 841 ∧ ¬ va = 261031658)
theorem wordAhead_ok {len p n : Nat} {B tape : Nat → Int32} (h : TP len B tape) (hpn : p ≤ n) (hn : n ≤ len) (hL : isLs len tape p n) : ∃ w, fX5_wordAhead (nI p) (nI n) (nI len) B = some w ∧ wv w (hashV tape p (n - p)) := by
  obtain ⟨w0, w1, w2, w3, w4, w5, w6⟩ := wH_ok
  have i0 := isWord_ok (i := 0) h (by omega) hpn hn hL
  have i1 := isWord_ok (i := 1) h (by omega) hpn hn hL
  have i2 := isWord_ok (i := 2) h (by omega) hpn hn hL
  have i3 := isWord_ok (i := 3) h (by omega) hpn hn hL
  have i4 := isWord_ok (i := 4) h (by omega) hpn hn hL
  have i5 := isWord_ok (i := 5) h (by omega) hpn hn hL
  have i6 := isWord_ok (i := 6) h (by omega) hpn hn hL
  rw [w0] at i0
  rw [w1] at i1
  rw [w2] at i2
  rw [w3] at i3
  rw [w4] at i4
  rw [w5] at i5
  rw [w6] at i6
  have c0 : Int64.ofInt ((381245 : Nat) : Int) = 381245 := rfl
  have c1 : Int64.ofInt ((13550 : Nat) : Int) = 13550 := rfl
  have c2 : Int64.ofInt ((14006 : Nat) : Int) = 14006 := rfl
  have c3 : Int64.ofInt ((390787 : Nat) : Int) = 390787 := rfl
  have c4 : Int64.ofInt ((10157486 : Nat) : Int) = 10157486 := rfl
  have c5 : Int64.ofInt ((841 : Nat) : Int) = 841 := rfl
  have c6 : Int64.ofInt ((261031658 : Nat) : Int) = 261031658 := rfl
  rw [c0] at i0
  rw [c1] at i1
  rw [c2] at i2
  rw [c3] at i3
  rw [c4] at i4
  rw [c5] at i5
  rw [c6] at i6
  unfold fX5_wordAhead
  rcases i0 with ⟨q, e0⟩ | ⟨q, e0⟩
  · rw [q, obs, if_neg one0]
    exact ⟨_, rfl, Or.inl ⟨rfl, e0⟩⟩
  rw [q, obs, if_pos rfl]
  rcases i1 with ⟨q, e1⟩ | ⟨q, e1⟩
  · rw [q, obs, if_neg one0]
    exact ⟨_, rfl, Or.inr (Or.inl ⟨rfl, e1⟩)⟩
  rw [q, obs, if_pos rfl]
  rcases i2 with ⟨q, e2⟩ | ⟨q, e2⟩
  · rw [q, obs, if_neg one0]
    exact ⟨_, rfl, Or.inr (Or.inr (Or.inl ⟨rfl, e2⟩))⟩
  rw [q, obs, if_pos rfl]
  rcases i3 with ⟨q, e3⟩ | ⟨q, e3⟩
  · rw [q, obs, if_neg one0]
    exact ⟨_, rfl, Or.inr (Or.inr (Or.inr (Or.inl ⟨rfl, e3⟩)))⟩
  rw [q, obs, if_pos rfl]
  rcases i4 with ⟨q, e4⟩ | ⟨q, e4⟩
  · rw [q, obs, if_neg one0]
    exact ⟨_, rfl, Or.inr (Or.inr (Or.inr (Or.inr (Or.inl ⟨rfl, e4⟩))))⟩
  rw [q, obs, if_pos rfl]
  rcases i5 with ⟨q, e5⟩ | ⟨q, e5⟩
  · rw [q, obs, if_neg one0]
    exact ⟨_, rfl, Or.inr (Or.inr (Or.inr (Or.inr (Or.inr (Or.inl ⟨rfl, e5⟩)))))⟩
  rw [q, obs, if_pos rfl]
  rcases i6 with ⟨q, e6⟩ | ⟨q, e6⟩
  · rw [q, obs, if_neg one0]
    exact ⟨_, rfl, Or.inr (Or.inr (Or.inr (Or.inr (Or.inr (Or.inr (Or.inl ⟨rfl, e6⟩))))))⟩
  rw [q, obs, if_pos rfl]
  exact ⟨_, rfl, Or.inr (Or.inr (Or.inr (Or.inr (Or.inr (Or.inr (Or.inr ⟨rfl, e0, e1, e2, e3, e4, e5, e6⟩))))))⟩
/-! digits -/
theorem dig_step {v j : Nat} (hv : v ≤ 99) (hj : 48 ≤ j ∧ j ≤ 57) : nI v * 10 + nI j - 48 = nI (10 * v + (j - 48)) ∧ 10 * (nI v).toInt64 + (nI j).toInt64 - 48 = (nI (10 * v + (j - 48))).toInt64 := by
  constructor
  · rw [show (10 : Int32) = nI 10 from rfl, show (48 : Int32) = nI 48 from rfl, pk_mul, nI_add, pk_sub (by omega)]
    congr 1
    omega
  · have c10 : (10 : Int64).toInt = 10 := rfl
    have c48 : (48 : Int64).toInt = 48 := rfl
    have av : (nI v).toInt64.toInt = (v : Int) := by rw [i64, nI_toInt (by omega)]
    have aj : (nI j).toInt64.toInt = (j : Int) := by rw [i64, nI_toInt (by omega)]
    have a1 : (10 * (nI v).toInt64).toInt = 10 * (v : Int) := by rw [l_mul (by rw [av, c10]; omega) (by rw [av, c10]; omega), av, c10]
    have a2 : (10 * (nI v).toInt64 + (nI j).toInt64).toInt = 10 * (v : Int) + j := by rw [l_add (by rw [a1, aj]; omega) (by rw [a1, aj]; omega), a1, aj]
    have a3 : (10 * (nI v).toInt64 + (nI j).toInt64 - 48).toInt = 10 * (v : Int) + j - 48 := by rw [l_sub (by rw [a2, c48]; omega) (by rw [a2, c48]; omega), a2, c48]
    apply Int64.toInt_inj.mp
    rw [a3, i64, nI_toInt (by omega)]
    omega
theorem dig_loop {len p : Nat} {B tape : Nat → Int32} (h : TP len B tape) : ∀ (m k fuel fuel' v : Nat), k + m = len → m + 1 ≤ fuel → m + 1 ≤ fuel' → p ≤ k → (k - p = 0 ∧ v = 0) ∨ (k - p = 1 ∧ v ≤ 9) ∨ (k - p = 2 ∧ v ≤ 99) ∨ (3 ≤ k - p ∧ v ≤ 999) → ∃ n v', k ≤ n ∧ n ≤ len ∧ v' ≤ 999 ∧ fX5_takeDigits_5 (nI p) (nI len) B fuel (nI v) (nI k) = some (nI v', nI n) ∧ fX11_takes_170 (nI len) tape (nI p) fuel' (nI k) (nI v).toInt64 = fX11_takes_243 (nI n) (nI p) (nI v').toInt64 ∧ (k < len → fX5_isDigit (chr len tape k) = some 1 → k < n) := by
  have hl := h.1
  intro m
  induction m with
  | zero =>
    intro k fuel fuel' v hk hf hf' hp hv
    obtain ⟨fuel, rfl⟩ : ∃ f, fuel = f + 1 := ⟨fuel - 1, by omega⟩
    obtain ⟨fuel', rfl⟩ : ∃ f, fuel' = f + 1 := ⟨fuel' - 1, by omega⟩
    obtain rfl : k = len := by omega
    refine ⟨k, v, by omega, by omega, by omega, ?_, ?_, fun q => by omega⟩
    · rw [fX5_takeDigits_5_s, if_pos (nI_le (Nat.le_refl _) (by omega))]
    · rw [fX11_takes_170_s, byR h (by omega), chr_out (by omega), obs, isD_eq, isD_no, obs, if_pos rfl]
  | succ m ih =>
    intro k fuel fuel' v hk hf hf' hp hv
    obtain ⟨fuel, rfl⟩ : ∃ f, fuel = f + 1 := ⟨fuel - 1, by omega⟩
    obtain ⟨fuel', rfl⟩ : ∃ f, fuel' = f + 1 := ⟨fuel' - 1, by omega⟩
    obtain ⟨j, hj, e⟩ := chr_in h (show k < len by omega)
    rw [fX5_takeDigits_5_s, if_neg (nI_ge (by omega) (by omega)), byC h (by omega), fX11_takes_170_s, byR h (by omega), e]
    simp only [obs, ltp, isD_eq, isD_nat j hj, ← nI_succ, pk_sub hp]
    by_cases c : 48 ≤ j ∧ j ≤ 57
    · simp only [if_pos c, if_neg one0]
      by_cases h3 : 3 ≤ k - p
      · simp only [if_pos (show (3 : Int32) ≤ nI (k - p) from nI_le (a := 3) (b := k - p) h3 (by omega))]
        obtain ⟨n, v', q1, q2, q3, q4, q5, -⟩ := ih (k + 1) fuel fuel' v (by omega) (by omega) (by omega) (by omega) (by omega)
        exact ⟨n, v', by omega, q2, q3, q4, q5, fun _ _ => by omega⟩
      · simp only [if_neg (show ¬ (3 : Int32) ≤ nI (k - p) from nI_ge (a := k - p) (b := 3) (by omega) (by omega))]
        obtain ⟨s1, s2⟩ := dig_step (v := v) (j := j) (by omega) c
        rw [s1, s2]
        obtain ⟨n, v', q1, q2, q3, q4, q5, -⟩ := ih (k + 1) fuel fuel' (10 * v + (j - 48)) (by omega) (by omega) (by omega) (by omega) (by omega)
        exact ⟨n, v', by omega, q2, q3, q4, q5, fun _ _ => by omega⟩
    · simp only [if_neg c, ↓reduceIte]
      exact ⟨k, v, by omega, by omega, by omega, rfl, rfl, fun _ q => absurd (Option.some.inj q) (by decide)⟩
/-- a token of both -/
def TokR (len : Nat) (B : Nat → Int32) (p n : Nat) (ty va : Int32) (va' : Int64) : Prop :=
  p ≤ n ∧ n ≤ len ∧ (ty = 0 ∨ (ty = 1 ∧ p < n ∧ ∃ w, fX5_wordAhead (nI p) (nI n) (nI len) B = some w ∧ wv w va') ∨ (ty = 2 ∧ p < n ∧ ∃ v, v ≤ 999 ∧ va = nI v ∧ va' = (nI v).toInt64) ∨ (ty = 3 ∧ p < n ∧ (va = 45 ∨ va = 47 ∨ va = 59) ∧ va' = va.toInt64) ∨ (ty = 4 ∧ p < n))
theorem tok_ok {len k : Nat} {B tape : Nat → Int32} (h : TP len B tape) (hk : k ≤ len) : ∃ n ty va va', TokR len B k n ty va va' ∧ fX5_advance_44 (nI len) B (nI k) = some (ty, nI k, va, nI n) ∧ fX11_takes_39 (nI len) tape (nI k) = some (nI n, ty, nI k, va') := by
  have hl := h.1
  unfold fX5_advance_44 fX11_takes_39
  rw [byC h (by omega), byR h (by omega)]
  simp only [obs, ltp, isL_eq, isD_eq]
  by_cases e : k < len
  · obtain ⟨j, hj, ec⟩ := chr_in h e
    have etape : tape k = nI j := by
      unfold chr at ec
      rw [if_pos e] at ec
      exact ec
    rw [ec, if_pos (nI_lt e (by omega)), if_pos (nI_pos' (by omega)), isL_nat j hj, isD_nat j hj]
    simp only [obs]
    by_cases cl : 97 ≤ j ∧ j ≤ 122
    · simp only [if_pos cl, if_neg one0]
      have hw := word_loop (p := k) h (len - k) k (fuelN + 1) fuelN (by omega) (by unfold fuelN; omega) (by unfold fuelN; omega) (Nat.le_refl _) (fun i h1 h2 => by omega)
      rw [← skip_eq, Nat.sub_self, show hashV tape k 0 = 0 from rfl] at hw
      obtain ⟨n, q1, q2, q3, q4, q5⟩ := hw
      have hkn : k < n := by
        rcases Nat.lt_or_ge k n with q | q
        · exact q
        · exfalso
          obtain rfl : n = k := by omega
          unfold fX5_skipLetters at q4
          rw [if_neg (nI_ge e (by omega)), byC h (by omega), ec, obs, isL_nat j hj, if_pos cl, obs, if_neg one0, ltp, ← nI_succ] at q4
          obtain ⟨n2, r1, r2, -, r4, -⟩ := word_loop (p := n) h (len - (n + 1)) (n + 1) fuelN fuelN (by omega) (by unfold fuelN; omega) (by unfold fuelN; omega) (by omega) (fun i h1 h2 => by
            obtain rfl : i = n := by omega
            exact ⟨j, cl.1, cl.2, etape⟩)
          rw [r4] at q4
          have := (nI_eq (a := n2) (b := n) (by omega) (by omega)).mp (Option.some.inj q4)
          omega
      rw [q4, q5]
      simp only [obs]
      obtain ⟨w, w1, w2⟩ := wordAhead_ok h q1 q2 q3
      exact ⟨n, _, _, _, ⟨q1, q2, Or.inr (Or.inl ⟨rfl, hkn, w, w1, w2⟩)⟩, rfl, rfl⟩
    · simp only [if_neg cl, ↓reduceIte]
      by_cases cd : 48 ≤ j ∧ j ≤ 57
      · simp only [if_pos cd, if_neg one0]
        obtain ⟨n, v, q1, q2, q3, q4, q5, q6⟩ := dig_loop (p := k) h (len - k) k fuelN fuelN 0 (by omega) (by unfold fuelN; omega) (by unfold fuelN; omega) (Nat.le_refl _) (Or.inl ⟨by omega, rfl⟩)
        have hkn := q6 e (by rw [ec, isD_nat j hj, if_pos cd])
        unfold fX5_takeDigits
        rw [show nI 0 = 0 from rfl] at q4 q5
        rw [show (0 : Int32).toInt64 = 0 from rfl] at q5
        rw [q4, q5]
        simp only [obs]
        unfold fX11_takes_243
        rw [pk_sub q1]
        by_cases c3 : n - k ≤ 3
        · have c3' : nI (n - k) ≤ (3 : Int32) := nI_le (a := n - k) (b := 3) c3 (by omega)
          rw [if_pos c3', if_pos c3']
          exact ⟨n, _, _, _, ⟨q1, q2, Or.inr (Or.inr (Or.inl ⟨rfl, hkn, v, q3, rfl, rfl⟩))⟩, rfl, rfl⟩
        · have c3' : ¬ nI (n - k) ≤ (3 : Int32) := nI_ge (a := 3) (b := n - k) (by omega) (by omega)
          rw [if_neg c3', if_neg c3']
          exact ⟨n, _, _, _, ⟨q1, q2, Or.inr (Or.inr (Or.inr (Or.inr ⟨rfl, hkn⟩)))⟩, rfl, rfl⟩
      · simp only [if_neg cd, ↓reduceIte, fX5_advance_182, ltp, if_neg one0, ← nI_succ]
        by_cases s1 : nI j = 45
        · rw [s1]
          exact ⟨k + 1, _, _, _, ⟨by omega, by omega, Or.inr (Or.inr (Or.inr (Or.inl ⟨rfl, by omega, Or.inl rfl, rfl⟩)))⟩, rfl, rfl⟩
        by_cases s2 : nI j = 47
        · rw [s2]
          exact ⟨k + 1, _, _, _, ⟨by omega, by omega, Or.inr (Or.inr (Or.inr (Or.inl ⟨rfl, by omega, Or.inr (Or.inl rfl), rfl⟩)))⟩, rfl, rfl⟩
        by_cases s3 : nI j = 59
        · rw [s3]
          exact ⟨k + 1, _, _, _, ⟨by omega, by omega, Or.inr (Or.inr (Or.inr (Or.inl ⟨rfl, by omega, Or.inr (Or.inr rfl), rfl⟩)))⟩, rfl, rfl⟩
        simp only [if_neg s1, if_neg s2, if_neg s3]
        exact ⟨k + 1, _, _, _, ⟨by omega, by omega, Or.inr (Or.inr (Or.inr (Or.inr ⟨rfl, by omega⟩)))⟩, rfl, rfl⟩
  · obtain rfl : k = len := by omega
    rw [chr_out (by omega), if_neg (nI_nlt (Nat.le_refl _) (by omega)), if_neg (show ¬ (0 : Int32) ≤ -1 by decide)]
    exact ⟨k, _, _, _, ⟨by omega, by omega, Or.inl rfl⟩, rfl, rfl⟩
theorem adv_ok {len k : Nat} {B tape : Nat → Int32} (h : TP len B tape) (hk : k ≤ len) : ∃ p n ty va va', k ≤ p ∧ TokR len B p n ty va va' ∧ fX5_advance (nI k) (nI len) B = some (ty, nI p, va, nI n) ∧ fX11_takes (nI len) (nI k) tape = some (nI n, ty, nI p, va') := by
  obtain ⟨p, h1, h2, h3, h4⟩ := blank_loop h (len - k) k (fuelN + 1) (fuelN + 1) (by omega) (by unfold fuelN; have := h.1; omega) (by unfold fuelN; have := h.1; omega)
  obtain ⟨n, ty, va, va', q1, q2, q3⟩ := tok_ok h h2
  refine ⟨p, n, ty, va, va', h1, q1, ?_, ?_⟩
  · rw [adv_eq, h3, q2]
  · rw [takes_eq, h4, q3]
