theorem inX1_addTimes_X1 : ∀ w ∈ wsX10, w ∈ wsX1_addTimes := fun _ h => List.mem_cons_of_mem _ (List.mem_append_left _ (List.mem_append_right _ h))
theorem inX1_addTimes_X3 : ∀ w ∈ wsX30, w ∈ wsX1_addTimes := fun _ h => List.mem_cons_of_mem _ (List.mem_append_right _ h)
def fX1_addTimes_3 (p1 : Int32) (p2 : Int32) (p3 : Int64) (p4 : Int64) (t_columns : Int32) : Nat → Int32 → (Nat → Int32) → Int64 → Int64 → Int32 → (Nat → Int32) → Option (Int32 × (Nat → Int32) × Int64 × Int64 × Int32 × (Nat → Int32))
  | 0, _, _, _, _, _, _ => none
  | n + 1, v7_3, t_lower_3, t_sum_upper_3, t_sum_lower_3, t_sum_isLong_3, t_upper_3 => if t_columns < v7_3 then (some ((-1), t_lower_3, t_sum_upper_3, t_sum_lower_3, t_sum_isLong_3, t_upper_3)) else ((fX3_load p2 v7_3 t_lower_3 t_upper_3).bind fun u_1 => (fX3_times p3 p4 u_1.1 u_1.2.1 u_1.2.2).bind fun u_2 => (fX1_upperAt p1 v7_3 t_upper_3).bind fun u_3 => (fX1_lowerAt p1 v7_3 t_lower_3).bind fun u_4 => (fX3_plus (u_3.toInt64) (u_4.toInt64) u_2.1 u_2.2.1 u_2.2.2).bind fun u_5 => if u_5.2.2 = 0 then ((fX1_put p1 v7_3 t_lower_3 t_upper_3 u_5.1 u_5.2.1).bind fun u_6 => (fX1_addTimes_3 p1 p2 p3 p4 t_columns n) (v7_3 + 1) u_6.1 u_5.1 u_5.2.1 u_5.2.2 u_6.2) else (some (v7_3, t_lower_3, u_5.1, u_5.2.1, u_5.2.2, t_upper_3)))
theorem fX1_addTimes_3_s (p1 : Int32) (p2 : Int32) (p3 : Int64) (p4 : Int64) (t_columns : Int32) (n : Nat) (v7_3 : Int32) (t_lower_3 : Nat → Int32) (t_sum_upper_3 : Int64) (t_sum_lower_3 : Int64) (t_sum_isLong_3 : Int32) (t_upper_3 : Nat → Int32) : fX1_addTimes_3 p1 p2 p3 p4 t_columns (n + 1) v7_3 t_lower_3 t_sum_upper_3 t_sum_lower_3 t_sum_isLong_3 t_upper_3 = (if t_columns < v7_3 then (some ((-1), t_lower_3, t_sum_upper_3, t_sum_lower_3, t_sum_isLong_3, t_upper_3)) else ((fX3_load p2 v7_3 t_lower_3 t_upper_3).bind fun u_1 => (fX3_times p3 p4 u_1.1 u_1.2.1 u_1.2.2).bind fun u_2 => (fX1_upperAt p1 v7_3 t_upper_3).bind fun u_3 => (fX1_lowerAt p1 v7_3 t_lower_3).bind fun u_4 => (fX3_plus (u_3.toInt64) (u_4.toInt64) u_2.1 u_2.2.1 u_2.2.2).bind fun u_5 => if u_5.2.2 = 0 then ((fX1_put p1 v7_3 t_lower_3 t_upper_3 u_5.1 u_5.2.1).bind fun u_6 => (fX1_addTimes_3 p1 p2 p3 p4 t_columns n) (v7_3 + 1) u_6.1 u_5.1 u_5.2.1 u_5.2.2 u_6.2) else (some (v7_3, t_lower_3, u_5.1, u_5.2.1, u_5.2.2, t_upper_3)))) := rfl
def fX1_addTimes (p1 : Int32) (p2 : Int32) (p3 : Int64) (p4 : Int64) (t_columns : Int32) (t_lower : Nat → Int32) (t_sum_upper : Int64) (t_sum_lower : Int64) (t_sum_isLong : Int32) (t_upper : Nat → Int32) : Option (Int32 × (Nat → Int32) × Int64 × Int64 × Int32 × (Nat → Int32)) :=
  fX1_addTimes_3 p1 p2 p3 p4 t_columns fuelN 0 t_lower t_sum_upper t_sum_lower t_sum_isLong t_upper
set_option maxHeartbeats 4000000 in
set_option maxRecDepth 100000 in
theorem wX1_addTimes_3 {l : Launch} {D : va_G} {cI cJ cB cZ cG cS : ClassId} {p : Program} {e : Env} {s : State} {m : MethodId} {below : List Frame} {meth : Method} {c : Code} {A : Nat → Prop} (a_t : Nat) (a_t_upper : Nat) (a_t_lower : Nat) (a_t_sum : Nat) (z_r : Int32) (z_t_lower : Nat → Int32) (z_t_sum_upper : Int64) (z_t_sum_lower : Int64) (z_t_sum_isLong : Int32) (z_t_upper : Nat → Int32) (p1 : Int32) (p2 : Int32) (p3 : Int64) (p4 : Int64) (t_rows : Int32) (t_columns : Int32) (t_lower : Nat → Int32) (t_sum_upper : Int64) (t_sum_lower : Int64) (t_sum_isLong : Int32) (t_upper : Nat → Int32)  (X : Cx D (tyL cI cJ cB cZ cG cS) cX1_addTimes 8 (some .int) RX1 wsX1_addTimes [.ref a_t, .int p1, .int p2, .long p3, .long p4] p s m meth c A) : ∀ (n : Nat) (v7_3 : Int32) (t_lower_3 : Nat → Int32) (t_sum_upper_3 : Int64) (t_sum_lower_3 : Int64) (t_sum_isLong_3 : Int32) (t_upper_3 : Nat → Int32) (H : Heap) (locs : List Loc) (ls : Array Slot), fX1_addTimes_3 p1 p2 p3 p4 t_columns n v7_3 t_lower_3 t_sum_upper_3 t_sum_lower_3 t_sum_isLong_3 t_upper_3 = some (z_r, z_t_lower, z_t_sum_upper, z_t_sum_lower, z_t_sum_isLong, z_t_upper) → va_P D vwCl [(a_t, .inr (1, [.int t_rows, .int t_columns, .ref a_t_upper, .ref a_t_lower, .ref a_t_sum])), (a_t_lower, .inl (cI, 42, .inl t_lower_3)), (a_t_sum, .inr (3, [.long t_sum_upper_3, .long t_sum_lower_3, .int t_sum_isLong_3])), (a_t_upper, .inl (cI, 42, .inl t_upper_3))] H → va_D A [(a_t, .inr (1, [.int t_rows, .int t_columns, .ref a_t_upper, .ref a_t_lower, .ref a_t_sum])), (a_t_lower, .inl (cI, 42, .inl t_lower_3)), (a_t_sum, .inr (3, [.long t_sum_upper_3, .long t_sum_lower_3, .int t_sum_isLong_3])), (a_t_upper, .inl (cI, 42, .inl t_upper_3))] → va_S A s.heap H locs → lv_has ls 8 [(0, .ref a_t), (1, .int p1), (2, .int p2), (3, .long p3), (5, .long p4), (7, .int v7_3)] → W p l e { frames := 3, cells := 0, slots := 0, locals := 75 } s m ([.ref a_t, .int p1, .int p2, .long p3, .long p4] : List Value).toArray below meth c H locs 0 0 (MQ below (cQi D A z_r [(a_t, .inr (1, [.int t_rows, .int t_columns, .ref a_t_upper, .ref a_t_lower, .ref a_t_sum])), (a_t_lower, .inl (cI, 42, .inl z_t_lower)), (a_t_sum, .inr (3, [.long z_t_sum_upper, .long z_t_sum_lower, .int z_t_sum_isLong])), (a_t_upper, .inl (cI, 42, .inl z_t_upper))]) ([.ref a_t, .int p1, .int p2, .long p3, .long p4] : List Value).toArray s 0 0 A) (F0 m 3 ls []) := by
  obtain ⟨hx, hb, hr, hlk, hml, hown, hts, hK, hN, hA⟩ := id X
  intro n
  induction n with
  | zero =>
    intro v7_3 t_lower_3 t_sum_upper_3 t_sum_lower_3 t_sum_isLong_3 t_upper_3 H locs ls hf
    have hf : (none : Option (Int32 × (Nat → Int32) × Int64 × Int64 × Int32 × (Nat → Int32))) = some (z_r, z_t_lower, z_t_sum_upper, z_t_sum_lower, z_t_sum_isLong, z_t_upper) := hf
    cases hf
  | succ n ih =>
    intro v7_3 t_lower_3 t_sum_upper_3 t_sum_lower_3 t_sum_isLong_3 t_upper_3 H locs ls hf hP hD hS hl
    rw [fX1_addTimes_3_s] at hf
    refine lv_iload hx hb dX1_addTimes_3 (lv_at hl 5 rfl) ?_
    refine lv_aload_n hx hb dX1_addTimes_5 rfl (lv_at hl 0 rfl) ?_
    refine va_get (D := D) (ci := 1) (v := .int t_columns) (C := RX1) (T := TX1) (N := 5) hx hb hts inX1_addTimes_X1 hown hK hP 0 rfl rfl 1 (by decide) (hts (.fieldLink RX1 15 "RowPivots$Grid" "columns" "I") (List.mem_of_getElem? (i := 1) rfl)) (fun _ h9 => h9) rfl dX1_addTimes_6 ?_
    refine lv_icmp_gt (tgt := 86) hx hb dX1_addTimes_9 (by decide) (fun hc_9 => ?_) (fun hc_9 => ?_)
    · have hf := ifP hc_9 hf
      refine lv_iconst (v := (-1)) hx hb dX1_addTimes_86 (by decide) ?_
      have hf : (some ((-1), t_lower_3, t_sum_upper_3, t_sum_lower_3, t_sum_isLong_3, t_upper_3) : Option (Int32 × (Nat → Int32) × Int64 × Int64 × Int32 × (Nat → Int32))) = some (z_r, z_t_lower, z_t_sum_upper, z_t_sum_lower, z_t_sum_isLong, z_t_upper) := hf
      cases hf
      exact cRi hx hb hr hlk hP hD hS rfl dX1_addTimes_87
    · have hf := ifN hc_9 hf
      refine lv_aload_n hx hb dX1_addTimes_12 rfl (lv_at hl 0 rfl) ?_
      refine va_get (D := D) (ci := 1) (v := .ref a_t_sum) (C := RX1) (T := TX1) (N := 5) hx hb hts inX1_addTimes_X1 hown hK hP 0 rfl rfl 4 (by decide) (hts (.fieldLink RX1 28 "RowPivots$Grid" "sum" "LRowPivots$Ratio;") (List.mem_of_getElem? (i := 2) rfl)) (fun _ h9 => h9) rfl dX1_addTimes_13 ?_
      refine lv_aload_n hx hb dX1_addTimes_16 rfl (lv_at hl 0 rfl) ?_
      refine lv_iload_n hx hb dX1_addTimes_17 rfl (lv_at hl 2 rfl) ?_
      refine lv_iload hx hb dX1_addTimes_18 (lv_at hl 5 rfl) ?_
      obtain ⟨u_1, hcu_1, hf⟩ := bdS hf
      refine kVv (As := [.ref a_t, .int p2, .int v7_3]) (rest := []) (w2 := [(a_t, .inr (1, [.int t_rows, .int t_columns, .ref a_t_upper, .ref a_t_lower, .ref a_t_sum])), (a_t_lower, .inl (cI, 42, .inl t_lower_3)), (a_t_sum, .inr (3, [.long u_1.1, .long u_1.2.1, .int u_1.2.2])), (a_t_upper, .inl (cI, 42, .inl t_upper_3))]) (wr := []) (ci := 3) (q0 := 0) ⟨hx, hb, hml, hown, hts⟩ (MX3_load l D cI cJ cB cZ cG cS _ a_t_sum a_t a_t_upper a_t_lower a_t_sum p2 v7_3 t_sum_upper_3 t_sum_lower_3 t_sum_isLong_3 t_rows t_columns t_lower_3 t_upper_3 u_1.1 u_1.2.1 u_1.2.2 hcu_1) (cwV 3 hts gX1_addTimes_X3_load rfl rfl rfl (by decide +kernel) ⟨Nat.le_of_ble_eq_true rfl, Nat.le_of_ble_eq_true rfl⟩) hK hN hP hD hS hA [2, 0, 1, 3] [] [1, 2, 0, 3] rfl (by decide) rfl (by decide) (by decide) rfl (by decide) rfl rfl rfl hl.1 rfl (Nat.le_of_ble_eq_true rfl) dX1_addTimes_20 ⟨Nat.zero_le _, Nat.zero_le _⟩ (fun H locs hP hD hS => ?_)
      refine lv_aload_n hx hb dX1_addTimes_23 rfl (lv_at hl 0 rfl) ?_
      refine va_get (D := D) (ci := 1) (v := .ref a_t_sum) (C := RX1) (T := TX1) (N := 5) hx hb hts inX1_addTimes_X1 hown hK hP 0 rfl rfl 4 (by decide) (hts (.fieldLink RX1 28 "RowPivots$Grid" "sum" "LRowPivots$Ratio;") (List.mem_of_getElem? (i := 2) rfl)) (fun _ h9 => h9) rfl dX1_addTimes_24 ?_
      refine lv_lload_n hx hb dX1_addTimes_27 rfl (lv_at hl 3 rfl) ?_
      refine lv_lload hx hb dX1_addTimes_28 (lv_at hl 4 rfl) ?_
      obtain ⟨u_2, hcu_2, hf⟩ := bdS hf
      refine kVv (As := [.long p3, .long p4]) (rest := []) (w2 := [(a_t, .inr (1, [.int t_rows, .int t_columns, .ref a_t_upper, .ref a_t_lower, .ref a_t_sum])), (a_t_lower, .inl (cI, 42, .inl t_lower_3)), (a_t_sum, .inr (3, [.long u_2.1, .long u_2.2.1, .int u_2.2.2])), (a_t_upper, .inl (cI, 42, .inl t_upper_3))]) (wr := [(a_t, .inr (1, [.int t_rows, .int t_columns, .ref a_t_upper, .ref a_t_lower, .ref a_t_sum])), (a_t_lower, .inl (cI, 42, .inl t_lower_3)), (a_t_upper, .inl (cI, 42, .inl t_upper_3))]) (ci := 3) (q0 := 0) ⟨hx, hb, hml, hown, hts⟩ (MX3_times l D cI cJ cB cZ cG cS _ a_t_sum p3 p4 u_1.1 u_1.2.1 u_1.2.2 u_2.1 u_2.2.1 u_2.2.2 hcu_2) (cwV 2 hts gX1_addTimes_X3_times rfl rfl rfl (by decide +kernel) ⟨Nat.le_of_ble_eq_true rfl, Nat.le_of_ble_eq_true rfl⟩) hK hN hP hD hS hA [2] [0, 1, 3] [0, 1, 3, 2] rfl (by decide) rfl (by decide) (by decide) rfl (by decide) rfl rfl rfl hl.1 rfl (Nat.le_of_ble_eq_true rfl) dX1_addTimes_30 ⟨Nat.zero_le _, Nat.zero_le _⟩ (fun H locs hP hD hS => ?_)
      refine lv_aload_n hx hb dX1_addTimes_33 rfl (lv_at hl 0 rfl) ?_
      refine va_get (D := D) (ci := 1) (v := .ref a_t_sum) (C := RX1) (T := TX1) (N := 5) hx hb hts inX1_addTimes_X1 hown hK hP 0 rfl rfl 4 (by decide) (hts (.fieldLink RX1 28 "RowPivots$Grid" "sum" "LRowPivots$Ratio;") (List.mem_of_getElem? (i := 2) rfl)) (fun _ h9 => h9) rfl dX1_addTimes_34 ?_
      refine lv_aload_n hx hb dX1_addTimes_37 rfl (lv_at hl 0 rfl) ?_
      refine lv_iload_n hx hb dX1_addTimes_38 rfl (lv_at hl 1 rfl) ?_
      refine lv_iload hx hb dX1_addTimes_39 (lv_at hl 5 rfl) ?_
      obtain ⟨u_3, hcu_3, hf⟩ := bdS hf
      refine kVi (As := [.int p1, .int v7_3]) (rest := [.ref a_t_sum]) (w2 := [(a_t, .inr (1, [.int t_rows, .int t_columns, .ref a_t_upper, .ref a_t_lower, .ref a_t_sum])), (a_t_lower, .inl (cI, 42, .inl t_lower_3)), (a_t_sum, .inr (3, [.long u_2.1, .long u_2.2.1, .int u_2.2.2])), (a_t_upper, .inl (cI, 42, .inl t_upper_3))]) (wr := [(a_t_lower, .inl (cI, 42, .inl t_lower_3)), (a_t_sum, .inr (3, [.long u_2.1, .long u_2.2.1, .int u_2.2.2]))]) (ci := 1) (q0 := 0) ⟨hx, hb, hml, hown, hts⟩ (MX1_upperAt l D cI cJ cB cZ cG cS _ a_t a_t_upper a_t_lower a_t_sum p1 v7_3 t_rows t_columns t_upper_3 u_3 hcu_3) (cwV 2 hts gX1_addTimes_X1_upperAt rfl rfl rfl (by decide +kernel) ⟨Nat.le_of_ble_eq_true rfl, Nat.le_of_ble_eq_true rfl⟩) hK hN hP hD hS hA [0, 3] [1, 2] [2, 0, 1, 3] rfl (by decide) rfl (by decide) (by decide) rfl (by decide) rfl rfl rfl hl.1 rfl (Nat.le_of_ble_eq_true rfl) dX1_addTimes_41 ⟨Nat.zero_le _, Nat.zero_le _⟩ (fun H locs hP hD hS => ?_)
      refine lv_i2l hx hb dX1_addTimes_44 rfl ?_
      refine lv_aload_n hx hb dX1_addTimes_45 rfl (lv_at hl 0 rfl) ?_
      refine lv_iload_n hx hb dX1_addTimes_46 rfl (lv_at hl 1 rfl) ?_
      refine lv_iload hx hb dX1_addTimes_47 (lv_at hl 5 rfl) ?_
      obtain ⟨u_4, hcu_4, hf⟩ := bdS hf
      refine kVi (As := [.int p1, .int v7_3]) (rest := [.long (u_3.toInt64), .ref a_t_sum]) (w2 := [(a_t, .inr (1, [.int t_rows, .int t_columns, .ref a_t_upper, .ref a_t_lower, .ref a_t_sum])), (a_t_lower, .inl (cI, 42, .inl t_lower_3)), (a_t_sum, .inr (3, [.long u_2.1, .long u_2.2.1, .int u_2.2.2])), (a_t_upper, .inl (cI, 42, .inl t_upper_3))]) (wr := [(a_t_sum, .inr (3, [.long u_2.1, .long u_2.2.1, .int u_2.2.2])), (a_t_upper, .inl (cI, 42, .inl t_upper_3))]) (ci := 1) (q0 := 0) ⟨hx, hb, hml, hown, hts⟩ (MX1_lowerAt l D cI cJ cB cZ cG cS _ a_t a_t_upper a_t_lower a_t_sum p1 v7_3 t_rows t_columns t_lower_3 u_4 hcu_4) (cwV 2 hts gX1_addTimes_X1_lowerAt rfl rfl rfl (by decide +kernel) ⟨Nat.le_of_ble_eq_true rfl, Nat.le_of_ble_eq_true rfl⟩) hK hN hP hD hS hA [0, 1] [2, 3] [2, 3, 0, 1] rfl (by decide) rfl (by decide) (by decide) rfl (by decide) rfl rfl rfl hl.1 rfl (Nat.le_of_ble_eq_true rfl) dX1_addTimes_49 ⟨Nat.zero_le _, Nat.zero_le _⟩ (fun H locs hP hD hS => ?_)
      refine lv_i2l hx hb dX1_addTimes_52 rfl ?_
      obtain ⟨u_5, hcu_5, hf⟩ := bdS hf
      refine kVv (As := [.long (u_3.toInt64), .long (u_4.toInt64)]) (rest := []) (w2 := [(a_t, .inr (1, [.int t_rows, .int t_columns, .ref a_t_upper, .ref a_t_lower, .ref a_t_sum])), (a_t_lower, .inl (cI, 42, .inl t_lower_3)), (a_t_sum, .inr (3, [.long u_5.1, .long u_5.2.1, .int u_5.2.2])), (a_t_upper, .inl (cI, 42, .inl t_upper_3))]) (wr := [(a_t, .inr (1, [.int t_rows, .int t_columns, .ref a_t_upper, .ref a_t_lower, .ref a_t_sum])), (a_t_lower, .inl (cI, 42, .inl t_lower_3)), (a_t_upper, .inl (cI, 42, .inl t_upper_3))]) (ci := 3) (q0 := 0) ⟨hx, hb, hml, hown, hts⟩ (MX3_plus l D cI cJ cB cZ cG cS _ a_t_sum (u_3.toInt64) (u_4.toInt64) u_2.1 u_2.2.1 u_2.2.2 u_5.1 u_5.2.1 u_5.2.2 hcu_5) (cwV 2 hts gX1_addTimes_X3_plus rfl rfl rfl (by decide +kernel) ⟨Nat.le_of_ble_eq_true rfl, Nat.le_of_ble_eq_true rfl⟩) hK hN hP hD hS hA [2] [0, 1, 3] [0, 1, 3, 2] rfl (by decide) rfl (by decide) (by decide) rfl (by decide) rfl rfl rfl hl.1 rfl (Nat.le_of_ble_eq_true rfl) dX1_addTimes_53 ⟨Nat.zero_le _, Nat.zero_le _⟩ (fun H locs hP hD hS => ?_)
      refine lv_aload_n hx hb dX1_addTimes_56 rfl (lv_at hl 0 rfl) ?_
      refine va_get (D := D) (ci := 1) (v := .ref a_t_sum) (C := RX1) (T := TX1) (N := 5) hx hb hts inX1_addTimes_X1 hown hK hP 0 rfl rfl 4 (by decide) (hts (.fieldLink RX1 28 "RowPivots$Grid" "sum" "LRowPivots$Ratio;") (List.mem_of_getElem? (i := 2) rfl)) (fun _ h9 => h9) rfl dX1_addTimes_57 ?_
      refine va_get (D := D) (ci := 3) (v := .int u_5.2.2) (C := RX3) (T := TX3) (N := 3) hx hb hts inX1_addTimes_X3 hown hK hP 2 rfl rfl 2 (by decide) (hts (.fieldLink RX1 95 "RowPivots$Ratio" "isLong" "Z") (List.mem_of_getElem? (i := 3) rfl)) (fun _ h9 => h9) rfl dX1_addTimes_60 ?_
      refine lv_if_eq (tgt := 69) hx hb dX1_addTimes_63 (by decide) (fun hc_63 => ?_) (fun hc_63 => ?_)
      · have hf := ifP hc_63 hf
        refine lv_aload_n hx hb dX1_addTimes_69 rfl (lv_at hl 0 rfl) ?_
        refine lv_iload_n hx hb dX1_addTimes_70 rfl (lv_at hl 1 rfl) ?_
        refine lv_iload hx hb dX1_addTimes_71 (lv_at hl 5 rfl) ?_
        refine lv_aload_n hx hb dX1_addTimes_73 rfl (lv_at hl 0 rfl) ?_
        refine va_get (D := D) (ci := 1) (v := .ref a_t_sum) (C := RX1) (T := TX1) (N := 5) hx hb hts inX1_addTimes_X1 hown hK hP 0 rfl rfl 4 (by decide) (hts (.fieldLink RX1 28 "RowPivots$Grid" "sum" "LRowPivots$Ratio;") (List.mem_of_getElem? (i := 2) rfl)) (fun _ h9 => h9) rfl dX1_addTimes_74 ?_
        obtain ⟨u_6, hcu_6, hf⟩ := bdS hf
        refine kVv (As := [.int p1, .int v7_3, .ref a_t_sum]) (rest := []) (w2 := [(a_t, .inr (1, [.int t_rows, .int t_columns, .ref a_t_upper, .ref a_t_lower, .ref a_t_sum])), (a_t_lower, .inl (cI, 42, .inl u_6.1)), (a_t_sum, .inr (3, [.long u_5.1, .long u_5.2.1, .int u_5.2.2])), (a_t_upper, .inl (cI, 42, .inl u_6.2))]) (wr := []) (ci := 1) (q0 := 0) ⟨hx, hb, hml, hown, hts⟩ (MX1_put l D cI cJ cB cZ cG cS _ a_t a_t_sum a_t_upper a_t_lower a_t_sum p1 v7_3 t_rows t_columns t_lower_3 t_upper_3 u_5.1 u_5.2.1 u_5.2.2 u_6.1 u_6.2 hcu_6) (cwV 3 hts gX1_addTimes_X1_put rfl rfl rfl (by decide +kernel) ⟨Nat.le_of_ble_eq_true rfl, Nat.le_of_ble_eq_true rfl⟩) hK hN hP hD hS hA [0, 1, 3, 2] [] [0, 1, 3, 2] rfl (by decide) rfl (by decide) (by decide) rfl (by decide) rfl rfl rfl hl.1 rfl (Nat.le_of_ble_eq_true rfl) dX1_addTimes_77 ⟨Nat.zero_le _, Nat.zero_le _⟩ (fun H locs hP hD hS => ?_)
        refine lv_iinc (v := (v7_3 + 1)) (lv' := [(7, .int (v7_3 + 1)), (0, .ref a_t), (1, .int p1), (2, .int p2), (3, .long p3), (5, .long p4)]) hx hb dX1_addTimes_80 hl (k := 5) rfl rfl (by decide) rfl (fun ls hl => ?_)
        refine lv_goto (tgt := 3) hx hb dX1_addTimes_83 (by decide) ?_
        exact ih (v7_3 + 1) u_6.1 u_5.1 u_5.2.1 u_5.2.2 u_6.2 _ _ _ hf hP hD hS (lv_sub hl [1, 2, 3, 4, 5, 0] rfl)
      · have hf := ifN hc_63 hf
        refine lv_iload hx hb dX1_addTimes_66 (lv_at hl 5 rfl) ?_
        have hf : (some (v7_3, t_lower_3, u_5.1, u_5.2.1, u_5.2.2, t_upper_3) : Option (Int32 × (Nat → Int32) × Int64 × Int64 × Int32 × (Nat → Int32))) = some (z_r, z_t_lower, z_t_sum_upper, z_t_sum_lower, z_t_sum_isLong, z_t_upper) := hf
        cases hf
        exact cRi hx hb hr hlk hP hD hS rfl dX1_addTimes_68
set_option maxHeartbeats 4000000 in
set_option maxRecDepth 100000 in
theorem MX1_addTimes (l : Launch) (D : va_G) (cI cJ cB cZ cG cS : ClassId) (sz : Nat) (a_t : Nat) (a_t_upper : Nat) (a_t_lower : Nat) (a_t_sum : Nat) (p1 : Int32) (p2 : Int32) (p3 : Int64) (p4 : Int64) (t_rows : Int32) (t_columns : Int32) (t_lower : Nat → Int32) (t_sum_upper : Int64) (t_sum_lower : Int64) (t_sum_isLong : Int32) (t_upper : Nat → Int32) (z_r : Int32) (z_t_lower : Nat → Int32) (z_t_sum_upper : Int64) (z_t_sum_lower : Int64) (z_t_sum_isLong : Int32) (z_t_upper : Nat → Int32) (hf : fX1_addTimes p1 p2 p3 p4 t_columns t_lower t_sum_upper t_sum_lower t_sum_isLong t_upper = some (z_r, z_t_lower, z_t_sum_upper, z_t_sum_lower, z_t_sum_isLong, z_t_upper)) : Met l yX1_addTimes wsX1_addTimes { frames := 3, cells := 0, slots := 0, locals := 75 } (cP D (tyL cI cJ cB cZ cG cS) [.ref a_t, .int p1, .int p2, .long p3, .long p4] sz [(a_t, .inr (1, [.int t_rows, .int t_columns, .ref a_t_upper, .ref a_t_lower, .ref a_t_sum])), (a_t_lower, .inl (cI, 42, .inl t_lower)), (a_t_sum, .inr (3, [.long t_sum_upper, .long t_sum_lower, .int t_sum_isLong])), (a_t_upper, .inl (cI, 42, .inl t_upper))]) (cQi D (va_A [(a_t, .inr (1, [.int t_rows, .int t_columns, .ref a_t_upper, .ref a_t_lower, .ref a_t_sum])), (a_t_lower, .inl (cI, 42, .inl t_lower)), (a_t_sum, .inr (3, [.long t_sum_upper, .long t_sum_lower, .int t_sum_isLong])), (a_t_upper, .inl (cI, 42, .inl t_upper))] sz) z_r [(a_t, .inr (1, [.int t_rows, .int t_columns, .ref a_t_upper, .ref a_t_lower, .ref a_t_sum])), (a_t_lower, .inl (cI, 42, .inl z_t_lower)), (a_t_sum, .inr (3, [.long z_t_sum_upper, .long z_t_sum_lower, .int z_t_sum_isLong])), (a_t_upper, .inl (cI, 42, .inl z_t_upper))]) 0 0 (va_A [(a_t, .inr (1, [.int t_rows, .int t_columns, .ref a_t_upper, .ref a_t_lower, .ref a_t_sum])), (a_t_lower, .inl (cI, 42, .inl t_lower)), (a_t_sum, .inr (3, [.long t_sum_upper, .long t_sum_lower, .int t_sum_isLong])), (a_t_upper, .inl (cI, 42, .inl t_upper))] sz) := by
  refine cM (Qc := fun A => cQi D A z_r [(a_t, .inr (1, [.int t_rows, .int t_columns, .ref a_t_upper, .ref a_t_lower, .ref a_t_sum])), (a_t_lower, .inl (cI, 42, .inl z_t_lower)), (a_t_sum, .inr (3, [.long z_t_sum_upper, .long z_t_sum_lower, .int z_t_sum_isLong])), (a_t_upper, .inl (cI, 42, .inl z_t_upper))]) RX1 (by decide) rfl rfl (Nat.le_of_ble_eq_true rfl) ?_
  intro p e s m below meth c A ls hx hb hr hlk hml hown hts hK hN hP hD hS hA hl
  have X : Cx D (tyL cI cJ cB cZ cG cS) cX1_addTimes 8 (some .int) RX1 wsX1_addTimes [.ref a_t, .int p1, .int p2, .long p3, .long p4] p s m meth c A := ⟨hx, hb, hr, hlk, hml, hown, hts, hK, hN, hA⟩
  have hl : lv_has ls 8 [(0, .ref a_t), (1, .int p1), (2, .int p2), (3, .long p3), (5, .long p4)] := hl
  unfold fX1_addTimes at hf
  refine lv_iconst (v := 0) hx hb dX1_addTimes_0 (by decide) ?_
  refine lv_istore (lv' := [(7, .int 0), (0, .ref a_t), (1, .int p1), (2, .int p2), (3, .long p3), (5, .long p4)]) hx hb dX1_addTimes_1 hl (by decide) rfl (fun ls hl => ?_)
  exact wX1_addTimes_3 a_t a_t_upper a_t_lower a_t_sum z_r z_t_lower z_t_sum_upper z_t_sum_lower z_t_sum_isLong z_t_upper p1 p2 p3 p4 t_rows t_columns t_lower t_sum_upper t_sum_lower t_sum_isLong t_upper X  fuelN 0 t_lower t_sum_upper t_sum_lower t_sum_isLong t_upper _ _ _ hf hP hD hS (lv_sub hl [1, 2, 3, 4, 5, 0] rfl)
theorem inX0_addRow_X0 : ∀ w ∈ wsX00, w ∈ wsX0_addRow := fun _ h => List.mem_cons_of_mem _ (List.mem_append_left _ (List.mem_append_left _ (List.mem_append_right _ h)))
theorem inX0_addRow_X3 : ∀ w ∈ wsX30, w ∈ wsX0_addRow := fun _ h => List.mem_cons_of_mem _ (List.mem_append_left _ (List.mem_append_right _ h))
def fX0_addRow (p2 : Int32) (p3 : Int32) (p4 : Int32) (p5 : Int32) (t_longRow : Int32) (t_longColumn : Int32) (t_next_rows : Int32) (t_next_columns : Int32) (t_next_lower : Nat → Int32) (t_next_sum_upper : Int64) (t_next_sum_lower : Int64) (t_next_sum_isLong : Int32) (t_next_upper : Nat → Int32) (t_value_upper : Int64) (t_value_lower : Int64) (t_value_isLong : Int32) (p1_rows : Int32) (p1_columns : Int32) (p1_lower : Nat → Int32) (p1_upper : Nat → Int32) : Option (Int32 × Int32 × Int32 × Int32 × Int32 × (Nat → Int32) × Int64 × Int64 × Int32 × (Nat → Int32) × Int64 × Int64 × Int32) :=
  (fX1_hasRow p2 p1_rows).bind fun u_1 => if u_1 = 0 then (some (1, t_longRow, t_longColumn, t_next_rows, t_next_columns, t_next_lower, t_next_sum_upper, t_next_sum_lower, t_next_sum_isLong, t_next_upper, t_value_upper, t_value_lower, t_value_isLong)) else ((fX1_hasRow p3 p1_rows).bind fun u_2 => if u_2 = 0 then (some (1, t_longRow, t_longColumn, t_next_rows, t_next_columns, t_next_lower, t_next_sum_upper, t_next_sum_lower, t_next_sum_isLong, t_next_upper, t_value_upper, t_value_lower, t_value_isLong)) else ((fX10_isTold p4 p5).bind fun u_3 => if u_3 = 0 then (some (1, t_longRow, t_longColumn, t_next_rows, t_next_columns, t_next_lower, t_next_sum_upper, t_next_sum_lower, t_next_sum_isLong, t_next_upper, t_value_upper, t_value_lower, t_value_isLong)) else (if p2 = p3 then (some (2, t_longRow, t_longColumn, t_next_rows, t_next_columns, t_next_lower, t_next_sum_upper, t_next_sum_lower, t_next_sum_isLong, t_next_upper, t_value_upper, t_value_lower, t_value_isLong)) else (if p4 = 0 then (some (2, t_longRow, t_longColumn, t_next_rows, t_next_columns, t_next_lower, t_next_sum_upper, t_next_sum_lower, t_next_sum_isLong, t_next_upper, t_value_upper, t_value_lower, t_value_isLong)) else ((fX1_rowBits p3 p1_columns p1_upper).bind fun u_4 => if u_4 = 0 then (some (2, t_longRow, t_longColumn, t_next_rows, t_next_columns, t_next_lower, t_next_sum_upper, t_next_sum_lower, t_next_sum_isLong, t_next_upper, t_value_upper, t_value_lower, t_value_isLong)) else ((fX1_copy t_next_lower t_next_upper p1_rows p1_columns p1_lower p1_upper).bind fun u_5 => (fX3_start (p4.toInt64) (p5.toInt64)).bind fun u_6 => (fX1_addTimes p2 p3 u_6.1 u_6.2.1 u_5.2.1 u_5.2.2.1 t_next_sum_upper t_next_sum_lower t_next_sum_isLong u_5.2.2.2).bind fun u_7 => lt u_7.1 fun x_8 => if x_8 = (-1) then (some (0, t_longRow, t_longColumn, u_5.1, u_5.2.1, u_7.2.1, u_7.2.2.1, u_7.2.2.2.1, u_7.2.2.2.2.1, u_7.2.2.2.2.2, u_6.1, u_6.2.1, u_6.2.2)) else ((fX0_refuseLong p2 x_8).bind fun u_9 => some (u_9.1, u_9.2.1, u_9.2.2, u_5.1, u_5.2.1, u_7.2.1, u_7.2.2.1, u_7.2.2.2.1, u_7.2.2.2.2.1, u_7.2.2.2.2.2, u_6.1, u_6.2.1, u_6.2.2))))))))
set_option maxHeartbeats 4000000 in
set_option maxRecDepth 100000 in
theorem MX0_addRow (l : Launch) (D : va_G) (cI cJ cB cZ cG cS : ClassId) (sz : Nat) (a_t : Nat) (a_p1 : Nat) (a_t_next : Nat) (a_t_value : Nat) (a_t_next_upper : Nat) (a_t_next_lower : Nat) (a_t_next_sum : Nat) (a_p1_upper : Nat) (a_p1_lower : Nat) (a_p1_sum : Nat) (p2 : Int32) (p3 : Int32) (p4 : Int32) (p5 : Int32) (t_longRow : Int32) (t_longColumn : Int32) (t_next_rows : Int32) (t_next_columns : Int32) (t_next_lower : Nat → Int32) (t_next_sum_upper : Int64) (t_next_sum_lower : Int64) (t_next_sum_isLong : Int32) (t_next_upper : Nat → Int32) (t_value_upper : Int64) (t_value_lower : Int64) (t_value_isLong : Int32) (p1_rows : Int32) (p1_columns : Int32) (p1_lower : Nat → Int32) (p1_upper : Nat → Int32) (z_r : Int32) (z_t_longRow : Int32) (z_t_longColumn : Int32) (z_t_next_rows : Int32) (z_t_next_columns : Int32) (z_t_next_lower : Nat → Int32) (z_t_next_sum_upper : Int64) (z_t_next_sum_lower : Int64) (z_t_next_sum_isLong : Int32) (z_t_next_upper : Nat → Int32) (z_t_value_upper : Int64) (z_t_value_lower : Int64) (z_t_value_isLong : Int32) (hf : fX0_addRow p2 p3 p4 p5 t_longRow t_longColumn t_next_rows t_next_columns t_next_lower t_next_sum_upper t_next_sum_lower t_next_sum_isLong t_next_upper t_value_upper t_value_lower t_value_isLong p1_rows p1_columns p1_lower p1_upper = some (z_r, z_t_longRow, z_t_longColumn, z_t_next_rows, z_t_next_columns, z_t_next_lower, z_t_next_sum_upper, z_t_next_sum_lower, z_t_next_sum_isLong, z_t_next_upper, z_t_value_upper, z_t_value_lower, z_t_value_isLong)) : Met l yX0_addRow wsX0_addRow { frames := 4, cells := 0, slots := 0, locals := 102 } (cP D (tyL cI cJ cB cZ cG cS) [.ref a_t, .ref a_p1, .int p2, .int p3, .int p4, .int p5] sz [(a_t, .inr (0, [.ref a_t_next, .int t_longRow, .int t_longColumn, .ref a_t_value])), (a_t_next, .inr (1, [.int t_next_rows, .int t_next_columns, .ref a_t_next_upper, .ref a_t_next_lower, .ref a_t_next_sum])), (a_t_next_lower, .inl (cI, 42, .inl t_next_lower)), (a_t_next_sum, .inr (3, [.long t_next_sum_upper, .long t_next_sum_lower, .int t_next_sum_isLong])), (a_t_next_upper, .inl (cI, 42, .inl t_next_upper)), (a_t_value, .inr (3, [.long t_value_upper, .long t_value_lower, .int t_value_isLong])), (a_p1, .inr (1, [.int p1_rows, .int p1_columns, .ref a_p1_upper, .ref a_p1_lower, .ref a_p1_sum])), (a_p1_lower, .inl (cI, 42, .inl p1_lower)), (a_p1_upper, .inl (cI, 42, .inl p1_upper))]) (cQi D (va_A [(a_t, .inr (0, [.ref a_t_next, .int t_longRow, .int t_longColumn, .ref a_t_value])), (a_t_next, .inr (1, [.int t_next_rows, .int t_next_columns, .ref a_t_next_upper, .ref a_t_next_lower, .ref a_t_next_sum])), (a_t_next_lower, .inl (cI, 42, .inl t_next_lower)), (a_t_next_sum, .inr (3, [.long t_next_sum_upper, .long t_next_sum_lower, .int t_next_sum_isLong])), (a_t_next_upper, .inl (cI, 42, .inl t_next_upper)), (a_t_value, .inr (3, [.long t_value_upper, .long t_value_lower, .int t_value_isLong])), (a_p1, .inr (1, [.int p1_rows, .int p1_columns, .ref a_p1_upper, .ref a_p1_lower, .ref a_p1_sum])), (a_p1_lower, .inl (cI, 42, .inl p1_lower)), (a_p1_upper, .inl (cI, 42, .inl p1_upper))] sz) z_r [(a_t, .inr (0, [.ref a_t_next, .int z_t_longRow, .int z_t_longColumn, .ref a_t_value])), (a_t_next, .inr (1, [.int z_t_next_rows, .int z_t_next_columns, .ref a_t_next_upper, .ref a_t_next_lower, .ref a_t_next_sum])), (a_t_next_lower, .inl (cI, 42, .inl z_t_next_lower)), (a_t_next_sum, .inr (3, [.long z_t_next_sum_upper, .long z_t_next_sum_lower, .int z_t_next_sum_isLong])), (a_t_next_upper, .inl (cI, 42, .inl z_t_next_upper)), (a_t_value, .inr (3, [.long z_t_value_upper, .long z_t_value_lower, .int z_t_value_isLong])), (a_p1, .inr (1, [.int p1_rows, .int p1_columns, .ref a_p1_upper, .ref a_p1_lower, .ref a_p1_sum])), (a_p1_lower, .inl (cI, 42, .inl p1_lower)), (a_p1_upper, .inl (cI, 42, .inl p1_upper))]) 0 0 (va_A [(a_t, .inr (0, [.ref a_t_next, .int t_longRow, .int t_longColumn, .ref a_t_value])), (a_t_next, .inr (1, [.int t_next_rows, .int t_next_columns, .ref a_t_next_upper, .ref a_t_next_lower, .ref a_t_next_sum])), (a_t_next_lower, .inl (cI, 42, .inl t_next_lower)), (a_t_next_sum, .inr (3, [.long t_next_sum_upper, .long t_next_sum_lower, .int t_next_sum_isLong])), (a_t_next_upper, .inl (cI, 42, .inl t_next_upper)), (a_t_value, .inr (3, [.long t_value_upper, .long t_value_lower, .int t_value_isLong])), (a_p1, .inr (1, [.int p1_rows, .int p1_columns, .ref a_p1_upper, .ref a_p1_lower, .ref a_p1_sum])), (a_p1_lower, .inl (cI, 42, .inl p1_lower)), (a_p1_upper, .inl (cI, 42, .inl p1_upper))] sz) := by
  refine cM (Qc := fun A => cQi D A z_r [(a_t, .inr (0, [.ref a_t_next, .int z_t_longRow, .int z_t_longColumn, .ref a_t_value])), (a_t_next, .inr (1, [.int z_t_next_rows, .int z_t_next_columns, .ref a_t_next_upper, .ref a_t_next_lower, .ref a_t_next_sum])), (a_t_next_lower, .inl (cI, 42, .inl z_t_next_lower)), (a_t_next_sum, .inr (3, [.long z_t_next_sum_upper, .long z_t_next_sum_lower, .int z_t_next_sum_isLong])), (a_t_next_upper, .inl (cI, 42, .inl z_t_next_upper)), (a_t_value, .inr (3, [.long z_t_value_upper, .long z_t_value_lower, .int z_t_value_isLong])), (a_p1, .inr (1, [.int p1_rows, .int p1_columns, .ref a_p1_upper, .ref a_p1_lower, .ref a_p1_sum])), (a_p1_lower, .inl (cI, 42, .inl p1_lower)), (a_p1_upper, .inl (cI, 42, .inl p1_upper))]) RX0 (by decide) rfl rfl (Nat.le_of_ble_eq_true rfl) ?_
  intro p e s m below meth c A ls hx hb hr hlk hml hown hts hK hN hP hD hS hA hl
  have X : Cx D (tyL cI cJ cB cZ cG cS) cX0_addRow 7 (some .int) RX0 wsX0_addRow [.ref a_t, .ref a_p1, .int p2, .int p3, .int p4, .int p5] p s m meth c A := ⟨hx, hb, hr, hlk, hml, hown, hts, hK, hN, hA⟩
  have hl : lv_has ls 7 [(0, .ref a_t), (1, .ref a_p1), (2, .int p2), (3, .int p3), (4, .int p4), (5, .int p5)] := hl
  unfold fX0_addRow at hf
  refine lv_aload_n hx hb dX0_addRow_0 rfl (lv_at hl 1 rfl) ?_
  refine lv_iload_n hx hb dX0_addRow_1 rfl (lv_at hl 2 rfl) ?_
  obtain ⟨u_1, hcu_1, hf⟩ := bdS hf
  refine kVi (As := [.int p2]) (rest := []) (w2 := [(a_t, .inr (0, [.ref a_t_next, .int t_longRow, .int t_longColumn, .ref a_t_value])), (a_t_next, .inr (1, [.int t_next_rows, .int t_next_columns, .ref a_t_next_upper, .ref a_t_next_lower, .ref a_t_next_sum])), (a_t_next_lower, .inl (cI, 42, .inl t_next_lower)), (a_t_next_sum, .inr (3, [.long t_next_sum_upper, .long t_next_sum_lower, .int t_next_sum_isLong])), (a_t_next_upper, .inl (cI, 42, .inl t_next_upper)), (a_t_value, .inr (3, [.long t_value_upper, .long t_value_lower, .int t_value_isLong])), (a_p1, .inr (1, [.int p1_rows, .int p1_columns, .ref a_p1_upper, .ref a_p1_lower, .ref a_p1_sum])), (a_p1_lower, .inl (cI, 42, .inl p1_lower)), (a_p1_upper, .inl (cI, 42, .inl p1_upper))]) (wr := [(a_t, .inr (0, [.ref a_t_next, .int t_longRow, .int t_longColumn, .ref a_t_value])), (a_t_next, .inr (1, [.int t_next_rows, .int t_next_columns, .ref a_t_next_upper, .ref a_t_next_lower, .ref a_t_next_sum])), (a_t_next_lower, .inl (cI, 42, .inl t_next_lower)), (a_t_next_sum, .inr (3, [.long t_next_sum_upper, .long t_next_sum_lower, .int t_next_sum_isLong])), (a_t_next_upper, .inl (cI, 42, .inl t_next_upper)), (a_t_value, .inr (3, [.long t_value_upper, .long t_value_lower, .int t_value_isLong])), (a_p1_lower, .inl (cI, 42, .inl p1_lower)), (a_p1_upper, .inl (cI, 42, .inl p1_upper))]) (ci := 1) (q0 := 0) ⟨hx, hb, hml, hown, hts⟩ (MX1_hasRow l D cI cJ cB cZ cG cS _ a_p1 a_p1_upper a_p1_lower a_p1_sum p2 p1_rows p1_columns u_1 hcu_1) (cwV 1 hts gX0_addRow_X1_hasRow rfl rfl rfl (by decide +kernel) ⟨Nat.le_of_ble_eq_true rfl, Nat.le_of_ble_eq_true rfl⟩) hK hN hP hD hS hA [6] [0, 1, 2, 3, 4, 5, 7, 8] [0, 1, 2, 3, 4, 5, 8, 6, 7] rfl (by decide) rfl (by decide) (by decide) rfl (by decide) rfl rfl rfl hl.1 rfl (Nat.le_of_ble_eq_true rfl) dX0_addRow_2 ⟨Nat.zero_le _, Nat.zero_le _⟩ (fun H locs hP hD hS => ?_)
  refine lv_if_eq (tgt := 26) hx hb dX0_addRow_5 (by decide) (fun hc_5 => ?_) (fun hc_5 => ?_)
  · have hf := ifP hc_5 hf
    refine lv_iconst (v := 1) hx hb dX0_addRow_26 (by decide) ?_
    have hf : (some (1, t_longRow, t_longColumn, t_next_rows, t_next_columns, t_next_lower, t_next_sum_upper, t_next_sum_lower, t_next_sum_isLong, t_next_upper, t_value_upper, t_value_lower, t_value_isLong) : Option (Int32 × Int32 × Int32 × Int32 × Int32 × (Nat → Int32) × Int64 × Int64 × Int32 × (Nat → Int32) × Int64 × Int64 × Int32)) = some (z_r, z_t_longRow, z_t_longColumn, z_t_next_rows, z_t_next_columns, z_t_next_lower, z_t_next_sum_upper, z_t_next_sum_lower, z_t_next_sum_isLong, z_t_next_upper, z_t_value_upper, z_t_value_lower, z_t_value_isLong) := hf
    cases hf
    exact cRi hx hb hr hlk hP hD hS rfl dX0_addRow_27
  · have hf := ifN hc_5 hf
    refine lv_aload_n hx hb dX0_addRow_8 rfl (lv_at hl 1 rfl) ?_
    refine lv_iload_n hx hb dX0_addRow_9 rfl (lv_at hl 3 rfl) ?_
    obtain ⟨u_2, hcu_2, hf⟩ := bdS hf
    refine kVi (As := [.int p3]) (rest := []) (w2 := [(a_t, .inr (0, [.ref a_t_next, .int t_longRow, .int t_longColumn, .ref a_t_value])), (a_t_next, .inr (1, [.int t_next_rows, .int t_next_columns, .ref a_t_next_upper, .ref a_t_next_lower, .ref a_t_next_sum])), (a_t_next_lower, .inl (cI, 42, .inl t_next_lower)), (a_t_next_sum, .inr (3, [.long t_next_sum_upper, .long t_next_sum_lower, .int t_next_sum_isLong])), (a_t_next_upper, .inl (cI, 42, .inl t_next_upper)), (a_t_value, .inr (3, [.long t_value_upper, .long t_value_lower, .int t_value_isLong])), (a_p1, .inr (1, [.int p1_rows, .int p1_columns, .ref a_p1_upper, .ref a_p1_lower, .ref a_p1_sum])), (a_p1_lower, .inl (cI, 42, .inl p1_lower)), (a_p1_upper, .inl (cI, 42, .inl p1_upper))]) (wr := [(a_t, .inr (0, [.ref a_t_next, .int t_longRow, .int t_longColumn, .ref a_t_value])), (a_t_next, .inr (1, [.int t_next_rows, .int t_next_columns, .ref a_t_next_upper, .ref a_t_next_lower, .ref a_t_next_sum])), (a_t_next_lower, .inl (cI, 42, .inl t_next_lower)), (a_t_next_sum, .inr (3, [.long t_next_sum_upper, .long t_next_sum_lower, .int t_next_sum_isLong])), (a_t_next_upper, .inl (cI, 42, .inl t_next_upper)), (a_t_value, .inr (3, [.long t_value_upper, .long t_value_lower, .int t_value_isLong])), (a_p1_lower, .inl (cI, 42, .inl p1_lower)), (a_p1_upper, .inl (cI, 42, .inl p1_upper))]) (ci := 1) (q0 := 0) ⟨hx, hb, hml, hown, hts⟩ (MX1_hasRow l D cI cJ cB cZ cG cS _ a_p1 a_p1_upper a_p1_lower a_p1_sum p3 p1_rows p1_columns u_2 hcu_2) (cwV 1 hts gX0_addRow_X1_hasRow rfl rfl rfl (by decide +kernel) ⟨Nat.le_of_ble_eq_true rfl, Nat.le_of_ble_eq_true rfl⟩) hK hN hP hD hS hA [6] [0, 1, 2, 3, 4, 5, 7, 8] [0, 1, 2, 3, 4, 5, 8, 6, 7] rfl (by decide) rfl (by decide) (by decide) rfl (by decide) rfl rfl rfl hl.1 rfl (Nat.le_of_ble_eq_true rfl) dX0_addRow_10 ⟨Nat.zero_le _, Nat.zero_le _⟩ (fun H locs hP hD hS => ?_)
    refine lv_if_eq (tgt := 26) hx hb dX0_addRow_13 (by decide) (fun hc_13 => ?_) (fun hc_13 => ?_)
    · have hf := ifP hc_13 hf
      refine lv_iconst (v := 1) hx hb dX0_addRow_26 (by decide) ?_
      have hf : (some (1, t_longRow, t_longColumn, t_next_rows, t_next_columns, t_next_lower, t_next_sum_upper, t_next_sum_lower, t_next_sum_isLong, t_next_upper, t_value_upper, t_value_lower, t_value_isLong) : Option (Int32 × Int32 × Int32 × Int32 × Int32 × (Nat → Int32) × Int64 × Int64 × Int32 × (Nat → Int32) × Int64 × Int64 × Int32)) = some (z_r, z_t_longRow, z_t_longColumn, z_t_next_rows, z_t_next_columns, z_t_next_lower, z_t_next_sum_upper, z_t_next_sum_lower, z_t_next_sum_isLong, z_t_next_upper, z_t_value_upper, z_t_value_lower, z_t_value_isLong) := hf
      cases hf
      exact cRi hx hb hr hlk hP hD hS rfl dX0_addRow_27
    · have hf := ifN hc_13 hf
      refine lv_iload hx hb dX0_addRow_16 (lv_at hl 4 rfl) ?_
      refine lv_iload hx hb dX0_addRow_18 (lv_at hl 5 rfl) ?_
      obtain ⟨u_3, hcu_3, hf⟩ := bdS hf
      refine kNi (As := [.int p4, .int p5]) (rest := []) (w2 := [(a_t, .inr (0, [.ref a_t_next, .int t_longRow, .int t_longColumn, .ref a_t_value])), (a_t_next, .inr (1, [.int t_next_rows, .int t_next_columns, .ref a_t_next_upper, .ref a_t_next_lower, .ref a_t_next_sum])), (a_t_next_lower, .inl (cI, 42, .inl t_next_lower)), (a_t_next_sum, .inr (3, [.long t_next_sum_upper, .long t_next_sum_lower, .int t_next_sum_isLong])), (a_t_next_upper, .inl (cI, 42, .inl t_next_upper)), (a_t_value, .inr (3, [.long t_value_upper, .long t_value_lower, .int t_value_isLong])), (a_p1, .inr (1, [.int p1_rows, .int p1_columns, .ref a_p1_upper, .ref a_p1_lower, .ref a_p1_sum])), (a_p1_lower, .inl (cI, 42, .inl p1_lower)), (a_p1_upper, .inl (cI, 42, .inl p1_upper))]) (wr := [(a_t, .inr (0, [.ref a_t_next, .int t_longRow, .int t_longColumn, .ref a_t_value])), (a_t_next, .inr (1, [.int t_next_rows, .int t_next_columns, .ref a_t_next_upper, .ref a_t_next_lower, .ref a_t_next_sum])), (a_t_next_lower, .inl (cI, 42, .inl t_next_lower)), (a_t_next_sum, .inr (3, [.long t_next_sum_upper, .long t_next_sum_lower, .int t_next_sum_isLong])), (a_t_next_upper, .inl (cI, 42, .inl t_next_upper)), (a_t_value, .inr (3, [.long t_value_upper, .long t_value_lower, .int t_value_isLong])), (a_p1, .inr (1, [.int p1_rows, .int p1_columns, .ref a_p1_upper, .ref a_p1_lower, .ref a_p1_sum])), (a_p1_lower, .inl (cI, 42, .inl p1_lower)), (a_p1_upper, .inl (cI, 42, .inl p1_upper))]) ⟨hx, hb, hml, hown, hts⟩ (MX10_isTold l D cI cJ cB cZ cG cS _  p4 p5 u_3 hcu_3) ⟨va_cnB 2 hts gX0_addRow_X10_isTold_n32 rfl rfl rfl (hN.1.1 (RX0, 32, yX10_isTold, RX10) (List.mem_of_getElem? (i := 0) rfl)) (hts (.initialized RX10) (List.mem_of_getElem? (i := 12) rfl)) (by decide +kernel) ⟨Nat.le_of_ble_eq_true rfl, Nat.le_of_ble_eq_true rfl⟩, (hts (.static yX10_isTold) (List.mem_of_getElem? (i := 11) rfl)), trivial⟩ hK hN hP hD hS hA [] [0, 1, 2, 3, 4, 5, 6, 7, 8] [0, 1, 2, 3, 4, 5, 6, 7, 8] rfl (by decide) rfl (by decide) (by decide) rfl (by decide) rfl hl.1 rfl (Nat.le_of_ble_eq_true rfl) dX0_addRow_20 ⟨Nat.zero_le _, Nat.zero_le _⟩ (fun H locs hP hD hS => ?_)
      refine lv_if_ne (tgt := 28) hx hb dX0_addRow_23 (by decide) (fun hc_23 => ?_) (fun hc_23 => ?_)
      · have hf := ifN hc_23 hf
        refine lv_iload_n hx hb dX0_addRow_28 rfl (lv_at hl 2 rfl) ?_
        refine lv_iload_n hx hb dX0_addRow_29 rfl (lv_at hl 3 rfl) ?_
        refine lv_icmp_eq (tgt := 46) hx hb dX0_addRow_30 (by decide) (fun hc_30 => ?_) (fun hc_30 => ?_)
        · have hf := ifP hc_30 hf
          refine lv_iconst (v := 2) hx hb dX0_addRow_46 (by decide) ?_
          have hf : (some (2, t_longRow, t_longColumn, t_next_rows, t_next_columns, t_next_lower, t_next_sum_upper, t_next_sum_lower, t_next_sum_isLong, t_next_upper, t_value_upper, t_value_lower, t_value_isLong) : Option (Int32 × Int32 × Int32 × Int32 × Int32 × (Nat → Int32) × Int64 × Int64 × Int32 × (Nat → Int32) × Int64 × Int64 × Int32)) = some (z_r, z_t_longRow, z_t_longColumn, z_t_next_rows, z_t_next_columns, z_t_next_lower, z_t_next_sum_upper, z_t_next_sum_lower, z_t_next_sum_isLong, z_t_next_upper, z_t_value_upper, z_t_value_lower, z_t_value_isLong) := hf
          cases hf
          exact cRi hx hb hr hlk hP hD hS rfl dX0_addRow_47
        · have hf := ifN hc_30 hf
          refine lv_iload hx hb dX0_addRow_33 (lv_at hl 4 rfl) ?_
          refine lv_if_eq (tgt := 46) hx hb dX0_addRow_35 (by decide) (fun hc_35 => ?_) (fun hc_35 => ?_)
          · have hf := ifP hc_35 hf
            refine lv_iconst (v := 2) hx hb dX0_addRow_46 (by decide) ?_
            have hf : (some (2, t_longRow, t_longColumn, t_next_rows, t_next_columns, t_next_lower, t_next_sum_upper, t_next_sum_lower, t_next_sum_isLong, t_next_upper, t_value_upper, t_value_lower, t_value_isLong) : Option (Int32 × Int32 × Int32 × Int32 × Int32 × (Nat → Int32) × Int64 × Int64 × Int32 × (Nat → Int32) × Int64 × Int64 × Int32)) = some (z_r, z_t_longRow, z_t_longColumn, z_t_next_rows, z_t_next_columns, z_t_next_lower, z_t_next_sum_upper, z_t_next_sum_lower, z_t_next_sum_isLong, z_t_next_upper, z_t_value_upper, z_t_value_lower, z_t_value_isLong) := hf
            cases hf
            exact cRi hx hb hr hlk hP hD hS rfl dX0_addRow_47
          · have hf := ifN hc_35 hf
            refine lv_aload_n hx hb dX0_addRow_38 rfl (lv_at hl 1 rfl) ?_
            refine lv_iload_n hx hb dX0_addRow_39 rfl (lv_at hl 3 rfl) ?_
            obtain ⟨u_4, hcu_4, hf⟩ := bdS hf
            refine kVi (As := [.int p3]) (rest := []) (w2 := [(a_t, .inr (0, [.ref a_t_next, .int t_longRow, .int t_longColumn, .ref a_t_value])), (a_t_next, .inr (1, [.int t_next_rows, .int t_next_columns, .ref a_t_next_upper, .ref a_t_next_lower, .ref a_t_next_sum])), (a_t_next_lower, .inl (cI, 42, .inl t_next_lower)), (a_t_next_sum, .inr (3, [.long t_next_sum_upper, .long t_next_sum_lower, .int t_next_sum_isLong])), (a_t_next_upper, .inl (cI, 42, .inl t_next_upper)), (a_t_value, .inr (3, [.long t_value_upper, .long t_value_lower, .int t_value_isLong])), (a_p1, .inr (1, [.int p1_rows, .int p1_columns, .ref a_p1_upper, .ref a_p1_lower, .ref a_p1_sum])), (a_p1_lower, .inl (cI, 42, .inl p1_lower)), (a_p1_upper, .inl (cI, 42, .inl p1_upper))]) (wr := [(a_t, .inr (0, [.ref a_t_next, .int t_longRow, .int t_longColumn, .ref a_t_value])), (a_t_next, .inr (1, [.int t_next_rows, .int t_next_columns, .ref a_t_next_upper, .ref a_t_next_lower, .ref a_t_next_sum])), (a_t_next_lower, .inl (cI, 42, .inl t_next_lower)), (a_t_next_sum, .inr (3, [.long t_next_sum_upper, .long t_next_sum_lower, .int t_next_sum_isLong])), (a_t_next_upper, .inl (cI, 42, .inl t_next_upper)), (a_t_value, .inr (3, [.long t_value_upper, .long t_value_lower, .int t_value_isLong])), (a_p1_lower, .inl (cI, 42, .inl p1_lower))]) (ci := 1) (q0 := 0) ⟨hx, hb, hml, hown, hts⟩ (MX1_rowBits l D cI cJ cB cZ cG cS _ a_p1 a_p1_upper a_p1_lower a_p1_sum p3 p1_rows p1_columns p1_upper u_4 hcu_4) (cwV 1 hts gX0_addRow_X1_rowBits rfl rfl rfl (by decide +kernel) ⟨Nat.le_of_ble_eq_true rfl, Nat.le_of_ble_eq_true rfl⟩) hK hN hP hD hS hA [6, 8] [0, 1, 2, 3, 4, 5, 7] [0, 1, 2, 3, 4, 5, 7, 6, 8] rfl (by decide) rfl (by decide) (by decide) rfl (by decide) rfl rfl rfl hl.1 rfl (Nat.le_of_ble_eq_true rfl) dX0_addRow_40 ⟨Nat.zero_le _, Nat.zero_le _⟩ (fun H locs hP hD hS => ?_)
            refine lv_if_ne (tgt := 48) hx hb dX0_addRow_43 (by decide) (fun hc_43 => ?_) (fun hc_43 => ?_)
            · have hf := ifN hc_43 hf
              refine lv_aload_n hx hb dX0_addRow_48 rfl (lv_at hl 0 rfl) ?_
              refine va_get (D := D) (ci := 0) (v := .ref a_t_next) (C := RX0) (T := TX0) (N := 4) hx hb hts inX0_addRow_X0 hown hK hP 0 rfl rfl 0 (by decide) (hts (.fieldLink RX0 12 "RowPivots$Acts" "next" "LRowPivots$Grid;") (List.mem_of_getElem? (i := 1) rfl)) (fun _ h9 => h9) rfl dX0_addRow_49 ?_
              refine lv_aload_n hx hb dX0_addRow_52 rfl (lv_at hl 1 rfl) ?_
              obtain ⟨u_5, hcu_5, hf⟩ := bdS hf
              refine kVv (As := [.ref a_p1]) (rest := []) (w2 := [(a_t, .inr (0, [.ref a_t_next, .int t_longRow, .int t_longColumn, .ref a_t_value])), (a_t_next, .inr (1, [.int u_5.1, .int u_5.2.1, .ref a_t_next_upper, .ref a_t_next_lower, .ref a_t_next_sum])), (a_t_next_lower, .inl (cI, 42, .inl u_5.2.2.1)), (a_t_next_sum, .inr (3, [.long t_next_sum_upper, .long t_next_sum_lower, .int t_next_sum_isLong])), (a_t_next_upper, .inl (cI, 42, .inl u_5.2.2.2)), (a_t_value, .inr (3, [.long t_value_upper, .long t_value_lower, .int t_value_isLong])), (a_p1, .inr (1, [.int p1_rows, .int p1_columns, .ref a_p1_upper, .ref a_p1_lower, .ref a_p1_sum])), (a_p1_lower, .inl (cI, 42, .inl p1_lower)), (a_p1_upper, .inl (cI, 42, .inl p1_upper))]) (wr := [(a_t, .inr (0, [.ref a_t_next, .int t_longRow, .int t_longColumn, .ref a_t_value])), (a_t_next_sum, .inr (3, [.long t_next_sum_upper, .long t_next_sum_lower, .int t_next_sum_isLong])), (a_t_value, .inr (3, [.long t_value_upper, .long t_value_lower, .int t_value_isLong]))]) (ci := 1) (q0 := 0) ⟨hx, hb, hml, hown, hts⟩ (MX1_copy l D cI cJ cB cZ cG cS _ a_t_next a_p1 a_t_next_upper a_t_next_lower a_t_next_sum a_p1_upper a_p1_lower a_p1_sum t_next_rows t_next_columns t_next_lower t_next_upper p1_rows p1_columns p1_lower p1_upper u_5.1 u_5.2.1 u_5.2.2.1 u_5.2.2.2 hcu_5) (cwV 1 hts gX0_addRow_X1_copy rfl rfl rfl (by decide +kernel) ⟨Nat.le_of_ble_eq_true rfl, Nat.le_of_ble_eq_true rfl⟩) hK hN hP hD hS hA [1, 2, 4, 6, 7, 8] [0, 3, 5] [0, 3, 4, 1, 5, 2, 6, 7, 8] rfl (by decide) rfl (by decide) (by decide) rfl (by decide) rfl rfl rfl hl.1 rfl (Nat.le_of_ble_eq_true rfl) dX0_addRow_53 ⟨Nat.zero_le _, Nat.zero_le _⟩ (fun H locs hP hD hS => ?_)
              refine lv_aload_n hx hb dX0_addRow_56 rfl (lv_at hl 0 rfl) ?_
              refine va_get (D := D) (ci := 0) (v := .ref a_t_value) (C := RX0) (T := TX0) (N := 4) hx hb hts inX0_addRow_X0 hown hK hP 0 rfl rfl 3 (by decide) (hts (.fieldLink RX0 21 "RowPivots$Acts" "value" "LRowPivots$Ratio;") (List.mem_of_getElem? (i := 2) rfl)) (fun _ h9 => h9) rfl dX0_addRow_57 ?_
              refine lv_iload hx hb dX0_addRow_60 (lv_at hl 4 rfl) ?_
              refine lv_i2l hx hb dX0_addRow_62 rfl ?_
              refine lv_iload hx hb dX0_addRow_63 (lv_at hl 5 rfl) ?_
              refine lv_i2l hx hb dX0_addRow_65 rfl ?_
              obtain ⟨u_6, hcu_6, hf⟩ := bdS hf
              refine kVv (As := [.long (p4.toInt64), .long (p5.toInt64)]) (rest := []) (w2 := [(a_t, .inr (0, [.ref a_t_next, .int t_longRow, .int t_longColumn, .ref a_t_value])), (a_t_next, .inr (1, [.int u_5.1, .int u_5.2.1, .ref a_t_next_upper, .ref a_t_next_lower, .ref a_t_next_sum])), (a_t_next_lower, .inl (cI, 42, .inl u_5.2.2.1)), (a_t_next_sum, .inr (3, [.long t_next_sum_upper, .long t_next_sum_lower, .int t_next_sum_isLong])), (a_t_next_upper, .inl (cI, 42, .inl u_5.2.2.2)), (a_t_value, .inr (3, [.long u_6.1, .long u_6.2.1, .int u_6.2.2])), (a_p1, .inr (1, [.int p1_rows, .int p1_columns, .ref a_p1_upper, .ref a_p1_lower, .ref a_p1_sum])), (a_p1_lower, .inl (cI, 42, .inl p1_lower)), (a_p1_upper, .inl (cI, 42, .inl p1_upper))]) (wr := [(a_t, .inr (0, [.ref a_t_next, .int t_longRow, .int t_longColumn, .ref a_t_value])), (a_t_next, .inr (1, [.int u_5.1, .int u_5.2.1, .ref a_t_next_upper, .ref a_t_next_lower, .ref a_t_next_sum])), (a_t_next_lower, .inl (cI, 42, .inl u_5.2.2.1)), (a_t_next_sum, .inr (3, [.long t_next_sum_upper, .long t_next_sum_lower, .int t_next_sum_isLong])), (a_t_next_upper, .inl (cI, 42, .inl u_5.2.2.2)), (a_p1, .inr (1, [.int p1_rows, .int p1_columns, .ref a_p1_upper, .ref a_p1_lower, .ref a_p1_sum])), (a_p1_lower, .inl (cI, 42, .inl p1_lower)), (a_p1_upper, .inl (cI, 42, .inl p1_upper))]) (ci := 3) (q0 := 0) ⟨hx, hb, hml, hown, hts⟩ (MX3_start l D cI cJ cB cZ cG cS _ a_t_value (p4.toInt64) (p5.toInt64) t_value_upper t_value_lower t_value_isLong u_6.1 u_6.2.1 u_6.2.2 hcu_6) (cwV 2 hts gX0_addRow_X3_start rfl rfl rfl (by decide +kernel) ⟨Nat.le_of_ble_eq_true rfl, Nat.le_of_ble_eq_true rfl⟩) hK hN hP hD hS hA [5] [0, 1, 2, 3, 4, 6, 7, 8] [0, 1, 2, 3, 4, 8, 5, 6, 7] rfl (by decide) rfl (by decide) (by decide) rfl (by decide) rfl rfl rfl hl.1 rfl (Nat.le_of_ble_eq_true rfl) dX0_addRow_66 ⟨Nat.zero_le _, Nat.zero_le _⟩ (fun H locs hP hD hS => ?_)
              refine lv_aload_n hx hb dX0_addRow_69 rfl (lv_at hl 0 rfl) ?_
              refine va_get (D := D) (ci := 0) (v := .ref a_t_next) (C := RX0) (T := TX0) (N := 4) hx hb hts inX0_addRow_X0 hown hK hP 0 rfl rfl 0 (by decide) (hts (.fieldLink RX0 12 "RowPivots$Acts" "next" "LRowPivots$Grid;") (List.mem_of_getElem? (i := 1) rfl)) (fun _ h9 => h9) rfl dX0_addRow_70 ?_
              refine lv_iload_n hx hb dX0_addRow_73 rfl (lv_at hl 2 rfl) ?_
              refine lv_iload_n hx hb dX0_addRow_74 rfl (lv_at hl 3 rfl) ?_
              refine lv_aload_n hx hb dX0_addRow_75 rfl (lv_at hl 0 rfl) ?_
              refine va_get (D := D) (ci := 0) (v := .ref a_t_value) (C := RX0) (T := TX0) (N := 4) hx hb hts inX0_addRow_X0 hown hK hP 0 rfl rfl 3 (by decide) (hts (.fieldLink RX0 21 "RowPivots$Acts" "value" "LRowPivots$Ratio;") (List.mem_of_getElem? (i := 2) rfl)) (fun _ h9 => h9) rfl dX0_addRow_76 ?_
              refine va_get (D := D) (ci := 3) (v := .long u_6.1) (C := RX3) (T := TX3) (N := 3) hx hb hts inX0_addRow_X3 hown hK hP 5 rfl rfl 0 (by decide) (hts (.fieldLink RX0 79 "RowPivots$Ratio" "upper" "J") (List.mem_of_getElem? (i := 3) rfl)) (fun _ h9 => h9) rfl dX0_addRow_79 ?_
              refine lv_aload_n hx hb dX0_addRow_82 rfl (lv_at hl 0 rfl) ?_
              refine va_get (D := D) (ci := 0) (v := .ref a_t_value) (C := RX0) (T := TX0) (N := 4) hx hb hts inX0_addRow_X0 hown hK hP 0 rfl rfl 3 (by decide) (hts (.fieldLink RX0 21 "RowPivots$Acts" "value" "LRowPivots$Ratio;") (List.mem_of_getElem? (i := 2) rfl)) (fun _ h9 => h9) rfl dX0_addRow_83 ?_
              refine va_get (D := D) (ci := 3) (v := .long u_6.2.1) (C := RX3) (T := TX3) (N := 3) hx hb hts inX0_addRow_X3 hown hK hP 5 rfl rfl 1 (by decide) (hts (.fieldLink RX0 83 "RowPivots$Ratio" "lower" "J") (List.mem_of_getElem? (i := 4) rfl)) (fun _ h9 => h9) rfl dX0_addRow_86 ?_
              obtain ⟨u_7, hcu_7, hf⟩ := bdS hf
              refine kVi (As := [.int p2, .int p3, .long u_6.1, .long u_6.2.1]) (rest := []) (w2 := [(a_t, .inr (0, [.ref a_t_next, .int t_longRow, .int t_longColumn, .ref a_t_value])), (a_t_next, .inr (1, [.int u_5.1, .int u_5.2.1, .ref a_t_next_upper, .ref a_t_next_lower, .ref a_t_next_sum])), (a_t_next_lower, .inl (cI, 42, .inl u_7.2.1)), (a_t_next_sum, .inr (3, [.long u_7.2.2.1, .long u_7.2.2.2.1, .int u_7.2.2.2.2.1])), (a_t_next_upper, .inl (cI, 42, .inl u_7.2.2.2.2.2)), (a_t_value, .inr (3, [.long u_6.1, .long u_6.2.1, .int u_6.2.2])), (a_p1, .inr (1, [.int p1_rows, .int p1_columns, .ref a_p1_upper, .ref a_p1_lower, .ref a_p1_sum])), (a_p1_lower, .inl (cI, 42, .inl p1_lower)), (a_p1_upper, .inl (cI, 42, .inl p1_upper))]) (wr := [(a_t, .inr (0, [.ref a_t_next, .int t_longRow, .int t_longColumn, .ref a_t_value])), (a_t_value, .inr (3, [.long u_6.1, .long u_6.2.1, .int u_6.2.2])), (a_p1, .inr (1, [.int p1_rows, .int p1_columns, .ref a_p1_upper, .ref a_p1_lower, .ref a_p1_sum])), (a_p1_lower, .inl (cI, 42, .inl p1_lower)), (a_p1_upper, .inl (cI, 42, .inl p1_upper))]) (ci := 1) (q0 := 0) ⟨hx, hb, hml, hown, hts⟩ (MX1_addTimes l D cI cJ cB cZ cG cS _ a_t_next a_t_next_upper a_t_next_lower a_t_next_sum p2 p3 u_6.1 u_6.2.1 u_5.1 u_5.2.1 u_5.2.2.1 t_next_sum_upper t_next_sum_lower t_next_sum_isLong u_5.2.2.2 u_7.1 u_7.2.1 u_7.2.2.1 u_7.2.2.2.1 u_7.2.2.2.2.1 u_7.2.2.2.2.2 hcu_7) (cwV 4 hts gX0_addRow_X1_addTimes rfl rfl rfl (by decide +kernel) ⟨Nat.le_of_ble_eq_true rfl, Nat.le_of_ble_eq_true rfl⟩) hK hN hP hD hS hA [1, 2, 3, 4] [0, 5, 6, 7, 8] [0, 5, 6, 7, 8, 1, 2, 3, 4] rfl (by decide) rfl (by decide) (by decide) rfl (by decide) rfl rfl rfl hl.1 rfl (Nat.le_of_ble_eq_true rfl) dX0_addRow_89 ⟨Nat.zero_le _, Nat.zero_le _⟩ (fun H locs hP hD hS => ?_)
              refine lv_topi (fun x_8 ex_8 => ?_)
              have hf := lt_b ex_8 hf
              refine lv_istore (lv' := [(6, .int x_8), (0, .ref a_t), (1, .ref a_p1), (2, .int p2), (3, .int p3), (4, .int p4), (5, .int p5)]) hx hb dX0_addRow_92 hl (by decide) rfl (fun ls hl => ?_)
              refine lv_iload hx hb dX0_addRow_94 (lv_at hl 0 rfl) ?_
              refine lv_iconst (v := (-1)) hx hb dX0_addRow_96 (by decide) ?_
              refine lv_icmp_ne (tgt := 104) hx hb dX0_addRow_97 (by decide) (fun hc_97 => ?_) (fun hc_97 => ?_)
              · have hf := ifN hc_97 hf
                refine lv_aload_n hx hb dX0_addRow_104 rfl (lv_at hl 1 rfl) ?_
                refine lv_iload_n hx hb dX0_addRow_105 rfl (lv_at hl 3 rfl) ?_
                refine lv_iload hx hb dX0_addRow_106 (lv_at hl 0 rfl) ?_
                obtain ⟨u_9, hcu_9, hf⟩ := bdS hf
                refine kVi (As := [.int p2, .int x_8]) (rest := []) (w2 := [(a_t, .inr (0, [.ref a_t_next, .int u_9.2.1, .int u_9.2.2, .ref a_t_value])), (a_t_next, .inr (1, [.int u_5.1, .int u_5.2.1, .ref a_t_next_upper, .ref a_t_next_lower, .ref a_t_next_sum])), (a_t_next_lower, .inl (cI, 42, .inl u_7.2.1)), (a_t_next_sum, .inr (3, [.long u_7.2.2.1, .long u_7.2.2.2.1, .int u_7.2.2.2.2.1])), (a_t_next_upper, .inl (cI, 42, .inl u_7.2.2.2.2.2)), (a_t_value, .inr (3, [.long u_6.1, .long u_6.2.1, .int u_6.2.2])), (a_p1, .inr (1, [.int p1_rows, .int p1_columns, .ref a_p1_upper, .ref a_p1_lower, .ref a_p1_sum])), (a_p1_lower, .inl (cI, 42, .inl p1_lower)), (a_p1_upper, .inl (cI, 42, .inl p1_upper))]) (wr := [(a_t_next, .inr (1, [.int u_5.1, .int u_5.2.1, .ref a_t_next_upper, .ref a_t_next_lower, .ref a_t_next_sum])), (a_t_next_lower, .inl (cI, 42, .inl u_7.2.1)), (a_t_next_sum, .inr (3, [.long u_7.2.2.1, .long u_7.2.2.2.1, .int u_7.2.2.2.2.1])), (a_t_next_upper, .inl (cI, 42, .inl u_7.2.2.2.2.2)), (a_t_value, .inr (3, [.long u_6.1, .long u_6.2.1, .int u_6.2.2])), (a_p1, .inr (1, [.int p1_rows, .int p1_columns, .ref a_p1_upper, .ref a_p1_lower, .ref a_p1_sum])), (a_p1_lower, .inl (cI, 42, .inl p1_lower)), (a_p1_upper, .inl (cI, 42, .inl p1_upper))]) (ci := 0) (q0 := 0) ⟨hx, hb, hml, hown, hts⟩ (MX0_refuseLong l D cI cJ cB cZ cG cS _ a_t a_t_next a_t_value p2 x_8 t_longRow t_longColumn u_9.1 u_9.2.1 u_9.2.2 hcu_9) (cwV 2 hts gX0_addRow_X0_refuseLong rfl rfl rfl (by decide +kernel) ⟨Nat.le_of_ble_eq_true rfl, Nat.le_of_ble_eq_true rfl⟩) hK hN hP hD hS hA [0] [1, 2, 3, 4, 5, 6, 7, 8] [8, 0, 1, 2, 3, 4, 5, 6, 7] rfl (by decide) rfl (by decide) (by decide) rfl (by decide) rfl rfl rfl hl.1 rfl (Nat.le_of_ble_eq_true rfl) dX0_addRow_108 ⟨Nat.zero_le _, Nat.zero_le _⟩ (fun H locs hP hD hS => ?_)
                have hf : (some (u_9.1, u_9.2.1, u_9.2.2, u_5.1, u_5.2.1, u_7.2.1, u_7.2.2.1, u_7.2.2.2.1, u_7.2.2.2.2.1, u_7.2.2.2.2.2, u_6.1, u_6.2.1, u_6.2.2) : Option (Int32 × Int32 × Int32 × Int32 × Int32 × (Nat → Int32) × Int64 × Int64 × Int32 × (Nat → Int32) × Int64 × Int64 × Int32)) = some (z_r, z_t_longRow, z_t_longColumn, z_t_next_rows, z_t_next_columns, z_t_next_lower, z_t_next_sum_upper, z_t_next_sum_lower, z_t_next_sum_isLong, z_t_next_upper, z_t_value_upper, z_t_value_lower, z_t_value_isLong) := hf
                cases hf
                exact cRi hx hb hr hlk hP hD hS rfl dX0_addRow_111
              · have hf := ifP hc_97 hf
                refine lv_iconst (v := 0) hx hb dX0_addRow_100 (by decide) ?_
                refine lv_goto (tgt := 111) hx hb dX0_addRow_101 (by decide) ?_
                have hf : (some (0, t_longRow, t_longColumn, u_5.1, u_5.2.1, u_7.2.1, u_7.2.2.1, u_7.2.2.2.1, u_7.2.2.2.2.1, u_7.2.2.2.2.2, u_6.1, u_6.2.1, u_6.2.2) : Option (Int32 × Int32 × Int32 × Int32 × Int32 × (Nat → Int32) × Int64 × Int64 × Int32 × (Nat → Int32) × Int64 × Int64 × Int32)) = some (z_r, z_t_longRow, z_t_longColumn, z_t_next_rows, z_t_next_columns, z_t_next_lower, z_t_next_sum_upper, z_t_next_sum_lower, z_t_next_sum_isLong, z_t_next_upper, z_t_value_upper, z_t_value_lower, z_t_value_isLong) := hf
                cases hf
                exact cRi hx hb hr hlk hP hD hS rfl dX0_addRow_111
            · have hf := ifP hc_43 hf
              refine lv_iconst (v := 2) hx hb dX0_addRow_46 (by decide) ?_
              have hf : (some (2, t_longRow, t_longColumn, t_next_rows, t_next_columns, t_next_lower, t_next_sum_upper, t_next_sum_lower, t_next_sum_isLong, t_next_upper, t_value_upper, t_value_lower, t_value_isLong) : Option (Int32 × Int32 × Int32 × Int32 × Int32 × (Nat → Int32) × Int64 × Int64 × Int32 × (Nat → Int32) × Int64 × Int64 × Int32)) = some (z_r, z_t_longRow, z_t_longColumn, z_t_next_rows, z_t_next_columns, z_t_next_lower, z_t_next_sum_upper, z_t_next_sum_lower, z_t_next_sum_isLong, z_t_next_upper, z_t_value_upper, z_t_value_lower, z_t_value_isLong) := hf
              cases hf
              exact cRi hx hb hr hlk hP hD hS rfl dX0_addRow_47
      · have hf := ifP hc_23 hf
        refine lv_iconst (v := 1) hx hb dX0_addRow_26 (by decide) ?_
        have hf : (some (1, t_longRow, t_longColumn, t_next_rows, t_next_columns, t_next_lower, t_next_sum_upper, t_next_sum_lower, t_next_sum_isLong, t_next_upper, t_value_upper, t_value_lower, t_value_isLong) : Option (Int32 × Int32 × Int32 × Int32 × Int32 × (Nat → Int32) × Int64 × Int64 × Int32 × (Nat → Int32) × Int64 × Int64 × Int32)) = some (z_r, z_t_longRow, z_t_longColumn, z_t_next_rows, z_t_next_columns, z_t_next_lower, z_t_next_sum_upper, z_t_next_sum_lower, z_t_next_sum_isLong, z_t_next_upper, z_t_value_upper, z_t_value_lower, z_t_value_isLong) := hf
        cases hf
        exact cRi hx hb hr hlk hP hD hS rfl dX0_addRow_27
theorem inX0_takeSwept_X0 : ∀ w ∈ wsX00, w ∈ wsX0_takeSwept := fun _ h => List.mem_cons_of_mem _ (List.mem_append_left _ (List.mem_append_left _ (List.mem_append_right _ h)))
theorem inX0_takeSwept_X7 : ∀ w ∈ wsX70, w ∈ wsX0_takeSwept := fun _ h => List.mem_cons_of_mem _ (List.mem_append_left _ (List.mem_append_left _ (List.mem_append_left _ (List.mem_append_right _ h))))
def fX0_takeSwept (t_longRow : Int32) (t_longColumn : Int32) (t_next_rows : Int32) (t_next_columns : Int32) (t_next_lower : Nat → Int32) (t_next_sum_upper : Int64) (t_next_sum_lower : Int64) (t_next_sum_isLong : Int32) (t_next_upper : Nat → Int32) (p1_lower : Nat → Int32) (p1_upper : Nat → Int32) (p2_broken : Int32) (p2_brokenRow : Int32) (p2_brokenColumn : Int32) (p2_grid_rows : Int32) (p2_grid_columns : Int32) (p2_grid_lower : Nat → Int32) (p2_grid_upper : Nat → Int32) : Option (Int32 × Int32 × Int32 × Int32 × Int32 × (Nat → Int32) × Int64 × Int64 × Int32 × (Nat → Int32)) :=
  if p2_broken = 0 then ((fX1_copy t_next_lower t_next_upper p2_grid_rows p2_grid_columns p2_grid_lower p2_grid_upper).bind fun u_1 => (fX1_isSame u_1.1 u_1.2.1 u_1.2.2.1 t_next_sum_upper t_next_sum_lower t_next_sum_isLong u_1.2.2.2 p1_lower p1_upper).bind fun u_2 => if u_2.1 = 0 then (some (0, t_longRow, t_longColumn, u_1.1, u_1.2.1, u_1.2.2.1, u_2.2.1, u_2.2.2.1, u_2.2.2.2, u_1.2.2.2)) else (some (2, t_longRow, t_longColumn, u_1.1, u_1.2.1, u_1.2.2.1, u_2.2.1, u_2.2.2.1, u_2.2.2.2, u_1.2.2.2))) else ((fX0_refuseLong p2_brokenRow p2_brokenColumn).bind fun u_3 => some (u_3.1, u_3.2.1, u_3.2.2, t_next_rows, t_next_columns, t_next_lower, t_next_sum_upper, t_next_sum_lower, t_next_sum_isLong, t_next_upper))
set_option maxHeartbeats 4000000 in
set_option maxRecDepth 100000 in
theorem MX0_takeSwept (l : Launch) (D : va_G) (cI cJ cB cZ cG cS : ClassId) (sz : Nat) (a_t : Nat) (a_p1 : Nat) (a_p2 : Nat) (a_t_next : Nat) (a_t_value : Nat) (a_t_next_upper : Nat) (a_t_next_lower : Nat) (a_t_next_sum : Nat) (a_p1_upper : Nat) (a_p1_lower : Nat) (a_p1_sum : Nat) (a_p2_grid : Nat) (a_p2_pivotRows : Nat) (a_p2_pivotColumns : Nat) (a_p2_fills : Nat) (a_p2_weights : Nat) (a_p2_factor : Nat) (a_p2_grid_upper : Nat) (a_p2_grid_lower : Nat) (a_p2_grid_sum : Nat) (t_longRow : Int32) (t_longColumn : Int32) (t_next_rows : Int32) (t_next_columns : Int32) (t_next_lower : Nat → Int32) (t_next_sum_upper : Int64) (t_next_sum_lower : Int64) (t_next_sum_isLong : Int32) (t_next_upper : Nat → Int32) (p1_rows : Int32) (p1_columns : Int32) (p1_lower : Nat → Int32) (p1_upper : Nat → Int32) (p2_rank : Int32) (p2_broken : Int32) (p2_brokenRow : Int32) (p2_brokenColumn : Int32) (p2_liveRows : Int32) (p2_liveColumns : Int32) (p2_bestRow : Int32) (p2_bestColumn : Int32) (p2_grid_rows : Int32) (p2_grid_columns : Int32) (p2_grid_lower : Nat → Int32) (p2_grid_upper : Nat → Int32) (z_r : Int32) (z_t_longRow : Int32) (z_t_longColumn : Int32) (z_t_next_rows : Int32) (z_t_next_columns : Int32) (z_t_next_lower : Nat → Int32) (z_t_next_sum_upper : Int64) (z_t_next_sum_lower : Int64) (z_t_next_sum_isLong : Int32) (z_t_next_upper : Nat → Int32) (hf : fX0_takeSwept t_longRow t_longColumn t_next_rows t_next_columns t_next_lower t_next_sum_upper t_next_sum_lower t_next_sum_isLong t_next_upper p1_lower p1_upper p2_broken p2_brokenRow p2_brokenColumn p2_grid_rows p2_grid_columns p2_grid_lower p2_grid_upper = some (z_r, z_t_longRow, z_t_longColumn, z_t_next_rows, z_t_next_columns, z_t_next_lower, z_t_next_sum_upper, z_t_next_sum_lower, z_t_next_sum_isLong, z_t_next_upper)) : Met l yX0_takeSwept wsX0_takeSwept { frames := 3, cells := 0, slots := 0, locals := 85 } (cP D (tyL cI cJ cB cZ cG cS) [.ref a_t, .ref a_p1, .ref a_p2] sz [(a_t, .inr (0, [.ref a_t_next, .int t_longRow, .int t_longColumn, .ref a_t_value])), (a_t_next, .inr (1, [.int t_next_rows, .int t_next_columns, .ref a_t_next_upper, .ref a_t_next_lower, .ref a_t_next_sum])), (a_t_next_lower, .inl (cI, 42, .inl t_next_lower)), (a_t_next_sum, .inr (3, [.long t_next_sum_upper, .long t_next_sum_lower, .int t_next_sum_isLong])), (a_t_next_upper, .inl (cI, 42, .inl t_next_upper)), (a_p1, .inr (1, [.int p1_rows, .int p1_columns, .ref a_p1_upper, .ref a_p1_lower, .ref a_p1_sum])), (a_p1_lower, .inl (cI, 42, .inl p1_lower)), (a_p1_upper, .inl (cI, 42, .inl p1_upper)), (a_p2, .inr (7, [.ref a_p2_grid, .int p2_rank, .int p2_broken, .int p2_brokenRow, .int p2_brokenColumn, .ref a_p2_pivotRows, .ref a_p2_pivotColumns, .ref a_p2_fills, .ref a_p2_weights, .ref a_p2_factor, .int p2_liveRows, .int p2_liveColumns, .int p2_bestRow, .int p2_bestColumn])), (a_p2_grid, .inr (1, [.int p2_grid_rows, .int p2_grid_columns, .ref a_p2_grid_upper, .ref a_p2_grid_lower, .ref a_p2_grid_sum])), (a_p2_grid_lower, .inl (cI, 42, .inl p2_grid_lower)), (a_p2_grid_upper, .inl (cI, 42, .inl p2_grid_upper))]) (cQi D (va_A [(a_t, .inr (0, [.ref a_t_next, .int t_longRow, .int t_longColumn, .ref a_t_value])), (a_t_next, .inr (1, [.int t_next_rows, .int t_next_columns, .ref a_t_next_upper, .ref a_t_next_lower, .ref a_t_next_sum])), (a_t_next_lower, .inl (cI, 42, .inl t_next_lower)), (a_t_next_sum, .inr (3, [.long t_next_sum_upper, .long t_next_sum_lower, .int t_next_sum_isLong])), (a_t_next_upper, .inl (cI, 42, .inl t_next_upper)), (a_p1, .inr (1, [.int p1_rows, .int p1_columns, .ref a_p1_upper, .ref a_p1_lower, .ref a_p1_sum])), (a_p1_lower, .inl (cI, 42, .inl p1_lower)), (a_p1_upper, .inl (cI, 42, .inl p1_upper)), (a_p2, .inr (7, [.ref a_p2_grid, .int p2_rank, .int p2_broken, .int p2_brokenRow, .int p2_brokenColumn, .ref a_p2_pivotRows, .ref a_p2_pivotColumns, .ref a_p2_fills, .ref a_p2_weights, .ref a_p2_factor, .int p2_liveRows, .int p2_liveColumns, .int p2_bestRow, .int p2_bestColumn])), (a_p2_grid, .inr (1, [.int p2_grid_rows, .int p2_grid_columns, .ref a_p2_grid_upper, .ref a_p2_grid_lower, .ref a_p2_grid_sum])), (a_p2_grid_lower, .inl (cI, 42, .inl p2_grid_lower)), (a_p2_grid_upper, .inl (cI, 42, .inl p2_grid_upper))] sz) z_r [(a_t, .inr (0, [.ref a_t_next, .int z_t_longRow, .int z_t_longColumn, .ref a_t_value])), (a_t_next, .inr (1, [.int z_t_next_rows, .int z_t_next_columns, .ref a_t_next_upper, .ref a_t_next_lower, .ref a_t_next_sum])), (a_t_next_lower, .inl (cI, 42, .inl z_t_next_lower)), (a_t_next_sum, .inr (3, [.long z_t_next_sum_upper, .long z_t_next_sum_lower, .int z_t_next_sum_isLong])), (a_t_next_upper, .inl (cI, 42, .inl z_t_next_upper)), (a_p1, .inr (1, [.int p1_rows, .int p1_columns, .ref a_p1_upper, .ref a_p1_lower, .ref a_p1_sum])), (a_p1_lower, .inl (cI, 42, .inl p1_lower)), (a_p1_upper, .inl (cI, 42, .inl p1_upper)), (a_p2, .inr (7, [.ref a_p2_grid, .int p2_rank, .int p2_broken, .int p2_brokenRow, .int p2_brokenColumn, .ref a_p2_pivotRows, .ref a_p2_pivotColumns, .ref a_p2_fills, .ref a_p2_weights, .ref a_p2_factor, .int p2_liveRows, .int p2_liveColumns, .int p2_bestRow, .int p2_bestColumn])), (a_p2_grid, .inr (1, [.int p2_grid_rows, .int p2_grid_columns, .ref a_p2_grid_upper, .ref a_p2_grid_lower, .ref a_p2_grid_sum])), (a_p2_grid_lower, .inl (cI, 42, .inl p2_grid_lower)), (a_p2_grid_upper, .inl (cI, 42, .inl p2_grid_upper))]) 0 0 (va_A [(a_t, .inr (0, [.ref a_t_next, .int t_longRow, .int t_longColumn, .ref a_t_value])), (a_t_next, .inr (1, [.int t_next_rows, .int t_next_columns, .ref a_t_next_upper, .ref a_t_next_lower, .ref a_t_next_sum])), (a_t_next_lower, .inl (cI, 42, .inl t_next_lower)), (a_t_next_sum, .inr (3, [.long t_next_sum_upper, .long t_next_sum_lower, .int t_next_sum_isLong])), (a_t_next_upper, .inl (cI, 42, .inl t_next_upper)), (a_p1, .inr (1, [.int p1_rows, .int p1_columns, .ref a_p1_upper, .ref a_p1_lower, .ref a_p1_sum])), (a_p1_lower, .inl (cI, 42, .inl p1_lower)), (a_p1_upper, .inl (cI, 42, .inl p1_upper)), (a_p2, .inr (7, [.ref a_p2_grid, .int p2_rank, .int p2_broken, .int p2_brokenRow, .int p2_brokenColumn, .ref a_p2_pivotRows, .ref a_p2_pivotColumns, .ref a_p2_fills, .ref a_p2_weights, .ref a_p2_factor, .int p2_liveRows, .int p2_liveColumns, .int p2_bestRow, .int p2_bestColumn])), (a_p2_grid, .inr (1, [.int p2_grid_rows, .int p2_grid_columns, .ref a_p2_grid_upper, .ref a_p2_grid_lower, .ref a_p2_grid_sum])), (a_p2_grid_lower, .inl (cI, 42, .inl p2_grid_lower)), (a_p2_grid_upper, .inl (cI, 42, .inl p2_grid_upper))] sz) := by
  refine cM (Qc := fun A => cQi D A z_r [(a_t, .inr (0, [.ref a_t_next, .int z_t_longRow, .int z_t_longColumn, .ref a_t_value])), (a_t_next, .inr (1, [.int z_t_next_rows, .int z_t_next_columns, .ref a_t_next_upper, .ref a_t_next_lower, .ref a_t_next_sum])), (a_t_next_lower, .inl (cI, 42, .inl z_t_next_lower)), (a_t_next_sum, .inr (3, [.long z_t_next_sum_upper, .long z_t_next_sum_lower, .int z_t_next_sum_isLong])), (a_t_next_upper, .inl (cI, 42, .inl z_t_next_upper)), (a_p1, .inr (1, [.int p1_rows, .int p1_columns, .ref a_p1_upper, .ref a_p1_lower, .ref a_p1_sum])), (a_p1_lower, .inl (cI, 42, .inl p1_lower)), (a_p1_upper, .inl (cI, 42, .inl p1_upper)), (a_p2, .inr (7, [.ref a_p2_grid, .int p2_rank, .int p2_broken, .int p2_brokenRow, .int p2_brokenColumn, .ref a_p2_pivotRows, .ref a_p2_pivotColumns, .ref a_p2_fills, .ref a_p2_weights, .ref a_p2_factor, .int p2_liveRows, .int p2_liveColumns, .int p2_bestRow, .int p2_bestColumn])), (a_p2_grid, .inr (1, [.int p2_grid_rows, .int p2_grid_columns, .ref a_p2_grid_upper, .ref a_p2_grid_lower, .ref a_p2_grid_sum])), (a_p2_grid_lower, .inl (cI, 42, .inl p2_grid_lower)), (a_p2_grid_upper, .inl (cI, 42, .inl p2_grid_upper))]) RX0 (by decide) rfl rfl (Nat.le_of_ble_eq_true rfl) ?_
  intro p e s m below meth c A ls hx hb hr hlk hml hown hts hK hN hP hD hS hA hl
  have X : Cx D (tyL cI cJ cB cZ cG cS) cX0_takeSwept 3 (some .int) RX0 wsX0_takeSwept [.ref a_t, .ref a_p1, .ref a_p2] p s m meth c A := ⟨hx, hb, hr, hlk, hml, hown, hts, hK, hN, hA⟩
  have hl : lv_has ls 3 [(0, .ref a_t), (1, .ref a_p1), (2, .ref a_p2)] := hl
  unfold fX0_takeSwept at hf
  refine lv_aload_n hx hb dX0_takeSwept_0 rfl (lv_at hl 2 rfl) ?_
  refine va_get (D := D) (ci := 7) (v := .int p2_broken) (C := RX7) (T := TX7) (N := 14) hx hb hts inX0_takeSwept_X7 hown hK hP 8 rfl rfl 2 (by decide) (hts (.fieldLink RX0 90 "RowPivots$Sweep" "broken" "Z") (List.mem_of_getElem? (i := 1) rfl)) (fun _ h9 => h9) rfl dX0_takeSwept_1 ?_
  refine lv_if_eq (tgt := 20) hx hb dX0_takeSwept_4 (by decide) (fun hc_4 => ?_) (fun hc_4 => ?_)
  · have hf := ifP hc_4 hf
    refine lv_aload_n hx hb dX0_takeSwept_20 rfl (lv_at hl 0 rfl) ?_
    refine va_get (D := D) (ci := 0) (v := .ref a_t_next) (C := RX0) (T := TX0) (N := 4) hx hb hts inX0_takeSwept_X0 hown hK hP 0 rfl rfl 0 (by decide) (hts (.fieldLink RX0 12 "RowPivots$Acts" "next" "LRowPivots$Grid;") (List.mem_of_getElem? (i := 4) rfl)) (fun _ h9 => h9) rfl dX0_takeSwept_21 ?_
    refine lv_aload_n hx hb dX0_takeSwept_24 rfl (lv_at hl 2 rfl) ?_
    refine va_get (D := D) (ci := 7) (v := .ref a_p2_grid) (C := RX7) (T := TX7) (N := 14) hx hb hts inX0_takeSwept_X7 hown hK hP 8 rfl rfl 0 (by decide) (hts (.fieldLink RX0 101 "RowPivots$Sweep" "grid" "LRowPivots$Grid;") (List.mem_of_getElem? (i := 5) rfl)) (fun _ h9 => h9) rfl dX0_takeSwept_25 ?_
    obtain ⟨u_1, hcu_1, hf⟩ := bdS hf
    refine kVv (As := [.ref a_p2_grid]) (rest := []) (w2 := [(a_t, .inr (0, [.ref a_t_next, .int t_longRow, .int t_longColumn, .ref a_t_value])), (a_t_next, .inr (1, [.int u_1.1, .int u_1.2.1, .ref a_t_next_upper, .ref a_t_next_lower, .ref a_t_next_sum])), (a_t_next_lower, .inl (cI, 42, .inl u_1.2.2.1)), (a_t_next_sum, .inr (3, [.long t_next_sum_upper, .long t_next_sum_lower, .int t_next_sum_isLong])), (a_t_next_upper, .inl (cI, 42, .inl u_1.2.2.2)), (a_p1, .inr (1, [.int p1_rows, .int p1_columns, .ref a_p1_upper, .ref a_p1_lower, .ref a_p1_sum])), (a_p1_lower, .inl (cI, 42, .inl p1_lower)), (a_p1_upper, .inl (cI, 42, .inl p1_upper)), (a_p2, .inr (7, [.ref a_p2_grid, .int p2_rank, .int p2_broken, .int p2_brokenRow, .int p2_brokenColumn, .ref a_p2_pivotRows, .ref a_p2_pivotColumns, .ref a_p2_fills, .ref a_p2_weights, .ref a_p2_factor, .int p2_liveRows, .int p2_liveColumns, .int p2_bestRow, .int p2_bestColumn])), (a_p2_grid, .inr (1, [.int p2_grid_rows, .int p2_grid_columns, .ref a_p2_grid_upper, .ref a_p2_grid_lower, .ref a_p2_grid_sum])), (a_p2_grid_lower, .inl (cI, 42, .inl p2_grid_lower)), (a_p2_grid_upper, .inl (cI, 42, .inl p2_grid_upper))]) (wr := [(a_t, .inr (0, [.ref a_t_next, .int t_longRow, .int t_longColumn, .ref a_t_value])), (a_t_next_sum, .inr (3, [.long t_next_sum_upper, .long t_next_sum_lower, .int t_next_sum_isLong])), (a_p1, .inr (1, [.int p1_rows, .int p1_columns, .ref a_p1_upper, .ref a_p1_lower, .ref a_p1_sum])), (a_p1_lower, .inl (cI, 42, .inl p1_lower)), (a_p1_upper, .inl (cI, 42, .inl p1_upper)), (a_p2, .inr (7, [.ref a_p2_grid, .int p2_rank, .int p2_broken, .int p2_brokenRow, .int p2_brokenColumn, .ref a_p2_pivotRows, .ref a_p2_pivotColumns, .ref a_p2_fills, .ref a_p2_weights, .ref a_p2_factor, .int p2_liveRows, .int p2_liveColumns, .int p2_bestRow, .int p2_bestColumn]))]) (ci := 1) (q0 := 0) ⟨hx, hb, hml, hown, hts⟩ (MX1_copy l D cI cJ cB cZ cG cS _ a_t_next a_p2_grid a_t_next_upper a_t_next_lower a_t_next_sum a_p2_grid_upper a_p2_grid_lower a_p2_grid_sum t_next_rows t_next_columns t_next_lower t_next_upper p2_grid_rows p2_grid_columns p2_grid_lower p2_grid_upper u_1.1 u_1.2.1 u_1.2.2.1 u_1.2.2.2 hcu_1) (cwV 1 hts gX0_takeSwept_X1_copy rfl rfl rfl (by decide +kernel) ⟨Nat.le_of_ble_eq_true rfl, Nat.le_of_ble_eq_true rfl⟩) hK hN hP hD hS hA [1, 2, 4, 9, 10, 11] [0, 3, 5, 6, 7, 8] [0, 6, 7, 1, 8, 2, 3, 4, 5, 9, 10, 11] rfl (by decide) rfl (by decide) (by decide) rfl (by decide) rfl rfl rfl hl.1 rfl (Nat.le_of_ble_eq_true rfl) dX0_takeSwept_28 ⟨Nat.zero_le _, Nat.zero_le _⟩ (fun H locs hP hD hS => ?_)
    refine lv_aload_n hx hb dX0_takeSwept_31 rfl (lv_at hl 0 rfl) ?_
    refine va_get (D := D) (ci := 0) (v := .ref a_t_next) (C := RX0) (T := TX0) (N := 4) hx hb hts inX0_takeSwept_X0 hown hK hP 0 rfl rfl 0 (by decide) (hts (.fieldLink RX0 12 "RowPivots$Acts" "next" "LRowPivots$Grid;") (List.mem_of_getElem? (i := 4) rfl)) (fun _ h9 => h9) rfl dX0_takeSwept_32 ?_
    refine lv_aload_n hx hb dX0_takeSwept_35 rfl (lv_at hl 1 rfl) ?_
    obtain ⟨u_2, hcu_2, hf⟩ := bdS hf
    refine kVi (As := [.ref a_p1]) (rest := []) (w2 := [(a_t, .inr (0, [.ref a_t_next, .int t_longRow, .int t_longColumn, .ref a_t_value])), (a_t_next, .inr (1, [.int u_1.1, .int u_1.2.1, .ref a_t_next_upper, .ref a_t_next_lower, .ref a_t_next_sum])), (a_t_next_lower, .inl (cI, 42, .inl u_1.2.2.1)), (a_t_next_sum, .inr (3, [.long u_2.2.1, .long u_2.2.2.1, .int u_2.2.2.2])), (a_t_next_upper, .inl (cI, 42, .inl u_1.2.2.2)), (a_p1, .inr (1, [.int p1_rows, .int p1_columns, .ref a_p1_upper, .ref a_p1_lower, .ref a_p1_sum])), (a_p1_lower, .inl (cI, 42, .inl p1_lower)), (a_p1_upper, .inl (cI, 42, .inl p1_upper)), (a_p2, .inr (7, [.ref a_p2_grid, .int p2_rank, .int p2_broken, .int p2_brokenRow, .int p2_brokenColumn, .ref a_p2_pivotRows, .ref a_p2_pivotColumns, .ref a_p2_fills, .ref a_p2_weights, .ref a_p2_factor, .int p2_liveRows, .int p2_liveColumns, .int p2_bestRow, .int p2_bestColumn])), (a_p2_grid, .inr (1, [.int p2_grid_rows, .int p2_grid_columns, .ref a_p2_grid_upper, .ref a_p2_grid_lower, .ref a_p2_grid_sum])), (a_p2_grid_lower, .inl (cI, 42, .inl p2_grid_lower)), (a_p2_grid_upper, .inl (cI, 42, .inl p2_grid_upper))]) (wr := [(a_t, .inr (0, [.ref a_t_next, .int t_longRow, .int t_longColumn, .ref a_t_value])), (a_p2, .inr (7, [.ref a_p2_grid, .int p2_rank, .int p2_broken, .int p2_brokenRow, .int p2_brokenColumn, .ref a_p2_pivotRows, .ref a_p2_pivotColumns, .ref a_p2_fills, .ref a_p2_weights, .ref a_p2_factor, .int p2_liveRows, .int p2_liveColumns, .int p2_bestRow, .int p2_bestColumn])), (a_p2_grid, .inr (1, [.int p2_grid_rows, .int p2_grid_columns, .ref a_p2_grid_upper, .ref a_p2_grid_lower, .ref a_p2_grid_sum])), (a_p2_grid_lower, .inl (cI, 42, .inl p2_grid_lower)), (a_p2_grid_upper, .inl (cI, 42, .inl p2_grid_upper))]) (ci := 1) (q0 := 0) ⟨hx, hb, hml, hown, hts⟩ (MX1_isSame l D cI cJ cB cZ cG cS _ a_t_next a_p1 a_t_next_upper a_t_next_lower a_t_next_sum a_p1_upper a_p1_lower a_p1_sum u_1.1 u_1.2.1 u_1.2.2.1 t_next_sum_upper t_next_sum_lower t_next_sum_isLong u_1.2.2.2 p1_rows p1_columns p1_lower p1_upper u_2.1 u_2.2.1 u_2.2.2.1 u_2.2.2.2 hcu_2) (cwV 1 hts gX0_takeSwept_X1_isSame rfl rfl rfl (by decide +kernel) ⟨Nat.le_of_ble_eq_true rfl, Nat.le_of_ble_eq_true rfl⟩) hK hN hP hD hS hA [1, 2, 3, 4, 5, 6, 7] [0, 8, 9, 10, 11] [0, 5, 6, 7, 8, 9, 10, 11, 1, 2, 3, 4] rfl (by decide) rfl (by decide) (by decide) rfl (by decide) rfl rfl rfl hl.1 rfl (Nat.le_of_ble_eq_true rfl) dX0_takeSwept_36 ⟨Nat.zero_le _, Nat.zero_le _⟩ (fun H locs hP hD hS => ?_)
    refine lv_if_eq (tgt := 46) hx hb dX0_takeSwept_39 (by decide) (fun hc_39 => ?_) (fun hc_39 => ?_)
    · have hf := ifP hc_39 hf
      refine lv_iconst (v := 0) hx hb dX0_takeSwept_46 (by decide) ?_
      have hf : (some (0, t_longRow, t_longColumn, u_1.1, u_1.2.1, u_1.2.2.1, u_2.2.1, u_2.2.2.1, u_2.2.2.2, u_1.2.2.2) : Option (Int32 × Int32 × Int32 × Int32 × Int32 × (Nat → Int32) × Int64 × Int64 × Int32 × (Nat → Int32))) = some (z_r, z_t_longRow, z_t_longColumn, z_t_next_rows, z_t_next_columns, z_t_next_lower, z_t_next_sum_upper, z_t_next_sum_lower, z_t_next_sum_isLong, z_t_next_upper) := hf
      cases hf
      exact cRi hx hb hr hlk hP hD hS rfl dX0_takeSwept_47
    · have hf := ifN hc_39 hf
      refine lv_iconst (v := 2) hx hb dX0_takeSwept_42 (by decide) ?_
      refine lv_goto (tgt := 47) hx hb dX0_takeSwept_43 (by decide) ?_
      have hf : (some (2, t_longRow, t_longColumn, u_1.1, u_1.2.1, u_1.2.2.1, u_2.2.1, u_2.2.2.1, u_2.2.2.2, u_1.2.2.2) : Option (Int32 × Int32 × Int32 × Int32 × Int32 × (Nat → Int32) × Int64 × Int64 × Int32 × (Nat → Int32))) = some (z_r, z_t_longRow, z_t_longColumn, z_t_next_rows, z_t_next_columns, z_t_next_lower, z_t_next_sum_upper, z_t_next_sum_lower, z_t_next_sum_isLong, z_t_next_upper) := hf
      cases hf
      exact cRi hx hb hr hlk hP hD hS rfl dX0_takeSwept_47
  · have hf := ifN hc_4 hf
    refine lv_aload_n hx hb dX0_takeSwept_7 rfl (lv_at hl 0 rfl) ?_
    refine lv_aload_n hx hb dX0_takeSwept_8 rfl (lv_at hl 2 rfl) ?_
    refine va_get (D := D) (ci := 7) (v := .int p2_brokenRow) (C := RX7) (T := TX7) (N := 14) hx hb hts inX0_takeSwept_X7 hown hK hP 8 rfl rfl 3 (by decide) (hts (.fieldLink RX0 95 "RowPivots$Sweep" "brokenRow" "I") (List.mem_of_getElem? (i := 2) rfl)) (fun _ h9 => h9) rfl dX0_takeSwept_9 ?_
    refine lv_aload_n hx hb dX0_takeSwept_12 rfl (lv_at hl 2 rfl) ?_
    refine va_get (D := D) (ci := 7) (v := .int p2_brokenColumn) (C := RX7) (T := TX7) (N := 14) hx hb hts inX0_takeSwept_X7 hown hK hP 8 rfl rfl 4 (by decide) (hts (.fieldLink RX0 98 "RowPivots$Sweep" "brokenColumn" "I") (List.mem_of_getElem? (i := 3) rfl)) (fun _ h9 => h9) rfl dX0_takeSwept_13 ?_
    obtain ⟨u_3, hcu_3, hf⟩ := bdS hf
    refine kVi (As := [.int p2_brokenRow, .int p2_brokenColumn]) (rest := []) (w2 := [(a_t, .inr (0, [.ref a_t_next, .int u_3.2.1, .int u_3.2.2, .ref a_t_value])), (a_t_next, .inr (1, [.int t_next_rows, .int t_next_columns, .ref a_t_next_upper, .ref a_t_next_lower, .ref a_t_next_sum])), (a_t_next_lower, .inl (cI, 42, .inl t_next_lower)), (a_t_next_sum, .inr (3, [.long t_next_sum_upper, .long t_next_sum_lower, .int t_next_sum_isLong])), (a_t_next_upper, .inl (cI, 42, .inl t_next_upper)), (a_p1, .inr (1, [.int p1_rows, .int p1_columns, .ref a_p1_upper, .ref a_p1_lower, .ref a_p1_sum])), (a_p1_lower, .inl (cI, 42, .inl p1_lower)), (a_p1_upper, .inl (cI, 42, .inl p1_upper)), (a_p2, .inr (7, [.ref a_p2_grid, .int p2_rank, .int p2_broken, .int p2_brokenRow, .int p2_brokenColumn, .ref a_p2_pivotRows, .ref a_p2_pivotColumns, .ref a_p2_fills, .ref a_p2_weights, .ref a_p2_factor, .int p2_liveRows, .int p2_liveColumns, .int p2_bestRow, .int p2_bestColumn])), (a_p2_grid, .inr (1, [.int p2_grid_rows, .int p2_grid_columns, .ref a_p2_grid_upper, .ref a_p2_grid_lower, .ref a_p2_grid_sum])), (a_p2_grid_lower, .inl (cI, 42, .inl p2_grid_lower)), (a_p2_grid_upper, .inl (cI, 42, .inl p2_grid_upper))]) (wr := [(a_t_next, .inr (1, [.int t_next_rows, .int t_next_columns, .ref a_t_next_upper, .ref a_t_next_lower, .ref a_t_next_sum])), (a_t_next_lower, .inl (cI, 42, .inl t_next_lower)), (a_t_next_sum, .inr (3, [.long t_next_sum_upper, .long t_next_sum_lower, .int t_next_sum_isLong])), (a_t_next_upper, .inl (cI, 42, .inl t_next_upper)), (a_p1, .inr (1, [.int p1_rows, .int p1_columns, .ref a_p1_upper, .ref a_p1_lower, .ref a_p1_sum])), (a_p1_lower, .inl (cI, 42, .inl p1_lower)), (a_p1_upper, .inl (cI, 42, .inl p1_upper)), (a_p2, .inr (7, [.ref a_p2_grid, .int p2_rank, .int p2_broken, .int p2_brokenRow, .int p2_brokenColumn, .ref a_p2_pivotRows, .ref a_p2_pivotColumns, .ref a_p2_fills, .ref a_p2_weights, .ref a_p2_factor, .int p2_liveRows, .int p2_liveColumns, .int p2_bestRow, .int p2_bestColumn])), (a_p2_grid, .inr (1, [.int p2_grid_rows, .int p2_grid_columns, .ref a_p2_grid_upper, .ref a_p2_grid_lower, .ref a_p2_grid_sum])), (a_p2_grid_lower, .inl (cI, 42, .inl p2_grid_lower)), (a_p2_grid_upper, .inl (cI, 42, .inl p2_grid_upper))]) (ci := 0) (q0 := 0) ⟨hx, hb, hml, hown, hts⟩ (MX0_refuseLong l D cI cJ cB cZ cG cS _ a_t a_t_next a_t_value p2_brokenRow p2_brokenColumn t_longRow t_longColumn u_3.1 u_3.2.1 u_3.2.2 hcu_3) (cwV 2 hts gX0_takeSwept_X0_refuseLong rfl rfl rfl (by decide +kernel) ⟨Nat.le_of_ble_eq_true rfl, Nat.le_of_ble_eq_true rfl⟩) hK hN hP hD hS hA [0] [1, 2, 3, 4, 5, 6, 7, 8, 9, 10, 11] [11, 0, 1, 2, 3, 4, 5, 6, 7, 8, 9, 10] rfl (by decide) rfl (by decide) (by decide) rfl (by decide) rfl rfl rfl hl.1 rfl (Nat.le_of_ble_eq_true rfl) dX0_takeSwept_16 ⟨Nat.zero_le _, Nat.zero_le _⟩ (fun H locs hP hD hS => ?_)
    have hf : (some (u_3.1, u_3.2.1, u_3.2.2, t_next_rows, t_next_columns, t_next_lower, t_next_sum_upper, t_next_sum_lower, t_next_sum_isLong, t_next_upper) : Option (Int32 × Int32 × Int32 × Int32 × Int32 × (Nat → Int32) × Int64 × Int64 × Int32 × (Nat → Int32))) = some (z_r, z_t_longRow, z_t_longColumn, z_t_next_rows, z_t_next_columns, z_t_next_lower, z_t_next_sum_upper, z_t_next_sum_lower, z_t_next_sum_isLong, z_t_next_upper) := hf
    cases hf
    exact cRi hx hb hr hlk hP hD hS rfl dX0_takeSwept_19
def fJ7_fill_53178_5 (p1 : Int32) (n_p0 : Nat) (v3_5 : Int32) : Nat → Int32 → (Nat → Int32) → Option ((Nat → Int32))
  | 0, _, _ => none
  | n + 1, v2_5, p0_5 => if v3_5 ≤ v2_5 then (some (p0_5)) else (inB n_p0 v2_5 <| lt (upd p0_5 v2_5.toNatClampNeg p1) fun g_2 => (fJ7_fill_53178_5 p1 n_p0 v3_5 n) (v2_5 + 1) g_2)
theorem fJ7_fill_53178_5_s (p1 : Int32) (n_p0 : Nat) (v3_5 : Int32) (n : Nat) (v2_5 : Int32) (p0_5 : Nat → Int32) : fJ7_fill_53178_5 p1 n_p0 v3_5 (n + 1) v2_5 p0_5 = (if v3_5 ≤ v2_5 then (some (p0_5)) else (inB n_p0 v2_5 <| lt (upd p0_5 v2_5.toNatClampNeg p1) fun g_2 => (fJ7_fill_53178_5 p1 n_p0 v3_5 n) (v2_5 + 1) g_2)) := rfl
def fJ7_fill_53178 (p1 : Int32) (p0 : Nat → Int32) (n_p0 : Nat) : Option ((Nat → Int32)) :=
  lt (Int32.ofNat n_p0) fun x_1 => fJ7_fill_53178_5 p1 n_p0 x_1 fuelN 0 p0
set_option maxHeartbeats 4000000 in
set_option maxRecDepth 100000 in
theorem wJ7_fill_53178_5 {l : Launch} {D : va_G} {cI cJ cB cZ cG cS : ClassId} {p : Program} {e : Env} {s : State} {m : MethodId} {below : List Frame} {meth : Method} {c : Code} {A : Nat → Prop} (a_p0 : Nat) (z_p0 : Nat → Int32) (p1 : Int32) (p0 : Nat → Int32) (n_p0 : Nat) (v3_5 : Int32)  (X : Cx D (tyL cI cJ cB cZ cG cS) cJ7_fill_53178 4 none RJ7 wsJ7_fill_53178 [.ref a_p0, .int p1] p s m meth c A) : ∀ (n : Nat) (v2_5 : Int32) (p0_5 : Nat → Int32) (H : Heap) (locs : List Loc) (ls : Array Slot), fJ7_fill_53178_5 p1 n_p0 v3_5 n v2_5 p0_5 = some (z_p0) → va_P D vwCl [(a_p0, .inl (cI, n_p0, .inl p0_5))] H → va_D A [(a_p0, .inl (cI, n_p0, .inl p0_5))] → va_S A s.heap H locs → lv_has ls 4 [(0, .ref a_p0), (1, .int p1), (2, .int v2_5), (3, .int v3_5)] → W p l e { frames := 0, cells := 0, slots := 0, locals := 0 } s m ([.ref a_p0, .int p1] : List Value).toArray below meth c H locs 0 0 (MQ below (cQv D A [(a_p0, .inl (cI, n_p0, .inl z_p0))]) ([.ref a_p0, .int p1] : List Value).toArray s 0 0 A) (F0 m 5 ls []) := by
  obtain ⟨hx, hb, hr, hlk, hml, hown, hts, hK, hN, hA⟩ := id X
  intro n
  induction n with
  | zero =>
    intro v2_5 p0_5 H locs ls hf
    have hf : (none : Option ((Nat → Int32))) = some (z_p0) := hf
    cases hf
  | succ n ih =>
    intro v2_5 p0_5 H locs ls hf hP hD hS hl
    rw [fJ7_fill_53178_5_s] at hf
    refine lv_iload_n hx hb dJ7_fill_53178_5 rfl (lv_at hl 2 rfl) ?_
    refine lv_iload_n hx hb dJ7_fill_53178_6 rfl (lv_at hl 3 rfl) ?_
    refine lv_icmp_ge (tgt := 20) hx hb dJ7_fill_53178_7 (by decide) (fun hc_7 => ?_) (fun hc_7 => ?_)
    · have hf := ifP hc_7 hf
      have hf : (some (p0_5) : Option ((Nat → Int32))) = some (z_p0) := hf
      cases hf
      exact cRv hx hb hr hlk hP hD hS dJ7_fill_53178_20
    · have hf := ifN hc_7 hf
      refine lv_aload_n hx hb dJ7_fill_53178_10 rfl (lv_at hl 0 rfl) ?_
      refine lv_iload_n hx hb dJ7_fill_53178_11 rfl (lv_at hl 2 rfl) ?_
      refine lv_iload_n hx hb dJ7_fill_53178_12 rfl (lv_at hl 1 rfl) ?_
      obtain ⟨hi_13, hf⟩ := inB_b hf
      refine va_iast (x := p1) hx hb hK hP hD hS 0 0 rfl rfl hi_13 dJ7_fill_53178_13 (fun H locs hP hD hS => ?_)
      obtain ⟨g_2, eg_2, hP, hD⟩ : ∃ g_2 : Nat → Int32, g_2 = upd p0_5 v2_5.toNatClampNeg p1 ∧ va_P D vwCl [(a_p0, .inl (cI, n_p0, .inl g_2))] H ∧ va_D A [(a_p0, .inl (cI, n_p0, .inl g_2))] := ⟨_, rfl, hP, hD⟩
      have hf := lt_b eg_2 hf
      refine lv_iinc (v := (v2_5 + 1)) (lv' := [(2, .int (v2_5 + 1)), (0, .ref a_p0), (1, .int p1), (3, .int v3_5)]) hx hb dJ7_fill_53178_14 hl (k := 2) rfl rfl (by decide) rfl (fun ls hl => ?_)
      refine lv_goto (tgt := 5) hx hb dJ7_fill_53178_17 (by decide) ?_
      exact ih (v2_5 + 1) g_2 _ _ _ hf hP hD hS (lv_sub hl [1, 2, 0, 3] rfl)
set_option maxHeartbeats 4000000 in
set_option maxRecDepth 100000 in
theorem MJ7_fill_53178 (l : Launch) (D : va_G) (cI cJ cB cZ cG cS : ClassId) (sz : Nat) (a_p0 : Nat) (p1 : Int32) (p0 : Nat → Int32) (n_p0 : Nat) (z_p0 : Nat → Int32) (hf : fJ7_fill_53178 p1 p0 n_p0 = some (z_p0)) : Met l yJ7_fill_53178 wsJ7_fill_53178 { frames := 0, cells := 0, slots := 0, locals := 0 } (cP D (tyL cI cJ cB cZ cG cS) [.ref a_p0, .int p1] sz [(a_p0, .inl (cI, n_p0, .inl p0))]) (cQv D (va_A [(a_p0, .inl (cI, n_p0, .inl p0))] sz) [(a_p0, .inl (cI, n_p0, .inl z_p0))]) 0 0 (va_A [(a_p0, .inl (cI, n_p0, .inl p0))] sz) := by
  refine cM (Qc := fun A => cQv D A [(a_p0, .inl (cI, n_p0, .inl z_p0))]) RJ7 (by decide) rfl rfl (Nat.le_of_ble_eq_true rfl) ?_
  intro p e s m below meth c A ls hx hb hr hlk hml hown hts hK hN hP hD hS hA hl
  have X : Cx D (tyL cI cJ cB cZ cG cS) cJ7_fill_53178 4 none RJ7 wsJ7_fill_53178 [.ref a_p0, .int p1] p s m meth c A := ⟨hx, hb, hr, hlk, hml, hown, hts, hK, hN, hA⟩
  have hl : lv_has ls 4 [(0, .ref a_p0), (1, .int p1)] := hl
  unfold fJ7_fill_53178 at hf
  refine lv_iconst (v := 0) hx hb dJ7_fill_53178_0 (by decide) ?_
  refine lv_istore_n (lv' := [(2, .int 0), (0, .ref a_p0), (1, .int p1)]) hx hb dJ7_fill_53178_1 rfl hl (by decide) rfl (fun ls hl => ?_)
  refine lv_aload_n hx hb dJ7_fill_53178_2 rfl (lv_at hl 1 rfl) ?_
  refine va_alen (v := (Int32.ofNat n_p0)) hx hb hK hP 0 0 rfl rfl rfl dJ7_fill_53178_3 ?_
  refine lv_topi (fun x_1 ex_1 => ?_)
  have hf := lt_b ex_1 hf
  refine lv_istore_n (lv' := [(3, .int x_1), (2, .int 0), (0, .ref a_p0), (1, .int p1)]) hx hb dJ7_fill_53178_4 rfl hl (by decide) rfl (fun ls hl => ?_)
  exact wJ7_fill_53178_5 a_p0 z_p0 p1 p0 n_p0 x_1 X  fuelN 0 p0 _ _ _ hf hP hD hS (lv_sub hl [2, 3, 1, 0] rfl)
theorem inX1_clear_X1 : ∀ w ∈ wsX10, w ∈ wsX1_clear := fun _ h => List.mem_cons_of_mem _ (List.mem_append_right _ h)
def fX1_clear (p1 : Int32) (p2 : Int32) (t_lower : Nat → Int32) (t_upper : Nat → Int32) : Option (Int32 × Int32 × (Nat → Int32) × (Nat → Int32)) :=
  (fJ7_fill_53178 0 t_upper 42).bind fun u_1 => (fJ7_fill_53178 1 t_lower 42).bind fun u_2 => some (p1, p2, u_2, u_1)
set_option maxHeartbeats 4000000 in
set_option maxRecDepth 100000 in
theorem MX1_clear (l : Launch) (D : va_G) (cI cJ cB cZ cG cS : ClassId) (sz : Nat) (a_t : Nat) (a_t_upper : Nat) (a_t_lower : Nat) (a_t_sum : Nat) (p1 : Int32) (p2 : Int32) (t_rows : Int32) (t_columns : Int32) (t_lower : Nat → Int32) (t_upper : Nat → Int32) (z_t_rows : Int32) (z_t_columns : Int32) (z_t_lower : Nat → Int32) (z_t_upper : Nat → Int32) (hf : fX1_clear p1 p2 t_lower t_upper = some (z_t_rows, z_t_columns, z_t_lower, z_t_upper)) : Met l yX1_clear wsX1_clear { frames := 1, cells := 0, slots := 0, locals := 23 } (cP D (tyL cI cJ cB cZ cG cS) [.ref a_t, .int p1, .int p2] sz [(a_t, .inr (1, [.int t_rows, .int t_columns, .ref a_t_upper, .ref a_t_lower, .ref a_t_sum])), (a_t_lower, .inl (cI, 42, .inl t_lower)), (a_t_upper, .inl (cI, 42, .inl t_upper))]) (cQv D (va_A [(a_t, .inr (1, [.int t_rows, .int t_columns, .ref a_t_upper, .ref a_t_lower, .ref a_t_sum])), (a_t_lower, .inl (cI, 42, .inl t_lower)), (a_t_upper, .inl (cI, 42, .inl t_upper))] sz) [(a_t, .inr (1, [.int z_t_rows, .int z_t_columns, .ref a_t_upper, .ref a_t_lower, .ref a_t_sum])), (a_t_lower, .inl (cI, 42, .inl z_t_lower)), (a_t_upper, .inl (cI, 42, .inl z_t_upper))]) 0 0 (va_A [(a_t, .inr (1, [.int t_rows, .int t_columns, .ref a_t_upper, .ref a_t_lower, .ref a_t_sum])), (a_t_lower, .inl (cI, 42, .inl t_lower)), (a_t_upper, .inl (cI, 42, .inl t_upper))] sz) := by
  refine cM (Qc := fun A => cQv D A [(a_t, .inr (1, [.int z_t_rows, .int z_t_columns, .ref a_t_upper, .ref a_t_lower, .ref a_t_sum])), (a_t_lower, .inl (cI, 42, .inl z_t_lower)), (a_t_upper, .inl (cI, 42, .inl z_t_upper))]) RX1 (by decide) rfl rfl (Nat.le_of_ble_eq_true rfl) ?_
  intro p e s m below meth c A ls hx hb hr hlk hml hown hts hK hN hP hD hS hA hl
  have X : Cx D (tyL cI cJ cB cZ cG cS) cX1_clear 3 none RX1 wsX1_clear [.ref a_t, .int p1, .int p2] p s m meth c A := ⟨hx, hb, hr, hlk, hml, hown, hts, hK, hN, hA⟩
  have hl : lv_has ls 3 [(0, .ref a_t), (1, .int p1), (2, .int p2)] := hl
  unfold fX1_clear at hf
  refine lv_aload_n hx hb dX1_clear_0 rfl (lv_at hl 0 rfl) ?_
  refine lv_iload_n hx hb dX1_clear_1 rfl (lv_at hl 1 rfl) ?_
  refine va_put (D := D) (ci := 1) (v := .int p1) (ty := .int) (C := RX1) (T := TX1) (N := 5) hx hb hts inX1_clear_X1 tyX1 tyX1_ok nmX1 hown hK hP hD hS 0 rfl rfl 0 (by decide) (hts (.fieldLink RX1 9 "RowPivots$Grid" "rows" "I") (List.mem_of_getElem? (i := 1) rfl)) (fun _ h9 => h9) rfl (by decide +kernel) rfl rfl (Nat.le_of_ble_eq_true rfl) dX1_clear_2 (fun H locs hP hD hS => ?_)
  have hP : va_P D vwCl [(a_t, .inr (1, [.int p1, .int t_columns, .ref a_t_upper, .ref a_t_lower, .ref a_t_sum])), (a_t_lower, .inl (cI, 42, .inl t_lower)), (a_t_upper, .inl (cI, 42, .inl t_upper))] H := hP
  have hD : va_D A [(a_t, .inr (1, [.int p1, .int t_columns, .ref a_t_upper, .ref a_t_lower, .ref a_t_sum])), (a_t_lower, .inl (cI, 42, .inl t_lower)), (a_t_upper, .inl (cI, 42, .inl t_upper))] := hD
  refine lv_aload_n hx hb dX1_clear_5 rfl (lv_at hl 0 rfl) ?_
  refine lv_iload_n hx hb dX1_clear_6 rfl (lv_at hl 2 rfl) ?_
  refine va_put (D := D) (ci := 1) (v := .int p2) (ty := .int) (C := RX1) (T := TX1) (N := 5) hx hb hts inX1_clear_X1 tyX1 tyX1_ok nmX1 hown hK hP hD hS 0 rfl rfl 1 (by decide) (hts (.fieldLink RX1 15 "RowPivots$Grid" "columns" "I") (List.mem_of_getElem? (i := 2) rfl)) (fun _ h9 => h9) rfl (by decide +kernel) rfl rfl (Nat.le_of_ble_eq_true rfl) dX1_clear_7 (fun H locs hP hD hS => ?_)
  have hP : va_P D vwCl [(a_t, .inr (1, [.int p1, .int p2, .ref a_t_upper, .ref a_t_lower, .ref a_t_sum])), (a_t_lower, .inl (cI, 42, .inl t_lower)), (a_t_upper, .inl (cI, 42, .inl t_upper))] H := hP
  have hD : va_D A [(a_t, .inr (1, [.int p1, .int p2, .ref a_t_upper, .ref a_t_lower, .ref a_t_sum])), (a_t_lower, .inl (cI, 42, .inl t_lower)), (a_t_upper, .inl (cI, 42, .inl t_upper))] := hD
  refine lv_aload_n hx hb dX1_clear_10 rfl (lv_at hl 0 rfl) ?_
  refine va_get (D := D) (ci := 1) (v := .ref a_t_upper) (C := RX1) (T := TX1) (N := 5) hx hb hts inX1_clear_X1 hown hK hP 0 rfl rfl 2 (by decide) (hts (.fieldLink RX1 18 "RowPivots$Grid" "upper" "[I") (List.mem_of_getElem? (i := 3) rfl)) (fun _ h9 => h9) rfl dX1_clear_11 ?_
  refine lv_iconst (v := 0) hx hb dX1_clear_14 (by decide) ?_
  obtain ⟨u_1, hcu_1, hf⟩ := bdS hf
  refine kSv (As := [.ref a_t_upper, .int 0]) (rest := []) (w2 := [(a_t, .inr (1, [.int p1, .int p2, .ref a_t_upper, .ref a_t_lower, .ref a_t_sum])), (a_t_lower, .inl (cI, 42, .inl t_lower)), (a_t_upper, .inl (cI, 42, .inl u_1))]) (wr := [(a_t, .inr (1, [.int p1, .int p2, .ref a_t_upper, .ref a_t_lower, .ref a_t_sum])), (a_t_lower, .inl (cI, 42, .inl t_lower))]) ⟨hx, hb, hml, hown, hts⟩ (MJ7_fill_53178 l D cI cJ cB cZ cG cS _ a_t_upper 0 t_upper 42 u_1 hcu_1) (va_cwS 2 hts gX1_clear_J7_fill_53178 rfl rfl rfl (by decide +kernel) ⟨Nat.le_of_ble_eq_true rfl, Nat.le_of_ble_eq_true rfl⟩) hK hN hP hD hS hA [2] [0, 1] [0, 1, 2] rfl (by decide) rfl (by decide) (by decide) rfl (by decide) rfl hl.1 rfl (Nat.le_of_ble_eq_true rfl) dX1_clear_15 ⟨Nat.zero_le _, Nat.zero_le _⟩ (fun H locs hP hD hS => ?_)
  refine lv_aload_n hx hb dX1_clear_18 rfl (lv_at hl 0 rfl) ?_
  refine va_get (D := D) (ci := 1) (v := .ref a_t_lower) (C := RX1) (T := TX1) (N := 5) hx hb hts inX1_clear_X1 hown hK hP 0 rfl rfl 3 (by decide) (hts (.fieldLink RX1 22 "RowPivots$Grid" "lower" "[I") (List.mem_of_getElem? (i := 4) rfl)) (fun _ h9 => h9) rfl dX1_clear_19 ?_
  refine lv_iconst (v := 1) hx hb dX1_clear_22 (by decide) ?_
  obtain ⟨u_2, hcu_2, hf⟩ := bdS hf
  refine kSv (As := [.ref a_t_lower, .int 1]) (rest := []) (w2 := [(a_t, .inr (1, [.int p1, .int p2, .ref a_t_upper, .ref a_t_lower, .ref a_t_sum])), (a_t_lower, .inl (cI, 42, .inl u_2)), (a_t_upper, .inl (cI, 42, .inl u_1))]) (wr := [(a_t, .inr (1, [.int p1, .int p2, .ref a_t_upper, .ref a_t_lower, .ref a_t_sum])), (a_t_upper, .inl (cI, 42, .inl u_1))]) ⟨hx, hb, hml, hown, hts⟩ (MJ7_fill_53178 l D cI cJ cB cZ cG cS _ a_t_lower 1 t_lower 42 u_2 hcu_2) (va_cwS 2 hts gX1_clear_J7_fill_53178 rfl rfl rfl (by decide +kernel) ⟨Nat.le_of_ble_eq_true rfl, Nat.le_of_ble_eq_true rfl⟩) hK hN hP hD hS hA [1] [0, 2] [0, 2, 1] rfl (by decide) rfl (by decide) (by decide) rfl (by decide) rfl hl.1 rfl (Nat.le_of_ble_eq_true rfl) dX1_clear_23 ⟨Nat.zero_le _, Nat.zero_le _⟩ (fun H locs hP hD hS => ?_)
  have hf : (some (p1, p2, u_2, u_1) : Option (Int32 × Int32 × (Nat → Int32) × (Nat → Int32))) = some (z_t_rows, z_t_columns, z_t_lower, z_t_upper) := hf
  cases hf
  exact cRv hx hb hr hlk hP hD hS dX1_clear_26
theorem inX1_copyWithout_X1 : ∀ w ∈ wsX10, w ∈ wsX1_copyWithout := fun _ h => List.mem_cons_of_mem _ (List.mem_append_left _ (List.mem_append_right _ h))
def fX1_copyWithout_96 (v4_19 : Int32) (rec_19 : Int32 → (Nat → Int32) → Int64 → Int64 → Int32 → (Nat → Int32) → Option (Int32 × Int32 × (Nat → Int32) × Int64 × Int64 × Int32 × (Nat → Int32))) (t_lower_96 : Nat → Int32) (t_sum_upper_96 : Int64) (t_sum_lower_96 : Int64) (t_sum_isLong_96 : Int32) (t_upper_96 : Nat → Int32) : Option (Int32 × Int32 × (Nat → Int32) × Int64 × Int64 × Int32 × (Nat → Int32)) :=
  rec_19 (v4_19 + 1) t_lower_96 t_sum_upper_96 t_sum_lower_96 t_sum_isLong_96 t_upper_96
def fX1_copyWithout_75 (p1_lower : Nat → Int32) (p1_upper : Nat → Int32) (v4_19 : Int32) (v5_31 : Int32) (t_lower_31 : Nat → Int32) (t_upper_31 : Nat → Int32) (rec_31 : Int32 → (Nat → Int32) → Int64 → Int64 → Int32 → (Nat → Int32) → Option (Int32 × Int32 × (Nat → Int32) × Int64 × Int64 × Int32 × (Nat → Int32))) (st0_75 : Int32) (st1_75 : Int32) : Option (Int32 × Int32 × (Nat → Int32) × Int64 × Int64 × Int32 × (Nat → Int32)) :=
  (fX3_load st1_75 st0_75 p1_lower p1_upper).bind fun u_2 => (fX1_put v4_19 v5_31 t_lower_31 t_upper_31 u_2.1 u_2.2.1).bind fun u_3 => rec_31 (v5_31 + 1) u_3.1 u_2.1 u_2.2.1 u_2.2.2 u_3.2
def fX1_copyWithout_31 (p2 : Int32) (p3 : Int32) (p1_lower : Nat → Int32) (p1_upper : Nat → Int32) (v4_19 : Int32) (t_columns_19 : Int32) (rec_19 : Int32 → (Nat → Int32) → Int64 → Int64 → Int32 → (Nat → Int32) → Option (Int32 × Int32 × (Nat → Int32) × Int64 × Int64 × Int32 × (Nat → Int32))) : Nat → Int32 → (Nat → Int32) → Int64 → Int64 → Int32 → (Nat → Int32) → Option (Int32 × Int32 × (Nat → Int32) × Int64 × Int64 × Int32 × (Nat → Int32))
  | 0, _, _, _, _, _, _ => none
  | n + 1, v5_31, t_lower_31, t_sum_upper_31, t_sum_lower_31, t_sum_isLong_31, t_upper_31 => if t_columns_19 ≤ v5_31 then (fX1_copyWithout_96 v4_19 rec_19 t_lower_31 t_sum_upper_31 t_sum_lower_31 t_sum_isLong_31 t_upper_31) else (if p2 ≤ v4_19 then (if p3 ≤ v5_31 then (fX1_copyWithout_75 p1_lower p1_upper v4_19 v5_31 t_lower_31 t_upper_31 (fX1_copyWithout_31 p2 p3 p1_lower p1_upper v4_19 t_columns_19 rec_19 n) (v5_31 + 1) (v4_19 + 1)) else (fX1_copyWithout_75 p1_lower p1_upper v4_19 v5_31 t_lower_31 t_upper_31 (fX1_copyWithout_31 p2 p3 p1_lower p1_upper v4_19 t_columns_19 rec_19 n) v5_31 (v4_19 + 1))) else (if p3 ≤ v5_31 then (fX1_copyWithout_75 p1_lower p1_upper v4_19 v5_31 t_lower_31 t_upper_31 (fX1_copyWithout_31 p2 p3 p1_lower p1_upper v4_19 t_columns_19 rec_19 n) (v5_31 + 1) v4_19) else (fX1_copyWithout_75 p1_lower p1_upper v4_19 v5_31 t_lower_31 t_upper_31 (fX1_copyWithout_31 p2 p3 p1_lower p1_upper v4_19 t_columns_19 rec_19 n) v5_31 v4_19)))
theorem fX1_copyWithout_31_s (p2 : Int32) (p3 : Int32) (p1_lower : Nat → Int32) (p1_upper : Nat → Int32) (v4_19 : Int32) (t_columns_19 : Int32) (rec_19 : Int32 → (Nat → Int32) → Int64 → Int64 → Int32 → (Nat → Int32) → Option (Int32 × Int32 × (Nat → Int32) × Int64 × Int64 × Int32 × (Nat → Int32))) (n : Nat) (v5_31 : Int32) (t_lower_31 : Nat → Int32) (t_sum_upper_31 : Int64) (t_sum_lower_31 : Int64) (t_sum_isLong_31 : Int32) (t_upper_31 : Nat → Int32) : fX1_copyWithout_31 p2 p3 p1_lower p1_upper v4_19 t_columns_19 rec_19 (n + 1) v5_31 t_lower_31 t_sum_upper_31 t_sum_lower_31 t_sum_isLong_31 t_upper_31 = (if t_columns_19 ≤ v5_31 then (fX1_copyWithout_96 v4_19 rec_19 t_lower_31 t_sum_upper_31 t_sum_lower_31 t_sum_isLong_31 t_upper_31) else (if p2 ≤ v4_19 then (if p3 ≤ v5_31 then (fX1_copyWithout_75 p1_lower p1_upper v4_19 v5_31 t_lower_31 t_upper_31 (fX1_copyWithout_31 p2 p3 p1_lower p1_upper v4_19 t_columns_19 rec_19 n) (v5_31 + 1) (v4_19 + 1)) else (fX1_copyWithout_75 p1_lower p1_upper v4_19 v5_31 t_lower_31 t_upper_31 (fX1_copyWithout_31 p2 p3 p1_lower p1_upper v4_19 t_columns_19 rec_19 n) v5_31 (v4_19 + 1))) else (if p3 ≤ v5_31 then (fX1_copyWithout_75 p1_lower p1_upper v4_19 v5_31 t_lower_31 t_upper_31 (fX1_copyWithout_31 p2 p3 p1_lower p1_upper v4_19 t_columns_19 rec_19 n) (v5_31 + 1) v4_19) else (fX1_copyWithout_75 p1_lower p1_upper v4_19 v5_31 t_lower_31 t_upper_31 (fX1_copyWithout_31 p2 p3 p1_lower p1_upper v4_19 t_columns_19 rec_19 n) v5_31 v4_19)))) := rfl
def fX1_copyWithout_19 (p2 : Int32) (p3 : Int32) (p1_lower : Nat → Int32) (p1_upper : Nat → Int32) (t_rows_19 : Int32) (t_columns_19 : Int32) : Nat → Int32 → (Nat → Int32) → Int64 → Int64 → Int32 → (Nat → Int32) → Option (Int32 × Int32 × (Nat → Int32) × Int64 × Int64 × Int32 × (Nat → Int32))
  | 0, _, _, _, _, _, _ => none
  | n + 1, v4_19, t_lower_19, t_sum_upper_19, t_sum_lower_19, t_sum_isLong_19, t_upper_19 => if t_rows_19 ≤ v4_19 then (some (t_rows_19, t_columns_19, t_lower_19, t_sum_upper_19, t_sum_lower_19, t_sum_isLong_19, t_upper_19)) else (fX1_copyWithout_31 p2 p3 p1_lower p1_upper v4_19 t_columns_19 (fX1_copyWithout_19 p2 p3 p1_lower p1_upper t_rows_19 t_columns_19 n) fuelN 0 t_lower_19 t_sum_upper_19 t_sum_lower_19 t_sum_isLong_19 t_upper_19)
theorem fX1_copyWithout_19_s (p2 : Int32) (p3 : Int32) (p1_lower : Nat → Int32) (p1_upper : Nat → Int32) (t_rows_19 : Int32) (t_columns_19 : Int32) (n : Nat) (v4_19 : Int32) (t_lower_19 : Nat → Int32) (t_sum_upper_19 : Int64) (t_sum_lower_19 : Int64) (t_sum_isLong_19 : Int32) (t_upper_19 : Nat → Int32) : fX1_copyWithout_19 p2 p3 p1_lower p1_upper t_rows_19 t_columns_19 (n + 1) v4_19 t_lower_19 t_sum_upper_19 t_sum_lower_19 t_sum_isLong_19 t_upper_19 = (if t_rows_19 ≤ v4_19 then (some (t_rows_19, t_columns_19, t_lower_19, t_sum_upper_19, t_sum_lower_19, t_sum_isLong_19, t_upper_19)) else (fX1_copyWithout_31 p2 p3 p1_lower p1_upper v4_19 t_columns_19 (fX1_copyWithout_19 p2 p3 p1_lower p1_upper t_rows_19 t_columns_19 n) fuelN 0 t_lower_19 t_sum_upper_19 t_sum_lower_19 t_sum_isLong_19 t_upper_19)) := rfl
def fX1_copyWithout (p2 : Int32) (p3 : Int32) (t_lower : Nat → Int32) (t_sum_upper : Int64) (t_sum_lower : Int64) (t_sum_isLong : Int32) (t_upper : Nat → Int32) (p1_rows : Int32) (p1_columns : Int32) (p1_lower : Nat → Int32) (p1_upper : Nat → Int32) : Option (Int32 × Int32 × (Nat → Int32) × Int64 × Int64 × Int32 × (Nat → Int32)) :=
  (fX1_clear (p1_rows - 1) (p1_columns - 1) t_lower t_upper).bind fun u_1 => fX1_copyWithout_19 p2 p3 p1_lower p1_upper u_1.1 u_1.2.1 fuelN 0 u_1.2.2.1 t_sum_upper t_sum_lower t_sum_isLong u_1.2.2.2
set_option maxHeartbeats 4000000 in
set_option maxRecDepth 100000 in
theorem wX1_copyWithout_96 {l : Launch} {D : va_G} {cI cJ cB cZ cG cS : ClassId} {p : Program} {e : Env} {s : State} {m : MethodId} {below : List Frame} {meth : Method} {c : Code} {A : Nat → Prop} (a_t : Nat) (a_p1 : Nat) (a_t_upper : Nat) (a_t_lower : Nat) (a_t_sum : Nat) (a_p1_upper : Nat) (a_p1_lower : Nat) (a_p1_sum : Nat) (z_t_rows : Int32) (z_t_columns : Int32) (z_t_lower : Nat → Int32) (z_t_sum_upper : Int64) (z_t_sum_lower : Int64) (z_t_sum_isLong : Int32) (z_t_upper : Nat → Int32) (p2 : Int32) (p3 : Int32) (t_rows : Int32) (t_columns : Int32) (t_lower : Nat → Int32) (t_sum_upper : Int64) (t_sum_lower : Int64) (t_sum_isLong : Int32) (t_upper : Nat → Int32) (p1_rows : Int32) (p1_columns : Int32) (p1_lower : Nat → Int32) (p1_upper : Nat → Int32) (t_rows_19 : Int32) (t_columns_19 : Int32) (v4_19 : Int32) (t_lower_19 : Nat → Int32) (t_sum_upper_19 : Int64) (t_sum_lower_19 : Int64) (t_sum_isLong_19 : Int32) (t_upper_19 : Nat → Int32) (t_lower_96 : Nat → Int32) (t_sum_upper_96 : Int64) (t_sum_lower_96 : Int64) (t_sum_isLong_96 : Int32) (t_upper_96 : Nat → Int32)  (X : Cx D (tyL cI cJ cB cZ cG cS) cX1_copyWithout 6 none RX1 wsX1_copyWithout [.ref a_t, .ref a_p1, .int p2, .int p3] p s m meth c A) (rec_19 : Int32 → (Nat → Int32) → Int64 → Int64 → Int32 → (Nat → Int32) → Option (Int32 × Int32 × (Nat → Int32) × Int64 × Int64 × Int32 × (Nat → Int32))) (hrec_19 : ∀ (v4_19 : Int32) (t_lower_19 : Nat → Int32) (t_sum_upper_19 : Int64) (t_sum_lower_19 : Int64) (t_sum_isLong_19 : Int32) (t_upper_19 : Nat → Int32) (H : Heap) (locs : List Loc) (ls : Array Slot), rec_19 v4_19 t_lower_19 t_sum_upper_19 t_sum_lower_19 t_sum_isLong_19 t_upper_19 = some (z_t_rows, z_t_columns, z_t_lower, z_t_sum_upper, z_t_sum_lower, z_t_sum_isLong, z_t_upper) → va_P D vwCl [(a_t, .inr (1, [.int t_rows_19, .int t_columns_19, .ref a_t_upper, .ref a_t_lower, .ref a_t_sum])), (a_t_lower, .inl (cI, 42, .inl t_lower_19)), (a_t_sum, .inr (3, [.long t_sum_upper_19, .long t_sum_lower_19, .int t_sum_isLong_19])), (a_t_upper, .inl (cI, 42, .inl t_upper_19)), (a_p1, .inr (1, [.int p1_rows, .int p1_columns, .ref a_p1_upper, .ref a_p1_lower, .ref a_p1_sum])), (a_p1_lower, .inl (cI, 42, .inl p1_lower)), (a_p1_upper, .inl (cI, 42, .inl p1_upper))] H → va_D A [(a_t, .inr (1, [.int t_rows_19, .int t_columns_19, .ref a_t_upper, .ref a_t_lower, .ref a_t_sum])), (a_t_lower, .inl (cI, 42, .inl t_lower_19)), (a_t_sum, .inr (3, [.long t_sum_upper_19, .long t_sum_lower_19, .int t_sum_isLong_19])), (a_t_upper, .inl (cI, 42, .inl t_upper_19)), (a_p1, .inr (1, [.int p1_rows, .int p1_columns, .ref a_p1_upper, .ref a_p1_lower, .ref a_p1_sum])), (a_p1_lower, .inl (cI, 42, .inl p1_lower)), (a_p1_upper, .inl (cI, 42, .inl p1_upper))] → va_S A s.heap H locs → lv_has ls 6 [(0, .ref a_t), (1, .ref a_p1), (2, .int p2), (3, .int p3), (4, .int v4_19)] → W p l e { frames := 2, cells := 0, slots := 0, locals := 46 } s m ([.ref a_t, .ref a_p1, .int p2, .int p3] : List Value).toArray below meth c H locs 0 0 (MQ below (cQv D A [(a_t, .inr (1, [.int z_t_rows, .int z_t_columns, .ref a_t_upper, .ref a_t_lower, .ref a_t_sum])), (a_t_lower, .inl (cI, 42, .inl z_t_lower)), (a_t_sum, .inr (3, [.long z_t_sum_upper, .long z_t_sum_lower, .int z_t_sum_isLong])), (a_t_upper, .inl (cI, 42, .inl z_t_upper)), (a_p1, .inr (1, [.int p1_rows, .int p1_columns, .ref a_p1_upper, .ref a_p1_lower, .ref a_p1_sum])), (a_p1_lower, .inl (cI, 42, .inl p1_lower)), (a_p1_upper, .inl (cI, 42, .inl p1_upper))]) ([.ref a_t, .ref a_p1, .int p2, .int p3] : List Value).toArray s 0 0 A) (F0 m 19 ls [])) : ∀ (H : Heap) (locs : List Loc) (ls : Array Slot), fX1_copyWithout_96 v4_19 rec_19 t_lower_96 t_sum_upper_96 t_sum_lower_96 t_sum_isLong_96 t_upper_96 = some (z_t_rows, z_t_columns, z_t_lower, z_t_sum_upper, z_t_sum_lower, z_t_sum_isLong, z_t_upper) → va_P D vwCl [(a_t, .inr (1, [.int t_rows_19, .int t_columns_19, .ref a_t_upper, .ref a_t_lower, .ref a_t_sum])), (a_t_lower, .inl (cI, 42, .inl t_lower_96)), (a_t_sum, .inr (3, [.long t_sum_upper_96, .long t_sum_lower_96, .int t_sum_isLong_96])), (a_t_upper, .inl (cI, 42, .inl t_upper_96)), (a_p1, .inr (1, [.int p1_rows, .int p1_columns, .ref a_p1_upper, .ref a_p1_lower, .ref a_p1_sum])), (a_p1_lower, .inl (cI, 42, .inl p1_lower)), (a_p1_upper, .inl (cI, 42, .inl p1_upper))] H → va_D A [(a_t, .inr (1, [.int t_rows_19, .int t_columns_19, .ref a_t_upper, .ref a_t_lower, .ref a_t_sum])), (a_t_lower, .inl (cI, 42, .inl t_lower_96)), (a_t_sum, .inr (3, [.long t_sum_upper_96, .long t_sum_lower_96, .int t_sum_isLong_96])), (a_t_upper, .inl (cI, 42, .inl t_upper_96)), (a_p1, .inr (1, [.int p1_rows, .int p1_columns, .ref a_p1_upper, .ref a_p1_lower, .ref a_p1_sum])), (a_p1_lower, .inl (cI, 42, .inl p1_lower)), (a_p1_upper, .inl (cI, 42, .inl p1_upper))] → va_S A s.heap H locs → lv_has ls 6 [(0, .ref a_t), (1, .ref a_p1), (2, .int p2), (3, .int p3), (4, .int v4_19)] → W p l e { frames := 2, cells := 0, slots := 0, locals := 46 } s m ([.ref a_t, .ref a_p1, .int p2, .int p3] : List Value).toArray below meth c H locs 0 0 (MQ below (cQv D A [(a_t, .inr (1, [.int z_t_rows, .int z_t_columns, .ref a_t_upper, .ref a_t_lower, .ref a_t_sum])), (a_t_lower, .inl (cI, 42, .inl z_t_lower)), (a_t_sum, .inr (3, [.long z_t_sum_upper, .long z_t_sum_lower, .int z_t_sum_isLong])), (a_t_upper, .inl (cI, 42, .inl z_t_upper)), (a_p1, .inr (1, [.int p1_rows, .int p1_columns, .ref a_p1_upper, .ref a_p1_lower, .ref a_p1_sum])), (a_p1_lower, .inl (cI, 42, .inl p1_lower)), (a_p1_upper, .inl (cI, 42, .inl p1_upper))]) ([.ref a_t, .ref a_p1, .int p2, .int p3] : List Value).toArray s 0 0 A) (F0 m 96 ls []) := by
  obtain ⟨hx, hb, hr, hlk, hml, hown, hts, hK, hN, hA⟩ := id X
  intro H locs ls hf hP hD hS hl
  unfold fX1_copyWithout_96 at hf
  refine lv_iinc (v := (v4_19 + 1)) (lv' := [(4, .int (v4_19 + 1)), (0, .ref a_t), (1, .ref a_p1), (2, .int p2), (3, .int p3)]) hx hb dX1_copyWithout_96 hl (k := 4) rfl rfl (by decide) rfl (fun ls hl => ?_)
  refine lv_goto (tgt := 19) hx hb dX1_copyWithout_99 (by decide) ?_
  exact hrec_19 (v4_19 + 1) t_lower_96 t_sum_upper_96 t_sum_lower_96 t_sum_isLong_96 t_upper_96 _ _ _ hf hP hD hS (lv_sub hl [1, 2, 3, 4, 0] rfl)
set_option maxHeartbeats 4000000 in
set_option maxRecDepth 100000 in
theorem wX1_copyWithout_75 {l : Launch} {D : va_G} {cI cJ cB cZ cG cS : ClassId} {p : Program} {e : Env} {s : State} {m : MethodId} {below : List Frame} {meth : Method} {c : Code} {A : Nat → Prop} (a_t : Nat) (a_p1 : Nat) (a_t_upper : Nat) (a_t_lower : Nat) (a_t_sum : Nat) (a_p1_upper : Nat) (a_p1_lower : Nat) (a_p1_sum : Nat) (z_t_rows : Int32) (z_t_columns : Int32) (z_t_lower : Nat → Int32) (z_t_sum_upper : Int64) (z_t_sum_lower : Int64) (z_t_sum_isLong : Int32) (z_t_upper : Nat → Int32) (p2 : Int32) (p3 : Int32) (t_rows : Int32) (t_columns : Int32) (t_lower : Nat → Int32) (t_sum_upper : Int64) (t_sum_lower : Int64) (t_sum_isLong : Int32) (t_upper : Nat → Int32) (p1_rows : Int32) (p1_columns : Int32) (p1_lower : Nat → Int32) (p1_upper : Nat → Int32) (t_rows_19 : Int32) (t_columns_19 : Int32) (v4_19 : Int32) (t_lower_19 : Nat → Int32) (t_sum_upper_19 : Int64) (t_sum_lower_19 : Int64) (t_sum_isLong_19 : Int32) (t_upper_19 : Nat → Int32) (v5_31 : Int32) (t_lower_31 : Nat → Int32) (t_sum_upper_31 : Int64) (t_sum_lower_31 : Int64) (t_sum_isLong_31 : Int32) (t_upper_31 : Nat → Int32) (st0_75 : Int32) (st1_75 : Int32)  (X : Cx D (tyL cI cJ cB cZ cG cS) cX1_copyWithout 6 none RX1 wsX1_copyWithout [.ref a_t, .ref a_p1, .int p2, .int p3] p s m meth c A) (rec_19 : Int32 → (Nat → Int32) → Int64 → Int64 → Int32 → (Nat → Int32) → Option (Int32 × Int32 × (Nat → Int32) × Int64 × Int64 × Int32 × (Nat → Int32))) (hrec_19 : ∀ (v4_19 : Int32) (t_lower_19 : Nat → Int32) (t_sum_upper_19 : Int64) (t_sum_lower_19 : Int64) (t_sum_isLong_19 : Int32) (t_upper_19 : Nat → Int32) (H : Heap) (locs : List Loc) (ls : Array Slot), rec_19 v4_19 t_lower_19 t_sum_upper_19 t_sum_lower_19 t_sum_isLong_19 t_upper_19 = some (z_t_rows, z_t_columns, z_t_lower, z_t_sum_upper, z_t_sum_lower, z_t_sum_isLong, z_t_upper) → va_P D vwCl [(a_t, .inr (1, [.int t_rows_19, .int t_columns_19, .ref a_t_upper, .ref a_t_lower, .ref a_t_sum])), (a_t_lower, .inl (cI, 42, .inl t_lower_19)), (a_t_sum, .inr (3, [.long t_sum_upper_19, .long t_sum_lower_19, .int t_sum_isLong_19])), (a_t_upper, .inl (cI, 42, .inl t_upper_19)), (a_p1, .inr (1, [.int p1_rows, .int p1_columns, .ref a_p1_upper, .ref a_p1_lower, .ref a_p1_sum])), (a_p1_lower, .inl (cI, 42, .inl p1_lower)), (a_p1_upper, .inl (cI, 42, .inl p1_upper))] H → va_D A [(a_t, .inr (1, [.int t_rows_19, .int t_columns_19, .ref a_t_upper, .ref a_t_lower, .ref a_t_sum])), (a_t_lower, .inl (cI, 42, .inl t_lower_19)), (a_t_sum, .inr (3, [.long t_sum_upper_19, .long t_sum_lower_19, .int t_sum_isLong_19])), (a_t_upper, .inl (cI, 42, .inl t_upper_19)), (a_p1, .inr (1, [.int p1_rows, .int p1_columns, .ref a_p1_upper, .ref a_p1_lower, .ref a_p1_sum])), (a_p1_lower, .inl (cI, 42, .inl p1_lower)), (a_p1_upper, .inl (cI, 42, .inl p1_upper))] → va_S A s.heap H locs → lv_has ls 6 [(0, .ref a_t), (1, .ref a_p1), (2, .int p2), (3, .int p3), (4, .int v4_19)] → W p l e { frames := 2, cells := 0, slots := 0, locals := 46 } s m ([.ref a_t, .ref a_p1, .int p2, .int p3] : List Value).toArray below meth c H locs 0 0 (MQ below (cQv D A [(a_t, .inr (1, [.int z_t_rows, .int z_t_columns, .ref a_t_upper, .ref a_t_lower, .ref a_t_sum])), (a_t_lower, .inl (cI, 42, .inl z_t_lower)), (a_t_sum, .inr (3, [.long z_t_sum_upper, .long z_t_sum_lower, .int z_t_sum_isLong])), (a_t_upper, .inl (cI, 42, .inl z_t_upper)), (a_p1, .inr (1, [.int p1_rows, .int p1_columns, .ref a_p1_upper, .ref a_p1_lower, .ref a_p1_sum])), (a_p1_lower, .inl (cI, 42, .inl p1_lower)), (a_p1_upper, .inl (cI, 42, .inl p1_upper))]) ([.ref a_t, .ref a_p1, .int p2, .int p3] : List Value).toArray s 0 0 A) (F0 m 19 ls [])) (rec_31 : Int32 → (Nat → Int32) → Int64 → Int64 → Int32 → (Nat → Int32) → Option (Int32 × Int32 × (Nat → Int32) × Int64 × Int64 × Int32 × (Nat → Int32))) (hrec_31 : ∀ (v5_31 : Int32) (t_lower_31 : Nat → Int32) (t_sum_upper_31 : Int64) (t_sum_lower_31 : Int64) (t_sum_isLong_31 : Int32) (t_upper_31 : Nat → Int32) (H : Heap) (locs : List Loc) (ls : Array Slot), rec_31 v5_31 t_lower_31 t_sum_upper_31 t_sum_lower_31 t_sum_isLong_31 t_upper_31 = some (z_t_rows, z_t_columns, z_t_lower, z_t_sum_upper, z_t_sum_lower, z_t_sum_isLong, z_t_upper) → va_P D vwCl [(a_t, .inr (1, [.int t_rows_19, .int t_columns_19, .ref a_t_upper, .ref a_t_lower, .ref a_t_sum])), (a_t_lower, .inl (cI, 42, .inl t_lower_31)), (a_t_sum, .inr (3, [.long t_sum_upper_31, .long t_sum_lower_31, .int t_sum_isLong_31])), (a_t_upper, .inl (cI, 42, .inl t_upper_31)), (a_p1, .inr (1, [.int p1_rows, .int p1_columns, .ref a_p1_upper, .ref a_p1_lower, .ref a_p1_sum])), (a_p1_lower, .inl (cI, 42, .inl p1_lower)), (a_p1_upper, .inl (cI, 42, .inl p1_upper))] H → va_D A [(a_t, .inr (1, [.int t_rows_19, .int t_columns_19, .ref a_t_upper, .ref a_t_lower, .ref a_t_sum])), (a_t_lower, .inl (cI, 42, .inl t_lower_31)), (a_t_sum, .inr (3, [.long t_sum_upper_31, .long t_sum_lower_31, .int t_sum_isLong_31])), (a_t_upper, .inl (cI, 42, .inl t_upper_31)), (a_p1, .inr (1, [.int p1_rows, .int p1_columns, .ref a_p1_upper, .ref a_p1_lower, .ref a_p1_sum])), (a_p1_lower, .inl (cI, 42, .inl p1_lower)), (a_p1_upper, .inl (cI, 42, .inl p1_upper))] → va_S A s.heap H locs → lv_has ls 6 [(0, .ref a_t), (1, .ref a_p1), (2, .int p2), (3, .int p3), (4, .int v4_19), (5, .int v5_31)] → W p l e { frames := 2, cells := 0, slots := 0, locals := 46 } s m ([.ref a_t, .ref a_p1, .int p2, .int p3] : List Value).toArray below meth c H locs 0 0 (MQ below (cQv D A [(a_t, .inr (1, [.int z_t_rows, .int z_t_columns, .ref a_t_upper, .ref a_t_lower, .ref a_t_sum])), (a_t_lower, .inl (cI, 42, .inl z_t_lower)), (a_t_sum, .inr (3, [.long z_t_sum_upper, .long z_t_sum_lower, .int z_t_sum_isLong])), (a_t_upper, .inl (cI, 42, .inl z_t_upper)), (a_p1, .inr (1, [.int p1_rows, .int p1_columns, .ref a_p1_upper, .ref a_p1_lower, .ref a_p1_sum])), (a_p1_lower, .inl (cI, 42, .inl p1_lower)), (a_p1_upper, .inl (cI, 42, .inl p1_upper))]) ([.ref a_t, .ref a_p1, .int p2, .int p3] : List Value).toArray s 0 0 A) (F0 m 31 ls [])) : ∀ (H : Heap) (locs : List Loc) (ls : Array Slot), fX1_copyWithout_75 p1_lower p1_upper v4_19 v5_31 t_lower_31 t_upper_31 rec_31 st0_75 st1_75 = some (z_t_rows, z_t_columns, z_t_lower, z_t_sum_upper, z_t_sum_lower, z_t_sum_isLong, z_t_upper) → va_P D vwCl [(a_t, .inr (1, [.int t_rows_19, .int t_columns_19, .ref a_t_upper, .ref a_t_lower, .ref a_t_sum])), (a_t_lower, .inl (cI, 42, .inl t_lower_31)), (a_t_sum, .inr (3, [.long t_sum_upper_31, .long t_sum_lower_31, .int t_sum_isLong_31])), (a_t_upper, .inl (cI, 42, .inl t_upper_31)), (a_p1, .inr (1, [.int p1_rows, .int p1_columns, .ref a_p1_upper, .ref a_p1_lower, .ref a_p1_sum])), (a_p1_lower, .inl (cI, 42, .inl p1_lower)), (a_p1_upper, .inl (cI, 42, .inl p1_upper))] H → va_D A [(a_t, .inr (1, [.int t_rows_19, .int t_columns_19, .ref a_t_upper, .ref a_t_lower, .ref a_t_sum])), (a_t_lower, .inl (cI, 42, .inl t_lower_31)), (a_t_sum, .inr (3, [.long t_sum_upper_31, .long t_sum_lower_31, .int t_sum_isLong_31])), (a_t_upper, .inl (cI, 42, .inl t_upper_31)), (a_p1, .inr (1, [.int p1_rows, .int p1_columns, .ref a_p1_upper, .ref a_p1_lower, .ref a_p1_sum])), (a_p1_lower, .inl (cI, 42, .inl p1_lower)), (a_p1_upper, .inl (cI, 42, .inl p1_upper))] → va_S A s.heap H locs → lv_has ls 6 [(0, .ref a_t), (1, .ref a_p1), (2, .int p2), (3, .int p3), (4, .int v4_19), (5, .int v5_31)] → W p l e { frames := 2, cells := 0, slots := 0, locals := 46 } s m ([.ref a_t, .ref a_p1, .int p2, .int p3] : List Value).toArray below meth c H locs 0 0 (MQ below (cQv D A [(a_t, .inr (1, [.int z_t_rows, .int z_t_columns, .ref a_t_upper, .ref a_t_lower, .ref a_t_sum])), (a_t_lower, .inl (cI, 42, .inl z_t_lower)), (a_t_sum, .inr (3, [.long z_t_sum_upper, .long z_t_sum_lower, .int z_t_sum_isLong])), (a_t_upper, .inl (cI, 42, .inl z_t_upper)), (a_p1, .inr (1, [.int p1_rows, .int p1_columns, .ref a_p1_upper, .ref a_p1_lower, .ref a_p1_sum])), (a_p1_lower, .inl (cI, 42, .inl p1_lower)), (a_p1_upper, .inl (cI, 42, .inl p1_upper))]) ([.ref a_t, .ref a_p1, .int p2, .int p3] : List Value).toArray s 0 0 A) (F0 m 75 ls [.int st0_75, .int st1_75, .ref a_p1, .ref a_t_sum]) := by
  obtain ⟨hx, hb, hr, hlk, hml, hown, hts, hK, hN, hA⟩ := id X
  intro H locs ls hf hP hD hS hl
  unfold fX1_copyWithout_75 at hf
  obtain ⟨u_2, hcu_2, hf⟩ := bdS hf
  refine kVv (As := [.ref a_p1, .int st1_75, .int st0_75]) (rest := []) (w2 := [(a_t, .inr (1, [.int t_rows_19, .int t_columns_19, .ref a_t_upper, .ref a_t_lower, .ref a_t_sum])), (a_t_lower, .inl (cI, 42, .inl t_lower_31)), (a_t_sum, .inr (3, [.long u_2.1, .long u_2.2.1, .int u_2.2.2])), (a_t_upper, .inl (cI, 42, .inl t_upper_31)), (a_p1, .inr (1, [.int p1_rows, .int p1_columns, .ref a_p1_upper, .ref a_p1_lower, .ref a_p1_sum])), (a_p1_lower, .inl (cI, 42, .inl p1_lower)), (a_p1_upper, .inl (cI, 42, .inl p1_upper))]) (wr := [(a_t, .inr (1, [.int t_rows_19, .int t_columns_19, .ref a_t_upper, .ref a_t_lower, .ref a_t_sum])), (a_t_lower, .inl (cI, 42, .inl t_lower_31)), (a_t_upper, .inl (cI, 42, .inl t_upper_31))]) (ci := 3) (q0 := 0) ⟨hx, hb, hml, hown, hts⟩ (MX3_load l D cI cJ cB cZ cG cS _ a_t_sum a_p1 a_p1_upper a_p1_lower a_p1_sum st1_75 st0_75 t_sum_upper_31 t_sum_lower_31 t_sum_isLong_31 p1_rows p1_columns p1_lower p1_upper u_2.1 u_2.2.1 u_2.2.2 hcu_2) (cwV 3 hts gX1_copyWithout_X3_load rfl rfl rfl (by decide +kernel) ⟨Nat.le_of_ble_eq_true rfl, Nat.le_of_ble_eq_true rfl⟩) hK hN hP hD hS hA [2, 4, 5, 6] [0, 1, 3] [0, 1, 3, 2, 4, 5, 6] rfl (by decide) rfl (by decide) (by decide) rfl (by decide) rfl rfl rfl hl.1 rfl (Nat.le_of_ble_eq_true rfl) dX1_copyWithout_75 ⟨Nat.zero_le _, Nat.zero_le _⟩ (fun H locs hP hD hS => ?_)
  refine lv_aload_n hx hb dX1_copyWithout_78 rfl (lv_at hl 0 rfl) ?_
  refine lv_iload hx hb dX1_copyWithout_79 (lv_at hl 4 rfl) ?_
  refine lv_iload hx hb dX1_copyWithout_81 (lv_at hl 5 rfl) ?_
  refine lv_aload_n hx hb dX1_copyWithout_83 rfl (lv_at hl 0 rfl) ?_
  refine va_get (D := D) (ci := 1) (v := .ref a_t_sum) (C := RX1) (T := TX1) (N := 5) hx hb hts inX1_copyWithout_X1 hown hK hP 0 rfl rfl 4 (by decide) (hts (.fieldLink RX1 28 "RowPivots$Grid" "sum" "LRowPivots$Ratio;") (List.mem_of_getElem? (i := 3) rfl)) (fun _ h9 => h9) rfl dX1_copyWithout_84 ?_
  obtain ⟨u_3, hcu_3, hf⟩ := bdS hf
  refine kVv (As := [.int v4_19, .int v5_31, .ref a_t_sum]) (rest := []) (w2 := [(a_t, .inr (1, [.int t_rows_19, .int t_columns_19, .ref a_t_upper, .ref a_t_lower, .ref a_t_sum])), (a_t_lower, .inl (cI, 42, .inl u_3.1)), (a_t_sum, .inr (3, [.long u_2.1, .long u_2.2.1, .int u_2.2.2])), (a_t_upper, .inl (cI, 42, .inl u_3.2)), (a_p1, .inr (1, [.int p1_rows, .int p1_columns, .ref a_p1_upper, .ref a_p1_lower, .ref a_p1_sum])), (a_p1_lower, .inl (cI, 42, .inl p1_lower)), (a_p1_upper, .inl (cI, 42, .inl p1_upper))]) (wr := [(a_p1, .inr (1, [.int p1_rows, .int p1_columns, .ref a_p1_upper, .ref a_p1_lower, .ref a_p1_sum])), (a_p1_lower, .inl (cI, 42, .inl p1_lower)), (a_p1_upper, .inl (cI, 42, .inl p1_upper))]) (ci := 1) (q0 := 0) ⟨hx, hb, hml, hown, hts⟩ (MX1_put l D cI cJ cB cZ cG cS _ a_t a_t_sum a_t_upper a_t_lower a_t_sum v4_19 v5_31 t_rows_19 t_columns_19 t_lower_31 t_upper_31 u_2.1 u_2.2.1 u_2.2.2 u_3.1 u_3.2 hcu_3) (cwV 3 hts gX1_copyWithout_X1_put rfl rfl rfl (by decide +kernel) ⟨Nat.le_of_ble_eq_true rfl, Nat.le_of_ble_eq_true rfl⟩) hK hN hP hD hS hA [0, 1, 3, 2] [4, 5, 6] [3, 4, 6, 5, 0, 1, 2] rfl (by decide) rfl (by decide) (by decide) rfl (by decide) rfl rfl rfl hl.1 rfl (Nat.le_of_ble_eq_true rfl) dX1_copyWithout_87 ⟨Nat.zero_le _, Nat.zero_le _⟩ (fun H locs hP hD hS => ?_)
  refine lv_iinc (v := (v5_31 + 1)) (lv' := [(5, .int (v5_31 + 1)), (0, .ref a_t), (1, .ref a_p1), (2, .int p2), (3, .int p3), (4, .int v4_19)]) hx hb dX1_copyWithout_90 hl (k := 5) rfl rfl (by decide) rfl (fun ls hl => ?_)
  refine lv_goto (tgt := 31) hx hb dX1_copyWithout_93 (by decide) ?_
  exact hrec_31 (v5_31 + 1) u_3.1 u_2.1 u_2.2.1 u_2.2.2 u_3.2 _ _ _ hf hP hD hS (lv_sub hl [1, 2, 3, 4, 5, 0] rfl)
set_option maxHeartbeats 4000000 in
set_option maxRecDepth 100000 in
theorem wX1_copyWithout_31 {l : Launch} {D : va_G} {cI cJ cB cZ cG cS : ClassId} {p : Program} {e : Env} {s : State} {m : MethodId} {below : List Frame} {meth : Method} {c : Code} {A : Nat → Prop} (a_t : Nat) (a_p1 : Nat) (a_t_upper : Nat) (a_t_lower : Nat) (a_t_sum : Nat) (a_p1_upper : Nat) (a_p1_lower : Nat) (a_p1_sum : Nat) (z_t_rows : Int32) (z_t_columns : Int32) (z_t_lower : Nat → Int32) (z_t_sum_upper : Int64) (z_t_sum_lower : Int64) (z_t_sum_isLong : Int32) (z_t_upper : Nat → Int32) (p2 : Int32) (p3 : Int32) (t_rows : Int32) (t_columns : Int32) (t_lower : Nat → Int32) (t_sum_upper : Int64) (t_sum_lower : Int64) (t_sum_isLong : Int32) (t_upper : Nat → Int32) (p1_rows : Int32) (p1_columns : Int32) (p1_lower : Nat → Int32) (p1_upper : Nat → Int32) (t_rows_19 : Int32) (t_columns_19 : Int32) (v4_19 : Int32) (t_lower_19 : Nat → Int32) (t_sum_upper_19 : Int64) (t_sum_lower_19 : Int64) (t_sum_isLong_19 : Int32) (t_upper_19 : Nat → Int32)  (X : Cx D (tyL cI cJ cB cZ cG cS) cX1_copyWithout 6 none RX1 wsX1_copyWithout [.ref a_t, .ref a_p1, .int p2, .int p3] p s m meth c A) (rec_19 : Int32 → (Nat → Int32) → Int64 → Int64 → Int32 → (Nat → Int32) → Option (Int32 × Int32 × (Nat → Int32) × Int64 × Int64 × Int32 × (Nat → Int32))) (hrec_19 : ∀ (v4_19 : Int32) (t_lower_19 : Nat → Int32) (t_sum_upper_19 : Int64) (t_sum_lower_19 : Int64) (t_sum_isLong_19 : Int32) (t_upper_19 : Nat → Int32) (H : Heap) (locs : List Loc) (ls : Array Slot), rec_19 v4_19 t_lower_19 t_sum_upper_19 t_sum_lower_19 t_sum_isLong_19 t_upper_19 = some (z_t_rows, z_t_columns, z_t_lower, z_t_sum_upper, z_t_sum_lower, z_t_sum_isLong, z_t_upper) → va_P D vwCl [(a_t, .inr (1, [.int t_rows_19, .int t_columns_19, .ref a_t_upper, .ref a_t_lower, .ref a_t_sum])), (a_t_lower, .inl (cI, 42, .inl t_lower_19)), (a_t_sum, .inr (3, [.long t_sum_upper_19, .long t_sum_lower_19, .int t_sum_isLong_19])), (a_t_upper, .inl (cI, 42, .inl t_upper_19)), (a_p1, .inr (1, [.int p1_rows, .int p1_columns, .ref a_p1_upper, .ref a_p1_lower, .ref a_p1_sum])), (a_p1_lower, .inl (cI, 42, .inl p1_lower)), (a_p1_upper, .inl (cI, 42, .inl p1_upper))] H → va_D A [(a_t, .inr (1, [.int t_rows_19, .int t_columns_19, .ref a_t_upper, .ref a_t_lower, .ref a_t_sum])), (a_t_lower, .inl (cI, 42, .inl t_lower_19)), (a_t_sum, .inr (3, [.long t_sum_upper_19, .long t_sum_lower_19, .int t_sum_isLong_19])), (a_t_upper, .inl (cI, 42, .inl t_upper_19)), (a_p1, .inr (1, [.int p1_rows, .int p1_columns, .ref a_p1_upper, .ref a_p1_lower, .ref a_p1_sum])), (a_p1_lower, .inl (cI, 42, .inl p1_lower)), (a_p1_upper, .inl (cI, 42, .inl p1_upper))] → va_S A s.heap H locs → lv_has ls 6 [(0, .ref a_t), (1, .ref a_p1), (2, .int p2), (3, .int p3), (4, .int v4_19)] → W p l e { frames := 2, cells := 0, slots := 0, locals := 46 } s m ([.ref a_t, .ref a_p1, .int p2, .int p3] : List Value).toArray below meth c H locs 0 0 (MQ below (cQv D A [(a_t, .inr (1, [.int z_t_rows, .int z_t_columns, .ref a_t_upper, .ref a_t_lower, .ref a_t_sum])), (a_t_lower, .inl (cI, 42, .inl z_t_lower)), (a_t_sum, .inr (3, [.long z_t_sum_upper, .long z_t_sum_lower, .int z_t_sum_isLong])), (a_t_upper, .inl (cI, 42, .inl z_t_upper)), (a_p1, .inr (1, [.int p1_rows, .int p1_columns, .ref a_p1_upper, .ref a_p1_lower, .ref a_p1_sum])), (a_p1_lower, .inl (cI, 42, .inl p1_lower)), (a_p1_upper, .inl (cI, 42, .inl p1_upper))]) ([.ref a_t, .ref a_p1, .int p2, .int p3] : List Value).toArray s 0 0 A) (F0 m 19 ls [])) : ∀ (n : Nat) (v5_31 : Int32) (t_lower_31 : Nat → Int32) (t_sum_upper_31 : Int64) (t_sum_lower_31 : Int64) (t_sum_isLong_31 : Int32) (t_upper_31 : Nat → Int32) (H : Heap) (locs : List Loc) (ls : Array Slot), fX1_copyWithout_31 p2 p3 p1_lower p1_upper v4_19 t_columns_19 rec_19 n v5_31 t_lower_31 t_sum_upper_31 t_sum_lower_31 t_sum_isLong_31 t_upper_31 = some (z_t_rows, z_t_columns, z_t_lower, z_t_sum_upper, z_t_sum_lower, z_t_sum_isLong, z_t_upper) → va_P D vwCl [(a_t, .inr (1, [.int t_rows_19, .int t_columns_19, .ref a_t_upper, .ref a_t_lower, .ref a_t_sum])), (a_t_lower, .inl (cI, 42, .inl t_lower_31)), (a_t_sum, .inr (3, [.long t_sum_upper_31, .long t_sum_lower_31, .int t_sum_isLong_31])), (a_t_upper, .inl (cI, 42, .inl t_upper_31)), (a_p1, .inr (1, [.int p1_rows, .int p1_columns, .ref a_p1_upper, .ref a_p1_lower, .ref a_p1_sum])), (a_p1_lower, .inl (cI, 42, .inl p1_lower)), (a_p1_upper, .inl (cI, 42, .inl p1_upper))] H → va_D A [(a_t, .inr (1, [.int t_rows_19, .int t_columns_19, .ref a_t_upper, .ref a_t_lower, .ref a_t_sum])), (a_t_lower, .inl (cI, 42, .inl t_lower_31)), (a_t_sum, .inr (3, [.long t_sum_upper_31, .long t_sum_lower_31, .int t_sum_isLong_31])), (a_t_upper, .inl (cI, 42, .inl t_upper_31)), (a_p1, .inr (1, [.int p1_rows, .int p1_columns, .ref a_p1_upper, .ref a_p1_lower, .ref a_p1_sum])), (a_p1_lower, .inl (cI, 42, .inl p1_lower)), (a_p1_upper, .inl (cI, 42, .inl p1_upper))] → va_S A s.heap H locs → lv_has ls 6 [(0, .ref a_t), (1, .ref a_p1), (2, .int p2), (3, .int p3), (4, .int v4_19), (5, .int v5_31)] → W p l e { frames := 2, cells := 0, slots := 0, locals := 46 } s m ([.ref a_t, .ref a_p1, .int p2, .int p3] : List Value).toArray below meth c H locs 0 0 (MQ below (cQv D A [(a_t, .inr (1, [.int z_t_rows, .int z_t_columns, .ref a_t_upper, .ref a_t_lower, .ref a_t_sum])), (a_t_lower, .inl (cI, 42, .inl z_t_lower)), (a_t_sum, .inr (3, [.long z_t_sum_upper, .long z_t_sum_lower, .int z_t_sum_isLong])), (a_t_upper, .inl (cI, 42, .inl z_t_upper)), (a_p1, .inr (1, [.int p1_rows, .int p1_columns, .ref a_p1_upper, .ref a_p1_lower, .ref a_p1_sum])), (a_p1_lower, .inl (cI, 42, .inl p1_lower)), (a_p1_upper, .inl (cI, 42, .inl p1_upper))]) ([.ref a_t, .ref a_p1, .int p2, .int p3] : List Value).toArray s 0 0 A) (F0 m 31 ls []) := by
  obtain ⟨hx, hb, hr, hlk, hml, hown, hts, hK, hN, hA⟩ := id X
  intro n
  induction n with
  | zero =>
    intro v5_31 t_lower_31 t_sum_upper_31 t_sum_lower_31 t_sum_isLong_31 t_upper_31 H locs ls hf
    have hf : (none : Option (Int32 × Int32 × (Nat → Int32) × Int64 × Int64 × Int32 × (Nat → Int32))) = some (z_t_rows, z_t_columns, z_t_lower, z_t_sum_upper, z_t_sum_lower, z_t_sum_isLong, z_t_upper) := hf
    cases hf
  | succ n ih =>
    intro v5_31 t_lower_31 t_sum_upper_31 t_sum_lower_31 t_sum_isLong_31 t_upper_31 H locs ls hf hP hD hS hl
    rw [fX1_copyWithout_31_s] at hf
    refine lv_iload hx hb dX1_copyWithout_31 (lv_at hl 5 rfl) ?_
    refine lv_aload_n hx hb dX1_copyWithout_33 rfl (lv_at hl 0 rfl) ?_
    refine va_get (D := D) (ci := 1) (v := .int t_columns_19) (C := RX1) (T := TX1) (N := 5) hx hb hts inX1_copyWithout_X1 hown hK hP 0 rfl rfl 1 (by decide) (hts (.fieldLink RX1 15 "RowPivots$Grid" "columns" "I") (List.mem_of_getElem? (i := 2) rfl)) (fun _ h9 => h9) rfl dX1_copyWithout_34 ?_
    refine lv_icmp_ge (tgt := 96) hx hb dX1_copyWithout_37 (by decide) (fun hc_37 => ?_) (fun hc_37 => ?_)
    · have hf := ifP hc_37 hf
      exact wX1_copyWithout_96 a_t a_p1 a_t_upper a_t_lower a_t_sum a_p1_upper a_p1_lower a_p1_sum z_t_rows z_t_columns z_t_lower z_t_sum_upper z_t_sum_lower z_t_sum_isLong z_t_upper p2 p3 t_rows t_columns t_lower t_sum_upper t_sum_lower t_sum_isLong t_upper p1_rows p1_columns p1_lower p1_upper t_rows_19 t_columns_19 v4_19 t_lower_19 t_sum_upper_19 t_sum_lower_19 t_sum_isLong_19 t_upper_19 t_lower_31 t_sum_upper_31 t_sum_lower_31 t_sum_isLong_31 t_upper_31 X rec_19 hrec_19 _ _ _ hf hP hD hS (lv_sub hl [0, 1, 2, 3, 4] rfl)
    · have hf := ifN hc_37 hf
      refine lv_aload_n hx hb dX1_copyWithout_40 rfl (lv_at hl 0 rfl) ?_
      refine va_get (D := D) (ci := 1) (v := .ref a_t_sum) (C := RX1) (T := TX1) (N := 5) hx hb hts inX1_copyWithout_X1 hown hK hP 0 rfl rfl 4 (by decide) (hts (.fieldLink RX1 28 "RowPivots$Grid" "sum" "LRowPivots$Ratio;") (List.mem_of_getElem? (i := 3) rfl)) (fun _ h9 => h9) rfl dX1_copyWithout_41 ?_
      refine lv_aload_n hx hb dX1_copyWithout_44 rfl (lv_at hl 1 rfl) ?_
      refine lv_iload hx hb dX1_copyWithout_45 (lv_at hl 4 rfl) ?_
      refine lv_iload_n hx hb dX1_copyWithout_47 rfl (lv_at hl 2 rfl) ?_
      refine lv_icmp_ge (tgt := 56) hx hb dX1_copyWithout_48 (by decide) (fun hc_48 => ?_) (fun hc_48 => ?_)
      · have hf := ifP hc_48 hf
        refine lv_iload hx hb dX1_copyWithout_56 (lv_at hl 4 rfl) ?_
        refine lv_iconst (v := 1) hx hb dX1_copyWithout_58 (by decide) ?_
        refine lv_iadd hx hb dX1_copyWithout_59 ?_
        refine lv_iload hx hb dX1_copyWithout_60 (lv_at hl 5 rfl) ?_
        refine lv_iload_n hx hb dX1_copyWithout_62 rfl (lv_at hl 3 rfl) ?_
        refine lv_icmp_ge (tgt := 71) hx hb dX1_copyWithout_63 (by decide) (fun hc_63 => ?_) (fun hc_63 => ?_)
        · have hf := ifP hc_63 hf
          refine lv_iload hx hb dX1_copyWithout_71 (lv_at hl 5 rfl) ?_
          refine lv_iconst (v := 1) hx hb dX1_copyWithout_73 (by decide) ?_
          refine lv_iadd hx hb dX1_copyWithout_74 ?_
          exact wX1_copyWithout_75 a_t a_p1 a_t_upper a_t_lower a_t_sum a_p1_upper a_p1_lower a_p1_sum z_t_rows z_t_columns z_t_lower z_t_sum_upper z_t_sum_lower z_t_sum_isLong z_t_upper p2 p3 t_rows t_columns t_lower t_sum_upper t_sum_lower t_sum_isLong t_upper p1_rows p1_columns p1_lower p1_upper t_rows_19 t_columns_19 v4_19 t_lower_19 t_sum_upper_19 t_sum_lower_19 t_sum_isLong_19 t_upper_19 v5_31 t_lower_31 t_sum_upper_31 t_sum_lower_31 t_sum_isLong_31 t_upper_31 (v5_31 + 1) (v4_19 + 1) X rec_19 hrec_19 (fX1_copyWithout_31 p2 p3 p1_lower p1_upper v4_19 t_columns_19 rec_19 n) ih _ _ _ hf hP hD hS (lv_sub hl [0, 1, 2, 3, 4, 5] rfl)
        · have hf := ifN hc_63 hf
          refine lv_iload hx hb dX1_copyWithout_66 (lv_at hl 5 rfl) ?_
          refine lv_goto (tgt := 75) hx hb dX1_copyWithout_68 (by decide) ?_
          exact wX1_copyWithout_75 a_t a_p1 a_t_upper a_t_lower a_t_sum a_p1_upper a_p1_lower a_p1_sum z_t_rows z_t_columns z_t_lower z_t_sum_upper z_t_sum_lower z_t_sum_isLong z_t_upper p2 p3 t_rows t_columns t_lower t_sum_upper t_sum_lower t_sum_isLong t_upper p1_rows p1_columns p1_lower p1_upper t_rows_19 t_columns_19 v4_19 t_lower_19 t_sum_upper_19 t_sum_lower_19 t_sum_isLong_19 t_upper_19 v5_31 t_lower_31 t_sum_upper_31 t_sum_lower_31 t_sum_isLong_31 t_upper_31 v5_31 (v4_19 + 1) X rec_19 hrec_19 (fX1_copyWithout_31 p2 p3 p1_lower p1_upper v4_19 t_columns_19 rec_19 n) ih _ _ _ hf hP hD hS (lv_sub hl [0, 1, 2, 3, 4, 5] rfl)
      · have hf := ifN hc_48 hf
        refine lv_iload hx hb dX1_copyWithout_51 (lv_at hl 4 rfl) ?_
        refine lv_goto (tgt := 60) hx hb dX1_copyWithout_53 (by decide) ?_
        refine lv_iload hx hb dX1_copyWithout_60 (lv_at hl 5 rfl) ?_
        refine lv_iload_n hx hb dX1_copyWithout_62 rfl (lv_at hl 3 rfl) ?_
        refine lv_icmp_ge (tgt := 71) hx hb dX1_copyWithout_63 (by decide) (fun hc_63 => ?_) (fun hc_63 => ?_)
        · have hf := ifP hc_63 hf
          refine lv_iload hx hb dX1_copyWithout_71 (lv_at hl 5 rfl) ?_
          refine lv_iconst (v := 1) hx hb dX1_copyWithout_73 (by decide) ?_
          refine lv_iadd hx hb dX1_copyWithout_74 ?_
          exact wX1_copyWithout_75 a_t a_p1 a_t_upper a_t_lower a_t_sum a_p1_upper a_p1_lower a_p1_sum z_t_rows z_t_columns z_t_lower z_t_sum_upper z_t_sum_lower z_t_sum_isLong z_t_upper p2 p3 t_rows t_columns t_lower t_sum_upper t_sum_lower t_sum_isLong t_upper p1_rows p1_columns p1_lower p1_upper t_rows_19 t_columns_19 v4_19 t_lower_19 t_sum_upper_19 t_sum_lower_19 t_sum_isLong_19 t_upper_19 v5_31 t_lower_31 t_sum_upper_31 t_sum_lower_31 t_sum_isLong_31 t_upper_31 (v5_31 + 1) v4_19 X rec_19 hrec_19 (fX1_copyWithout_31 p2 p3 p1_lower p1_upper v4_19 t_columns_19 rec_19 n) ih _ _ _ hf hP hD hS (lv_sub hl [0, 1, 2, 3, 4, 5] rfl)
        · have hf := ifN hc_63 hf
          refine lv_iload hx hb dX1_copyWithout_66 (lv_at hl 5 rfl) ?_
          refine lv_goto (tgt := 75) hx hb dX1_copyWithout_68 (by decide) ?_
          exact wX1_copyWithout_75 a_t a_p1 a_t_upper a_t_lower a_t_sum a_p1_upper a_p1_lower a_p1_sum z_t_rows z_t_columns z_t_lower z_t_sum_upper z_t_sum_lower z_t_sum_isLong z_t_upper p2 p3 t_rows t_columns t_lower t_sum_upper t_sum_lower t_sum_isLong t_upper p1_rows p1_columns p1_lower p1_upper t_rows_19 t_columns_19 v4_19 t_lower_19 t_sum_upper_19 t_sum_lower_19 t_sum_isLong_19 t_upper_19 v5_31 t_lower_31 t_sum_upper_31 t_sum_lower_31 t_sum_isLong_31 t_upper_31 v5_31 v4_19 X rec_19 hrec_19 (fX1_copyWithout_31 p2 p3 p1_lower p1_upper v4_19 t_columns_19 rec_19 n) ih _ _ _ hf hP hD hS (lv_sub hl [0, 1, 2, 3, 4, 5] rfl)
set_option maxHeartbeats 4000000 in
set_option maxRecDepth 100000 in
theorem wX1_copyWithout_19 {l : Launch} {D : va_G} {cI cJ cB cZ cG cS : ClassId} {p : Program} {e : Env} {s : State} {m : MethodId} {below : List Frame} {meth : Method} {c : Code} {A : Nat → Prop} (a_t : Nat) (a_p1 : Nat) (a_t_upper : Nat) (a_t_lower : Nat) (a_t_sum : Nat) (a_p1_upper : Nat) (a_p1_lower : Nat) (a_p1_sum : Nat) (z_t_rows : Int32) (z_t_columns : Int32) (z_t_lower : Nat → Int32) (z_t_sum_upper : Int64) (z_t_sum_lower : Int64) (z_t_sum_isLong : Int32) (z_t_upper : Nat → Int32) (p2 : Int32) (p3 : Int32) (t_rows : Int32) (t_columns : Int32) (t_lower : Nat → Int32) (t_sum_upper : Int64) (t_sum_lower : Int64) (t_sum_isLong : Int32) (t_upper : Nat → Int32) (p1_rows : Int32) (p1_columns : Int32) (p1_lower : Nat → Int32) (p1_upper : Nat → Int32) (t_rows_19 : Int32) (t_columns_19 : Int32)  (X : Cx D (tyL cI cJ cB cZ cG cS) cX1_copyWithout 6 none RX1 wsX1_copyWithout [.ref a_t, .ref a_p1, .int p2, .int p3] p s m meth c A) : ∀ (n : Nat) (v4_19 : Int32) (t_lower_19 : Nat → Int32) (t_sum_upper_19 : Int64) (t_sum_lower_19 : Int64) (t_sum_isLong_19 : Int32) (t_upper_19 : Nat → Int32) (H : Heap) (locs : List Loc) (ls : Array Slot), fX1_copyWithout_19 p2 p3 p1_lower p1_upper t_rows_19 t_columns_19 n v4_19 t_lower_19 t_sum_upper_19 t_sum_lower_19 t_sum_isLong_19 t_upper_19 = some (z_t_rows, z_t_columns, z_t_lower, z_t_sum_upper, z_t_sum_lower, z_t_sum_isLong, z_t_upper) → va_P D vwCl [(a_t, .inr (1, [.int t_rows_19, .int t_columns_19, .ref a_t_upper, .ref a_t_lower, .ref a_t_sum])), (a_t_lower, .inl (cI, 42, .inl t_lower_19)), (a_t_sum, .inr (3, [.long t_sum_upper_19, .long t_sum_lower_19, .int t_sum_isLong_19])), (a_t_upper, .inl (cI, 42, .inl t_upper_19)), (a_p1, .inr (1, [.int p1_rows, .int p1_columns, .ref a_p1_upper, .ref a_p1_lower, .ref a_p1_sum])), (a_p1_lower, .inl (cI, 42, .inl p1_lower)), (a_p1_upper, .inl (cI, 42, .inl p1_upper))] H → va_D A [(a_t, .inr (1, [.int t_rows_19, .int t_columns_19, .ref a_t_upper, .ref a_t_lower, .ref a_t_sum])), (a_t_lower, .inl (cI, 42, .inl t_lower_19)), (a_t_sum, .inr (3, [.long t_sum_upper_19, .long t_sum_lower_19, .int t_sum_isLong_19])), (a_t_upper, .inl (cI, 42, .inl t_upper_19)), (a_p1, .inr (1, [.int p1_rows, .int p1_columns, .ref a_p1_upper, .ref a_p1_lower, .ref a_p1_sum])), (a_p1_lower, .inl (cI, 42, .inl p1_lower)), (a_p1_upper, .inl (cI, 42, .inl p1_upper))] → va_S A s.heap H locs → lv_has ls 6 [(0, .ref a_t), (1, .ref a_p1), (2, .int p2), (3, .int p3), (4, .int v4_19)] → W p l e { frames := 2, cells := 0, slots := 0, locals := 46 } s m ([.ref a_t, .ref a_p1, .int p2, .int p3] : List Value).toArray below meth c H locs 0 0 (MQ below (cQv D A [(a_t, .inr (1, [.int z_t_rows, .int z_t_columns, .ref a_t_upper, .ref a_t_lower, .ref a_t_sum])), (a_t_lower, .inl (cI, 42, .inl z_t_lower)), (a_t_sum, .inr (3, [.long z_t_sum_upper, .long z_t_sum_lower, .int z_t_sum_isLong])), (a_t_upper, .inl (cI, 42, .inl z_t_upper)), (a_p1, .inr (1, [.int p1_rows, .int p1_columns, .ref a_p1_upper, .ref a_p1_lower, .ref a_p1_sum])), (a_p1_lower, .inl (cI, 42, .inl p1_lower)), (a_p1_upper, .inl (cI, 42, .inl p1_upper))]) ([.ref a_t, .ref a_p1, .int p2, .int p3] : List Value).toArray s 0 0 A) (F0 m 19 ls []) := by
  obtain ⟨hx, hb, hr, hlk, hml, hown, hts, hK, hN, hA⟩ := id X
  intro n
  induction n with
  | zero =>
    intro v4_19 t_lower_19 t_sum_upper_19 t_sum_lower_19 t_sum_isLong_19 t_upper_19 H locs ls hf
    have hf : (none : Option (Int32 × Int32 × (Nat → Int32) × Int64 × Int64 × Int32 × (Nat → Int32))) = some (z_t_rows, z_t_columns, z_t_lower, z_t_sum_upper, z_t_sum_lower, z_t_sum_isLong, z_t_upper) := hf
    cases hf
  | succ n ih =>
    intro v4_19 t_lower_19 t_sum_upper_19 t_sum_lower_19 t_sum_isLong_19 t_upper_19 H locs ls hf hP hD hS hl
    rw [fX1_copyWithout_19_s] at hf
    refine lv_iload hx hb dX1_copyWithout_19 (lv_at hl 4 rfl) ?_
    refine lv_aload_n hx hb dX1_copyWithout_21 rfl (lv_at hl 0 rfl) ?_
    refine va_get (D := D) (ci := 1) (v := .int t_rows_19) (C := RX1) (T := TX1) (N := 5) hx hb hts inX1_copyWithout_X1 hown hK hP 0 rfl rfl 0 (by decide) (hts (.fieldLink RX1 9 "RowPivots$Grid" "rows" "I") (List.mem_of_getElem? (i := 1) rfl)) (fun _ h9 => h9) rfl dX1_copyWithout_22 ?_
    refine lv_icmp_ge (tgt := 102) hx hb dX1_copyWithout_25 (by decide) (fun hc_25 => ?_) (fun hc_25 => ?_)
    · have hf := ifP hc_25 hf
      have hf : (some (t_rows_19, t_columns_19, t_lower_19, t_sum_upper_19, t_sum_lower_19, t_sum_isLong_19, t_upper_19) : Option (Int32 × Int32 × (Nat → Int32) × Int64 × Int64 × Int32 × (Nat → Int32))) = some (z_t_rows, z_t_columns, z_t_lower, z_t_sum_upper, z_t_sum_lower, z_t_sum_isLong, z_t_upper) := hf
      cases hf
      exact cRv hx hb hr hlk hP hD hS dX1_copyWithout_102
    · have hf := ifN hc_25 hf
      refine lv_iconst (v := 0) hx hb dX1_copyWithout_28 (by decide) ?_
      refine lv_istore (lv' := [(5, .int 0), (0, .ref a_t), (1, .ref a_p1), (2, .int p2), (3, .int p3), (4, .int v4_19)]) hx hb dX1_copyWithout_29 hl (by decide) rfl (fun ls hl => ?_)
      exact wX1_copyWithout_31 a_t a_p1 a_t_upper a_t_lower a_t_sum a_p1_upper a_p1_lower a_p1_sum z_t_rows z_t_columns z_t_lower z_t_sum_upper z_t_sum_lower z_t_sum_isLong z_t_upper p2 p3 t_rows t_columns t_lower t_sum_upper t_sum_lower t_sum_isLong t_upper p1_rows p1_columns p1_lower p1_upper t_rows_19 t_columns_19 v4_19 t_lower_19 t_sum_upper_19 t_sum_lower_19 t_sum_isLong_19 t_upper_19 X (fX1_copyWithout_19 p2 p3 p1_lower p1_upper t_rows_19 t_columns_19 n) ih fuelN 0 t_lower_19 t_sum_upper_19 t_sum_lower_19 t_sum_isLong_19 t_upper_19 _ _ _ hf hP hD hS (lv_sub hl [1, 2, 3, 4, 5, 0] rfl)
set_option maxHeartbeats 4000000 in
set_option maxRecDepth 100000 in
theorem MX1_copyWithout (l : Launch) (D : va_G) (cI cJ cB cZ cG cS : ClassId) (sz : Nat) (a_t : Nat) (a_p1 : Nat) (a_t_upper : Nat) (a_t_lower : Nat) (a_t_sum : Nat) (a_p1_upper : Nat) (a_p1_lower : Nat) (a_p1_sum : Nat) (p2 : Int32) (p3 : Int32) (t_rows : Int32) (t_columns : Int32) (t_lower : Nat → Int32) (t_sum_upper : Int64) (t_sum_lower : Int64) (t_sum_isLong : Int32) (t_upper : Nat → Int32) (p1_rows : Int32) (p1_columns : Int32) (p1_lower : Nat → Int32) (p1_upper : Nat → Int32) (z_t_rows : Int32) (z_t_columns : Int32) (z_t_lower : Nat → Int32) (z_t_sum_upper : Int64) (z_t_sum_lower : Int64) (z_t_sum_isLong : Int32) (z_t_upper : Nat → Int32) (hf : fX1_copyWithout p2 p3 t_lower t_sum_upper t_sum_lower t_sum_isLong t_upper p1_rows p1_columns p1_lower p1_upper = some (z_t_rows, z_t_columns, z_t_lower, z_t_sum_upper, z_t_sum_lower, z_t_sum_isLong, z_t_upper)) : Met l yX1_copyWithout wsX1_copyWithout { frames := 2, cells := 0, slots := 0, locals := 46 } (cP D (tyL cI cJ cB cZ cG cS) [.ref a_t, .ref a_p1, .int p2, .int p3] sz [(a_t, .inr (1, [.int t_rows, .int t_columns, .ref a_t_upper, .ref a_t_lower, .ref a_t_sum])), (a_t_lower, .inl (cI, 42, .inl t_lower)), (a_t_sum, .inr (3, [.long t_sum_upper, .long t_sum_lower, .int t_sum_isLong])), (a_t_upper, .inl (cI, 42, .inl t_upper)), (a_p1, .inr (1, [.int p1_rows, .int p1_columns, .ref a_p1_upper, .ref a_p1_lower, .ref a_p1_sum])), (a_p1_lower, .inl (cI, 42, .inl p1_lower)), (a_p1_upper, .inl (cI, 42, .inl p1_upper))]) (cQv D (va_A [(a_t, .inr (1, [.int t_rows, .int t_columns, .ref a_t_upper, .ref a_t_lower, .ref a_t_sum])), (a_t_lower, .inl (cI, 42, .inl t_lower)), (a_t_sum, .inr (3, [.long t_sum_upper, .long t_sum_lower, .int t_sum_isLong])), (a_t_upper, .inl (cI, 42, .inl t_upper)), (a_p1, .inr (1, [.int p1_rows, .int p1_columns, .ref a_p1_upper, .ref a_p1_lower, .ref a_p1_sum])), (a_p1_lower, .inl (cI, 42, .inl p1_lower)), (a_p1_upper, .inl (cI, 42, .inl p1_upper))] sz) [(a_t, .inr (1, [.int z_t_rows, .int z_t_columns, .ref a_t_upper, .ref a_t_lower, .ref a_t_sum])), (a_t_lower, .inl (cI, 42, .inl z_t_lower)), (a_t_sum, .inr (3, [.long z_t_sum_upper, .long z_t_sum_lower, .int z_t_sum_isLong])), (a_t_upper, .inl (cI, 42, .inl z_t_upper)), (a_p1, .inr (1, [.int p1_rows, .int p1_columns, .ref a_p1_upper, .ref a_p1_lower, .ref a_p1_sum])), (a_p1_lower, .inl (cI, 42, .inl p1_lower)), (a_p1_upper, .inl (cI, 42, .inl p1_upper))]) 0 0 (va_A [(a_t, .inr (1, [.int t_rows, .int t_columns, .ref a_t_upper, .ref a_t_lower, .ref a_t_sum])), (a_t_lower, .inl (cI, 42, .inl t_lower)), (a_t_sum, .inr (3, [.long t_sum_upper, .long t_sum_lower, .int t_sum_isLong])), (a_t_upper, .inl (cI, 42, .inl t_upper)), (a_p1, .inr (1, [.int p1_rows, .int p1_columns, .ref a_p1_upper, .ref a_p1_lower, .ref a_p1_sum])), (a_p1_lower, .inl (cI, 42, .inl p1_lower)), (a_p1_upper, .inl (cI, 42, .inl p1_upper))] sz) := by
  refine cM (Qc := fun A => cQv D A [(a_t, .inr (1, [.int z_t_rows, .int z_t_columns, .ref a_t_upper, .ref a_t_lower, .ref a_t_sum])), (a_t_lower, .inl (cI, 42, .inl z_t_lower)), (a_t_sum, .inr (3, [.long z_t_sum_upper, .long z_t_sum_lower, .int z_t_sum_isLong])), (a_t_upper, .inl (cI, 42, .inl z_t_upper)), (a_p1, .inr (1, [.int p1_rows, .int p1_columns, .ref a_p1_upper, .ref a_p1_lower, .ref a_p1_sum])), (a_p1_lower, .inl (cI, 42, .inl p1_lower)), (a_p1_upper, .inl (cI, 42, .inl p1_upper))]) RX1 (by decide) rfl rfl (Nat.le_of_ble_eq_true rfl) ?_
  intro p e s m below meth c A ls hx hb hr hlk hml hown hts hK hN hP hD hS hA hl
  have X : Cx D (tyL cI cJ cB cZ cG cS) cX1_copyWithout 6 none RX1 wsX1_copyWithout [.ref a_t, .ref a_p1, .int p2, .int p3] p s m meth c A := ⟨hx, hb, hr, hlk, hml, hown, hts, hK, hN, hA⟩
  have hl : lv_has ls 6 [(0, .ref a_t), (1, .ref a_p1), (2, .int p2), (3, .int p3)] := hl
  unfold fX1_copyWithout at hf
  refine lv_aload_n hx hb dX1_copyWithout_0 rfl (lv_at hl 0 rfl) ?_
  refine lv_aload_n hx hb dX1_copyWithout_1 rfl (lv_at hl 1 rfl) ?_
  refine va_get (D := D) (ci := 1) (v := .int p1_rows) (C := RX1) (T := TX1) (N := 5) hx hb hts inX1_copyWithout_X1 hown hK hP 4 rfl rfl 0 (by decide) (hts (.fieldLink RX1 9 "RowPivots$Grid" "rows" "I") (List.mem_of_getElem? (i := 1) rfl)) (fun _ h9 => h9) rfl dX1_copyWithout_2 ?_
  refine lv_iconst (v := 1) hx hb dX1_copyWithout_5 (by decide) ?_
  refine lv_isub hx hb dX1_copyWithout_6 ?_
  refine lv_aload_n hx hb dX1_copyWithout_7 rfl (lv_at hl 1 rfl) ?_
  refine va_get (D := D) (ci := 1) (v := .int p1_columns) (C := RX1) (T := TX1) (N := 5) hx hb hts inX1_copyWithout_X1 hown hK hP 4 rfl rfl 1 (by decide) (hts (.fieldLink RX1 15 "RowPivots$Grid" "columns" "I") (List.mem_of_getElem? (i := 2) rfl)) (fun _ h9 => h9) rfl dX1_copyWithout_8 ?_
  refine lv_iconst (v := 1) hx hb dX1_copyWithout_11 (by decide) ?_
  refine lv_isub hx hb dX1_copyWithout_12 ?_
  obtain ⟨u_1, hcu_1, hf⟩ := bdS hf
  refine kVv (As := [.int (p1_rows - 1), .int (p1_columns - 1)]) (rest := []) (w2 := [(a_t, .inr (1, [.int u_1.1, .int u_1.2.1, .ref a_t_upper, .ref a_t_lower, .ref a_t_sum])), (a_t_lower, .inl (cI, 42, .inl u_1.2.2.1)), (a_t_sum, .inr (3, [.long t_sum_upper, .long t_sum_lower, .int t_sum_isLong])), (a_t_upper, .inl (cI, 42, .inl u_1.2.2.2)), (a_p1, .inr (1, [.int p1_rows, .int p1_columns, .ref a_p1_upper, .ref a_p1_lower, .ref a_p1_sum])), (a_p1_lower, .inl (cI, 42, .inl p1_lower)), (a_p1_upper, .inl (cI, 42, .inl p1_upper))]) (wr := [(a_t_sum, .inr (3, [.long t_sum_upper, .long t_sum_lower, .int t_sum_isLong])), (a_p1, .inr (1, [.int p1_rows, .int p1_columns, .ref a_p1_upper, .ref a_p1_lower, .ref a_p1_sum])), (a_p1_lower, .inl (cI, 42, .inl p1_lower)), (a_p1_upper, .inl (cI, 42, .inl p1_upper))]) (ci := 1) (q0 := 0) ⟨hx, hb, hml, hown, hts⟩ (MX1_clear l D cI cJ cB cZ cG cS _ a_t a_t_upper a_t_lower a_t_sum (p1_rows - 1) (p1_columns - 1) t_rows t_columns t_lower t_upper u_1.1 u_1.2.1 u_1.2.2.1 u_1.2.2.2 hcu_1) (cwV 2 hts gX1_copyWithout_X1_clear rfl rfl rfl (by decide +kernel) ⟨Nat.le_of_ble_eq_true rfl, Nat.le_of_ble_eq_true rfl⟩) hK hN hP hD hS hA [0, 1, 3] [2, 4, 5, 6] [4, 5, 0, 6, 1, 2, 3] rfl (by decide) rfl (by decide) (by decide) rfl (by decide) rfl rfl rfl hl.1 rfl (Nat.le_of_ble_eq_true rfl) dX1_copyWithout_13 ⟨Nat.zero_le _, Nat.zero_le _⟩ (fun H locs hP hD hS => ?_)
  refine lv_iconst (v := 0) hx hb dX1_copyWithout_16 (by decide) ?_
  refine lv_istore (lv' := [(4, .int 0), (0, .ref a_t), (1, .ref a_p1), (2, .int p2), (3, .int p3)]) hx hb dX1_copyWithout_17 hl (by decide) rfl (fun ls hl => ?_)
  exact wX1_copyWithout_19 a_t a_p1 a_t_upper a_t_lower a_t_sum a_p1_upper a_p1_lower a_p1_sum z_t_rows z_t_columns z_t_lower z_t_sum_upper z_t_sum_lower z_t_sum_isLong z_t_upper p2 p3 t_rows t_columns t_lower t_sum_upper t_sum_lower t_sum_isLong t_upper p1_rows p1_columns p1_lower p1_upper u_1.1 u_1.2.1 X  fuelN 0 u_1.2.2.1 t_sum_upper t_sum_lower t_sum_isLong u_1.2.2.2 _ _ _ hf hP hD hS (lv_sub hl [1, 2, 3, 4, 0] rfl)
theorem inX1_clearSides_X1 : ∀ w ∈ wsX10, w ∈ wsX1_clearSides := fun _ h => List.mem_cons_of_mem _ (List.mem_append_left _ (List.mem_append_right _ h))
def fX1_clearSides_11 (t_rows : Int32) (t_columns : Int32) (t_sum_upper_11 : Int64) (t_sum_lower_11 : Int64) (t_sum_isLong_11 : Int32) : Nat → Int32 → (Nat → Int32) → (Nat → Int32) → Option ((Nat → Int32) × Int64 × Int64 × Int32 × (Nat → Int32))
  | 0, _, _, _ => none
  | n + 1, v1_11, t_lower_11, t_upper_11 => if t_rows ≤ v1_11 then (some (t_lower_11, t_sum_upper_11, t_sum_lower_11, t_sum_isLong_11, t_upper_11)) else ((fX1_put v1_11 t_columns t_lower_11 t_upper_11 t_sum_upper_11 t_sum_lower_11).bind fun u_2 => (fX1_clearSides_11 t_rows t_columns t_sum_upper_11 t_sum_lower_11 t_sum_isLong_11 n) (v1_11 + 1) u_2.1 u_2.2)
theorem fX1_clearSides_11_s (t_rows : Int32) (t_columns : Int32) (t_sum_upper_11 : Int64) (t_sum_lower_11 : Int64) (t_sum_isLong_11 : Int32) (n : Nat) (v1_11 : Int32) (t_lower_11 : Nat → Int32) (t_upper_11 : Nat → Int32) : fX1_clearSides_11 t_rows t_columns t_sum_upper_11 t_sum_lower_11 t_sum_isLong_11 (n + 1) v1_11 t_lower_11 t_upper_11 = (if t_rows ≤ v1_11 then (some (t_lower_11, t_sum_upper_11, t_sum_lower_11, t_sum_isLong_11, t_upper_11)) else ((fX1_put v1_11 t_columns t_lower_11 t_upper_11 t_sum_upper_11 t_sum_lower_11).bind fun u_2 => (fX1_clearSides_11 t_rows t_columns t_sum_upper_11 t_sum_lower_11 t_sum_isLong_11 n) (v1_11 + 1) u_2.1 u_2.2)) := rfl
def fX1_clearSides (t_rows : Int32) (t_columns : Int32) (t_lower : Nat → Int32) (t_upper : Nat → Int32) : Option ((Nat → Int32) × Int64 × Int64 × Int32 × (Nat → Int32)) :=
  (fX3_start 0 1).bind fun u_1 => fX1_clearSides_11 t_rows t_columns u_1.1 u_1.2.1 u_1.2.2 fuelN 0 t_lower t_upper
set_option maxHeartbeats 4000000 in
set_option maxRecDepth 100000 in
theorem wX1_clearSides_11 {l : Launch} {D : va_G} {cI cJ cB cZ cG cS : ClassId} {p : Program} {e : Env} {s : State} {m : MethodId} {below : List Frame} {meth : Method} {c : Code} {A : Nat → Prop} (a_t : Nat) (a_t_upper : Nat) (a_t_lower : Nat) (a_t_sum : Nat) (z_t_lower : Nat → Int32) (z_t_sum_upper : Int64) (z_t_sum_lower : Int64) (z_t_sum_isLong : Int32) (z_t_upper : Nat → Int32) (t_rows : Int32) (t_columns : Int32) (t_lower : Nat → Int32) (t_sum_upper : Int64) (t_sum_lower : Int64) (t_sum_isLong : Int32) (t_upper : Nat → Int32) (t_sum_upper_11 : Int64) (t_sum_lower_11 : Int64) (t_sum_isLong_11 : Int32)  (X : Cx D (tyL cI cJ cB cZ cG cS) cX1_clearSides 2 none RX1 wsX1_clearSides [.ref a_t] p s m meth c A) : ∀ (n : Nat) (v1_11 : Int32) (t_lower_11 : Nat → Int32) (t_upper_11 : Nat → Int32) (H : Heap) (locs : List Loc) (ls : Array Slot), fX1_clearSides_11 t_rows t_columns t_sum_upper_11 t_sum_lower_11 t_sum_isLong_11 n v1_11 t_lower_11 t_upper_11 = some (z_t_lower, z_t_sum_upper, z_t_sum_lower, z_t_sum_isLong, z_t_upper) → va_P D vwCl [(a_t, .inr (1, [.int t_rows, .int t_columns, .ref a_t_upper, .ref a_t_lower, .ref a_t_sum])), (a_t_lower, .inl (cI, 42, .inl t_lower_11)), (a_t_sum, .inr (3, [.long t_sum_upper_11, .long t_sum_lower_11, .int t_sum_isLong_11])), (a_t_upper, .inl (cI, 42, .inl t_upper_11))] H → va_D A [(a_t, .inr (1, [.int t_rows, .int t_columns, .ref a_t_upper, .ref a_t_lower, .ref a_t_sum])), (a_t_lower, .inl (cI, 42, .inl t_lower_11)), (a_t_sum, .inr (3, [.long t_sum_upper_11, .long t_sum_lower_11, .int t_sum_isLong_11])), (a_t_upper, .inl (cI, 42, .inl t_upper_11))] → va_S A s.heap H locs → lv_has ls 2 [(0, .ref a_t), (1, .int v1_11)] → W p l e { frames := 3, cells := 0, slots := 0, locals := 75 } s m ([.ref a_t] : List Value).toArray below meth c H locs 0 0 (MQ below (cQv D A [(a_t, .inr (1, [.int t_rows, .int t_columns, .ref a_t_upper, .ref a_t_lower, .ref a_t_sum])), (a_t_lower, .inl (cI, 42, .inl z_t_lower)), (a_t_sum, .inr (3, [.long z_t_sum_upper, .long z_t_sum_lower, .int z_t_sum_isLong])), (a_t_upper, .inl (cI, 42, .inl z_t_upper))]) ([.ref a_t] : List Value).toArray s 0 0 A) (F0 m 11 ls []) := by
  obtain ⟨hx, hb, hr, hlk, hml, hown, hts, hK, hN, hA⟩ := id X
  intro n
  induction n with
  | zero =>
    intro v1_11 t_lower_11 t_upper_11 H locs ls hf
    have hf : (none : Option ((Nat → Int32) × Int64 × Int64 × Int32 × (Nat → Int32))) = some (z_t_lower, z_t_sum_upper, z_t_sum_lower, z_t_sum_isLong, z_t_upper) := hf
    cases hf
  | succ n ih =>
    intro v1_11 t_lower_11 t_upper_11 H locs ls hf hP hD hS hl
    rw [fX1_clearSides_11_s] at hf
    refine lv_iload_n hx hb dX1_clearSides_11 rfl (lv_at hl 1 rfl) ?_
    refine lv_aload_n hx hb dX1_clearSides_12 rfl (lv_at hl 0 rfl) ?_
    refine va_get (D := D) (ci := 1) (v := .int t_rows) (C := RX1) (T := TX1) (N := 5) hx hb hts inX1_clearSides_X1 hown hK hP 0 rfl rfl 0 (by decide) (hts (.fieldLink RX1 9 "RowPivots$Grid" "rows" "I") (List.mem_of_getElem? (i := 2) rfl)) (fun _ h9 => h9) rfl dX1_clearSides_13 ?_
    refine lv_icmp_ge (tgt := 38) hx hb dX1_clearSides_16 (by decide) (fun hc_16 => ?_) (fun hc_16 => ?_)
    · have hf := ifP hc_16 hf
      have hf : (some (t_lower_11, t_sum_upper_11, t_sum_lower_11, t_sum_isLong_11, t_upper_11) : Option ((Nat → Int32) × Int64 × Int64 × Int32 × (Nat → Int32))) = some (z_t_lower, z_t_sum_upper, z_t_sum_lower, z_t_sum_isLong, z_t_upper) := hf
      cases hf
      exact cRv hx hb hr hlk hP hD hS dX1_clearSides_38
    · have hf := ifN hc_16 hf
      refine lv_aload_n hx hb dX1_clearSides_19 rfl (lv_at hl 0 rfl) ?_
      refine lv_iload_n hx hb dX1_clearSides_20 rfl (lv_at hl 1 rfl) ?_
      refine lv_aload_n hx hb dX1_clearSides_21 rfl (lv_at hl 0 rfl) ?_
      refine va_get (D := D) (ci := 1) (v := .int t_columns) (C := RX1) (T := TX1) (N := 5) hx hb hts inX1_clearSides_X1 hown hK hP 0 rfl rfl 1 (by decide) (hts (.fieldLink RX1 15 "RowPivots$Grid" "columns" "I") (List.mem_of_getElem? (i := 3) rfl)) (fun _ h9 => h9) rfl dX1_clearSides_22 ?_
      refine lv_aload_n hx hb dX1_clearSides_25 rfl (lv_at hl 0 rfl) ?_
      refine va_get (D := D) (ci := 1) (v := .ref a_t_sum) (C := RX1) (T := TX1) (N := 5) hx hb hts inX1_clearSides_X1 hown hK hP 0 rfl rfl 4 (by decide) (hts (.fieldLink RX1 28 "RowPivots$Grid" "sum" "LRowPivots$Ratio;") (List.mem_of_getElem? (i := 1) rfl)) (fun _ h9 => h9) rfl dX1_clearSides_26 ?_
      obtain ⟨u_2, hcu_2, hf⟩ := bdS hf
      refine kVv (As := [.int v1_11, .int t_columns, .ref a_t_sum]) (rest := []) (w2 := [(a_t, .inr (1, [.int t_rows, .int t_columns, .ref a_t_upper, .ref a_t_lower, .ref a_t_sum])), (a_t_lower, .inl (cI, 42, .inl u_2.1)), (a_t_sum, .inr (3, [.long t_sum_upper_11, .long t_sum_lower_11, .int t_sum_isLong_11])), (a_t_upper, .inl (cI, 42, .inl u_2.2))]) (wr := []) (ci := 1) (q0 := 0) ⟨hx, hb, hml, hown, hts⟩ (MX1_put l D cI cJ cB cZ cG cS _ a_t a_t_sum a_t_upper a_t_lower a_t_sum v1_11 t_columns t_rows t_columns t_lower_11 t_upper_11 t_sum_upper_11 t_sum_lower_11 t_sum_isLong_11 u_2.1 u_2.2 hcu_2) (cwV 3 hts gX1_clearSides_X1_put rfl rfl rfl (by decide +kernel) ⟨Nat.le_of_ble_eq_true rfl, Nat.le_of_ble_eq_true rfl⟩) hK hN hP hD hS hA [0, 1, 3, 2] [] [0, 1, 3, 2] rfl (by decide) rfl (by decide) (by decide) rfl (by decide) rfl rfl rfl hl.1 rfl (Nat.le_of_ble_eq_true rfl) dX1_clearSides_29 ⟨Nat.zero_le _, Nat.zero_le _⟩ (fun H locs hP hD hS => ?_)
      refine lv_iinc (v := (v1_11 + 1)) (lv' := [(1, .int (v1_11 + 1)), (0, .ref a_t)]) hx hb dX1_clearSides_32 hl (k := 1) rfl rfl (by decide) rfl (fun ls hl => ?_)
      refine lv_goto (tgt := 11) hx hb dX1_clearSides_35 (by decide) ?_
      exact ih (v1_11 + 1) u_2.1 u_2.2 _ _ _ hf hP hD hS (lv_sub hl [1, 0] rfl)
set_option maxHeartbeats 4000000 in
set_option maxRecDepth 100000 in
theorem MX1_clearSides (l : Launch) (D : va_G) (cI cJ cB cZ cG cS : ClassId) (sz : Nat) (a_t : Nat) (a_t_upper : Nat) (a_t_lower : Nat) (a_t_sum : Nat) (t_rows : Int32) (t_columns : Int32) (t_lower : Nat → Int32) (t_sum_upper : Int64) (t_sum_lower : Int64) (t_sum_isLong : Int32) (t_upper : Nat → Int32) (z_t_lower : Nat → Int32) (z_t_sum_upper : Int64) (z_t_sum_lower : Int64) (z_t_sum_isLong : Int32) (z_t_upper : Nat → Int32) (hf : fX1_clearSides t_rows t_columns t_lower t_upper = some (z_t_lower, z_t_sum_upper, z_t_sum_lower, z_t_sum_isLong, z_t_upper)) : Met l yX1_clearSides wsX1_clearSides { frames := 3, cells := 0, slots := 0, locals := 75 } (cP D (tyL cI cJ cB cZ cG cS) [.ref a_t] sz [(a_t, .inr (1, [.int t_rows, .int t_columns, .ref a_t_upper, .ref a_t_lower, .ref a_t_sum])), (a_t_lower, .inl (cI, 42, .inl t_lower)), (a_t_sum, .inr (3, [.long t_sum_upper, .long t_sum_lower, .int t_sum_isLong])), (a_t_upper, .inl (cI, 42, .inl t_upper))]) (cQv D (va_A [(a_t, .inr (1, [.int t_rows, .int t_columns, .ref a_t_upper, .ref a_t_lower, .ref a_t_sum])), (a_t_lower, .inl (cI, 42, .inl t_lower)), (a_t_sum, .inr (3, [.long t_sum_upper, .long t_sum_lower, .int t_sum_isLong])), (a_t_upper, .inl (cI, 42, .inl t_upper))] sz) [(a_t, .inr (1, [.int t_rows, .int t_columns, .ref a_t_upper, .ref a_t_lower, .ref a_t_sum])), (a_t_lower, .inl (cI, 42, .inl z_t_lower)), (a_t_sum, .inr (3, [.long z_t_sum_upper, .long z_t_sum_lower, .int z_t_sum_isLong])), (a_t_upper, .inl (cI, 42, .inl z_t_upper))]) 0 0 (va_A [(a_t, .inr (1, [.int t_rows, .int t_columns, .ref a_t_upper, .ref a_t_lower, .ref a_t_sum])), (a_t_lower, .inl (cI, 42, .inl t_lower)), (a_t_sum, .inr (3, [.long t_sum_upper, .long t_sum_lower, .int t_sum_isLong])), (a_t_upper, .inl (cI, 42, .inl t_upper))] sz) := by
  refine cM (Qc := fun A => cQv D A [(a_t, .inr (1, [.int t_rows, .int t_columns, .ref a_t_upper, .ref a_t_lower, .ref a_t_sum])), (a_t_lower, .inl (cI, 42, .inl z_t_lower)), (a_t_sum, .inr (3, [.long z_t_sum_upper, .long z_t_sum_lower, .int z_t_sum_isLong])), (a_t_upper, .inl (cI, 42, .inl z_t_upper))]) RX1 (by decide) rfl rfl (Nat.le_of_ble_eq_true rfl) ?_
  intro p e s m below meth c A ls hx hb hr hlk hml hown hts hK hN hP hD hS hA hl
  have X : Cx D (tyL cI cJ cB cZ cG cS) cX1_clearSides 2 none RX1 wsX1_clearSides [.ref a_t] p s m meth c A := ⟨hx, hb, hr, hlk, hml, hown, hts, hK, hN, hA⟩
  have hl : lv_has ls 2 [(0, .ref a_t)] := hl
  unfold fX1_clearSides at hf
  refine lv_aload_n hx hb dX1_clearSides_0 rfl (lv_at hl 0 rfl) ?_
  refine va_get (D := D) (ci := 1) (v := .ref a_t_sum) (C := RX1) (T := TX1) (N := 5) hx hb hts inX1_clearSides_X1 hown hK hP 0 rfl rfl 4 (by decide) (hts (.fieldLink RX1 28 "RowPivots$Grid" "sum" "LRowPivots$Ratio;") (List.mem_of_getElem? (i := 1) rfl)) (fun _ h9 => h9) rfl dX1_clearSides_1 ?_
  refine lv_lconst (v := 0) hx hb dX1_clearSides_4 (by decide) ?_
  refine lv_lconst (v := 1) hx hb dX1_clearSides_5 (by decide) ?_
  obtain ⟨u_1, hcu_1, hf⟩ := bdS hf
  refine kVv (As := [.long 0, .long 1]) (rest := []) (w2 := [(a_t, .inr (1, [.int t_rows, .int t_columns, .ref a_t_upper, .ref a_t_lower, .ref a_t_sum])), (a_t_lower, .inl (cI, 42, .inl t_lower)), (a_t_sum, .inr (3, [.long u_1.1, .long u_1.2.1, .int u_1.2.2])), (a_t_upper, .inl (cI, 42, .inl t_upper))]) (wr := [(a_t, .inr (1, [.int t_rows, .int t_columns, .ref a_t_upper, .ref a_t_lower, .ref a_t_sum])), (a_t_lower, .inl (cI, 42, .inl t_lower)), (a_t_upper, .inl (cI, 42, .inl t_upper))]) (ci := 3) (q0 := 0) ⟨hx, hb, hml, hown, hts⟩ (MX3_start l D cI cJ cB cZ cG cS _ a_t_sum 0 1 t_sum_upper t_sum_lower t_sum_isLong u_1.1 u_1.2.1 u_1.2.2 hcu_1) (cwV 2 hts gX1_clearSides_X3_start rfl rfl rfl (by decide +kernel) ⟨Nat.le_of_ble_eq_true rfl, Nat.le_of_ble_eq_true rfl⟩) hK hN hP hD hS hA [2] [0, 1, 3] [0, 1, 3, 2] rfl (by decide) rfl (by decide) (by decide) rfl (by decide) rfl rfl rfl hl.1 rfl (Nat.le_of_ble_eq_true rfl) dX1_clearSides_6 ⟨Nat.zero_le _, Nat.zero_le _⟩ (fun H locs hP hD hS => ?_)
  refine lv_iconst (v := 0) hx hb dX1_clearSides_9 (by decide) ?_
  refine lv_istore_n (lv' := [(1, .int 0), (0, .ref a_t)]) hx hb dX1_clearSides_10 rfl hl (by decide) rfl (fun ls hl => ?_)
  exact wX1_clearSides_11 a_t a_t_upper a_t_lower a_t_sum z_t_lower z_t_sum_upper z_t_sum_lower z_t_sum_isLong z_t_upper t_rows t_columns t_lower t_sum_upper t_sum_lower t_sum_isLong t_upper u_1.1 u_1.2.1 u_1.2.2 X  fuelN 0 t_lower t_upper _ _ _ hf hP hD hS (lv_sub hl [1, 0] rfl)
theorem inX1_hasColumn_X1 : ∀ w ∈ wsX10, w ∈ wsX1_hasColumn := fun _ h => List.mem_cons_of_mem _ (List.mem_append_right _ h)
def fX1_hasColumn (p1 : Int32) (t_columns : Int32) : Option (Int32) :=
  if p1 < 0 then (some (0)) else (if t_columns ≤ p1 then (some (0)) else (some (1)))
set_option maxHeartbeats 4000000 in
set_option maxRecDepth 100000 in
theorem MX1_hasColumn (l : Launch) (D : va_G) (cI cJ cB cZ cG cS : ClassId) (sz : Nat) (a_t : Nat) (a_t_upper : Nat) (a_t_lower : Nat) (a_t_sum : Nat) (p1 : Int32) (t_rows : Int32) (t_columns : Int32) (z_r : Int32) (hf : fX1_hasColumn p1 t_columns = some (z_r)) : Met l yX1_hasColumn wsX1_hasColumn { frames := 0, cells := 0, slots := 0, locals := 0 } (cP D (tyL cI cJ cB cZ cG cS) [.ref a_t, .int p1] sz [(a_t, .inr (1, [.int t_rows, .int t_columns, .ref a_t_upper, .ref a_t_lower, .ref a_t_sum]))]) (cQi D (va_A [(a_t, .inr (1, [.int t_rows, .int t_columns, .ref a_t_upper, .ref a_t_lower, .ref a_t_sum]))] sz) z_r [(a_t, .inr (1, [.int t_rows, .int t_columns, .ref a_t_upper, .ref a_t_lower, .ref a_t_sum]))]) 0 0 (va_A [(a_t, .inr (1, [.int t_rows, .int t_columns, .ref a_t_upper, .ref a_t_lower, .ref a_t_sum]))] sz) := by
  refine cM (Qc := fun A => cQi D A z_r [(a_t, .inr (1, [.int t_rows, .int t_columns, .ref a_t_upper, .ref a_t_lower, .ref a_t_sum]))]) RX1 (by decide) rfl rfl (Nat.le_of_ble_eq_true rfl) ?_
  intro p e s m below meth c A ls hx hb hr hlk hml hown hts hK hN hP hD hS hA hl
  have X : Cx D (tyL cI cJ cB cZ cG cS) cX1_hasColumn 2 (some .boolean) RX1 wsX1_hasColumn [.ref a_t, .int p1] p s m meth c A := ⟨hx, hb, hr, hlk, hml, hown, hts, hK, hN, hA⟩
  have hl : lv_has ls 2 [(0, .ref a_t), (1, .int p1)] := hl
  unfold fX1_hasColumn at hf
  refine lv_iload_n hx hb dX1_hasColumn_0 rfl (lv_at hl 1 rfl) ?_
  refine lv_if_lt (tgt := 16) hx hb dX1_hasColumn_1 (by decide) (fun hc_1 => ?_) (fun hc_1 => ?_)
  · have hf := ifP hc_1 hf
    refine lv_iconst (v := 0) hx hb dX1_hasColumn_16 (by decide) ?_
    have hf : (some (0) : Option (Int32)) = some (z_r) := hf
    cases hf
    exact cRz hx hb hr hlk hP hD hS rfl (by decide) dX1_hasColumn_17
  · have hf := ifN hc_1 hf
    refine lv_iload_n hx hb dX1_hasColumn_4 rfl (lv_at hl 1 rfl) ?_
    refine lv_aload_n hx hb dX1_hasColumn_5 rfl (lv_at hl 0 rfl) ?_
    refine va_get (D := D) (ci := 1) (v := .int t_columns) (C := RX1) (T := TX1) (N := 5) hx hb hts inX1_hasColumn_X1 hown hK hP 0 rfl rfl 1 (by decide) (hts (.fieldLink RX1 15 "RowPivots$Grid" "columns" "I") (List.mem_of_getElem? (i := 1) rfl)) (fun _ h9 => h9) rfl dX1_hasColumn_6 ?_
    refine lv_icmp_ge (tgt := 16) hx hb dX1_hasColumn_9 (by decide) (fun hc_9 => ?_) (fun hc_9 => ?_)
    · have hf := ifP hc_9 hf
      refine lv_iconst (v := 0) hx hb dX1_hasColumn_16 (by decide) ?_
      have hf : (some (0) : Option (Int32)) = some (z_r) := hf
      cases hf
      exact cRz hx hb hr hlk hP hD hS rfl (by decide) dX1_hasColumn_17
    · have hf := ifN hc_9 hf
      refine lv_iconst (v := 1) hx hb dX1_hasColumn_12 (by decide) ?_
      refine lv_goto (tgt := 17) hx hb dX1_hasColumn_13 (by decide) ?_
      have hf : (some (1) : Option (Int32)) = some (z_r) := hf
      cases hf
      exact cRz hx hb hr hlk hP hD hS rfl (by decide) dX1_hasColumn_17
theorem inX1_isSquare_X1 : ∀ w ∈ wsX10, w ∈ wsX1_isSquare := fun _ h => List.mem_cons_of_mem _ (List.mem_append_right _ h)
def fX1_isSquare (t_rows : Int32) (t_columns : Int32) : Option (Int32) :=
  if t_rows = t_columns then (some (1)) else (some (0))
set_option maxHeartbeats 4000000 in
set_option maxRecDepth 100000 in
theorem MX1_isSquare (l : Launch) (D : va_G) (cI cJ cB cZ cG cS : ClassId) (sz : Nat) (a_t : Nat) (a_t_upper : Nat) (a_t_lower : Nat) (a_t_sum : Nat) (t_rows : Int32) (t_columns : Int32) (z_r : Int32) (hf : fX1_isSquare t_rows t_columns = some (z_r)) : Met l yX1_isSquare wsX1_isSquare { frames := 0, cells := 0, slots := 0, locals := 0 } (cP D (tyL cI cJ cB cZ cG cS) [.ref a_t] sz [(a_t, .inr (1, [.int t_rows, .int t_columns, .ref a_t_upper, .ref a_t_lower, .ref a_t_sum]))]) (cQi D (va_A [(a_t, .inr (1, [.int t_rows, .int t_columns, .ref a_t_upper, .ref a_t_lower, .ref a_t_sum]))] sz) z_r [(a_t, .inr (1, [.int t_rows, .int t_columns, .ref a_t_upper, .ref a_t_lower, .ref a_t_sum]))]) 0 0 (va_A [(a_t, .inr (1, [.int t_rows, .int t_columns, .ref a_t_upper, .ref a_t_lower, .ref a_t_sum]))] sz) := by
  refine cM (Qc := fun A => cQi D A z_r [(a_t, .inr (1, [.int t_rows, .int t_columns, .ref a_t_upper, .ref a_t_lower, .ref a_t_sum]))]) RX1 (by decide) rfl rfl (Nat.le_of_ble_eq_true rfl) ?_
  intro p e s m below meth c A ls hx hb hr hlk hml hown hts hK hN hP hD hS hA hl
  have X : Cx D (tyL cI cJ cB cZ cG cS) cX1_isSquare 1 (some .boolean) RX1 wsX1_isSquare [.ref a_t] p s m meth c A := ⟨hx, hb, hr, hlk, hml, hown, hts, hK, hN, hA⟩
  have hl : lv_has ls 1 [(0, .ref a_t)] := hl
  unfold fX1_isSquare at hf
  refine lv_aload_n hx hb dX1_isSquare_0 rfl (lv_at hl 0 rfl) ?_
  refine va_get (D := D) (ci := 1) (v := .int t_rows) (C := RX1) (T := TX1) (N := 5) hx hb hts inX1_isSquare_X1 hown hK hP 0 rfl rfl 0 (by decide) (hts (.fieldLink RX1 9 "RowPivots$Grid" "rows" "I") (List.mem_of_getElem? (i := 1) rfl)) (fun _ h9 => h9) rfl dX1_isSquare_1 ?_
  refine lv_aload_n hx hb dX1_isSquare_4 rfl (lv_at hl 0 rfl) ?_
  refine va_get (D := D) (ci := 1) (v := .int t_columns) (C := RX1) (T := TX1) (N := 5) hx hb hts inX1_isSquare_X1 hown hK hP 0 rfl rfl 1 (by decide) (hts (.fieldLink RX1 15 "RowPivots$Grid" "columns" "I") (List.mem_of_getElem? (i := 2) rfl)) (fun _ h9 => h9) rfl dX1_isSquare_5 ?_
  refine lv_icmp_ne (tgt := 15) hx hb dX1_isSquare_8 (by decide) (fun hc_8 => ?_) (fun hc_8 => ?_)
  · have hf := ifN hc_8 hf
    refine lv_iconst (v := 0) hx hb dX1_isSquare_15 (by decide) ?_
    have hf : (some (0) : Option (Int32)) = some (z_r) := hf
    cases hf
    exact cRz hx hb hr hlk hP hD hS rfl (by decide) dX1_isSquare_16
  · have hf := ifP hc_8 hf
    refine lv_iconst (v := 1) hx hb dX1_isSquare_11 (by decide) ?_
    refine lv_goto (tgt := 16) hx hb dX1_isSquare_12 (by decide) ?_
    have hf : (some (1) : Option (Int32)) = some (z_r) := hf
    cases hf
    exact cRz hx hb hr hlk hP hD hS rfl (by decide) dX1_isSquare_16
theorem inX1_columnBits_X1 : ∀ w ∈ wsX10, w ∈ wsX1_columnBits := fun _ h => List.mem_cons_of_mem _ (List.mem_append_right _ h)
def fX1_columnBits_4 (p1 : Int32) (t_rows : Int32) (t_upper : Nat → Int32) : Nat → Int32 → Int32 → Option (Int32)
  | 0, _, _ => none
  | n + 1, v2_4, v3_4 => if t_rows ≤ v3_4 then (some (v2_4)) else ((fX1_upperAt v3_4 p1 t_upper).bind fun u_1 => if u_1 = 0 then ((fX1_columnBits_4 p1 t_rows t_upper n) v2_4 (v3_4 + 1)) else (lt (v2_4 ||| (1 <<< (v3_4 &&& 31))) fun x_2 => (fX1_columnBits_4 p1 t_rows t_upper n) x_2 (v3_4 + 1)))
theorem fX1_columnBits_4_s (p1 : Int32) (t_rows : Int32) (t_upper : Nat → Int32) (n : Nat) (v2_4 : Int32) (v3_4 : Int32) : fX1_columnBits_4 p1 t_rows t_upper (n + 1) v2_4 v3_4 = (if t_rows ≤ v3_4 then (some (v2_4)) else ((fX1_upperAt v3_4 p1 t_upper).bind fun u_1 => if u_1 = 0 then ((fX1_columnBits_4 p1 t_rows t_upper n) v2_4 (v3_4 + 1)) else (lt (v2_4 ||| (1 <<< (v3_4 &&& 31))) fun x_2 => (fX1_columnBits_4 p1 t_rows t_upper n) x_2 (v3_4 + 1)))) := rfl
def fX1_columnBits (p1 : Int32) (t_rows : Int32) (t_upper : Nat → Int32) : Option (Int32) :=
  fX1_columnBits_4 p1 t_rows t_upper fuelN 0 0
set_option maxHeartbeats 4000000 in
set_option maxRecDepth 100000 in
theorem wX1_columnBits_4 {l : Launch} {D : va_G} {cI cJ cB cZ cG cS : ClassId} {p : Program} {e : Env} {s : State} {m : MethodId} {below : List Frame} {meth : Method} {c : Code} {A : Nat → Prop} (a_t : Nat) (a_t_upper : Nat) (a_t_lower : Nat) (a_t_sum : Nat) (z_r : Int32) (p1 : Int32) (t_rows : Int32) (t_columns : Int32) (t_upper : Nat → Int32)  (X : Cx D (tyL cI cJ cB cZ cG cS) cX1_columnBits 4 (some .int) RX1 wsX1_columnBits [.ref a_t, .int p1] p s m meth c A) : ∀ (n : Nat) (v2_4 : Int32) (v3_4 : Int32) (H : Heap) (locs : List Loc) (ls : Array Slot), fX1_columnBits_4 p1 t_rows t_upper n v2_4 v3_4 = some (z_r) → va_P D vwCl [(a_t, .inr (1, [.int t_rows, .int t_columns, .ref a_t_upper, .ref a_t_lower, .ref a_t_sum])), (a_t_upper, .inl (cI, 42, .inl t_upper))] H → va_D A [(a_t, .inr (1, [.int t_rows, .int t_columns, .ref a_t_upper, .ref a_t_lower, .ref a_t_sum])), (a_t_upper, .inl (cI, 42, .inl t_upper))] → va_S A s.heap H locs → lv_has ls 4 [(0, .ref a_t), (1, .int p1), (2, .int v2_4), (3, .int v3_4)] → W p l e { frames := 1, cells := 0, slots := 0, locals := 23 } s m ([.ref a_t, .int p1] : List Value).toArray below meth c H locs 0 0 (MQ below (cQi D A z_r [(a_t, .inr (1, [.int t_rows, .int t_columns, .ref a_t_upper, .ref a_t_lower, .ref a_t_sum])), (a_t_upper, .inl (cI, 42, .inl t_upper))]) ([.ref a_t, .int p1] : List Value).toArray s 0 0 A) (F0 m 4 ls []) := by
  obtain ⟨hx, hb, hr, hlk, hml, hown, hts, hK, hN, hA⟩ := id X
  intro n
  induction n with
  | zero =>
    intro v2_4 v3_4 H locs ls hf
    have hf : (none : Option (Int32)) = some (z_r) := hf
    cases hf
  | succ n ih =>
    intro v2_4 v3_4 H locs ls hf hP hD hS hl
    rw [fX1_columnBits_4_s] at hf
    refine lv_iload_n hx hb dX1_columnBits_4 rfl (lv_at hl 3 rfl) ?_
    refine lv_aload_n hx hb dX1_columnBits_5 rfl (lv_at hl 0 rfl) ?_
    refine va_get (D := D) (ci := 1) (v := .int t_rows) (C := RX1) (T := TX1) (N := 5) hx hb hts inX1_columnBits_X1 hown hK hP 0 rfl rfl 0 (by decide) (hts (.fieldLink RX1 9 "RowPivots$Grid" "rows" "I") (List.mem_of_getElem? (i := 1) rfl)) (fun _ h9 => h9) rfl dX1_columnBits_6 ?_
    refine lv_icmp_ge (tgt := 33) hx hb dX1_columnBits_9 (by decide) (fun hc_9 => ?_) (fun hc_9 => ?_)
    · have hf := ifP hc_9 hf
      refine lv_iload_n hx hb dX1_columnBits_33 rfl (lv_at hl 2 rfl) ?_
      have hf : (some (v2_4) : Option (Int32)) = some (z_r) := hf
      cases hf
      exact cRi hx hb hr hlk hP hD hS rfl dX1_columnBits_34
    · have hf := ifN hc_9 hf
      refine lv_aload_n hx hb dX1_columnBits_12 rfl (lv_at hl 0 rfl) ?_
      refine lv_iload_n hx hb dX1_columnBits_13 rfl (lv_at hl 3 rfl) ?_
      refine lv_iload_n hx hb dX1_columnBits_14 rfl (lv_at hl 1 rfl) ?_
      obtain ⟨u_1, hcu_1, hf⟩ := bdS hf
      refine kVi (As := [.int v3_4, .int p1]) (rest := []) (w2 := [(a_t, .inr (1, [.int t_rows, .int t_columns, .ref a_t_upper, .ref a_t_lower, .ref a_t_sum])), (a_t_upper, .inl (cI, 42, .inl t_upper))]) (wr := []) (ci := 1) (q0 := 0) ⟨hx, hb, hml, hown, hts⟩ (MX1_upperAt l D cI cJ cB cZ cG cS _ a_t a_t_upper a_t_lower a_t_sum v3_4 p1 t_rows t_columns t_upper u_1 hcu_1) (cwV 2 hts gX1_columnBits_X1_upperAt rfl rfl rfl (by decide +kernel) ⟨Nat.le_of_ble_eq_true rfl, Nat.le_of_ble_eq_true rfl⟩) hK hN hP hD hS hA [0, 1] [] [0, 1] rfl (by decide) rfl (by decide) (by decide) rfl (by decide) rfl rfl rfl hl.1 rfl (Nat.le_of_ble_eq_true rfl) dX1_columnBits_15 ⟨Nat.zero_le _, Nat.zero_le _⟩ (fun H locs hP hD hS => ?_)
      refine lv_if_eq (tgt := 27) hx hb dX1_columnBits_18 (by decide) (fun hc_18 => ?_) (fun hc_18 => ?_)
      · have hf := ifP hc_18 hf
        refine lv_iinc (v := (v3_4 + 1)) (lv' := [(3, .int (v3_4 + 1)), (0, .ref a_t), (1, .int p1), (2, .int v2_4)]) hx hb dX1_columnBits_27 hl (k := 3) rfl rfl (by decide) rfl (fun ls hl => ?_)
        refine lv_goto (tgt := 4) hx hb dX1_columnBits_30 (by decide) ?_
        exact ih v2_4 (v3_4 + 1) _ _ _ hf hP hD hS (lv_sub hl [1, 2, 3, 0] rfl)
      · have hf := ifN hc_18 hf
        refine lv_iload_n hx hb dX1_columnBits_21 rfl (lv_at hl 2 rfl) ?_
        refine lv_iconst (v := 1) hx hb dX1_columnBits_22 (by decide) ?_
        refine lv_iload_n hx hb dX1_columnBits_23 rfl (lv_at hl 3 rfl) ?_
        refine lv_ishl hx hb dX1_columnBits_24 ?_
        refine lv_ior hx hb dX1_columnBits_25 ?_
        refine lv_topi (fun x_2 ex_2 => ?_)
        have hf := lt_b ex_2 hf
        refine lv_istore_n (lv' := [(2, .int x_2), (0, .ref a_t), (1, .int p1), (3, .int v3_4)]) hx hb dX1_columnBits_26 rfl hl (by decide) rfl (fun ls hl => ?_)
        refine lv_iinc (v := (v3_4 + 1)) (lv' := [(3, .int (v3_4 + 1)), (2, .int x_2), (0, .ref a_t), (1, .int p1)]) hx hb dX1_columnBits_27 hl (k := 3) rfl rfl (by decide) rfl (fun ls hl => ?_)
        refine lv_goto (tgt := 4) hx hb dX1_columnBits_30 (by decide) ?_
        exact ih x_2 (v3_4 + 1) _ _ _ hf hP hD hS (lv_sub hl [2, 3, 1, 0] rfl)
set_option maxHeartbeats 4000000 in
set_option maxRecDepth 100000 in
theorem MX1_columnBits (l : Launch) (D : va_G) (cI cJ cB cZ cG cS : ClassId) (sz : Nat) (a_t : Nat) (a_t_upper : Nat) (a_t_lower : Nat) (a_t_sum : Nat) (p1 : Int32) (t_rows : Int32) (t_columns : Int32) (t_upper : Nat → Int32) (z_r : Int32) (hf : fX1_columnBits p1 t_rows t_upper = some (z_r)) : Met l yX1_columnBits wsX1_columnBits { frames := 1, cells := 0, slots := 0, locals := 23 } (cP D (tyL cI cJ cB cZ cG cS) [.ref a_t, .int p1] sz [(a_t, .inr (1, [.int t_rows, .int t_columns, .ref a_t_upper, .ref a_t_lower, .ref a_t_sum])), (a_t_upper, .inl (cI, 42, .inl t_upper))]) (cQi D (va_A [(a_t, .inr (1, [.int t_rows, .int t_columns, .ref a_t_upper, .ref a_t_lower, .ref a_t_sum])), (a_t_upper, .inl (cI, 42, .inl t_upper))] sz) z_r [(a_t, .inr (1, [.int t_rows, .int t_columns, .ref a_t_upper, .ref a_t_lower, .ref a_t_sum])), (a_t_upper, .inl (cI, 42, .inl t_upper))]) 0 0 (va_A [(a_t, .inr (1, [.int t_rows, .int t_columns, .ref a_t_upper, .ref a_t_lower, .ref a_t_sum])), (a_t_upper, .inl (cI, 42, .inl t_upper))] sz) := by
  refine cM (Qc := fun A => cQi D A z_r [(a_t, .inr (1, [.int t_rows, .int t_columns, .ref a_t_upper, .ref a_t_lower, .ref a_t_sum])), (a_t_upper, .inl (cI, 42, .inl t_upper))]) RX1 (by decide) rfl rfl (Nat.le_of_ble_eq_true rfl) ?_
  intro p e s m below meth c A ls hx hb hr hlk hml hown hts hK hN hP hD hS hA hl
  have X : Cx D (tyL cI cJ cB cZ cG cS) cX1_columnBits 4 (some .int) RX1 wsX1_columnBits [.ref a_t, .int p1] p s m meth c A := ⟨hx, hb, hr, hlk, hml, hown, hts, hK, hN, hA⟩
  have hl : lv_has ls 4 [(0, .ref a_t), (1, .int p1)] := hl
  unfold fX1_columnBits at hf
  refine lv_iconst (v := 0) hx hb dX1_columnBits_0 (by decide) ?_
  refine lv_istore_n (lv' := [(2, .int 0), (0, .ref a_t), (1, .int p1)]) hx hb dX1_columnBits_1 rfl hl (by decide) rfl (fun ls hl => ?_)
  refine lv_iconst (v := 0) hx hb dX1_columnBits_2 (by decide) ?_
  refine lv_istore_n (lv' := [(3, .int 0), (2, .int 0), (0, .ref a_t), (1, .int p1)]) hx hb dX1_columnBits_3 rfl hl (by decide) rfl (fun ls hl => ?_)
  exact wX1_columnBits_4 a_t a_t_upper a_t_lower a_t_sum z_r p1 t_rows t_columns t_upper X  fuelN 0 0 _ _ _ hf hP hD hS (lv_sub hl [2, 3, 1, 0] rfl)
theorem inX1_allColumns_X1 : ∀ w ∈ wsX10, w ∈ wsX1_allColumns := fun _ h => List.mem_cons_of_mem _ (List.mem_append_right _ h)
def fX1_allColumns (t_columns : Int32) : Option (Int32) :=
  some (((1 <<< (t_columns &&& 31)) - 1))
set_option maxHeartbeats 4000000 in
set_option maxRecDepth 100000 in
theorem MX1_allColumns (l : Launch) (D : va_G) (cI cJ cB cZ cG cS : ClassId) (sz : Nat) (a_t : Nat) (a_t_upper : Nat) (a_t_lower : Nat) (a_t_sum : Nat) (t_rows : Int32) (t_columns : Int32) (z_r : Int32) (hf : fX1_allColumns t_columns = some (z_r)) : Met l yX1_allColumns wsX1_allColumns { frames := 0, cells := 0, slots := 0, locals := 0 } (cP D (tyL cI cJ cB cZ cG cS) [.ref a_t] sz [(a_t, .inr (1, [.int t_rows, .int t_columns, .ref a_t_upper, .ref a_t_lower, .ref a_t_sum]))]) (cQi D (va_A [(a_t, .inr (1, [.int t_rows, .int t_columns, .ref a_t_upper, .ref a_t_lower, .ref a_t_sum]))] sz) z_r [(a_t, .inr (1, [.int t_rows, .int t_columns, .ref a_t_upper, .ref a_t_lower, .ref a_t_sum]))]) 0 0 (va_A [(a_t, .inr (1, [.int t_rows, .int t_columns, .ref a_t_upper, .ref a_t_lower, .ref a_t_sum]))] sz) := by
  refine cM (Qc := fun A => cQi D A z_r [(a_t, .inr (1, [.int t_rows, .int t_columns, .ref a_t_upper, .ref a_t_lower, .ref a_t_sum]))]) RX1 (by decide) rfl rfl (Nat.le_of_ble_eq_true rfl) ?_
  intro p e s m below meth c A ls hx hb hr hlk hml hown hts hK hN hP hD hS hA hl
  have X : Cx D (tyL cI cJ cB cZ cG cS) cX1_allColumns 1 (some .int) RX1 wsX1_allColumns [.ref a_t] p s m meth c A := ⟨hx, hb, hr, hlk, hml, hown, hts, hK, hN, hA⟩
  have hl : lv_has ls 1 [(0, .ref a_t)] := hl
  unfold fX1_allColumns at hf
  refine lv_iconst (v := 1) hx hb dX1_allColumns_0 (by decide) ?_
  refine lv_aload_n hx hb dX1_allColumns_1 rfl (lv_at hl 0 rfl) ?_
  refine va_get (D := D) (ci := 1) (v := .int t_columns) (C := RX1) (T := TX1) (N := 5) hx hb hts inX1_allColumns_X1 hown hK hP 0 rfl rfl 1 (by decide) (hts (.fieldLink RX1 15 "RowPivots$Grid" "columns" "I") (List.mem_of_getElem? (i := 1) rfl)) (fun _ h9 => h9) rfl dX1_allColumns_2 ?_
  refine lv_ishl hx hb dX1_allColumns_5 ?_
  refine lv_iconst (v := 1) hx hb dX1_allColumns_6 (by decide) ?_
  refine lv_isub hx hb dX1_allColumns_7 ?_
  have hf : (some (((1 <<< (t_columns &&& 31)) - 1)) : Option (Int32)) = some (z_r) := hf
  cases hf
  exact cRi hx hb hr hlk hP hD hS rfl dX1_allColumns_8
def fJ6_bitCount_0f7a4 (p0 : Int32) : Option (Int32) :=
  lt (p0 - ((((p0).toUInt32 >>> ((1 : Int32).toUInt32 &&& Int32.toUInt32 31)).toInt32) &&& 1431655765)) fun x_1 => lt ((x_1 &&& 858993459) + ((((x_1).toUInt32 >>> ((2 : Int32).toUInt32 &&& Int32.toUInt32 31)).toInt32) &&& 858993459)) fun x_2 => lt ((x_2 + (((x_2).toUInt32 >>> ((4 : Int32).toUInt32 &&& Int32.toUInt32 31)).toInt32)) &&& 252645135) fun x_3 => lt (x_3 + (((x_3).toUInt32 >>> ((8 : Int32).toUInt32 &&& Int32.toUInt32 31)).toInt32)) fun x_4 => lt (x_4 + (((x_4).toUInt32 >>> ((16 : Int32).toUInt32 &&& Int32.toUInt32 31)).toInt32)) fun x_5 => some ((x_5 &&& 63))
set_option maxHeartbeats 4000000 in
set_option maxRecDepth 100000 in
theorem MJ6_bitCount_0f7a4 (l : Launch) (D : va_G) (cI cJ cB cZ cG cS : ClassId) (sz : Nat) (p0 : Int32) (z_r : Int32) (hf : fJ6_bitCount_0f7a4 p0 = some (z_r)) : Met l yJ6_bitCount_0f7a4 wsJ6_bitCount_0f7a4 { frames := 0, cells := 0, slots := 0, locals := 0 } (cP D (tyL cI cJ cB cZ cG cS) [.int p0] sz []) (cQi D (va_A [] sz) z_r []) 0 0 (va_A [] sz) := by
  refine cM (Qc := fun A => cQi D A z_r []) RJ6 (by decide) rfl rfl (Nat.le_of_ble_eq_true rfl) ?_
  intro p e s m below meth c A ls hx hb hr hlk hml hown hts hK hN hP hD hS hA hl
  have X : Cx D (tyL cI cJ cB cZ cG cS) cJ6_bitCount_0f7a4 1 (some .int) RJ6 wsJ6_bitCount_0f7a4 [.int p0] p s m meth c A := ⟨hx, hb, hr, hlk, hml, hown, hts, hK, hN, hA⟩
  have hl : lv_has ls 1 [(0, .int p0)] := hl
  unfold fJ6_bitCount_0f7a4 at hf
  refine lv_iload_n hx hb dJ6_bitCount_0f7a4_0 rfl (lv_at hl 0 rfl) ?_
  refine lv_iload_n hx hb dJ6_bitCount_0f7a4_1 rfl (lv_at hl 0 rfl) ?_
  refine lv_iconst (v := 1) hx hb dJ6_bitCount_0f7a4_2 (by decide) ?_
  refine lv_iushr hx hb dJ6_bitCount_0f7a4_3 rfl ?_
  refine lv_ldcw (v := 1431655765) hx hb hown (hts (.constant RJ6 265 (1431655765)) (List.mem_of_getElem? (i := 1) rfl)) dJ6_bitCount_0f7a4_4 ?_
  refine lv_iand hx hb dJ6_bitCount_0f7a4_7 ?_
  refine lv_isub hx hb dJ6_bitCount_0f7a4_8 ?_
  refine lv_topi (fun x_1 ex_1 => ?_)
  have hf := lt_b ex_1 hf
  refine lv_istore_n (lv' := [(0, .int x_1)]) hx hb dJ6_bitCount_0f7a4_9 rfl hl (by decide) rfl (fun ls hl => ?_)
  refine lv_iload_n hx hb dJ6_bitCount_0f7a4_10 rfl (lv_at hl 0 rfl) ?_
  refine lv_ldcw (v := 858993459) hx hb hown (hts (.constant RJ6 266 (858993459)) (List.mem_of_getElem? (i := 2) rfl)) dJ6_bitCount_0f7a4_11 ?_
  refine lv_iand hx hb dJ6_bitCount_0f7a4_14 ?_
  refine lv_iload_n hx hb dJ6_bitCount_0f7a4_15 rfl (lv_at hl 0 rfl) ?_
  refine lv_iconst (v := 2) hx hb dJ6_bitCount_0f7a4_16 (by decide) ?_
  refine lv_iushr hx hb dJ6_bitCount_0f7a4_17 rfl ?_
  refine lv_ldcw (v := 858993459) hx hb hown (hts (.constant RJ6 266 (858993459)) (List.mem_of_getElem? (i := 2) rfl)) dJ6_bitCount_0f7a4_18 ?_
  refine lv_iand hx hb dJ6_bitCount_0f7a4_21 ?_
  refine lv_iadd hx hb dJ6_bitCount_0f7a4_22 ?_
  refine lv_topi (fun x_2 ex_2 => ?_)
  have hf := lt_b ex_2 hf
  refine lv_istore_n (lv' := [(0, .int x_2)]) hx hb dJ6_bitCount_0f7a4_23 rfl hl (by decide) rfl (fun ls hl => ?_)
  refine lv_iload_n hx hb dJ6_bitCount_0f7a4_24 rfl (lv_at hl 0 rfl) ?_
  refine lv_iload_n hx hb dJ6_bitCount_0f7a4_25 rfl (lv_at hl 0 rfl) ?_
  refine lv_iconst (v := 4) hx hb dJ6_bitCount_0f7a4_26 (by decide) ?_
  refine lv_iushr hx hb dJ6_bitCount_0f7a4_27 rfl ?_
  refine lv_iadd hx hb dJ6_bitCount_0f7a4_28 ?_
  refine lv_ldcw (v := 252645135) hx hb hown (hts (.constant RJ6 267 (252645135)) (List.mem_of_getElem? (i := 3) rfl)) dJ6_bitCount_0f7a4_29 ?_
  refine lv_iand hx hb dJ6_bitCount_0f7a4_32 ?_
  refine lv_topi (fun x_3 ex_3 => ?_)
  have hf := lt_b ex_3 hf
  refine lv_istore_n (lv' := [(0, .int x_3)]) hx hb dJ6_bitCount_0f7a4_33 rfl hl (by decide) rfl (fun ls hl => ?_)
  refine lv_iload_n hx hb dJ6_bitCount_0f7a4_34 rfl (lv_at hl 0 rfl) ?_
  refine lv_iload_n hx hb dJ6_bitCount_0f7a4_35 rfl (lv_at hl 0 rfl) ?_
  refine lv_bipush (v := 8) hx hb dJ6_bitCount_0f7a4_36 (by decide) ?_
  refine lv_iushr hx hb dJ6_bitCount_0f7a4_38 rfl ?_
  refine lv_iadd hx hb dJ6_bitCount_0f7a4_39 ?_
  refine lv_topi (fun x_4 ex_4 => ?_)
  have hf := lt_b ex_4 hf
  refine lv_istore_n (lv' := [(0, .int x_4)]) hx hb dJ6_bitCount_0f7a4_40 rfl hl (by decide) rfl (fun ls hl => ?_)
  refine lv_iload_n hx hb dJ6_bitCount_0f7a4_41 rfl (lv_at hl 0 rfl) ?_
  refine lv_iload_n hx hb dJ6_bitCount_0f7a4_42 rfl (lv_at hl 0 rfl) ?_
  refine lv_bipush (v := 16) hx hb dJ6_bitCount_0f7a4_43 (by decide) ?_
  refine lv_iushr hx hb dJ6_bitCount_0f7a4_45 rfl ?_
  refine lv_iadd hx hb dJ6_bitCount_0f7a4_46 ?_
  refine lv_topi (fun x_5 ex_5 => ?_)
  have hf := lt_b ex_5 hf
  refine lv_istore_n (lv' := [(0, .int x_5)]) hx hb dJ6_bitCount_0f7a4_47 rfl hl (by decide) rfl (fun ls hl => ?_)
  refine lv_iload_n hx hb dJ6_bitCount_0f7a4_48 rfl (lv_at hl 0 rfl) ?_
  refine lv_bipush (v := 63) hx hb dJ6_bitCount_0f7a4_49 (by decide) ?_
  refine lv_iand hx hb dJ6_bitCount_0f7a4_51 ?_
  have hf : (some ((x_5 &&& 63)) : Option (Int32)) = some (z_r) := hf
  cases hf
  exact cRi hx hb hr hlk hP hD hS rfl dJ6_bitCount_0f7a4_52
theorem inX1_filled_X1 : ∀ w ∈ wsX10, w ∈ wsX1_filled := fun _ h => List.mem_cons_of_mem _ (List.mem_append_right _ h)
def fX1_filled_4 (t_rows : Int32) (t_columns : Int32) (t_upper : Nat → Int32) : Nat → Int32 → Int32 → Option (Int32)
  | 0, _, _ => none
  | n + 1, v1_4, v2_4 => if t_rows ≤ v2_4 then (some (v1_4)) else ((fX1_rowBits v2_4 t_columns t_upper).bind fun u_1 => (fX1_allColumns t_columns).bind fun u_2 => (fJ6_bitCount_0f7a4 (u_1 &&& u_2)).bind fun u_3 => lt (v1_4 + u_3) fun x_4 => (fX1_filled_4 t_rows t_columns t_upper n) x_4 (v2_4 + 1))
theorem fX1_filled_4_s (t_rows : Int32) (t_columns : Int32) (t_upper : Nat → Int32) (n : Nat) (v1_4 : Int32) (v2_4 : Int32) : fX1_filled_4 t_rows t_columns t_upper (n + 1) v1_4 v2_4 = (if t_rows ≤ v2_4 then (some (v1_4)) else ((fX1_rowBits v2_4 t_columns t_upper).bind fun u_1 => (fX1_allColumns t_columns).bind fun u_2 => (fJ6_bitCount_0f7a4 (u_1 &&& u_2)).bind fun u_3 => lt (v1_4 + u_3) fun x_4 => (fX1_filled_4 t_rows t_columns t_upper n) x_4 (v2_4 + 1))) := rfl
def fX1_filled (t_rows : Int32) (t_columns : Int32) (t_upper : Nat → Int32) : Option (Int32) :=
  fX1_filled_4 t_rows t_columns t_upper fuelN 0 0
set_option maxHeartbeats 4000000 in
set_option maxRecDepth 100000 in
theorem wX1_filled_4 {l : Launch} {D : va_G} {cI cJ cB cZ cG cS : ClassId} {p : Program} {e : Env} {s : State} {m : MethodId} {below : List Frame} {meth : Method} {c : Code} {A : Nat → Prop} (a_t : Nat) (a_t_upper : Nat) (a_t_lower : Nat) (a_t_sum : Nat) (z_r : Int32) (t_rows : Int32) (t_columns : Int32) (t_upper : Nat → Int32)  (X : Cx D (tyL cI cJ cB cZ cG cS) cX1_filled 3 (some .int) RX1 wsX1_filled [.ref a_t] p s m meth c A) : ∀ (n : Nat) (v1_4 : Int32) (v2_4 : Int32) (H : Heap) (locs : List Loc) (ls : Array Slot), fX1_filled_4 t_rows t_columns t_upper n v1_4 v2_4 = some (z_r) → va_P D vwCl [(a_t, .inr (1, [.int t_rows, .int t_columns, .ref a_t_upper, .ref a_t_lower, .ref a_t_sum])), (a_t_upper, .inl (cI, 42, .inl t_upper))] H → va_D A [(a_t, .inr (1, [.int t_rows, .int t_columns, .ref a_t_upper, .ref a_t_lower, .ref a_t_sum])), (a_t_upper, .inl (cI, 42, .inl t_upper))] → va_S A s.heap H locs → lv_has ls 3 [(0, .ref a_t), (1, .int v1_4), (2, .int v2_4)] → W p l e { frames := 2, cells := 0, slots := 0, locals := 46 } s m ([.ref a_t] : List Value).toArray below meth c H locs 0 0 (MQ below (cQi D A z_r [(a_t, .inr (1, [.int t_rows, .int t_columns, .ref a_t_upper, .ref a_t_lower, .ref a_t_sum])), (a_t_upper, .inl (cI, 42, .inl t_upper))]) ([.ref a_t] : List Value).toArray s 0 0 A) (F0 m 4 ls []) := by
  obtain ⟨hx, hb, hr, hlk, hml, hown, hts, hK, hN, hA⟩ := id X
  intro n
  induction n with
  | zero =>
    intro v1_4 v2_4 H locs ls hf
    have hf : (none : Option (Int32)) = some (z_r) := hf
    cases hf
  | succ n ih =>
    intro v1_4 v2_4 H locs ls hf hP hD hS hl
    rw [fX1_filled_4_s] at hf
    refine lv_iload_n hx hb dX1_filled_4 rfl (lv_at hl 2 rfl) ?_
    refine lv_aload_n hx hb dX1_filled_5 rfl (lv_at hl 0 rfl) ?_
    refine va_get (D := D) (ci := 1) (v := .int t_rows) (C := RX1) (T := TX1) (N := 5) hx hb hts inX1_filled_X1 hown hK hP 0 rfl rfl 0 (by decide) (hts (.fieldLink RX1 9 "RowPivots$Grid" "rows" "I") (List.mem_of_getElem? (i := 1) rfl)) (fun _ h9 => h9) rfl dX1_filled_6 ?_
    refine lv_icmp_ge (tgt := 34) hx hb dX1_filled_9 (by decide) (fun hc_9 => ?_) (fun hc_9 => ?_)
    · have hf := ifP hc_9 hf
      refine lv_iload_n hx hb dX1_filled_34 rfl (lv_at hl 1 rfl) ?_
      have hf : (some (v1_4) : Option (Int32)) = some (z_r) := hf
      cases hf
      exact cRi hx hb hr hlk hP hD hS rfl dX1_filled_35
    · have hf := ifN hc_9 hf
      refine lv_iload_n hx hb dX1_filled_12 rfl (lv_at hl 1 rfl) ?_
      refine lv_aload_n hx hb dX1_filled_13 rfl (lv_at hl 0 rfl) ?_
      refine lv_iload_n hx hb dX1_filled_14 rfl (lv_at hl 2 rfl) ?_
      obtain ⟨u_1, hcu_1, hf⟩ := bdS hf
      refine kVi (As := [.int v2_4]) (rest := [.int v1_4]) (w2 := [(a_t, .inr (1, [.int t_rows, .int t_columns, .ref a_t_upper, .ref a_t_lower, .ref a_t_sum])), (a_t_upper, .inl (cI, 42, .inl t_upper))]) (wr := []) (ci := 1) (q0 := 0) ⟨hx, hb, hml, hown, hts⟩ (MX1_rowBits l D cI cJ cB cZ cG cS _ a_t a_t_upper a_t_lower a_t_sum v2_4 t_rows t_columns t_upper u_1 hcu_1) (cwV 1 hts gX1_filled_X1_rowBits rfl rfl rfl (by decide +kernel) ⟨Nat.le_of_ble_eq_true rfl, Nat.le_of_ble_eq_true rfl⟩) hK hN hP hD hS hA [0, 1] [] [0, 1] rfl (by decide) rfl (by decide) (by decide) rfl (by decide) rfl rfl rfl hl.1 rfl (Nat.le_of_ble_eq_true rfl) dX1_filled_15 ⟨Nat.zero_le _, Nat.zero_le _⟩ (fun H locs hP hD hS => ?_)
      refine lv_aload_n hx hb dX1_filled_18 rfl (lv_at hl 0 rfl) ?_
      obtain ⟨u_2, hcu_2, hf⟩ := bdS hf
      refine kVi (As := []) (rest := [.int u_1, .int v1_4]) (w2 := [(a_t, .inr (1, [.int t_rows, .int t_columns, .ref a_t_upper, .ref a_t_lower, .ref a_t_sum])), (a_t_upper, .inl (cI, 42, .inl t_upper))]) (wr := [(a_t_upper, .inl (cI, 42, .inl t_upper))]) (ci := 1) (q0 := 0) ⟨hx, hb, hml, hown, hts⟩ (MX1_allColumns l D cI cJ cB cZ cG cS _ a_t a_t_upper a_t_lower a_t_sum t_rows t_columns u_2 hcu_2) (cwV 0 hts gX1_filled_X1_allColumns rfl rfl rfl (by decide +kernel) ⟨Nat.le_of_ble_eq_true rfl, Nat.le_of_ble_eq_true rfl⟩) hK hN hP hD hS hA [0] [1] [1, 0] rfl (by decide) rfl (by decide) (by decide) rfl (by decide) rfl rfl rfl hl.1 rfl (Nat.le_of_ble_eq_true rfl) dX1_filled_19 ⟨Nat.zero_le _, Nat.zero_le _⟩ (fun H locs hP hD hS => ?_)
      refine lv_iand hx hb dX1_filled_22 ?_
      obtain ⟨u_3, hcu_3, hf⟩ := bdS hf
      refine kSi (As := [.int (u_1 &&& u_2)]) (rest := [.int v1_4]) (w2 := [(a_t, .inr (1, [.int t_rows, .int t_columns, .ref a_t_upper, .ref a_t_lower, .ref a_t_sum])), (a_t_upper, .inl (cI, 42, .inl t_upper))]) (wr := [(a_t, .inr (1, [.int t_rows, .int t_columns, .ref a_t_upper, .ref a_t_lower, .ref a_t_sum])), (a_t_upper, .inl (cI, 42, .inl t_upper))]) ⟨hx, hb, hml, hown, hts⟩ (MJ6_bitCount_0f7a4 l D cI cJ cB cZ cG cS _  (u_1 &&& u_2) u_3 hcu_3) (va_cwS 1 hts gX1_filled_J6_bitCount_0f7a4 rfl rfl rfl (by decide +kernel) ⟨Nat.le_of_ble_eq_true rfl, Nat.le_of_ble_eq_true rfl⟩) hK hN hP hD hS hA [] [0, 1] [0, 1] rfl (by decide) rfl (by decide) (by decide) rfl (by decide) rfl hl.1 rfl (Nat.le_of_ble_eq_true rfl) dX1_filled_23 ⟨Nat.zero_le _, Nat.zero_le _⟩ (fun H locs hP hD hS => ?_)
      refine lv_iadd hx hb dX1_filled_26 ?_
      refine lv_topi (fun x_4 ex_4 => ?_)
      have hf := lt_b ex_4 hf
      refine lv_istore_n (lv' := [(1, .int x_4), (0, .ref a_t), (2, .int v2_4)]) hx hb dX1_filled_27 rfl hl (by decide) rfl (fun ls hl => ?_)
      refine lv_iinc (v := (v2_4 + 1)) (lv' := [(2, .int (v2_4 + 1)), (1, .int x_4), (0, .ref a_t)]) hx hb dX1_filled_28 hl (k := 2) rfl rfl (by decide) rfl (fun ls hl => ?_)
      refine lv_goto (tgt := 4) hx hb dX1_filled_31 (by decide) ?_
      exact ih x_4 (v2_4 + 1) _ _ _ hf hP hD hS (lv_sub hl [2, 1, 0] rfl)
set_option maxHeartbeats 4000000 in
set_option maxRecDepth 100000 in
theorem MX1_filled (l : Launch) (D : va_G) (cI cJ cB cZ cG cS : ClassId) (sz : Nat) (a_t : Nat) (a_t_upper : Nat) (a_t_lower : Nat) (a_t_sum : Nat) (t_rows : Int32) (t_columns : Int32) (t_upper : Nat → Int32) (z_r : Int32) (hf : fX1_filled t_rows t_columns t_upper = some (z_r)) : Met l yX1_filled wsX1_filled { frames := 2, cells := 0, slots := 0, locals := 46 } (cP D (tyL cI cJ cB cZ cG cS) [.ref a_t] sz [(a_t, .inr (1, [.int t_rows, .int t_columns, .ref a_t_upper, .ref a_t_lower, .ref a_t_sum])), (a_t_upper, .inl (cI, 42, .inl t_upper))]) (cQi D (va_A [(a_t, .inr (1, [.int t_rows, .int t_columns, .ref a_t_upper, .ref a_t_lower, .ref a_t_sum])), (a_t_upper, .inl (cI, 42, .inl t_upper))] sz) z_r [(a_t, .inr (1, [.int t_rows, .int t_columns, .ref a_t_upper, .ref a_t_lower, .ref a_t_sum])), (a_t_upper, .inl (cI, 42, .inl t_upper))]) 0 0 (va_A [(a_t, .inr (1, [.int t_rows, .int t_columns, .ref a_t_upper, .ref a_t_lower, .ref a_t_sum])), (a_t_upper, .inl (cI, 42, .inl t_upper))] sz) := by
  refine cM (Qc := fun A => cQi D A z_r [(a_t, .inr (1, [.int t_rows, .int t_columns, .ref a_t_upper, .ref a_t_lower, .ref a_t_sum])), (a_t_upper, .inl (cI, 42, .inl t_upper))]) RX1 (by decide) rfl rfl (Nat.le_of_ble_eq_true rfl) ?_
  intro p e s m below meth c A ls hx hb hr hlk hml hown hts hK hN hP hD hS hA hl
  have X : Cx D (tyL cI cJ cB cZ cG cS) cX1_filled 3 (some .int) RX1 wsX1_filled [.ref a_t] p s m meth c A := ⟨hx, hb, hr, hlk, hml, hown, hts, hK, hN, hA⟩
  have hl : lv_has ls 3 [(0, .ref a_t)] := hl
  unfold fX1_filled at hf
  refine lv_iconst (v := 0) hx hb dX1_filled_0 (by decide) ?_
  refine lv_istore_n (lv' := [(1, .int 0), (0, .ref a_t)]) hx hb dX1_filled_1 rfl hl (by decide) rfl (fun ls hl => ?_)
  refine lv_iconst (v := 0) hx hb dX1_filled_2 (by decide) ?_
  refine lv_istore_n (lv' := [(2, .int 0), (1, .int 0), (0, .ref a_t)]) hx hb dX1_filled_3 rfl hl (by decide) rfl (fun ls hl => ?_)
  exact wX1_filled_4 a_t a_t_upper a_t_lower a_t_sum z_r t_rows t_columns t_upper X  fuelN 0 0 _ _ _ hf hP hD hS (lv_sub hl [2, 1, 0] rfl)
theorem inX2_forget_X2 : ∀ w ∈ wsX20, w ∈ wsX2_forget := fun _ h => List.mem_cons_of_mem _ (List.mem_append_right _ h)
def fX2_forget : Option (Int32 × Int32) :=
  some (0, 0)
set_option maxHeartbeats 4000000 in
set_option maxRecDepth 100000 in
theorem MX2_forget (l : Launch) (D : va_G) (cI cJ cB cZ cG cS : ClassId) (sz : Nat) (a_t : Nat) (a_t_kept : Nat) (t_size : Int32) (t_top : Int32) (z_t_size : Int32) (z_t_top : Int32) (hf : fX2_forget = some (z_t_size, z_t_top)) : Met l yX2_forget wsX2_forget { frames := 0, cells := 0, slots := 0, locals := 0 } (cP D (tyL cI cJ cB cZ cG cS) [.ref a_t] sz [(a_t, .inr (2, [.int t_size, .ref a_t_kept, .int t_top]))]) (cQv D (va_A [(a_t, .inr (2, [.int t_size, .ref a_t_kept, .int t_top]))] sz) [(a_t, .inr (2, [.int z_t_size, .ref a_t_kept, .int z_t_top]))]) 0 0 (va_A [(a_t, .inr (2, [.int t_size, .ref a_t_kept, .int t_top]))] sz) := by
  refine cM (Qc := fun A => cQv D A [(a_t, .inr (2, [.int z_t_size, .ref a_t_kept, .int z_t_top]))]) RX2 (by decide) rfl rfl (Nat.le_of_ble_eq_true rfl) ?_
  intro p e s m below meth c A ls hx hb hr hlk hml hown hts hK hN hP hD hS hA hl
  have X : Cx D (tyL cI cJ cB cZ cG cS) cX2_forget 1 none RX2 wsX2_forget [.ref a_t] p s m meth c A := ⟨hx, hb, hr, hlk, hml, hown, hts, hK, hN, hA⟩
  have hl : lv_has ls 1 [(0, .ref a_t)] := hl
  unfold fX2_forget at hf
  refine lv_aload_n hx hb dX2_forget_0 rfl (lv_at hl 0 rfl) ?_
  refine lv_iconst (v := 0) hx hb dX2_forget_1 (by decide) ?_
  refine va_put (D := D) (ci := 2) (v := .int 0) (ty := .int) (C := RX2) (T := TX2) (N := 3) hx hb hts inX2_forget_X2 tyX2 tyX2_ok nmX2 hown hK hP hD hS 0 rfl rfl 0 (by decide) (hts (.fieldLink RX2 26 "RowPivots$Past" "size" "I") (List.mem_of_getElem? (i := 1) rfl)) (fun _ h9 => h9) rfl (by decide +kernel) rfl rfl (Nat.le_of_ble_eq_true rfl) dX2_forget_2 (fun H locs hP hD hS => ?_)
  have hP : va_P D vwCl [(a_t, .inr (2, [.int 0, .ref a_t_kept, .int t_top]))] H := hP
  have hD : va_D A [(a_t, .inr (2, [.int 0, .ref a_t_kept, .int t_top]))] := hD
  refine lv_aload_n hx hb dX2_forget_5 rfl (lv_at hl 0 rfl) ?_
  refine lv_iconst (v := 0) hx hb dX2_forget_6 (by decide) ?_
  refine va_put (D := D) (ci := 2) (v := .int 0) (ty := .int) (C := RX2) (T := TX2) (N := 3) hx hb hts inX2_forget_X2 tyX2 tyX2_ok nmX2 hown hK hP hD hS 0 rfl rfl 2 (by decide) (hts (.fieldLink RX2 17 "RowPivots$Past" "top" "I") (List.mem_of_getElem? (i := 2) rfl)) (fun _ h9 => h9) rfl (by decide +kernel) rfl rfl (Nat.le_of_ble_eq_true rfl) dX2_forget_7 (fun H locs hP hD hS => ?_)
  have hP : va_P D vwCl [(a_t, .inr (2, [.int 0, .ref a_t_kept, .int 0]))] H := hP
  have hD : va_D A [(a_t, .inr (2, [.int 0, .ref a_t_kept, .int 0]))] := hD
  have hf : (some (0, 0) : Option (Int32 × Int32)) = some (z_t_size, z_t_top) := hf
  cases hf
  exact cRv hx hb hr hlk hP hD hS dX2_forget_10
theorem inX3_minus_X3 : ∀ w ∈ wsX30, w ∈ wsX3_minus := fun _ h => List.mem_cons_of_mem _ (List.mem_append_right _ h)
def fX3_minus (p1 : Int64) (p2 : Int64) (t_upper : Int64) (t_lower : Int64) (t_isLong : Int32) : Option (Int64 × Int64 × Int32) :=
  (fX3_settle ((t_upper * p2) - (p1 * t_lower)) (t_lower * p2) t_isLong).bind fun u_1 => some (u_1.1, u_1.2.1, u_1.2.2)
set_option maxHeartbeats 4000000 in
set_option maxRecDepth 100000 in
theorem MX3_minus (l : Launch) (D : va_G) (cI cJ cB cZ cG cS : ClassId) (sz : Nat) (a_t : Nat) (p1 : Int64) (p2 : Int64) (t_upper : Int64) (t_lower : Int64) (t_isLong : Int32) (z_t_upper : Int64) (z_t_lower : Int64) (z_t_isLong : Int32) (hf : fX3_minus p1 p2 t_upper t_lower t_isLong = some (z_t_upper, z_t_lower, z_t_isLong)) : Met l yX3_minus wsX3_minus { frames := 2, cells := 0, slots := 0, locals := 51 } (cP D (tyL cI cJ cB cZ cG cS) [.ref a_t, .long p1, .long p2] sz [(a_t, .inr (3, [.long t_upper, .long t_lower, .int t_isLong]))]) (cQv D (va_A [(a_t, .inr (3, [.long t_upper, .long t_lower, .int t_isLong]))] sz) [(a_t, .inr (3, [.long z_t_upper, .long z_t_lower, .int z_t_isLong]))]) 0 0 (va_A [(a_t, .inr (3, [.long t_upper, .long t_lower, .int t_isLong]))] sz) := by
  refine cM (Qc := fun A => cQv D A [(a_t, .inr (3, [.long z_t_upper, .long z_t_lower, .int z_t_isLong]))]) RX3 (by decide) rfl rfl (Nat.le_of_ble_eq_true rfl) ?_
  intro p e s m below meth c A ls hx hb hr hlk hml hown hts hK hN hP hD hS hA hl
  have X : Cx D (tyL cI cJ cB cZ cG cS) cX3_minus 5 none RX3 wsX3_minus [.ref a_t, .long p1, .long p2] p s m meth c A := ⟨hx, hb, hr, hlk, hml, hown, hts, hK, hN, hA⟩
  have hl : lv_has ls 5 [(0, .ref a_t), (1, .long p1), (3, .long p2)] := hl
  unfold fX3_minus at hf
  refine lv_aload_n hx hb dX3_minus_0 rfl (lv_at hl 0 rfl) ?_
  refine lv_aload_n hx hb dX3_minus_1 rfl (lv_at hl 0 rfl) ?_
  refine va_get (D := D) (ci := 3) (v := .long t_upper) (C := RX3) (T := TX3) (N := 3) hx hb hts inX3_minus_X3 hown hK hP 0 rfl rfl 0 (by decide) (hts (.fieldLink RX3 29 "RowPivots$Ratio" "upper" "J") (List.mem_of_getElem? (i := 1) rfl)) (fun _ h9 => h9) rfl dX3_minus_2 ?_
  refine lv_lload_n hx hb dX3_minus_5 rfl (lv_at hl 2 rfl) ?_
  refine lv_lmul hx hb dX3_minus_6 ?_
  refine lv_lload_n hx hb dX3_minus_7 rfl (lv_at hl 1 rfl) ?_
  refine lv_aload_n hx hb dX3_minus_8 rfl (lv_at hl 0 rfl) ?_
  refine va_get (D := D) (ci := 3) (v := .long t_lower) (C := RX3) (T := TX3) (N := 3) hx hb hts inX3_minus_X3 hown hK hP 0 rfl rfl 1 (by decide) (hts (.fieldLink RX3 9 "RowPivots$Ratio" "lower" "J") (List.mem_of_getElem? (i := 2) rfl)) (fun _ h9 => h9) rfl dX3_minus_9 ?_
  refine lv_lmul hx hb dX3_minus_12 ?_
  refine lv_lsub hx hb dX3_minus_13 ?_
  refine lv_aload_n hx hb dX3_minus_14 rfl (lv_at hl 0 rfl) ?_
  refine va_get (D := D) (ci := 3) (v := .long t_lower) (C := RX3) (T := TX3) (N := 3) hx hb hts inX3_minus_X3 hown hK hP 0 rfl rfl 1 (by decide) (hts (.fieldLink RX3 9 "RowPivots$Ratio" "lower" "J") (List.mem_of_getElem? (i := 2) rfl)) (fun _ h9 => h9) rfl dX3_minus_15 ?_
  refine lv_lload_n hx hb dX3_minus_18 rfl (lv_at hl 2 rfl) ?_
  refine lv_lmul hx hb dX3_minus_19 ?_
  obtain ⟨u_1, hcu_1, hf⟩ := bdS hf
  refine kVv (As := [.long ((t_upper * p2) - (p1 * t_lower)), .long (t_lower * p2)]) (rest := []) (w2 := [(a_t, .inr (3, [.long u_1.1, .long u_1.2.1, .int u_1.2.2]))]) (wr := []) (ci := 3) (q0 := 0) ⟨hx, hb, hml, hown, hts⟩ (MX3_settle l D cI cJ cB cZ cG cS _ a_t ((t_upper * p2) - (p1 * t_lower)) (t_lower * p2) t_upper t_lower t_isLong u_1.1 u_1.2.1 u_1.2.2 hcu_1) (cwV 2 hts gX3_minus_X3_settle rfl rfl rfl (by decide +kernel) ⟨Nat.le_of_ble_eq_true rfl, Nat.le_of_ble_eq_true rfl⟩) hK hN hP hD hS hA [0] [] [0] rfl (by decide) rfl (by decide) (by decide) rfl (by decide) rfl rfl rfl hl.1 rfl (Nat.le_of_ble_eq_true rfl) dX3_minus_20 ⟨Nat.zero_le _, Nat.zero_le _⟩ (fun H locs hP hD hS => ?_)
  have hf : (some (u_1.1, u_1.2.1, u_1.2.2) : Option (Int64 × Int64 × Int32)) = some (z_t_upper, z_t_lower, z_t_isLong) := hf
  cases hf
  exact cRv hx hb hr hlk hP hD hS dX3_minus_23
theorem inX3_over_X3 : ∀ w ∈ wsX30, w ∈ wsX3_over := fun _ h => List.mem_cons_of_mem _ (List.mem_append_right _ h)
def fX3_over (p1 : Int64) (p2 : Int64) (t_upper : Int64) (t_lower : Int64) (t_isLong : Int32) : Option (Int64 × Int64 × Int32) :=
  (fX3_settle (t_upper * p2) (t_lower * p1) t_isLong).bind fun u_1 => some (u_1.1, u_1.2.1, u_1.2.2)
set_option maxHeartbeats 4000000 in
set_option maxRecDepth 100000 in
theorem MX3_over (l : Launch) (D : va_G) (cI cJ cB cZ cG cS : ClassId) (sz : Nat) (a_t : Nat) (p1 : Int64) (p2 : Int64) (t_upper : Int64) (t_lower : Int64) (t_isLong : Int32) (z_t_upper : Int64) (z_t_lower : Int64) (z_t_isLong : Int32) (hf : fX3_over p1 p2 t_upper t_lower t_isLong = some (z_t_upper, z_t_lower, z_t_isLong)) : Met l yX3_over wsX3_over { frames := 2, cells := 0, slots := 0, locals := 51 } (cP D (tyL cI cJ cB cZ cG cS) [.ref a_t, .long p1, .long p2] sz [(a_t, .inr (3, [.long t_upper, .long t_lower, .int t_isLong]))]) (cQv D (va_A [(a_t, .inr (3, [.long t_upper, .long t_lower, .int t_isLong]))] sz) [(a_t, .inr (3, [.long z_t_upper, .long z_t_lower, .int z_t_isLong]))]) 0 0 (va_A [(a_t, .inr (3, [.long t_upper, .long t_lower, .int t_isLong]))] sz) := by
  refine cM (Qc := fun A => cQv D A [(a_t, .inr (3, [.long z_t_upper, .long z_t_lower, .int z_t_isLong]))]) RX3 (by decide) rfl rfl (Nat.le_of_ble_eq_true rfl) ?_
  intro p e s m below meth c A ls hx hb hr hlk hml hown hts hK hN hP hD hS hA hl
  have X : Cx D (tyL cI cJ cB cZ cG cS) cX3_over 5 none RX3 wsX3_over [.ref a_t, .long p1, .long p2] p s m meth c A := ⟨hx, hb, hr, hlk, hml, hown, hts, hK, hN, hA⟩
  have hl : lv_has ls 5 [(0, .ref a_t), (1, .long p1), (3, .long p2)] := hl
  unfold fX3_over at hf
  refine lv_aload_n hx hb dX3_over_0 rfl (lv_at hl 0 rfl) ?_
  refine lv_aload_n hx hb dX3_over_1 rfl (lv_at hl 0 rfl) ?_
  refine va_get (D := D) (ci := 3) (v := .long t_upper) (C := RX3) (T := TX3) (N := 3) hx hb hts inX3_over_X3 hown hK hP 0 rfl rfl 0 (by decide) (hts (.fieldLink RX3 29 "RowPivots$Ratio" "upper" "J") (List.mem_of_getElem? (i := 1) rfl)) (fun _ h9 => h9) rfl dX3_over_2 ?_
  refine lv_lload_n hx hb dX3_over_5 rfl (lv_at hl 2 rfl) ?_
  refine lv_lmul hx hb dX3_over_6 ?_
  refine lv_aload_n hx hb dX3_over_7 rfl (lv_at hl 0 rfl) ?_
  refine va_get (D := D) (ci := 3) (v := .long t_lower) (C := RX3) (T := TX3) (N := 3) hx hb hts inX3_over_X3 hown hK hP 0 rfl rfl 1 (by decide) (hts (.fieldLink RX3 9 "RowPivots$Ratio" "lower" "J") (List.mem_of_getElem? (i := 2) rfl)) (fun _ h9 => h9) rfl dX3_over_8 ?_
  refine lv_lload_n hx hb dX3_over_11 rfl (lv_at hl 1 rfl) ?_
  refine lv_lmul hx hb dX3_over_12 ?_
  obtain ⟨u_1, hcu_1, hf⟩ := bdS hf
  refine kVv (As := [.long (t_upper * p2), .long (t_lower * p1)]) (rest := []) (w2 := [(a_t, .inr (3, [.long u_1.1, .long u_1.2.1, .int u_1.2.2]))]) (wr := []) (ci := 3) (q0 := 0) ⟨hx, hb, hml, hown, hts⟩ (MX3_settle l D cI cJ cB cZ cG cS _ a_t (t_upper * p2) (t_lower * p1) t_upper t_lower t_isLong u_1.1 u_1.2.1 u_1.2.2 hcu_1) (cwV 2 hts gX3_over_X3_settle rfl rfl rfl (by decide +kernel) ⟨Nat.le_of_ble_eq_true rfl, Nat.le_of_ble_eq_true rfl⟩) hK hN hP hD hS hA [0] [] [0] rfl (by decide) rfl (by decide) (by decide) rfl (by decide) rfl rfl rfl hl.1 rfl (Nat.le_of_ble_eq_true rfl) dX3_over_13 ⟨Nat.zero_le _, Nat.zero_le _⟩ (fun H locs hP hD hS => ?_)
  have hf : (some (u_1.1, u_1.2.1, u_1.2.2) : Option (Int64 × Int64 × Int32)) = some (z_t_upper, z_t_lower, z_t_isLong) := hf
  cases hf
  exact cRv hx hb hr hlk hP hD hS dX3_over_16
theorem inX3_negate_X3 : ∀ w ∈ wsX30, w ∈ wsX3_negate := fun _ h => List.mem_cons_of_mem _ (List.mem_append_right _ h)
def fX3_negate (t_upper : Int64) : Option (Int64) :=
  lt (-t_upper) fun x_1 => some (x_1)
set_option maxHeartbeats 4000000 in
set_option maxRecDepth 100000 in
theorem MX3_negate (l : Launch) (D : va_G) (cI cJ cB cZ cG cS : ClassId) (sz : Nat) (a_t : Nat) (t_upper : Int64) (t_lower : Int64) (t_isLong : Int32) (z_t_upper : Int64) (hf : fX3_negate t_upper = some (z_t_upper)) : Met l yX3_negate wsX3_negate { frames := 0, cells := 0, slots := 0, locals := 0 } (cP D (tyL cI cJ cB cZ cG cS) [.ref a_t] sz [(a_t, .inr (3, [.long t_upper, .long t_lower, .int t_isLong]))]) (cQv D (va_A [(a_t, .inr (3, [.long t_upper, .long t_lower, .int t_isLong]))] sz) [(a_t, .inr (3, [.long z_t_upper, .long t_lower, .int t_isLong]))]) 0 0 (va_A [(a_t, .inr (3, [.long t_upper, .long t_lower, .int t_isLong]))] sz) := by
  refine cM (Qc := fun A => cQv D A [(a_t, .inr (3, [.long z_t_upper, .long t_lower, .int t_isLong]))]) RX3 (by decide) rfl rfl (Nat.le_of_ble_eq_true rfl) ?_
  intro p e s m below meth c A ls hx hb hr hlk hml hown hts hK hN hP hD hS hA hl
  have X : Cx D (tyL cI cJ cB cZ cG cS) cX3_negate 1 none RX3 wsX3_negate [.ref a_t] p s m meth c A := ⟨hx, hb, hr, hlk, hml, hown, hts, hK, hN, hA⟩
  have hl : lv_has ls 1 [(0, .ref a_t)] := hl
  unfold fX3_negate at hf
  refine lv_aload_n hx hb dX3_negate_0 rfl (lv_at hl 0 rfl) ?_
  refine lv_aload_n hx hb dX3_negate_1 rfl (lv_at hl 0 rfl) ?_
  refine va_get (D := D) (ci := 3) (v := .long t_upper) (C := RX3) (T := TX3) (N := 3) hx hb hts inX3_negate_X3 hown hK hP 0 rfl rfl 0 (by decide) (hts (.fieldLink RX3 29 "RowPivots$Ratio" "upper" "J") (List.mem_of_getElem? (i := 1) rfl)) (fun _ h9 => h9) rfl dX3_negate_2 ?_
  refine lv_lneg hx hb dX3_negate_5 ?_
  refine lv_topl (fun x_1 ex_1 => ?_)
  have hf := lt_b ex_1 hf
  refine va_put (D := D) (ci := 3) (v := .long x_1) (ty := .long) (C := RX3) (T := TX3) (N := 3) hx hb hts inX3_negate_X3 tyX3 tyX3_ok nmX3 hown hK hP hD hS 0 rfl rfl 0 (by decide) (hts (.fieldLink RX3 29 "RowPivots$Ratio" "upper" "J") (List.mem_of_getElem? (i := 1) rfl)) (fun _ h9 => h9) rfl (by decide +kernel) rfl rfl (Nat.le_of_ble_eq_true rfl) dX3_negate_6 (fun H locs hP hD hS => ?_)
  have hP : va_P D vwCl [(a_t, .inr (3, [.long x_1, .long t_lower, .int t_isLong]))] H := hP
  have hD : va_D A [(a_t, .inr (3, [.long x_1, .long t_lower, .int t_isLong]))] := hD
  have hf : (some (x_1) : Option (Int64)) = some (z_t_upper) := hf
  cases hf
  exact cRv hx hb hr hlk hP hD hS dX3_negate_9
theorem inX3_answer_X3 : ∀ w ∈ wsX30, w ∈ wsX3_answer := fun _ h => List.mem_cons_of_mem _ (List.mem_append_right _ h)
def fX3_answer (p1 : Int32) (t_upper : Int64) (t_lower : Int64) (t_isLong : Int32) : Option (Int32) :=
  if t_isLong = 0 then (if p1 = 0 then (some ((t_upper.toInt32))) else (some ((t_lower.toInt32)))) else (some ((-2000000000)))
set_option maxHeartbeats 4000000 in
set_option maxRecDepth 100000 in
theorem MX3_answer (l : Launch) (D : va_G) (cI cJ cB cZ cG cS : ClassId) (sz : Nat) (a_t : Nat) (p1 : Int32) (t_upper : Int64) (t_lower : Int64) (t_isLong : Int32) (z_r : Int32) (hf : fX3_answer p1 t_upper t_lower t_isLong = some (z_r)) : Met l yX3_answer wsX3_answer { frames := 0, cells := 0, slots := 0, locals := 0 } (cP D (tyL cI cJ cB cZ cG cS) [.ref a_t, .int p1] sz [(a_t, .inr (3, [.long t_upper, .long t_lower, .int t_isLong]))]) (cQi D (va_A [(a_t, .inr (3, [.long t_upper, .long t_lower, .int t_isLong]))] sz) z_r [(a_t, .inr (3, [.long t_upper, .long t_lower, .int t_isLong]))]) 0 0 (va_A [(a_t, .inr (3, [.long t_upper, .long t_lower, .int t_isLong]))] sz) := by
  refine cM (Qc := fun A => cQi D A z_r [(a_t, .inr (3, [.long t_upper, .long t_lower, .int t_isLong]))]) RX3 (by decide) rfl rfl (Nat.le_of_ble_eq_true rfl) ?_
  intro p e s m below meth c A ls hx hb hr hlk hml hown hts hK hN hP hD hS hA hl
  have X : Cx D (tyL cI cJ cB cZ cG cS) cX3_answer 2 (some .int) RX3 wsX3_answer [.ref a_t, .int p1] p s m meth c A := ⟨hx, hb, hr, hlk, hml, hown, hts, hK, hN, hA⟩
  have hl : lv_has ls 2 [(0, .ref a_t), (1, .int p1)] := hl
  unfold fX3_answer at hf
  refine lv_aload_n hx hb dX3_answer_0 rfl (lv_at hl 0 rfl) ?_
  refine va_get (D := D) (ci := 3) (v := .int t_isLong) (C := RX3) (T := TX3) (N := 3) hx hb hts inX3_answer_X3 hown hK hP 0 rfl rfl 2 (by decide) (hts (.fieldLink RX3 15 "RowPivots$Ratio" "isLong" "Z") (List.mem_of_getElem? (i := 1) rfl)) (fun _ h9 => h9) rfl dX3_answer_1 ?_
  refine lv_if_eq (tgt := 10) hx hb dX3_answer_4 (by decide) (fun hc_4 => ?_) (fun hc_4 => ?_)
  · have hf := ifP hc_4 hf
    refine lv_iload_n hx hb dX3_answer_10 rfl (lv_at hl 1 rfl) ?_
    refine lv_if_eq (tgt := 21) hx hb dX3_answer_11 (by decide) (fun hc_11 => ?_) (fun hc_11 => ?_)
    · have hf := ifP hc_11 hf
      refine lv_aload_n hx hb dX3_answer_21 rfl (lv_at hl 0 rfl) ?_
      refine va_get (D := D) (ci := 3) (v := .long t_upper) (C := RX3) (T := TX3) (N := 3) hx hb hts inX3_answer_X3 hown hK hP 0 rfl rfl 0 (by decide) (hts (.fieldLink RX3 29 "RowPivots$Ratio" "upper" "J") (List.mem_of_getElem? (i := 4) rfl)) (fun _ h9 => h9) rfl dX3_answer_22 ?_
      refine lv_l2i hx hb dX3_answer_25 rfl ?_
      have hf : (some ((t_upper.toInt32)) : Option (Int32)) = some (z_r) := hf
      cases hf
      exact cRi hx hb hr hlk hP hD hS rfl dX3_answer_26
    · have hf := ifN hc_11 hf
      refine lv_aload_n hx hb dX3_answer_14 rfl (lv_at hl 0 rfl) ?_
      refine va_get (D := D) (ci := 3) (v := .long t_lower) (C := RX3) (T := TX3) (N := 3) hx hb hts inX3_answer_X3 hown hK hP 0 rfl rfl 1 (by decide) (hts (.fieldLink RX3 9 "RowPivots$Ratio" "lower" "J") (List.mem_of_getElem? (i := 3) rfl)) (fun _ h9 => h9) rfl dX3_answer_15 ?_
      refine lv_goto (tgt := 25) hx hb dX3_answer_18 (by decide) ?_
      refine lv_l2i hx hb dX3_answer_25 rfl ?_
      have hf : (some ((t_lower.toInt32)) : Option (Int32)) = some (z_r) := hf
      cases hf
      exact cRi hx hb hr hlk hP hD hS rfl dX3_answer_26
  · have hf := ifN hc_4 hf
    refine lv_ldc (v := (-2000000000)) hx hb hown (hts (.constant RX3 35 (-2000000000)) (List.mem_of_getElem? (i := 2) rfl)) dX3_answer_7 ?_
    have hf : (some ((-2000000000)) : Option (Int32)) = some (z_r) := hf
    cases hf
    exact cRi hx hb hr hlk hP hD hS rfl dX3_answer_9
theorem inX8_copy_X8 : ∀ w ∈ wsX80, w ∈ wsX8_copy := fun _ h => List.mem_cons_of_mem _ (List.mem_append_right _ h)
def fX8_copy (t_bytes : Nat → Int32) (p1_length : Int32) (p1_bytes : Nat → Int32) : Option (Int32 × (Nat → Int32)) :=
  acB 400 400 p1_bytes 0 0 400 <| lt (va_cpy p1_bytes t_bytes (0 : Int32).toNatClampNeg (0 : Int32).toNatClampNeg (400 : Int32).toNatClampNeg) fun g_1 => some (p1_length, g_1)
set_option maxHeartbeats 4000000 in
set_option maxRecDepth 100000 in
theorem MX8_copy (l : Launch) (D : va_G) (cI cJ cB cZ cG cS : ClassId) (sz : Nat) (a_t : Nat) (a_p1 : Nat) (a_t_bytes : Nat) (a_p1_bytes : Nat) (t_length : Int32) (t_bytes : Nat → Int32) (p1_length : Int32) (p1_bytes : Nat → Int32) (z_t_length : Int32) (z_t_bytes : Nat → Int32) (hf : fX8_copy t_bytes p1_length p1_bytes = some (z_t_length, z_t_bytes)) : Met l yX8_copy wsX8_copy { frames := 1, cells := 0, slots := 0, locals := 64 } (cP D (tyL cI cJ cB cZ cG cS) [.ref a_t, .ref a_p1] sz [(a_t, .inr (8, [.int t_length, .ref a_t_bytes])), (a_t_bytes, .inl (cB, 400, .inl t_bytes)), (a_p1, .inr (8, [.int p1_length, .ref a_p1_bytes])), (a_p1_bytes, .inl (cB, 400, .inl p1_bytes))]) (cQv D (va_A [(a_t, .inr (8, [.int t_length, .ref a_t_bytes])), (a_t_bytes, .inl (cB, 400, .inl t_bytes)), (a_p1, .inr (8, [.int p1_length, .ref a_p1_bytes])), (a_p1_bytes, .inl (cB, 400, .inl p1_bytes))] sz) [(a_t, .inr (8, [.int z_t_length, .ref a_t_bytes])), (a_t_bytes, .inl (cB, 400, .inl z_t_bytes)), (a_p1, .inr (8, [.int p1_length, .ref a_p1_bytes])), (a_p1_bytes, .inl (cB, 400, .inl p1_bytes))]) 0 0 (va_A [(a_t, .inr (8, [.int t_length, .ref a_t_bytes])), (a_t_bytes, .inl (cB, 400, .inl t_bytes)), (a_p1, .inr (8, [.int p1_length, .ref a_p1_bytes])), (a_p1_bytes, .inl (cB, 400, .inl p1_bytes))] sz) := by
  refine cM (Qc := fun A => cQv D A [(a_t, .inr (8, [.int z_t_length, .ref a_t_bytes])), (a_t_bytes, .inl (cB, 400, .inl z_t_bytes)), (a_p1, .inr (8, [.int p1_length, .ref a_p1_bytes])), (a_p1_bytes, .inl (cB, 400, .inl p1_bytes))]) RX8 (by decide) rfl rfl (Nat.le_of_ble_eq_true rfl) ?_
  intro p e s m below meth c A ls hx hb hr hlk hml hown hts hK hN hP hD hS hA hl
  have X : Cx D (tyL cI cJ cB cZ cG cS) cX8_copy 2 none RX8 wsX8_copy [.ref a_t, .ref a_p1] p s m meth c A := ⟨hx, hb, hr, hlk, hml, hown, hts, hK, hN, hA⟩
  have hl : lv_has ls 2 [(0, .ref a_t), (1, .ref a_p1)] := hl
  unfold fX8_copy at hf
  refine lv_aload_n hx hb dX8_copy_0 rfl (lv_at hl 0 rfl) ?_
  refine lv_aload_n hx hb dX8_copy_1 rfl (lv_at hl 1 rfl) ?_
  refine va_get (D := D) (ci := 8) (v := .int p1_length) (C := RX8) (T := TX8) (N := 2) hx hb hts inX8_copy_X8 hown hK hP 2 rfl rfl 0 (by decide) (hts (.fieldLink RX8 15 "RowPivots$Tape" "length" "I") (List.mem_of_getElem? (i := 1) rfl)) (fun _ h9 => h9) rfl dX8_copy_2 ?_
  refine va_put (D := D) (ci := 8) (v := .int p1_length) (ty := .int) (C := RX8) (T := TX8) (N := 2) hx hb hts inX8_copy_X8 tyX8 tyX8_ok nmX8 hown hK hP hD hS 0 rfl rfl 0 (by decide) (hts (.fieldLink RX8 15 "RowPivots$Tape" "length" "I") (List.mem_of_getElem? (i := 1) rfl)) (fun _ h9 => h9) rfl (by decide +kernel) rfl rfl (Nat.le_of_ble_eq_true rfl) dX8_copy_5 (fun H locs hP hD hS => ?_)
  have hP : va_P D vwCl [(a_t, .inr (8, [.int p1_length, .ref a_t_bytes])), (a_t_bytes, .inl (cB, 400, .inl t_bytes)), (a_p1, .inr (8, [.int p1_length, .ref a_p1_bytes])), (a_p1_bytes, .inl (cB, 400, .inl p1_bytes))] H := hP
  have hD : va_D A [(a_t, .inr (8, [.int p1_length, .ref a_t_bytes])), (a_t_bytes, .inl (cB, 400, .inl t_bytes)), (a_p1, .inr (8, [.int p1_length, .ref a_p1_bytes])), (a_p1_bytes, .inl (cB, 400, .inl p1_bytes))] := hD
  refine lv_aload_n hx hb dX8_copy_8 rfl (lv_at hl 1 rfl) ?_
  refine va_get (D := D) (ci := 8) (v := .ref a_p1_bytes) (C := RX8) (T := TX8) (N := 2) hx hb hts inX8_copy_X8 hown hK hP 2 rfl rfl 1 (by decide) (hts (.fieldLink RX8 9 "RowPivots$Tape" "bytes" "[B") (List.mem_of_getElem? (i := 2) rfl)) (fun _ h9 => h9) rfl dX8_copy_9 ?_
  refine lv_iconst (v := 0) hx hb dX8_copy_12 (by decide) ?_
  refine lv_aload_n hx hb dX8_copy_13 rfl (lv_at hl 0 rfl) ?_
  refine va_get (D := D) (ci := 8) (v := .ref a_t_bytes) (C := RX8) (T := TX8) (N := 2) hx hb hts inX8_copy_X8 hown hK hP 0 rfl rfl 1 (by decide) (hts (.fieldLink RX8 9 "RowPivots$Tape" "bytes" "[B") (List.mem_of_getElem? (i := 2) rfl)) (fun _ h9 => h9) rfl dX8_copy_14 ?_
  refine lv_iconst (v := 0) hx hb dX8_copy_17 (by decide) ?_
  refine lv_sipush (v := 400) hx hb dX8_copy_18 (by decide) ?_
  obtain ⟨hk_21, hf⟩ := acB_b hf
  refine va_copyi (sp := 0) (dp := 0) (n := 400) hx hb (hml.trans hl.1.symm) hown (hts (.methodLink RX8 19 arraycopyName) (List.mem_of_getElem? (i := 3) rfl)) (hts (.native arraycopyName) (List.mem_of_getElem? (i := 4) rfl)) (hts (.static arraycopyName) (List.mem_of_getElem? (i := 5) rfl)) (hts (.initialized "java/lang/System") (List.mem_of_getElem? (i := 6) rfl)) hK hP hD hS 3 1 2 2 rfl rfl rfl rfl rfl hk_21.1 hk_21.2.1 hk_21.2.2.1 hk_21.2.2.2.1 hk_21.2.2.2.2.1 hk_21.2.2.2.2.2 (Nat.le_of_ble_eq_true rfl) (Nat.le_of_ble_eq_true rfl) dX8_copy_21 (fun H locs hP hD hS => ?_)
  obtain ⟨g_1, eg_1, hP, hD⟩ : ∃ g_1 : Nat → Int32, g_1 = va_cpy p1_bytes t_bytes (0 : Int32).toNatClampNeg (0 : Int32).toNatClampNeg (400 : Int32).toNatClampNeg ∧ va_P D vwCl [(a_t, .inr (8, [.int p1_length, .ref a_t_bytes])), (a_t_bytes, .inl (cB, 400, .inl g_1)), (a_p1, .inr (8, [.int p1_length, .ref a_p1_bytes])), (a_p1_bytes, .inl (cB, 400, .inl p1_bytes))] H ∧ va_D A [(a_t, .inr (8, [.int p1_length, .ref a_t_bytes])), (a_t_bytes, .inl (cB, 400, .inl g_1)), (a_p1, .inr (8, [.int p1_length, .ref a_p1_bytes])), (a_p1_bytes, .inl (cB, 400, .inl p1_bytes))] := ⟨_, rfl, hP, hD⟩
  have hf := lt_b eg_1 hf
  have hf : (some (p1_length, g_1) : Option (Int32 × (Nat → Int32))) = some (z_t_length, z_t_bytes) := hf
  cases hf
  exact cRv hx hb hr hlk hP hD hS dX8_copy_24
theorem inX8_byteAt_X8 : ∀ w ∈ wsX80, w ∈ wsX8_byteAt := fun _ h => List.mem_cons_of_mem _ (List.mem_append_right _ h)
def fX8_byteAt (p1 : Int32) (t_length : Int32) (t_bytes : Nat → Int32) : Option (Int32) :=
  if p1 < 0 then (some ((-1))) else (if t_length ≤ p1 then (some ((-1))) else (if 400 ≤ p1 then (some ((-1))) else (inB 400 p1 <| some (((t_bytes p1.toNatClampNeg) &&& 255)))))
set_option maxHeartbeats 4000000 in
set_option maxRecDepth 100000 in
theorem MX8_byteAt (l : Launch) (D : va_G) (cI cJ cB cZ cG cS : ClassId) (sz : Nat) (a_t : Nat) (a_t_bytes : Nat) (p1 : Int32) (t_length : Int32) (t_bytes : Nat → Int32) (z_r : Int32) (hf : fX8_byteAt p1 t_length t_bytes = some (z_r)) : Met l yX8_byteAt wsX8_byteAt { frames := 0, cells := 0, slots := 0, locals := 0 } (cP D (tyL cI cJ cB cZ cG cS) [.ref a_t, .int p1] sz [(a_t, .inr (8, [.int t_length, .ref a_t_bytes])), (a_t_bytes, .inl (cB, 400, .inl t_bytes))]) (cQi D (va_A [(a_t, .inr (8, [.int t_length, .ref a_t_bytes])), (a_t_bytes, .inl (cB, 400, .inl t_bytes))] sz) z_r [(a_t, .inr (8, [.int t_length, .ref a_t_bytes])), (a_t_bytes, .inl (cB, 400, .inl t_bytes))]) 0 0 (va_A [(a_t, .inr (8, [.int t_length, .ref a_t_bytes])), (a_t_bytes, .inl (cB, 400, .inl t_bytes))] sz) := by
  refine cM (Qc := fun A => cQi D A z_r [(a_t, .inr (8, [.int t_length, .ref a_t_bytes])), (a_t_bytes, .inl (cB, 400, .inl t_bytes))]) RX8 (by decide) rfl rfl (Nat.le_of_ble_eq_true rfl) ?_
  intro p e s m below meth c A ls hx hb hr hlk hml hown hts hK hN hP hD hS hA hl
  have X : Cx D (tyL cI cJ cB cZ cG cS) cX8_byteAt 2 (some .int) RX8 wsX8_byteAt [.ref a_t, .int p1] p s m meth c A := ⟨hx, hb, hr, hlk, hml, hown, hts, hK, hN, hA⟩
  have hl : lv_has ls 2 [(0, .ref a_t), (1, .int p1)] := hl
  unfold fX8_byteAt at hf
  refine lv_iload_n hx hb dX8_byteAt_0 rfl (lv_at hl 1 rfl) ?_
  refine lv_if_lt (tgt := 32) hx hb dX8_byteAt_1 (by decide) (fun hc_1 => ?_) (fun hc_1 => ?_)
  · have hf := ifP hc_1 hf
    refine lv_iconst (v := (-1)) hx hb dX8_byteAt_32 (by decide) ?_
    have hf : (some ((-1)) : Option (Int32)) = some (z_r) := hf
    cases hf
    exact cRi hx hb hr hlk hP hD hS rfl dX8_byteAt_33
  · have hf := ifN hc_1 hf
    refine lv_iload_n hx hb dX8_byteAt_4 rfl (lv_at hl 1 rfl) ?_
    refine lv_aload_n hx hb dX8_byteAt_5 rfl (lv_at hl 0 rfl) ?_
    refine va_get (D := D) (ci := 8) (v := .int t_length) (C := RX8) (T := TX8) (N := 2) hx hb hts inX8_byteAt_X8 hown hK hP 0 rfl rfl 0 (by decide) (hts (.fieldLink RX8 15 "RowPivots$Tape" "length" "I") (List.mem_of_getElem? (i := 1) rfl)) (fun _ h9 => h9) rfl dX8_byteAt_6 ?_
    refine lv_icmp_ge (tgt := 32) hx hb dX8_byteAt_9 (by decide) (fun hc_9 => ?_) (fun hc_9 => ?_)
    · have hf := ifP hc_9 hf
      refine lv_iconst (v := (-1)) hx hb dX8_byteAt_32 (by decide) ?_
      have hf : (some ((-1)) : Option (Int32)) = some (z_r) := hf
      cases hf
      exact cRi hx hb hr hlk hP hD hS rfl dX8_byteAt_33
    · have hf := ifN hc_9 hf
      refine lv_iload_n hx hb dX8_byteAt_12 rfl (lv_at hl 1 rfl) ?_
      refine lv_sipush (v := 400) hx hb dX8_byteAt_13 (by decide) ?_
      refine lv_icmp_ge (tgt := 32) hx hb dX8_byteAt_16 (by decide) (fun hc_16 => ?_) (fun hc_16 => ?_)
      · have hf := ifP hc_16 hf
        refine lv_iconst (v := (-1)) hx hb dX8_byteAt_32 (by decide) ?_
        have hf : (some ((-1)) : Option (Int32)) = some (z_r) := hf
        cases hf
        exact cRi hx hb hr hlk hP hD hS rfl dX8_byteAt_33
      · have hf := ifN hc_16 hf
        refine lv_aload_n hx hb dX8_byteAt_19 rfl (lv_at hl 0 rfl) ?_
        refine va_get (D := D) (ci := 8) (v := .ref a_t_bytes) (C := RX8) (T := TX8) (N := 2) hx hb hts inX8_byteAt_X8 hown hK hP 0 rfl rfl 1 (by decide) (hts (.fieldLink RX8 9 "RowPivots$Tape" "bytes" "[B") (List.mem_of_getElem? (i := 2) rfl)) (fun _ h9 => h9) rfl dX8_byteAt_20 ?_
        refine lv_iload_n hx hb dX8_byteAt_23 rfl (lv_at hl 1 rfl) ?_
        obtain ⟨hi_24, hf⟩ := inB_b hf
        refine va_bald hx hb hK hP 1 2 rfl rfl hi_24 dX8_byteAt_24 ?_
        refine lv_sipush (v := 255) hx hb dX8_byteAt_25 (by decide) ?_
        refine lv_iand hx hb dX8_byteAt_28 ?_
        refine lv_goto (tgt := 33) hx hb dX8_byteAt_29 (by decide) ?_
        have hf : (some (((t_bytes p1.toNatClampNeg) &&& 255)) : Option (Int32)) = some (z_r) := hf
        cases hf
        exact cRi hx hb hr hlk hP hD hS rfl dX8_byteAt_33
def fX5_isBlank (p0 : Int32) : Option (Int32) :=
  if p0 = 32 then (some (1)) else (if p0 = 10 then (some (1)) else (some (0)))
set_option maxHeartbeats 4000000 in
set_option maxRecDepth 100000 in
theorem MX5_isBlank (l : Launch) (D : va_G) (cI cJ cB cZ cG cS : ClassId) (sz : Nat) (p0 : Int32) (z_r : Int32) (hf : fX5_isBlank p0 = some (z_r)) : Met l yX5_isBlank wsX5_isBlank { frames := 0, cells := 0, slots := 0, locals := 0 } (cP D (tyL cI cJ cB cZ cG cS) [.int p0] sz []) (cQi D (va_A [] sz) z_r []) 0 0 (va_A [] sz) := by
  refine cM (Qc := fun A => cQi D A z_r []) RX5 (by decide) rfl rfl (Nat.le_of_ble_eq_true rfl) ?_
  intro p e s m below meth c A ls hx hb hr hlk hml hown hts hK hN hP hD hS hA hl
  have X : Cx D (tyL cI cJ cB cZ cG cS) cX5_isBlank 1 (some .boolean) RX5 wsX5_isBlank [.int p0] p s m meth c A := ⟨hx, hb, hr, hlk, hml, hown, hts, hK, hN, hA⟩
  have hl : lv_has ls 1 [(0, .int p0)] := hl
  unfold fX5_isBlank at hf
  refine lv_iload_n hx hb dX5_isBlank_0 rfl (lv_at hl 0 rfl) ?_
  refine lv_bipush (v := 32) hx hb dX5_isBlank_1 (by decide) ?_
  refine lv_icmp_eq (tgt := 12) hx hb dX5_isBlank_3 (by decide) (fun hc_3 => ?_) (fun hc_3 => ?_)
  · have hf := ifP hc_3 hf
    refine lv_iconst (v := 1) hx hb dX5_isBlank_12 (by decide) ?_
    refine lv_goto (tgt := 17) hx hb dX5_isBlank_13 (by decide) ?_
    have hf : (some (1) : Option (Int32)) = some (z_r) := hf
    cases hf
    exact cRz hx hb hr hlk hP hD hS rfl (by decide) dX5_isBlank_17
  · have hf := ifN hc_3 hf
    refine lv_iload_n hx hb dX5_isBlank_6 rfl (lv_at hl 0 rfl) ?_
    refine lv_bipush (v := 10) hx hb dX5_isBlank_7 (by decide) ?_
    refine lv_icmp_ne (tgt := 16) hx hb dX5_isBlank_9 (by decide) (fun hc_9 => ?_) (fun hc_9 => ?_)
    · have hf := ifN hc_9 hf
      refine lv_iconst (v := 0) hx hb dX5_isBlank_16 (by decide) ?_
      have hf : (some (0) : Option (Int32)) = some (z_r) := hf
      cases hf
      exact cRz hx hb hr hlk hP hD hS rfl (by decide) dX5_isBlank_17
    · have hf := ifP hc_9 hf
      refine lv_iconst (v := 1) hx hb dX5_isBlank_12 (by decide) ?_
      refine lv_goto (tgt := 17) hx hb dX5_isBlank_13 (by decide) ?_
      have hf : (some (1) : Option (Int32)) = some (z_r) := hf
      cases hf
      exact cRz hx hb hr hlk hP hD hS rfl (by decide) dX5_isBlank_17
def fX5_isLetter (p0 : Int32) : Option (Int32) :=
  if p0 < 97 then (some (0)) else (if 122 < p0 then (some (0)) else (some (1)))
set_option maxHeartbeats 4000000 in
set_option maxRecDepth 100000 in
theorem MX5_isLetter (l : Launch) (D : va_G) (cI cJ cB cZ cG cS : ClassId) (sz : Nat) (p0 : Int32) (z_r : Int32) (hf : fX5_isLetter p0 = some (z_r)) : Met l yX5_isLetter wsX5_isLetter { frames := 0, cells := 0, slots := 0, locals := 0 } (cP D (tyL cI cJ cB cZ cG cS) [.int p0] sz []) (cQi D (va_A [] sz) z_r []) 0 0 (va_A [] sz) := by
  refine cM (Qc := fun A => cQi D A z_r []) RX5 (by decide) rfl rfl (Nat.le_of_ble_eq_true rfl) ?_
  intro p e s m below meth c A ls hx hb hr hlk hml hown hts hK hN hP hD hS hA hl
  have X : Cx D (tyL cI cJ cB cZ cG cS) cX5_isLetter 1 (some .boolean) RX5 wsX5_isLetter [.int p0] p s m meth c A := ⟨hx, hb, hr, hlk, hml, hown, hts, hK, hN, hA⟩
  have hl : lv_has ls 1 [(0, .int p0)] := hl
  unfold fX5_isLetter at hf
  refine lv_iload_n hx hb dX5_isLetter_0 rfl (lv_at hl 0 rfl) ?_
  refine lv_bipush (v := 97) hx hb dX5_isLetter_1 (by decide) ?_
  refine lv_icmp_lt (tgt := 16) hx hb dX5_isLetter_3 (by decide) (fun hc_3 => ?_) (fun hc_3 => ?_)
  · have hf := ifP hc_3 hf
    refine lv_iconst (v := 0) hx hb dX5_isLetter_16 (by decide) ?_
    have hf : (some (0) : Option (Int32)) = some (z_r) := hf
    cases hf
    exact cRz hx hb hr hlk hP hD hS rfl (by decide) dX5_isLetter_17
  · have hf := ifN hc_3 hf
    refine lv_iload_n hx hb dX5_isLetter_6 rfl (lv_at hl 0 rfl) ?_
    refine lv_bipush (v := 122) hx hb dX5_isLetter_7 (by decide) ?_
    refine lv_icmp_gt (tgt := 16) hx hb dX5_isLetter_9 (by decide) (fun hc_9 => ?_) (fun hc_9 => ?_)
    · have hf := ifP hc_9 hf
      refine lv_iconst (v := 0) hx hb dX5_isLetter_16 (by decide) ?_
      have hf : (some (0) : Option (Int32)) = some (z_r) := hf
      cases hf
      exact cRz hx hb hr hlk hP hD hS rfl (by decide) dX5_isLetter_17
    · have hf := ifN hc_9 hf
      refine lv_iconst (v := 1) hx hb dX5_isLetter_12 (by decide) ?_
      refine lv_goto (tgt := 17) hx hb dX5_isLetter_13 (by decide) ?_
      have hf : (some (1) : Option (Int32)) = some (z_r) := hf
      cases hf
      exact cRz hx hb hr hlk hP hD hS rfl (by decide) dX5_isLetter_17
theorem inX5_skipLetters_X5 : ∀ w ∈ wsX50, w ∈ wsX5_skipLetters := fun _ h => List.mem_cons_of_mem _ (List.mem_append_left _ (List.mem_append_right _ h))
theorem inX5_skipLetters_X8 : ∀ w ∈ wsX80, w ∈ wsX5_skipLetters := fun _ h => List.mem_cons_of_mem _ (List.mem_append_right _ h)
def fX5_skipLetters_0 (t_tape_length : Int32) (t_tape_bytes : Nat → Int32) : Nat → Int32 → Option (Int32)
  | 0, _ => none
  | n + 1, t_next_0 => if t_tape_length ≤ t_next_0 then (some (t_next_0)) else ((fX8_byteAt t_next_0 t_tape_length t_tape_bytes).bind fun u_4 => (fX5_isLetter u_4).bind fun u_5 => if u_5 = 0 then (some (t_next_0)) else (lt (t_next_0 + 1) fun x_6 => (fX5_skipLetters_0 t_tape_length t_tape_bytes n) x_6))
theorem fX5_skipLetters_0_s (t_tape_length : Int32) (t_tape_bytes : Nat → Int32) (n : Nat) (t_next_0 : Int32) : fX5_skipLetters_0 t_tape_length t_tape_bytes (n + 1) t_next_0 = (if t_tape_length ≤ t_next_0 then (some (t_next_0)) else ((fX8_byteAt t_next_0 t_tape_length t_tape_bytes).bind fun u_4 => (fX5_isLetter u_4).bind fun u_5 => if u_5 = 0 then (some (t_next_0)) else (lt (t_next_0 + 1) fun x_6 => (fX5_skipLetters_0 t_tape_length t_tape_bytes n) x_6))) := rfl
def fX5_skipLetters (t_next : Int32) (t_tape_length : Int32) (t_tape_bytes : Nat → Int32) : Option (Int32) :=
  if t_tape_length ≤ t_next then (some (t_next)) else ((fX8_byteAt t_next t_tape_length t_tape_bytes).bind fun u_1 => (fX5_isLetter u_1).bind fun u_2 => if u_2 = 0 then (some (t_next)) else (lt (t_next + 1) fun x_3 => fX5_skipLetters_0 t_tape_length t_tape_bytes fuelN x_3))
set_option maxHeartbeats 4000000 in
set_option maxRecDepth 100000 in
theorem wX5_skipLetters_0 {l : Launch} {D : va_G} {cI cJ cB cZ cG cS : ClassId} {p : Program} {e : Env} {s : State} {m : MethodId} {below : List Frame} {meth : Method} {c : Code} {A : Nat → Prop} (a_t : Nat) (a_t_tape : Nat) (a_t_tape_bytes : Nat) (z_t_next : Int32) (t_type : Int32) (t_place : Int32) (t_value : Int32) (t_next : Int32) (t_tape_length : Int32) (t_tape_bytes : Nat → Int32)  (X : Cx D (tyL cI cJ cB cZ cG cS) cX5_skipLetters 1 none RX5 wsX5_skipLetters [.ref a_t] p s m meth c A) : ∀ (n : Nat) (t_next_0 : Int32) (H : Heap) (locs : List Loc) (ls : Array Slot), fX5_skipLetters_0 t_tape_length t_tape_bytes n t_next_0 = some (z_t_next) → va_P D vwCl [(a_t, .inr (5, [.int t_type, .int t_place, .int t_value, .ref a_t_tape, .int t_next_0])), (a_t_tape, .inr (8, [.int t_tape_length, .ref a_t_tape_bytes])), (a_t_tape_bytes, .inl (cB, 400, .inl t_tape_bytes))] H → va_D A [(a_t, .inr (5, [.int t_type, .int t_place, .int t_value, .ref a_t_tape, .int t_next_0])), (a_t_tape, .inr (8, [.int t_tape_length, .ref a_t_tape_bytes])), (a_t_tape_bytes, .inl (cB, 400, .inl t_tape_bytes))] → va_S A s.heap H locs → lv_has ls 1 [(0, .ref a_t)] → W p l e { frames := 1, cells := 0, slots := 0, locals := 21 } s m ([.ref a_t] : List Value).toArray below meth c H locs 0 0 (MQ below (cQv D A [(a_t, .inr (5, [.int t_type, .int t_place, .int t_value, .ref a_t_tape, .int z_t_next])), (a_t_tape, .inr (8, [.int t_tape_length, .ref a_t_tape_bytes])), (a_t_tape_bytes, .inl (cB, 400, .inl t_tape_bytes))]) ([.ref a_t] : List Value).toArray s 0 0 A) (F0 m 0 ls []) := by
  obtain ⟨hx, hb, hr, hlk, hml, hown, hts, hK, hN, hA⟩ := id X
  intro n
  induction n with
  | zero =>
    intro t_next_0 H locs ls hf
    have hf : (none : Option (Int32)) = some (z_t_next) := hf
    cases hf
  | succ n ih =>
    intro t_next_0 H locs ls hf hP hD hS hl
    rw [fX5_skipLetters_0_s] at hf
    refine lv_aload_n hx hb dX5_skipLetters_0 rfl (lv_at hl 0 rfl) ?_
    refine va_get (D := D) (ci := 5) (v := .int t_next_0) (C := RX5) (T := TX5) (N := 5) hx hb hts inX5_skipLetters_X5 hown hK hP 0 rfl rfl 4 (by decide) (hts (.fieldLink RX5 22 "RowPivots$Scanner" "next" "I") (List.mem_of_getElem? (i := 1) rfl)) (fun _ h9 => h9) rfl dX5_skipLetters_1 ?_
    refine lv_aload_n hx hb dX5_skipLetters_4 rfl (lv_at hl 0 rfl) ?_
    refine va_get (D := D) (ci := 5) (v := .ref a_t_tape) (C := RX5) (T := TX5) (N := 5) hx hb hts inX5_skipLetters_X5 hown hK hP 0 rfl rfl 3 (by decide) (hts (.fieldLink RX5 12 "RowPivots$Scanner" "tape" "LRowPivots$Tape;") (List.mem_of_getElem? (i := 2) rfl)) (fun _ h9 => h9) rfl dX5_skipLetters_5 ?_
    refine va_get (D := D) (ci := 8) (v := .int t_tape_length) (C := RX8) (T := TX8) (N := 2) hx hb hts inX5_skipLetters_X8 hown hK hP 1 rfl rfl 0 (by decide) (hts (.fieldLink RX5 35 "RowPivots$Tape" "length" "I") (List.mem_of_getElem? (i := 3) rfl)) (fun _ h9 => h9) rfl dX5_skipLetters_8 ?_
    refine lv_icmp_ge (tgt := 44) hx hb dX5_skipLetters_11 (by decide) (fun hc_11 => ?_) (fun hc_11 => ?_)
    · have hf := ifP hc_11 hf
      have hf : (some (t_next_0) : Option (Int32)) = some (z_t_next) := hf
      cases hf
      exact cRv hx hb hr hlk hP hD hS dX5_skipLetters_44
    · have hf := ifN hc_11 hf
      refine lv_aload_n hx hb dX5_skipLetters_14 rfl (lv_at hl 0 rfl) ?_
      refine va_get (D := D) (ci := 5) (v := .ref a_t_tape) (C := RX5) (T := TX5) (N := 5) hx hb hts inX5_skipLetters_X5 hown hK hP 0 rfl rfl 3 (by decide) (hts (.fieldLink RX5 12 "RowPivots$Scanner" "tape" "LRowPivots$Tape;") (List.mem_of_getElem? (i := 2) rfl)) (fun _ h9 => h9) rfl dX5_skipLetters_15 ?_
      refine lv_aload_n hx hb dX5_skipLetters_18 rfl (lv_at hl 0 rfl) ?_
      refine va_get (D := D) (ci := 5) (v := .int t_next_0) (C := RX5) (T := TX5) (N := 5) hx hb hts inX5_skipLetters_X5 hown hK hP 0 rfl rfl 4 (by decide) (hts (.fieldLink RX5 22 "RowPivots$Scanner" "next" "I") (List.mem_of_getElem? (i := 1) rfl)) (fun _ h9 => h9) rfl dX5_skipLetters_19 ?_
      obtain ⟨u_4, hcu_4, hf⟩ := bdS hf
      refine kVi (As := [.int t_next_0]) (rest := []) (w2 := [(a_t, .inr (5, [.int t_type, .int t_place, .int t_value, .ref a_t_tape, .int t_next_0])), (a_t_tape, .inr (8, [.int t_tape_length, .ref a_t_tape_bytes])), (a_t_tape_bytes, .inl (cB, 400, .inl t_tape_bytes))]) (wr := [(a_t, .inr (5, [.int t_type, .int t_place, .int t_value, .ref a_t_tape, .int t_next_0]))]) (ci := 8) (q0 := 0) ⟨hx, hb, hml, hown, hts⟩ (MX8_byteAt l D cI cJ cB cZ cG cS _ a_t_tape a_t_tape_bytes t_next_0 t_tape_length t_tape_bytes u_4 hcu_4) (cwV 1 hts gX5_skipLetters_X8_byteAt rfl rfl rfl (by decide +kernel) ⟨Nat.le_of_ble_eq_true rfl, Nat.le_of_ble_eq_true rfl⟩) hK hN hP hD hS hA [1, 2] [0] [0, 1, 2] rfl (by decide) rfl (by decide) (by decide) rfl (by decide) rfl rfl rfl hl.1 rfl (Nat.le_of_ble_eq_true rfl) dX5_skipLetters_22 ⟨Nat.zero_le _, Nat.zero_le _⟩ (fun H locs hP hD hS => ?_)
      obtain ⟨u_5, hcu_5, hf⟩ := bdS hf
      refine kSi (As := [.int u_4]) (rest := []) (w2 := [(a_t, .inr (5, [.int t_type, .int t_place, .int t_value, .ref a_t_tape, .int t_next_0])), (a_t_tape, .inr (8, [.int t_tape_length, .ref a_t_tape_bytes])), (a_t_tape_bytes, .inl (cB, 400, .inl t_tape_bytes))]) (wr := [(a_t, .inr (5, [.int t_type, .int t_place, .int t_value, .ref a_t_tape, .int t_next_0])), (a_t_tape, .inr (8, [.int t_tape_length, .ref a_t_tape_bytes])), (a_t_tape_bytes, .inl (cB, 400, .inl t_tape_bytes))]) ⟨hx, hb, hml, hown, hts⟩ (MX5_isLetter l D cI cJ cB cZ cG cS _  u_4 u_5 hcu_5) (va_cwS 1 hts gX5_skipLetters_X5_isLetter rfl rfl rfl (by decide +kernel) ⟨Nat.le_of_ble_eq_true rfl, Nat.le_of_ble_eq_true rfl⟩) hK hN hP hD hS hA [] [0, 1, 2] [0, 1, 2] rfl (by decide) rfl (by decide) (by decide) rfl (by decide) rfl hl.1 rfl (Nat.le_of_ble_eq_true rfl) dX5_skipLetters_25 ⟨Nat.zero_le _, Nat.zero_le _⟩ (fun H locs hP hD hS => ?_)
      refine lv_if_eq (tgt := 44) hx hb dX5_skipLetters_28 (by decide) (fun hc_28 => ?_) (fun hc_28 => ?_)
      · have hf := ifP hc_28 hf
        have hf : (some (t_next_0) : Option (Int32)) = some (z_t_next) := hf
        cases hf
        exact cRv hx hb hr hlk hP hD hS dX5_skipLetters_44
      · have hf := ifN hc_28 hf
        refine lv_aload_n hx hb dX5_skipLetters_31 rfl (lv_at hl 0 rfl) ?_
        refine lv_dup hx hb dX5_skipLetters_32 rfl ?_
        refine va_get (D := D) (ci := 5) (v := .int t_next_0) (C := RX5) (T := TX5) (N := 5) hx hb hts inX5_skipLetters_X5 hown hK hP 0 rfl rfl 4 (by decide) (hts (.fieldLink RX5 22 "RowPivots$Scanner" "next" "I") (List.mem_of_getElem? (i := 1) rfl)) (fun _ h9 => h9) rfl dX5_skipLetters_33 ?_
        refine lv_iconst (v := 1) hx hb dX5_skipLetters_36 (by decide) ?_
        refine lv_iadd hx hb dX5_skipLetters_37 ?_
        refine lv_topi (fun x_6 ex_6 => ?_)
        have hf := lt_b ex_6 hf
        refine va_put (D := D) (ci := 5) (v := .int x_6) (ty := .int) (C := RX5) (T := TX5) (N := 5) hx hb hts inX5_skipLetters_X5 tyX5 tyX5_ok nmX5 hown hK hP hD hS 0 rfl rfl 4 (by decide) (hts (.fieldLink RX5 22 "RowPivots$Scanner" "next" "I") (List.mem_of_getElem? (i := 1) rfl)) (fun _ h9 => h9) rfl (by decide +kernel) rfl rfl (Nat.le_of_ble_eq_true rfl) dX5_skipLetters_38 (fun H locs hP hD hS => ?_)
        have hP : va_P D vwCl [(a_t, .inr (5, [.int t_type, .int t_place, .int t_value, .ref a_t_tape, .int x_6])), (a_t_tape, .inr (8, [.int t_tape_length, .ref a_t_tape_bytes])), (a_t_tape_bytes, .inl (cB, 400, .inl t_tape_bytes))] H := hP
        have hD : va_D A [(a_t, .inr (5, [.int t_type, .int t_place, .int t_value, .ref a_t_tape, .int x_6])), (a_t_tape, .inr (8, [.int t_tape_length, .ref a_t_tape_bytes])), (a_t_tape_bytes, .inl (cB, 400, .inl t_tape_bytes))] := hD
        refine lv_goto (tgt := 0) hx hb dX5_skipLetters_41 (by decide) ?_
        exact ih x_6 _ _ _ hf hP hD hS (lv_sub hl [0] rfl)
set_option maxHeartbeats 4000000 in
set_option maxRecDepth 100000 in
theorem MX5_skipLetters (l : Launch) (D : va_G) (cI cJ cB cZ cG cS : ClassId) (sz : Nat) (a_t : Nat) (a_t_tape : Nat) (a_t_tape_bytes : Nat) (t_type : Int32) (t_place : Int32) (t_value : Int32) (t_next : Int32) (t_tape_length : Int32) (t_tape_bytes : Nat → Int32) (z_t_next : Int32) (hf : fX5_skipLetters t_next t_tape_length t_tape_bytes = some (z_t_next)) : Met l yX5_skipLetters wsX5_skipLetters { frames := 1, cells := 0, slots := 0, locals := 21 } (cP D (tyL cI cJ cB cZ cG cS) [.ref a_t] sz [(a_t, .inr (5, [.int t_type, .int t_place, .int t_value, .ref a_t_tape, .int t_next])), (a_t_tape, .inr (8, [.int t_tape_length, .ref a_t_tape_bytes])), (a_t_tape_bytes, .inl (cB, 400, .inl t_tape_bytes))]) (cQv D (va_A [(a_t, .inr (5, [.int t_type, .int t_place, .int t_value, .ref a_t_tape, .int t_next])), (a_t_tape, .inr (8, [.int t_tape_length, .ref a_t_tape_bytes])), (a_t_tape_bytes, .inl (cB, 400, .inl t_tape_bytes))] sz) [(a_t, .inr (5, [.int t_type, .int t_place, .int t_value, .ref a_t_tape, .int z_t_next])), (a_t_tape, .inr (8, [.int t_tape_length, .ref a_t_tape_bytes])), (a_t_tape_bytes, .inl (cB, 400, .inl t_tape_bytes))]) 0 0 (va_A [(a_t, .inr (5, [.int t_type, .int t_place, .int t_value, .ref a_t_tape, .int t_next])), (a_t_tape, .inr (8, [.int t_tape_length, .ref a_t_tape_bytes])), (a_t_tape_bytes, .inl (cB, 400, .inl t_tape_bytes))] sz) := by
  refine cM (Qc := fun A => cQv D A [(a_t, .inr (5, [.int t_type, .int t_place, .int t_value, .ref a_t_tape, .int z_t_next])), (a_t_tape, .inr (8, [.int t_tape_length, .ref a_t_tape_bytes])), (a_t_tape_bytes, .inl (cB, 400, .inl t_tape_bytes))]) RX5 (by decide) rfl rfl (Nat.le_of_ble_eq_true rfl) ?_
  intro p e s m below meth c A ls hx hb hr hlk hml hown hts hK hN hP hD hS hA hl
  have X : Cx D (tyL cI cJ cB cZ cG cS) cX5_skipLetters 1 none RX5 wsX5_skipLetters [.ref a_t] p s m meth c A := ⟨hx, hb, hr, hlk, hml, hown, hts, hK, hN, hA⟩
  have hl : lv_has ls 1 [(0, .ref a_t)] := hl
  unfold fX5_skipLetters at hf
  refine lv_aload_n hx hb dX5_skipLetters_0 rfl (lv_at hl 0 rfl) ?_
  refine va_get (D := D) (ci := 5) (v := .int t_next) (C := RX5) (T := TX5) (N := 5) hx hb hts inX5_skipLetters_X5 hown hK hP 0 rfl rfl 4 (by decide) (hts (.fieldLink RX5 22 "RowPivots$Scanner" "next" "I") (List.mem_of_getElem? (i := 1) rfl)) (fun _ h9 => h9) rfl dX5_skipLetters_1 ?_
  refine lv_aload_n hx hb dX5_skipLetters_4 rfl (lv_at hl 0 rfl) ?_
  refine va_get (D := D) (ci := 5) (v := .ref a_t_tape) (C := RX5) (T := TX5) (N := 5) hx hb hts inX5_skipLetters_X5 hown hK hP 0 rfl rfl 3 (by decide) (hts (.fieldLink RX5 12 "RowPivots$Scanner" "tape" "LRowPivots$Tape;") (List.mem_of_getElem? (i := 2) rfl)) (fun _ h9 => h9) rfl dX5_skipLetters_5 ?_
  refine va_get (D := D) (ci := 8) (v := .int t_tape_length) (C := RX8) (T := TX8) (N := 2) hx hb hts inX5_skipLetters_X8 hown hK hP 1 rfl rfl 0 (by decide) (hts (.fieldLink RX5 35 "RowPivots$Tape" "length" "I") (List.mem_of_getElem? (i := 3) rfl)) (fun _ h9 => h9) rfl dX5_skipLetters_8 ?_
  refine lv_icmp_ge (tgt := 44) hx hb dX5_skipLetters_11 (by decide) (fun hc_11 => ?_) (fun hc_11 => ?_)
  · have hf := ifP hc_11 hf
    have hf : (some (t_next) : Option (Int32)) = some (z_t_next) := hf
    cases hf
    exact cRv hx hb hr hlk hP hD hS dX5_skipLetters_44
  · have hf := ifN hc_11 hf
    refine lv_aload_n hx hb dX5_skipLetters_14 rfl (lv_at hl 0 rfl) ?_
    refine va_get (D := D) (ci := 5) (v := .ref a_t_tape) (C := RX5) (T := TX5) (N := 5) hx hb hts inX5_skipLetters_X5 hown hK hP 0 rfl rfl 3 (by decide) (hts (.fieldLink RX5 12 "RowPivots$Scanner" "tape" "LRowPivots$Tape;") (List.mem_of_getElem? (i := 2) rfl)) (fun _ h9 => h9) rfl dX5_skipLetters_15 ?_
    refine lv_aload_n hx hb dX5_skipLetters_18 rfl (lv_at hl 0 rfl) ?_
    refine va_get (D := D) (ci := 5) (v := .int t_next) (C := RX5) (T := TX5) (N := 5) hx hb hts inX5_skipLetters_X5 hown hK hP 0 rfl rfl 4 (by decide) (hts (.fieldLink RX5 22 "RowPivots$Scanner" "next" "I") (List.mem_of_getElem? (i := 1) rfl)) (fun _ h9 => h9) rfl dX5_skipLetters_19 ?_
    obtain ⟨u_1, hcu_1, hf⟩ := bdS hf
    refine kVi (As := [.int t_next]) (rest := []) (w2 := [(a_t, .inr (5, [.int t_type, .int t_place, .int t_value, .ref a_t_tape, .int t_next])), (a_t_tape, .inr (8, [.int t_tape_length, .ref a_t_tape_bytes])), (a_t_tape_bytes, .inl (cB, 400, .inl t_tape_bytes))]) (wr := [(a_t, .inr (5, [.int t_type, .int t_place, .int t_value, .ref a_t_tape, .int t_next]))]) (ci := 8) (q0 := 0) ⟨hx, hb, hml, hown, hts⟩ (MX8_byteAt l D cI cJ cB cZ cG cS _ a_t_tape a_t_tape_bytes t_next t_tape_length t_tape_bytes u_1 hcu_1) (cwV 1 hts gX5_skipLetters_X8_byteAt rfl rfl rfl (by decide +kernel) ⟨Nat.le_of_ble_eq_true rfl, Nat.le_of_ble_eq_true rfl⟩) hK hN hP hD hS hA [1, 2] [0] [0, 1, 2] rfl (by decide) rfl (by decide) (by decide) rfl (by decide) rfl rfl rfl hl.1 rfl (Nat.le_of_ble_eq_true rfl) dX5_skipLetters_22 ⟨Nat.zero_le _, Nat.zero_le _⟩ (fun H locs hP hD hS => ?_)
    obtain ⟨u_2, hcu_2, hf⟩ := bdS hf
    refine kSi (As := [.int u_1]) (rest := []) (w2 := [(a_t, .inr (5, [.int t_type, .int t_place, .int t_value, .ref a_t_tape, .int t_next])), (a_t_tape, .inr (8, [.int t_tape_length, .ref a_t_tape_bytes])), (a_t_tape_bytes, .inl (cB, 400, .inl t_tape_bytes))]) (wr := [(a_t, .inr (5, [.int t_type, .int t_place, .int t_value, .ref a_t_tape, .int t_next])), (a_t_tape, .inr (8, [.int t_tape_length, .ref a_t_tape_bytes])), (a_t_tape_bytes, .inl (cB, 400, .inl t_tape_bytes))]) ⟨hx, hb, hml, hown, hts⟩ (MX5_isLetter l D cI cJ cB cZ cG cS _  u_1 u_2 hcu_2) (va_cwS 1 hts gX5_skipLetters_X5_isLetter rfl rfl rfl (by decide +kernel) ⟨Nat.le_of_ble_eq_true rfl, Nat.le_of_ble_eq_true rfl⟩) hK hN hP hD hS hA [] [0, 1, 2] [0, 1, 2] rfl (by decide) rfl (by decide) (by decide) rfl (by decide) rfl hl.1 rfl (Nat.le_of_ble_eq_true rfl) dX5_skipLetters_25 ⟨Nat.zero_le _, Nat.zero_le _⟩ (fun H locs hP hD hS => ?_)
    refine lv_if_eq (tgt := 44) hx hb dX5_skipLetters_28 (by decide) (fun hc_28 => ?_) (fun hc_28 => ?_)
    · have hf := ifP hc_28 hf
      have hf : (some (t_next) : Option (Int32)) = some (z_t_next) := hf
      cases hf
      exact cRv hx hb hr hlk hP hD hS dX5_skipLetters_44
    · have hf := ifN hc_28 hf
      refine lv_aload_n hx hb dX5_skipLetters_31 rfl (lv_at hl 0 rfl) ?_
      refine lv_dup hx hb dX5_skipLetters_32 rfl ?_
      refine va_get (D := D) (ci := 5) (v := .int t_next) (C := RX5) (T := TX5) (N := 5) hx hb hts inX5_skipLetters_X5 hown hK hP 0 rfl rfl 4 (by decide) (hts (.fieldLink RX5 22 "RowPivots$Scanner" "next" "I") (List.mem_of_getElem? (i := 1) rfl)) (fun _ h9 => h9) rfl dX5_skipLetters_33 ?_
      refine lv_iconst (v := 1) hx hb dX5_skipLetters_36 (by decide) ?_
      refine lv_iadd hx hb dX5_skipLetters_37 ?_
      refine lv_topi (fun x_3 ex_3 => ?_)
      have hf := lt_b ex_3 hf
      refine va_put (D := D) (ci := 5) (v := .int x_3) (ty := .int) (C := RX5) (T := TX5) (N := 5) hx hb hts inX5_skipLetters_X5 tyX5 tyX5_ok nmX5 hown hK hP hD hS 0 rfl rfl 4 (by decide) (hts (.fieldLink RX5 22 "RowPivots$Scanner" "next" "I") (List.mem_of_getElem? (i := 1) rfl)) (fun _ h9 => h9) rfl (by decide +kernel) rfl rfl (Nat.le_of_ble_eq_true rfl) dX5_skipLetters_38 (fun H locs hP hD hS => ?_)
      have hP : va_P D vwCl [(a_t, .inr (5, [.int t_type, .int t_place, .int t_value, .ref a_t_tape, .int x_3])), (a_t_tape, .inr (8, [.int t_tape_length, .ref a_t_tape_bytes])), (a_t_tape_bytes, .inl (cB, 400, .inl t_tape_bytes))] H := hP
      have hD : va_D A [(a_t, .inr (5, [.int t_type, .int t_place, .int t_value, .ref a_t_tape, .int x_3])), (a_t_tape, .inr (8, [.int t_tape_length, .ref a_t_tape_bytes])), (a_t_tape_bytes, .inl (cB, 400, .inl t_tape_bytes))] := hD
      refine lv_goto (tgt := 0) hx hb dX5_skipLetters_41 (by decide) ?_
      exact wX5_skipLetters_0 a_t a_t_tape a_t_tape_bytes z_t_next t_type t_place t_value t_next t_tape_length t_tape_bytes X  fuelN x_3 _ _ _ hf hP hD hS (lv_sub hl [0] rfl)
def fX5_isDigit (p0 : Int32) : Option (Int32) :=
  if p0 < 48 then (some (0)) else (if 57 < p0 then (some (0)) else (some (1)))
set_option maxHeartbeats 4000000 in
set_option maxRecDepth 100000 in
theorem MX5_isDigit (l : Launch) (D : va_G) (cI cJ cB cZ cG cS : ClassId) (sz : Nat) (p0 : Int32) (z_r : Int32) (hf : fX5_isDigit p0 = some (z_r)) : Met l yX5_isDigit wsX5_isDigit { frames := 0, cells := 0, slots := 0, locals := 0 } (cP D (tyL cI cJ cB cZ cG cS) [.int p0] sz []) (cQi D (va_A [] sz) z_r []) 0 0 (va_A [] sz) := by
  refine cM (Qc := fun A => cQi D A z_r []) RX5 (by decide) rfl rfl (Nat.le_of_ble_eq_true rfl) ?_
  intro p e s m below meth c A ls hx hb hr hlk hml hown hts hK hN hP hD hS hA hl
  have X : Cx D (tyL cI cJ cB cZ cG cS) cX5_isDigit 1 (some .boolean) RX5 wsX5_isDigit [.int p0] p s m meth c A := ⟨hx, hb, hr, hlk, hml, hown, hts, hK, hN, hA⟩
  have hl : lv_has ls 1 [(0, .int p0)] := hl
  unfold fX5_isDigit at hf
  refine lv_iload_n hx hb dX5_isDigit_0 rfl (lv_at hl 0 rfl) ?_
  refine lv_bipush (v := 48) hx hb dX5_isDigit_1 (by decide) ?_
  refine lv_icmp_lt (tgt := 16) hx hb dX5_isDigit_3 (by decide) (fun hc_3 => ?_) (fun hc_3 => ?_)
  · have hf := ifP hc_3 hf
    refine lv_iconst (v := 0) hx hb dX5_isDigit_16 (by decide) ?_
    have hf : (some (0) : Option (Int32)) = some (z_r) := hf
    cases hf
    exact cRz hx hb hr hlk hP hD hS rfl (by decide) dX5_isDigit_17
  · have hf := ifN hc_3 hf
    refine lv_iload_n hx hb dX5_isDigit_6 rfl (lv_at hl 0 rfl) ?_
    refine lv_bipush (v := 57) hx hb dX5_isDigit_7 (by decide) ?_
    refine lv_icmp_gt (tgt := 16) hx hb dX5_isDigit_9 (by decide) (fun hc_9 => ?_) (fun hc_9 => ?_)
    · have hf := ifP hc_9 hf
      refine lv_iconst (v := 0) hx hb dX5_isDigit_16 (by decide) ?_
      have hf : (some (0) : Option (Int32)) = some (z_r) := hf
      cases hf
      exact cRz hx hb hr hlk hP hD hS rfl (by decide) dX5_isDigit_17
    · have hf := ifN hc_9 hf
      refine lv_iconst (v := 1) hx hb dX5_isDigit_12 (by decide) ?_
      refine lv_goto (tgt := 17) hx hb dX5_isDigit_13 (by decide) ?_
      have hf : (some (1) : Option (Int32)) = some (z_r) := hf
      cases hf
      exact cRz hx hb hr hlk hP hD hS rfl (by decide) dX5_isDigit_17
