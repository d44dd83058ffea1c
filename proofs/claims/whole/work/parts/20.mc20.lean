theorem inX1_hasRow_X1 : ∀ w ∈ wsX10, w ∈ wsX1_hasRow := fun _ h => List.mem_cons_of_mem _ (List.mem_append_right _ h)
def fX1_hasRow (p1 : Int32) (t_rows : Int32) : Option (Int32) :=
  if p1 < 0 then (some (0)) else (if t_rows ≤ p1 then (some (0)) else (some (1)))
set_option maxHeartbeats 4000000 in
set_option maxRecDepth 100000 in
theorem MX1_hasRow (l : Launch) (D : va_G) (cI cJ cB cZ cG cS : ClassId) (sz : Nat) (a_t : Nat) (a_t_upper : Nat) (a_t_lower : Nat) (a_t_sum : Nat) (p1 : Int32) (t_rows : Int32) (t_columns : Int32) (z_r : Int32) (hf : fX1_hasRow p1 t_rows = some (z_r)) : Met l yX1_hasRow wsX1_hasRow { frames := 0, cells := 0, slots := 0, locals := 0 } (cP D (tyL cI cJ cB cZ cG cS) [.ref a_t, .int p1] sz [(a_t, .inr (1, [.int t_rows, .int t_columns, .ref a_t_upper, .ref a_t_lower, .ref a_t_sum]))]) (cQi D (va_A [(a_t, .inr (1, [.int t_rows, .int t_columns, .ref a_t_upper, .ref a_t_lower, .ref a_t_sum]))] sz) z_r [(a_t, .inr (1, [.int t_rows, .int t_columns, .ref a_t_upper, .ref a_t_lower, .ref a_t_sum]))]) 0 0 (va_A [(a_t, .inr (1, [.int t_rows, .int t_columns, .ref a_t_upper, .ref a_t_lower, .ref a_t_sum]))] sz) := by
  refine cM (Qc := fun A => cQi D A z_r [(a_t, .inr (1, [.int t_rows, .int t_columns, .ref a_t_upper, .ref a_t_lower, .ref a_t_sum]))]) RX1 (by decide) rfl rfl (Nat.le_of_ble_eq_true rfl) ?_
  intro p e s m below meth c A ls hx hb hr hlk hml hown hts hK hN hP hD hS hA hl
  have X : Cx D (tyL cI cJ cB cZ cG cS) cX1_hasRow 2 (some .boolean) RX1 wsX1_hasRow [.ref a_t, .int p1] p s m meth c A := ⟨hx, hb, hr, hlk, hml, hown, hts, hK, hN, hA⟩
  have hl : lv_has ls 2 [(0, .ref a_t), (1, .int p1)] := hl
  unfold fX1_hasRow at hf
  refine lv_iload_n hx hb dX1_hasRow_0 rfl (lv_at hl 1 rfl) ?_
  refine lv_if_lt (tgt := 16) hx hb dX1_hasRow_1 (by decide) (fun hc_1 => ?_) (fun hc_1 => ?_)
  · have hf := ifP hc_1 hf
    refine lv_iconst (v := 0) hx hb dX1_hasRow_16 (by decide) ?_
    have hf : (some (0) : Option (Int32)) = some (z_r) := hf
    cases hf
    exact cRz hx hb hr hlk hP hD hS rfl (by decide) dX1_hasRow_17
  · have hf := ifN hc_1 hf
    refine lv_iload_n hx hb dX1_hasRow_4 rfl (lv_at hl 1 rfl) ?_
    refine lv_aload_n hx hb dX1_hasRow_5 rfl (lv_at hl 0 rfl) ?_
    refine va_get (D := D) (ci := 1) (v := .int t_rows) (C := RX1) (T := TX1) (N := 5) hx hb hts inX1_hasRow_X1 hown hK hP 0 rfl rfl 0 (by decide) (hts (.fieldLink RX1 9 "RowPivots$Grid" "rows" "I") (List.mem_of_getElem? (i := 1) rfl)) (fun _ h9 => h9) rfl dX1_hasRow_6 ?_
    refine lv_icmp_ge (tgt := 16) hx hb dX1_hasRow_9 (by decide) (fun hc_9 => ?_) (fun hc_9 => ?_)
    · have hf := ifP hc_9 hf
      refine lv_iconst (v := 0) hx hb dX1_hasRow_16 (by decide) ?_
      have hf : (some (0) : Option (Int32)) = some (z_r) := hf
      cases hf
      exact cRz hx hb hr hlk hP hD hS rfl (by decide) dX1_hasRow_17
    · have hf := ifN hc_9 hf
      refine lv_iconst (v := 1) hx hb dX1_hasRow_12 (by decide) ?_
      refine lv_goto (tgt := 17) hx hb dX1_hasRow_13 (by decide) ?_
      have hf : (some (1) : Option (Int32)) = some (z_r) := hf
      cases hf
      exact cRz hx hb hr hlk hP hD hS rfl (by decide) dX1_hasRow_17
theorem inX1_hasColumnOrSide_X1 : ∀ w ∈ wsX10, w ∈ wsX1_hasColumnOrSide := fun _ h => List.mem_cons_of_mem _ (List.mem_append_right _ h)
def fX1_hasColumnOrSide (p1 : Int32) (t_columns : Int32) : Option (Int32) :=
  if p1 < 0 then (some (0)) else (if t_columns < p1 then (some (0)) else (some (1)))
set_option maxHeartbeats 4000000 in
set_option maxRecDepth 100000 in
theorem MX1_hasColumnOrSide (l : Launch) (D : va_G) (cI cJ cB cZ cG cS : ClassId) (sz : Nat) (a_t : Nat) (a_t_upper : Nat) (a_t_lower : Nat) (a_t_sum : Nat) (p1 : Int32) (t_rows : Int32) (t_columns : Int32) (z_r : Int32) (hf : fX1_hasColumnOrSide p1 t_columns = some (z_r)) : Met l yX1_hasColumnOrSide wsX1_hasColumnOrSide { frames := 0, cells := 0, slots := 0, locals := 0 } (cP D (tyL cI cJ cB cZ cG cS) [.ref a_t, .int p1] sz [(a_t, .inr (1, [.int t_rows, .int t_columns, .ref a_t_upper, .ref a_t_lower, .ref a_t_sum]))]) (cQi D (va_A [(a_t, .inr (1, [.int t_rows, .int t_columns, .ref a_t_upper, .ref a_t_lower, .ref a_t_sum]))] sz) z_r [(a_t, .inr (1, [.int t_rows, .int t_columns, .ref a_t_upper, .ref a_t_lower, .ref a_t_sum]))]) 0 0 (va_A [(a_t, .inr (1, [.int t_rows, .int t_columns, .ref a_t_upper, .ref a_t_lower, .ref a_t_sum]))] sz) := by
  refine cM (Qc := fun A => cQi D A z_r [(a_t, .inr (1, [.int t_rows, .int t_columns, .ref a_t_upper, .ref a_t_lower, .ref a_t_sum]))]) RX1 (by decide) rfl rfl (Nat.le_of_ble_eq_true rfl) ?_
  intro p e s m below meth c A ls hx hb hr hlk hml hown hts hK hN hP hD hS hA hl
  have X : Cx D (tyL cI cJ cB cZ cG cS) cX1_hasColumnOrSide 2 (some .boolean) RX1 wsX1_hasColumnOrSide [.ref a_t, .int p1] p s m meth c A := ⟨hx, hb, hr, hlk, hml, hown, hts, hK, hN, hA⟩
  have hl : lv_has ls 2 [(0, .ref a_t), (1, .int p1)] := hl
  unfold fX1_hasColumnOrSide at hf
  refine lv_iload_n hx hb dX1_hasColumnOrSide_0 rfl (lv_at hl 1 rfl) ?_
  refine lv_if_lt (tgt := 16) hx hb dX1_hasColumnOrSide_1 (by decide) (fun hc_1 => ?_) (fun hc_1 => ?_)
  · have hf := ifP hc_1 hf
    refine lv_iconst (v := 0) hx hb dX1_hasColumnOrSide_16 (by decide) ?_
    have hf : (some (0) : Option (Int32)) = some (z_r) := hf
    cases hf
    exact cRz hx hb hr hlk hP hD hS rfl (by decide) dX1_hasColumnOrSide_17
  · have hf := ifN hc_1 hf
    refine lv_iload_n hx hb dX1_hasColumnOrSide_4 rfl (lv_at hl 1 rfl) ?_
    refine lv_aload_n hx hb dX1_hasColumnOrSide_5 rfl (lv_at hl 0 rfl) ?_
    refine va_get (D := D) (ci := 1) (v := .int t_columns) (C := RX1) (T := TX1) (N := 5) hx hb hts inX1_hasColumnOrSide_X1 hown hK hP 0 rfl rfl 1 (by decide) (hts (.fieldLink RX1 15 "RowPivots$Grid" "columns" "I") (List.mem_of_getElem? (i := 1) rfl)) (fun _ h9 => h9) rfl dX1_hasColumnOrSide_6 ?_
    refine lv_icmp_gt (tgt := 16) hx hb dX1_hasColumnOrSide_9 (by decide) (fun hc_9 => ?_) (fun hc_9 => ?_)
    · have hf := ifP hc_9 hf
      refine lv_iconst (v := 0) hx hb dX1_hasColumnOrSide_16 (by decide) ?_
      have hf : (some (0) : Option (Int32)) = some (z_r) := hf
      cases hf
      exact cRz hx hb hr hlk hP hD hS rfl (by decide) dX1_hasColumnOrSide_17
    · have hf := ifN hc_9 hf
      refine lv_iconst (v := 1) hx hb dX1_hasColumnOrSide_12 (by decide) ?_
      refine lv_goto (tgt := 17) hx hb dX1_hasColumnOrSide_13 (by decide) ?_
      have hf : (some (1) : Option (Int32)) = some (z_r) := hf
      cases hf
      exact cRz hx hb hr hlk hP hD hS rfl (by decide) dX1_hasColumnOrSide_17
def fX10_isTold (p0 : Int32) (p1 : Int32) : Option (Int32) :=
  if p0 < (-999) then (some (0)) else (if 999 < p0 then (some (0)) else (if p1 < 1 then (some (0)) else (if 99 < p1 then (some (0)) else (some (1)))))
set_option maxHeartbeats 4000000 in
set_option maxRecDepth 100000 in
theorem MX10_isTold (l : Launch) (D : va_G) (cI cJ cB cZ cG cS : ClassId) (sz : Nat) (p0 : Int32) (p1 : Int32) (z_r : Int32) (hf : fX10_isTold p0 p1 = some (z_r)) : Met l yX10_isTold wsX10_isTold { frames := 0, cells := 0, slots := 0, locals := 0 } (cP D (tyL cI cJ cB cZ cG cS) [.int p0, .int p1] sz []) (cQi D (va_A [] sz) z_r []) 0 0 (va_A [] sz) := by
  refine cM (Qc := fun A => cQi D A z_r []) RX10 (by decide) rfl rfl (Nat.le_of_ble_eq_true rfl) ?_
  intro p e s m below meth c A ls hx hb hr hlk hml hown hts hK hN hP hD hS hA hl
  have X : Cx D (tyL cI cJ cB cZ cG cS) cX10_isTold 2 (some .boolean) RX10 wsX10_isTold [.int p0, .int p1] p s m meth c A := ⟨hx, hb, hr, hlk, hml, hown, hts, hK, hN, hA⟩
  have hl : lv_has ls 2 [(0, .int p0), (1, .int p1)] := hl
  unfold fX10_isTold at hf
  refine lv_iload_n hx hb dX10_isTold_0 rfl (lv_at hl 0 rfl) ?_
  refine lv_sipush (v := (-999)) hx hb dX10_isTold_1 (by decide) ?_
  refine lv_icmp_lt (tgt := 29) hx hb dX10_isTold_4 (by decide) (fun hc_4 => ?_) (fun hc_4 => ?_)
  · have hf := ifP hc_4 hf
    refine lv_iconst (v := 0) hx hb dX10_isTold_29 (by decide) ?_
    have hf : (some (0) : Option (Int32)) = some (z_r) := hf
    cases hf
    exact cRz hx hb hr hlk hP hD hS rfl (by decide) dX10_isTold_30
  · have hf := ifN hc_4 hf
    refine lv_iload_n hx hb dX10_isTold_7 rfl (lv_at hl 0 rfl) ?_
    refine lv_sipush (v := 999) hx hb dX10_isTold_8 (by decide) ?_
    refine lv_icmp_gt (tgt := 29) hx hb dX10_isTold_11 (by decide) (fun hc_11 => ?_) (fun hc_11 => ?_)
    · have hf := ifP hc_11 hf
      refine lv_iconst (v := 0) hx hb dX10_isTold_29 (by decide) ?_
      have hf : (some (0) : Option (Int32)) = some (z_r) := hf
      cases hf
      exact cRz hx hb hr hlk hP hD hS rfl (by decide) dX10_isTold_30
    · have hf := ifN hc_11 hf
      refine lv_iload_n hx hb dX10_isTold_14 rfl (lv_at hl 1 rfl) ?_
      refine lv_iconst (v := 1) hx hb dX10_isTold_15 (by decide) ?_
      refine lv_icmp_lt (tgt := 29) hx hb dX10_isTold_16 (by decide) (fun hc_16 => ?_) (fun hc_16 => ?_)
      · have hf := ifP hc_16 hf
        refine lv_iconst (v := 0) hx hb dX10_isTold_29 (by decide) ?_
        have hf : (some (0) : Option (Int32)) = some (z_r) := hf
        cases hf
        exact cRz hx hb hr hlk hP hD hS rfl (by decide) dX10_isTold_30
      · have hf := ifN hc_16 hf
        refine lv_iload_n hx hb dX10_isTold_19 rfl (lv_at hl 1 rfl) ?_
        refine lv_bipush (v := 99) hx hb dX10_isTold_20 (by decide) ?_
        refine lv_icmp_gt (tgt := 29) hx hb dX10_isTold_22 (by decide) (fun hc_22 => ?_) (fun hc_22 => ?_)
        · have hf := ifP hc_22 hf
          refine lv_iconst (v := 0) hx hb dX10_isTold_29 (by decide) ?_
          have hf : (some (0) : Option (Int32)) = some (z_r) := hf
          cases hf
          exact cRz hx hb hr hlk hP hD hS rfl (by decide) dX10_isTold_30
        · have hf := ifN hc_22 hf
          refine lv_iconst (v := 1) hx hb dX10_isTold_25 (by decide) ?_
          refine lv_goto (tgt := 30) hx hb dX10_isTold_26 (by decide) ?_
          have hf : (some (1) : Option (Int32)) = some (z_r) := hf
          cases hf
          exact cRz hx hb hr hlk hP hD hS rfl (by decide) dX10_isTold_30
theorem inX3_spoil_X3 : ∀ w ∈ wsX30, w ∈ wsX3_spoil := fun _ h => List.mem_cons_of_mem _ (List.mem_append_right _ h)
def fX3_spoil : Option (Int64 × Int64 × Int32) :=
  some (0, 1, 1)
set_option maxHeartbeats 4000000 in
set_option maxRecDepth 100000 in
theorem MX3_spoil (l : Launch) (D : va_G) (cI cJ cB cZ cG cS : ClassId) (sz : Nat) (a_t : Nat) (t_upper : Int64) (t_lower : Int64) (t_isLong : Int32) (z_t_upper : Int64) (z_t_lower : Int64) (z_t_isLong : Int32) (hf : fX3_spoil = some (z_t_upper, z_t_lower, z_t_isLong)) : Met l yX3_spoil wsX3_spoil { frames := 0, cells := 0, slots := 0, locals := 0 } (cP D (tyL cI cJ cB cZ cG cS) [.ref a_t] sz [(a_t, .inr (3, [.long t_upper, .long t_lower, .int t_isLong]))]) (cQv D (va_A [(a_t, .inr (3, [.long t_upper, .long t_lower, .int t_isLong]))] sz) [(a_t, .inr (3, [.long z_t_upper, .long z_t_lower, .int z_t_isLong]))]) 0 0 (va_A [(a_t, .inr (3, [.long t_upper, .long t_lower, .int t_isLong]))] sz) := by
  refine cM (Qc := fun A => cQv D A [(a_t, .inr (3, [.long z_t_upper, .long z_t_lower, .int z_t_isLong]))]) RX3 (by decide) rfl rfl (Nat.le_of_ble_eq_true rfl) ?_
  intro p e s m below meth c A ls hx hb hr hlk hml hown hts hK hN hP hD hS hA hl
  have X : Cx D (tyL cI cJ cB cZ cG cS) cX3_spoil 1 none RX3 wsX3_spoil [.ref a_t] p s m meth c A := ⟨hx, hb, hr, hlk, hml, hown, hts, hK, hN, hA⟩
  have hl : lv_has ls 1 [(0, .ref a_t)] := hl
  unfold fX3_spoil at hf
  refine lv_aload_n hx hb dX3_spoil_0 rfl (lv_at hl 0 rfl) ?_
  refine lv_iconst (v := 1) hx hb dX3_spoil_1 (by decide) ?_
  refine va_put (D := D) (ci := 3) (v := .int 1) (ty := .boolean) (C := RX3) (T := TX3) (N := 3) hx hb hts inX3_spoil_X3 tyX3 tyX3_ok nmX3 hown hK hP hD hS 0 rfl rfl 2 (by decide) (hts (.fieldLink RX3 15 "RowPivots$Ratio" "isLong" "Z") (List.mem_of_getElem? (i := 1) rfl)) (fun _ h9 => h9) rfl (by decide +kernel) (by decide +kernel) (by decide +kernel) (Nat.le_of_ble_eq_true rfl) dX3_spoil_2 (fun H locs hP hD hS => ?_)
  have hP : va_P D vwCl [(a_t, .inr (3, [.long t_upper, .long t_lower, .int 1]))] H := hP
  have hD : va_D A [(a_t, .inr (3, [.long t_upper, .long t_lower, .int 1]))] := hD
  refine lv_aload_n hx hb dX3_spoil_5 rfl (lv_at hl 0 rfl) ?_
  refine lv_lconst (v := 0) hx hb dX3_spoil_6 (by decide) ?_
  refine va_put (D := D) (ci := 3) (v := .long 0) (ty := .long) (C := RX3) (T := TX3) (N := 3) hx hb hts inX3_spoil_X3 tyX3 tyX3_ok nmX3 hown hK hP hD hS 0 rfl rfl 0 (by decide) (hts (.fieldLink RX3 29 "RowPivots$Ratio" "upper" "J") (List.mem_of_getElem? (i := 2) rfl)) (fun _ h9 => h9) rfl (by decide +kernel) rfl rfl (Nat.le_of_ble_eq_true rfl) dX3_spoil_7 (fun H locs hP hD hS => ?_)
  have hP : va_P D vwCl [(a_t, .inr (3, [.long 0, .long t_lower, .int 1]))] H := hP
  have hD : va_D A [(a_t, .inr (3, [.long 0, .long t_lower, .int 1]))] := hD
  refine lv_aload_n hx hb dX3_spoil_10 rfl (lv_at hl 0 rfl) ?_
  refine lv_lconst (v := 1) hx hb dX3_spoil_11 (by decide) ?_
  refine va_put (D := D) (ci := 3) (v := .long 1) (ty := .long) (C := RX3) (T := TX3) (N := 3) hx hb hts inX3_spoil_X3 tyX3 tyX3_ok nmX3 hown hK hP hD hS 0 rfl rfl 1 (by decide) (hts (.fieldLink RX3 9 "RowPivots$Ratio" "lower" "J") (List.mem_of_getElem? (i := 3) rfl)) (fun _ h9 => h9) rfl (by decide +kernel) rfl rfl (Nat.le_of_ble_eq_true rfl) dX3_spoil_12 (fun H locs hP hD hS => ?_)
  have hP : va_P D vwCl [(a_t, .inr (3, [.long 0, .long 1, .int 1]))] H := hP
  have hD : va_D A [(a_t, .inr (3, [.long 0, .long 1, .int 1]))] := hD
  have hf : (some (0, 1, 1) : Option (Int64 × Int64 × Int32)) = some (z_t_upper, z_t_lower, z_t_isLong) := hf
  cases hf
  exact cRv hx hb hr hlk hP hD hS dX3_spoil_15
theorem inX3_settle_X3 : ∀ w ∈ wsX30, w ∈ wsX3_settle := fun _ h => List.mem_cons_of_mem _ (List.mem_append_right _ h)
def fX3_settle_96 (p1 : Int64) (p2 : Int64) (t_isLong : Int32) (v5_96 : Int64) : Option (Int64 × Int64 × Int32) :=
  if (lg_cmp v5_96 0) = 0 then ((fX3_spoil).bind fun u_7 => some (u_7.1, u_7.2.1, u_7.2.2)) else (nzL v5_96 <| lt (p1 / v5_96) fun x_2 => nzL v5_96 <| lt (p2 / v5_96) fun x_3 => if 0 < (lg_cmp x_2 1000000000) then ((fX3_spoil).bind fun u_4 => some (u_4.1, u_4.2.1, u_4.2.2)) else (if (lg_cmp x_2 (-1000000000)) < 0 then ((fX3_spoil).bind fun u_5 => some (u_5.1, u_5.2.1, u_5.2.2)) else (if (lg_cmp x_3 1000000000) ≤ 0 then (some (x_2, x_3, t_isLong)) else ((fX3_spoil).bind fun u_6 => some (u_6.1, u_6.2.1, u_6.2.2)))))
def fX3_settle_85 (p1 : Int64) (p2 : Int64) (t_isLong : Int32) (v5_85 : Int64) : Option (Int64 × Int64 × Int32) :=
  if 0 ≤ (lg_cmp p2 0) then (fX3_settle_96 p1 p2 t_isLong v5_85) else (lt (-v5_85) fun x_8 => fX3_settle_96 p1 p2 t_isLong x_8)
def fX3_settle_49 (p1 : Int64) (p2 : Int64) (t_isLong : Int32) : Nat → Int64 → Int64 → Int32 → Option (Int64 × Int64 × Int32)
  | 0, _, _, _ => none
  | n + 1, v5_49, v7_49, v9_49 => if 200 ≤ v9_49 then (fX3_settle_85 p1 p2 t_isLong v5_49) else (if (lg_cmp v7_49 0) = 0 then (fX3_settle_85 p1 p2 t_isLong v5_49) else (nzL v7_49 <| lt (v5_49 - v5_49 / v7_49 * v7_49) fun x_9 => (fX3_settle_49 p1 p2 t_isLong n) v7_49 x_9 (v9_49 + 1)))
theorem fX3_settle_49_s (p1 : Int64) (p2 : Int64) (t_isLong : Int32) (n : Nat) (v5_49 : Int64) (v7_49 : Int64) (v9_49 : Int32) : fX3_settle_49 p1 p2 t_isLong (n + 1) v5_49 v7_49 v9_49 = (if 200 ≤ v9_49 then (fX3_settle_85 p1 p2 t_isLong v5_49) else (if (lg_cmp v7_49 0) = 0 then (fX3_settle_85 p1 p2 t_isLong v5_49) else (nzL v7_49 <| lt (v5_49 - v5_49 / v7_49 * v7_49) fun x_9 => (fX3_settle_49 p1 p2 t_isLong n) v7_49 x_9 (v9_49 + 1)))) := rfl
def fX3_settle_30 (p1 : Int64) (p2 : Int64) (t_isLong : Int32) (st0_30 : Int64) : Option (Int64 × Int64 × Int32) :=
  if 0 ≤ (lg_cmp p2 0) then (fX3_settle_49 p1 p2 t_isLong fuelN st0_30 p2 0) else (lt (-p2) fun x_10 => fX3_settle_49 p1 p2 t_isLong fuelN st0_30 x_10 0)
def fX3_settle (p1 : Int64) (p2 : Int64) (t_isLong : Int32) : Option (Int64 × Int64 × Int32) :=
  if t_isLong = 0 then (if (lg_cmp p2 0) = 0 then ((fX3_spoil).bind fun u_11 => some (u_11.1, u_11.2.1, u_11.2.2)) else (if 0 ≤ (lg_cmp p1 0) then (fX3_settle_30 p1 p2 t_isLong p1) else (fX3_settle_30 p1 p2 t_isLong (-p1)))) else ((fX3_spoil).bind fun u_1 => some (u_1.1, u_1.2.1, u_1.2.2))
set_option maxHeartbeats 4000000 in
set_option maxRecDepth 100000 in
theorem wX3_settle_96 {l : Launch} {D : va_G} {cI cJ cB cZ cG cS : ClassId} {p : Program} {e : Env} {s : State} {m : MethodId} {below : List Frame} {meth : Method} {c : Code} {A : Nat → Prop} (a_t : Nat) (z_t_upper : Int64) (z_t_lower : Int64) (z_t_isLong : Int32) (p1 : Int64) (p2 : Int64) (t_upper : Int64) (t_lower : Int64) (t_isLong : Int32) (v5_96 : Int64)  (X : Cx D (tyL cI cJ cB cZ cG cS) cX3_settle 12 none RX3 wsX3_settle [.ref a_t, .long p1, .long p2] p s m meth c A) : ∀ (H : Heap) (locs : List Loc) (ls : Array Slot), fX3_settle_96 p1 p2 t_isLong v5_96 = some (z_t_upper, z_t_lower, z_t_isLong) → va_P D vwCl [(a_t, .inr (3, [.long t_upper, .long t_lower, .int t_isLong]))] H → va_D A [(a_t, .inr (3, [.long t_upper, .long t_lower, .int t_isLong]))] → va_S A s.heap H locs → lv_has ls 12 [(0, .ref a_t), (1, .long p1), (3, .long p2), (5, .long v5_96)] → W p l e { frames := 1, cells := 0, slots := 0, locals := 20 } s m ([.ref a_t, .long p1, .long p2] : List Value).toArray below meth c H locs 0 0 (MQ below (cQv D A [(a_t, .inr (3, [.long z_t_upper, .long z_t_lower, .int z_t_isLong]))]) ([.ref a_t, .long p1, .long p2] : List Value).toArray s 0 0 A) (F0 m 96 ls []) := by
  obtain ⟨hx, hb, hr, hlk, hml, hown, hts, hK, hN, hA⟩ := id X
  intro H locs ls hf hP hD hS hl
  unfold fX3_settle_96 at hf
  refine lv_lload hx hb dX3_settle_96 (lv_at hl 3 rfl) ?_
  refine lv_lconst (v := 0) hx hb dX3_settle_98 (by decide) ?_
  refine W.lcmp hx hb dX3_settle_99 ?_
  refine lv_if_ne (tgt := 108) hx hb dX3_settle_100 (by decide) (fun hc_100 => ?_) (fun hc_100 => ?_)
  · have hf := ifN hc_100 hf
    refine lv_aload_n hx hb dX3_settle_108 rfl (lv_at hl 0 rfl) ?_
    refine lv_lload_n hx hb dX3_settle_109 rfl (lv_at hl 1 rfl) ?_
    refine lv_lload hx hb dX3_settle_110 (lv_at hl 3 rfl) ?_
    obtain ⟨hz_112, hf⟩ := nzL_b hf
    refine lv_ldiv hx hb dX3_settle_112 hz_112 ?_
    refine lv_topl (fun x_2 ex_2 => ?_)
    have hf := lt_b ex_2 hf
    refine va_put (D := D) (ci := 3) (v := .long x_2) (ty := .long) (C := RX3) (T := TX3) (N := 3) hx hb hts inX3_settle_X3 tyX3 tyX3_ok nmX3 hown hK hP hD hS 0 rfl rfl 0 (by decide) (hts (.fieldLink RX3 29 "RowPivots$Ratio" "upper" "J") (List.mem_of_getElem? (i := 2) rfl)) (fun _ h9 => h9) rfl (by decide +kernel) rfl rfl (Nat.le_of_ble_eq_true rfl) dX3_settle_113 (fun H locs hP hD hS => ?_)
    have hP : va_P D vwCl [(a_t, .inr (3, [.long x_2, .long t_lower, .int t_isLong]))] H := hP
    have hD : va_D A [(a_t, .inr (3, [.long x_2, .long t_lower, .int t_isLong]))] := hD
    refine lv_aload_n hx hb dX3_settle_116 rfl (lv_at hl 0 rfl) ?_
    refine lv_lload_n hx hb dX3_settle_117 rfl (lv_at hl 2 rfl) ?_
    refine lv_lload hx hb dX3_settle_118 (lv_at hl 3 rfl) ?_
    obtain ⟨hz_120, hf⟩ := nzL_b hf
    refine lv_ldiv hx hb dX3_settle_120 hz_120 ?_
    refine lv_topl (fun x_3 ex_3 => ?_)
    have hf := lt_b ex_3 hf
    refine va_put (D := D) (ci := 3) (v := .long x_3) (ty := .long) (C := RX3) (T := TX3) (N := 3) hx hb hts inX3_settle_X3 tyX3 tyX3_ok nmX3 hown hK hP hD hS 0 rfl rfl 1 (by decide) (hts (.fieldLink RX3 9 "RowPivots$Ratio" "lower" "J") (List.mem_of_getElem? (i := 3) rfl)) (fun _ h9 => h9) rfl (by decide +kernel) rfl rfl (Nat.le_of_ble_eq_true rfl) dX3_settle_121 (fun H locs hP hD hS => ?_)
    have hP : va_P D vwCl [(a_t, .inr (3, [.long x_2, .long x_3, .int t_isLong]))] H := hP
    have hD : va_D A [(a_t, .inr (3, [.long x_2, .long x_3, .int t_isLong]))] := hD
    refine lv_aload_n hx hb dX3_settle_124 rfl (lv_at hl 0 rfl) ?_
    refine va_get (D := D) (ci := 3) (v := .long x_2) (C := RX3) (T := TX3) (N := 3) hx hb hts inX3_settle_X3 hown hK hP 0 rfl rfl 0 (by decide) (hts (.fieldLink RX3 29 "RowPivots$Ratio" "upper" "J") (List.mem_of_getElem? (i := 2) rfl)) (fun _ h9 => h9) rfl dX3_settle_125 ?_
    refine lv_ldc2 (v := 1000000000) hx hb hown (hts (.constantLong RX3 39 (1000000000)) (List.mem_of_getElem? (i := 4) rfl)) dX3_settle_128 ?_
    refine W.lcmp hx hb dX3_settle_131 ?_
    refine lv_if_gt (tgt := 157) hx hb dX3_settle_132 (by decide) (fun hc_132 => ?_) (fun hc_132 => ?_)
    · have hf := ifP hc_132 hf
      refine lv_aload_n hx hb dX3_settle_157 rfl (lv_at hl 0 rfl) ?_
      obtain ⟨u_4, hcu_4, hf⟩ := bdS hf
      refine kVv (As := []) (rest := []) (w2 := [(a_t, .inr (3, [.long u_4.1, .long u_4.2.1, .int u_4.2.2]))]) (wr := []) (ci := 3) (q0 := 0) ⟨hx, hb, hml, hown, hts⟩ (MX3_spoil l D cI cJ cB cZ cG cS _ a_t x_2 x_3 t_isLong u_4.1 u_4.2.1 u_4.2.2 hcu_4) (cwV 0 hts gX3_settle_X3_spoil rfl rfl rfl (by decide +kernel) ⟨Nat.le_of_ble_eq_true rfl, Nat.le_of_ble_eq_true rfl⟩) hK hN hP hD hS hA [0] [] [0] rfl (by decide) rfl (by decide) (by decide) rfl (by decide) rfl rfl rfl hl.1 rfl (Nat.le_of_ble_eq_true rfl) dX3_settle_158 ⟨Nat.zero_le _, Nat.zero_le _⟩ (fun H locs hP hD hS => ?_)
      have hf : (some (u_4.1, u_4.2.1, u_4.2.2) : Option (Int64 × Int64 × Int32)) = some (z_t_upper, z_t_lower, z_t_isLong) := hf
      cases hf
      exact cRv hx hb hr hlk hP hD hS dX3_settle_161
    · have hf := ifN hc_132 hf
      refine lv_aload_n hx hb dX3_settle_135 rfl (lv_at hl 0 rfl) ?_
      refine va_get (D := D) (ci := 3) (v := .long x_2) (C := RX3) (T := TX3) (N := 3) hx hb hts inX3_settle_X3 hown hK hP 0 rfl rfl 0 (by decide) (hts (.fieldLink RX3 29 "RowPivots$Ratio" "upper" "J") (List.mem_of_getElem? (i := 2) rfl)) (fun _ h9 => h9) rfl dX3_settle_136 ?_
      refine lv_ldc2 (v := (-1000000000)) hx hb hown (hts (.constantLong RX3 41 (-1000000000)) (List.mem_of_getElem? (i := 5) rfl)) dX3_settle_139 ?_
      refine W.lcmp hx hb dX3_settle_142 ?_
      refine lv_if_lt (tgt := 157) hx hb dX3_settle_143 (by decide) (fun hc_143 => ?_) (fun hc_143 => ?_)
      · have hf := ifP hc_143 hf
        refine lv_aload_n hx hb dX3_settle_157 rfl (lv_at hl 0 rfl) ?_
        obtain ⟨u_5, hcu_5, hf⟩ := bdS hf
        refine kVv (As := []) (rest := []) (w2 := [(a_t, .inr (3, [.long u_5.1, .long u_5.2.1, .int u_5.2.2]))]) (wr := []) (ci := 3) (q0 := 0) ⟨hx, hb, hml, hown, hts⟩ (MX3_spoil l D cI cJ cB cZ cG cS _ a_t x_2 x_3 t_isLong u_5.1 u_5.2.1 u_5.2.2 hcu_5) (cwV 0 hts gX3_settle_X3_spoil rfl rfl rfl (by decide +kernel) ⟨Nat.le_of_ble_eq_true rfl, Nat.le_of_ble_eq_true rfl⟩) hK hN hP hD hS hA [0] [] [0] rfl (by decide) rfl (by decide) (by decide) rfl (by decide) rfl rfl rfl hl.1 rfl (Nat.le_of_ble_eq_true rfl) dX3_settle_158 ⟨Nat.zero_le _, Nat.zero_le _⟩ (fun H locs hP hD hS => ?_)
        have hf : (some (u_5.1, u_5.2.1, u_5.2.2) : Option (Int64 × Int64 × Int32)) = some (z_t_upper, z_t_lower, z_t_isLong) := hf
        cases hf
        exact cRv hx hb hr hlk hP hD hS dX3_settle_161
      · have hf := ifN hc_143 hf
        refine lv_aload_n hx hb dX3_settle_146 rfl (lv_at hl 0 rfl) ?_
        refine va_get (D := D) (ci := 3) (v := .long x_3) (C := RX3) (T := TX3) (N := 3) hx hb hts inX3_settle_X3 hown hK hP 0 rfl rfl 1 (by decide) (hts (.fieldLink RX3 9 "RowPivots$Ratio" "lower" "J") (List.mem_of_getElem? (i := 3) rfl)) (fun _ h9 => h9) rfl dX3_settle_147 ?_
        refine lv_ldc2 (v := 1000000000) hx hb hown (hts (.constantLong RX3 39 (1000000000)) (List.mem_of_getElem? (i := 4) rfl)) dX3_settle_150 ?_
        refine W.lcmp hx hb dX3_settle_153 ?_
        refine lv_if_le (tgt := 161) hx hb dX3_settle_154 (by decide) (fun hc_154 => ?_) (fun hc_154 => ?_)
        · have hf := ifP hc_154 hf
          have hf : (some (x_2, x_3, t_isLong) : Option (Int64 × Int64 × Int32)) = some (z_t_upper, z_t_lower, z_t_isLong) := hf
          cases hf
          exact cRv hx hb hr hlk hP hD hS dX3_settle_161
        · have hf := ifN hc_154 hf
          refine lv_aload_n hx hb dX3_settle_157 rfl (lv_at hl 0 rfl) ?_
          obtain ⟨u_6, hcu_6, hf⟩ := bdS hf
          refine kVv (As := []) (rest := []) (w2 := [(a_t, .inr (3, [.long u_6.1, .long u_6.2.1, .int u_6.2.2]))]) (wr := []) (ci := 3) (q0 := 0) ⟨hx, hb, hml, hown, hts⟩ (MX3_spoil l D cI cJ cB cZ cG cS _ a_t x_2 x_3 t_isLong u_6.1 u_6.2.1 u_6.2.2 hcu_6) (cwV 0 hts gX3_settle_X3_spoil rfl rfl rfl (by decide +kernel) ⟨Nat.le_of_ble_eq_true rfl, Nat.le_of_ble_eq_true rfl⟩) hK hN hP hD hS hA [0] [] [0] rfl (by decide) rfl (by decide) (by decide) rfl (by decide) rfl rfl rfl hl.1 rfl (Nat.le_of_ble_eq_true rfl) dX3_settle_158 ⟨Nat.zero_le _, Nat.zero_le _⟩ (fun H locs hP hD hS => ?_)
          have hf : (some (u_6.1, u_6.2.1, u_6.2.2) : Option (Int64 × Int64 × Int32)) = some (z_t_upper, z_t_lower, z_t_isLong) := hf
          cases hf
          exact cRv hx hb hr hlk hP hD hS dX3_settle_161
  · have hf := ifP hc_100 hf
    refine lv_aload_n hx hb dX3_settle_103 rfl (lv_at hl 0 rfl) ?_
    obtain ⟨u_7, hcu_7, hf⟩ := bdS hf
    refine kVv (As := []) (rest := []) (w2 := [(a_t, .inr (3, [.long u_7.1, .long u_7.2.1, .int u_7.2.2]))]) (wr := []) (ci := 3) (q0 := 0) ⟨hx, hb, hml, hown, hts⟩ (MX3_spoil l D cI cJ cB cZ cG cS _ a_t t_upper t_lower t_isLong u_7.1 u_7.2.1 u_7.2.2 hcu_7) (cwV 0 hts gX3_settle_X3_spoil rfl rfl rfl (by decide +kernel) ⟨Nat.le_of_ble_eq_true rfl, Nat.le_of_ble_eq_true rfl⟩) hK hN hP hD hS hA [0] [] [0] rfl (by decide) rfl (by decide) (by decide) rfl (by decide) rfl rfl rfl hl.1 rfl (Nat.le_of_ble_eq_true rfl) dX3_settle_104 ⟨Nat.zero_le _, Nat.zero_le _⟩ (fun H locs hP hD hS => ?_)
    have hf : (some (u_7.1, u_7.2.1, u_7.2.2) : Option (Int64 × Int64 × Int32)) = some (z_t_upper, z_t_lower, z_t_isLong) := hf
    cases hf
    exact cRv hx hb hr hlk hP hD hS dX3_settle_107
set_option maxHeartbeats 4000000 in
set_option maxRecDepth 100000 in
theorem wX3_settle_85 {l : Launch} {D : va_G} {cI cJ cB cZ cG cS : ClassId} {p : Program} {e : Env} {s : State} {m : MethodId} {below : List Frame} {meth : Method} {c : Code} {A : Nat → Prop} (a_t : Nat) (z_t_upper : Int64) (z_t_lower : Int64) (z_t_isLong : Int32) (p1 : Int64) (p2 : Int64) (t_upper : Int64) (t_lower : Int64) (t_isLong : Int32) (v5_85 : Int64)  (X : Cx D (tyL cI cJ cB cZ cG cS) cX3_settle 12 none RX3 wsX3_settle [.ref a_t, .long p1, .long p2] p s m meth c A) : ∀ (H : Heap) (locs : List Loc) (ls : Array Slot), fX3_settle_85 p1 p2 t_isLong v5_85 = some (z_t_upper, z_t_lower, z_t_isLong) → va_P D vwCl [(a_t, .inr (3, [.long t_upper, .long t_lower, .int t_isLong]))] H → va_D A [(a_t, .inr (3, [.long t_upper, .long t_lower, .int t_isLong]))] → va_S A s.heap H locs → lv_has ls 12 [(0, .ref a_t), (1, .long p1), (3, .long p2), (5, .long v5_85)] → W p l e { frames := 1, cells := 0, slots := 0, locals := 20 } s m ([.ref a_t, .long p1, .long p2] : List Value).toArray below meth c H locs 0 0 (MQ below (cQv D A [(a_t, .inr (3, [.long z_t_upper, .long z_t_lower, .int z_t_isLong]))]) ([.ref a_t, .long p1, .long p2] : List Value).toArray s 0 0 A) (F0 m 85 ls []) := by
  obtain ⟨hx, hb, hr, hlk, hml, hown, hts, hK, hN, hA⟩ := id X
  intro H locs ls hf hP hD hS hl
  unfold fX3_settle_85 at hf
  refine lv_lload_n hx hb dX3_settle_85 rfl (lv_at hl 2 rfl) ?_
  refine lv_lconst (v := 0) hx hb dX3_settle_86 (by decide) ?_
  refine W.lcmp hx hb dX3_settle_87 ?_
  refine lv_if_ge (tgt := 96) hx hb dX3_settle_88 (by decide) (fun hc_88 => ?_) (fun hc_88 => ?_)
  · have hf := ifP hc_88 hf
    exact wX3_settle_96 a_t z_t_upper z_t_lower z_t_isLong p1 p2 t_upper t_lower t_isLong v5_85 X  _ _ _ hf hP hD hS (lv_sub hl [0, 1, 2, 3] rfl)
  · have hf := ifN hc_88 hf
    refine lv_lload hx hb dX3_settle_91 (lv_at hl 3 rfl) ?_
    refine lv_lneg hx hb dX3_settle_93 ?_
    refine lv_topl (fun x_8 ex_8 => ?_)
    have hf := lt_b ex_8 hf
    refine lv_lstore (lv' := [(5, .long x_8), (0, .ref a_t), (1, .long p1), (3, .long p2)]) hx hb dX3_settle_94 hl (by decide) rfl (fun ls hl => ?_)
    exact wX3_settle_96 a_t z_t_upper z_t_lower z_t_isLong p1 p2 t_upper t_lower t_isLong x_8 X  _ _ _ hf hP hD hS (lv_sub hl [1, 2, 3, 0] rfl)
set_option maxHeartbeats 4000000 in
set_option maxRecDepth 100000 in
theorem wX3_settle_49 {l : Launch} {D : va_G} {cI cJ cB cZ cG cS : ClassId} {p : Program} {e : Env} {s : State} {m : MethodId} {below : List Frame} {meth : Method} {c : Code} {A : Nat → Prop} (a_t : Nat) (z_t_upper : Int64) (z_t_lower : Int64) (z_t_isLong : Int32) (p1 : Int64) (p2 : Int64) (t_upper : Int64) (t_lower : Int64) (t_isLong : Int32)  (X : Cx D (tyL cI cJ cB cZ cG cS) cX3_settle 12 none RX3 wsX3_settle [.ref a_t, .long p1, .long p2] p s m meth c A) : ∀ (n : Nat) (v5_49 : Int64) (v7_49 : Int64) (v9_49 : Int32) (H : Heap) (locs : List Loc) (ls : Array Slot), fX3_settle_49 p1 p2 t_isLong n v5_49 v7_49 v9_49 = some (z_t_upper, z_t_lower, z_t_isLong) → va_P D vwCl [(a_t, .inr (3, [.long t_upper, .long t_lower, .int t_isLong]))] H → va_D A [(a_t, .inr (3, [.long t_upper, .long t_lower, .int t_isLong]))] → va_S A s.heap H locs → lv_has ls 12 [(0, .ref a_t), (1, .long p1), (3, .long p2), (5, .long v5_49), (7, .long v7_49), (9, .int v9_49)] → W p l e { frames := 1, cells := 0, slots := 0, locals := 20 } s m ([.ref a_t, .long p1, .long p2] : List Value).toArray below meth c H locs 0 0 (MQ below (cQv D A [(a_t, .inr (3, [.long z_t_upper, .long z_t_lower, .int z_t_isLong]))]) ([.ref a_t, .long p1, .long p2] : List Value).toArray s 0 0 A) (F0 m 49 ls []) := by
  obtain ⟨hx, hb, hr, hlk, hml, hown, hts, hK, hN, hA⟩ := id X
  intro n
  induction n with
  | zero =>
    intro v5_49 v7_49 v9_49 H locs ls hf
    have hf : (none : Option (Int64 × Int64 × Int32)) = some (z_t_upper, z_t_lower, z_t_isLong) := hf
    cases hf
  | succ n ih =>
    intro v5_49 v7_49 v9_49 H locs ls hf hP hD hS hl
    rw [fX3_settle_49_s] at hf
    refine lv_iload hx hb dX3_settle_49 (lv_at hl 5 rfl) ?_
    refine lv_sipush (v := 200) hx hb dX3_settle_51 (by decide) ?_
    refine lv_icmp_ge (tgt := 85) hx hb dX3_settle_54 (by decide) (fun hc_54 => ?_) (fun hc_54 => ?_)
    · have hf := ifP hc_54 hf
      exact wX3_settle_85 a_t z_t_upper z_t_lower z_t_isLong p1 p2 t_upper t_lower t_isLong v5_49 X  _ _ _ hf hP hD hS (lv_sub hl [0, 1, 2, 3] rfl)
    · have hf := ifN hc_54 hf
      refine lv_lload hx hb dX3_settle_57 (lv_at hl 4 rfl) ?_
      refine lv_lconst (v := 0) hx hb dX3_settle_59 (by decide) ?_
      refine W.lcmp hx hb dX3_settle_60 ?_
      refine lv_if_eq (tgt := 85) hx hb dX3_settle_61 (by decide) (fun hc_61 => ?_) (fun hc_61 => ?_)
      · have hf := ifP hc_61 hf
        exact wX3_settle_85 a_t z_t_upper z_t_lower z_t_isLong p1 p2 t_upper t_lower t_isLong v5_49 X  _ _ _ hf hP hD hS (lv_sub hl [0, 1, 2, 3] rfl)
      · have hf := ifN hc_61 hf
        refine lv_lload hx hb dX3_settle_64 (lv_at hl 3 rfl) ?_
        refine lv_lload hx hb dX3_settle_66 (lv_at hl 4 rfl) ?_
        obtain ⟨hz_68, hf⟩ := nzL_b hf
        refine lv_lrem hx hb dX3_settle_68 hz_68 ?_
        refine lv_topl (fun x_9 ex_9 => ?_)
        have hf := lt_b ex_9 hf
        refine lv_lstore (lv' := [(10, .long x_9), (0, .ref a_t), (1, .long p1), (3, .long p2), (5, .long v5_49), (7, .long v7_49), (9, .int v9_49)]) hx hb dX3_settle_69 hl (by decide) rfl (fun ls hl => ?_)
        refine lv_lload hx hb dX3_settle_71 (lv_at hl 5 rfl) ?_
        refine lv_lstore (lv' := [(5, .long v7_49), (10, .long x_9), (0, .ref a_t), (1, .long p1), (3, .long p2), (7, .long v7_49), (9, .int v9_49)]) hx hb dX3_settle_73 hl (by decide) rfl (fun ls hl => ?_)
        refine lv_lload hx hb dX3_settle_75 (lv_at hl 1 rfl) ?_
        refine lv_lstore (lv' := [(7, .long x_9), (5, .long v7_49), (10, .long x_9), (0, .ref a_t), (1, .long p1), (3, .long p2), (9, .int v9_49)]) hx hb dX3_settle_77 hl (by decide) rfl (fun ls hl => ?_)
        refine lv_iinc (v := (v9_49 + 1)) (lv' := [(9, .int (v9_49 + 1)), (7, .long x_9), (5, .long v7_49), (10, .long x_9), (0, .ref a_t), (1, .long p1), (3, .long p2)]) hx hb dX3_settle_79 hl (k := 6) rfl rfl (by decide) rfl (fun ls hl => ?_)
        refine lv_goto (tgt := 49) hx hb dX3_settle_82 (by decide) ?_
        exact ih v7_49 x_9 (v9_49 + 1) _ _ _ hf hP hD hS (lv_sub hl [4, 5, 6, 2, 1, 0] rfl)
set_option maxHeartbeats 4000000 in
set_option maxRecDepth 100000 in
theorem wX3_settle_30 {l : Launch} {D : va_G} {cI cJ cB cZ cG cS : ClassId} {p : Program} {e : Env} {s : State} {m : MethodId} {below : List Frame} {meth : Method} {c : Code} {A : Nat → Prop} (a_t : Nat) (z_t_upper : Int64) (z_t_lower : Int64) (z_t_isLong : Int32) (p1 : Int64) (p2 : Int64) (t_upper : Int64) (t_lower : Int64) (t_isLong : Int32) (st0_30 : Int64)  (X : Cx D (tyL cI cJ cB cZ cG cS) cX3_settle 12 none RX3 wsX3_settle [.ref a_t, .long p1, .long p2] p s m meth c A) : ∀ (H : Heap) (locs : List Loc) (ls : Array Slot), fX3_settle_30 p1 p2 t_isLong st0_30 = some (z_t_upper, z_t_lower, z_t_isLong) → va_P D vwCl [(a_t, .inr (3, [.long t_upper, .long t_lower, .int t_isLong]))] H → va_D A [(a_t, .inr (3, [.long t_upper, .long t_lower, .int t_isLong]))] → va_S A s.heap H locs → lv_has ls 12 [(0, .ref a_t), (1, .long p1), (3, .long p2)] → W p l e { frames := 1, cells := 0, slots := 0, locals := 20 } s m ([.ref a_t, .long p1, .long p2] : List Value).toArray below meth c H locs 0 0 (MQ below (cQv D A [(a_t, .inr (3, [.long z_t_upper, .long z_t_lower, .int z_t_isLong]))]) ([.ref a_t, .long p1, .long p2] : List Value).toArray s 0 0 A) (F0 m 30 ls [.long st0_30]) := by
  obtain ⟨hx, hb, hr, hlk, hml, hown, hts, hK, hN, hA⟩ := id X
  intro H locs ls hf hP hD hS hl
  unfold fX3_settle_30 at hf
  refine lv_lstore (lv' := [(5, .long st0_30), (0, .ref a_t), (1, .long p1), (3, .long p2)]) hx hb dX3_settle_30 hl (by decide) rfl (fun ls hl => ?_)
  refine lv_lload_n hx hb dX3_settle_32 rfl (lv_at hl 3 rfl) ?_
  refine lv_lconst (v := 0) hx hb dX3_settle_33 (by decide) ?_
  refine W.lcmp hx hb dX3_settle_34 ?_
  refine lv_if_ge (tgt := 43) hx hb dX3_settle_35 (by decide) (fun hc_35 => ?_) (fun hc_35 => ?_)
  · have hf := ifP hc_35 hf
    refine lv_lload_n hx hb dX3_settle_43 rfl (lv_at hl 3 rfl) ?_
    refine lv_lstore (lv' := [(7, .long p2), (5, .long st0_30), (0, .ref a_t), (1, .long p1), (3, .long p2)]) hx hb dX3_settle_44 hl (by decide) rfl (fun ls hl => ?_)
    refine lv_iconst (v := 0) hx hb dX3_settle_46 (by decide) ?_
    refine lv_istore (lv' := [(9, .int 0), (7, .long p2), (5, .long st0_30), (0, .ref a_t), (1, .long p1), (3, .long p2)]) hx hb dX3_settle_47 hl (by decide) rfl (fun ls hl => ?_)
    exact wX3_settle_49 a_t z_t_upper z_t_lower z_t_isLong p1 p2 t_upper t_lower t_isLong X  fuelN st0_30 p2 0 _ _ _ hf hP hD hS (lv_sub hl [3, 4, 5, 2, 1, 0] rfl)
  · have hf := ifN hc_35 hf
    refine lv_lload_n hx hb dX3_settle_38 rfl (lv_at hl 3 rfl) ?_
    refine lv_lneg hx hb dX3_settle_39 ?_
    refine lv_goto (tgt := 44) hx hb dX3_settle_40 (by decide) ?_
    refine lv_topl (fun x_10 ex_10 => ?_)
    have hf := lt_b ex_10 hf
    refine lv_lstore (lv' := [(7, .long x_10), (5, .long st0_30), (0, .ref a_t), (1, .long p1), (3, .long p2)]) hx hb dX3_settle_44 hl (by decide) rfl (fun ls hl => ?_)
    refine lv_iconst (v := 0) hx hb dX3_settle_46 (by decide) ?_
    refine lv_istore (lv' := [(9, .int 0), (7, .long x_10), (5, .long st0_30), (0, .ref a_t), (1, .long p1), (3, .long p2)]) hx hb dX3_settle_47 hl (by decide) rfl (fun ls hl => ?_)
    exact wX3_settle_49 a_t z_t_upper z_t_lower z_t_isLong p1 p2 t_upper t_lower t_isLong X  fuelN st0_30 x_10 0 _ _ _ hf hP hD hS (lv_sub hl [3, 4, 5, 2, 1, 0] rfl)
set_option maxHeartbeats 4000000 in
set_option maxRecDepth 100000 in
theorem MX3_settle (l : Launch) (D : va_G) (cI cJ cB cZ cG cS : ClassId) (sz : Nat) (a_t : Nat) (p1 : Int64) (p2 : Int64) (t_upper : Int64) (t_lower : Int64) (t_isLong : Int32) (z_t_upper : Int64) (z_t_lower : Int64) (z_t_isLong : Int32) (hf : fX3_settle p1 p2 t_isLong = some (z_t_upper, z_t_lower, z_t_isLong)) : Met l yX3_settle wsX3_settle { frames := 1, cells := 0, slots := 0, locals := 20 } (cP D (tyL cI cJ cB cZ cG cS) [.ref a_t, .long p1, .long p2] sz [(a_t, .inr (3, [.long t_upper, .long t_lower, .int t_isLong]))]) (cQv D (va_A [(a_t, .inr (3, [.long t_upper, .long t_lower, .int t_isLong]))] sz) [(a_t, .inr (3, [.long z_t_upper, .long z_t_lower, .int z_t_isLong]))]) 0 0 (va_A [(a_t, .inr (3, [.long t_upper, .long t_lower, .int t_isLong]))] sz) := by
  refine cM (Qc := fun A => cQv D A [(a_t, .inr (3, [.long z_t_upper, .long z_t_lower, .int z_t_isLong]))]) RX3 (by decide) rfl rfl (Nat.le_of_ble_eq_true rfl) ?_
  intro p e s m below meth c A ls hx hb hr hlk hml hown hts hK hN hP hD hS hA hl
  have X : Cx D (tyL cI cJ cB cZ cG cS) cX3_settle 12 none RX3 wsX3_settle [.ref a_t, .long p1, .long p2] p s m meth c A := ⟨hx, hb, hr, hlk, hml, hown, hts, hK, hN, hA⟩
  have hl : lv_has ls 12 [(0, .ref a_t), (1, .long p1), (3, .long p2)] := hl
  unfold fX3_settle at hf
  refine lv_aload_n hx hb dX3_settle_0 rfl (lv_at hl 0 rfl) ?_
  refine va_get (D := D) (ci := 3) (v := .int t_isLong) (C := RX3) (T := TX3) (N := 3) hx hb hts inX3_settle_X3 hown hK hP 0 rfl rfl 2 (by decide) (hts (.fieldLink RX3 15 "RowPivots$Ratio" "isLong" "Z") (List.mem_of_getElem? (i := 1) rfl)) (fun _ h9 => h9) rfl dX3_settle_1 ?_
  refine lv_if_ne (tgt := 13) hx hb dX3_settle_4 (by decide) (fun hc_4 => ?_) (fun hc_4 => ?_)
  · have hf := ifN hc_4 hf
    refine lv_aload_n hx hb dX3_settle_13 rfl (lv_at hl 0 rfl) ?_
    obtain ⟨u_1, hcu_1, hf⟩ := bdS hf
    refine kVv (As := []) (rest := []) (w2 := [(a_t, .inr (3, [.long u_1.1, .long u_1.2.1, .int u_1.2.2]))]) (wr := []) (ci := 3) (q0 := 0) ⟨hx, hb, hml, hown, hts⟩ (MX3_spoil l D cI cJ cB cZ cG cS _ a_t t_upper t_lower t_isLong u_1.1 u_1.2.1 u_1.2.2 hcu_1) (cwV 0 hts gX3_settle_X3_spoil rfl rfl rfl (by decide +kernel) ⟨Nat.le_of_ble_eq_true rfl, Nat.le_of_ble_eq_true rfl⟩) hK hN hP hD hS hA [0] [] [0] rfl (by decide) rfl (by decide) (by decide) rfl (by decide) rfl rfl rfl hl.1 rfl (Nat.le_of_ble_eq_true rfl) dX3_settle_14 ⟨Nat.zero_le _, Nat.zero_le _⟩ (fun H locs hP hD hS => ?_)
    have hf : (some (u_1.1, u_1.2.1, u_1.2.2) : Option (Int64 × Int64 × Int32)) = some (z_t_upper, z_t_lower, z_t_isLong) := hf
    cases hf
    exact cRv hx hb hr hlk hP hD hS dX3_settle_17
  · have hf := ifP hc_4 hf
    refine lv_lload_n hx hb dX3_settle_7 rfl (lv_at hl 2 rfl) ?_
    refine lv_lconst (v := 0) hx hb dX3_settle_8 (by decide) ?_
    refine W.lcmp hx hb dX3_settle_9 ?_
    refine lv_if_ne (tgt := 18) hx hb dX3_settle_10 (by decide) (fun hc_10 => ?_) (fun hc_10 => ?_)
    · have hf := ifN hc_10 hf
      refine lv_lload_n hx hb dX3_settle_18 rfl (lv_at hl 1 rfl) ?_
      refine lv_lconst (v := 0) hx hb dX3_settle_19 (by decide) ?_
      refine W.lcmp hx hb dX3_settle_20 ?_
      refine lv_if_ge (tgt := 29) hx hb dX3_settle_21 (by decide) (fun hc_21 => ?_) (fun hc_21 => ?_)
      · have hf := ifP hc_21 hf
        refine lv_lload_n hx hb dX3_settle_29 rfl (lv_at hl 1 rfl) ?_
        exact wX3_settle_30 a_t z_t_upper z_t_lower z_t_isLong p1 p2 t_upper t_lower t_isLong p1 X  _ _ _ hf hP hD hS (lv_sub hl [0, 1, 2] rfl)
      · have hf := ifN hc_21 hf
        refine lv_lload_n hx hb dX3_settle_24 rfl (lv_at hl 1 rfl) ?_
        refine lv_lneg hx hb dX3_settle_25 ?_
        refine lv_goto (tgt := 30) hx hb dX3_settle_26 (by decide) ?_
        exact wX3_settle_30 a_t z_t_upper z_t_lower z_t_isLong p1 p2 t_upper t_lower t_isLong (-p1) X  _ _ _ hf hP hD hS (lv_sub hl [0, 1, 2] rfl)
    · have hf := ifP hc_10 hf
      refine lv_aload_n hx hb dX3_settle_13 rfl (lv_at hl 0 rfl) ?_
      obtain ⟨u_11, hcu_11, hf⟩ := bdS hf
      refine kVv (As := []) (rest := []) (w2 := [(a_t, .inr (3, [.long u_11.1, .long u_11.2.1, .int u_11.2.2]))]) (wr := []) (ci := 3) (q0 := 0) ⟨hx, hb, hml, hown, hts⟩ (MX3_spoil l D cI cJ cB cZ cG cS _ a_t t_upper t_lower t_isLong u_11.1 u_11.2.1 u_11.2.2 hcu_11) (cwV 0 hts gX3_settle_X3_spoil rfl rfl rfl (by decide +kernel) ⟨Nat.le_of_ble_eq_true rfl, Nat.le_of_ble_eq_true rfl⟩) hK hN hP hD hS hA [0] [] [0] rfl (by decide) rfl (by decide) (by decide) rfl (by decide) rfl rfl rfl hl.1 rfl (Nat.le_of_ble_eq_true rfl) dX3_settle_14 ⟨Nat.zero_le _, Nat.zero_le _⟩ (fun H locs hP hD hS => ?_)
      have hf : (some (u_11.1, u_11.2.1, u_11.2.2) : Option (Int64 × Int64 × Int32)) = some (z_t_upper, z_t_lower, z_t_isLong) := hf
      cases hf
      exact cRv hx hb hr hlk hP hD hS dX3_settle_17
theorem inX3_start_X3 : ∀ w ∈ wsX30, w ∈ wsX3_start := fun _ h => List.mem_cons_of_mem _ (List.mem_append_right _ h)
def fX3_start (p1 : Int64) (p2 : Int64) : Option (Int64 × Int64 × Int32) :=
  (fX3_settle p1 p2 0).bind fun u_1 => some (u_1.1, u_1.2.1, u_1.2.2)
set_option maxHeartbeats 4000000 in
set_option maxRecDepth 100000 in
theorem MX3_start (l : Launch) (D : va_G) (cI cJ cB cZ cG cS : ClassId) (sz : Nat) (a_t : Nat) (p1 : Int64) (p2 : Int64) (t_upper : Int64) (t_lower : Int64) (t_isLong : Int32) (z_t_upper : Int64) (z_t_lower : Int64) (z_t_isLong : Int32) (hf : fX3_start p1 p2 = some (z_t_upper, z_t_lower, z_t_isLong)) : Met l yX3_start wsX3_start { frames := 2, cells := 0, slots := 0, locals := 51 } (cP D (tyL cI cJ cB cZ cG cS) [.ref a_t, .long p1, .long p2] sz [(a_t, .inr (3, [.long t_upper, .long t_lower, .int t_isLong]))]) (cQv D (va_A [(a_t, .inr (3, [.long t_upper, .long t_lower, .int t_isLong]))] sz) [(a_t, .inr (3, [.long z_t_upper, .long z_t_lower, .int z_t_isLong]))]) 0 0 (va_A [(a_t, .inr (3, [.long t_upper, .long t_lower, .int t_isLong]))] sz) := by
  refine cM (Qc := fun A => cQv D A [(a_t, .inr (3, [.long z_t_upper, .long z_t_lower, .int z_t_isLong]))]) RX3 (by decide) rfl rfl (Nat.le_of_ble_eq_true rfl) ?_
  intro p e s m below meth c A ls hx hb hr hlk hml hown hts hK hN hP hD hS hA hl
  have X : Cx D (tyL cI cJ cB cZ cG cS) cX3_start 5 none RX3 wsX3_start [.ref a_t, .long p1, .long p2] p s m meth c A := ⟨hx, hb, hr, hlk, hml, hown, hts, hK, hN, hA⟩
  have hl : lv_has ls 5 [(0, .ref a_t), (1, .long p1), (3, .long p2)] := hl
  unfold fX3_start at hf
  refine lv_aload_n hx hb dX3_start_0 rfl (lv_at hl 0 rfl) ?_
  refine lv_iconst (v := 0) hx hb dX3_start_1 (by decide) ?_
  refine va_put (D := D) (ci := 3) (v := .int 0) (ty := .boolean) (C := RX3) (T := TX3) (N := 3) hx hb hts inX3_start_X3 tyX3 tyX3_ok nmX3 hown hK hP hD hS 0 rfl rfl 2 (by decide) (hts (.fieldLink RX3 15 "RowPivots$Ratio" "isLong" "Z") (List.mem_of_getElem? (i := 1) rfl)) (fun _ h9 => h9) rfl (by decide +kernel) (by decide +kernel) (by decide +kernel) (Nat.le_of_ble_eq_true rfl) dX3_start_2 (fun H locs hP hD hS => ?_)
  have hP : va_P D vwCl [(a_t, .inr (3, [.long t_upper, .long t_lower, .int 0]))] H := hP
  have hD : va_D A [(a_t, .inr (3, [.long t_upper, .long t_lower, .int 0]))] := hD
  refine lv_aload_n hx hb dX3_start_5 rfl (lv_at hl 0 rfl) ?_
  refine lv_lload_n hx hb dX3_start_6 rfl (lv_at hl 1 rfl) ?_
  refine lv_lload_n hx hb dX3_start_7 rfl (lv_at hl 2 rfl) ?_
  obtain ⟨u_1, hcu_1, hf⟩ := bdS hf
  refine kVv (As := [.long p1, .long p2]) (rest := []) (w2 := [(a_t, .inr (3, [.long u_1.1, .long u_1.2.1, .int u_1.2.2]))]) (wr := []) (ci := 3) (q0 := 0) ⟨hx, hb, hml, hown, hts⟩ (MX3_settle l D cI cJ cB cZ cG cS _ a_t p1 p2 t_upper t_lower 0 u_1.1 u_1.2.1 u_1.2.2 hcu_1) (cwV 2 hts gX3_start_X3_settle rfl rfl rfl (by decide +kernel) ⟨Nat.le_of_ble_eq_true rfl, Nat.le_of_ble_eq_true rfl⟩) hK hN hP hD hS hA [0] [] [0] rfl (by decide) rfl (by decide) (by decide) rfl (by decide) rfl rfl rfl hl.1 rfl (Nat.le_of_ble_eq_true rfl) dX3_start_8 ⟨Nat.zero_le _, Nat.zero_le _⟩ (fun H locs hP hD hS => ?_)
  have hf : (some (u_1.1, u_1.2.1, u_1.2.2) : Option (Int64 × Int64 × Int32)) = some (z_t_upper, z_t_lower, z_t_isLong) := hf
  cases hf
  exact cRv hx hb hr hlk hP hD hS dX3_start_11
theorem inX1_upperAt_X1 : ∀ w ∈ wsX10, w ∈ wsX1_upperAt := fun _ h => List.mem_cons_of_mem _ (List.mem_append_right _ h)
def fX1_upperAt (p1 : Int32) (p2 : Int32) (t_upper : Nat → Int32) : Option (Int32) :=
  lt ((p1 * 7) + p2) fun x_1 => if x_1 < 0 then (some (0)) else (if 42 ≤ x_1 then (some (0)) else (inB 42 x_1 <| some ((t_upper x_1.toNatClampNeg))))
set_option maxHeartbeats 4000000 in
set_option maxRecDepth 100000 in
theorem MX1_upperAt (l : Launch) (D : va_G) (cI cJ cB cZ cG cS : ClassId) (sz : Nat) (a_t : Nat) (a_t_upper : Nat) (a_t_lower : Nat) (a_t_sum : Nat) (p1 : Int32) (p2 : Int32) (t_rows : Int32) (t_columns : Int32) (t_upper : Nat → Int32) (z_r : Int32) (hf : fX1_upperAt p1 p2 t_upper = some (z_r)) : Met l yX1_upperAt wsX1_upperAt { frames := 0, cells := 0, slots := 0, locals := 0 } (cP D (tyL cI cJ cB cZ cG cS) [.ref a_t, .int p1, .int p2] sz [(a_t, .inr (1, [.int t_rows, .int t_columns, .ref a_t_upper, .ref a_t_lower, .ref a_t_sum])), (a_t_upper, .inl (cI, 42, .inl t_upper))]) (cQi D (va_A [(a_t, .inr (1, [.int t_rows, .int t_columns, .ref a_t_upper, .ref a_t_lower, .ref a_t_sum])), (a_t_upper, .inl (cI, 42, .inl t_upper))] sz) z_r [(a_t, .inr (1, [.int t_rows, .int t_columns, .ref a_t_upper, .ref a_t_lower, .ref a_t_sum])), (a_t_upper, .inl (cI, 42, .inl t_upper))]) 0 0 (va_A [(a_t, .inr (1, [.int t_rows, .int t_columns, .ref a_t_upper, .ref a_t_lower, .ref a_t_sum])), (a_t_upper, .inl (cI, 42, .inl t_upper))] sz) := by
  refine cM (Qc := fun A => cQi D A z_r [(a_t, .inr (1, [.int t_rows, .int t_columns, .ref a_t_upper, .ref a_t_lower, .ref a_t_sum])), (a_t_upper, .inl (cI, 42, .inl t_upper))]) RX1 (by decide) rfl rfl (Nat.le_of_ble_eq_true rfl) ?_
  intro p e s m below meth c A ls hx hb hr hlk hml hown hts hK hN hP hD hS hA hl
  have X : Cx D (tyL cI cJ cB cZ cG cS) cX1_upperAt 4 (some .int) RX1 wsX1_upperAt [.ref a_t, .int p1, .int p2] p s m meth c A := ⟨hx, hb, hr, hlk, hml, hown, hts, hK, hN, hA⟩
  have hl : lv_has ls 4 [(0, .ref a_t), (1, .int p1), (2, .int p2)] := hl
  unfold fX1_upperAt at hf
  refine lv_iload_n hx hb dX1_upperAt_0 rfl (lv_at hl 1 rfl) ?_
  refine lv_bipush (v := 7) hx hb dX1_upperAt_1 (by decide) ?_
  refine lv_imul hx hb dX1_upperAt_3 ?_
  refine lv_iload_n hx hb dX1_upperAt_4 rfl (lv_at hl 2 rfl) ?_
  refine lv_iadd hx hb dX1_upperAt_5 ?_
  refine lv_topi (fun x_1 ex_1 => ?_)
  have hf := lt_b ex_1 hf
  refine lv_istore_n (lv' := [(3, .int x_1), (0, .ref a_t), (1, .int p1), (2, .int p2)]) hx hb dX1_upperAt_6 rfl hl (by decide) rfl (fun ls hl => ?_)
  refine lv_iload_n hx hb dX1_upperAt_7 rfl (lv_at hl 0 rfl) ?_
  refine lv_if_lt (tgt := 26) hx hb dX1_upperAt_8 (by decide) (fun hc_8 => ?_) (fun hc_8 => ?_)
  · have hf := ifP hc_8 hf
    refine lv_iconst (v := 0) hx hb dX1_upperAt_26 (by decide) ?_
    have hf : (some (0) : Option (Int32)) = some (z_r) := hf
    cases hf
    exact cRi hx hb hr hlk hP hD hS rfl dX1_upperAt_27
  · have hf := ifN hc_8 hf
    refine lv_iload_n hx hb dX1_upperAt_11 rfl (lv_at hl 0 rfl) ?_
    refine lv_bipush (v := 42) hx hb dX1_upperAt_12 (by decide) ?_
    refine lv_icmp_ge (tgt := 26) hx hb dX1_upperAt_14 (by decide) (fun hc_14 => ?_) (fun hc_14 => ?_)
    · have hf := ifP hc_14 hf
      refine lv_iconst (v := 0) hx hb dX1_upperAt_26 (by decide) ?_
      have hf : (some (0) : Option (Int32)) = some (z_r) := hf
      cases hf
      exact cRi hx hb hr hlk hP hD hS rfl dX1_upperAt_27
    · have hf := ifN hc_14 hf
      refine lv_aload_n hx hb dX1_upperAt_17 rfl (lv_at hl 1 rfl) ?_
      refine va_get (D := D) (ci := 1) (v := .ref a_t_upper) (C := RX1) (T := TX1) (N := 5) hx hb hts inX1_upperAt_X1 hown hK hP 0 rfl rfl 2 (by decide) (hts (.fieldLink RX1 18 "RowPivots$Grid" "upper" "[I") (List.mem_of_getElem? (i := 1) rfl)) (fun _ h9 => h9) rfl dX1_upperAt_18 ?_
      refine lv_iload_n hx hb dX1_upperAt_21 rfl (lv_at hl 0 rfl) ?_
      obtain ⟨hi_22, hf⟩ := inB_b hf
      refine va_iald hx hb hK hP 1 0 rfl rfl hi_22 dX1_upperAt_22 ?_
      refine lv_goto (tgt := 27) hx hb dX1_upperAt_23 (by decide) ?_
      have hf : (some ((t_upper x_1.toNatClampNeg)) : Option (Int32)) = some (z_r) := hf
      cases hf
      exact cRi hx hb hr hlk hP hD hS rfl dX1_upperAt_27
theorem inX1_lowerAt_X1 : ∀ w ∈ wsX10, w ∈ wsX1_lowerAt := fun _ h => List.mem_cons_of_mem _ (List.mem_append_right _ h)
def fX1_lowerAt (p1 : Int32) (p2 : Int32) (t_lower : Nat → Int32) : Option (Int32) :=
  lt ((p1 * 7) + p2) fun x_1 => if x_1 < 0 then (some (1)) else (if 42 ≤ x_1 then (some (1)) else (inB 42 x_1 <| some ((t_lower x_1.toNatClampNeg))))
set_option maxHeartbeats 4000000 in
set_option maxRecDepth 100000 in
theorem MX1_lowerAt (l : Launch) (D : va_G) (cI cJ cB cZ cG cS : ClassId) (sz : Nat) (a_t : Nat) (a_t_upper : Nat) (a_t_lower : Nat) (a_t_sum : Nat) (p1 : Int32) (p2 : Int32) (t_rows : Int32) (t_columns : Int32) (t_lower : Nat → Int32) (z_r : Int32) (hf : fX1_lowerAt p1 p2 t_lower = some (z_r)) : Met l yX1_lowerAt wsX1_lowerAt { frames := 0, cells := 0, slots := 0, locals := 0 } (cP D (tyL cI cJ cB cZ cG cS) [.ref a_t, .int p1, .int p2] sz [(a_t, .inr (1, [.int t_rows, .int t_columns, .ref a_t_upper, .ref a_t_lower, .ref a_t_sum])), (a_t_lower, .inl (cI, 42, .inl t_lower))]) (cQi D (va_A [(a_t, .inr (1, [.int t_rows, .int t_columns, .ref a_t_upper, .ref a_t_lower, .ref a_t_sum])), (a_t_lower, .inl (cI, 42, .inl t_lower))] sz) z_r [(a_t, .inr (1, [.int t_rows, .int t_columns, .ref a_t_upper, .ref a_t_lower, .ref a_t_sum])), (a_t_lower, .inl (cI, 42, .inl t_lower))]) 0 0 (va_A [(a_t, .inr (1, [.int t_rows, .int t_columns, .ref a_t_upper, .ref a_t_lower, .ref a_t_sum])), (a_t_lower, .inl (cI, 42, .inl t_lower))] sz) := by
  refine cM (Qc := fun A => cQi D A z_r [(a_t, .inr (1, [.int t_rows, .int t_columns, .ref a_t_upper, .ref a_t_lower, .ref a_t_sum])), (a_t_lower, .inl (cI, 42, .inl t_lower))]) RX1 (by decide) rfl rfl (Nat.le_of_ble_eq_true rfl) ?_
  intro p e s m below meth c A ls hx hb hr hlk hml hown hts hK hN hP hD hS hA hl
  have X : Cx D (tyL cI cJ cB cZ cG cS) cX1_lowerAt 4 (some .int) RX1 wsX1_lowerAt [.ref a_t, .int p1, .int p2] p s m meth c A := ⟨hx, hb, hr, hlk, hml, hown, hts, hK, hN, hA⟩
  have hl : lv_has ls 4 [(0, .ref a_t), (1, .int p1), (2, .int p2)] := hl
  unfold fX1_lowerAt at hf
  refine lv_iload_n hx hb dX1_lowerAt_0 rfl (lv_at hl 1 rfl) ?_
  refine lv_bipush (v := 7) hx hb dX1_lowerAt_1 (by decide) ?_
  refine lv_imul hx hb dX1_lowerAt_3 ?_
  refine lv_iload_n hx hb dX1_lowerAt_4 rfl (lv_at hl 2 rfl) ?_
  refine lv_iadd hx hb dX1_lowerAt_5 ?_
  refine lv_topi (fun x_1 ex_1 => ?_)
  have hf := lt_b ex_1 hf
  refine lv_istore_n (lv' := [(3, .int x_1), (0, .ref a_t), (1, .int p1), (2, .int p2)]) hx hb dX1_lowerAt_6 rfl hl (by decide) rfl (fun ls hl => ?_)
  refine lv_iload_n hx hb dX1_lowerAt_7 rfl (lv_at hl 0 rfl) ?_
  refine lv_if_lt (tgt := 26) hx hb dX1_lowerAt_8 (by decide) (fun hc_8 => ?_) (fun hc_8 => ?_)
  · have hf := ifP hc_8 hf
    refine lv_iconst (v := 1) hx hb dX1_lowerAt_26 (by decide) ?_
    have hf : (some (1) : Option (Int32)) = some (z_r) := hf
    cases hf
    exact cRi hx hb hr hlk hP hD hS rfl dX1_lowerAt_27
  · have hf := ifN hc_8 hf
    refine lv_iload_n hx hb dX1_lowerAt_11 rfl (lv_at hl 0 rfl) ?_
    refine lv_bipush (v := 42) hx hb dX1_lowerAt_12 (by decide) ?_
    refine lv_icmp_ge (tgt := 26) hx hb dX1_lowerAt_14 (by decide) (fun hc_14 => ?_) (fun hc_14 => ?_)
    · have hf := ifP hc_14 hf
      refine lv_iconst (v := 1) hx hb dX1_lowerAt_26 (by decide) ?_
      have hf : (some (1) : Option (Int32)) = some (z_r) := hf
      cases hf
      exact cRi hx hb hr hlk hP hD hS rfl dX1_lowerAt_27
    · have hf := ifN hc_14 hf
      refine lv_aload_n hx hb dX1_lowerAt_17 rfl (lv_at hl 1 rfl) ?_
      refine va_get (D := D) (ci := 1) (v := .ref a_t_lower) (C := RX1) (T := TX1) (N := 5) hx hb hts inX1_lowerAt_X1 hown hK hP 0 rfl rfl 3 (by decide) (hts (.fieldLink RX1 22 "RowPivots$Grid" "lower" "[I") (List.mem_of_getElem? (i := 1) rfl)) (fun _ h9 => h9) rfl dX1_lowerAt_18 ?_
      refine lv_iload_n hx hb dX1_lowerAt_21 rfl (lv_at hl 0 rfl) ?_
      obtain ⟨hi_22, hf⟩ := inB_b hf
      refine va_iald hx hb hK hP 1 0 rfl rfl hi_22 dX1_lowerAt_22 ?_
      refine lv_goto (tgt := 27) hx hb dX1_lowerAt_23 (by decide) ?_
      have hf : (some ((t_lower x_1.toNatClampNeg)) : Option (Int32)) = some (z_r) := hf
      cases hf
      exact cRi hx hb hr hlk hP hD hS rfl dX1_lowerAt_27
theorem inX1_isAt_X3 : ∀ w ∈ wsX30, w ∈ wsX1_isAt := fun _ h => List.mem_cons_of_mem _ (List.mem_append_left _ (List.mem_append_right _ h))
def fX1_isAt (p1 : Int32) (p2 : Int32) (t_lower : Nat → Int32) (t_upper : Nat → Int32) (p3_upper : Int64) (p3_lower : Int64) : Option (Int32) :=
  (fX1_upperAt p1 p2 t_upper).bind fun u_1 => if (lg_cmp (u_1.toInt64) p3_upper) = 0 then ((fX1_lowerAt p1 p2 t_lower).bind fun u_2 => if (lg_cmp (u_2.toInt64) p3_lower) = 0 then (some (1)) else (some (0))) else (some (0))
set_option maxHeartbeats 4000000 in
set_option maxRecDepth 100000 in
theorem MX1_isAt (l : Launch) (D : va_G) (cI cJ cB cZ cG cS : ClassId) (sz : Nat) (a_t : Nat) (a_p3 : Nat) (a_t_upper : Nat) (a_t_lower : Nat) (a_t_sum : Nat) (p1 : Int32) (p2 : Int32) (t_rows : Int32) (t_columns : Int32) (t_lower : Nat → Int32) (t_upper : Nat → Int32) (p3_upper : Int64) (p3_lower : Int64) (p3_isLong : Int32) (z_r : Int32) (hf : fX1_isAt p1 p2 t_lower t_upper p3_upper p3_lower = some (z_r)) : Met l yX1_isAt wsX1_isAt { frames := 1, cells := 0, slots := 0, locals := 23 } (cP D (tyL cI cJ cB cZ cG cS) [.ref a_t, .int p1, .int p2, .ref a_p3] sz [(a_t, .inr (1, [.int t_rows, .int t_columns, .ref a_t_upper, .ref a_t_lower, .ref a_t_sum])), (a_t_lower, .inl (cI, 42, .inl t_lower)), (a_t_upper, .inl (cI, 42, .inl t_upper)), (a_p3, .inr (3, [.long p3_upper, .long p3_lower, .int p3_isLong]))]) (cQi D (va_A [(a_t, .inr (1, [.int t_rows, .int t_columns, .ref a_t_upper, .ref a_t_lower, .ref a_t_sum])), (a_t_lower, .inl (cI, 42, .inl t_lower)), (a_t_upper, .inl (cI, 42, .inl t_upper)), (a_p3, .inr (3, [.long p3_upper, .long p3_lower, .int p3_isLong]))] sz) z_r [(a_t, .inr (1, [.int t_rows, .int t_columns, .ref a_t_upper, .ref a_t_lower, .ref a_t_sum])), (a_t_lower, .inl (cI, 42, .inl t_lower)), (a_t_upper, .inl (cI, 42, .inl t_upper)), (a_p3, .inr (3, [.long p3_upper, .long p3_lower, .int p3_isLong]))]) 0 0 (va_A [(a_t, .inr (1, [.int t_rows, .int t_columns, .ref a_t_upper, .ref a_t_lower, .ref a_t_sum])), (a_t_lower, .inl (cI, 42, .inl t_lower)), (a_t_upper, .inl (cI, 42, .inl t_upper)), (a_p3, .inr (3, [.long p3_upper, .long p3_lower, .int p3_isLong]))] sz) := by
  refine cM (Qc := fun A => cQi D A z_r [(a_t, .inr (1, [.int t_rows, .int t_columns, .ref a_t_upper, .ref a_t_lower, .ref a_t_sum])), (a_t_lower, .inl (cI, 42, .inl t_lower)), (a_t_upper, .inl (cI, 42, .inl t_upper)), (a_p3, .inr (3, [.long p3_upper, .long p3_lower, .int p3_isLong]))]) RX1 (by decide) rfl rfl (Nat.le_of_ble_eq_true rfl) ?_
  intro p e s m below meth c A ls hx hb hr hlk hml hown hts hK hN hP hD hS hA hl
  have X : Cx D (tyL cI cJ cB cZ cG cS) cX1_isAt 4 (some .boolean) RX1 wsX1_isAt [.ref a_t, .int p1, .int p2, .ref a_p3] p s m meth c A := ⟨hx, hb, hr, hlk, hml, hown, hts, hK, hN, hA⟩
  have hl : lv_has ls 4 [(0, .ref a_t), (1, .int p1), (2, .int p2), (3, .ref a_p3)] := hl
  unfold fX1_isAt at hf
  refine lv_aload_n hx hb dX1_isAt_0 rfl (lv_at hl 0 rfl) ?_
  refine lv_iload_n hx hb dX1_isAt_1 rfl (lv_at hl 1 rfl) ?_
  refine lv_iload_n hx hb dX1_isAt_2 rfl (lv_at hl 2 rfl) ?_
  obtain ⟨u_1, hcu_1, hf⟩ := bdS hf
  refine kVi (As := [.int p1, .int p2]) (rest := []) (w2 := [(a_t, .inr (1, [.int t_rows, .int t_columns, .ref a_t_upper, .ref a_t_lower, .ref a_t_sum])), (a_t_lower, .inl (cI, 42, .inl t_lower)), (a_t_upper, .inl (cI, 42, .inl t_upper)), (a_p3, .inr (3, [.long p3_upper, .long p3_lower, .int p3_isLong]))]) (wr := [(a_t_lower, .inl (cI, 42, .inl t_lower)), (a_p3, .inr (3, [.long p3_upper, .long p3_lower, .int p3_isLong]))]) (ci := 1) (q0 := 0) ⟨hx, hb, hml, hown, hts⟩ (MX1_upperAt l D cI cJ cB cZ cG cS _ a_t a_t_upper a_t_lower a_t_sum p1 p2 t_rows t_columns t_upper u_1 hcu_1) (cwV 2 hts gX1_isAt_X1_upperAt rfl rfl rfl (by decide +kernel) ⟨Nat.le_of_ble_eq_true rfl, Nat.le_of_ble_eq_true rfl⟩) hK hN hP hD hS hA [0, 2] [1, 3] [2, 0, 3, 1] rfl (by decide) rfl (by decide) (by decide) rfl (by decide) rfl rfl rfl hl.1 rfl (Nat.le_of_ble_eq_true rfl) dX1_isAt_3 ⟨Nat.zero_le _, Nat.zero_le _⟩ (fun H locs hP hD hS => ?_)
  refine lv_i2l hx hb dX1_isAt_6 rfl ?_
  refine lv_aload_n hx hb dX1_isAt_7 rfl (lv_at hl 3 rfl) ?_
  refine va_get (D := D) (ci := 3) (v := .long p3_upper) (C := RX3) (T := TX3) (N := 3) hx hb hts inX1_isAt_X3 hown hK hP 3 rfl rfl 0 (by decide) (hts (.fieldLink RX1 60 "RowPivots$Ratio" "upper" "J") (List.mem_of_getElem? (i := 1) rfl)) (fun _ h9 => h9) rfl dX1_isAt_8 ?_
  refine W.lcmp hx hb dX1_isAt_11 ?_
  refine lv_if_ne (tgt := 34) hx hb dX1_isAt_12 (by decide) (fun hc_12 => ?_) (fun hc_12 => ?_)
  · have hf := ifN hc_12 hf
    refine lv_iconst (v := 0) hx hb dX1_isAt_34 (by decide) ?_
    have hf : (some (0) : Option (Int32)) = some (z_r) := hf
    cases hf
    exact cRz hx hb hr hlk hP hD hS rfl (by decide) dX1_isAt_35
  · have hf := ifP hc_12 hf
    refine lv_aload_n hx hb dX1_isAt_15 rfl (lv_at hl 0 rfl) ?_
    refine lv_iload_n hx hb dX1_isAt_16 rfl (lv_at hl 1 rfl) ?_
    refine lv_iload_n hx hb dX1_isAt_17 rfl (lv_at hl 2 rfl) ?_
    obtain ⟨u_2, hcu_2, hf⟩ := bdS hf
    refine kVi (As := [.int p1, .int p2]) (rest := []) (w2 := [(a_t, .inr (1, [.int t_rows, .int t_columns, .ref a_t_upper, .ref a_t_lower, .ref a_t_sum])), (a_t_lower, .inl (cI, 42, .inl t_lower)), (a_t_upper, .inl (cI, 42, .inl t_upper)), (a_p3, .inr (3, [.long p3_upper, .long p3_lower, .int p3_isLong]))]) (wr := [(a_t_upper, .inl (cI, 42, .inl t_upper)), (a_p3, .inr (3, [.long p3_upper, .long p3_lower, .int p3_isLong]))]) (ci := 1) (q0 := 0) ⟨hx, hb, hml, hown, hts⟩ (MX1_lowerAt l D cI cJ cB cZ cG cS _ a_t a_t_upper a_t_lower a_t_sum p1 p2 t_rows t_columns t_lower u_2 hcu_2) (cwV 2 hts gX1_isAt_X1_lowerAt rfl rfl rfl (by decide +kernel) ⟨Nat.le_of_ble_eq_true rfl, Nat.le_of_ble_eq_true rfl⟩) hK hN hP hD hS hA [0, 1] [2, 3] [2, 3, 0, 1] rfl (by decide) rfl (by decide) (by decide) rfl (by decide) rfl rfl rfl hl.1 rfl (Nat.le_of_ble_eq_true rfl) dX1_isAt_18 ⟨Nat.zero_le _, Nat.zero_le _⟩ (fun H locs hP hD hS => ?_)
    refine lv_i2l hx hb dX1_isAt_21 rfl ?_
    refine lv_aload_n hx hb dX1_isAt_22 rfl (lv_at hl 3 rfl) ?_
    refine va_get (D := D) (ci := 3) (v := .long p3_lower) (C := RX3) (T := TX3) (N := 3) hx hb hts inX1_isAt_X3 hown hK hP 3 rfl rfl 1 (by decide) (hts (.fieldLink RX1 63 "RowPivots$Ratio" "lower" "J") (List.mem_of_getElem? (i := 2) rfl)) (fun _ h9 => h9) rfl dX1_isAt_23 ?_
    refine W.lcmp hx hb dX1_isAt_26 ?_
    refine lv_if_ne (tgt := 34) hx hb dX1_isAt_27 (by decide) (fun hc_27 => ?_) (fun hc_27 => ?_)
    · have hf := ifN hc_27 hf
      refine lv_iconst (v := 0) hx hb dX1_isAt_34 (by decide) ?_
      have hf : (some (0) : Option (Int32)) = some (z_r) := hf
      cases hf
      exact cRz hx hb hr hlk hP hD hS rfl (by decide) dX1_isAt_35
    · have hf := ifP hc_27 hf
      refine lv_iconst (v := 1) hx hb dX1_isAt_30 (by decide) ?_
      refine lv_goto (tgt := 35) hx hb dX1_isAt_31 (by decide) ?_
      have hf : (some (1) : Option (Int32)) = some (z_r) := hf
      cases hf
      exact cRz hx hb hr hlk hP hD hS rfl (by decide) dX1_isAt_35
theorem inX1_copy_X1 : ∀ w ∈ wsX10, w ∈ wsX1_copy := fun _ h => List.mem_cons_of_mem _ (List.mem_append_right _ h)
def fX1_copy (t_lower : Nat → Int32) (t_upper : Nat → Int32) (p1_rows : Int32) (p1_columns : Int32) (p1_lower : Nat → Int32) (p1_upper : Nat → Int32) : Option (Int32 × Int32 × (Nat → Int32) × (Nat → Int32)) :=
  acI 42 42 0 0 42 <| lt (va_cpy p1_upper t_upper (0 : Int32).toNatClampNeg (0 : Int32).toNatClampNeg (42 : Int32).toNatClampNeg) fun g_1 => acI 42 42 0 0 42 <| lt (va_cpy p1_lower t_lower (0 : Int32).toNatClampNeg (0 : Int32).toNatClampNeg (42 : Int32).toNatClampNeg) fun g_2 => some (p1_rows, p1_columns, g_2, g_1)
set_option maxHeartbeats 4000000 in
set_option maxRecDepth 100000 in
theorem MX1_copy (l : Launch) (D : va_G) (cI cJ cB cZ cG cS : ClassId) (sz : Nat) (a_t : Nat) (a_p1 : Nat) (a_t_upper : Nat) (a_t_lower : Nat) (a_t_sum : Nat) (a_p1_upper : Nat) (a_p1_lower : Nat) (a_p1_sum : Nat) (t_rows : Int32) (t_columns : Int32) (t_lower : Nat → Int32) (t_upper : Nat → Int32) (p1_rows : Int32) (p1_columns : Int32) (p1_lower : Nat → Int32) (p1_upper : Nat → Int32) (z_t_rows : Int32) (z_t_columns : Int32) (z_t_lower : Nat → Int32) (z_t_upper : Nat → Int32) (hf : fX1_copy t_lower t_upper p1_rows p1_columns p1_lower p1_upper = some (z_t_rows, z_t_columns, z_t_lower, z_t_upper)) : Met l yX1_copy wsX1_copy { frames := 1, cells := 0, slots := 0, locals := 64 } (cP D (tyL cI cJ cB cZ cG cS) [.ref a_t, .ref a_p1] sz [(a_t, .inr (1, [.int t_rows, .int t_columns, .ref a_t_upper, .ref a_t_lower, .ref a_t_sum])), (a_t_lower, .inl (cI, 42, .inl t_lower)), (a_t_upper, .inl (cI, 42, .inl t_upper)), (a_p1, .inr (1, [.int p1_rows, .int p1_columns, .ref a_p1_upper, .ref a_p1_lower, .ref a_p1_sum])), (a_p1_lower, .inl (cI, 42, .inl p1_lower)), (a_p1_upper, .inl (cI, 42, .inl p1_upper))]) (cQv D (va_A [(a_t, .inr (1, [.int t_rows, .int t_columns, .ref a_t_upper, .ref a_t_lower, .ref a_t_sum])), (a_t_lower, .inl (cI, 42, .inl t_lower)), (a_t_upper, .inl (cI, 42, .inl t_upper)), (a_p1, .inr (1, [.int p1_rows, .int p1_columns, .ref a_p1_upper, .ref a_p1_lower, .ref a_p1_sum])), (a_p1_lower, .inl (cI, 42, .inl p1_lower)), (a_p1_upper, .inl (cI, 42, .inl p1_upper))] sz) [(a_t, .inr (1, [.int z_t_rows, .int z_t_columns, .ref a_t_upper, .ref a_t_lower, .ref a_t_sum])), (a_t_lower, .inl (cI, 42, .inl z_t_lower)), (a_t_upper, .inl (cI, 42, .inl z_t_upper)), (a_p1, .inr (1, [.int p1_rows, .int p1_columns, .ref a_p1_upper, .ref a_p1_lower, .ref a_p1_sum])), (a_p1_lower, .inl (cI, 42, .inl p1_lower)), (a_p1_upper, .inl (cI, 42, .inl p1_upper))]) 0 0 (va_A [(a_t, .inr (1, [.int t_rows, .int t_columns, .ref a_t_upper, .ref a_t_lower, .ref a_t_sum])), (a_t_lower, .inl (cI, 42, .inl t_lower)), (a_t_upper, .inl (cI, 42, .inl t_upper)), (a_p1, .inr (1, [.int p1_rows, .int p1_columns, .ref a_p1_upper, .ref a_p1_lower, .ref a_p1_sum])), (a_p1_lower, .inl (cI, 42, .inl p1_lower)), (a_p1_upper, .inl (cI, 42, .inl p1_upper))] sz) := by
  refine cM (Qc := fun A => cQv D A [(a_t, .inr (1, [.int z_t_rows, .int z_t_columns, .ref a_t_upper, .ref a_t_lower, .ref a_t_sum])), (a_t_lower, .inl (cI, 42, .inl z_t_lower)), (a_t_upper, .inl (cI, 42, .inl z_t_upper)), (a_p1, .inr (1, [.int p1_rows, .int p1_columns, .ref a_p1_upper, .ref a_p1_lower, .ref a_p1_sum])), (a_p1_lower, .inl (cI, 42, .inl p1_lower)), (a_p1_upper, .inl (cI, 42, .inl p1_upper))]) RX1 (by decide) rfl rfl (Nat.le_of_ble_eq_true rfl) ?_
  intro p e s m below meth c A ls hx hb hr hlk hml hown hts hK hN hP hD hS hA hl
  have X : Cx D (tyL cI cJ cB cZ cG cS) cX1_copy 2 none RX1 wsX1_copy [.ref a_t, .ref a_p1] p s m meth c A := ⟨hx, hb, hr, hlk, hml, hown, hts, hK, hN, hA⟩
  have hl : lv_has ls 2 [(0, .ref a_t), (1, .ref a_p1)] := hl
  unfold fX1_copy at hf
  refine lv_aload_n hx hb dX1_copy_0 rfl (lv_at hl 0 rfl) ?_
  refine lv_aload_n hx hb dX1_copy_1 rfl (lv_at hl 1 rfl) ?_
  refine va_get (D := D) (ci := 1) (v := .int p1_rows) (C := RX1) (T := TX1) (N := 5) hx hb hts inX1_copy_X1 hown hK hP 3 rfl rfl 0 (by decide) (hts (.fieldLink RX1 9 "RowPivots$Grid" "rows" "I") (List.mem_of_getElem? (i := 1) rfl)) (fun _ h9 => h9) rfl dX1_copy_2 ?_
  refine va_put (D := D) (ci := 1) (v := .int p1_rows) (ty := .int) (C := RX1) (T := TX1) (N := 5) hx hb hts inX1_copy_X1 tyX1 tyX1_ok nmX1 hown hK hP hD hS 0 rfl rfl 0 (by decide) (hts (.fieldLink RX1 9 "RowPivots$Grid" "rows" "I") (List.mem_of_getElem? (i := 1) rfl)) (fun _ h9 => h9) rfl (by decide +kernel) rfl rfl (Nat.le_of_ble_eq_true rfl) dX1_copy_5 (fun H locs hP hD hS => ?_)
  have hP : va_P D vwCl [(a_t, .inr (1, [.int p1_rows, .int t_columns, .ref a_t_upper, .ref a_t_lower, .ref a_t_sum])), (a_t_lower, .inl (cI, 42, .inl t_lower)), (a_t_upper, .inl (cI, 42, .inl t_upper)), (a_p1, .inr (1, [.int p1_rows, .int p1_columns, .ref a_p1_upper, .ref a_p1_lower, .ref a_p1_sum])), (a_p1_lower, .inl (cI, 42, .inl p1_lower)), (a_p1_upper, .inl (cI, 42, .inl p1_upper))] H := hP
  have hD : va_D A [(a_t, .inr (1, [.int p1_rows, .int t_columns, .ref a_t_upper, .ref a_t_lower, .ref a_t_sum])), (a_t_lower, .inl (cI, 42, .inl t_lower)), (a_t_upper, .inl (cI, 42, .inl t_upper)), (a_p1, .inr (1, [.int p1_rows, .int p1_columns, .ref a_p1_upper, .ref a_p1_lower, .ref a_p1_sum])), (a_p1_lower, .inl (cI, 42, .inl p1_lower)), (a_p1_upper, .inl (cI, 42, .inl p1_upper))] := hD
  refine lv_aload_n hx hb dX1_copy_8 rfl (lv_at hl 0 rfl) ?_
  refine lv_aload_n hx hb dX1_copy_9 rfl (lv_at hl 1 rfl) ?_
  refine va_get (D := D) (ci := 1) (v := .int p1_columns) (C := RX1) (T := TX1) (N := 5) hx hb hts inX1_copy_X1 hown hK hP 3 rfl rfl 1 (by decide) (hts (.fieldLink RX1 15 "RowPivots$Grid" "columns" "I") (List.mem_of_getElem? (i := 2) rfl)) (fun _ h9 => h9) rfl dX1_copy_10 ?_
  refine va_put (D := D) (ci := 1) (v := .int p1_columns) (ty := .int) (C := RX1) (T := TX1) (N := 5) hx hb hts inX1_copy_X1 tyX1 tyX1_ok nmX1 hown hK hP hD hS 0 rfl rfl 1 (by decide) (hts (.fieldLink RX1 15 "RowPivots$Grid" "columns" "I") (List.mem_of_getElem? (i := 2) rfl)) (fun _ h9 => h9) rfl (by decide +kernel) rfl rfl (Nat.le_of_ble_eq_true rfl) dX1_copy_13 (fun H locs hP hD hS => ?_)
  have hP : va_P D vwCl [(a_t, .inr (1, [.int p1_rows, .int p1_columns, .ref a_t_upper, .ref a_t_lower, .ref a_t_sum])), (a_t_lower, .inl (cI, 42, .inl t_lower)), (a_t_upper, .inl (cI, 42, .inl t_upper)), (a_p1, .inr (1, [.int p1_rows, .int p1_columns, .ref a_p1_upper, .ref a_p1_lower, .ref a_p1_sum])), (a_p1_lower, .inl (cI, 42, .inl p1_lower)), (a_p1_upper, .inl (cI, 42, .inl p1_upper))] H := hP
  have hD : va_D A [(a_t, .inr (1, [.int p1_rows, .int p1_columns, .ref a_t_upper, .ref a_t_lower, .ref a_t_sum])), (a_t_lower, .inl (cI, 42, .inl t_lower)), (a_t_upper, .inl (cI, 42, .inl t_upper)), (a_p1, .inr (1, [.int p1_rows, .int p1_columns, .ref a_p1_upper, .ref a_p1_lower, .ref a_p1_sum])), (a_p1_lower, .inl (cI, 42, .inl p1_lower)), (a_p1_upper, .inl (cI, 42, .inl p1_upper))] := hD
  refine lv_aload_n hx hb dX1_copy_16 rfl (lv_at hl 1 rfl) ?_
  refine va_get (D := D) (ci := 1) (v := .ref a_p1_upper) (C := RX1) (T := TX1) (N := 5) hx hb hts inX1_copy_X1 hown hK hP 3 rfl rfl 2 (by decide) (hts (.fieldLink RX1 18 "RowPivots$Grid" "upper" "[I") (List.mem_of_getElem? (i := 3) rfl)) (fun _ h9 => h9) rfl dX1_copy_17 ?_
  refine lv_iconst (v := 0) hx hb dX1_copy_20 (by decide) ?_
  refine lv_aload_n hx hb dX1_copy_21 rfl (lv_at hl 0 rfl) ?_
  refine va_get (D := D) (ci := 1) (v := .ref a_t_upper) (C := RX1) (T := TX1) (N := 5) hx hb hts inX1_copy_X1 hown hK hP 0 rfl rfl 2 (by decide) (hts (.fieldLink RX1 18 "RowPivots$Grid" "upper" "[I") (List.mem_of_getElem? (i := 3) rfl)) (fun _ h9 => h9) rfl dX1_copy_22 ?_
  refine lv_iconst (v := 0) hx hb dX1_copy_25 (by decide) ?_
  refine lv_bipush (v := 42) hx hb dX1_copy_26 (by decide) ?_
  obtain ⟨hk_28, hf⟩ := acI_b hf
  refine va_copyi (sp := 0) (dp := 0) (n := 42) hx hb (hml.trans hl.1.symm) hown (hts (.methodLink RX1 38 arraycopyName) (List.mem_of_getElem? (i := 4) rfl)) (hts (.native arraycopyName) (List.mem_of_getElem? (i := 5) rfl)) (hts (.static arraycopyName) (List.mem_of_getElem? (i := 6) rfl)) (hts (.initialized "java/lang/System") (List.mem_of_getElem? (i := 7) rfl)) hK hP hD hS 5 2 0 0 rfl rfl rfl rfl rfl hk_28.1 hk_28.2.1 hk_28.2.2.1 hk_28.2.2.2.1 hk_28.2.2.2.2 (fun _ _ => rfl) (Nat.le_of_ble_eq_true rfl) (Nat.le_of_ble_eq_true rfl) dX1_copy_28 (fun H locs hP hD hS => ?_)
  obtain ⟨g_1, eg_1, hP, hD⟩ : ∃ g_1 : Nat → Int32, g_1 = va_cpy p1_upper t_upper (0 : Int32).toNatClampNeg (0 : Int32).toNatClampNeg (42 : Int32).toNatClampNeg ∧ va_P D vwCl [(a_t, .inr (1, [.int p1_rows, .int p1_columns, .ref a_t_upper, .ref a_t_lower, .ref a_t_sum])), (a_t_lower, .inl (cI, 42, .inl t_lower)), (a_t_upper, .inl (cI, 42, .inl g_1)), (a_p1, .inr (1, [.int p1_rows, .int p1_columns, .ref a_p1_upper, .ref a_p1_lower, .ref a_p1_sum])), (a_p1_lower, .inl (cI, 42, .inl p1_lower)), (a_p1_upper, .inl (cI, 42, .inl p1_upper))] H ∧ va_D A [(a_t, .inr (1, [.int p1_rows, .int p1_columns, .ref a_t_upper, .ref a_t_lower, .ref a_t_sum])), (a_t_lower, .inl (cI, 42, .inl t_lower)), (a_t_upper, .inl (cI, 42, .inl g_1)), (a_p1, .inr (1, [.int p1_rows, .int p1_columns, .ref a_p1_upper, .ref a_p1_lower, .ref a_p1_sum])), (a_p1_lower, .inl (cI, 42, .inl p1_lower)), (a_p1_upper, .inl (cI, 42, .inl p1_upper))] := ⟨_, rfl, hP, hD⟩
  have hf := lt_b eg_1 hf
  refine lv_aload_n hx hb dX1_copy_31 rfl (lv_at hl 1 rfl) ?_
  refine va_get (D := D) (ci := 1) (v := .ref a_p1_lower) (C := RX1) (T := TX1) (N := 5) hx hb hts inX1_copy_X1 hown hK hP 3 rfl rfl 3 (by decide) (hts (.fieldLink RX1 22 "RowPivots$Grid" "lower" "[I") (List.mem_of_getElem? (i := 8) rfl)) (fun _ h9 => h9) rfl dX1_copy_32 ?_
  refine lv_iconst (v := 0) hx hb dX1_copy_35 (by decide) ?_
  refine lv_aload_n hx hb dX1_copy_36 rfl (lv_at hl 0 rfl) ?_
  refine va_get (D := D) (ci := 1) (v := .ref a_t_lower) (C := RX1) (T := TX1) (N := 5) hx hb hts inX1_copy_X1 hown hK hP 0 rfl rfl 3 (by decide) (hts (.fieldLink RX1 22 "RowPivots$Grid" "lower" "[I") (List.mem_of_getElem? (i := 8) rfl)) (fun _ h9 => h9) rfl dX1_copy_37 ?_
  refine lv_iconst (v := 0) hx hb dX1_copy_40 (by decide) ?_
  refine lv_bipush (v := 42) hx hb dX1_copy_41 (by decide) ?_
  obtain ⟨hk_43, hf⟩ := acI_b hf
  refine va_copyi (sp := 0) (dp := 0) (n := 42) hx hb (hml.trans hl.1.symm) hown (hts (.methodLink RX1 38 arraycopyName) (List.mem_of_getElem? (i := 4) rfl)) (hts (.native arraycopyName) (List.mem_of_getElem? (i := 5) rfl)) (hts (.static arraycopyName) (List.mem_of_getElem? (i := 6) rfl)) (hts (.initialized "java/lang/System") (List.mem_of_getElem? (i := 7) rfl)) hK hP hD hS 4 1 0 0 rfl rfl rfl rfl rfl hk_43.1 hk_43.2.1 hk_43.2.2.1 hk_43.2.2.2.1 hk_43.2.2.2.2 (fun _ _ => rfl) (Nat.le_of_ble_eq_true rfl) (Nat.le_of_ble_eq_true rfl) dX1_copy_43 (fun H locs hP hD hS => ?_)
  obtain ⟨g_2, eg_2, hP, hD⟩ : ∃ g_2 : Nat → Int32, g_2 = va_cpy p1_lower t_lower (0 : Int32).toNatClampNeg (0 : Int32).toNatClampNeg (42 : Int32).toNatClampNeg ∧ va_P D vwCl [(a_t, .inr (1, [.int p1_rows, .int p1_columns, .ref a_t_upper, .ref a_t_lower, .ref a_t_sum])), (a_t_lower, .inl (cI, 42, .inl g_2)), (a_t_upper, .inl (cI, 42, .inl g_1)), (a_p1, .inr (1, [.int p1_rows, .int p1_columns, .ref a_p1_upper, .ref a_p1_lower, .ref a_p1_sum])), (a_p1_lower, .inl (cI, 42, .inl p1_lower)), (a_p1_upper, .inl (cI, 42, .inl p1_upper))] H ∧ va_D A [(a_t, .inr (1, [.int p1_rows, .int p1_columns, .ref a_t_upper, .ref a_t_lower, .ref a_t_sum])), (a_t_lower, .inl (cI, 42, .inl g_2)), (a_t_upper, .inl (cI, 42, .inl g_1)), (a_p1, .inr (1, [.int p1_rows, .int p1_columns, .ref a_p1_upper, .ref a_p1_lower, .ref a_p1_sum])), (a_p1_lower, .inl (cI, 42, .inl p1_lower)), (a_p1_upper, .inl (cI, 42, .inl p1_upper))] := ⟨_, rfl, hP, hD⟩
  have hf := lt_b eg_2 hf
  have hf : (some (p1_rows, p1_columns, g_2, g_1) : Option (Int32 × Int32 × (Nat → Int32) × (Nat → Int32))) = some (z_t_rows, z_t_columns, z_t_lower, z_t_upper) := hf
  cases hf
  exact cRv hx hb hr hlk hP hD hS dX1_copy_46
theorem inX1_put_X1 : ∀ w ∈ wsX10, w ∈ wsX1_put := fun _ h => List.mem_cons_of_mem _ (List.mem_append_left _ (List.mem_append_right _ h))
theorem inX1_put_X3 : ∀ w ∈ wsX30, w ∈ wsX1_put := fun _ h => List.mem_cons_of_mem _ (List.mem_append_right _ h)
def fX1_put (p1 : Int32) (p2 : Int32) (t_lower : Nat → Int32) (t_upper : Nat → Int32) (p3_upper : Int64) (p3_lower : Int64) : Option ((Nat → Int32) × (Nat → Int32)) :=
  lt ((p1 * 7) + p2) fun x_1 => if x_1 < 0 then (some (t_lower, t_upper)) else (if 42 ≤ x_1 then (some (t_lower, t_upper)) else (lt (p3_upper.toInt32) fun x_2 => inB 42 x_1 <| lt (upd t_upper x_1.toNatClampNeg x_2) fun g_3 => lt (p3_lower.toInt32) fun x_4 => inB 42 x_1 <| lt (upd t_lower x_1.toNatClampNeg x_4) fun g_5 => some (g_5, g_3)))
set_option maxHeartbeats 4000000 in
set_option maxRecDepth 100000 in
theorem MX1_put (l : Launch) (D : va_G) (cI cJ cB cZ cG cS : ClassId) (sz : Nat) (a_t : Nat) (a_p3 : Nat) (a_t_upper : Nat) (a_t_lower : Nat) (a_t_sum : Nat) (p1 : Int32) (p2 : Int32) (t_rows : Int32) (t_columns : Int32) (t_lower : Nat → Int32) (t_upper : Nat → Int32) (p3_upper : Int64) (p3_lower : Int64) (p3_isLong : Int32) (z_t_lower : Nat → Int32) (z_t_upper : Nat → Int32) (hf : fX1_put p1 p2 t_lower t_upper p3_upper p3_lower = some (z_t_lower, z_t_upper)) : Met l yX1_put wsX1_put { frames := 0, cells := 0, slots := 0, locals := 0 } (cP D (tyL cI cJ cB cZ cG cS) [.ref a_t, .int p1, .int p2, .ref a_p3] sz [(a_t, .inr (1, [.int t_rows, .int t_columns, .ref a_t_upper, .ref a_t_lower, .ref a_t_sum])), (a_t_lower, .inl (cI, 42, .inl t_lower)), (a_t_upper, .inl (cI, 42, .inl t_upper)), (a_p3, .inr (3, [.long p3_upper, .long p3_lower, .int p3_isLong]))]) (cQv D (va_A [(a_t, .inr (1, [.int t_rows, .int t_columns, .ref a_t_upper, .ref a_t_lower, .ref a_t_sum])), (a_t_lower, .inl (cI, 42, .inl t_lower)), (a_t_upper, .inl (cI, 42, .inl t_upper)), (a_p3, .inr (3, [.long p3_upper, .long p3_lower, .int p3_isLong]))] sz) [(a_t, .inr (1, [.int t_rows, .int t_columns, .ref a_t_upper, .ref a_t_lower, .ref a_t_sum])), (a_t_lower, .inl (cI, 42, .inl z_t_lower)), (a_t_upper, .inl (cI, 42, .inl z_t_upper)), (a_p3, .inr (3, [.long p3_upper, .long p3_lower, .int p3_isLong]))]) 0 0 (va_A [(a_t, .inr (1, [.int t_rows, .int t_columns, .ref a_t_upper, .ref a_t_lower, .ref a_t_sum])), (a_t_lower, .inl (cI, 42, .inl t_lower)), (a_t_upper, .inl (cI, 42, .inl t_upper)), (a_p3, .inr (3, [.long p3_upper, .long p3_lower, .int p3_isLong]))] sz) := by
  refine cM (Qc := fun A => cQv D A [(a_t, .inr (1, [.int t_rows, .int t_columns, .ref a_t_upper, .ref a_t_lower, .ref a_t_sum])), (a_t_lower, .inl (cI, 42, .inl z_t_lower)), (a_t_upper, .inl (cI, 42, .inl z_t_upper)), (a_p3, .inr (3, [.long p3_upper, .long p3_lower, .int p3_isLong]))]) RX1 (by decide) rfl rfl (Nat.le_of_ble_eq_true rfl) ?_
  intro p e s m below meth c A ls hx hb hr hlk hml hown hts hK hN hP hD hS hA hl
  have X : Cx D (tyL cI cJ cB cZ cG cS) cX1_put 5 none RX1 wsX1_put [.ref a_t, .int p1, .int p2, .ref a_p3] p s m meth c A := ⟨hx, hb, hr, hlk, hml, hown, hts, hK, hN, hA⟩
  have hl : lv_has ls 5 [(0, .ref a_t), (1, .int p1), (2, .int p2), (3, .ref a_p3)] := hl
  unfold fX1_put at hf
  refine lv_iload_n hx hb dX1_put_0 rfl (lv_at hl 1 rfl) ?_
  refine lv_bipush (v := 7) hx hb dX1_put_1 (by decide) ?_
  refine lv_imul hx hb dX1_put_3 ?_
  refine lv_iload_n hx hb dX1_put_4 rfl (lv_at hl 2 rfl) ?_
  refine lv_iadd hx hb dX1_put_5 ?_
  refine lv_topi (fun x_1 ex_1 => ?_)
  have hf := lt_b ex_1 hf
  refine lv_istore (lv' := [(4, .int x_1), (0, .ref a_t), (1, .int p1), (2, .int p2), (3, .ref a_p3)]) hx hb dX1_put_6 hl (by decide) rfl (fun ls hl => ?_)
  refine lv_iload hx hb dX1_put_8 (lv_at hl 0 rfl) ?_
  refine lv_if_lt (tgt := 44) hx hb dX1_put_10 (by decide) (fun hc_10 => ?_) (fun hc_10 => ?_)
  · have hf := ifP hc_10 hf
    have hf : (some (t_lower, t_upper) : Option ((Nat → Int32) × (Nat → Int32))) = some (z_t_lower, z_t_upper) := hf
    cases hf
    exact cRv hx hb hr hlk hP hD hS dX1_put_44
  · have hf := ifN hc_10 hf
    refine lv_iload hx hb dX1_put_13 (lv_at hl 0 rfl) ?_
    refine lv_bipush (v := 42) hx hb dX1_put_15 (by decide) ?_
    refine lv_icmp_ge (tgt := 44) hx hb dX1_put_17 (by decide) (fun hc_17 => ?_) (fun hc_17 => ?_)
    · have hf := ifP hc_17 hf
      have hf : (some (t_lower, t_upper) : Option ((Nat → Int32) × (Nat → Int32))) = some (z_t_lower, z_t_upper) := hf
      cases hf
      exact cRv hx hb hr hlk hP hD hS dX1_put_44
    · have hf := ifN hc_17 hf
      refine lv_aload_n hx hb dX1_put_20 rfl (lv_at hl 1 rfl) ?_
      refine va_get (D := D) (ci := 1) (v := .ref a_t_upper) (C := RX1) (T := TX1) (N := 5) hx hb hts inX1_put_X1 hown hK hP 0 rfl rfl 2 (by decide) (hts (.fieldLink RX1 18 "RowPivots$Grid" "upper" "[I") (List.mem_of_getElem? (i := 1) rfl)) (fun _ h9 => h9) rfl dX1_put_21 ?_
      refine lv_iload hx hb dX1_put_24 (lv_at hl 0 rfl) ?_
      refine lv_aload_n hx hb dX1_put_26 rfl (lv_at hl 4 rfl) ?_
      refine va_get (D := D) (ci := 3) (v := .long p3_upper) (C := RX3) (T := TX3) (N := 3) hx hb hts inX1_put_X3 hown hK hP 3 rfl rfl 0 (by decide) (hts (.fieldLink RX1 60 "RowPivots$Ratio" "upper" "J") (List.mem_of_getElem? (i := 2) rfl)) (fun _ h9 => h9) rfl dX1_put_27 ?_
      refine lv_l2i hx hb dX1_put_30 rfl ?_
      refine lv_topi (fun x_2 ex_2 => ?_)
      have hf := lt_b ex_2 hf
      obtain ⟨hi_31, hf⟩ := inB_b hf
      refine va_iast (x := x_2) hx hb hK hP hD hS 2 0 rfl rfl hi_31 dX1_put_31 (fun H locs hP hD hS => ?_)
      obtain ⟨g_3, eg_3, hP, hD⟩ : ∃ g_3 : Nat → Int32, g_3 = upd t_upper x_1.toNatClampNeg x_2 ∧ va_P D vwCl [(a_t, .inr (1, [.int t_rows, .int t_columns, .ref a_t_upper, .ref a_t_lower, .ref a_t_sum])), (a_t_lower, .inl (cI, 42, .inl t_lower)), (a_t_upper, .inl (cI, 42, .inl g_3)), (a_p3, .inr (3, [.long p3_upper, .long p3_lower, .int p3_isLong]))] H ∧ va_D A [(a_t, .inr (1, [.int t_rows, .int t_columns, .ref a_t_upper, .ref a_t_lower, .ref a_t_sum])), (a_t_lower, .inl (cI, 42, .inl t_lower)), (a_t_upper, .inl (cI, 42, .inl g_3)), (a_p3, .inr (3, [.long p3_upper, .long p3_lower, .int p3_isLong]))] := ⟨_, rfl, hP, hD⟩
      have hf := lt_b eg_3 hf
      refine lv_aload_n hx hb dX1_put_32 rfl (lv_at hl 1 rfl) ?_
      refine va_get (D := D) (ci := 1) (v := .ref a_t_lower) (C := RX1) (T := TX1) (N := 5) hx hb hts inX1_put_X1 hown hK hP 0 rfl rfl 3 (by decide) (hts (.fieldLink RX1 22 "RowPivots$Grid" "lower" "[I") (List.mem_of_getElem? (i := 3) rfl)) (fun _ h9 => h9) rfl dX1_put_33 ?_
      refine lv_iload hx hb dX1_put_36 (lv_at hl 0 rfl) ?_
      refine lv_aload_n hx hb dX1_put_38 rfl (lv_at hl 4 rfl) ?_
      refine va_get (D := D) (ci := 3) (v := .long p3_lower) (C := RX3) (T := TX3) (N := 3) hx hb hts inX1_put_X3 hown hK hP 3 rfl rfl 1 (by decide) (hts (.fieldLink RX1 63 "RowPivots$Ratio" "lower" "J") (List.mem_of_getElem? (i := 4) rfl)) (fun _ h9 => h9) rfl dX1_put_39 ?_
      refine lv_l2i hx hb dX1_put_42 rfl ?_
      refine lv_topi (fun x_4 ex_4 => ?_)
      have hf := lt_b ex_4 hf
      obtain ⟨hi_43, hf⟩ := inB_b hf
      refine va_iast (x := x_4) hx hb hK hP hD hS 1 0 rfl rfl hi_43 dX1_put_43 (fun H locs hP hD hS => ?_)
      obtain ⟨g_5, eg_5, hP, hD⟩ : ∃ g_5 : Nat → Int32, g_5 = upd t_lower x_1.toNatClampNeg x_4 ∧ va_P D vwCl [(a_t, .inr (1, [.int t_rows, .int t_columns, .ref a_t_upper, .ref a_t_lower, .ref a_t_sum])), (a_t_lower, .inl (cI, 42, .inl g_5)), (a_t_upper, .inl (cI, 42, .inl g_3)), (a_p3, .inr (3, [.long p3_upper, .long p3_lower, .int p3_isLong]))] H ∧ va_D A [(a_t, .inr (1, [.int t_rows, .int t_columns, .ref a_t_upper, .ref a_t_lower, .ref a_t_sum])), (a_t_lower, .inl (cI, 42, .inl g_5)), (a_t_upper, .inl (cI, 42, .inl g_3)), (a_p3, .inr (3, [.long p3_upper, .long p3_lower, .int p3_isLong]))] := ⟨_, rfl, hP, hD⟩
      have hf := lt_b eg_5 hf
      have hf : (some (g_5, g_3) : Option ((Nat → Int32) × (Nat → Int32))) = some (z_t_lower, z_t_upper) := hf
      cases hf
      exact cRv hx hb hr hlk hP hD hS dX1_put_44
theorem inX0_tell_X0 : ∀ w ∈ wsX00, w ∈ wsX0_tell := fun _ h => List.mem_cons_of_mem _ (List.mem_append_left _ (List.mem_append_left _ (List.mem_append_right _ h)))
def fX0_tell (p2 : Int32) (p3 : Int32) (p4 : Int32) (p5 : Int32) (t_next_rows : Int32) (t_next_columns : Int32) (t_next_lower : Nat → Int32) (t_next_upper : Nat → Int32) (t_value_upper : Int64) (t_value_lower : Int64) (t_value_isLong : Int32) (p1_rows : Int32) (p1_columns : Int32) (p1_lower : Nat → Int32) (p1_upper : Nat → Int32) : Option (Int32 × Int32 × Int32 × (Nat → Int32) × (Nat → Int32) × Int64 × Int64 × Int32) :=
  (fX1_hasRow p2 p1_rows).bind fun u_1 => if u_1 = 0 then (some (1, t_next_rows, t_next_columns, t_next_lower, t_next_upper, t_value_upper, t_value_lower, t_value_isLong)) else ((fX1_hasColumnOrSide p3 p1_columns).bind fun u_2 => if u_2 = 0 then (some (1, t_next_rows, t_next_columns, t_next_lower, t_next_upper, t_value_upper, t_value_lower, t_value_isLong)) else ((fX10_isTold p4 p5).bind fun u_3 => if u_3 = 0 then (some (1, t_next_rows, t_next_columns, t_next_lower, t_next_upper, t_value_upper, t_value_lower, t_value_isLong)) else ((fX3_start (p4.toInt64) (p5.toInt64)).bind fun u_4 => (fX1_isAt p2 p3 p1_lower p1_upper u_4.1 u_4.2.1).bind fun u_5 => if u_5 = 0 then ((fX1_copy t_next_lower t_next_upper p1_rows p1_columns p1_lower p1_upper).bind fun u_6 => (fX1_put p2 p3 u_6.2.2.1 u_6.2.2.2 u_4.1 u_4.2.1).bind fun u_7 => some (0, u_6.1, u_6.2.1, u_7.1, u_7.2, u_4.1, u_4.2.1, u_4.2.2)) else (some (2, t_next_rows, t_next_columns, t_next_lower, t_next_upper, u_4.1, u_4.2.1, u_4.2.2)))))
set_option maxHeartbeats 4000000 in
set_option maxRecDepth 100000 in
theorem MX0_tell (l : Launch) (D : va_G) (cI cJ cB cZ cG cS : ClassId) (sz : Nat) (a_t : Nat) (a_p1 : Nat) (a_t_next : Nat) (a_t_value : Nat) (a_t_next_upper : Nat) (a_t_next_lower : Nat) (a_t_next_sum : Nat) (a_p1_upper : Nat) (a_p1_lower : Nat) (a_p1_sum : Nat) (p2 : Int32) (p3 : Int32) (p4 : Int32) (p5 : Int32) (t_longRow : Int32) (t_longColumn : Int32) (t_next_rows : Int32) (t_next_columns : Int32) (t_next_lower : Nat → Int32) (t_next_upper : Nat → Int32) (t_value_upper : Int64) (t_value_lower : Int64) (t_value_isLong : Int32) (p1_rows : Int32) (p1_columns : Int32) (p1_lower : Nat → Int32) (p1_upper : Nat → Int32) (z_r : Int32) (z_t_next_rows : Int32) (z_t_next_columns : Int32) (z_t_next_lower : Nat → Int32) (z_t_next_upper : Nat → Int32) (z_t_value_upper : Int64) (z_t_value_lower : Int64) (z_t_value_isLong : Int32) (hf : fX0_tell p2 p3 p4 p5 t_next_rows t_next_columns t_next_lower t_next_upper t_value_upper t_value_lower t_value_isLong p1_rows p1_columns p1_lower p1_upper = some (z_r, z_t_next_rows, z_t_next_columns, z_t_next_lower, z_t_next_upper, z_t_value_upper, z_t_value_lower, z_t_value_isLong)) : Met l yX0_tell wsX0_tell { frames := 3, cells := 0, slots := 0, locals := 85 } (cP D (tyL cI cJ cB cZ cG cS) [.ref a_t, .ref a_p1, .int p2, .int p3, .int p4, .int p5] sz [(a_t, .inr (0, [.ref a_t_next, .int t_longRow, .int t_longColumn, .ref a_t_value])), (a_t_next, .inr (1, [.int t_next_rows, .int t_next_columns, .ref a_t_next_upper, .ref a_t_next_lower, .ref a_t_next_sum])), (a_t_next_lower, .inl (cI, 42, .inl t_next_lower)), (a_t_next_upper, .inl (cI, 42, .inl t_next_upper)), (a_t_value, .inr (3, [.long t_value_upper, .long t_value_lower, .int t_value_isLong])), (a_p1, .inr (1, [.int p1_rows, .int p1_columns, .ref a_p1_upper, .ref a_p1_lower, .ref a_p1_sum])), (a_p1_lower, .inl (cI, 42, .inl p1_lower)), (a_p1_upper, .inl (cI, 42, .inl p1_upper))]) (cQi D (va_A [(a_t, .inr (0, [.ref a_t_next, .int t_longRow, .int t_longColumn, .ref a_t_value])), (a_t_next, .inr (1, [.int t_next_rows, .int t_next_columns, .ref a_t_next_upper, .ref a_t_next_lower, .ref a_t_next_sum])), (a_t_next_lower, .inl (cI, 42, .inl t_next_lower)), (a_t_next_upper, .inl (cI, 42, .inl t_next_upper)), (a_t_value, .inr (3, [.long t_value_upper, .long t_value_lower, .int t_value_isLong])), (a_p1, .inr (1, [.int p1_rows, .int p1_columns, .ref a_p1_upper, .ref a_p1_lower, .ref a_p1_sum])), (a_p1_lower, .inl (cI, 42, .inl p1_lower)), (a_p1_upper, .inl (cI, 42, .inl p1_upper))] sz) z_r [(a_t, .inr (0, [.ref a_t_next, .int t_longRow, .int t_longColumn, .ref a_t_value])), (a_t_next, .inr (1, [.int z_t_next_rows, .int z_t_next_columns, .ref a_t_next_upper, .ref a_t_next_lower, .ref a_t_next_sum])), (a_t_next_lower, .inl (cI, 42, .inl z_t_next_lower)), (a_t_next_upper, .inl (cI, 42, .inl z_t_next_upper)), (a_t_value, .inr (3, [.long z_t_value_upper, .long z_t_value_lower, .int z_t_value_isLong])), (a_p1, .inr (1, [.int p1_rows, .int p1_columns, .ref a_p1_upper, .ref a_p1_lower, .ref a_p1_sum])), (a_p1_lower, .inl (cI, 42, .inl p1_lower)), (a_p1_upper, .inl (cI, 42, .inl p1_upper))]) 0 0 (va_A [(a_t, .inr (0, [.ref a_t_next, .int t_longRow, .int t_longColumn, .ref a_t_value])), (a_t_next, .inr (1, [.int t_next_rows, .int t_next_columns, .ref a_t_next_upper, .ref a_t_next_lower, .ref a_t_next_sum])), (a_t_next_lower, .inl (cI, 42, .inl t_next_lower)), (a_t_next_upper, .inl (cI, 42, .inl t_next_upper)), (a_t_value, .inr (3, [.long t_value_upper, .long t_value_lower, .int t_value_isLong])), (a_p1, .inr (1, [.int p1_rows, .int p1_columns, .ref a_p1_upper, .ref a_p1_lower, .ref a_p1_sum])), (a_p1_lower, .inl (cI, 42, .inl p1_lower)), (a_p1_upper, .inl (cI, 42, .inl p1_upper))] sz) := by
  refine cM (Qc := fun A => cQi D A z_r [(a_t, .inr (0, [.ref a_t_next, .int t_longRow, .int t_longColumn, .ref a_t_value])), (a_t_next, .inr (1, [.int z_t_next_rows, .int z_t_next_columns, .ref a_t_next_upper, .ref a_t_next_lower, .ref a_t_next_sum])), (a_t_next_lower, .inl (cI, 42, .inl z_t_next_lower)), (a_t_next_upper, .inl (cI, 42, .inl z_t_next_upper)), (a_t_value, .inr (3, [.long z_t_value_upper, .long z_t_value_lower, .int z_t_value_isLong])), (a_p1, .inr (1, [.int p1_rows, .int p1_columns, .ref a_p1_upper, .ref a_p1_lower, .ref a_p1_sum])), (a_p1_lower, .inl (cI, 42, .inl p1_lower)), (a_p1_upper, .inl (cI, 42, .inl p1_upper))]) RX0 (by decide) rfl rfl (Nat.le_of_ble_eq_true rfl) ?_
  intro p e s m below meth c A ls hx hb hr hlk hml hown hts hK hN hP hD hS hA hl
  have X : Cx D (tyL cI cJ cB cZ cG cS) cX0_tell 6 (some .int) RX0 wsX0_tell [.ref a_t, .ref a_p1, .int p2, .int p3, .int p4, .int p5] p s m meth c A := ⟨hx, hb, hr, hlk, hml, hown, hts, hK, hN, hA⟩
  have hl : lv_has ls 6 [(0, .ref a_t), (1, .ref a_p1), (2, .int p2), (3, .int p3), (4, .int p4), (5, .int p5)] := hl
  unfold fX0_tell at hf
  refine lv_aload_n hx hb dX0_tell_0 rfl (lv_at hl 1 rfl) ?_
  refine lv_iload_n hx hb dX0_tell_1 rfl (lv_at hl 2 rfl) ?_
  obtain ⟨u_1, hcu_1, hf⟩ := bdS hf
  refine kVi (As := [.int p2]) (rest := []) (w2 := [(a_t, .inr (0, [.ref a_t_next, .int t_longRow, .int t_longColumn, .ref a_t_value])), (a_t_next, .inr (1, [.int t_next_rows, .int t_next_columns, .ref a_t_next_upper, .ref a_t_next_lower, .ref a_t_next_sum])), (a_t_next_lower, .inl (cI, 42, .inl t_next_lower)), (a_t_next_upper, .inl (cI, 42, .inl t_next_upper)), (a_t_value, .inr (3, [.long t_value_upper, .long t_value_lower, .int t_value_isLong])), (a_p1, .inr (1, [.int p1_rows, .int p1_columns, .ref a_p1_upper, .ref a_p1_lower, .ref a_p1_sum])), (a_p1_lower, .inl (cI, 42, .inl p1_lower)), (a_p1_upper, .inl (cI, 42, .inl p1_upper))]) (wr := [(a_t, .inr (0, [.ref a_t_next, .int t_longRow, .int t_longColumn, .ref a_t_value])), (a_t_next, .inr (1, [.int t_next_rows, .int t_next_columns, .ref a_t_next_upper, .ref a_t_next_lower, .ref a_t_next_sum])), (a_t_next_lower, .inl (cI, 42, .inl t_next_lower)), (a_t_next_upper, .inl (cI, 42, .inl t_next_upper)), (a_t_value, .inr (3, [.long t_value_upper, .long t_value_lower, .int t_value_isLong])), (a_p1_lower, .inl (cI, 42, .inl p1_lower)), (a_p1_upper, .inl (cI, 42, .inl p1_upper))]) (ci := 1) (q0 := 0) ⟨hx, hb, hml, hown, hts⟩ (MX1_hasRow l D cI cJ cB cZ cG cS _ a_p1 a_p1_upper a_p1_lower a_p1_sum p2 p1_rows p1_columns u_1 hcu_1) (cwV 1 hts gX0_tell_X1_hasRow rfl rfl rfl (by decide +kernel) ⟨Nat.le_of_ble_eq_true rfl, Nat.le_of_ble_eq_true rfl⟩) hK hN hP hD hS hA [5] [0, 1, 2, 3, 4, 6, 7] [0, 1, 2, 3, 4, 7, 5, 6] rfl (by decide) rfl (by decide) (by decide) rfl (by decide) rfl rfl rfl hl.1 rfl (Nat.le_of_ble_eq_true rfl) dX0_tell_2 ⟨Nat.zero_le _, Nat.zero_le _⟩ (fun H locs hP hD hS => ?_)
  refine lv_if_eq (tgt := 26) hx hb dX0_tell_5 (by decide) (fun hc_5 => ?_) (fun hc_5 => ?_)
  · have hf := ifP hc_5 hf
    refine lv_iconst (v := 1) hx hb dX0_tell_26 (by decide) ?_
    have hf : (some (1, t_next_rows, t_next_columns, t_next_lower, t_next_upper, t_value_upper, t_value_lower, t_value_isLong) : Option (Int32 × Int32 × Int32 × (Nat → Int32) × (Nat → Int32) × Int64 × Int64 × Int32)) = some (z_r, z_t_next_rows, z_t_next_columns, z_t_next_lower, z_t_next_upper, z_t_value_upper, z_t_value_lower, z_t_value_isLong) := hf
    cases hf
    exact cRi hx hb hr hlk hP hD hS rfl dX0_tell_27
  · have hf := ifN hc_5 hf
    refine lv_aload_n hx hb dX0_tell_8 rfl (lv_at hl 1 rfl) ?_
    refine lv_iload_n hx hb dX0_tell_9 rfl (lv_at hl 3 rfl) ?_
    obtain ⟨u_2, hcu_2, hf⟩ := bdS hf
    refine kVi (As := [.int p3]) (rest := []) (w2 := [(a_t, .inr (0, [.ref a_t_next, .int t_longRow, .int t_longColumn, .ref a_t_value])), (a_t_next, .inr (1, [.int t_next_rows, .int t_next_columns, .ref a_t_next_upper, .ref a_t_next_lower, .ref a_t_next_sum])), (a_t_next_lower, .inl (cI, 42, .inl t_next_lower)), (a_t_next_upper, .inl (cI, 42, .inl t_next_upper)), (a_t_value, .inr (3, [.long t_value_upper, .long t_value_lower, .int t_value_isLong])), (a_p1, .inr (1, [.int p1_rows, .int p1_columns, .ref a_p1_upper, .ref a_p1_lower, .ref a_p1_sum])), (a_p1_lower, .inl (cI, 42, .inl p1_lower)), (a_p1_upper, .inl (cI, 42, .inl p1_upper))]) (wr := [(a_t, .inr (0, [.ref a_t_next, .int t_longRow, .int t_longColumn, .ref a_t_value])), (a_t_next, .inr (1, [.int t_next_rows, .int t_next_columns, .ref a_t_next_upper, .ref a_t_next_lower, .ref a_t_next_sum])), (a_t_next_lower, .inl (cI, 42, .inl t_next_lower)), (a_t_next_upper, .inl (cI, 42, .inl t_next_upper)), (a_t_value, .inr (3, [.long t_value_upper, .long t_value_lower, .int t_value_isLong])), (a_p1_lower, .inl (cI, 42, .inl p1_lower)), (a_p1_upper, .inl (cI, 42, .inl p1_upper))]) (ci := 1) (q0 := 0) ⟨hx, hb, hml, hown, hts⟩ (MX1_hasColumnOrSide l D cI cJ cB cZ cG cS _ a_p1 a_p1_upper a_p1_lower a_p1_sum p3 p1_rows p1_columns u_2 hcu_2) (cwV 1 hts gX0_tell_X1_hasColumnOrSide rfl rfl rfl (by decide +kernel) ⟨Nat.le_of_ble_eq_true rfl, Nat.le_of_ble_eq_true rfl⟩) hK hN hP hD hS hA [5] [0, 1, 2, 3, 4, 6, 7] [0, 1, 2, 3, 4, 7, 5, 6] rfl (by decide) rfl (by decide) (by decide) rfl (by decide) rfl rfl rfl hl.1 rfl (Nat.le_of_ble_eq_true rfl) dX0_tell_10 ⟨Nat.zero_le _, Nat.zero_le _⟩ (fun H locs hP hD hS => ?_)
    refine lv_if_eq (tgt := 26) hx hb dX0_tell_13 (by decide) (fun hc_13 => ?_) (fun hc_13 => ?_)
    · have hf := ifP hc_13 hf
      refine lv_iconst (v := 1) hx hb dX0_tell_26 (by decide) ?_
      have hf : (some (1, t_next_rows, t_next_columns, t_next_lower, t_next_upper, t_value_upper, t_value_lower, t_value_isLong) : Option (Int32 × Int32 × Int32 × (Nat → Int32) × (Nat → Int32) × Int64 × Int64 × Int32)) = some (z_r, z_t_next_rows, z_t_next_columns, z_t_next_lower, z_t_next_upper, z_t_value_upper, z_t_value_lower, z_t_value_isLong) := hf
      cases hf
      exact cRi hx hb hr hlk hP hD hS rfl dX0_tell_27
    · have hf := ifN hc_13 hf
      refine lv_iload hx hb dX0_tell_16 (lv_at hl 4 rfl) ?_
      refine lv_iload hx hb dX0_tell_18 (lv_at hl 5 rfl) ?_
      obtain ⟨u_3, hcu_3, hf⟩ := bdS hf
      refine kNi (As := [.int p4, .int p5]) (rest := []) (w2 := [(a_t, .inr (0, [.ref a_t_next, .int t_longRow, .int t_longColumn, .ref a_t_value])), (a_t_next, .inr (1, [.int t_next_rows, .int t_next_columns, .ref a_t_next_upper, .ref a_t_next_lower, .ref a_t_next_sum])), (a_t_next_lower, .inl (cI, 42, .inl t_next_lower)), (a_t_next_upper, .inl (cI, 42, .inl t_next_upper)), (a_t_value, .inr (3, [.long t_value_upper, .long t_value_lower, .int t_value_isLong])), (a_p1, .inr (1, [.int p1_rows, .int p1_columns, .ref a_p1_upper, .ref a_p1_lower, .ref a_p1_sum])), (a_p1_lower, .inl (cI, 42, .inl p1_lower)), (a_p1_upper, .inl (cI, 42, .inl p1_upper))]) (wr := [(a_t, .inr (0, [.ref a_t_next, .int t_longRow, .int t_longColumn, .ref a_t_value])), (a_t_next, .inr (1, [.int t_next_rows, .int t_next_columns, .ref a_t_next_upper, .ref a_t_next_lower, .ref a_t_next_sum])), (a_t_next_lower, .inl (cI, 42, .inl t_next_lower)), (a_t_next_upper, .inl (cI, 42, .inl t_next_upper)), (a_t_value, .inr (3, [.long t_value_upper, .long t_value_lower, .int t_value_isLong])), (a_p1, .inr (1, [.int p1_rows, .int p1_columns, .ref a_p1_upper, .ref a_p1_lower, .ref a_p1_sum])), (a_p1_lower, .inl (cI, 42, .inl p1_lower)), (a_p1_upper, .inl (cI, 42, .inl p1_upper))]) ⟨hx, hb, hml, hown, hts⟩ (MX10_isTold l D cI cJ cB cZ cG cS _  p4 p5 u_3 hcu_3) ⟨va_cnB 2 hts gX0_tell_X10_isTold_n32 rfl rfl rfl (hN.1.1 (RX0, 32, yX10_isTold, RX10) (List.mem_of_getElem? (i := 0) rfl)) (hts (.initialized RX10) (List.mem_of_getElem? (i := 15) rfl)) (by decide +kernel) ⟨Nat.le_of_ble_eq_true rfl, Nat.le_of_ble_eq_true rfl⟩, (hts (.static yX10_isTold) (List.mem_of_getElem? (i := 14) rfl)), trivial⟩ hK hN hP hD hS hA [] [0, 1, 2, 3, 4, 5, 6, 7] [0, 1, 2, 3, 4, 5, 6, 7] rfl (by decide) rfl (by decide) (by decide) rfl (by decide) rfl hl.1 rfl (Nat.le_of_ble_eq_true rfl) dX0_tell_20 ⟨Nat.zero_le _, Nat.zero_le _⟩ (fun H locs hP hD hS => ?_)
      refine lv_if_ne (tgt := 28) hx hb dX0_tell_23 (by decide) (fun hc_23 => ?_) (fun hc_23 => ?_)
      · have hf := ifN hc_23 hf
        refine lv_aload_n hx hb dX0_tell_28 rfl (lv_at hl 0 rfl) ?_
        refine va_get (D := D) (ci := 0) (v := .ref a_t_value) (C := RX0) (T := TX0) (N := 4) hx hb hts inX0_tell_X0 hown hK hP 0 rfl rfl 3 (by decide) (hts (.fieldLink RX0 21 "RowPivots$Acts" "value" "LRowPivots$Ratio;") (List.mem_of_getElem? (i := 1) rfl)) (fun _ h9 => h9) rfl dX0_tell_29 ?_
        refine lv_iload hx hb dX0_tell_32 (lv_at hl 4 rfl) ?_
        refine lv_i2l hx hb dX0_tell_34 rfl ?_
        refine lv_iload hx hb dX0_tell_35 (lv_at hl 5 rfl) ?_
        refine lv_i2l hx hb dX0_tell_37 rfl ?_
        obtain ⟨u_4, hcu_4, hf⟩ := bdS hf
        refine kVv (As := [.long (p4.toInt64), .long (p5.toInt64)]) (rest := []) (w2 := [(a_t, .inr (0, [.ref a_t_next, .int t_longRow, .int t_longColumn, .ref a_t_value])), (a_t_next, .inr (1, [.int t_next_rows, .int t_next_columns, .ref a_t_next_upper, .ref a_t_next_lower, .ref a_t_next_sum])), (a_t_next_lower, .inl (cI, 42, .inl t_next_lower)), (a_t_next_upper, .inl (cI, 42, .inl t_next_upper)), (a_t_value, .inr (3, [.long u_4.1, .long u_4.2.1, .int u_4.2.2])), (a_p1, .inr (1, [.int p1_rows, .int p1_columns, .ref a_p1_upper, .ref a_p1_lower, .ref a_p1_sum])), (a_p1_lower, .inl (cI, 42, .inl p1_lower)), (a_p1_upper, .inl (cI, 42, .inl p1_upper))]) (wr := [(a_t, .inr (0, [.ref a_t_next, .int t_longRow, .int t_longColumn, .ref a_t_value])), (a_t_next, .inr (1, [.int t_next_rows, .int t_next_columns, .ref a_t_next_upper, .ref a_t_next_lower, .ref a_t_next_sum])), (a_t_next_lower, .inl (cI, 42, .inl t_next_lower)), (a_t_next_upper, .inl (cI, 42, .inl t_next_upper)), (a_p1, .inr (1, [.int p1_rows, .int p1_columns, .ref a_p1_upper, .ref a_p1_lower, .ref a_p1_sum])), (a_p1_lower, .inl (cI, 42, .inl p1_lower)), (a_p1_upper, .inl (cI, 42, .inl p1_upper))]) (ci := 3) (q0 := 0) ⟨hx, hb, hml, hown, hts⟩ (MX3_start l D cI cJ cB cZ cG cS _ a_t_value (p4.toInt64) (p5.toInt64) t_value_upper t_value_lower t_value_isLong u_4.1 u_4.2.1 u_4.2.2 hcu_4) (cwV 2 hts gX0_tell_X3_start rfl rfl rfl (by decide +kernel) ⟨Nat.le_of_ble_eq_true rfl, Nat.le_of_ble_eq_true rfl⟩) hK hN hP hD hS hA [4] [0, 1, 2, 3, 5, 6, 7] [0, 1, 2, 3, 7, 4, 5, 6] rfl (by decide) rfl (by decide) (by decide) rfl (by decide) rfl rfl rfl hl.1 rfl (Nat.le_of_ble_eq_true rfl) dX0_tell_38 ⟨Nat.zero_le _, Nat.zero_le _⟩ (fun H locs hP hD hS => ?_)
        refine lv_aload_n hx hb dX0_tell_41 rfl (lv_at hl 1 rfl) ?_
        refine lv_iload_n hx hb dX0_tell_42 rfl (lv_at hl 2 rfl) ?_
        refine lv_iload_n hx hb dX0_tell_43 rfl (lv_at hl 3 rfl) ?_
        refine lv_aload_n hx hb dX0_tell_44 rfl (lv_at hl 0 rfl) ?_
        refine va_get (D := D) (ci := 0) (v := .ref a_t_value) (C := RX0) (T := TX0) (N := 4) hx hb hts inX0_tell_X0 hown hK hP 0 rfl rfl 3 (by decide) (hts (.fieldLink RX0 21 "RowPivots$Acts" "value" "LRowPivots$Ratio;") (List.mem_of_getElem? (i := 1) rfl)) (fun _ h9 => h9) rfl dX0_tell_45 ?_
        obtain ⟨u_5, hcu_5, hf⟩ := bdS hf
        refine kVi (As := [.int p2, .int p3, .ref a_t_value]) (rest := []) (w2 := [(a_t, .inr (0, [.ref a_t_next, .int t_longRow, .int t_longColumn, .ref a_t_value])), (a_t_next, .inr (1, [.int t_next_rows, .int t_next_columns, .ref a_t_next_upper, .ref a_t_next_lower, .ref a_t_next_sum])), (a_t_next_lower, .inl (cI, 42, .inl t_next_lower)), (a_t_next_upper, .inl (cI, 42, .inl t_next_upper)), (a_t_value, .inr (3, [.long u_4.1, .long u_4.2.1, .int u_4.2.2])), (a_p1, .inr (1, [.int p1_rows, .int p1_columns, .ref a_p1_upper, .ref a_p1_lower, .ref a_p1_sum])), (a_p1_lower, .inl (cI, 42, .inl p1_lower)), (a_p1_upper, .inl (cI, 42, .inl p1_upper))]) (wr := [(a_t, .inr (0, [.ref a_t_next, .int t_longRow, .int t_longColumn, .ref a_t_value])), (a_t_next, .inr (1, [.int t_next_rows, .int t_next_columns, .ref a_t_next_upper, .ref a_t_next_lower, .ref a_t_next_sum])), (a_t_next_lower, .inl (cI, 42, .inl t_next_lower)), (a_t_next_upper, .inl (cI, 42, .inl t_next_upper))]) (ci := 1) (q0 := 0) ⟨hx, hb, hml, hown, hts⟩ (MX1_isAt l D cI cJ cB cZ cG cS _ a_p1 a_t_value a_p1_upper a_p1_lower a_p1_sum p2 p3 p1_rows p1_columns p1_lower p1_upper u_4.1 u_4.2.1 u_4.2.2 u_5 hcu_5) (cwV 3 hts gX0_tell_X1_isAt rfl rfl rfl (by decide +kernel) ⟨Nat.le_of_ble_eq_true rfl, Nat.le_of_ble_eq_true rfl⟩) hK hN hP hD hS hA [5, 6, 7, 4] [0, 1, 2, 3] [0, 1, 2, 3, 7, 4, 5, 6] rfl (by decide) rfl (by decide) (by decide) rfl (by decide) rfl rfl rfl hl.1 rfl (Nat.le_of_ble_eq_true rfl) dX0_tell_48 ⟨Nat.zero_le _, Nat.zero_le _⟩ (fun H locs hP hD hS => ?_)
        refine lv_if_eq (tgt := 56) hx hb dX0_tell_51 (by decide) (fun hc_51 => ?_) (fun hc_51 => ?_)
        · have hf := ifP hc_51 hf
          refine lv_aload_n hx hb dX0_tell_56 rfl (lv_at hl 0 rfl) ?_
          refine va_get (D := D) (ci := 0) (v := .ref a_t_next) (C := RX0) (T := TX0) (N := 4) hx hb hts inX0_tell_X0 hown hK hP 0 rfl rfl 0 (by decide) (hts (.fieldLink RX0 12 "RowPivots$Acts" "next" "LRowPivots$Grid;") (List.mem_of_getElem? (i := 2) rfl)) (fun _ h9 => h9) rfl dX0_tell_57 ?_
          refine lv_aload_n hx hb dX0_tell_60 rfl (lv_at hl 1 rfl) ?_
          obtain ⟨u_6, hcu_6, hf⟩ := bdS hf
          refine kVv (As := [.ref a_p1]) (rest := []) (w2 := [(a_t, .inr (0, [.ref a_t_next, .int t_longRow, .int t_longColumn, .ref a_t_value])), (a_t_next, .inr (1, [.int u_6.1, .int u_6.2.1, .ref a_t_next_upper, .ref a_t_next_lower, .ref a_t_next_sum])), (a_t_next_lower, .inl (cI, 42, .inl u_6.2.2.1)), (a_t_next_upper, .inl (cI, 42, .inl u_6.2.2.2)), (a_t_value, .inr (3, [.long u_4.1, .long u_4.2.1, .int u_4.2.2])), (a_p1, .inr (1, [.int p1_rows, .int p1_columns, .ref a_p1_upper, .ref a_p1_lower, .ref a_p1_sum])), (a_p1_lower, .inl (cI, 42, .inl p1_lower)), (a_p1_upper, .inl (cI, 42, .inl p1_upper))]) (wr := [(a_t, .inr (0, [.ref a_t_next, .int t_longRow, .int t_longColumn, .ref a_t_value])), (a_t_value, .inr (3, [.long u_4.1, .long u_4.2.1, .int u_4.2.2]))]) (ci := 1) (q0 := 0) ⟨hx, hb, hml, hown, hts⟩ (MX1_copy l D cI cJ cB cZ cG cS _ a_t_next a_p1 a_t_next_upper a_t_next_lower a_t_next_sum a_p1_upper a_p1_lower a_p1_sum t_next_rows t_next_columns t_next_lower t_next_upper p1_rows p1_columns p1_lower p1_upper u_6.1 u_6.2.1 u_6.2.2.1 u_6.2.2.2 hcu_6) (cwV 1 hts gX0_tell_X1_copy rfl rfl rfl (by decide +kernel) ⟨Nat.le_of_ble_eq_true rfl, Nat.le_of_ble_eq_true rfl⟩) hK hN hP hD hS hA [1, 2, 3, 5, 6, 7] [0, 4] [0, 2, 3, 4, 1, 5, 6, 7] rfl (by decide) rfl (by decide) (by decide) rfl (by decide) rfl rfl rfl hl.1 rfl (Nat.le_of_ble_eq_true rfl) dX0_tell_61 ⟨Nat.zero_le _, Nat.zero_le _⟩ (fun H locs hP hD hS => ?_)
          refine lv_aload_n hx hb dX0_tell_64 rfl (lv_at hl 0 rfl) ?_
          refine va_get (D := D) (ci := 0) (v := .ref a_t_next) (C := RX0) (T := TX0) (N := 4) hx hb hts inX0_tell_X0 hown hK hP 0 rfl rfl 0 (by decide) (hts (.fieldLink RX0 12 "RowPivots$Acts" "next" "LRowPivots$Grid;") (List.mem_of_getElem? (i := 2) rfl)) (fun _ h9 => h9) rfl dX0_tell_65 ?_
          refine lv_iload_n hx hb dX0_tell_68 rfl (lv_at hl 2 rfl) ?_
          refine lv_iload_n hx hb dX0_tell_69 rfl (lv_at hl 3 rfl) ?_
          refine lv_aload_n hx hb dX0_tell_70 rfl (lv_at hl 0 rfl) ?_
          refine va_get (D := D) (ci := 0) (v := .ref a_t_value) (C := RX0) (T := TX0) (N := 4) hx hb hts inX0_tell_X0 hown hK hP 0 rfl rfl 3 (by decide) (hts (.fieldLink RX0 21 "RowPivots$Acts" "value" "LRowPivots$Ratio;") (List.mem_of_getElem? (i := 1) rfl)) (fun _ h9 => h9) rfl dX0_tell_71 ?_
          obtain ⟨u_7, hcu_7, hf⟩ := bdS hf
          refine kVv (As := [.int p2, .int p3, .ref a_t_value]) (rest := []) (w2 := [(a_t, .inr (0, [.ref a_t_next, .int t_longRow, .int t_longColumn, .ref a_t_value])), (a_t_next, .inr (1, [.int u_6.1, .int u_6.2.1, .ref a_t_next_upper, .ref a_t_next_lower, .ref a_t_next_sum])), (a_t_next_lower, .inl (cI, 42, .inl u_7.1)), (a_t_next_upper, .inl (cI, 42, .inl u_7.2)), (a_t_value, .inr (3, [.long u_4.1, .long u_4.2.1, .int u_4.2.2])), (a_p1, .inr (1, [.int p1_rows, .int p1_columns, .ref a_p1_upper, .ref a_p1_lower, .ref a_p1_sum])), (a_p1_lower, .inl (cI, 42, .inl p1_lower)), (a_p1_upper, .inl (cI, 42, .inl p1_upper))]) (wr := [(a_t, .inr (0, [.ref a_t_next, .int t_longRow, .int t_longColumn, .ref a_t_value])), (a_p1, .inr (1, [.int p1_rows, .int p1_columns, .ref a_p1_upper, .ref a_p1_lower, .ref a_p1_sum])), (a_p1_lower, .inl (cI, 42, .inl p1_lower)), (a_p1_upper, .inl (cI, 42, .inl p1_upper))]) (ci := 1) (q0 := 0) ⟨hx, hb, hml, hown, hts⟩ (MX1_put l D cI cJ cB cZ cG cS _ a_t_next a_t_value a_t_next_upper a_t_next_lower a_t_next_sum p2 p3 u_6.1 u_6.2.1 u_6.2.2.1 u_6.2.2.2 u_4.1 u_4.2.1 u_4.2.2 u_7.1 u_7.2 hcu_7) (cwV 3 hts gX0_tell_X1_put rfl rfl rfl (by decide +kernel) ⟨Nat.le_of_ble_eq_true rfl, Nat.le_of_ble_eq_true rfl⟩) hK hN hP hD hS hA [1, 2, 3, 4] [0, 5, 6, 7] [0, 4, 5, 6, 7, 1, 2, 3] rfl (by decide) rfl (by decide) (by decide) rfl (by decide) rfl rfl rfl hl.1 rfl (Nat.le_of_ble_eq_true rfl) dX0_tell_74 ⟨Nat.zero_le _, Nat.zero_le _⟩ (fun H locs hP hD hS => ?_)
          refine lv_iconst (v := 0) hx hb dX0_tell_77 (by decide) ?_
          have hf : (some (0, u_6.1, u_6.2.1, u_7.1, u_7.2, u_4.1, u_4.2.1, u_4.2.2) : Option (Int32 × Int32 × Int32 × (Nat → Int32) × (Nat → Int32) × Int64 × Int64 × Int32)) = some (z_r, z_t_next_rows, z_t_next_columns, z_t_next_lower, z_t_next_upper, z_t_value_upper, z_t_value_lower, z_t_value_isLong) := hf
          cases hf
          exact cRi hx hb hr hlk hP hD hS rfl dX0_tell_78
        · have hf := ifN hc_51 hf
          refine lv_iconst (v := 2) hx hb dX0_tell_54 (by decide) ?_
          have hf : (some (2, t_next_rows, t_next_columns, t_next_lower, t_next_upper, u_4.1, u_4.2.1, u_4.2.2) : Option (Int32 × Int32 × Int32 × (Nat → Int32) × (Nat → Int32) × Int64 × Int64 × Int32)) = some (z_r, z_t_next_rows, z_t_next_columns, z_t_next_lower, z_t_next_upper, z_t_value_upper, z_t_value_lower, z_t_value_isLong) := hf
          cases hf
          exact cRi hx hb hr hlk hP hD hS rfl dX0_tell_55
      · have hf := ifP hc_23 hf
        refine lv_iconst (v := 1) hx hb dX0_tell_26 (by decide) ?_
        have hf : (some (1, t_next_rows, t_next_columns, t_next_lower, t_next_upper, t_value_upper, t_value_lower, t_value_isLong) : Option (Int32 × Int32 × Int32 × (Nat → Int32) × (Nat → Int32) × Int64 × Int64 × Int32)) = some (z_r, z_t_next_rows, z_t_next_columns, z_t_next_lower, z_t_next_upper, z_t_value_upper, z_t_value_lower, z_t_value_isLong) := hf
        cases hf
        exact cRi hx hb hr hlk hP hD hS rfl dX0_tell_27
theorem inX3_load_X3 : ∀ w ∈ wsX30, w ∈ wsX3_load := fun _ h => List.mem_cons_of_mem _ (List.mem_append_left _ (List.mem_append_right _ h))
def fX3_load (p2 : Int32) (p3 : Int32) (p1_lower : Nat → Int32) (p1_upper : Nat → Int32) : Option (Int64 × Int64 × Int32) :=
  (fX1_upperAt p2 p3 p1_upper).bind fun u_1 => lt (u_1.toInt64) fun x_2 => (fX1_lowerAt p2 p3 p1_lower).bind fun u_3 => lt (u_3.toInt64) fun x_4 => some (x_2, x_4, 0)
set_option maxHeartbeats 4000000 in
set_option maxRecDepth 100000 in
theorem MX3_load (l : Launch) (D : va_G) (cI cJ cB cZ cG cS : ClassId) (sz : Nat) (a_t : Nat) (a_p1 : Nat) (a_p1_upper : Nat) (a_p1_lower : Nat) (a_p1_sum : Nat) (p2 : Int32) (p3 : Int32) (t_upper : Int64) (t_lower : Int64) (t_isLong : Int32) (p1_rows : Int32) (p1_columns : Int32) (p1_lower : Nat → Int32) (p1_upper : Nat → Int32) (z_t_upper : Int64) (z_t_lower : Int64) (z_t_isLong : Int32) (hf : fX3_load p2 p3 p1_lower p1_upper = some (z_t_upper, z_t_lower, z_t_isLong)) : Met l yX3_load wsX3_load { frames := 1, cells := 0, slots := 0, locals := 23 } (cP D (tyL cI cJ cB cZ cG cS) [.ref a_t, .ref a_p1, .int p2, .int p3] sz [(a_t, .inr (3, [.long t_upper, .long t_lower, .int t_isLong])), (a_p1, .inr (1, [.int p1_rows, .int p1_columns, .ref a_p1_upper, .ref a_p1_lower, .ref a_p1_sum])), (a_p1_lower, .inl (cI, 42, .inl p1_lower)), (a_p1_upper, .inl (cI, 42, .inl p1_upper))]) (cQv D (va_A [(a_t, .inr (3, [.long t_upper, .long t_lower, .int t_isLong])), (a_p1, .inr (1, [.int p1_rows, .int p1_columns, .ref a_p1_upper, .ref a_p1_lower, .ref a_p1_sum])), (a_p1_lower, .inl (cI, 42, .inl p1_lower)), (a_p1_upper, .inl (cI, 42, .inl p1_upper))] sz) [(a_t, .inr (3, [.long z_t_upper, .long z_t_lower, .int z_t_isLong])), (a_p1, .inr (1, [.int p1_rows, .int p1_columns, .ref a_p1_upper, .ref a_p1_lower, .ref a_p1_sum])), (a_p1_lower, .inl (cI, 42, .inl p1_lower)), (a_p1_upper, .inl (cI, 42, .inl p1_upper))]) 0 0 (va_A [(a_t, .inr (3, [.long t_upper, .long t_lower, .int t_isLong])), (a_p1, .inr (1, [.int p1_rows, .int p1_columns, .ref a_p1_upper, .ref a_p1_lower, .ref a_p1_sum])), (a_p1_lower, .inl (cI, 42, .inl p1_lower)), (a_p1_upper, .inl (cI, 42, .inl p1_upper))] sz) := by
  refine cM (Qc := fun A => cQv D A [(a_t, .inr (3, [.long z_t_upper, .long z_t_lower, .int z_t_isLong])), (a_p1, .inr (1, [.int p1_rows, .int p1_columns, .ref a_p1_upper, .ref a_p1_lower, .ref a_p1_sum])), (a_p1_lower, .inl (cI, 42, .inl p1_lower)), (a_p1_upper, .inl (cI, 42, .inl p1_upper))]) RX3 (by decide) rfl rfl (Nat.le_of_ble_eq_true rfl) ?_
  intro p e s m below meth c A ls hx hb hr hlk hml hown hts hK hN hP hD hS hA hl
  have X : Cx D (tyL cI cJ cB cZ cG cS) cX3_load 4 none RX3 wsX3_load [.ref a_t, .ref a_p1, .int p2, .int p3] p s m meth c A := ⟨hx, hb, hr, hlk, hml, hown, hts, hK, hN, hA⟩
  have hl : lv_has ls 4 [(0, .ref a_t), (1, .ref a_p1), (2, .int p2), (3, .int p3)] := hl
  unfold fX3_load at hf
  refine lv_aload_n hx hb dX3_load_0 rfl (lv_at hl 0 rfl) ?_
  refine lv_iconst (v := 0) hx hb dX3_load_1 (by decide) ?_
  refine va_put (D := D) (ci := 3) (v := .int 0) (ty := .boolean) (C := RX3) (T := TX3) (N := 3) hx hb hts inX3_load_X3 tyX3 tyX3_ok nmX3 hown hK hP hD hS 0 rfl rfl 2 (by decide) (hts (.fieldLink RX3 15 "RowPivots$Ratio" "isLong" "Z") (List.mem_of_getElem? (i := 1) rfl)) (fun _ h9 => h9) rfl (by decide +kernel) (by decide +kernel) (by decide +kernel) (Nat.le_of_ble_eq_true rfl) dX3_load_2 (fun H locs hP hD hS => ?_)
  have hP : va_P D vwCl [(a_t, .inr (3, [.long t_upper, .long t_lower, .int 0])), (a_p1, .inr (1, [.int p1_rows, .int p1_columns, .ref a_p1_upper, .ref a_p1_lower, .ref a_p1_sum])), (a_p1_lower, .inl (cI, 42, .inl p1_lower)), (a_p1_upper, .inl (cI, 42, .inl p1_upper))] H := hP
  have hD : va_D A [(a_t, .inr (3, [.long t_upper, .long t_lower, .int 0])), (a_p1, .inr (1, [.int p1_rows, .int p1_columns, .ref a_p1_upper, .ref a_p1_lower, .ref a_p1_sum])), (a_p1_lower, .inl (cI, 42, .inl p1_lower)), (a_p1_upper, .inl (cI, 42, .inl p1_upper))] := hD
  refine lv_aload_n hx hb dX3_load_5 rfl (lv_at hl 0 rfl) ?_
  refine lv_aload_n hx hb dX3_load_6 rfl (lv_at hl 1 rfl) ?_
  refine lv_iload_n hx hb dX3_load_7 rfl (lv_at hl 2 rfl) ?_
  refine lv_iload_n hx hb dX3_load_8 rfl (lv_at hl 3 rfl) ?_
  obtain ⟨u_1, hcu_1, hf⟩ := bdS hf
  refine kVi (As := [.int p2, .int p3]) (rest := [.ref a_t]) (w2 := [(a_t, .inr (3, [.long t_upper, .long t_lower, .int 0])), (a_p1, .inr (1, [.int p1_rows, .int p1_columns, .ref a_p1_upper, .ref a_p1_lower, .ref a_p1_sum])), (a_p1_lower, .inl (cI, 42, .inl p1_lower)), (a_p1_upper, .inl (cI, 42, .inl p1_upper))]) (wr := [(a_t, .inr (3, [.long t_upper, .long t_lower, .int 0])), (a_p1_lower, .inl (cI, 42, .inl p1_lower))]) (ci := 1) (q0 := 0) ⟨hx, hb, hml, hown, hts⟩ (MX1_upperAt l D cI cJ cB cZ cG cS _ a_p1 a_p1_upper a_p1_lower a_p1_sum p2 p3 p1_rows p1_columns p1_upper u_1 hcu_1) (cwV 2 hts gX3_load_X1_upperAt rfl rfl rfl (by decide +kernel) ⟨Nat.le_of_ble_eq_true rfl, Nat.le_of_ble_eq_true rfl⟩) hK hN hP hD hS hA [1, 3] [0, 2] [0, 2, 1, 3] rfl (by decide) rfl (by decide) (by decide) rfl (by decide) rfl rfl rfl hl.1 rfl (Nat.le_of_ble_eq_true rfl) dX3_load_9 ⟨Nat.zero_le _, Nat.zero_le _⟩ (fun H locs hP hD hS => ?_)
  refine lv_i2l hx hb dX3_load_12 rfl ?_
  refine lv_topl (fun x_2 ex_2 => ?_)
  have hf := lt_b ex_2 hf
  refine va_put (D := D) (ci := 3) (v := .long x_2) (ty := .long) (C := RX3) (T := TX3) (N := 3) hx hb hts inX3_load_X3 tyX3 tyX3_ok nmX3 hown hK hP hD hS 0 rfl rfl 0 (by decide) (hts (.fieldLink RX3 29 "RowPivots$Ratio" "upper" "J") (List.mem_of_getElem? (i := 2) rfl)) (fun _ h9 => h9) rfl (by decide +kernel) rfl rfl (Nat.le_of_ble_eq_true rfl) dX3_load_13 (fun H locs hP hD hS => ?_)
  have hP : va_P D vwCl [(a_t, .inr (3, [.long x_2, .long t_lower, .int 0])), (a_p1, .inr (1, [.int p1_rows, .int p1_columns, .ref a_p1_upper, .ref a_p1_lower, .ref a_p1_sum])), (a_p1_lower, .inl (cI, 42, .inl p1_lower)), (a_p1_upper, .inl (cI, 42, .inl p1_upper))] H := hP
  have hD : va_D A [(a_t, .inr (3, [.long x_2, .long t_lower, .int 0])), (a_p1, .inr (1, [.int p1_rows, .int p1_columns, .ref a_p1_upper, .ref a_p1_lower, .ref a_p1_sum])), (a_p1_lower, .inl (cI, 42, .inl p1_lower)), (a_p1_upper, .inl (cI, 42, .inl p1_upper))] := hD
  refine lv_aload_n hx hb dX3_load_16 rfl (lv_at hl 0 rfl) ?_
  refine lv_aload_n hx hb dX3_load_17 rfl (lv_at hl 1 rfl) ?_
  refine lv_iload_n hx hb dX3_load_18 rfl (lv_at hl 2 rfl) ?_
  refine lv_iload_n hx hb dX3_load_19 rfl (lv_at hl 3 rfl) ?_
  obtain ⟨u_3, hcu_3, hf⟩ := bdS hf
  refine kVi (As := [.int p2, .int p3]) (rest := [.ref a_t]) (w2 := [(a_t, .inr (3, [.long x_2, .long t_lower, .int 0])), (a_p1, .inr (1, [.int p1_rows, .int p1_columns, .ref a_p1_upper, .ref a_p1_lower, .ref a_p1_sum])), (a_p1_lower, .inl (cI, 42, .inl p1_lower)), (a_p1_upper, .inl (cI, 42, .inl p1_upper))]) (wr := [(a_t, .inr (3, [.long x_2, .long t_lower, .int 0])), (a_p1_upper, .inl (cI, 42, .inl p1_upper))]) (ci := 1) (q0 := 0) ⟨hx, hb, hml, hown, hts⟩ (MX1_lowerAt l D cI cJ cB cZ cG cS _ a_p1 a_p1_upper a_p1_lower a_p1_sum p2 p3 p1_rows p1_columns p1_lower u_3 hcu_3) (cwV 2 hts gX3_load_X1_lowerAt rfl rfl rfl (by decide +kernel) ⟨Nat.le_of_ble_eq_true rfl, Nat.le_of_ble_eq_true rfl⟩) hK hN hP hD hS hA [1, 2] [0, 3] [0, 2, 3, 1] rfl (by decide) rfl (by decide) (by decide) rfl (by decide) rfl rfl rfl hl.1 rfl (Nat.le_of_ble_eq_true rfl) dX3_load_20 ⟨Nat.zero_le _, Nat.zero_le _⟩ (fun H locs hP hD hS => ?_)
  refine lv_i2l hx hb dX3_load_23 rfl ?_
  refine lv_topl (fun x_4 ex_4 => ?_)
  have hf := lt_b ex_4 hf
  refine va_put (D := D) (ci := 3) (v := .long x_4) (ty := .long) (C := RX3) (T := TX3) (N := 3) hx hb hts inX3_load_X3 tyX3 tyX3_ok nmX3 hown hK hP hD hS 0 rfl rfl 1 (by decide) (hts (.fieldLink RX3 9 "RowPivots$Ratio" "lower" "J") (List.mem_of_getElem? (i := 3) rfl)) (fun _ h9 => h9) rfl (by decide +kernel) rfl rfl (Nat.le_of_ble_eq_true rfl) dX3_load_24 (fun H locs hP hD hS => ?_)
  have hP : va_P D vwCl [(a_t, .inr (3, [.long x_2, .long x_4, .int 0])), (a_p1, .inr (1, [.int p1_rows, .int p1_columns, .ref a_p1_upper, .ref a_p1_lower, .ref a_p1_sum])), (a_p1_lower, .inl (cI, 42, .inl p1_lower)), (a_p1_upper, .inl (cI, 42, .inl p1_upper))] H := hP
  have hD : va_D A [(a_t, .inr (3, [.long x_2, .long x_4, .int 0])), (a_p1, .inr (1, [.int p1_rows, .int p1_columns, .ref a_p1_upper, .ref a_p1_lower, .ref a_p1_sum])), (a_p1_lower, .inl (cI, 42, .inl p1_lower)), (a_p1_upper, .inl (cI, 42, .inl p1_upper))] := hD
  have hf : (some (x_2, x_4, 0) : Option (Int64 × Int64 × Int32)) = some (z_t_upper, z_t_lower, z_t_isLong) := hf
  cases hf
  exact cRv hx hb hr hlk hP hD hS dX3_load_27
theorem inX1_isSame_X1 : ∀ w ∈ wsX10, w ∈ wsX1_isSame := fun _ h => List.mem_cons_of_mem _ (List.mem_append_left _ (List.mem_append_right _ h))
def fX1_isSame_51 (v2_2 : Int32) (rec_2 : Int32 → Int64 → Int64 → Int32 → Option (Int32 × Int64 × Int64 × Int32)) (t_sum_upper_51 : Int64) (t_sum_lower_51 : Int64) (t_sum_isLong_51 : Int32) : Option (Int32 × Int64 × Int64 × Int32) :=
  rec_2 (v2_2 + 1) t_sum_upper_51 t_sum_lower_51 t_sum_isLong_51
def fX1_isSame_12 (t_columns : Int32) (t_lower : Nat → Int32) (t_upper : Nat → Int32) (p1_lower : Nat → Int32) (p1_upper : Nat → Int32) (v2_2 : Int32) (rec_2 : Int32 → Int64 → Int64 → Int32 → Option (Int32 × Int64 × Int64 × Int32)) : Nat → Int32 → Int64 → Int64 → Int32 → Option (Int32 × Int64 × Int64 × Int32)
  | 0, _, _, _, _ => none
  | n + 1, v3_12, t_sum_upper_12, t_sum_lower_12, t_sum_isLong_12 => if t_columns < v3_12 then (fX1_isSame_51 v2_2 rec_2 t_sum_upper_12 t_sum_lower_12 t_sum_isLong_12) else ((fX3_load v2_2 v3_12 p1_lower p1_upper).bind fun u_1 => (fX1_isAt v2_2 v3_12 t_lower t_upper u_1.1 u_1.2.1).bind fun u_2 => if u_2 = 0 then (some (0, u_1.1, u_1.2.1, u_1.2.2)) else ((fX1_isSame_12 t_columns t_lower t_upper p1_lower p1_upper v2_2 rec_2 n) (v3_12 + 1) u_1.1 u_1.2.1 u_1.2.2))
theorem fX1_isSame_12_s (t_columns : Int32) (t_lower : Nat → Int32) (t_upper : Nat → Int32) (p1_lower : Nat → Int32) (p1_upper : Nat → Int32) (v2_2 : Int32) (rec_2 : Int32 → Int64 → Int64 → Int32 → Option (Int32 × Int64 × Int64 × Int32)) (n : Nat) (v3_12 : Int32) (t_sum_upper_12 : Int64) (t_sum_lower_12 : Int64) (t_sum_isLong_12 : Int32) : fX1_isSame_12 t_columns t_lower t_upper p1_lower p1_upper v2_2 rec_2 (n + 1) v3_12 t_sum_upper_12 t_sum_lower_12 t_sum_isLong_12 = (if t_columns < v3_12 then (fX1_isSame_51 v2_2 rec_2 t_sum_upper_12 t_sum_lower_12 t_sum_isLong_12) else ((fX3_load v2_2 v3_12 p1_lower p1_upper).bind fun u_1 => (fX1_isAt v2_2 v3_12 t_lower t_upper u_1.1 u_1.2.1).bind fun u_2 => if u_2 = 0 then (some (0, u_1.1, u_1.2.1, u_1.2.2)) else ((fX1_isSame_12 t_columns t_lower t_upper p1_lower p1_upper v2_2 rec_2 n) (v3_12 + 1) u_1.1 u_1.2.1 u_1.2.2))) := rfl
def fX1_isSame_2 (t_rows : Int32) (t_columns : Int32) (t_lower : Nat → Int32) (t_upper : Nat → Int32) (p1_lower : Nat → Int32) (p1_upper : Nat → Int32) : Nat → Int32 → Int64 → Int64 → Int32 → Option (Int32 × Int64 × Int64 × Int32)
  | 0, _, _, _, _ => none
  | n + 1, v2_2, t_sum_upper_2, t_sum_lower_2, t_sum_isLong_2 => if t_rows ≤ v2_2 then (some (1, t_sum_upper_2, t_sum_lower_2, t_sum_isLong_2)) else (fX1_isSame_12 t_columns t_lower t_upper p1_lower p1_upper v2_2 (fX1_isSame_2 t_rows t_columns t_lower t_upper p1_lower p1_upper n) fuelN 0 t_sum_upper_2 t_sum_lower_2 t_sum_isLong_2)
theorem fX1_isSame_2_s (t_rows : Int32) (t_columns : Int32) (t_lower : Nat → Int32) (t_upper : Nat → Int32) (p1_lower : Nat → Int32) (p1_upper : Nat → Int32) (n : Nat) (v2_2 : Int32) (t_sum_upper_2 : Int64) (t_sum_lower_2 : Int64) (t_sum_isLong_2 : Int32) : fX1_isSame_2 t_rows t_columns t_lower t_upper p1_lower p1_upper (n + 1) v2_2 t_sum_upper_2 t_sum_lower_2 t_sum_isLong_2 = (if t_rows ≤ v2_2 then (some (1, t_sum_upper_2, t_sum_lower_2, t_sum_isLong_2)) else (fX1_isSame_12 t_columns t_lower t_upper p1_lower p1_upper v2_2 (fX1_isSame_2 t_rows t_columns t_lower t_upper p1_lower p1_upper n) fuelN 0 t_sum_upper_2 t_sum_lower_2 t_sum_isLong_2)) := rfl
def fX1_isSame (t_rows : Int32) (t_columns : Int32) (t_lower : Nat → Int32) (t_sum_upper : Int64) (t_sum_lower : Int64) (t_sum_isLong : Int32) (t_upper : Nat → Int32) (p1_lower : Nat → Int32) (p1_upper : Nat → Int32) : Option (Int32 × Int64 × Int64 × Int32) :=
  fX1_isSame_2 t_rows t_columns t_lower t_upper p1_lower p1_upper fuelN 0 t_sum_upper t_sum_lower t_sum_isLong
set_option maxHeartbeats 4000000 in
set_option maxRecDepth 100000 in
theorem wX1_isSame_51 {l : Launch} {D : va_G} {cI cJ cB cZ cG cS : ClassId} {p : Program} {e : Env} {s : State} {m : MethodId} {below : List Frame} {meth : Method} {c : Code} {A : Nat → Prop} (a_t : Nat) (a_p1 : Nat) (a_t_upper : Nat) (a_t_lower : Nat) (a_t_sum : Nat) (a_p1_upper : Nat) (a_p1_lower : Nat) (a_p1_sum : Nat) (z_r : Int32) (z_t_sum_upper : Int64) (z_t_sum_lower : Int64) (z_t_sum_isLong : Int32) (t_rows : Int32) (t_columns : Int32) (t_lower : Nat → Int32) (t_sum_upper : Int64) (t_sum_lower : Int64) (t_sum_isLong : Int32) (t_upper : Nat → Int32) (p1_rows : Int32) (p1_columns : Int32) (p1_lower : Nat → Int32) (p1_upper : Nat → Int32) (v2_2 : Int32) (t_sum_upper_2 : Int64) (t_sum_lower_2 : Int64) (t_sum_isLong_2 : Int32) (t_sum_upper_51 : Int64) (t_sum_lower_51 : Int64) (t_sum_isLong_51 : Int32)  (X : Cx D (tyL cI cJ cB cZ cG cS) cX1_isSame 4 (some .boolean) RX1 wsX1_isSame [.ref a_t, .ref a_p1] p s m meth c A) (rec_2 : Int32 → Int64 → Int64 → Int32 → Option (Int32 × Int64 × Int64 × Int32)) (hrec_2 : ∀ (v2_2 : Int32) (t_sum_upper_2 : Int64) (t_sum_lower_2 : Int64) (t_sum_isLong_2 : Int32) (H : Heap) (locs : List Loc) (ls : Array Slot), rec_2 v2_2 t_sum_upper_2 t_sum_lower_2 t_sum_isLong_2 = some (z_r, z_t_sum_upper, z_t_sum_lower, z_t_sum_isLong) → va_P D vwCl [(a_t, .inr (1, [.int t_rows, .int t_columns, .ref a_t_upper, .ref a_t_lower, .ref a_t_sum])), (a_t_lower, .inl (cI, 42, .inl t_lower)), (a_t_sum, .inr (3, [.long t_sum_upper_2, .long t_sum_lower_2, .int t_sum_isLong_2])), (a_t_upper, .inl (cI, 42, .inl t_upper)), (a_p1, .inr (1, [.int p1_rows, .int p1_columns, .ref a_p1_upper, .ref a_p1_lower, .ref a_p1_sum])), (a_p1_lower, .inl (cI, 42, .inl p1_lower)), (a_p1_upper, .inl (cI, 42, .inl p1_upper))] H → va_D A [(a_t, .inr (1, [.int t_rows, .int t_columns, .ref a_t_upper, .ref a_t_lower, .ref a_t_sum])), (a_t_lower, .inl (cI, 42, .inl t_lower)), (a_t_sum, .inr (3, [.long t_sum_upper_2, .long t_sum_lower_2, .int t_sum_isLong_2])), (a_t_upper, .inl (cI, 42, .inl t_upper)), (a_p1, .inr (1, [.int p1_rows, .int p1_columns, .ref a_p1_upper, .ref a_p1_lower, .ref a_p1_sum])), (a_p1_lower, .inl (cI, 42, .inl p1_lower)), (a_p1_upper, .inl (cI, 42, .inl p1_upper))] → va_S A s.heap H locs → lv_has ls 4 [(0, .ref a_t), (1, .ref a_p1), (2, .int v2_2)] → W p l e { frames := 2, cells := 0, slots := 0, locals := 46 } s m ([.ref a_t, .ref a_p1] : List Value).toArray below meth c H locs 0 0 (MQ below (cQi D A z_r [(a_t, .inr (1, [.int t_rows, .int t_columns, .ref a_t_upper, .ref a_t_lower, .ref a_t_sum])), (a_t_lower, .inl (cI, 42, .inl t_lower)), (a_t_sum, .inr (3, [.long z_t_sum_upper, .long z_t_sum_lower, .int z_t_sum_isLong])), (a_t_upper, .inl (cI, 42, .inl t_upper)), (a_p1, .inr (1, [.int p1_rows, .int p1_columns, .ref a_p1_upper, .ref a_p1_lower, .ref a_p1_sum])), (a_p1_lower, .inl (cI, 42, .inl p1_lower)), (a_p1_upper, .inl (cI, 42, .inl p1_upper))]) ([.ref a_t, .ref a_p1] : List Value).toArray s 0 0 A) (F0 m 2 ls [])) : ∀ (H : Heap) (locs : List Loc) (ls : Array Slot), fX1_isSame_51 v2_2 rec_2 t_sum_upper_51 t_sum_lower_51 t_sum_isLong_51 = some (z_r, z_t_sum_upper, z_t_sum_lower, z_t_sum_isLong) → va_P D vwCl [(a_t, .inr (1, [.int t_rows, .int t_columns, .ref a_t_upper, .ref a_t_lower, .ref a_t_sum])), (a_t_lower, .inl (cI, 42, .inl t_lower)), (a_t_sum, .inr (3, [.long t_sum_upper_51, .long t_sum_lower_51, .int t_sum_isLong_51])), (a_t_upper, .inl (cI, 42, .inl t_upper)), (a_p1, .inr (1, [.int p1_rows, .int p1_columns, .ref a_p1_upper, .ref a_p1_lower, .ref a_p1_sum])), (a_p1_lower, .inl (cI, 42, .inl p1_lower)), (a_p1_upper, .inl (cI, 42, .inl p1_upper))] H → va_D A [(a_t, .inr (1, [.int t_rows, .int t_columns, .ref a_t_upper, .ref a_t_lower, .ref a_t_sum])), (a_t_lower, .inl (cI, 42, .inl t_lower)), (a_t_sum, .inr (3, [.long t_sum_upper_51, .long t_sum_lower_51, .int t_sum_isLong_51])), (a_t_upper, .inl (cI, 42, .inl t_upper)), (a_p1, .inr (1, [.int p1_rows, .int p1_columns, .ref a_p1_upper, .ref a_p1_lower, .ref a_p1_sum])), (a_p1_lower, .inl (cI, 42, .inl p1_lower)), (a_p1_upper, .inl (cI, 42, .inl p1_upper))] → va_S A s.heap H locs → lv_has ls 4 [(0, .ref a_t), (1, .ref a_p1), (2, .int v2_2)] → W p l e { frames := 2, cells := 0, slots := 0, locals := 46 } s m ([.ref a_t, .ref a_p1] : List Value).toArray below meth c H locs 0 0 (MQ below (cQi D A z_r [(a_t, .inr (1, [.int t_rows, .int t_columns, .ref a_t_upper, .ref a_t_lower, .ref a_t_sum])), (a_t_lower, .inl (cI, 42, .inl t_lower)), (a_t_sum, .inr (3, [.long z_t_sum_upper, .long z_t_sum_lower, .int z_t_sum_isLong])), (a_t_upper, .inl (cI, 42, .inl t_upper)), (a_p1, .inr (1, [.int p1_rows, .int p1_columns, .ref a_p1_upper, .ref a_p1_lower, .ref a_p1_sum])), (a_p1_lower, .inl (cI, 42, .inl p1_lower)), (a_p1_upper, .inl (cI, 42, .inl p1_upper))]) ([.ref a_t, .ref a_p1] : List Value).toArray s 0 0 A) (F0 m 51 ls []) := by
  obtain ⟨hx, hb, hr, hlk, hml, hown, hts, hK, hN, hA⟩ := id X
  intro H locs ls hf hP hD hS hl
  unfold fX1_isSame_51 at hf
  refine lv_iinc (v := (v2_2 + 1)) (lv' := [(2, .int (v2_2 + 1)), (0, .ref a_t), (1, .ref a_p1)]) hx hb dX1_isSame_51 hl (k := 2) rfl rfl (by decide) rfl (fun ls hl => ?_)
  refine lv_goto (tgt := 2) hx hb dX1_isSame_54 (by decide) ?_
  exact hrec_2 (v2_2 + 1) t_sum_upper_51 t_sum_lower_51 t_sum_isLong_51 _ _ _ hf hP hD hS (lv_sub hl [1, 2, 0] rfl)
set_option maxHeartbeats 4000000 in
set_option maxRecDepth 100000 in
theorem wX1_isSame_12 {l : Launch} {D : va_G} {cI cJ cB cZ cG cS : ClassId} {p : Program} {e : Env} {s : State} {m : MethodId} {below : List Frame} {meth : Method} {c : Code} {A : Nat → Prop} (a_t : Nat) (a_p1 : Nat) (a_t_upper : Nat) (a_t_lower : Nat) (a_t_sum : Nat) (a_p1_upper : Nat) (a_p1_lower : Nat) (a_p1_sum : Nat) (z_r : Int32) (z_t_sum_upper : Int64) (z_t_sum_lower : Int64) (z_t_sum_isLong : Int32) (t_rows : Int32) (t_columns : Int32) (t_lower : Nat → Int32) (t_sum_upper : Int64) (t_sum_lower : Int64) (t_sum_isLong : Int32) (t_upper : Nat → Int32) (p1_rows : Int32) (p1_columns : Int32) (p1_lower : Nat → Int32) (p1_upper : Nat → Int32) (v2_2 : Int32) (t_sum_upper_2 : Int64) (t_sum_lower_2 : Int64) (t_sum_isLong_2 : Int32)  (X : Cx D (tyL cI cJ cB cZ cG cS) cX1_isSame 4 (some .boolean) RX1 wsX1_isSame [.ref a_t, .ref a_p1] p s m meth c A) (rec_2 : Int32 → Int64 → Int64 → Int32 → Option (Int32 × Int64 × Int64 × Int32)) (hrec_2 : ∀ (v2_2 : Int32) (t_sum_upper_2 : Int64) (t_sum_lower_2 : Int64) (t_sum_isLong_2 : Int32) (H : Heap) (locs : List Loc) (ls : Array Slot), rec_2 v2_2 t_sum_upper_2 t_sum_lower_2 t_sum_isLong_2 = some (z_r, z_t_sum_upper, z_t_sum_lower, z_t_sum_isLong) → va_P D vwCl [(a_t, .inr (1, [.int t_rows, .int t_columns, .ref a_t_upper, .ref a_t_lower, .ref a_t_sum])), (a_t_lower, .inl (cI, 42, .inl t_lower)), (a_t_sum, .inr (3, [.long t_sum_upper_2, .long t_sum_lower_2, .int t_sum_isLong_2])), (a_t_upper, .inl (cI, 42, .inl t_upper)), (a_p1, .inr (1, [.int p1_rows, .int p1_columns, .ref a_p1_upper, .ref a_p1_lower, .ref a_p1_sum])), (a_p1_lower, .inl (cI, 42, .inl p1_lower)), (a_p1_upper, .inl (cI, 42, .inl p1_upper))] H → va_D A [(a_t, .inr (1, [.int t_rows, .int t_columns, .ref a_t_upper, .ref a_t_lower, .ref a_t_sum])), (a_t_lower, .inl (cI, 42, .inl t_lower)), (a_t_sum, .inr (3, [.long t_sum_upper_2, .long t_sum_lower_2, .int t_sum_isLong_2])), (a_t_upper, .inl (cI, 42, .inl t_upper)), (a_p1, .inr (1, [.int p1_rows, .int p1_columns, .ref a_p1_upper, .ref a_p1_lower, .ref a_p1_sum])), (a_p1_lower, .inl (cI, 42, .inl p1_lower)), (a_p1_upper, .inl (cI, 42, .inl p1_upper))] → va_S A s.heap H locs → lv_has ls 4 [(0, .ref a_t), (1, .ref a_p1), (2, .int v2_2)] → W p l e { frames := 2, cells := 0, slots := 0, locals := 46 } s m ([.ref a_t, .ref a_p1] : List Value).toArray below meth c H locs 0 0 (MQ below (cQi D A z_r [(a_t, .inr (1, [.int t_rows, .int t_columns, .ref a_t_upper, .ref a_t_lower, .ref a_t_sum])), (a_t_lower, .inl (cI, 42, .inl t_lower)), (a_t_sum, .inr (3, [.long z_t_sum_upper, .long z_t_sum_lower, .int z_t_sum_isLong])), (a_t_upper, .inl (cI, 42, .inl t_upper)), (a_p1, .inr (1, [.int p1_rows, .int p1_columns, .ref a_p1_upper, .ref a_p1_lower, .ref a_p1_sum])), (a_p1_lower, .inl (cI, 42, .inl p1_lower)), (a_p1_upper, .inl (cI, 42, .inl p1_upper))]) ([.ref a_t, .ref a_p1] : List Value).toArray s 0 0 A) (F0 m 2 ls [])) : ∀ (n : Nat) (v3_12 : Int32) (t_sum_upper_12 : Int64) (t_sum_lower_12 : Int64) (t_sum_isLong_12 : Int32) (H : Heap) (locs : List Loc) (ls : Array Slot), fX1_isSame_12 t_columns t_lower t_upper p1_lower p1_upper v2_2 rec_2 n v3_12 t_sum_upper_12 t_sum_lower_12 t_sum_isLong_12 = some (z_r, z_t_sum_upper, z_t_sum_lower, z_t_sum_isLong) → va_P D vwCl [(a_t, .inr (1, [.int t_rows, .int t_columns, .ref a_t_upper, .ref a_t_lower, .ref a_t_sum])), (a_t_lower, .inl (cI, 42, .inl t_lower)), (a_t_sum, .inr (3, [.long t_sum_upper_12, .long t_sum_lower_12, .int t_sum_isLong_12])), (a_t_upper, .inl (cI, 42, .inl t_upper)), (a_p1, .inr (1, [.int p1_rows, .int p1_columns, .ref a_p1_upper, .ref a_p1_lower, .ref a_p1_sum])), (a_p1_lower, .inl (cI, 42, .inl p1_lower)), (a_p1_upper, .inl (cI, 42, .inl p1_upper))] H → va_D A [(a_t, .inr (1, [.int t_rows, .int t_columns, .ref a_t_upper, .ref a_t_lower, .ref a_t_sum])), (a_t_lower, .inl (cI, 42, .inl t_lower)), (a_t_sum, .inr (3, [.long t_sum_upper_12, .long t_sum_lower_12, .int t_sum_isLong_12])), (a_t_upper, .inl (cI, 42, .inl t_upper)), (a_p1, .inr (1, [.int p1_rows, .int p1_columns, .ref a_p1_upper, .ref a_p1_lower, .ref a_p1_sum])), (a_p1_lower, .inl (cI, 42, .inl p1_lower)), (a_p1_upper, .inl (cI, 42, .inl p1_upper))] → va_S A s.heap H locs → lv_has ls 4 [(0, .ref a_t), (1, .ref a_p1), (2, .int v2_2), (3, .int v3_12)] → W p l e { frames := 2, cells := 0, slots := 0, locals := 46 } s m ([.ref a_t, .ref a_p1] : List Value).toArray below meth c H locs 0 0 (MQ below (cQi D A z_r [(a_t, .inr (1, [.int t_rows, .int t_columns, .ref a_t_upper, .ref a_t_lower, .ref a_t_sum])), (a_t_lower, .inl (cI, 42, .inl t_lower)), (a_t_sum, .inr (3, [.long z_t_sum_upper, .long z_t_sum_lower, .int z_t_sum_isLong])), (a_t_upper, .inl (cI, 42, .inl t_upper)), (a_p1, .inr (1, [.int p1_rows, .int p1_columns, .ref a_p1_upper, .ref a_p1_lower, .ref a_p1_sum])), (a_p1_lower, .inl (cI, 42, .inl p1_lower)), (a_p1_upper, .inl (cI, 42, .inl p1_upper))]) ([.ref a_t, .ref a_p1] : List Value).toArray s 0 0 A) (F0 m 12 ls []) := by
  obtain ⟨hx, hb, hr, hlk, hml, hown, hts, hK, hN, hA⟩ := id X
  intro n
  induction n with
  | zero =>
    intro v3_12 t_sum_upper_12 t_sum_lower_12 t_sum_isLong_12 H locs ls hf
    have hf : (none : Option (Int32 × Int64 × Int64 × Int32)) = some (z_r, z_t_sum_upper, z_t_sum_lower, z_t_sum_isLong) := hf
    cases hf
  | succ n ih =>
    intro v3_12 t_sum_upper_12 t_sum_lower_12 t_sum_isLong_12 H locs ls hf hP hD hS hl
    rw [fX1_isSame_12_s] at hf
    refine lv_iload_n hx hb dX1_isSame_12 rfl (lv_at hl 3 rfl) ?_
    refine lv_aload_n hx hb dX1_isSame_13 rfl (lv_at hl 0 rfl) ?_
    refine va_get (D := D) (ci := 1) (v := .int t_columns) (C := RX1) (T := TX1) (N := 5) hx hb hts inX1_isSame_X1 hown hK hP 0 rfl rfl 1 (by decide) (hts (.fieldLink RX1 15 "RowPivots$Grid" "columns" "I") (List.mem_of_getElem? (i := 2) rfl)) (fun _ h9 => h9) rfl dX1_isSame_14 ?_
    refine lv_icmp_gt (tgt := 51) hx hb dX1_isSame_17 (by decide) (fun hc_17 => ?_) (fun hc_17 => ?_)
    · have hf := ifP hc_17 hf
      exact wX1_isSame_51 a_t a_p1 a_t_upper a_t_lower a_t_sum a_p1_upper a_p1_lower a_p1_sum z_r z_t_sum_upper z_t_sum_lower z_t_sum_isLong t_rows t_columns t_lower t_sum_upper t_sum_lower t_sum_isLong t_upper p1_rows p1_columns p1_lower p1_upper v2_2 t_sum_upper_2 t_sum_lower_2 t_sum_isLong_2 t_sum_upper_12 t_sum_lower_12 t_sum_isLong_12 X rec_2 hrec_2 _ _ _ hf hP hD hS (lv_sub hl [0, 1, 2] rfl)
    · have hf := ifN hc_17 hf
      refine lv_aload_n hx hb dX1_isSame_20 rfl (lv_at hl 0 rfl) ?_
      refine va_get (D := D) (ci := 1) (v := .ref a_t_sum) (C := RX1) (T := TX1) (N := 5) hx hb hts inX1_isSame_X1 hown hK hP 0 rfl rfl 4 (by decide) (hts (.fieldLink RX1 28 "RowPivots$Grid" "sum" "LRowPivots$Ratio;") (List.mem_of_getElem? (i := 3) rfl)) (fun _ h9 => h9) rfl dX1_isSame_21 ?_
      refine lv_aload_n hx hb dX1_isSame_24 rfl (lv_at hl 1 rfl) ?_
      refine lv_iload_n hx hb dX1_isSame_25 rfl (lv_at hl 2 rfl) ?_
      refine lv_iload_n hx hb dX1_isSame_26 rfl (lv_at hl 3 rfl) ?_
      obtain ⟨u_1, hcu_1, hf⟩ := bdS hf
      refine kVv (As := [.ref a_p1, .int v2_2, .int v3_12]) (rest := []) (w2 := [(a_t, .inr (1, [.int t_rows, .int t_columns, .ref a_t_upper, .ref a_t_lower, .ref a_t_sum])), (a_t_lower, .inl (cI, 42, .inl t_lower)), (a_t_sum, .inr (3, [.long u_1.1, .long u_1.2.1, .int u_1.2.2])), (a_t_upper, .inl (cI, 42, .inl t_upper)), (a_p1, .inr (1, [.int p1_rows, .int p1_columns, .ref a_p1_upper, .ref a_p1_lower, .ref a_p1_sum])), (a_p1_lower, .inl (cI, 42, .inl p1_lower)), (a_p1_upper, .inl (cI, 42, .inl p1_upper))]) (wr := [(a_t, .inr (1, [.int t_rows, .int t_columns, .ref a_t_upper, .ref a_t_lower, .ref a_t_sum])), (a_t_lower, .inl (cI, 42, .inl t_lower)), (a_t_upper, .inl (cI, 42, .inl t_upper))]) (ci := 3) (q0 := 0) ⟨hx, hb, hml, hown, hts⟩ (MX3_load l D cI cJ cB cZ cG cS _ a_t_sum a_p1 a_p1_upper a_p1_lower a_p1_sum v2_2 v3_12 t_sum_upper_12 t_sum_lower_12 t_sum_isLong_12 p1_rows p1_columns p1_lower p1_upper u_1.1 u_1.2.1 u_1.2.2 hcu_1) (cwV 3 hts gX1_isSame_X3_load rfl rfl rfl (by decide +kernel) ⟨Nat.le_of_ble_eq_true rfl, Nat.le_of_ble_eq_true rfl⟩) hK hN hP hD hS hA [2, 4, 5, 6] [0, 1, 3] [0, 1, 3, 2, 4, 5, 6] rfl (by decide) rfl (by decide) (by decide) rfl (by decide) rfl rfl rfl hl.1 rfl (Nat.le_of_ble_eq_true rfl) dX1_isSame_27 ⟨Nat.zero_le _, Nat.zero_le _⟩ (fun H locs hP hD hS => ?_)
      refine lv_aload_n hx hb dX1_isSame_30 rfl (lv_at hl 0 rfl) ?_
      refine lv_iload_n hx hb dX1_isSame_31 rfl (lv_at hl 2 rfl) ?_
      refine lv_iload_n hx hb dX1_isSame_32 rfl (lv_at hl 3 rfl) ?_
      refine lv_aload_n hx hb dX1_isSame_33 rfl (lv_at hl 0 rfl) ?_
      refine va_get (D := D) (ci := 1) (v := .ref a_t_sum) (C := RX1) (T := TX1) (N := 5) hx hb hts inX1_isSame_X1 hown hK hP 0 rfl rfl 4 (by decide) (hts (.fieldLink RX1 28 "RowPivots$Grid" "sum" "LRowPivots$Ratio;") (List.mem_of_getElem? (i := 3) rfl)) (fun _ h9 => h9) rfl dX1_isSame_34 ?_
      obtain ⟨u_2, hcu_2, hf⟩ := bdS hf
      refine kVi (As := [.int v2_2, .int v3_12, .ref a_t_sum]) (rest := []) (w2 := [(a_t, .inr (1, [.int t_rows, .int t_columns, .ref a_t_upper, .ref a_t_lower, .ref a_t_sum])), (a_t_lower, .inl (cI, 42, .inl t_lower)), (a_t_sum, .inr (3, [.long u_1.1, .long u_1.2.1, .int u_1.2.2])), (a_t_upper, .inl (cI, 42, .inl t_upper)), (a_p1, .inr (1, [.int p1_rows, .int p1_columns, .ref a_p1_upper, .ref a_p1_lower, .ref a_p1_sum])), (a_p1_lower, .inl (cI, 42, .inl p1_lower)), (a_p1_upper, .inl (cI, 42, .inl p1_upper))]) (wr := [(a_p1, .inr (1, [.int p1_rows, .int p1_columns, .ref a_p1_upper, .ref a_p1_lower, .ref a_p1_sum])), (a_p1_lower, .inl (cI, 42, .inl p1_lower)), (a_p1_upper, .inl (cI, 42, .inl p1_upper))]) (ci := 1) (q0 := 0) ⟨hx, hb, hml, hown, hts⟩ (MX1_isAt l D cI cJ cB cZ cG cS _ a_t a_t_sum a_t_upper a_t_lower a_t_sum v2_2 v3_12 t_rows t_columns t_lower t_upper u_1.1 u_1.2.1 u_1.2.2 u_2 hcu_2) (cwV 3 hts gX1_isSame_X1_isAt rfl rfl rfl (by decide +kernel) ⟨Nat.le_of_ble_eq_true rfl, Nat.le_of_ble_eq_true rfl⟩) hK hN hP hD hS hA [0, 1, 3, 2] [4, 5, 6] [3, 4, 6, 5, 0, 1, 2] rfl (by decide) rfl (by decide) (by decide) rfl (by decide) rfl rfl rfl hl.1 rfl (Nat.le_of_ble_eq_true rfl) dX1_isSame_37 ⟨Nat.zero_le _, Nat.zero_le _⟩ (fun H locs hP hD hS => ?_)
      refine lv_if_ne (tgt := 45) hx hb dX1_isSame_40 (by decide) (fun hc_40 => ?_) (fun hc_40 => ?_)
      · have hf := ifN hc_40 hf
        refine lv_iinc (v := (v3_12 + 1)) (lv' := [(3, .int (v3_12 + 1)), (0, .ref a_t), (1, .ref a_p1), (2, .int v2_2)]) hx hb dX1_isSame_45 hl (k := 3) rfl rfl (by decide) rfl (fun ls hl => ?_)
        refine lv_goto (tgt := 12) hx hb dX1_isSame_48 (by decide) ?_
        exact ih (v3_12 + 1) u_1.1 u_1.2.1 u_1.2.2 _ _ _ hf hP hD hS (lv_sub hl [1, 2, 3, 0] rfl)
      · have hf := ifP hc_40 hf
        refine lv_iconst (v := 0) hx hb dX1_isSame_43 (by decide) ?_
        have hf : (some (0, u_1.1, u_1.2.1, u_1.2.2) : Option (Int32 × Int64 × Int64 × Int32)) = some (z_r, z_t_sum_upper, z_t_sum_lower, z_t_sum_isLong) := hf
        cases hf
        exact cRz hx hb hr hlk hP hD hS rfl (by decide) dX1_isSame_44
set_option maxHeartbeats 4000000 in
set_option maxRecDepth 100000 in
theorem wX1_isSame_2 {l : Launch} {D : va_G} {cI cJ cB cZ cG cS : ClassId} {p : Program} {e : Env} {s : State} {m : MethodId} {below : List Frame} {meth : Method} {c : Code} {A : Nat → Prop} (a_t : Nat) (a_p1 : Nat) (a_t_upper : Nat) (a_t_lower : Nat) (a_t_sum : Nat) (a_p1_upper : Nat) (a_p1_lower : Nat) (a_p1_sum : Nat) (z_r : Int32) (z_t_sum_upper : Int64) (z_t_sum_lower : Int64) (z_t_sum_isLong : Int32) (t_rows : Int32) (t_columns : Int32) (t_lower : Nat → Int32) (t_sum_upper : Int64) (t_sum_lower : Int64) (t_sum_isLong : Int32) (t_upper : Nat → Int32) (p1_rows : Int32) (p1_columns : Int32) (p1_lower : Nat → Int32) (p1_upper : Nat → Int32)  (X : Cx D (tyL cI cJ cB cZ cG cS) cX1_isSame 4 (some .boolean) RX1 wsX1_isSame [.ref a_t, .ref a_p1] p s m meth c A) : ∀ (n : Nat) (v2_2 : Int32) (t_sum_upper_2 : Int64) (t_sum_lower_2 : Int64) (t_sum_isLong_2 : Int32) (H : Heap) (locs : List Loc) (ls : Array Slot), fX1_isSame_2 t_rows t_columns t_lower t_upper p1_lower p1_upper n v2_2 t_sum_upper_2 t_sum_lower_2 t_sum_isLong_2 = some (z_r, z_t_sum_upper, z_t_sum_lower, z_t_sum_isLong) → va_P D vwCl [(a_t, .inr (1, [.int t_rows, .int t_columns, .ref a_t_upper, .ref a_t_lower, .ref a_t_sum])), (a_t_lower, .inl (cI, 42, .inl t_lower)), (a_t_sum, .inr (3, [.long t_sum_upper_2, .long t_sum_lower_2, .int t_sum_isLong_2])), (a_t_upper, .inl (cI, 42, .inl t_upper)), (a_p1, .inr (1, [.int p1_rows, .int p1_columns, .ref a_p1_upper, .ref a_p1_lower, .ref a_p1_sum])), (a_p1_lower, .inl (cI, 42, .inl p1_lower)), (a_p1_upper, .inl (cI, 42, .inl p1_upper))] H → va_D A [(a_t, .inr (1, [.int t_rows, .int t_columns, .ref a_t_upper, .ref a_t_lower, .ref a_t_sum])), (a_t_lower, .inl (cI, 42, .inl t_lower)), (a_t_sum, .inr (3, [.long t_sum_upper_2, .long t_sum_lower_2, .int t_sum_isLong_2])), (a_t_upper, .inl (cI, 42, .inl t_upper)), (a_p1, .inr (1, [.int p1_rows, .int p1_columns, .ref a_p1_upper, .ref a_p1_lower, .ref a_p1_sum])), (a_p1_lower, .inl (cI, 42, .inl p1_lower)), (a_p1_upper, .inl (cI, 42, .inl p1_upper))] → va_S A s.heap H locs → lv_has ls 4 [(0, .ref a_t), (1, .ref a_p1), (2, .int v2_2)] → W p l e { frames := 2, cells := 0, slots := 0, locals := 46 } s m ([.ref a_t, .ref a_p1] : List Value).toArray below meth c H locs 0 0 (MQ below (cQi D A z_r [(a_t, .inr (1, [.int t_rows, .int t_columns, .ref a_t_upper, .ref a_t_lower, .ref a_t_sum])), (a_t_lower, .inl (cI, 42, .inl t_lower)), (a_t_sum, .inr (3, [.long z_t_sum_upper, .long z_t_sum_lower, .int z_t_sum_isLong])), (a_t_upper, .inl (cI, 42, .inl t_upper)), (a_p1, .inr (1, [.int p1_rows, .int p1_columns, .ref a_p1_upper, .ref a_p1_lower, .ref a_p1_sum])), (a_p1_lower, .inl (cI, 42, .inl p1_lower)), (a_p1_upper, .inl (cI, 42, .inl p1_upper))]) ([.ref a_t, .ref a_p1] : List Value).toArray s 0 0 A) (F0 m 2 ls []) := by
  obtain ⟨hx, hb, hr, hlk, hml, hown, hts, hK, hN, hA⟩ := id X
  intro n
  induction n with
  | zero =>
    intro v2_2 t_sum_upper_2 t_sum_lower_2 t_sum_isLong_2 H locs ls hf
    have hf : (none : Option (Int32 × Int64 × Int64 × Int32)) = some (z_r, z_t_sum_upper, z_t_sum_lower, z_t_sum_isLong) := hf
    cases hf
  | succ n ih =>
    intro v2_2 t_sum_upper_2 t_sum_lower_2 t_sum_isLong_2 H locs ls hf hP hD hS hl
    rw [fX1_isSame_2_s] at hf
    refine lv_iload_n hx hb dX1_isSame_2 rfl (lv_at hl 2 rfl) ?_
    refine lv_aload_n hx hb dX1_isSame_3 rfl (lv_at hl 0 rfl) ?_
    refine va_get (D := D) (ci := 1) (v := .int t_rows) (C := RX1) (T := TX1) (N := 5) hx hb hts inX1_isSame_X1 hown hK hP 0 rfl rfl 0 (by decide) (hts (.fieldLink RX1 9 "RowPivots$Grid" "rows" "I") (List.mem_of_getElem? (i := 1) rfl)) (fun _ h9 => h9) rfl dX1_isSame_4 ?_
    refine lv_icmp_ge (tgt := 57) hx hb dX1_isSame_7 (by decide) (fun hc_7 => ?_) (fun hc_7 => ?_)
    · have hf := ifP hc_7 hf
      refine lv_iconst (v := 1) hx hb dX1_isSame_57 (by decide) ?_
      have hf : (some (1, t_sum_upper_2, t_sum_lower_2, t_sum_isLong_2) : Option (Int32 × Int64 × Int64 × Int32)) = some (z_r, z_t_sum_upper, z_t_sum_lower, z_t_sum_isLong) := hf
      cases hf
      exact cRz hx hb hr hlk hP hD hS rfl (by decide) dX1_isSame_58
    · have hf := ifN hc_7 hf
      refine lv_iconst (v := 0) hx hb dX1_isSame_10 (by decide) ?_
      refine lv_istore_n (lv' := [(3, .int 0), (0, .ref a_t), (1, .ref a_p1), (2, .int v2_2)]) hx hb dX1_isSame_11 rfl hl (by decide) rfl (fun ls hl => ?_)
      exact wX1_isSame_12 a_t a_p1 a_t_upper a_t_lower a_t_sum a_p1_upper a_p1_lower a_p1_sum z_r z_t_sum_upper z_t_sum_lower z_t_sum_isLong t_rows t_columns t_lower t_sum_upper t_sum_lower t_sum_isLong t_upper p1_rows p1_columns p1_lower p1_upper v2_2 t_sum_upper_2 t_sum_lower_2 t_sum_isLong_2 X (fX1_isSame_2 t_rows t_columns t_lower t_upper p1_lower p1_upper n) ih fuelN 0 t_sum_upper_2 t_sum_lower_2 t_sum_isLong_2 _ _ _ hf hP hD hS (lv_sub hl [1, 2, 3, 0] rfl)
set_option maxHeartbeats 4000000 in
set_option maxRecDepth 100000 in
theorem MX1_isSame (l : Launch) (D : va_G) (cI cJ cB cZ cG cS : ClassId) (sz : Nat) (a_t : Nat) (a_p1 : Nat) (a_t_upper : Nat) (a_t_lower : Nat) (a_t_sum : Nat) (a_p1_upper : Nat) (a_p1_lower : Nat) (a_p1_sum : Nat) (t_rows : Int32) (t_columns : Int32) (t_lower : Nat → Int32) (t_sum_upper : Int64) (t_sum_lower : Int64) (t_sum_isLong : Int32) (t_upper : Nat → Int32) (p1_rows : Int32) (p1_columns : Int32) (p1_lower : Nat → Int32) (p1_upper : Nat → Int32) (z_r : Int32) (z_t_sum_upper : Int64) (z_t_sum_lower : Int64) (z_t_sum_isLong : Int32) (hf : fX1_isSame t_rows t_columns t_lower t_sum_upper t_sum_lower t_sum_isLong t_upper p1_lower p1_upper = some (z_r, z_t_sum_upper, z_t_sum_lower, z_t_sum_isLong)) : Met l yX1_isSame wsX1_isSame { frames := 2, cells := 0, slots := 0, locals := 46 } (cP D (tyL cI cJ cB cZ cG cS) [.ref a_t, .ref a_p1] sz [(a_t, .inr (1, [.int t_rows, .int t_columns, .ref a_t_upper, .ref a_t_lower, .ref a_t_sum])), (a_t_lower, .inl (cI, 42, .inl t_lower)), (a_t_sum, .inr (3, [.long t_sum_upper, .long t_sum_lower, .int t_sum_isLong])), (a_t_upper, .inl (cI, 42, .inl t_upper)), (a_p1, .inr (1, [.int p1_rows, .int p1_columns, .ref a_p1_upper, .ref a_p1_lower, .ref a_p1_sum])), (a_p1_lower, .inl (cI, 42, .inl p1_lower)), (a_p1_upper, .inl (cI, 42, .inl p1_upper))]) (cQi D (va_A [(a_t, .inr (1, [.int t_rows, .int t_columns, .ref a_t_upper, .ref a_t_lower, .ref a_t_sum])), (a_t_lower, .inl (cI, 42, .inl t_lower)), (a_t_sum, .inr (3, [.long t_sum_upper, .long t_sum_lower, .int t_sum_isLong])), (a_t_upper, .inl (cI, 42, .inl t_upper)), (a_p1, .inr (1, [.int p1_rows, .int p1_columns, .ref a_p1_upper, .ref a_p1_lower, .ref a_p1_sum])), (a_p1_lower, .inl (cI, 42, .inl p1_lower)), (a_p1_upper, .inl (cI, 42, .inl p1_upper))] sz) z_r [(a_t, .inr (1, [.int t_rows, .int t_columns, .ref a_t_upper, .ref a_t_lower, .ref a_t_sum])), (a_t_lower, .inl (cI, 42, .inl t_lower)), (a_t_sum, .inr (3, [.long z_t_sum_upper, .long z_t_sum_lower, .int z_t_sum_isLong])), (a_t_upper, .inl (cI, 42, .inl t_upper)), (a_p1, .inr (1, [.int p1_rows, .int p1_columns, .ref a_p1_upper, .ref a_p1_lower, .ref a_p1_sum])), (a_p1_lower, .inl (cI, 42, .inl p1_lower)), (a_p1_upper, .inl (cI, 42, .inl p1_upper))]) 0 0 (va_A [(a_t, .inr (1, [.int t_rows, .int t_columns, .ref a_t_upper, .ref a_t_lower, .ref a_t_sum])), (a_t_lower, .inl (cI, 42, .inl t_lower)), (a_t_sum, .inr (3, [.long t_sum_upper, .long t_sum_lower, .int t_sum_isLong])), (a_t_upper, .inl (cI, 42, .inl t_upper)), (a_p1, .inr (1, [.int p1_rows, .int p1_columns, .ref a_p1_upper, .ref a_p1_lower, .ref a_p1_sum])), (a_p1_lower, .inl (cI, 42, .inl p1_lower)), (a_p1_upper, .inl (cI, 42, .inl p1_upper))] sz) := by
  refine cM (Qc := fun A => cQi D A z_r [(a_t, .inr (1, [.int t_rows, .int t_columns, .ref a_t_upper, .ref a_t_lower, .ref a_t_sum])), (a_t_lower, .inl (cI, 42, .inl t_lower)), (a_t_sum, .inr (3, [.long z_t_sum_upper, .long z_t_sum_lower, .int z_t_sum_isLong])), (a_t_upper, .inl (cI, 42, .inl t_upper)), (a_p1, .inr (1, [.int p1_rows, .int p1_columns, .ref a_p1_upper, .ref a_p1_lower, .ref a_p1_sum])), (a_p1_lower, .inl (cI, 42, .inl p1_lower)), (a_p1_upper, .inl (cI, 42, .inl p1_upper))]) RX1 (by decide) rfl rfl (Nat.le_of_ble_eq_true rfl) ?_
  intro p e s m below meth c A ls hx hb hr hlk hml hown hts hK hN hP hD hS hA hl
  have X : Cx D (tyL cI cJ cB cZ cG cS) cX1_isSame 4 (some .boolean) RX1 wsX1_isSame [.ref a_t, .ref a_p1] p s m meth c A := ⟨hx, hb, hr, hlk, hml, hown, hts, hK, hN, hA⟩
  have hl : lv_has ls 4 [(0, .ref a_t), (1, .ref a_p1)] := hl
  unfold fX1_isSame at hf
  refine lv_iconst (v := 0) hx hb dX1_isSame_0 (by decide) ?_
  refine lv_istore_n (lv' := [(2, .int 0), (0, .ref a_t), (1, .ref a_p1)]) hx hb dX1_isSame_1 rfl hl (by decide) rfl (fun ls hl => ?_)
  exact wX1_isSame_2 a_t a_p1 a_t_upper a_t_lower a_t_sum a_p1_upper a_p1_lower a_p1_sum z_r z_t_sum_upper z_t_sum_lower z_t_sum_isLong t_rows t_columns t_lower t_sum_upper t_sum_lower t_sum_isLong t_upper p1_rows p1_columns p1_lower p1_upper X  fuelN 0 t_sum_upper t_sum_lower t_sum_isLong _ _ _ hf hP hD hS (lv_sub hl [1, 2, 0] rfl)
theorem inX0_exchange_X0 : ∀ w ∈ wsX00, w ∈ wsX0_exchange := fun _ h => List.mem_cons_of_mem _ (List.mem_append_left _ (List.mem_append_left _ (List.mem_append_right _ h)))
theorem inX0_exchange_X1 : ∀ w ∈ wsX10, w ∈ wsX0_exchange := fun _ h => List.mem_cons_of_mem _ (List.mem_append_left _ (List.mem_append_right _ h))
def fX0_exchange_94 (t_next_sum_upper : Int64) (t_next_sum_lower : Int64) (t_next_sum_isLong : Int32) (p1_lower : Nat → Int32) (p1_upper : Nat → Int32) (t_next_rows_94 : Int32) (t_next_columns_94 : Int32) (t_next_lower_94 : Nat → Int32) (t_next_upper_94 : Nat → Int32) (t_value_upper_94 : Int64) (t_value_lower_94 : Int64) (t_value_isLong_94 : Int32) : Option (Int32 × Int32 × Int32 × (Nat → Int32) × Int64 × Int64 × Int32 × (Nat → Int32) × Int64 × Int64 × Int32) :=
  (fX1_isSame t_next_rows_94 t_next_columns_94 t_next_lower_94 t_next_sum_upper t_next_sum_lower t_next_sum_isLong t_next_upper_94 p1_lower p1_upper).bind fun u_4 => if u_4.1 = 0 then (some (0, t_next_rows_94, t_next_columns_94, t_next_lower_94, u_4.2.1, u_4.2.2.1, u_4.2.2.2, t_next_upper_94, t_value_upper_94, t_value_lower_94, t_value_isLong_94)) else (some (2, t_next_rows_94, t_next_columns_94, t_next_lower_94, u_4.2.1, u_4.2.2.1, u_4.2.2.2, t_next_upper_94, t_value_upper_94, t_value_lower_94, t_value_isLong_94))
def fX0_exchange_29 (p2 : Int32) (p3 : Int32) (t_next_sum_upper : Int64) (t_next_sum_lower : Int64) (t_next_sum_isLong : Int32) (p1_columns : Int32) (p1_lower : Nat → Int32) (p1_upper : Nat → Int32) (t_next_rows_29 : Int32) (t_next_columns_29 : Int32) : Nat → Int32 → (Nat → Int32) → (Nat → Int32) → Int64 → Int64 → Int32 → Option (Int32 × Int32 × Int32 × (Nat → Int32) × Int64 × Int64 × Int32 × (Nat → Int32) × Int64 × Int64 × Int32)
  | 0, _, _, _, _, _, _ => none
  | n + 1, v4_29, t_next_lower_29, t_next_upper_29, t_value_upper_29, t_value_lower_29, t_value_isLong_29 => if p1_columns < v4_29 then (fX0_exchange_94 t_next_sum_upper t_next_sum_lower t_next_sum_isLong p1_lower p1_upper t_next_rows_29 t_next_columns_29 t_next_lower_29 t_next_upper_29 t_value_upper_29 t_value_lower_29 t_value_isLong_29) else ((fX3_load p2 v4_29 p1_lower p1_upper).bind fun u_5 => (fX1_put p3 v4_29 t_next_lower_29 t_next_upper_29 u_5.1 u_5.2.1).bind fun u_6 => (fX3_load p3 v4_29 p1_lower p1_upper).bind fun u_7 => (fX1_put p2 v4_29 u_6.1 u_6.2 u_7.1 u_7.2.1).bind fun u_8 => (fX0_exchange_29 p2 p3 t_next_sum_upper t_next_sum_lower t_next_sum_isLong p1_columns p1_lower p1_upper t_next_rows_29 t_next_columns_29 n) (v4_29 + 1) u_8.1 u_8.2 u_7.1 u_7.2.1 u_7.2.2)
theorem fX0_exchange_29_s (p2 : Int32) (p3 : Int32) (t_next_sum_upper : Int64) (t_next_sum_lower : Int64) (t_next_sum_isLong : Int32) (p1_columns : Int32) (p1_lower : Nat → Int32) (p1_upper : Nat → Int32) (t_next_rows_29 : Int32) (t_next_columns_29 : Int32) (n : Nat) (v4_29 : Int32) (t_next_lower_29 : Nat → Int32) (t_next_upper_29 : Nat → Int32) (t_value_upper_29 : Int64) (t_value_lower_29 : Int64) (t_value_isLong_29 : Int32) : fX0_exchange_29 p2 p3 t_next_sum_upper t_next_sum_lower t_next_sum_isLong p1_columns p1_lower p1_upper t_next_rows_29 t_next_columns_29 (n + 1) v4_29 t_next_lower_29 t_next_upper_29 t_value_upper_29 t_value_lower_29 t_value_isLong_29 = (if p1_columns < v4_29 then (fX0_exchange_94 t_next_sum_upper t_next_sum_lower t_next_sum_isLong p1_lower p1_upper t_next_rows_29 t_next_columns_29 t_next_lower_29 t_next_upper_29 t_value_upper_29 t_value_lower_29 t_value_isLong_29) else ((fX3_load p2 v4_29 p1_lower p1_upper).bind fun u_5 => (fX1_put p3 v4_29 t_next_lower_29 t_next_upper_29 u_5.1 u_5.2.1).bind fun u_6 => (fX3_load p3 v4_29 p1_lower p1_upper).bind fun u_7 => (fX1_put p2 v4_29 u_6.1 u_6.2 u_7.1 u_7.2.1).bind fun u_8 => (fX0_exchange_29 p2 p3 t_next_sum_upper t_next_sum_lower t_next_sum_isLong p1_columns p1_lower p1_upper t_next_rows_29 t_next_columns_29 n) (v4_29 + 1) u_8.1 u_8.2 u_7.1 u_7.2.1 u_7.2.2)) := rfl
def fX0_exchange (p2 : Int32) (p3 : Int32) (t_next_rows : Int32) (t_next_columns : Int32) (t_next_lower : Nat → Int32) (t_next_sum_upper : Int64) (t_next_sum_lower : Int64) (t_next_sum_isLong : Int32) (t_next_upper : Nat → Int32) (t_value_upper : Int64) (t_value_lower : Int64) (t_value_isLong : Int32) (p1_rows : Int32) (p1_columns : Int32) (p1_lower : Nat → Int32) (p1_upper : Nat → Int32) : Option (Int32 × Int32 × Int32 × (Nat → Int32) × Int64 × Int64 × Int32 × (Nat → Int32) × Int64 × Int64 × Int32) :=
  (fX1_hasRow p2 p1_rows).bind fun u_1 => if u_1 = 0 then (some (1, t_next_rows, t_next_columns, t_next_lower, t_next_sum_upper, t_next_sum_lower, t_next_sum_isLong, t_next_upper, t_value_upper, t_value_lower, t_value_isLong)) else ((fX1_hasRow p3 p1_rows).bind fun u_2 => if u_2 = 0 then (some (1, t_next_rows, t_next_columns, t_next_lower, t_next_sum_upper, t_next_sum_lower, t_next_sum_isLong, t_next_upper, t_value_upper, t_value_lower, t_value_isLong)) else ((fX1_copy t_next_lower t_next_upper p1_rows p1_columns p1_lower p1_upper).bind fun u_3 => fX0_exchange_29 p2 p3 t_next_sum_upper t_next_sum_lower t_next_sum_isLong p1_columns p1_lower p1_upper u_3.1 u_3.2.1 fuelN 0 u_3.2.2.1 u_3.2.2.2 t_value_upper t_value_lower t_value_isLong))
set_option maxHeartbeats 4000000 in
set_option maxRecDepth 100000 in
theorem wX0_exchange_94 {l : Launch} {D : va_G} {cI cJ cB cZ cG cS : ClassId} {p : Program} {e : Env} {s : State} {m : MethodId} {below : List Frame} {meth : Method} {c : Code} {A : Nat → Prop} (a_t : Nat) (a_p1 : Nat) (a_t_next : Nat) (a_t_value : Nat) (a_t_next_upper : Nat) (a_t_next_lower : Nat) (a_t_next_sum : Nat) (a_p1_upper : Nat) (a_p1_lower : Nat) (a_p1_sum : Nat) (z_r : Int32) (z_t_next_rows : Int32) (z_t_next_columns : Int32) (z_t_next_lower : Nat → Int32) (z_t_next_sum_upper : Int64) (z_t_next_sum_lower : Int64) (z_t_next_sum_isLong : Int32) (z_t_next_upper : Nat → Int32) (z_t_value_upper : Int64) (z_t_value_lower : Int64) (z_t_value_isLong : Int32) (p2 : Int32) (p3 : Int32) (t_longRow : Int32) (t_longColumn : Int32) (t_next_rows : Int32) (t_next_columns : Int32) (t_next_lower : Nat → Int32) (t_next_sum_upper : Int64) (t_next_sum_lower : Int64) (t_next_sum_isLong : Int32) (t_next_upper : Nat → Int32) (t_value_upper : Int64) (t_value_lower : Int64) (t_value_isLong : Int32) (p1_rows : Int32) (p1_columns : Int32) (p1_lower : Nat → Int32) (p1_upper : Nat → Int32) (t_next_rows_94 : Int32) (t_next_columns_94 : Int32) (t_next_lower_94 : Nat → Int32) (t_next_upper_94 : Nat → Int32) (t_value_upper_94 : Int64) (t_value_lower_94 : Int64) (t_value_isLong_94 : Int32)  (X : Cx D (tyL cI cJ cB cZ cG cS) cX0_exchange 5 (some .int) RX0 wsX0_exchange [.ref a_t, .ref a_p1, .int p2, .int p3] p s m meth c A) : ∀ (H : Heap) (locs : List Loc) (ls : Array Slot), fX0_exchange_94 t_next_sum_upper t_next_sum_lower t_next_sum_isLong p1_lower p1_upper t_next_rows_94 t_next_columns_94 t_next_lower_94 t_next_upper_94 t_value_upper_94 t_value_lower_94 t_value_isLong_94 = some (z_r, z_t_next_rows, z_t_next_columns, z_t_next_lower, z_t_next_sum_upper, z_t_next_sum_lower, z_t_next_sum_isLong, z_t_next_upper, z_t_value_upper, z_t_value_lower, z_t_value_isLong) → va_P D vwCl [(a_t, .inr (0, [.ref a_t_next, .int t_longRow, .int t_longColumn, .ref a_t_value])), (a_t_next, .inr (1, [.int t_next_rows_94, .int t_next_columns_94, .ref a_t_next_upper, .ref a_t_next_lower, .ref a_t_next_sum])), (a_t_next_lower, .inl (cI, 42, .inl t_next_lower_94)), (a_t_next_sum, .inr (3, [.long t_next_sum_upper, .long t_next_sum_lower, .int t_next_sum_isLong])), (a_t_next_upper, .inl (cI, 42, .inl t_next_upper_94)), (a_t_value, .inr (3, [.long t_value_upper_94, .long t_value_lower_94, .int t_value_isLong_94])), (a_p1, .inr (1, [.int p1_rows, .int p1_columns, .ref a_p1_upper, .ref a_p1_lower, .ref a_p1_sum])), (a_p1_lower, .inl (cI, 42, .inl p1_lower)), (a_p1_upper, .inl (cI, 42, .inl p1_upper))] H → va_D A [(a_t, .inr (0, [.ref a_t_next, .int t_longRow, .int t_longColumn, .ref a_t_value])), (a_t_next, .inr (1, [.int t_next_rows_94, .int t_next_columns_94, .ref a_t_next_upper, .ref a_t_next_lower, .ref a_t_next_sum])), (a_t_next_lower, .inl (cI, 42, .inl t_next_lower_94)), (a_t_next_sum, .inr (3, [.long t_next_sum_upper, .long t_next_sum_lower, .int t_next_sum_isLong])), (a_t_next_upper, .inl (cI, 42, .inl t_next_upper_94)), (a_t_value, .inr (3, [.long t_value_upper_94, .long t_value_lower_94, .int t_value_isLong_94])), (a_p1, .inr (1, [.int p1_rows, .int p1_columns, .ref a_p1_upper, .ref a_p1_lower, .ref a_p1_sum])), (a_p1_lower, .inl (cI, 42, .inl p1_lower)), (a_p1_upper, .inl (cI, 42, .inl p1_upper))] → va_S A s.heap H locs → lv_has ls 5 [(0, .ref a_t), (1, .ref a_p1)] → W p l e { frames := 3, cells := 0, slots := 0, locals := 85 } s m ([.ref a_t, .ref a_p1, .int p2, .int p3] : List Value).toArray below meth c H locs 0 0 (MQ below (cQi D A z_r [(a_t, .inr (0, [.ref a_t_next, .int t_longRow, .int t_longColumn, .ref a_t_value])), (a_t_next, .inr (1, [.int z_t_next_rows, .int z_t_next_columns, .ref a_t_next_upper, .ref a_t_next_lower, .ref a_t_next_sum])), (a_t_next_lower, .inl (cI, 42, .inl z_t_next_lower)), (a_t_next_sum, .inr (3, [.long z_t_next_sum_upper, .long z_t_next_sum_lower, .int z_t_next_sum_isLong])), (a_t_next_upper, .inl (cI, 42, .inl z_t_next_upper)), (a_t_value, .inr (3, [.long z_t_value_upper, .long z_t_value_lower, .int z_t_value_isLong])), (a_p1, .inr (1, [.int p1_rows, .int p1_columns, .ref a_p1_upper, .ref a_p1_lower, .ref a_p1_sum])), (a_p1_lower, .inl (cI, 42, .inl p1_lower)), (a_p1_upper, .inl (cI, 42, .inl p1_upper))]) ([.ref a_t, .ref a_p1, .int p2, .int p3] : List Value).toArray s 0 0 A) (F0 m 94 ls []) := by
  obtain ⟨hx, hb, hr, hlk, hml, hown, hts, hK, hN, hA⟩ := id X
  intro H locs ls hf hP hD hS hl
  unfold fX0_exchange_94 at hf
  refine lv_aload_n hx hb dX0_exchange_94 rfl (lv_at hl 0 rfl) ?_
  refine va_get (D := D) (ci := 0) (v := .ref a_t_next) (C := RX0) (T := TX0) (N := 4) hx hb hts inX0_exchange_X0 hown hK hP 0 rfl rfl 0 (by decide) (hts (.fieldLink RX0 12 "RowPivots$Acts" "next" "LRowPivots$Grid;") (List.mem_of_getElem? (i := 1) rfl)) (fun _ h9 => h9) rfl dX0_exchange_95 ?_
  refine lv_aload_n hx hb dX0_exchange_98 rfl (lv_at hl 1 rfl) ?_
  obtain ⟨u_4, hcu_4, hf⟩ := bdS hf
  refine kVi (As := [.ref a_p1]) (rest := []) (w2 := [(a_t, .inr (0, [.ref a_t_next, .int t_longRow, .int t_longColumn, .ref a_t_value])), (a_t_next, .inr (1, [.int t_next_rows_94, .int t_next_columns_94, .ref a_t_next_upper, .ref a_t_next_lower, .ref a_t_next_sum])), (a_t_next_lower, .inl (cI, 42, .inl t_next_lower_94)), (a_t_next_sum, .inr (3, [.long u_4.2.1, .long u_4.2.2.1, .int u_4.2.2.2])), (a_t_next_upper, .inl (cI, 42, .inl t_next_upper_94)), (a_t_value, .inr (3, [.long t_value_upper_94, .long t_value_lower_94, .int t_value_isLong_94])), (a_p1, .inr (1, [.int p1_rows, .int p1_columns, .ref a_p1_upper, .ref a_p1_lower, .ref a_p1_sum])), (a_p1_lower, .inl (cI, 42, .inl p1_lower)), (a_p1_upper, .inl (cI, 42, .inl p1_upper))]) (wr := [(a_t, .inr (0, [.ref a_t_next, .int t_longRow, .int t_longColumn, .ref a_t_value])), (a_t_value, .inr (3, [.long t_value_upper_94, .long t_value_lower_94, .int t_value_isLong_94]))]) (ci := 1) (q0 := 0) ⟨hx, hb, hml, hown, hts⟩ (MX1_isSame l D cI cJ cB cZ cG cS _ a_t_next a_p1 a_t_next_upper a_t_next_lower a_t_next_sum a_p1_upper a_p1_lower a_p1_sum t_next_rows_94 t_next_columns_94 t_next_lower_94 t_next_sum_upper t_next_sum_lower t_next_sum_isLong t_next_upper_94 p1_rows p1_columns p1_lower p1_upper u_4.1 u_4.2.1 u_4.2.2.1 u_4.2.2.2 hcu_4) (cwV 1 hts gX0_exchange_X1_isSame rfl rfl rfl (by decide +kernel) ⟨Nat.le_of_ble_eq_true rfl, Nat.le_of_ble_eq_true rfl⟩) hK hN hP hD hS hA [1, 2, 3, 4, 6, 7, 8] [0, 5] [0, 2, 3, 4, 5, 1, 6, 7, 8] rfl (by decide) rfl (by decide) (by decide) rfl (by decide) rfl rfl rfl hl.1 rfl (Nat.le_of_ble_eq_true rfl) dX0_exchange_99 ⟨Nat.zero_le _, Nat.zero_le _⟩ (fun H locs hP hD hS => ?_)
  refine lv_if_eq (tgt := 109) hx hb dX0_exchange_102 (by decide) (fun hc_102 => ?_) (fun hc_102 => ?_)
  · have hf := ifP hc_102 hf
    refine lv_iconst (v := 0) hx hb dX0_exchange_109 (by decide) ?_
    have hf : (some (0, t_next_rows_94, t_next_columns_94, t_next_lower_94, u_4.2.1, u_4.2.2.1, u_4.2.2.2, t_next_upper_94, t_value_upper_94, t_value_lower_94, t_value_isLong_94) : Option (Int32 × Int32 × Int32 × (Nat → Int32) × Int64 × Int64 × Int32 × (Nat → Int32) × Int64 × Int64 × Int32)) = some (z_r, z_t_next_rows, z_t_next_columns, z_t_next_lower, z_t_next_sum_upper, z_t_next_sum_lower, z_t_next_sum_isLong, z_t_next_upper, z_t_value_upper, z_t_value_lower, z_t_value_isLong) := hf
    cases hf
    exact cRi hx hb hr hlk hP hD hS rfl dX0_exchange_110
  · have hf := ifN hc_102 hf
    refine lv_iconst (v := 2) hx hb dX0_exchange_105 (by decide) ?_
    refine lv_goto (tgt := 110) hx hb dX0_exchange_106 (by decide) ?_
    have hf : (some (2, t_next_rows_94, t_next_columns_94, t_next_lower_94, u_4.2.1, u_4.2.2.1, u_4.2.2.2, t_next_upper_94, t_value_upper_94, t_value_lower_94, t_value_isLong_94) : Option (Int32 × Int32 × Int32 × (Nat → Int32) × Int64 × Int64 × Int32 × (Nat → Int32) × Int64 × Int64 × Int32)) = some (z_r, z_t_next_rows, z_t_next_columns, z_t_next_lower, z_t_next_sum_upper, z_t_next_sum_lower, z_t_next_sum_isLong, z_t_next_upper, z_t_value_upper, z_t_value_lower, z_t_value_isLong) := hf
    cases hf
    exact cRi hx hb hr hlk hP hD hS rfl dX0_exchange_110
set_option maxHeartbeats 4000000 in
set_option maxRecDepth 100000 in
theorem wX0_exchange_29 {l : Launch} {D : va_G} {cI cJ cB cZ cG cS : ClassId} {p : Program} {e : Env} {s : State} {m : MethodId} {below : List Frame} {meth : Method} {c : Code} {A : Nat → Prop} (a_t : Nat) (a_p1 : Nat) (a_t_next : Nat) (a_t_value : Nat) (a_t_next_upper : Nat) (a_t_next_lower : Nat) (a_t_next_sum : Nat) (a_p1_upper : Nat) (a_p1_lower : Nat) (a_p1_sum : Nat) (z_r : Int32) (z_t_next_rows : Int32) (z_t_next_columns : Int32) (z_t_next_lower : Nat → Int32) (z_t_next_sum_upper : Int64) (z_t_next_sum_lower : Int64) (z_t_next_sum_isLong : Int32) (z_t_next_upper : Nat → Int32) (z_t_value_upper : Int64) (z_t_value_lower : Int64) (z_t_value_isLong : Int32) (p2 : Int32) (p3 : Int32) (t_longRow : Int32) (t_longColumn : Int32) (t_next_rows : Int32) (t_next_columns : Int32) (t_next_lower : Nat → Int32) (t_next_sum_upper : Int64) (t_next_sum_lower : Int64) (t_next_sum_isLong : Int32) (t_next_upper : Nat → Int32) (t_value_upper : Int64) (t_value_lower : Int64) (t_value_isLong : Int32) (p1_rows : Int32) (p1_columns : Int32) (p1_lower : Nat → Int32) (p1_upper : Nat → Int32) (t_next_rows_29 : Int32) (t_next_columns_29 : Int32)  (X : Cx D (tyL cI cJ cB cZ cG cS) cX0_exchange 5 (some .int) RX0 wsX0_exchange [.ref a_t, .ref a_p1, .int p2, .int p3] p s m meth c A) : ∀ (n : Nat) (v4_29 : Int32) (t_next_lower_29 : Nat → Int32) (t_next_upper_29 : Nat → Int32) (t_value_upper_29 : Int64) (t_value_lower_29 : Int64) (t_value_isLong_29 : Int32) (H : Heap) (locs : List Loc) (ls : Array Slot), fX0_exchange_29 p2 p3 t_next_sum_upper t_next_sum_lower t_next_sum_isLong p1_columns p1_lower p1_upper t_next_rows_29 t_next_columns_29 n v4_29 t_next_lower_29 t_next_upper_29 t_value_upper_29 t_value_lower_29 t_value_isLong_29 = some (z_r, z_t_next_rows, z_t_next_columns, z_t_next_lower, z_t_next_sum_upper, z_t_next_sum_lower, z_t_next_sum_isLong, z_t_next_upper, z_t_value_upper, z_t_value_lower, z_t_value_isLong) → va_P D vwCl [(a_t, .inr (0, [.ref a_t_next, .int t_longRow, .int t_longColumn, .ref a_t_value])), (a_t_next, .inr (1, [.int t_next_rows_29, .int t_next_columns_29, .ref a_t_next_upper, .ref a_t_next_lower, .ref a_t_next_sum])), (a_t_next_lower, .inl (cI, 42, .inl t_next_lower_29)), (a_t_next_sum, .inr (3, [.long t_next_sum_upper, .long t_next_sum_lower, .int t_next_sum_isLong])), (a_t_next_upper, .inl (cI, 42, .inl t_next_upper_29)), (a_t_value, .inr (3, [.long t_value_upper_29, .long t_value_lower_29, .int t_value_isLong_29])), (a_p1, .inr (1, [.int p1_rows, .int p1_columns, .ref a_p1_upper, .ref a_p1_lower, .ref a_p1_sum])), (a_p1_lower, .inl (cI, 42, .inl p1_lower)), (a_p1_upper, .inl (cI, 42, .inl p1_upper))] H → va_D A [(a_t, .inr (0, [.ref a_t_next, .int t_longRow, .int t_longColumn, .ref a_t_value])), (a_t_next, .inr (1, [.int t_next_rows_29, .int t_next_columns_29, .ref a_t_next_upper, .ref a_t_next_lower, .ref a_t_next_sum])), (a_t_next_lower, .inl (cI, 42, .inl t_next_lower_29)), (a_t_next_sum, .inr (3, [.long t_next_sum_upper, .long t_next_sum_lower, .int t_next_sum_isLong])), (a_t_next_upper, .inl (cI, 42, .inl t_next_upper_29)), (a_t_value, .inr (3, [.long t_value_upper_29, .long t_value_lower_29, .int t_value_isLong_29])), (a_p1, .inr (1, [.int p1_rows, .int p1_columns, .ref a_p1_upper, .ref a_p1_lower, .ref a_p1_sum])), (a_p1_lower, .inl (cI, 42, .inl p1_lower)), (a_p1_upper, .inl (cI, 42, .inl p1_upper))] → va_S A s.heap H locs → lv_has ls 5 [(0, .ref a_t), (1, .ref a_p1), (2, .int p2), (3, .int p3), (4, .int v4_29)] → W p l e { frames := 3, cells := 0, slots := 0, locals := 85 } s m ([.ref a_t, .ref a_p1, .int p2, .int p3] : List Value).toArray below meth c H locs 0 0 (MQ below (cQi D A z_r [(a_t, .inr (0, [.ref a_t_next, .int t_longRow, .int t_longColumn, .ref a_t_value])), (a_t_next, .inr (1, [.int z_t_next_rows, .int z_t_next_columns, .ref a_t_next_upper, .ref a_t_next_lower, .ref a_t_next_sum])), (a_t_next_lower, .inl (cI, 42, .inl z_t_next_lower)), (a_t_next_sum, .inr (3, [.long z_t_next_sum_upper, .long z_t_next_sum_lower, .int z_t_next_sum_isLong])), (a_t_next_upper, .inl (cI, 42, .inl z_t_next_upper)), (a_t_value, .inr (3, [.long z_t_value_upper, .long z_t_value_lower, .int z_t_value_isLong])), (a_p1, .inr (1, [.int p1_rows, .int p1_columns, .ref a_p1_upper, .ref a_p1_lower, .ref a_p1_sum])), (a_p1_lower, .inl (cI, 42, .inl p1_lower)), (a_p1_upper, .inl (cI, 42, .inl p1_upper))]) ([.ref a_t, .ref a_p1, .int p2, .int p3] : List Value).toArray s 0 0 A) (F0 m 29 ls []) := by
  obtain ⟨hx, hb, hr, hlk, hml, hown, hts, hK, hN, hA⟩ := id X
  intro n
  induction n with
  | zero =>
    intro v4_29 t_next_lower_29 t_next_upper_29 t_value_upper_29 t_value_lower_29 t_value_isLong_29 H locs ls hf
    have hf : (none : Option (Int32 × Int32 × Int32 × (Nat → Int32) × Int64 × Int64 × Int32 × (Nat → Int32) × Int64 × Int64 × Int32)) = some (z_r, z_t_next_rows, z_t_next_columns, z_t_next_lower, z_t_next_sum_upper, z_t_next_sum_lower, z_t_next_sum_isLong, z_t_next_upper, z_t_value_upper, z_t_value_lower, z_t_value_isLong) := hf
    cases hf
  | succ n ih =>
    intro v4_29 t_next_lower_29 t_next_upper_29 t_value_upper_29 t_value_lower_29 t_value_isLong_29 H locs ls hf hP hD hS hl
    rw [fX0_exchange_29_s] at hf
    refine lv_iload hx hb dX0_exchange_29 (lv_at hl 4 rfl) ?_
    refine lv_aload_n hx hb dX0_exchange_31 rfl (lv_at hl 1 rfl) ?_
    refine va_get (D := D) (ci := 1) (v := .int p1_columns) (C := RX1) (T := TX1) (N := 5) hx hb hts inX0_exchange_X1 hown hK hP 6 rfl rfl 1 (by decide) (hts (.fieldLink RX0 52 "RowPivots$Grid" "columns" "I") (List.mem_of_getElem? (i := 2) rfl)) (fun _ h9 => h9) rfl dX0_exchange_32 ?_
    refine lv_icmp_gt (tgt := 94) hx hb dX0_exchange_35 (by decide) (fun hc_35 => ?_) (fun hc_35 => ?_)
    · have hf := ifP hc_35 hf
      exact wX0_exchange_94 a_t a_p1 a_t_next a_t_value a_t_next_upper a_t_next_lower a_t_next_sum a_p1_upper a_p1_lower a_p1_sum z_r z_t_next_rows z_t_next_columns z_t_next_lower z_t_next_sum_upper z_t_next_sum_lower z_t_next_sum_isLong z_t_next_upper z_t_value_upper z_t_value_lower z_t_value_isLong p2 p3 t_longRow t_longColumn t_next_rows t_next_columns t_next_lower t_next_sum_upper t_next_sum_lower t_next_sum_isLong t_next_upper t_value_upper t_value_lower t_value_isLong p1_rows p1_columns p1_lower p1_upper t_next_rows_29 t_next_columns_29 t_next_lower_29 t_next_upper_29 t_value_upper_29 t_value_lower_29 t_value_isLong_29 X  _ _ _ hf hP hD hS (lv_sub hl [0, 1] rfl)
    · have hf := ifN hc_35 hf
      refine lv_aload_n hx hb dX0_exchange_38 rfl (lv_at hl 0 rfl) ?_
      refine va_get (D := D) (ci := 0) (v := .ref a_t_value) (C := RX0) (T := TX0) (N := 4) hx hb hts inX0_exchange_X0 hown hK hP 0 rfl rfl 3 (by decide) (hts (.fieldLink RX0 21 "RowPivots$Acts" "value" "LRowPivots$Ratio;") (List.mem_of_getElem? (i := 3) rfl)) (fun _ h9 => h9) rfl dX0_exchange_39 ?_
      refine lv_aload_n hx hb dX0_exchange_42 rfl (lv_at hl 1 rfl) ?_
      refine lv_iload_n hx hb dX0_exchange_43 rfl (lv_at hl 2 rfl) ?_
      refine lv_iload hx hb dX0_exchange_44 (lv_at hl 4 rfl) ?_
      obtain ⟨u_5, hcu_5, hf⟩ := bdS hf
      refine kVv (As := [.ref a_p1, .int p2, .int v4_29]) (rest := []) (w2 := [(a_t, .inr (0, [.ref a_t_next, .int t_longRow, .int t_longColumn, .ref a_t_value])), (a_t_next, .inr (1, [.int t_next_rows_29, .int t_next_columns_29, .ref a_t_next_upper, .ref a_t_next_lower, .ref a_t_next_sum])), (a_t_next_lower, .inl (cI, 42, .inl t_next_lower_29)), (a_t_next_sum, .inr (3, [.long t_next_sum_upper, .long t_next_sum_lower, .int t_next_sum_isLong])), (a_t_next_upper, .inl (cI, 42, .inl t_next_upper_29)), (a_t_value, .inr (3, [.long u_5.1, .long u_5.2.1, .int u_5.2.2])), (a_p1, .inr (1, [.int p1_rows, .int p1_columns, .ref a_p1_upper, .ref a_p1_lower, .ref a_p1_sum])), (a_p1_lower, .inl (cI, 42, .inl p1_lower)), (a_p1_upper, .inl (cI, 42, .inl p1_upper))]) (wr := [(a_t, .inr (0, [.ref a_t_next, .int t_longRow, .int t_longColumn, .ref a_t_value])), (a_t_next, .inr (1, [.int t_next_rows_29, .int t_next_columns_29, .ref a_t_next_upper, .ref a_t_next_lower, .ref a_t_next_sum])), (a_t_next_lower, .inl (cI, 42, .inl t_next_lower_29)), (a_t_next_sum, .inr (3, [.long t_next_sum_upper, .long t_next_sum_lower, .int t_next_sum_isLong])), (a_t_next_upper, .inl (cI, 42, .inl t_next_upper_29))]) (ci := 3) (q0 := 0) ⟨hx, hb, hml, hown, hts⟩ (MX3_load l D cI cJ cB cZ cG cS _ a_t_value a_p1 a_p1_upper a_p1_lower a_p1_sum p2 v4_29 t_value_upper_29 t_value_lower_29 t_value_isLong_29 p1_rows p1_columns p1_lower p1_upper u_5.1 u_5.2.1 u_5.2.2 hcu_5) (cwV 3 hts gX0_exchange_X3_load rfl rfl rfl (by decide +kernel) ⟨Nat.le_of_ble_eq_true rfl, Nat.le_of_ble_eq_true rfl⟩) hK hN hP hD hS hA [5, 6, 7, 8] [0, 1, 2, 3, 4] [0, 1, 2, 3, 4, 5, 6, 7, 8] rfl (by decide) rfl (by decide) (by decide) rfl (by decide) rfl rfl rfl hl.1 rfl (Nat.le_of_ble_eq_true rfl) dX0_exchange_46 ⟨Nat.zero_le _, Nat.zero_le _⟩ (fun H locs hP hD hS => ?_)
      refine lv_aload_n hx hb dX0_exchange_49 rfl (lv_at hl 0 rfl) ?_
      refine va_get (D := D) (ci := 0) (v := .ref a_t_next) (C := RX0) (T := TX0) (N := 4) hx hb hts inX0_exchange_X0 hown hK hP 0 rfl rfl 0 (by decide) (hts (.fieldLink RX0 12 "RowPivots$Acts" "next" "LRowPivots$Grid;") (List.mem_of_getElem? (i := 1) rfl)) (fun _ h9 => h9) rfl dX0_exchange_50 ?_
      refine lv_iload_n hx hb dX0_exchange_53 rfl (lv_at hl 3 rfl) ?_
      refine lv_iload hx hb dX0_exchange_54 (lv_at hl 4 rfl) ?_
      refine lv_aload_n hx hb dX0_exchange_56 rfl (lv_at hl 0 rfl) ?_
      refine va_get (D := D) (ci := 0) (v := .ref a_t_value) (C := RX0) (T := TX0) (N := 4) hx hb hts inX0_exchange_X0 hown hK hP 0 rfl rfl 3 (by decide) (hts (.fieldLink RX0 21 "RowPivots$Acts" "value" "LRowPivots$Ratio;") (List.mem_of_getElem? (i := 3) rfl)) (fun _ h9 => h9) rfl dX0_exchange_57 ?_
      obtain ⟨u_6, hcu_6, hf⟩ := bdS hf
      refine kVv (As := [.int p3, .int v4_29, .ref a_t_value]) (rest := []) (w2 := [(a_t, .inr (0, [.ref a_t_next, .int t_longRow, .int t_longColumn, .ref a_t_value])), (a_t_next, .inr (1, [.int t_next_rows_29, .int t_next_columns_29, .ref a_t_next_upper, .ref a_t_next_lower, .ref a_t_next_sum])), (a_t_next_lower, .inl (cI, 42, .inl u_6.1)), (a_t_next_sum, .inr (3, [.long t_next_sum_upper, .long t_next_sum_lower, .int t_next_sum_isLong])), (a_t_next_upper, .inl (cI, 42, .inl u_6.2)), (a_t_value, .inr (3, [.long u_5.1, .long u_5.2.1, .int u_5.2.2])), (a_p1, .inr (1, [.int p1_rows, .int p1_columns, .ref a_p1_upper, .ref a_p1_lower, .ref a_p1_sum])), (a_p1_lower, .inl (cI, 42, .inl p1_lower)), (a_p1_upper, .inl (cI, 42, .inl p1_upper))]) (wr := [(a_t, .inr (0, [.ref a_t_next, .int t_longRow, .int t_longColumn, .ref a_t_value])), (a_t_next_sum, .inr (3, [.long t_next_sum_upper, .long t_next_sum_lower, .int t_next_sum_isLong])), (a_p1, .inr (1, [.int p1_rows, .int p1_columns, .ref a_p1_upper, .ref a_p1_lower, .ref a_p1_sum])), (a_p1_lower, .inl (cI, 42, .inl p1_lower)), (a_p1_upper, .inl (cI, 42, .inl p1_upper))]) (ci := 1) (q0 := 0) ⟨hx, hb, hml, hown, hts⟩ (MX1_put l D cI cJ cB cZ cG cS _ a_t_next a_t_value a_t_next_upper a_t_next_lower a_t_next_sum p3 v4_29 t_next_rows_29 t_next_columns_29 t_next_lower_29 t_next_upper_29 u_5.1 u_5.2.1 u_5.2.2 u_6.1 u_6.2 hcu_6) (cwV 3 hts gX0_exchange_X1_put rfl rfl rfl (by decide +kernel) ⟨Nat.le_of_ble_eq_true rfl, Nat.le_of_ble_eq_true rfl⟩) hK hN hP hD hS hA [1, 2, 4, 5] [0, 3, 6, 7, 8] [0, 5, 6, 1, 7, 8, 2, 3, 4] rfl (by decide) rfl (by decide) (by decide) rfl (by decide) rfl rfl rfl hl.1 rfl (Nat.le_of_ble_eq_true rfl) dX0_exchange_60 ⟨Nat.zero_le _, Nat.zero_le _⟩ (fun H locs hP hD hS => ?_)
      refine lv_aload_n hx hb dX0_exchange_63 rfl (lv_at hl 0 rfl) ?_
      refine va_get (D := D) (ci := 0) (v := .ref a_t_value) (C := RX0) (T := TX0) (N := 4) hx hb hts inX0_exchange_X0 hown hK hP 0 rfl rfl 3 (by decide) (hts (.fieldLink RX0 21 "RowPivots$Acts" "value" "LRowPivots$Ratio;") (List.mem_of_getElem? (i := 3) rfl)) (fun _ h9 => h9) rfl dX0_exchange_64 ?_
      refine lv_aload_n hx hb dX0_exchange_67 rfl (lv_at hl 1 rfl) ?_
      refine lv_iload_n hx hb dX0_exchange_68 rfl (lv_at hl 3 rfl) ?_
      refine lv_iload hx hb dX0_exchange_69 (lv_at hl 4 rfl) ?_
      obtain ⟨u_7, hcu_7, hf⟩ := bdS hf
      refine kVv (As := [.ref a_p1, .int p3, .int v4_29]) (rest := []) (w2 := [(a_t, .inr (0, [.ref a_t_next, .int t_longRow, .int t_longColumn, .ref a_t_value])), (a_t_next, .inr (1, [.int t_next_rows_29, .int t_next_columns_29, .ref a_t_next_upper, .ref a_t_next_lower, .ref a_t_next_sum])), (a_t_next_lower, .inl (cI, 42, .inl u_6.1)), (a_t_next_sum, .inr (3, [.long t_next_sum_upper, .long t_next_sum_lower, .int t_next_sum_isLong])), (a_t_next_upper, .inl (cI, 42, .inl u_6.2)), (a_t_value, .inr (3, [.long u_7.1, .long u_7.2.1, .int u_7.2.2])), (a_p1, .inr (1, [.int p1_rows, .int p1_columns, .ref a_p1_upper, .ref a_p1_lower, .ref a_p1_sum])), (a_p1_lower, .inl (cI, 42, .inl p1_lower)), (a_p1_upper, .inl (cI, 42, .inl p1_upper))]) (wr := [(a_t, .inr (0, [.ref a_t_next, .int t_longRow, .int t_longColumn, .ref a_t_value])), (a_t_next, .inr (1, [.int t_next_rows_29, .int t_next_columns_29, .ref a_t_next_upper, .ref a_t_next_lower, .ref a_t_next_sum])), (a_t_next_lower, .inl (cI, 42, .inl u_6.1)), (a_t_next_sum, .inr (3, [.long t_next_sum_upper, .long t_next_sum_lower, .int t_next_sum_isLong])), (a_t_next_upper, .inl (cI, 42, .inl u_6.2))]) (ci := 3) (q0 := 0) ⟨hx, hb, hml, hown, hts⟩ (MX3_load l D cI cJ cB cZ cG cS _ a_t_value a_p1 a_p1_upper a_p1_lower a_p1_sum p3 v4_29 u_5.1 u_5.2.1 u_5.2.2 p1_rows p1_columns p1_lower p1_upper u_7.1 u_7.2.1 u_7.2.2 hcu_7) (cwV 3 hts gX0_exchange_X3_load rfl rfl rfl (by decide +kernel) ⟨Nat.le_of_ble_eq_true rfl, Nat.le_of_ble_eq_true rfl⟩) hK hN hP hD hS hA [5, 6, 7, 8] [0, 1, 2, 3, 4] [0, 1, 2, 3, 4, 5, 6, 7, 8] rfl (by decide) rfl (by decide) (by decide) rfl (by decide) rfl rfl rfl hl.1 rfl (Nat.le_of_ble_eq_true rfl) dX0_exchange_71 ⟨Nat.zero_le _, Nat.zero_le _⟩ (fun H locs hP hD hS => ?_)
      refine lv_aload_n hx hb dX0_exchange_74 rfl (lv_at hl 0 rfl) ?_
      refine va_get (D := D) (ci := 0) (v := .ref a_t_next) (C := RX0) (T := TX0) (N := 4) hx hb hts inX0_exchange_X0 hown hK hP 0 rfl rfl 0 (by decide) (hts (.fieldLink RX0 12 "RowPivots$Acts" "next" "LRowPivots$Grid;") (List.mem_of_getElem? (i := 1) rfl)) (fun _ h9 => h9) rfl dX0_exchange_75 ?_
      refine lv_iload_n hx hb dX0_exchange_78 rfl (lv_at hl 2 rfl) ?_
      refine lv_iload hx hb dX0_exchange_79 (lv_at hl 4 rfl) ?_
      refine lv_aload_n hx hb dX0_exchange_81 rfl (lv_at hl 0 rfl) ?_
      refine va_get (D := D) (ci := 0) (v := .ref a_t_value) (C := RX0) (T := TX0) (N := 4) hx hb hts inX0_exchange_X0 hown hK hP 0 rfl rfl 3 (by decide) (hts (.fieldLink RX0 21 "RowPivots$Acts" "value" "LRowPivots$Ratio;") (List.mem_of_getElem? (i := 3) rfl)) (fun _ h9 => h9) rfl dX0_exchange_82 ?_
      obtain ⟨u_8, hcu_8, hf⟩ := bdS hf
      refine kVv (As := [.int p2, .int v4_29, .ref a_t_value]) (rest := []) (w2 := [(a_t, .inr (0, [.ref a_t_next, .int t_longRow, .int t_longColumn, .ref a_t_value])), (a_t_next, .inr (1, [.int t_next_rows_29, .int t_next_columns_29, .ref a_t_next_upper, .ref a_t_next_lower, .ref a_t_next_sum])), (a_t_next_lower, .inl (cI, 42, .inl u_8.1)), (a_t_next_sum, .inr (3, [.long t_next_sum_upper, .long t_next_sum_lower, .int t_next_sum_isLong])), (a_t_next_upper, .inl (cI, 42, .inl u_8.2)), (a_t_value, .inr (3, [.long u_7.1, .long u_7.2.1, .int u_7.2.2])), (a_p1, .inr (1, [.int p1_rows, .int p1_columns, .ref a_p1_upper, .ref a_p1_lower, .ref a_p1_sum])), (a_p1_lower, .inl (cI, 42, .inl p1_lower)), (a_p1_upper, .inl (cI, 42, .inl p1_upper))]) (wr := [(a_t, .inr (0, [.ref a_t_next, .int t_longRow, .int t_longColumn, .ref a_t_value])), (a_t_next_sum, .inr (3, [.long t_next_sum_upper, .long t_next_sum_lower, .int t_next_sum_isLong])), (a_p1, .inr (1, [.int p1_rows, .int p1_columns, .ref a_p1_upper, .ref a_p1_lower, .ref a_p1_sum])), (a_p1_lower, .inl (cI, 42, .inl p1_lower)), (a_p1_upper, .inl (cI, 42, .inl p1_upper))]) (ci := 1) (q0 := 0) ⟨hx, hb, hml, hown, hts⟩ (MX1_put l D cI cJ cB cZ cG cS _ a_t_next a_t_value a_t_next_upper a_t_next_lower a_t_next_sum p2 v4_29 t_next_rows_29 t_next_columns_29 u_6.1 u_6.2 u_7.1 u_7.2.1 u_7.2.2 u_8.1 u_8.2 hcu_8) (cwV 3 hts gX0_exchange_X1_put rfl rfl rfl (by decide +kernel) ⟨Nat.le_of_ble_eq_true rfl, Nat.le_of_ble_eq_true rfl⟩) hK hN hP hD hS hA [1, 2, 4, 5] [0, 3, 6, 7, 8] [0, 5, 6, 1, 7, 8, 2, 3, 4] rfl (by decide) rfl (by decide) (by decide) rfl (by decide) rfl rfl rfl hl.1 rfl (Nat.le_of_ble_eq_true rfl) dX0_exchange_85 ⟨Nat.zero_le _, Nat.zero_le _⟩ (fun H locs hP hD hS => ?_)
      refine lv_iinc (v := (v4_29 + 1)) (lv' := [(4, .int (v4_29 + 1)), (0, .ref a_t), (1, .ref a_p1), (2, .int p2), (3, .int p3)]) hx hb dX0_exchange_88 hl (k := 4) rfl rfl (by decide) rfl (fun ls hl => ?_)
      refine lv_goto (tgt := 29) hx hb dX0_exchange_91 (by decide) ?_
      exact ih (v4_29 + 1) u_8.1 u_8.2 u_7.1 u_7.2.1 u_7.2.2 _ _ _ hf hP hD hS (lv_sub hl [1, 2, 3, 4, 0] rfl)
set_option maxHeartbeats 4000000 in
set_option maxRecDepth 100000 in
theorem MX0_exchange (l : Launch) (D : va_G) (cI cJ cB cZ cG cS : ClassId) (sz : Nat) (a_t : Nat) (a_p1 : Nat) (a_t_next : Nat) (a_t_value : Nat) (a_t_next_upper : Nat) (a_t_next_lower : Nat) (a_t_next_sum : Nat) (a_p1_upper : Nat) (a_p1_lower : Nat) (a_p1_sum : Nat) (p2 : Int32) (p3 : Int32) (t_longRow : Int32) (t_longColumn : Int32) (t_next_rows : Int32) (t_next_columns : Int32) (t_next_lower : Nat → Int32) (t_next_sum_upper : Int64) (t_next_sum_lower : Int64) (t_next_sum_isLong : Int32) (t_next_upper : Nat → Int32) (t_value_upper : Int64) (t_value_lower : Int64) (t_value_isLong : Int32) (p1_rows : Int32) (p1_columns : Int32) (p1_lower : Nat → Int32) (p1_upper : Nat → Int32) (z_r : Int32) (z_t_next_rows : Int32) (z_t_next_columns : Int32) (z_t_next_lower : Nat → Int32) (z_t_next_sum_upper : Int64) (z_t_next_sum_lower : Int64) (z_t_next_sum_isLong : Int32) (z_t_next_upper : Nat → Int32) (z_t_value_upper : Int64) (z_t_value_lower : Int64) (z_t_value_isLong : Int32) (hf : fX0_exchange p2 p3 t_next_rows t_next_columns t_next_lower t_next_sum_upper t_next_sum_lower t_next_sum_isLong t_next_upper t_value_upper t_value_lower t_value_isLong p1_rows p1_columns p1_lower p1_upper = some (z_r, z_t_next_rows, z_t_next_columns, z_t_next_lower, z_t_next_sum_upper, z_t_next_sum_lower, z_t_next_sum_isLong, z_t_next_upper, z_t_value_upper, z_t_value_lower, z_t_value_isLong)) : Met l yX0_exchange wsX0_exchange { frames := 3, cells := 0, slots := 0, locals := 85 } (cP D (tyL cI cJ cB cZ cG cS) [.ref a_t, .ref a_p1, .int p2, .int p3] sz [(a_t, .inr (0, [.ref a_t_next, .int t_longRow, .int t_longColumn, .ref a_t_value])), (a_t_next, .inr (1, [.int t_next_rows, .int t_next_columns, .ref a_t_next_upper, .ref a_t_next_lower, .ref a_t_next_sum])), (a_t_next_lower, .inl (cI, 42, .inl t_next_lower)), (a_t_next_sum, .inr (3, [.long t_next_sum_upper, .long t_next_sum_lower, .int t_next_sum_isLong])), (a_t_next_upper, .inl (cI, 42, .inl t_next_upper)), (a_t_value, .inr (3, [.long t_value_upper, .long t_value_lower, .int t_value_isLong])), (a_p1, .inr (1, [.int p1_rows, .int p1_columns, .ref a_p1_upper, .ref a_p1_lower, .ref a_p1_sum])), (a_p1_lower, .inl (cI, 42, .inl p1_lower)), (a_p1_upper, .inl (cI, 42, .inl p1_upper))]) (cQi D (va_A [(a_t, .inr (0, [.ref a_t_next, .int t_longRow, .int t_longColumn, .ref a_t_value])), (a_t_next, .inr (1, [.int t_next_rows, .int t_next_columns, .ref a_t_next_upper, .ref a_t_next_lower, .ref a_t_next_sum])), (a_t_next_lower, .inl (cI, 42, .inl t_next_lower)), (a_t_next_sum, .inr (3, [.long t_next_sum_upper, .long t_next_sum_lower, .int t_next_sum_isLong])), (a_t_next_upper, .inl (cI, 42, .inl t_next_upper)), (a_t_value, .inr (3, [.long t_value_upper, .long t_value_lower, .int t_value_isLong])), (a_p1, .inr (1, [.int p1_rows, .int p1_columns, .ref a_p1_upper, .ref a_p1_lower, .ref a_p1_sum])), (a_p1_lower, .inl (cI, 42, .inl p1_lower)), (a_p1_upper, .inl (cI, 42, .inl p1_upper))] sz) z_r [(a_t, .inr (0, [.ref a_t_next, .int t_longRow, .int t_longColumn, .ref a_t_value])), (a_t_next, .inr (1, [.int z_t_next_rows, .int z_t_next_columns, .ref a_t_next_upper, .ref a_t_next_lower, .ref a_t_next_sum])), (a_t_next_lower, .inl (cI, 42, .inl z_t_next_lower)), (a_t_next_sum, .inr (3, [.long z_t_next_sum_upper, .long z_t_next_sum_lower, .int z_t_next_sum_isLong])), (a_t_next_upper, .inl (cI, 42, .inl z_t_next_upper)), (a_t_value, .inr (3, [.long z_t_value_upper, .long z_t_value_lower, .int z_t_value_isLong])), (a_p1, .inr (1, [.int p1_rows, .int p1_columns, .ref a_p1_upper, .ref a_p1_lower, .ref a_p1_sum])), (a_p1_lower, .inl (cI, 42, .inl p1_lower)), (a_p1_upper, .inl (cI, 42, .inl p1_upper))]) 0 0 (va_A [(a_t, .inr (0, [.ref a_t_next, .int t_longRow, .int t_longColumn, .ref a_t_value])), (a_t_next, .inr (1, [.int t_next_rows, .int t_next_columns, .ref a_t_next_upper, .ref a_t_next_lower, .ref a_t_next_sum])), (a_t_next_lower, .inl (cI, 42, .inl t_next_lower)), (a_t_next_sum, .inr (3, [.long t_next_sum_upper, .long t_next_sum_lower, .int t_next_sum_isLong])), (a_t_next_upper, .inl (cI, 42, .inl t_next_upper)), (a_t_value, .inr (3, [.long t_value_upper, .long t_value_lower, .int t_value_isLong])), (a_p1, .inr (1, [.int p1_rows, .int p1_columns, .ref a_p1_upper, .ref a_p1_lower, .ref a_p1_sum])), (a_p1_lower, .inl (cI, 42, .inl p1_lower)), (a_p1_upper, .inl (cI, 42, .inl p1_upper))] sz) := by
  refine cM (Qc := fun A => cQi D A z_r [(a_t, .inr (0, [.ref a_t_next, .int t_longRow, .int t_longColumn, .ref a_t_value])), (a_t_next, .inr (1, [.int z_t_next_rows, .int z_t_next_columns, .ref a_t_next_upper, .ref a_t_next_lower, .ref a_t_next_sum])), (a_t_next_lower, .inl (cI, 42, .inl z_t_next_lower)), (a_t_next_sum, .inr (3, [.long z_t_next_sum_upper, .long z_t_next_sum_lower, .int z_t_next_sum_isLong])), (a_t_next_upper, .inl (cI, 42, .inl z_t_next_upper)), (a_t_value, .inr (3, [.long z_t_value_upper, .long z_t_value_lower, .int z_t_value_isLong])), (a_p1, .inr (1, [.int p1_rows, .int p1_columns, .ref a_p1_upper, .ref a_p1_lower, .ref a_p1_sum])), (a_p1_lower, .inl (cI, 42, .inl p1_lower)), (a_p1_upper, .inl (cI, 42, .inl p1_upper))]) RX0 (by decide) rfl rfl (Nat.le_of_ble_eq_true rfl) ?_
  intro p e s m below meth c A ls hx hb hr hlk hml hown hts hK hN hP hD hS hA hl
  have X : Cx D (tyL cI cJ cB cZ cG cS) cX0_exchange 5 (some .int) RX0 wsX0_exchange [.ref a_t, .ref a_p1, .int p2, .int p3] p s m meth c A := ⟨hx, hb, hr, hlk, hml, hown, hts, hK, hN, hA⟩
  have hl : lv_has ls 5 [(0, .ref a_t), (1, .ref a_p1), (2, .int p2), (3, .int p3)] := hl
  unfold fX0_exchange at hf
  refine lv_aload_n hx hb dX0_exchange_0 rfl (lv_at hl 1 rfl) ?_
  refine lv_iload_n hx hb dX0_exchange_1 rfl (lv_at hl 2 rfl) ?_
  obtain ⟨u_1, hcu_1, hf⟩ := bdS hf
  refine kVi (As := [.int p2]) (rest := []) (w2 := [(a_t, .inr (0, [.ref a_t_next, .int t_longRow, .int t_longColumn, .ref a_t_value])), (a_t_next, .inr (1, [.int t_next_rows, .int t_next_columns, .ref a_t_next_upper, .ref a_t_next_lower, .ref a_t_next_sum])), (a_t_next_lower, .inl (cI, 42, .inl t_next_lower)), (a_t_next_sum, .inr (3, [.long t_next_sum_upper, .long t_next_sum_lower, .int t_next_sum_isLong])), (a_t_next_upper, .inl (cI, 42, .inl t_next_upper)), (a_t_value, .inr (3, [.long t_value_upper, .long t_value_lower, .int t_value_isLong])), (a_p1, .inr (1, [.int p1_rows, .int p1_columns, .ref a_p1_upper, .ref a_p1_lower, .ref a_p1_sum])), (a_p1_lower, .inl (cI, 42, .inl p1_lower)), (a_p1_upper, .inl (cI, 42, .inl p1_upper))]) (wr := [(a_t, .inr (0, [.ref a_t_next, .int t_longRow, .int t_longColumn, .ref a_t_value])), (a_t_next, .inr (1, [.int t_next_rows, .int t_next_columns, .ref a_t_next_upper, .ref a_t_next_lower, .ref a_t_next_sum])), (a_t_next_lower, .inl (cI, 42, .inl t_next_lower)), (a_t_next_sum, .inr (3, [.long t_next_sum_upper, .long t_next_sum_lower, .int t_next_sum_isLong])), (a_t_next_upper, .inl (cI, 42, .inl t_next_upper)), (a_t_value, .inr (3, [.long t_value_upper, .long t_value_lower, .int t_value_isLong])), (a_p1_lower, .inl (cI, 42, .inl p1_lower)), (a_p1_upper, .inl (cI, 42, .inl p1_upper))]) (ci := 1) (q0 := 0) ⟨hx, hb, hml, hown, hts⟩ (MX1_hasRow l D cI cJ cB cZ cG cS _ a_p1 a_p1_upper a_p1_lower a_p1_sum p2 p1_rows p1_columns u_1 hcu_1) (cwV 1 hts gX0_exchange_X1_hasRow rfl rfl rfl (by decide +kernel) ⟨Nat.le_of_ble_eq_true rfl, Nat.le_of_ble_eq_true rfl⟩) hK hN hP hD hS hA [6] [0, 1, 2, 3, 4, 5, 7, 8] [0, 1, 2, 3, 4, 5, 8, 6, 7] rfl (by decide) rfl (by decide) (by decide) rfl (by decide) rfl rfl rfl hl.1 rfl (Nat.le_of_ble_eq_true rfl) dX0_exchange_2 ⟨Nat.zero_le _, Nat.zero_le _⟩ (fun H locs hP hD hS => ?_)
  refine lv_if_eq (tgt := 16) hx hb dX0_exchange_5 (by decide) (fun hc_5 => ?_) (fun hc_5 => ?_)
  · have hf := ifP hc_5 hf
    refine lv_iconst (v := 1) hx hb dX0_exchange_16 (by decide) ?_
    have hf : (some (1, t_next_rows, t_next_columns, t_next_lower, t_next_sum_upper, t_next_sum_lower, t_next_sum_isLong, t_next_upper, t_value_upper, t_value_lower, t_value_isLong) : Option (Int32 × Int32 × Int32 × (Nat → Int32) × Int64 × Int64 × Int32 × (Nat → Int32) × Int64 × Int64 × Int32)) = some (z_r, z_t_next_rows, z_t_next_columns, z_t_next_lower, z_t_next_sum_upper, z_t_next_sum_lower, z_t_next_sum_isLong, z_t_next_upper, z_t_value_upper, z_t_value_lower, z_t_value_isLong) := hf
    cases hf
    exact cRi hx hb hr hlk hP hD hS rfl dX0_exchange_17
  · have hf := ifN hc_5 hf
    refine lv_aload_n hx hb dX0_exchange_8 rfl (lv_at hl 1 rfl) ?_
    refine lv_iload_n hx hb dX0_exchange_9 rfl (lv_at hl 3 rfl) ?_
    obtain ⟨u_2, hcu_2, hf⟩ := bdS hf
    refine kVi (As := [.int p3]) (rest := []) (w2 := [(a_t, .inr (0, [.ref a_t_next, .int t_longRow, .int t_longColumn, .ref a_t_value])), (a_t_next, .inr (1, [.int t_next_rows, .int t_next_columns, .ref a_t_next_upper, .ref a_t_next_lower, .ref a_t_next_sum])), (a_t_next_lower, .inl (cI, 42, .inl t_next_lower)), (a_t_next_sum, .inr (3, [.long t_next_sum_upper, .long t_next_sum_lower, .int t_next_sum_isLong])), (a_t_next_upper, .inl (cI, 42, .inl t_next_upper)), (a_t_value, .inr (3, [.long t_value_upper, .long t_value_lower, .int t_value_isLong])), (a_p1, .inr (1, [.int p1_rows, .int p1_columns, .ref a_p1_upper, .ref a_p1_lower, .ref a_p1_sum])), (a_p1_lower, .inl (cI, 42, .inl p1_lower)), (a_p1_upper, .inl (cI, 42, .inl p1_upper))]) (wr := [(a_t, .inr (0, [.ref a_t_next, .int t_longRow, .int t_longColumn, .ref a_t_value])), (a_t_next, .inr (1, [.int t_next_rows, .int t_next_columns, .ref a_t_next_upper, .ref a_t_next_lower, .ref a_t_next_sum])), (a_t_next_lower, .inl (cI, 42, .inl t_next_lower)), (a_t_next_sum, .inr (3, [.long t_next_sum_upper, .long t_next_sum_lower, .int t_next_sum_isLong])), (a_t_next_upper, .inl (cI, 42, .inl t_next_upper)), (a_t_value, .inr (3, [.long t_value_upper, .long t_value_lower, .int t_value_isLong])), (a_p1_lower, .inl (cI, 42, .inl p1_lower)), (a_p1_upper, .inl (cI, 42, .inl p1_upper))]) (ci := 1) (q0 := 0) ⟨hx, hb, hml, hown, hts⟩ (MX1_hasRow l D cI cJ cB cZ cG cS _ a_p1 a_p1_upper a_p1_lower a_p1_sum p3 p1_rows p1_columns u_2 hcu_2) (cwV 1 hts gX0_exchange_X1_hasRow rfl rfl rfl (by decide +kernel) ⟨Nat.le_of_ble_eq_true rfl, Nat.le_of_ble_eq_true rfl⟩) hK hN hP hD hS hA [6] [0, 1, 2, 3, 4, 5, 7, 8] [0, 1, 2, 3, 4, 5, 8, 6, 7] rfl (by decide) rfl (by decide) (by decide) rfl (by decide) rfl rfl rfl hl.1 rfl (Nat.le_of_ble_eq_true rfl) dX0_exchange_10 ⟨Nat.zero_le _, Nat.zero_le _⟩ (fun H locs hP hD hS => ?_)
    refine lv_if_ne (tgt := 18) hx hb dX0_exchange_13 (by decide) (fun hc_13 => ?_) (fun hc_13 => ?_)
    · have hf := ifN hc_13 hf
      refine lv_aload_n hx hb dX0_exchange_18 rfl (lv_at hl 0 rfl) ?_
      refine va_get (D := D) (ci := 0) (v := .ref a_t_next) (C := RX0) (T := TX0) (N := 4) hx hb hts inX0_exchange_X0 hown hK hP 0 rfl rfl 0 (by decide) (hts (.fieldLink RX0 12 "RowPivots$Acts" "next" "LRowPivots$Grid;") (List.mem_of_getElem? (i := 1) rfl)) (fun _ h9 => h9) rfl dX0_exchange_19 ?_
      refine lv_aload_n hx hb dX0_exchange_22 rfl (lv_at hl 1 rfl) ?_
      obtain ⟨u_3, hcu_3, hf⟩ := bdS hf
      refine kVv (As := [.ref a_p1]) (rest := []) (w2 := [(a_t, .inr (0, [.ref a_t_next, .int t_longRow, .int t_longColumn, .ref a_t_value])), (a_t_next, .inr (1, [.int u_3.1, .int u_3.2.1, .ref a_t_next_upper, .ref a_t_next_lower, .ref a_t_next_sum])), (a_t_next_lower, .inl (cI, 42, .inl u_3.2.2.1)), (a_t_next_sum, .inr (3, [.long t_next_sum_upper, .long t_next_sum_lower, .int t_next_sum_isLong])), (a_t_next_upper, .inl (cI, 42, .inl u_3.2.2.2)), (a_t_value, .inr (3, [.long t_value_upper, .long t_value_lower, .int t_value_isLong])), (a_p1, .inr (1, [.int p1_rows, .int p1_columns, .ref a_p1_upper, .ref a_p1_lower, .ref a_p1_sum])), (a_p1_lower, .inl (cI, 42, .inl p1_lower)), (a_p1_upper, .inl (cI, 42, .inl p1_upper))]) (wr := [(a_t, .inr (0, [.ref a_t_next, .int t_longRow, .int t_longColumn, .ref a_t_value])), (a_t_next_sum, .inr (3, [.long t_next_sum_upper, .long t_next_sum_lower, .int t_next_sum_isLong])), (a_t_value, .inr (3, [.long t_value_upper, .long t_value_lower, .int t_value_isLong]))]) (ci := 1) (q0 := 0) ⟨hx, hb, hml, hown, hts⟩ (MX1_copy l D cI cJ cB cZ cG cS _ a_t_next a_p1 a_t_next_upper a_t_next_lower a_t_next_sum a_p1_upper a_p1_lower a_p1_sum t_next_rows t_next_columns t_next_lower t_next_upper p1_rows p1_columns p1_lower p1_upper u_3.1 u_3.2.1 u_3.2.2.1 u_3.2.2.2 hcu_3) (cwV 1 hts gX0_exchange_X1_copy rfl rfl rfl (by decide +kernel) ⟨Nat.le_of_ble_eq_true rfl, Nat.le_of_ble_eq_true rfl⟩) hK hN hP hD hS hA [1, 2, 4, 6, 7, 8] [0, 3, 5] [0, 3, 4, 1, 5, 2, 6, 7, 8] rfl (by decide) rfl (by decide) (by decide) rfl (by decide) rfl rfl rfl hl.1 rfl (Nat.le_of_ble_eq_true rfl) dX0_exchange_23 ⟨Nat.zero_le _, Nat.zero_le _⟩ (fun H locs hP hD hS => ?_)
      refine lv_iconst (v := 0) hx hb dX0_exchange_26 (by decide) ?_
      refine lv_istore (lv' := [(4, .int 0), (0, .ref a_t), (1, .ref a_p1), (2, .int p2), (3, .int p3)]) hx hb dX0_exchange_27 hl (by decide) rfl (fun ls hl => ?_)
      exact wX0_exchange_29 a_t a_p1 a_t_next a_t_value a_t_next_upper a_t_next_lower a_t_next_sum a_p1_upper a_p1_lower a_p1_sum z_r z_t_next_rows z_t_next_columns z_t_next_lower z_t_next_sum_upper z_t_next_sum_lower z_t_next_sum_isLong z_t_next_upper z_t_value_upper z_t_value_lower z_t_value_isLong p2 p3 t_longRow t_longColumn t_next_rows t_next_columns t_next_lower t_next_sum_upper t_next_sum_lower t_next_sum_isLong t_next_upper t_value_upper t_value_lower t_value_isLong p1_rows p1_columns p1_lower p1_upper u_3.1 u_3.2.1 X  fuelN 0 u_3.2.2.1 u_3.2.2.2 t_value_upper t_value_lower t_value_isLong _ _ _ hf hP hD hS (lv_sub hl [1, 2, 3, 4, 0] rfl)
    · have hf := ifP hc_13 hf
      refine lv_iconst (v := 1) hx hb dX0_exchange_16 (by decide) ?_
      have hf : (some (1, t_next_rows, t_next_columns, t_next_lower, t_next_sum_upper, t_next_sum_lower, t_next_sum_isLong, t_next_upper, t_value_upper, t_value_lower, t_value_isLong) : Option (Int32 × Int32 × Int32 × (Nat → Int32) × Int64 × Int64 × Int32 × (Nat → Int32) × Int64 × Int64 × Int32)) = some (z_r, z_t_next_rows, z_t_next_columns, z_t_next_lower, z_t_next_sum_upper, z_t_next_sum_lower, z_t_next_sum_isLong, z_t_next_upper, z_t_value_upper, z_t_value_lower, z_t_value_isLong) := hf
      cases hf
      exact cRi hx hb hr hlk hP hD hS rfl dX0_exchange_17
theorem inX1_rowBits_X1 : ∀ w ∈ wsX10, w ∈ wsX1_rowBits := fun _ h => List.mem_cons_of_mem _ (List.mem_append_right _ h)
def fX1_rowBits_4 (p1 : Int32) (t_columns : Int32) (t_upper : Nat → Int32) : Nat → Int32 → Int32 → Option (Int32)
  | 0, _, _ => none
  | n + 1, v2_4, v3_4 => if t_columns < v3_4 then (some (v2_4)) else ((fX1_upperAt p1 v3_4 t_upper).bind fun u_1 => if u_1 = 0 then ((fX1_rowBits_4 p1 t_columns t_upper n) v2_4 (v3_4 + 1)) else (lt (v2_4 ||| (1 <<< (v3_4 &&& 31))) fun x_2 => (fX1_rowBits_4 p1 t_columns t_upper n) x_2 (v3_4 + 1)))
theorem fX1_rowBits_4_s (p1 : Int32) (t_columns : Int32) (t_upper : Nat → Int32) (n : Nat) (v2_4 : Int32) (v3_4 : Int32) : fX1_rowBits_4 p1 t_columns t_upper (n + 1) v2_4 v3_4 = (if t_columns < v3_4 then (some (v2_4)) else ((fX1_upperAt p1 v3_4 t_upper).bind fun u_1 => if u_1 = 0 then ((fX1_rowBits_4 p1 t_columns t_upper n) v2_4 (v3_4 + 1)) else (lt (v2_4 ||| (1 <<< (v3_4 &&& 31))) fun x_2 => (fX1_rowBits_4 p1 t_columns t_upper n) x_2 (v3_4 + 1)))) := rfl
def fX1_rowBits (p1 : Int32) (t_columns : Int32) (t_upper : Nat → Int32) : Option (Int32) :=
  fX1_rowBits_4 p1 t_columns t_upper fuelN 0 0
set_option maxHeartbeats 4000000 in
set_option maxRecDepth 100000 in
theorem wX1_rowBits_4 {l : Launch} {D : va_G} {cI cJ cB cZ cG cS : ClassId} {p : Program} {e : Env} {s : State} {m : MethodId} {below : List Frame} {meth : Method} {c : Code} {A : Nat → Prop} (a_t : Nat) (a_t_upper : Nat) (a_t_lower : Nat) (a_t_sum : Nat) (z_r : Int32) (p1 : Int32) (t_rows : Int32) (t_columns : Int32) (t_upper : Nat → Int32)  (X : Cx D (tyL cI cJ cB cZ cG cS) cX1_rowBits 4 (some .int) RX1 wsX1_rowBits [.ref a_t, .int p1] p s m meth c A) : ∀ (n : Nat) (v2_4 : Int32) (v3_4 : Int32) (H : Heap) (locs : List Loc) (ls : Array Slot), fX1_rowBits_4 p1 t_columns t_upper n v2_4 v3_4 = some (z_r) → va_P D vwCl [(a_t, .inr (1, [.int t_rows, .int t_columns, .ref a_t_upper, .ref a_t_lower, .ref a_t_sum])), (a_t_upper, .inl (cI, 42, .inl t_upper))] H → va_D A [(a_t, .inr (1, [.int t_rows, .int t_columns, .ref a_t_upper, .ref a_t_lower, .ref a_t_sum])), (a_t_upper, .inl (cI, 42, .inl t_upper))] → va_S A s.heap H locs → lv_has ls 4 [(0, .ref a_t), (1, .int p1), (2, .int v2_4), (3, .int v3_4)] → W p l e { frames := 1, cells := 0, slots := 0, locals := 23 } s m ([.ref a_t, .int p1] : List Value).toArray below meth c H locs 0 0 (MQ below (cQi D A z_r [(a_t, .inr (1, [.int t_rows, .int t_columns, .ref a_t_upper, .ref a_t_lower, .ref a_t_sum])), (a_t_upper, .inl (cI, 42, .inl t_upper))]) ([.ref a_t, .int p1] : List Value).toArray s 0 0 A) (F0 m 4 ls []) := by
  obtain ⟨hx, hb, hr, hlk, hml, hown, hts, hK, hN, hA⟩ := id X
  intro n
  induction n with
  | zero =>
    intro v2_4 v3_4 H locs ls hf
    have hf : (none : Option (Int32)) = some (z_r) := hf
    cases hf
  | succ n ih =>
    intro v2_4 v3_4 H locs ls hf hP hD hS hl
    rw [fX1_rowBits_4_s] at hf
    refine lv_iload_n hx hb dX1_rowBits_4 rfl (lv_at hl 3 rfl) ?_
    refine lv_aload_n hx hb dX1_rowBits_5 rfl (lv_at hl 0 rfl) ?_
    refine va_get (D := D) (ci := 1) (v := .int t_columns) (C := RX1) (T := TX1) (N := 5) hx hb hts inX1_rowBits_X1 hown hK hP 0 rfl rfl 1 (by decide) (hts (.fieldLink RX1 15 "RowPivots$Grid" "columns" "I") (List.mem_of_getElem? (i := 1) rfl)) (fun _ h9 => h9) rfl dX1_rowBits_6 ?_
    refine lv_icmp_gt (tgt := 33) hx hb dX1_rowBits_9 (by decide) (fun hc_9 => ?_) (fun hc_9 => ?_)
    · have hf := ifP hc_9 hf
      refine lv_iload_n hx hb dX1_rowBits_33 rfl (lv_at hl 2 rfl) ?_
      have hf : (some (v2_4) : Option (Int32)) = some (z_r) := hf
      cases hf
      exact cRi hx hb hr hlk hP hD hS rfl dX1_rowBits_34
    · have hf := ifN hc_9 hf
      refine lv_aload_n hx hb dX1_rowBits_12 rfl (lv_at hl 0 rfl) ?_
      refine lv_iload_n hx hb dX1_rowBits_13 rfl (lv_at hl 1 rfl) ?_
      refine lv_iload_n hx hb dX1_rowBits_14 rfl (lv_at hl 3 rfl) ?_
      obtain ⟨u_1, hcu_1, hf⟩ := bdS hf
      refine kVi (As := [.int p1, .int v3_4]) (rest := []) (w2 := [(a_t, .inr (1, [.int t_rows, .int t_columns, .ref a_t_upper, .ref a_t_lower, .ref a_t_sum])), (a_t_upper, .inl (cI, 42, .inl t_upper))]) (wr := []) (ci := 1) (q0 := 0) ⟨hx, hb, hml, hown, hts⟩ (MX1_upperAt l D cI cJ cB cZ cG cS _ a_t a_t_upper a_t_lower a_t_sum p1 v3_4 t_rows t_columns t_upper u_1 hcu_1) (cwV 2 hts gX1_rowBits_X1_upperAt rfl rfl rfl (by decide +kernel) ⟨Nat.le_of_ble_eq_true rfl, Nat.le_of_ble_eq_true rfl⟩) hK hN hP hD hS hA [0, 1] [] [0, 1] rfl (by decide) rfl (by decide) (by decide) rfl (by decide) rfl rfl rfl hl.1 rfl (Nat.le_of_ble_eq_true rfl) dX1_rowBits_15 ⟨Nat.zero_le _, Nat.zero_le _⟩ (fun H locs hP hD hS => ?_)
      refine lv_if_eq (tgt := 27) hx hb dX1_rowBits_18 (by decide) (fun hc_18 => ?_) (fun hc_18 => ?_)
      · have hf := ifP hc_18 hf
        refine lv_iinc (v := (v3_4 + 1)) (lv' := [(3, .int (v3_4 + 1)), (0, .ref a_t), (1, .int p1), (2, .int v2_4)]) hx hb dX1_rowBits_27 hl (k := 3) rfl rfl (by decide) rfl (fun ls hl => ?_)
        refine lv_goto (tgt := 4) hx hb dX1_rowBits_30 (by decide) ?_
        exact ih v2_4 (v3_4 + 1) _ _ _ hf hP hD hS (lv_sub hl [1, 2, 3, 0] rfl)
      · have hf := ifN hc_18 hf
        refine lv_iload_n hx hb dX1_rowBits_21 rfl (lv_at hl 2 rfl) ?_
        refine lv_iconst (v := 1) hx hb dX1_rowBits_22 (by decide) ?_
        refine lv_iload_n hx hb dX1_rowBits_23 rfl (lv_at hl 3 rfl) ?_
        refine lv_ishl hx hb dX1_rowBits_24 ?_
        refine lv_ior hx hb dX1_rowBits_25 ?_
        refine lv_topi (fun x_2 ex_2 => ?_)
        have hf := lt_b ex_2 hf
        refine lv_istore_n (lv' := [(2, .int x_2), (0, .ref a_t), (1, .int p1), (3, .int v3_4)]) hx hb dX1_rowBits_26 rfl hl (by decide) rfl (fun ls hl => ?_)
        refine lv_iinc (v := (v3_4 + 1)) (lv' := [(3, .int (v3_4 + 1)), (2, .int x_2), (0, .ref a_t), (1, .int p1)]) hx hb dX1_rowBits_27 hl (k := 3) rfl rfl (by decide) rfl (fun ls hl => ?_)
        refine lv_goto (tgt := 4) hx hb dX1_rowBits_30 (by decide) ?_
        exact ih x_2 (v3_4 + 1) _ _ _ hf hP hD hS (lv_sub hl [2, 3, 1, 0] rfl)
set_option maxHeartbeats 4000000 in
set_option maxRecDepth 100000 in
theorem MX1_rowBits (l : Launch) (D : va_G) (cI cJ cB cZ cG cS : ClassId) (sz : Nat) (a_t : Nat) (a_t_upper : Nat) (a_t_lower : Nat) (a_t_sum : Nat) (p1 : Int32) (t_rows : Int32) (t_columns : Int32) (t_upper : Nat → Int32) (z_r : Int32) (hf : fX1_rowBits p1 t_columns t_upper = some (z_r)) : Met l yX1_rowBits wsX1_rowBits { frames := 1, cells := 0, slots := 0, locals := 23 } (cP D (tyL cI cJ cB cZ cG cS) [.ref a_t, .int p1] sz [(a_t, .inr (1, [.int t_rows, .int t_columns, .ref a_t_upper, .ref a_t_lower, .ref a_t_sum])), (a_t_upper, .inl (cI, 42, .inl t_upper))]) (cQi D (va_A [(a_t, .inr (1, [.int t_rows, .int t_columns, .ref a_t_upper, .ref a_t_lower, .ref a_t_sum])), (a_t_upper, .inl (cI, 42, .inl t_upper))] sz) z_r [(a_t, .inr (1, [.int t_rows, .int t_columns, .ref a_t_upper, .ref a_t_lower, .ref a_t_sum])), (a_t_upper, .inl (cI, 42, .inl t_upper))]) 0 0 (va_A [(a_t, .inr (1, [.int t_rows, .int t_columns, .ref a_t_upper, .ref a_t_lower, .ref a_t_sum])), (a_t_upper, .inl (cI, 42, .inl t_upper))] sz) := by
  refine cM (Qc := fun A => cQi D A z_r [(a_t, .inr (1, [.int t_rows, .int t_columns, .ref a_t_upper, .ref a_t_lower, .ref a_t_sum])), (a_t_upper, .inl (cI, 42, .inl t_upper))]) RX1 (by decide) rfl rfl (Nat.le_of_ble_eq_true rfl) ?_
  intro p e s m below meth c A ls hx hb hr hlk hml hown hts hK hN hP hD hS hA hl
  have X : Cx D (tyL cI cJ cB cZ cG cS) cX1_rowBits 4 (some .int) RX1 wsX1_rowBits [.ref a_t, .int p1] p s m meth c A := ⟨hx, hb, hr, hlk, hml, hown, hts, hK, hN, hA⟩
  have hl : lv_has ls 4 [(0, .ref a_t), (1, .int p1)] := hl
  unfold fX1_rowBits at hf
  refine lv_iconst (v := 0) hx hb dX1_rowBits_0 (by decide) ?_
  refine lv_istore_n (lv' := [(2, .int 0), (0, .ref a_t), (1, .int p1)]) hx hb dX1_rowBits_1 rfl hl (by decide) rfl (fun ls hl => ?_)
  refine lv_iconst (v := 0) hx hb dX1_rowBits_2 (by decide) ?_
  refine lv_istore_n (lv' := [(3, .int 0), (2, .int 0), (0, .ref a_t), (1, .int p1)]) hx hb dX1_rowBits_3 rfl hl (by decide) rfl (fun ls hl => ?_)
  exact wX1_rowBits_4 a_t a_t_upper a_t_lower a_t_sum z_r p1 t_rows t_columns t_upper X  fuelN 0 0 _ _ _ hf hP hD hS (lv_sub hl [2, 3, 1, 0] rfl)
theorem inX3_times_X3 : ∀ w ∈ wsX30, w ∈ wsX3_times := fun _ h => List.mem_cons_of_mem _ (List.mem_append_right _ h)
def fX3_times (p1 : Int64) (p2 : Int64) (t_upper : Int64) (t_lower : Int64) (t_isLong : Int32) : Option (Int64 × Int64 × Int32) :=
  (fX3_settle (t_upper * p1) (t_lower * p2) t_isLong).bind fun u_1 => some (u_1.1, u_1.2.1, u_1.2.2)
set_option maxHeartbeats 4000000 in
set_option maxRecDepth 100000 in
theorem MX3_times (l : Launch) (D : va_G) (cI cJ cB cZ cG cS : ClassId) (sz : Nat) (a_t : Nat) (p1 : Int64) (p2 : Int64) (t_upper : Int64) (t_lower : Int64) (t_isLong : Int32) (z_t_upper : Int64) (z_t_lower : Int64) (z_t_isLong : Int32) (hf : fX3_times p1 p2 t_upper t_lower t_isLong = some (z_t_upper, z_t_lower, z_t_isLong)) : Met l yX3_times wsX3_times { frames := 2, cells := 0, slots := 0, locals := 51 } (cP D (tyL cI cJ cB cZ cG cS) [.ref a_t, .long p1, .long p2] sz [(a_t, .inr (3, [.long t_upper, .long t_lower, .int t_isLong]))]) (cQv D (va_A [(a_t, .inr (3, [.long t_upper, .long t_lower, .int t_isLong]))] sz) [(a_t, .inr (3, [.long z_t_upper, .long z_t_lower, .int z_t_isLong]))]) 0 0 (va_A [(a_t, .inr (3, [.long t_upper, .long t_lower, .int t_isLong]))] sz) := by
  refine cM (Qc := fun A => cQv D A [(a_t, .inr (3, [.long z_t_upper, .long z_t_lower, .int z_t_isLong]))]) RX3 (by decide) rfl rfl (Nat.le_of_ble_eq_true rfl) ?_
  intro p e s m below meth c A ls hx hb hr hlk hml hown hts hK hN hP hD hS hA hl
  have X : Cx D (tyL cI cJ cB cZ cG cS) cX3_times 5 none RX3 wsX3_times [.ref a_t, .long p1, .long p2] p s m meth c A := ⟨hx, hb, hr, hlk, hml, hown, hts, hK, hN, hA⟩
  have hl : lv_has ls 5 [(0, .ref a_t), (1, .long p1), (3, .long p2)] := hl
  unfold fX3_times at hf
  refine lv_aload_n hx hb dX3_times_0 rfl (lv_at hl 0 rfl) ?_
  refine lv_aload_n hx hb dX3_times_1 rfl (lv_at hl 0 rfl) ?_
  refine va_get (D := D) (ci := 3) (v := .long t_upper) (C := RX3) (T := TX3) (N := 3) hx hb hts inX3_times_X3 hown hK hP 0 rfl rfl 0 (by decide) (hts (.fieldLink RX3 29 "RowPivots$Ratio" "upper" "J") (List.mem_of_getElem? (i := 1) rfl)) (fun _ h9 => h9) rfl dX3_times_2 ?_
  refine lv_lload_n hx hb dX3_times_5 rfl (lv_at hl 1 rfl) ?_
  refine lv_lmul hx hb dX3_times_6 ?_
  refine lv_aload_n hx hb dX3_times_7 rfl (lv_at hl 0 rfl) ?_
  refine va_get (D := D) (ci := 3) (v := .long t_lower) (C := RX3) (T := TX3) (N := 3) hx hb hts inX3_times_X3 hown hK hP 0 rfl rfl 1 (by decide) (hts (.fieldLink RX3 9 "RowPivots$Ratio" "lower" "J") (List.mem_of_getElem? (i := 2) rfl)) (fun _ h9 => h9) rfl dX3_times_8 ?_
  refine lv_lload_n hx hb dX3_times_11 rfl (lv_at hl 2 rfl) ?_
  refine lv_lmul hx hb dX3_times_12 ?_
  obtain ⟨u_1, hcu_1, hf⟩ := bdS hf
  refine kVv (As := [.long (t_upper * p1), .long (t_lower * p2)]) (rest := []) (w2 := [(a_t, .inr (3, [.long u_1.1, .long u_1.2.1, .int u_1.2.2]))]) (wr := []) (ci := 3) (q0 := 0) ⟨hx, hb, hml, hown, hts⟩ (MX3_settle l D cI cJ cB cZ cG cS _ a_t (t_upper * p1) (t_lower * p2) t_upper t_lower t_isLong u_1.1 u_1.2.1 u_1.2.2 hcu_1) (cwV 2 hts gX3_times_X3_settle rfl rfl rfl (by decide +kernel) ⟨Nat.le_of_ble_eq_true rfl, Nat.le_of_ble_eq_true rfl⟩) hK hN hP hD hS hA [0] [] [0] rfl (by decide) rfl (by decide) (by decide) rfl (by decide) rfl rfl rfl hl.1 rfl (Nat.le_of_ble_eq_true rfl) dX3_times_13 ⟨Nat.zero_le _, Nat.zero_le _⟩ (fun H locs hP hD hS => ?_)
  have hf : (some (u_1.1, u_1.2.1, u_1.2.2) : Option (Int64 × Int64 × Int32)) = some (z_t_upper, z_t_lower, z_t_isLong) := hf
  cases hf
  exact cRv hx hb hr hlk hP hD hS dX3_times_16
theorem inX0_refuseLong_X0 : ∀ w ∈ wsX00, w ∈ wsX0_refuseLong := fun _ h => List.mem_cons_of_mem _ (List.mem_append_right _ h)
def fX0_refuseLong (p1 : Int32) (p2 : Int32) : Option (Int32 × Int32 × Int32) :=
  some (3, p1, p2)
set_option maxHeartbeats 4000000 in
set_option maxRecDepth 100000 in
theorem MX0_refuseLong (l : Launch) (D : va_G) (cI cJ cB cZ cG cS : ClassId) (sz : Nat) (a_t : Nat) (a_t_next : Nat) (a_t_value : Nat) (p1 : Int32) (p2 : Int32) (t_longRow : Int32) (t_longColumn : Int32) (z_r : Int32) (z_t_longRow : Int32) (z_t_longColumn : Int32) (hf : fX0_refuseLong p1 p2 = some (z_r, z_t_longRow, z_t_longColumn)) : Met l yX0_refuseLong wsX0_refuseLong { frames := 0, cells := 0, slots := 0, locals := 0 } (cP D (tyL cI cJ cB cZ cG cS) [.ref a_t, .int p1, .int p2] sz [(a_t, .inr (0, [.ref a_t_next, .int t_longRow, .int t_longColumn, .ref a_t_value]))]) (cQi D (va_A [(a_t, .inr (0, [.ref a_t_next, .int t_longRow, .int t_longColumn, .ref a_t_value]))] sz) z_r [(a_t, .inr (0, [.ref a_t_next, .int z_t_longRow, .int z_t_longColumn, .ref a_t_value]))]) 0 0 (va_A [(a_t, .inr (0, [.ref a_t_next, .int t_longRow, .int t_longColumn, .ref a_t_value]))] sz) := by
  refine cM (Qc := fun A => cQi D A z_r [(a_t, .inr (0, [.ref a_t_next, .int z_t_longRow, .int z_t_longColumn, .ref a_t_value]))]) RX0 (by decide) rfl rfl (Nat.le_of_ble_eq_true rfl) ?_
  intro p e s m below meth c A ls hx hb hr hlk hml hown hts hK hN hP hD hS hA hl
  have X : Cx D (tyL cI cJ cB cZ cG cS) cX0_refuseLong 3 (some .int) RX0 wsX0_refuseLong [.ref a_t, .int p1, .int p2] p s m meth c A := ⟨hx, hb, hr, hlk, hml, hown, hts, hK, hN, hA⟩
  have hl : lv_has ls 3 [(0, .ref a_t), (1, .int p1), (2, .int p2)] := hl
  unfold fX0_refuseLong at hf
  refine lv_aload_n hx hb dX0_refuseLong_0 rfl (lv_at hl 0 rfl) ?_
  refine lv_iload_n hx hb dX0_refuseLong_1 rfl (lv_at hl 1 rfl) ?_
  refine va_put (D := D) (ci := 0) (v := .int p1) (ty := .int) (C := RX0) (T := TX0) (N := 4) hx hb hts inX0_refuseLong_X0 tyX0 tyX0_ok nmX0 hown hK hP hD hS 0 rfl rfl 1 (by decide) (hts (.fieldLink RX0 104 "RowPivots$Acts" "longRow" "I") (List.mem_of_getElem? (i := 1) rfl)) (fun _ h9 => h9) rfl (by decide +kernel) rfl rfl (Nat.le_of_ble_eq_true rfl) dX0_refuseLong_2 (fun H locs hP hD hS => ?_)
  have hP : va_P D vwCl [(a_t, .inr (0, [.ref a_t_next, .int p1, .int t_longColumn, .ref a_t_value]))] H := hP
  have hD : va_D A [(a_t, .inr (0, [.ref a_t_next, .int p1, .int t_longColumn, .ref a_t_value]))] := hD
  refine lv_aload_n hx hb dX0_refuseLong_5 rfl (lv_at hl 0 rfl) ?_
  refine lv_iload_n hx hb dX0_refuseLong_6 rfl (lv_at hl 2 rfl) ?_
  refine va_put (D := D) (ci := 0) (v := .int p2) (ty := .int) (C := RX0) (T := TX0) (N := 4) hx hb hts inX0_refuseLong_X0 tyX0 tyX0_ok nmX0 hown hK hP hD hS 0 rfl rfl 2 (by decide) (hts (.fieldLink RX0 107 "RowPivots$Acts" "longColumn" "I") (List.mem_of_getElem? (i := 2) rfl)) (fun _ h9 => h9) rfl (by decide +kernel) rfl rfl (Nat.le_of_ble_eq_true rfl) dX0_refuseLong_7 (fun H locs hP hD hS => ?_)
  have hP : va_P D vwCl [(a_t, .inr (0, [.ref a_t_next, .int p1, .int p2, .ref a_t_value]))] H := hP
  have hD : va_D A [(a_t, .inr (0, [.ref a_t_next, .int p1, .int p2, .ref a_t_value]))] := hD
  refine lv_iconst (v := 3) hx hb dX0_refuseLong_10 (by decide) ?_
  have hf : (some (3, p1, p2) : Option (Int32 × Int32 × Int32)) = some (z_r, z_t_longRow, z_t_longColumn) := hf
  cases hf
  exact cRi hx hb hr hlk hP hD hS rfl dX0_refuseLong_11
theorem inX0_stretch_X0 : ∀ w ∈ wsX00, w ∈ wsX0_stretch := fun _ h => List.mem_cons_of_mem _ (List.mem_append_left _ (List.mem_append_left _ (List.mem_append_right _ h)))
theorem inX0_stretch_X1 : ∀ w ∈ wsX10, w ∈ wsX0_stretch := fun _ h => List.mem_cons_of_mem _ (List.mem_append_left _ (List.mem_append_right _ h))
theorem inX0_stretch_X3 : ∀ w ∈ wsX30, w ∈ wsX0_stretch := fun _ h => List.mem_cons_of_mem _ (List.mem_append_right _ h)
def fX0_stretch_92 (p2 : Int32) (v5_92 : Int32) (t_next_rows_92 : Int32) (t_next_columns_92 : Int32) (t_next_lower_92 : Nat → Int32) (t_next_upper_92 : Nat → Int32) (t_value_upper_92 : Int64) (t_value_lower_92 : Int64) (t_value_isLong_92 : Int32) : Option (Int32 × Int32 × Int32 × Int32 × Int32 × (Nat → Int32) × (Nat → Int32) × Int64 × Int64 × Int32) :=
  (fX0_refuseLong p2 v5_92).bind fun u_8 => some (u_8.1, u_8.2.1, u_8.2.2, t_next_rows_92, t_next_columns_92, t_next_lower_92, t_next_upper_92, t_value_upper_92, t_value_lower_92, t_value_isLong_92)
def fX0_stretch_50 (p2 : Int32) (p3 : Int32) (p4 : Int32) (t_longRow : Int32) (t_longColumn : Int32) (p1_columns : Int32) (p1_lower : Nat → Int32) (p1_upper : Nat → Int32) (t_next_rows_50 : Int32) (t_next_columns_50 : Int32) : Nat → Int32 → (Nat → Int32) → (Nat → Int32) → Int64 → Int64 → Int32 → Option (Int32 × Int32 × Int32 × Int32 × Int32 × (Nat → Int32) × (Nat → Int32) × Int64 × Int64 × Int32)
  | 0, _, _, _, _, _, _ => none
  | n + 1, v5_50, t_next_lower_50, t_next_upper_50, t_value_upper_50, t_value_lower_50, t_value_isLong_50 => if p1_columns < v5_50 then (some (0, t_longRow, t_longColumn, t_next_rows_50, t_next_columns_50, t_next_lower_50, t_next_upper_50, t_value_upper_50, t_value_lower_50, t_value_isLong_50)) else ((fX3_load p2 v5_50 p1_lower p1_upper).bind fun u_5 => (fX3_times (p3.toInt64) (p4.toInt64) u_5.1 u_5.2.1 u_5.2.2).bind fun u_6 => if u_6.2.2 = 0 then ((fX1_put p2 v5_50 t_next_lower_50 t_next_upper_50 u_6.1 u_6.2.1).bind fun u_7 => (fX0_stretch_50 p2 p3 p4 t_longRow t_longColumn p1_columns p1_lower p1_upper t_next_rows_50 t_next_columns_50 n) (v5_50 + 1) u_7.1 u_7.2 u_6.1 u_6.2.1 u_6.2.2) else (fX0_stretch_92 p2 v5_50 t_next_rows_50 t_next_columns_50 t_next_lower_50 t_next_upper_50 u_6.1 u_6.2.1 u_6.2.2))
theorem fX0_stretch_50_s (p2 : Int32) (p3 : Int32) (p4 : Int32) (t_longRow : Int32) (t_longColumn : Int32) (p1_columns : Int32) (p1_lower : Nat → Int32) (p1_upper : Nat → Int32) (t_next_rows_50 : Int32) (t_next_columns_50 : Int32) (n : Nat) (v5_50 : Int32) (t_next_lower_50 : Nat → Int32) (t_next_upper_50 : Nat → Int32) (t_value_upper_50 : Int64) (t_value_lower_50 : Int64) (t_value_isLong_50 : Int32) : fX0_stretch_50 p2 p3 p4 t_longRow t_longColumn p1_columns p1_lower p1_upper t_next_rows_50 t_next_columns_50 (n + 1) v5_50 t_next_lower_50 t_next_upper_50 t_value_upper_50 t_value_lower_50 t_value_isLong_50 = (if p1_columns < v5_50 then (some (0, t_longRow, t_longColumn, t_next_rows_50, t_next_columns_50, t_next_lower_50, t_next_upper_50, t_value_upper_50, t_value_lower_50, t_value_isLong_50)) else ((fX3_load p2 v5_50 p1_lower p1_upper).bind fun u_5 => (fX3_times (p3.toInt64) (p4.toInt64) u_5.1 u_5.2.1 u_5.2.2).bind fun u_6 => if u_6.2.2 = 0 then ((fX1_put p2 v5_50 t_next_lower_50 t_next_upper_50 u_6.1 u_6.2.1).bind fun u_7 => (fX0_stretch_50 p2 p3 p4 t_longRow t_longColumn p1_columns p1_lower p1_upper t_next_rows_50 t_next_columns_50 n) (v5_50 + 1) u_7.1 u_7.2 u_6.1 u_6.2.1 u_6.2.2) else (fX0_stretch_92 p2 v5_50 t_next_rows_50 t_next_columns_50 t_next_lower_50 t_next_upper_50 u_6.1 u_6.2.1 u_6.2.2))) := rfl
def fX0_stretch (p2 : Int32) (p3 : Int32) (p4 : Int32) (t_longRow : Int32) (t_longColumn : Int32) (t_next_rows : Int32) (t_next_columns : Int32) (t_next_lower : Nat → Int32) (t_next_upper : Nat → Int32) (t_value_upper : Int64) (t_value_lower : Int64) (t_value_isLong : Int32) (p1_rows : Int32) (p1_columns : Int32) (p1_lower : Nat → Int32) (p1_upper : Nat → Int32) : Option (Int32 × Int32 × Int32 × Int32 × Int32 × (Nat → Int32) × (Nat → Int32) × Int64 × Int64 × Int32) :=
  (fX1_hasRow p2 p1_rows).bind fun u_1 => if u_1 = 0 then (some (1, t_longRow, t_longColumn, t_next_rows, t_next_columns, t_next_lower, t_next_upper, t_value_upper, t_value_lower, t_value_isLong)) else ((fX10_isTold p3 p4).bind fun u_2 => if u_2 = 0 then (some (1, t_longRow, t_longColumn, t_next_rows, t_next_columns, t_next_lower, t_next_upper, t_value_upper, t_value_lower, t_value_isLong)) else (if p3 = 0 then (some (2, t_longRow, t_longColumn, t_next_rows, t_next_columns, t_next_lower, t_next_upper, t_value_upper, t_value_lower, t_value_isLong)) else (if p3 = p4 then (some (2, t_longRow, t_longColumn, t_next_rows, t_next_columns, t_next_lower, t_next_upper, t_value_upper, t_value_lower, t_value_isLong)) else ((fX1_rowBits p2 p1_columns p1_upper).bind fun u_3 => if u_3 = 0 then (some (2, t_longRow, t_longColumn, t_next_rows, t_next_columns, t_next_lower, t_next_upper, t_value_upper, t_value_lower, t_value_isLong)) else ((fX1_copy t_next_lower t_next_upper p1_rows p1_columns p1_lower p1_upper).bind fun u_4 => fX0_stretch_50 p2 p3 p4 t_longRow t_longColumn p1_columns p1_lower p1_upper u_4.1 u_4.2.1 fuelN 0 u_4.2.2.1 u_4.2.2.2 t_value_upper t_value_lower t_value_isLong)))))
set_option maxHeartbeats 4000000 in
set_option maxRecDepth 100000 in
theorem wX0_stretch_92 {l : Launch} {D : va_G} {cI cJ cB cZ cG cS : ClassId} {p : Program} {e : Env} {s : State} {m : MethodId} {below : List Frame} {meth : Method} {c : Code} {A : Nat → Prop} (a_t : Nat) (a_p1 : Nat) (a_t_next : Nat) (a_t_value : Nat) (a_t_next_upper : Nat) (a_t_next_lower : Nat) (a_t_next_sum : Nat) (a_p1_upper : Nat) (a_p1_lower : Nat) (a_p1_sum : Nat) (z_r : Int32) (z_t_longRow : Int32) (z_t_longColumn : Int32) (z_t_next_rows : Int32) (z_t_next_columns : Int32) (z_t_next_lower : Nat → Int32) (z_t_next_upper : Nat → Int32) (z_t_value_upper : Int64) (z_t_value_lower : Int64) (z_t_value_isLong : Int32) (p2 : Int32) (p3 : Int32) (p4 : Int32) (t_longRow : Int32) (t_longColumn : Int32) (t_next_rows : Int32) (t_next_columns : Int32) (t_next_lower : Nat → Int32) (t_next_upper : Nat → Int32) (t_value_upper : Int64) (t_value_lower : Int64) (t_value_isLong : Int32) (p1_rows : Int32) (p1_columns : Int32) (p1_lower : Nat → Int32) (p1_upper : Nat → Int32) (v5_92 : Int32) (t_next_rows_92 : Int32) (t_next_columns_92 : Int32) (t_next_lower_92 : Nat → Int32) (t_next_upper_92 : Nat → Int32) (t_value_upper_92 : Int64) (t_value_lower_92 : Int64) (t_value_isLong_92 : Int32)  (X : Cx D (tyL cI cJ cB cZ cG cS) cX0_stretch 6 (some .int) RX0 wsX0_stretch [.ref a_t, .ref a_p1, .int p2, .int p3, .int p4] p s m meth c A) : ∀ (H : Heap) (locs : List Loc) (ls : Array Slot), fX0_stretch_92 p2 v5_92 t_next_rows_92 t_next_columns_92 t_next_lower_92 t_next_upper_92 t_value_upper_92 t_value_lower_92 t_value_isLong_92 = some (z_r, z_t_longRow, z_t_longColumn, z_t_next_rows, z_t_next_columns, z_t_next_lower, z_t_next_upper, z_t_value_upper, z_t_value_lower, z_t_value_isLong) → va_P D vwCl [(a_t, .inr (0, [.ref a_t_next, .int t_longRow, .int t_longColumn, .ref a_t_value])), (a_t_next, .inr (1, [.int t_next_rows_92, .int t_next_columns_92, .ref a_t_next_upper, .ref a_t_next_lower, .ref a_t_next_sum])), (a_t_next_lower, .inl (cI, 42, .inl t_next_lower_92)), (a_t_next_upper, .inl (cI, 42, .inl t_next_upper_92)), (a_t_value, .inr (3, [.long t_value_upper_92, .long t_value_lower_92, .int t_value_isLong_92])), (a_p1, .inr (1, [.int p1_rows, .int p1_columns, .ref a_p1_upper, .ref a_p1_lower, .ref a_p1_sum])), (a_p1_lower, .inl (cI, 42, .inl p1_lower)), (a_p1_upper, .inl (cI, 42, .inl p1_upper))] H → va_D A [(a_t, .inr (0, [.ref a_t_next, .int t_longRow, .int t_longColumn, .ref a_t_value])), (a_t_next, .inr (1, [.int t_next_rows_92, .int t_next_columns_92, .ref a_t_next_upper, .ref a_t_next_lower, .ref a_t_next_sum])), (a_t_next_lower, .inl (cI, 42, .inl t_next_lower_92)), (a_t_next_upper, .inl (cI, 42, .inl t_next_upper_92)), (a_t_value, .inr (3, [.long t_value_upper_92, .long t_value_lower_92, .int t_value_isLong_92])), (a_p1, .inr (1, [.int p1_rows, .int p1_columns, .ref a_p1_upper, .ref a_p1_lower, .ref a_p1_sum])), (a_p1_lower, .inl (cI, 42, .inl p1_lower)), (a_p1_upper, .inl (cI, 42, .inl p1_upper))] → va_S A s.heap H locs → lv_has ls 6 [(0, .ref a_t), (2, .int p2), (5, .int v5_92)] → W p l e { frames := 3, cells := 0, slots := 0, locals := 85 } s m ([.ref a_t, .ref a_p1, .int p2, .int p3, .int p4] : List Value).toArray below meth c H locs 0 0 (MQ below (cQi D A z_r [(a_t, .inr (0, [.ref a_t_next, .int z_t_longRow, .int z_t_longColumn, .ref a_t_value])), (a_t_next, .inr (1, [.int z_t_next_rows, .int z_t_next_columns, .ref a_t_next_upper, .ref a_t_next_lower, .ref a_t_next_sum])), (a_t_next_lower, .inl (cI, 42, .inl z_t_next_lower)), (a_t_next_upper, .inl (cI, 42, .inl z_t_next_upper)), (a_t_value, .inr (3, [.long z_t_value_upper, .long z_t_value_lower, .int z_t_value_isLong])), (a_p1, .inr (1, [.int p1_rows, .int p1_columns, .ref a_p1_upper, .ref a_p1_lower, .ref a_p1_sum])), (a_p1_lower, .inl (cI, 42, .inl p1_lower)), (a_p1_upper, .inl (cI, 42, .inl p1_upper))]) ([.ref a_t, .ref a_p1, .int p2, .int p3, .int p4] : List Value).toArray s 0 0 A) (F0 m 92 ls []) := by
  obtain ⟨hx, hb, hr, hlk, hml, hown, hts, hK, hN, hA⟩ := id X
  intro H locs ls hf hP hD hS hl
  unfold fX0_stretch_92 at hf
  refine lv_aload_n hx hb dX0_stretch_92 rfl (lv_at hl 0 rfl) ?_
  refine lv_iload_n hx hb dX0_stretch_93 rfl (lv_at hl 1 rfl) ?_
  refine lv_iload hx hb dX0_stretch_94 (lv_at hl 2 rfl) ?_
  obtain ⟨u_8, hcu_8, hf⟩ := bdS hf
  refine kVi (As := [.int p2, .int v5_92]) (rest := []) (w2 := [(a_t, .inr (0, [.ref a_t_next, .int u_8.2.1, .int u_8.2.2, .ref a_t_value])), (a_t_next, .inr (1, [.int t_next_rows_92, .int t_next_columns_92, .ref a_t_next_upper, .ref a_t_next_lower, .ref a_t_next_sum])), (a_t_next_lower, .inl (cI, 42, .inl t_next_lower_92)), (a_t_next_upper, .inl (cI, 42, .inl t_next_upper_92)), (a_t_value, .inr (3, [.long t_value_upper_92, .long t_value_lower_92, .int t_value_isLong_92])), (a_p1, .inr (1, [.int p1_rows, .int p1_columns, .ref a_p1_upper, .ref a_p1_lower, .ref a_p1_sum])), (a_p1_lower, .inl (cI, 42, .inl p1_lower)), (a_p1_upper, .inl (cI, 42, .inl p1_upper))]) (wr := [(a_t_next, .inr (1, [.int t_next_rows_92, .int t_next_columns_92, .ref a_t_next_upper, .ref a_t_next_lower, .ref a_t_next_sum])), (a_t_next_lower, .inl (cI, 42, .inl t_next_lower_92)), (a_t_next_upper, .inl (cI, 42, .inl t_next_upper_92)), (a_t_value, .inr (3, [.long t_value_upper_92, .long t_value_lower_92, .int t_value_isLong_92])), (a_p1, .inr (1, [.int p1_rows, .int p1_columns, .ref a_p1_upper, .ref a_p1_lower, .ref a_p1_sum])), (a_p1_lower, .inl (cI, 42, .inl p1_lower)), (a_p1_upper, .inl (cI, 42, .inl p1_upper))]) (ci := 0) (q0 := 0) ⟨hx, hb, hml, hown, hts⟩ (MX0_refuseLong l D cI cJ cB cZ cG cS _ a_t a_t_next a_t_value p2 v5_92 t_longRow t_longColumn u_8.1 u_8.2.1 u_8.2.2 hcu_8) (cwV 2 hts gX0_stretch_X0_refuseLong rfl rfl rfl (by decide +kernel) ⟨Nat.le_of_ble_eq_true rfl, Nat.le_of_ble_eq_true rfl⟩) hK hN hP hD hS hA [0] [1, 2, 3, 4, 5, 6, 7] [7, 0, 1, 2, 3, 4, 5, 6] rfl (by decide) rfl (by decide) (by decide) rfl (by decide) rfl rfl rfl hl.1 rfl (Nat.le_of_ble_eq_true rfl) dX0_stretch_96 ⟨Nat.zero_le _, Nat.zero_le _⟩ (fun H locs hP hD hS => ?_)
  have hf : (some (u_8.1, u_8.2.1, u_8.2.2, t_next_rows_92, t_next_columns_92, t_next_lower_92, t_next_upper_92, t_value_upper_92, t_value_lower_92, t_value_isLong_92) : Option (Int32 × Int32 × Int32 × Int32 × Int32 × (Nat → Int32) × (Nat → Int32) × Int64 × Int64 × Int32)) = some (z_r, z_t_longRow, z_t_longColumn, z_t_next_rows, z_t_next_columns, z_t_next_lower, z_t_next_upper, z_t_value_upper, z_t_value_lower, z_t_value_isLong) := hf
  cases hf
  exact cRi hx hb hr hlk hP hD hS rfl dX0_stretch_99
set_option maxHeartbeats 4000000 in
set_option maxRecDepth 100000 in
theorem wX0_stretch_50 {l : Launch} {D : va_G} {cI cJ cB cZ cG cS : ClassId} {p : Program} {e : Env} {s : State} {m : MethodId} {below : List Frame} {meth : Method} {c : Code} {A : Nat → Prop} (a_t : Nat) (a_p1 : Nat) (a_t_next : Nat) (a_t_value : Nat) (a_t_next_upper : Nat) (a_t_next_lower : Nat) (a_t_next_sum : Nat) (a_p1_upper : Nat) (a_p1_lower : Nat) (a_p1_sum : Nat) (z_r : Int32) (z_t_longRow : Int32) (z_t_longColumn : Int32) (z_t_next_rows : Int32) (z_t_next_columns : Int32) (z_t_next_lower : Nat → Int32) (z_t_next_upper : Nat → Int32) (z_t_value_upper : Int64) (z_t_value_lower : Int64) (z_t_value_isLong : Int32) (p2 : Int32) (p3 : Int32) (p4 : Int32) (t_longRow : Int32) (t_longColumn : Int32) (t_next_rows : Int32) (t_next_columns : Int32) (t_next_lower : Nat → Int32) (t_next_upper : Nat → Int32) (t_value_upper : Int64) (t_value_lower : Int64) (t_value_isLong : Int32) (p1_rows : Int32) (p1_columns : Int32) (p1_lower : Nat → Int32) (p1_upper : Nat → Int32) (t_next_rows_50 : Int32) (t_next_columns_50 : Int32)  (X : Cx D (tyL cI cJ cB cZ cG cS) cX0_stretch 6 (some .int) RX0 wsX0_stretch [.ref a_t, .ref a_p1, .int p2, .int p3, .int p4] p s m meth c A) : ∀ (n : Nat) (v5_50 : Int32) (t_next_lower_50 : Nat → Int32) (t_next_upper_50 : Nat → Int32) (t_value_upper_50 : Int64) (t_value_lower_50 : Int64) (t_value_isLong_50 : Int32) (H : Heap) (locs : List Loc) (ls : Array Slot), fX0_stretch_50 p2 p3 p4 t_longRow t_longColumn p1_columns p1_lower p1_upper t_next_rows_50 t_next_columns_50 n v5_50 t_next_lower_50 t_next_upper_50 t_value_upper_50 t_value_lower_50 t_value_isLong_50 = some (z_r, z_t_longRow, z_t_longColumn, z_t_next_rows, z_t_next_columns, z_t_next_lower, z_t_next_upper, z_t_value_upper, z_t_value_lower, z_t_value_isLong) → va_P D vwCl [(a_t, .inr (0, [.ref a_t_next, .int t_longRow, .int t_longColumn, .ref a_t_value])), (a_t_next, .inr (1, [.int t_next_rows_50, .int t_next_columns_50, .ref a_t_next_upper, .ref a_t_next_lower, .ref a_t_next_sum])), (a_t_next_lower, .inl (cI, 42, .inl t_next_lower_50)), (a_t_next_upper, .inl (cI, 42, .inl t_next_upper_50)), (a_t_value, .inr (3, [.long t_value_upper_50, .long t_value_lower_50, .int t_value_isLong_50])), (a_p1, .inr (1, [.int p1_rows, .int p1_columns, .ref a_p1_upper, .ref a_p1_lower, .ref a_p1_sum])), (a_p1_lower, .inl (cI, 42, .inl p1_lower)), (a_p1_upper, .inl (cI, 42, .inl p1_upper))] H → va_D A [(a_t, .inr (0, [.ref a_t_next, .int t_longRow, .int t_longColumn, .ref a_t_value])), (a_t_next, .inr (1, [.int t_next_rows_50, .int t_next_columns_50, .ref a_t_next_upper, .ref a_t_next_lower, .ref a_t_next_sum])), (a_t_next_lower, .inl (cI, 42, .inl t_next_lower_50)), (a_t_next_upper, .inl (cI, 42, .inl t_next_upper_50)), (a_t_value, .inr (3, [.long t_value_upper_50, .long t_value_lower_50, .int t_value_isLong_50])), (a_p1, .inr (1, [.int p1_rows, .int p1_columns, .ref a_p1_upper, .ref a_p1_lower, .ref a_p1_sum])), (a_p1_lower, .inl (cI, 42, .inl p1_lower)), (a_p1_upper, .inl (cI, 42, .inl p1_upper))] → va_S A s.heap H locs → lv_has ls 6 [(0, .ref a_t), (1, .ref a_p1), (2, .int p2), (3, .int p3), (4, .int p4), (5, .int v5_50)] → W p l e { frames := 3, cells := 0, slots := 0, locals := 85 } s m ([.ref a_t, .ref a_p1, .int p2, .int p3, .int p4] : List Value).toArray below meth c H locs 0 0 (MQ below (cQi D A z_r [(a_t, .inr (0, [.ref a_t_next, .int z_t_longRow, .int z_t_longColumn, .ref a_t_value])), (a_t_next, .inr (1, [.int z_t_next_rows, .int z_t_next_columns, .ref a_t_next_upper, .ref a_t_next_lower, .ref a_t_next_sum])), (a_t_next_lower, .inl (cI, 42, .inl z_t_next_lower)), (a_t_next_upper, .inl (cI, 42, .inl z_t_next_upper)), (a_t_value, .inr (3, [.long z_t_value_upper, .long z_t_value_lower, .int z_t_value_isLong])), (a_p1, .inr (1, [.int p1_rows, .int p1_columns, .ref a_p1_upper, .ref a_p1_lower, .ref a_p1_sum])), (a_p1_lower, .inl (cI, 42, .inl p1_lower)), (a_p1_upper, .inl (cI, 42, .inl p1_upper))]) ([.ref a_t, .ref a_p1, .int p2, .int p3, .int p4] : List Value).toArray s 0 0 A) (F0 m 50 ls []) := by
  obtain ⟨hx, hb, hr, hlk, hml, hown, hts, hK, hN, hA⟩ := id X
  intro n
  induction n with
  | zero =>
    intro v5_50 t_next_lower_50 t_next_upper_50 t_value_upper_50 t_value_lower_50 t_value_isLong_50 H locs ls hf
    have hf : (none : Option (Int32 × Int32 × Int32 × Int32 × Int32 × (Nat → Int32) × (Nat → Int32) × Int64 × Int64 × Int32)) = some (z_r, z_t_longRow, z_t_longColumn, z_t_next_rows, z_t_next_columns, z_t_next_lower, z_t_next_upper, z_t_value_upper, z_t_value_lower, z_t_value_isLong) := hf
    cases hf
  | succ n ih =>
    intro v5_50 t_next_lower_50 t_next_upper_50 t_value_upper_50 t_value_lower_50 t_value_isLong_50 H locs ls hf hP hD hS hl
    rw [fX0_stretch_50_s] at hf
    refine lv_iload hx hb dX0_stretch_50 (lv_at hl 5 rfl) ?_
    refine lv_aload_n hx hb dX0_stretch_52 rfl (lv_at hl 1 rfl) ?_
    refine va_get (D := D) (ci := 1) (v := .int p1_columns) (C := RX1) (T := TX1) (N := 5) hx hb hts inX0_stretch_X1 hown hK hP 5 rfl rfl 1 (by decide) (hts (.fieldLink RX0 52 "RowPivots$Grid" "columns" "I") (List.mem_of_getElem? (i := 2) rfl)) (fun _ h9 => h9) rfl dX0_stretch_53 ?_
    refine lv_icmp_gt (tgt := 120) hx hb dX0_stretch_56 (by decide) (fun hc_56 => ?_) (fun hc_56 => ?_)
    · have hf := ifP hc_56 hf
      refine lv_iconst (v := 0) hx hb dX0_stretch_120 (by decide) ?_
      have hf : (some (0, t_longRow, t_longColumn, t_next_rows_50, t_next_columns_50, t_next_lower_50, t_next_upper_50, t_value_upper_50, t_value_lower_50, t_value_isLong_50) : Option (Int32 × Int32 × Int32 × Int32 × Int32 × (Nat → Int32) × (Nat → Int32) × Int64 × Int64 × Int32)) = some (z_r, z_t_longRow, z_t_longColumn, z_t_next_rows, z_t_next_columns, z_t_next_lower, z_t_next_upper, z_t_value_upper, z_t_value_lower, z_t_value_isLong) := hf
      cases hf
      exact cRi hx hb hr hlk hP hD hS rfl dX0_stretch_121
    · have hf := ifN hc_56 hf
      refine lv_aload_n hx hb dX0_stretch_59 rfl (lv_at hl 0 rfl) ?_
      refine va_get (D := D) (ci := 0) (v := .ref a_t_value) (C := RX0) (T := TX0) (N := 4) hx hb hts inX0_stretch_X0 hown hK hP 0 rfl rfl 3 (by decide) (hts (.fieldLink RX0 21 "RowPivots$Acts" "value" "LRowPivots$Ratio;") (List.mem_of_getElem? (i := 3) rfl)) (fun _ h9 => h9) rfl dX0_stretch_60 ?_
      refine lv_aload_n hx hb dX0_stretch_63 rfl (lv_at hl 1 rfl) ?_
      refine lv_iload_n hx hb dX0_stretch_64 rfl (lv_at hl 2 rfl) ?_
      refine lv_iload hx hb dX0_stretch_65 (lv_at hl 5 rfl) ?_
      obtain ⟨u_5, hcu_5, hf⟩ := bdS hf
      refine kVv (As := [.ref a_p1, .int p2, .int v5_50]) (rest := []) (w2 := [(a_t, .inr (0, [.ref a_t_next, .int t_longRow, .int t_longColumn, .ref a_t_value])), (a_t_next, .inr (1, [.int t_next_rows_50, .int t_next_columns_50, .ref a_t_next_upper, .ref a_t_next_lower, .ref a_t_next_sum])), (a_t_next_lower, .inl (cI, 42, .inl t_next_lower_50)), (a_t_next_upper, .inl (cI, 42, .inl t_next_upper_50)), (a_t_value, .inr (3, [.long u_5.1, .long u_5.2.1, .int u_5.2.2])), (a_p1, .inr (1, [.int p1_rows, .int p1_columns, .ref a_p1_upper, .ref a_p1_lower, .ref a_p1_sum])), (a_p1_lower, .inl (cI, 42, .inl p1_lower)), (a_p1_upper, .inl (cI, 42, .inl p1_upper))]) (wr := [(a_t, .inr (0, [.ref a_t_next, .int t_longRow, .int t_longColumn, .ref a_t_value])), (a_t_next, .inr (1, [.int t_next_rows_50, .int t_next_columns_50, .ref a_t_next_upper, .ref a_t_next_lower, .ref a_t_next_sum])), (a_t_next_lower, .inl (cI, 42, .inl t_next_lower_50)), (a_t_next_upper, .inl (cI, 42, .inl t_next_upper_50))]) (ci := 3) (q0 := 0) ⟨hx, hb, hml, hown, hts⟩ (MX3_load l D cI cJ cB cZ cG cS _ a_t_value a_p1 a_p1_upper a_p1_lower a_p1_sum p2 v5_50 t_value_upper_50 t_value_lower_50 t_value_isLong_50 p1_rows p1_columns p1_lower p1_upper u_5.1 u_5.2.1 u_5.2.2 hcu_5) (cwV 3 hts gX0_stretch_X3_load rfl rfl rfl (by decide +kernel) ⟨Nat.le_of_ble_eq_true rfl, Nat.le_of_ble_eq_true rfl⟩) hK hN hP hD hS hA [4, 5, 6, 7] [0, 1, 2, 3] [0, 1, 2, 3, 4, 5, 6, 7] rfl (by decide) rfl (by decide) (by decide) rfl (by decide) rfl rfl rfl hl.1 rfl (Nat.le_of_ble_eq_true rfl) dX0_stretch_67 ⟨Nat.zero_le _, Nat.zero_le _⟩ (fun H locs hP hD hS => ?_)
      refine lv_aload_n hx hb dX0_stretch_70 rfl (lv_at hl 0 rfl) ?_
      refine va_get (D := D) (ci := 0) (v := .ref a_t_value) (C := RX0) (T := TX0) (N := 4) hx hb hts inX0_stretch_X0 hown hK hP 0 rfl rfl 3 (by decide) (hts (.fieldLink RX0 21 "RowPivots$Acts" "value" "LRowPivots$Ratio;") (List.mem_of_getElem? (i := 3) rfl)) (fun _ h9 => h9) rfl dX0_stretch_71 ?_
      refine lv_iload_n hx hb dX0_stretch_74 rfl (lv_at hl 3 rfl) ?_
      refine lv_i2l hx hb dX0_stretch_75 rfl ?_
      refine lv_iload hx hb dX0_stretch_76 (lv_at hl 4 rfl) ?_
      refine lv_i2l hx hb dX0_stretch_78 rfl ?_
      obtain ⟨u_6, hcu_6, hf⟩ := bdS hf
      refine kVv (As := [.long (p3.toInt64), .long (p4.toInt64)]) (rest := []) (w2 := [(a_t, .inr (0, [.ref a_t_next, .int t_longRow, .int t_longColumn, .ref a_t_value])), (a_t_next, .inr (1, [.int t_next_rows_50, .int t_next_columns_50, .ref a_t_next_upper, .ref a_t_next_lower, .ref a_t_next_sum])), (a_t_next_lower, .inl (cI, 42, .inl t_next_lower_50)), (a_t_next_upper, .inl (cI, 42, .inl t_next_upper_50)), (a_t_value, .inr (3, [.long u_6.1, .long u_6.2.1, .int u_6.2.2])), (a_p1, .inr (1, [.int p1_rows, .int p1_columns, .ref a_p1_upper, .ref a_p1_lower, .ref a_p1_sum])), (a_p1_lower, .inl (cI, 42, .inl p1_lower)), (a_p1_upper, .inl (cI, 42, .inl p1_upper))]) (wr := [(a_t, .inr (0, [.ref a_t_next, .int t_longRow, .int t_longColumn, .ref a_t_value])), (a_t_next, .inr (1, [.int t_next_rows_50, .int t_next_columns_50, .ref a_t_next_upper, .ref a_t_next_lower, .ref a_t_next_sum])), (a_t_next_lower, .inl (cI, 42, .inl t_next_lower_50)), (a_t_next_upper, .inl (cI, 42, .inl t_next_upper_50)), (a_p1, .inr (1, [.int p1_rows, .int p1_columns, .ref a_p1_upper, .ref a_p1_lower, .ref a_p1_sum])), (a_p1_lower, .inl (cI, 42, .inl p1_lower)), (a_p1_upper, .inl (cI, 42, .inl p1_upper))]) (ci := 3) (q0 := 0) ⟨hx, hb, hml, hown, hts⟩ (MX3_times l D cI cJ cB cZ cG cS _ a_t_value (p3.toInt64) (p4.toInt64) u_5.1 u_5.2.1 u_5.2.2 u_6.1 u_6.2.1 u_6.2.2 hcu_6) (cwV 2 hts gX0_stretch_X3_times rfl rfl rfl (by decide +kernel) ⟨Nat.le_of_ble_eq_true rfl, Nat.le_of_ble_eq_true rfl⟩) hK hN hP hD hS hA [4] [0, 1, 2, 3, 5, 6, 7] [0, 1, 2, 3, 7, 4, 5, 6] rfl (by decide) rfl (by decide) (by decide) rfl (by decide) rfl rfl rfl hl.1 rfl (Nat.le_of_ble_eq_true rfl) dX0_stretch_79 ⟨Nat.zero_le _, Nat.zero_le _⟩ (fun H locs hP hD hS => ?_)
      refine lv_aload_n hx hb dX0_stretch_82 rfl (lv_at hl 0 rfl) ?_
      refine va_get (D := D) (ci := 0) (v := .ref a_t_value) (C := RX0) (T := TX0) (N := 4) hx hb hts inX0_stretch_X0 hown hK hP 0 rfl rfl 3 (by decide) (hts (.fieldLink RX0 21 "RowPivots$Acts" "value" "LRowPivots$Ratio;") (List.mem_of_getElem? (i := 3) rfl)) (fun _ h9 => h9) rfl dX0_stretch_83 ?_
      refine va_get (D := D) (ci := 3) (v := .int u_6.2.2) (C := RX3) (T := TX3) (N := 3) hx hb hts inX0_stretch_X3 hown hK hP 4 rfl rfl 2 (by decide) (hts (.fieldLink RX0 71 "RowPivots$Ratio" "isLong" "Z") (List.mem_of_getElem? (i := 4) rfl)) (fun _ h9 => h9) rfl dX0_stretch_86 ?_
      refine lv_if_eq (tgt := 100) hx hb dX0_stretch_89 (by decide) (fun hc_89 => ?_) (fun hc_89 => ?_)
      · have hf := ifP hc_89 hf
        refine lv_aload_n hx hb dX0_stretch_100 rfl (lv_at hl 0 rfl) ?_
        refine va_get (D := D) (ci := 0) (v := .ref a_t_next) (C := RX0) (T := TX0) (N := 4) hx hb hts inX0_stretch_X0 hown hK hP 0 rfl rfl 0 (by decide) (hts (.fieldLink RX0 12 "RowPivots$Acts" "next" "LRowPivots$Grid;") (List.mem_of_getElem? (i := 1) rfl)) (fun _ h9 => h9) rfl dX0_stretch_101 ?_
        refine lv_iload_n hx hb dX0_stretch_104 rfl (lv_at hl 2 rfl) ?_
        refine lv_iload hx hb dX0_stretch_105 (lv_at hl 5 rfl) ?_
        refine lv_aload_n hx hb dX0_stretch_107 rfl (lv_at hl 0 rfl) ?_
        refine va_get (D := D) (ci := 0) (v := .ref a_t_value) (C := RX0) (T := TX0) (N := 4) hx hb hts inX0_stretch_X0 hown hK hP 0 rfl rfl 3 (by decide) (hts (.fieldLink RX0 21 "RowPivots$Acts" "value" "LRowPivots$Ratio;") (List.mem_of_getElem? (i := 3) rfl)) (fun _ h9 => h9) rfl dX0_stretch_108 ?_
        obtain ⟨u_7, hcu_7, hf⟩ := bdS hf
        refine kVv (As := [.int p2, .int v5_50, .ref a_t_value]) (rest := []) (w2 := [(a_t, .inr (0, [.ref a_t_next, .int t_longRow, .int t_longColumn, .ref a_t_value])), (a_t_next, .inr (1, [.int t_next_rows_50, .int t_next_columns_50, .ref a_t_next_upper, .ref a_t_next_lower, .ref a_t_next_sum])), (a_t_next_lower, .inl (cI, 42, .inl u_7.1)), (a_t_next_upper, .inl (cI, 42, .inl u_7.2)), (a_t_value, .inr (3, [.long u_6.1, .long u_6.2.1, .int u_6.2.2])), (a_p1, .inr (1, [.int p1_rows, .int p1_columns, .ref a_p1_upper, .ref a_p1_lower, .ref a_p1_sum])), (a_p1_lower, .inl (cI, 42, .inl p1_lower)), (a_p1_upper, .inl (cI, 42, .inl p1_upper))]) (wr := [(a_t, .inr (0, [.ref a_t_next, .int t_longRow, .int t_longColumn, .ref a_t_value])), (a_p1, .inr (1, [.int p1_rows, .int p1_columns, .ref a_p1_upper, .ref a_p1_lower, .ref a_p1_sum])), (a_p1_lower, .inl (cI, 42, .inl p1_lower)), (a_p1_upper, .inl (cI, 42, .inl p1_upper))]) (ci := 1) (q0 := 0) ⟨hx, hb, hml, hown, hts⟩ (MX1_put l D cI cJ cB cZ cG cS _ a_t_next a_t_value a_t_next_upper a_t_next_lower a_t_next_sum p2 v5_50 t_next_rows_50 t_next_columns_50 t_next_lower_50 t_next_upper_50 u_6.1 u_6.2.1 u_6.2.2 u_7.1 u_7.2 hcu_7) (cwV 3 hts gX0_stretch_X1_put rfl rfl rfl (by decide +kernel) ⟨Nat.le_of_ble_eq_true rfl, Nat.le_of_ble_eq_true rfl⟩) hK hN hP hD hS hA [1, 2, 3, 4] [0, 5, 6, 7] [0, 4, 5, 6, 7, 1, 2, 3] rfl (by decide) rfl (by decide) (by decide) rfl (by decide) rfl rfl rfl hl.1 rfl (Nat.le_of_ble_eq_true rfl) dX0_stretch_111 ⟨Nat.zero_le _, Nat.zero_le _⟩ (fun H locs hP hD hS => ?_)
        refine lv_iinc (v := (v5_50 + 1)) (lv' := [(5, .int (v5_50 + 1)), (0, .ref a_t), (1, .ref a_p1), (2, .int p2), (3, .int p3), (4, .int p4)]) hx hb dX0_stretch_114 hl (k := 5) rfl rfl (by decide) rfl (fun ls hl => ?_)
        refine lv_goto (tgt := 50) hx hb dX0_stretch_117 (by decide) ?_
        exact ih (v5_50 + 1) u_7.1 u_7.2 u_6.1 u_6.2.1 u_6.2.2 _ _ _ hf hP hD hS (lv_sub hl [1, 2, 3, 4, 5, 0] rfl)
      · have hf := ifN hc_89 hf
        exact wX0_stretch_92 a_t a_p1 a_t_next a_t_value a_t_next_upper a_t_next_lower a_t_next_sum a_p1_upper a_p1_lower a_p1_sum z_r z_t_longRow z_t_longColumn z_t_next_rows z_t_next_columns z_t_next_lower z_t_next_upper z_t_value_upper z_t_value_lower z_t_value_isLong p2 p3 p4 t_longRow t_longColumn t_next_rows t_next_columns t_next_lower t_next_upper t_value_upper t_value_lower t_value_isLong p1_rows p1_columns p1_lower p1_upper v5_50 t_next_rows_50 t_next_columns_50 t_next_lower_50 t_next_upper_50 u_6.1 u_6.2.1 u_6.2.2 X  _ _ _ hf hP hD hS (lv_sub hl [0, 2, 5] rfl)
set_option maxHeartbeats 4000000 in
set_option maxRecDepth 100000 in
theorem MX0_stretch (l : Launch) (D : va_G) (cI cJ cB cZ cG cS : ClassId) (sz : Nat) (a_t : Nat) (a_p1 : Nat) (a_t_next : Nat) (a_t_value : Nat) (a_t_next_upper : Nat) (a_t_next_lower : Nat) (a_t_next_sum : Nat) (a_p1_upper : Nat) (a_p1_lower : Nat) (a_p1_sum : Nat) (p2 : Int32) (p3 : Int32) (p4 : Int32) (t_longRow : Int32) (t_longColumn : Int32) (t_next_rows : Int32) (t_next_columns : Int32) (t_next_lower : Nat → Int32) (t_next_upper : Nat → Int32) (t_value_upper : Int64) (t_value_lower : Int64) (t_value_isLong : Int32) (p1_rows : Int32) (p1_columns : Int32) (p1_lower : Nat → Int32) (p1_upper : Nat → Int32) (z_r : Int32) (z_t_longRow : Int32) (z_t_longColumn : Int32) (z_t_next_rows : Int32) (z_t_next_columns : Int32) (z_t_next_lower : Nat → Int32) (z_t_next_upper : Nat → Int32) (z_t_value_upper : Int64) (z_t_value_lower : Int64) (z_t_value_isLong : Int32) (hf : fX0_stretch p2 p3 p4 t_longRow t_longColumn t_next_rows t_next_columns t_next_lower t_next_upper t_value_upper t_value_lower t_value_isLong p1_rows p1_columns p1_lower p1_upper = some (z_r, z_t_longRow, z_t_longColumn, z_t_next_rows, z_t_next_columns, z_t_next_lower, z_t_next_upper, z_t_value_upper, z_t_value_lower, z_t_value_isLong)) : Met l yX0_stretch wsX0_stretch { frames := 3, cells := 0, slots := 0, locals := 85 } (cP D (tyL cI cJ cB cZ cG cS) [.ref a_t, .ref a_p1, .int p2, .int p3, .int p4] sz [(a_t, .inr (0, [.ref a_t_next, .int t_longRow, .int t_longColumn, .ref a_t_value])), (a_t_next, .inr (1, [.int t_next_rows, .int t_next_columns, .ref a_t_next_upper, .ref a_t_next_lower, .ref a_t_next_sum])), (a_t_next_lower, .inl (cI, 42, .inl t_next_lower)), (a_t_next_upper, .inl (cI, 42, .inl t_next_upper)), (a_t_value, .inr (3, [.long t_value_upper, .long t_value_lower, .int t_value_isLong])), (a_p1, .inr (1, [.int p1_rows, .int p1_columns, .ref a_p1_upper, .ref a_p1_lower, .ref a_p1_sum])), (a_p1_lower, .inl (cI, 42, .inl p1_lower)), (a_p1_upper, .inl (cI, 42, .inl p1_upper))]) (cQi D (va_A [(a_t, .inr (0, [.ref a_t_next, .int t_longRow, .int t_longColumn, .ref a_t_value])), (a_t_next, .inr (1, [.int t_next_rows, .int t_next_columns, .ref a_t_next_upper, .ref a_t_next_lower, .ref a_t_next_sum])), (a_t_next_lower, .inl (cI, 42, .inl t_next_lower)), (a_t_next_upper, .inl (cI, 42, .inl t_next_upper)), (a_t_value, .inr (3, [.long t_value_upper, .long t_value_lower, .int t_value_isLong])), (a_p1, .inr (1, [.int p1_rows, .int p1_columns, .ref a_p1_upper, .ref a_p1_lower, .ref a_p1_sum])), (a_p1_lower, .inl (cI, 42, .inl p1_lower)), (a_p1_upper, .inl (cI, 42, .inl p1_upper))] sz) z_r [(a_t, .inr (0, [.ref a_t_next, .int z_t_longRow, .int z_t_longColumn, .ref a_t_value])), (a_t_next, .inr (1, [.int z_t_next_rows, .int z_t_next_columns, .ref a_t_next_upper, .ref a_t_next_lower, .ref a_t_next_sum])), (a_t_next_lower, .inl (cI, 42, .inl z_t_next_lower)), (a_t_next_upper, .inl (cI, 42, .inl z_t_next_upper)), (a_t_value, .inr (3, [.long z_t_value_upper, .long z_t_value_lower, .int z_t_value_isLong])), (a_p1, .inr (1, [.int p1_rows, .int p1_columns, .ref a_p1_upper, .ref a_p1_lower, .ref a_p1_sum])), (a_p1_lower, .inl (cI, 42, .inl p1_lower)), (a_p1_upper, .inl (cI, 42, .inl p1_upper))]) 0 0 (va_A [(a_t, .inr (0, [.ref a_t_next, .int t_longRow, .int t_longColumn, .ref a_t_value])), (a_t_next, .inr (1, [.int t_next_rows, .int t_next_columns, .ref a_t_next_upper, .ref a_t_next_lower, .ref a_t_next_sum])), (a_t_next_lower, .inl (cI, 42, .inl t_next_lower)), (a_t_next_upper, .inl (cI, 42, .inl t_next_upper)), (a_t_value, .inr (3, [.long t_value_upper, .long t_value_lower, .int t_value_isLong])), (a_p1, .inr (1, [.int p1_rows, .int p1_columns, .ref a_p1_upper, .ref a_p1_lower, .ref a_p1_sum])), (a_p1_lower, .inl (cI, 42, .inl p1_lower)), (a_p1_upper, .inl (cI, 42, .inl p1_upper))] sz) := by
  refine cM (Qc := fun A => cQi D A z_r [(a_t, .inr (0, [.ref a_t_next, .int z_t_longRow, .int z_t_longColumn, .ref a_t_value])), (a_t_next, .inr (1, [.int z_t_next_rows, .int z_t_next_columns, .ref a_t_next_upper, .ref a_t_next_lower, .ref a_t_next_sum])), (a_t_next_lower, .inl (cI, 42, .inl z_t_next_lower)), (a_t_next_upper, .inl (cI, 42, .inl z_t_next_upper)), (a_t_value, .inr (3, [.long z_t_value_upper, .long z_t_value_lower, .int z_t_value_isLong])), (a_p1, .inr (1, [.int p1_rows, .int p1_columns, .ref a_p1_upper, .ref a_p1_lower, .ref a_p1_sum])), (a_p1_lower, .inl (cI, 42, .inl p1_lower)), (a_p1_upper, .inl (cI, 42, .inl p1_upper))]) RX0 (by decide) rfl rfl (Nat.le_of_ble_eq_true rfl) ?_
  intro p e s m below meth c A ls hx hb hr hlk hml hown hts hK hN hP hD hS hA hl
  have X : Cx D (tyL cI cJ cB cZ cG cS) cX0_stretch 6 (some .int) RX0 wsX0_stretch [.ref a_t, .ref a_p1, .int p2, .int p3, .int p4] p s m meth c A := ⟨hx, hb, hr, hlk, hml, hown, hts, hK, hN, hA⟩
  have hl : lv_has ls 6 [(0, .ref a_t), (1, .ref a_p1), (2, .int p2), (3, .int p3), (4, .int p4)] := hl
  unfold fX0_stretch at hf
  refine lv_aload_n hx hb dX0_stretch_0 rfl (lv_at hl 1 rfl) ?_
  refine lv_iload_n hx hb dX0_stretch_1 rfl (lv_at hl 2 rfl) ?_
  obtain ⟨u_1, hcu_1, hf⟩ := bdS hf
  refine kVi (As := [.int p2]) (rest := []) (w2 := [(a_t, .inr (0, [.ref a_t_next, .int t_longRow, .int t_longColumn, .ref a_t_value])), (a_t_next, .inr (1, [.int t_next_rows, .int t_next_columns, .ref a_t_next_upper, .ref a_t_next_lower, .ref a_t_next_sum])), (a_t_next_lower, .inl (cI, 42, .inl t_next_lower)), (a_t_next_upper, .inl (cI, 42, .inl t_next_upper)), (a_t_value, .inr (3, [.long t_value_upper, .long t_value_lower, .int t_value_isLong])), (a_p1, .inr (1, [.int p1_rows, .int p1_columns, .ref a_p1_upper, .ref a_p1_lower, .ref a_p1_sum])), (a_p1_lower, .inl (cI, 42, .inl p1_lower)), (a_p1_upper, .inl (cI, 42, .inl p1_upper))]) (wr := [(a_t, .inr (0, [.ref a_t_next, .int t_longRow, .int t_longColumn, .ref a_t_value])), (a_t_next, .inr (1, [.int t_next_rows, .int t_next_columns, .ref a_t_next_upper, .ref a_t_next_lower, .ref a_t_next_sum])), (a_t_next_lower, .inl (cI, 42, .inl t_next_lower)), (a_t_next_upper, .inl (cI, 42, .inl t_next_upper)), (a_t_value, .inr (3, [.long t_value_upper, .long t_value_lower, .int t_value_isLong])), (a_p1_lower, .inl (cI, 42, .inl p1_lower)), (a_p1_upper, .inl (cI, 42, .inl p1_upper))]) (ci := 1) (q0 := 0) ⟨hx, hb, hml, hown, hts⟩ (MX1_hasRow l D cI cJ cB cZ cG cS _ a_p1 a_p1_upper a_p1_lower a_p1_sum p2 p1_rows p1_columns u_1 hcu_1) (cwV 1 hts gX0_stretch_X1_hasRow rfl rfl rfl (by decide +kernel) ⟨Nat.le_of_ble_eq_true rfl, Nat.le_of_ble_eq_true rfl⟩) hK hN hP hD hS hA [5] [0, 1, 2, 3, 4, 6, 7] [0, 1, 2, 3, 4, 7, 5, 6] rfl (by decide) rfl (by decide) (by decide) rfl (by decide) rfl rfl rfl hl.1 rfl (Nat.le_of_ble_eq_true rfl) dX0_stretch_2 ⟨Nat.zero_le _, Nat.zero_le _⟩ (fun H locs hP hD hS => ?_)
  refine lv_if_eq (tgt := 17) hx hb dX0_stretch_5 (by decide) (fun hc_5 => ?_) (fun hc_5 => ?_)
  · have hf := ifP hc_5 hf
    refine lv_iconst (v := 1) hx hb dX0_stretch_17 (by decide) ?_
    have hf : (some (1, t_longRow, t_longColumn, t_next_rows, t_next_columns, t_next_lower, t_next_upper, t_value_upper, t_value_lower, t_value_isLong) : Option (Int32 × Int32 × Int32 × Int32 × Int32 × (Nat → Int32) × (Nat → Int32) × Int64 × Int64 × Int32)) = some (z_r, z_t_longRow, z_t_longColumn, z_t_next_rows, z_t_next_columns, z_t_next_lower, z_t_next_upper, z_t_value_upper, z_t_value_lower, z_t_value_isLong) := hf
    cases hf
    exact cRi hx hb hr hlk hP hD hS rfl dX0_stretch_18
  · have hf := ifN hc_5 hf
    refine lv_iload_n hx hb dX0_stretch_8 rfl (lv_at hl 3 rfl) ?_
    refine lv_iload hx hb dX0_stretch_9 (lv_at hl 4 rfl) ?_
    obtain ⟨u_2, hcu_2, hf⟩ := bdS hf
    refine kNi (As := [.int p3, .int p4]) (rest := []) (w2 := [(a_t, .inr (0, [.ref a_t_next, .int t_longRow, .int t_longColumn, .ref a_t_value])), (a_t_next, .inr (1, [.int t_next_rows, .int t_next_columns, .ref a_t_next_upper, .ref a_t_next_lower, .ref a_t_next_sum])), (a_t_next_lower, .inl (cI, 42, .inl t_next_lower)), (a_t_next_upper, .inl (cI, 42, .inl t_next_upper)), (a_t_value, .inr (3, [.long t_value_upper, .long t_value_lower, .int t_value_isLong])), (a_p1, .inr (1, [.int p1_rows, .int p1_columns, .ref a_p1_upper, .ref a_p1_lower, .ref a_p1_sum])), (a_p1_lower, .inl (cI, 42, .inl p1_lower)), (a_p1_upper, .inl (cI, 42, .inl p1_upper))]) (wr := [(a_t, .inr (0, [.ref a_t_next, .int t_longRow, .int t_longColumn, .ref a_t_value])), (a_t_next, .inr (1, [.int t_next_rows, .int t_next_columns, .ref a_t_next_upper, .ref a_t_next_lower, .ref a_t_next_sum])), (a_t_next_lower, .inl (cI, 42, .inl t_next_lower)), (a_t_next_upper, .inl (cI, 42, .inl t_next_upper)), (a_t_value, .inr (3, [.long t_value_upper, .long t_value_lower, .int t_value_isLong])), (a_p1, .inr (1, [.int p1_rows, .int p1_columns, .ref a_p1_upper, .ref a_p1_lower, .ref a_p1_sum])), (a_p1_lower, .inl (cI, 42, .inl p1_lower)), (a_p1_upper, .inl (cI, 42, .inl p1_upper))]) ⟨hx, hb, hml, hown, hts⟩ (MX10_isTold l D cI cJ cB cZ cG cS _  p3 p4 u_2 hcu_2) ⟨va_cnB 2 hts gX0_stretch_X10_isTold_n32 rfl rfl rfl (hN.1.1 (RX0, 32, yX10_isTold, RX10) (List.mem_of_getElem? (i := 0) rfl)) (hts (.initialized RX10) (List.mem_of_getElem? (i := 12) rfl)) (by decide +kernel) ⟨Nat.le_of_ble_eq_true rfl, Nat.le_of_ble_eq_true rfl⟩, (hts (.static yX10_isTold) (List.mem_of_getElem? (i := 11) rfl)), trivial⟩ hK hN hP hD hS hA [] [0, 1, 2, 3, 4, 5, 6, 7] [0, 1, 2, 3, 4, 5, 6, 7] rfl (by decide) rfl (by decide) (by decide) rfl (by decide) rfl hl.1 rfl (Nat.le_of_ble_eq_true rfl) dX0_stretch_11 ⟨Nat.zero_le _, Nat.zero_le _⟩ (fun H locs hP hD hS => ?_)
    refine lv_if_ne (tgt := 19) hx hb dX0_stretch_14 (by decide) (fun hc_14 => ?_) (fun hc_14 => ?_)
    · have hf := ifN hc_14 hf
      refine lv_iload_n hx hb dX0_stretch_19 rfl (lv_at hl 3 rfl) ?_
      refine lv_if_eq (tgt := 37) hx hb dX0_stretch_20 (by decide) (fun hc_20 => ?_) (fun hc_20 => ?_)
      · have hf := ifP hc_20 hf
        refine lv_iconst (v := 2) hx hb dX0_stretch_37 (by decide) ?_
        have hf : (some (2, t_longRow, t_longColumn, t_next_rows, t_next_columns, t_next_lower, t_next_upper, t_value_upper, t_value_lower, t_value_isLong) : Option (Int32 × Int32 × Int32 × Int32 × Int32 × (Nat → Int32) × (Nat → Int32) × Int64 × Int64 × Int32)) = some (z_r, z_t_longRow, z_t_longColumn, z_t_next_rows, z_t_next_columns, z_t_next_lower, z_t_next_upper, z_t_value_upper, z_t_value_lower, z_t_value_isLong) := hf
        cases hf
        exact cRi hx hb hr hlk hP hD hS rfl dX0_stretch_38
      · have hf := ifN hc_20 hf
        refine lv_iload_n hx hb dX0_stretch_23 rfl (lv_at hl 3 rfl) ?_
        refine lv_iload hx hb dX0_stretch_24 (lv_at hl 4 rfl) ?_
        refine lv_icmp_eq (tgt := 37) hx hb dX0_stretch_26 (by decide) (fun hc_26 => ?_) (fun hc_26 => ?_)
        · have hf := ifP hc_26 hf
          refine lv_iconst (v := 2) hx hb dX0_stretch_37 (by decide) ?_
          have hf : (some (2, t_longRow, t_longColumn, t_next_rows, t_next_columns, t_next_lower, t_next_upper, t_value_upper, t_value_lower, t_value_isLong) : Option (Int32 × Int32 × Int32 × Int32 × Int32 × (Nat → Int32) × (Nat → Int32) × Int64 × Int64 × Int32)) = some (z_r, z_t_longRow, z_t_longColumn, z_t_next_rows, z_t_next_columns, z_t_next_lower, z_t_next_upper, z_t_value_upper, z_t_value_lower, z_t_value_isLong) := hf
          cases hf
          exact cRi hx hb hr hlk hP hD hS rfl dX0_stretch_38
        · have hf := ifN hc_26 hf
          refine lv_aload_n hx hb dX0_stretch_29 rfl (lv_at hl 1 rfl) ?_
          refine lv_iload_n hx hb dX0_stretch_30 rfl (lv_at hl 2 rfl) ?_
          obtain ⟨u_3, hcu_3, hf⟩ := bdS hf
          refine kVi (As := [.int p2]) (rest := []) (w2 := [(a_t, .inr (0, [.ref a_t_next, .int t_longRow, .int t_longColumn, .ref a_t_value])), (a_t_next, .inr (1, [.int t_next_rows, .int t_next_columns, .ref a_t_next_upper, .ref a_t_next_lower, .ref a_t_next_sum])), (a_t_next_lower, .inl (cI, 42, .inl t_next_lower)), (a_t_next_upper, .inl (cI, 42, .inl t_next_upper)), (a_t_value, .inr (3, [.long t_value_upper, .long t_value_lower, .int t_value_isLong])), (a_p1, .inr (1, [.int p1_rows, .int p1_columns, .ref a_p1_upper, .ref a_p1_lower, .ref a_p1_sum])), (a_p1_lower, .inl (cI, 42, .inl p1_lower)), (a_p1_upper, .inl (cI, 42, .inl p1_upper))]) (wr := [(a_t, .inr (0, [.ref a_t_next, .int t_longRow, .int t_longColumn, .ref a_t_value])), (a_t_next, .inr (1, [.int t_next_rows, .int t_next_columns, .ref a_t_next_upper, .ref a_t_next_lower, .ref a_t_next_sum])), (a_t_next_lower, .inl (cI, 42, .inl t_next_lower)), (a_t_next_upper, .inl (cI, 42, .inl t_next_upper)), (a_t_value, .inr (3, [.long t_value_upper, .long t_value_lower, .int t_value_isLong])), (a_p1_lower, .inl (cI, 42, .inl p1_lower))]) (ci := 1) (q0 := 0) ⟨hx, hb, hml, hown, hts⟩ (MX1_rowBits l D cI cJ cB cZ cG cS _ a_p1 a_p1_upper a_p1_lower a_p1_sum p2 p1_rows p1_columns p1_upper u_3 hcu_3) (cwV 1 hts gX0_stretch_X1_rowBits rfl rfl rfl (by decide +kernel) ⟨Nat.le_of_ble_eq_true rfl, Nat.le_of_ble_eq_true rfl⟩) hK hN hP hD hS hA [5, 7] [0, 1, 2, 3, 4, 6] [0, 1, 2, 3, 4, 6, 5, 7] rfl (by decide) rfl (by decide) (by decide) rfl (by decide) rfl rfl rfl hl.1 rfl (Nat.le_of_ble_eq_true rfl) dX0_stretch_31 ⟨Nat.zero_le _, Nat.zero_le _⟩ (fun H locs hP hD hS => ?_)
          refine lv_if_ne (tgt := 39) hx hb dX0_stretch_34 (by decide) (fun hc_34 => ?_) (fun hc_34 => ?_)
          · have hf := ifN hc_34 hf
            refine lv_aload_n hx hb dX0_stretch_39 rfl (lv_at hl 0 rfl) ?_
            refine va_get (D := D) (ci := 0) (v := .ref a_t_next) (C := RX0) (T := TX0) (N := 4) hx hb hts inX0_stretch_X0 hown hK hP 0 rfl rfl 0 (by decide) (hts (.fieldLink RX0 12 "RowPivots$Acts" "next" "LRowPivots$Grid;") (List.mem_of_getElem? (i := 1) rfl)) (fun _ h9 => h9) rfl dX0_stretch_40 ?_
            refine lv_aload_n hx hb dX0_stretch_43 rfl (lv_at hl 1 rfl) ?_
            obtain ⟨u_4, hcu_4, hf⟩ := bdS hf
            refine kVv (As := [.ref a_p1]) (rest := []) (w2 := [(a_t, .inr (0, [.ref a_t_next, .int t_longRow, .int t_longColumn, .ref a_t_value])), (a_t_next, .inr (1, [.int u_4.1, .int u_4.2.1, .ref a_t_next_upper, .ref a_t_next_lower, .ref a_t_next_sum])), (a_t_next_lower, .inl (cI, 42, .inl u_4.2.2.1)), (a_t_next_upper, .inl (cI, 42, .inl u_4.2.2.2)), (a_t_value, .inr (3, [.long t_value_upper, .long t_value_lower, .int t_value_isLong])), (a_p1, .inr (1, [.int p1_rows, .int p1_columns, .ref a_p1_upper, .ref a_p1_lower, .ref a_p1_sum])), (a_p1_lower, .inl (cI, 42, .inl p1_lower)), (a_p1_upper, .inl (cI, 42, .inl p1_upper))]) (wr := [(a_t, .inr (0, [.ref a_t_next, .int t_longRow, .int t_longColumn, .ref a_t_value])), (a_t_value, .inr (3, [.long t_value_upper, .long t_value_lower, .int t_value_isLong]))]) (ci := 1) (q0 := 0) ⟨hx, hb, hml, hown, hts⟩ (MX1_copy l D cI cJ cB cZ cG cS _ a_t_next a_p1 a_t_next_upper a_t_next_lower a_t_next_sum a_p1_upper a_p1_lower a_p1_sum t_next_rows t_next_columns t_next_lower t_next_upper p1_rows p1_columns p1_lower p1_upper u_4.1 u_4.2.1 u_4.2.2.1 u_4.2.2.2 hcu_4) (cwV 1 hts gX0_stretch_X1_copy rfl rfl rfl (by decide +kernel) ⟨Nat.le_of_ble_eq_true rfl, Nat.le_of_ble_eq_true rfl⟩) hK hN hP hD hS hA [1, 2, 3, 5, 6, 7] [0, 4] [0, 2, 3, 4, 1, 5, 6, 7] rfl (by decide) rfl (by decide) (by decide) rfl (by decide) rfl rfl rfl hl.1 rfl (Nat.le_of_ble_eq_true rfl) dX0_stretch_44 ⟨Nat.zero_le _, Nat.zero_le _⟩ (fun H locs hP hD hS => ?_)
            refine lv_iconst (v := 0) hx hb dX0_stretch_47 (by decide) ?_
            refine lv_istore (lv' := [(5, .int 0), (0, .ref a_t), (1, .ref a_p1), (2, .int p2), (3, .int p3), (4, .int p4)]) hx hb dX0_stretch_48 hl (by decide) rfl (fun ls hl => ?_)
            exact wX0_stretch_50 a_t a_p1 a_t_next a_t_value a_t_next_upper a_t_next_lower a_t_next_sum a_p1_upper a_p1_lower a_p1_sum z_r z_t_longRow z_t_longColumn z_t_next_rows z_t_next_columns z_t_next_lower z_t_next_upper z_t_value_upper z_t_value_lower z_t_value_isLong p2 p3 p4 t_longRow t_longColumn t_next_rows t_next_columns t_next_lower t_next_upper t_value_upper t_value_lower t_value_isLong p1_rows p1_columns p1_lower p1_upper u_4.1 u_4.2.1 X  fuelN 0 u_4.2.2.1 u_4.2.2.2 t_value_upper t_value_lower t_value_isLong _ _ _ hf hP hD hS (lv_sub hl [1, 2, 3, 4, 5, 0] rfl)
          · have hf := ifP hc_34 hf
            refine lv_iconst (v := 2) hx hb dX0_stretch_37 (by decide) ?_
            have hf : (some (2, t_longRow, t_longColumn, t_next_rows, t_next_columns, t_next_lower, t_next_upper, t_value_upper, t_value_lower, t_value_isLong) : Option (Int32 × Int32 × Int32 × Int32 × Int32 × (Nat → Int32) × (Nat → Int32) × Int64 × Int64 × Int32)) = some (z_r, z_t_longRow, z_t_longColumn, z_t_next_rows, z_t_next_columns, z_t_next_lower, z_t_next_upper, z_t_value_upper, z_t_value_lower, z_t_value_isLong) := hf
            cases hf
            exact cRi hx hb hr hlk hP hD hS rfl dX0_stretch_38
    · have hf := ifP hc_14 hf
      refine lv_iconst (v := 1) hx hb dX0_stretch_17 (by decide) ?_
      have hf : (some (1, t_longRow, t_longColumn, t_next_rows, t_next_columns, t_next_lower, t_next_upper, t_value_upper, t_value_lower, t_value_isLong) : Option (Int32 × Int32 × Int32 × Int32 × Int32 × (Nat → Int32) × (Nat → Int32) × Int64 × Int64 × Int32)) = some (z_r, z_t_longRow, z_t_longColumn, z_t_next_rows, z_t_next_columns, z_t_next_lower, z_t_next_upper, z_t_value_upper, z_t_value_lower, z_t_value_isLong) := hf
      cases hf
      exact cRi hx hb hr hlk hP hD hS rfl dX0_stretch_18
theorem inX3_plus_X3 : ∀ w ∈ wsX30, w ∈ wsX3_plus := fun _ h => List.mem_cons_of_mem _ (List.mem_append_right _ h)
def fX3_plus (p1 : Int64) (p2 : Int64) (t_upper : Int64) (t_lower : Int64) (t_isLong : Int32) : Option (Int64 × Int64 × Int32) :=
  (fX3_settle ((t_upper * p2) + (p1 * t_lower)) (t_lower * p2) t_isLong).bind fun u_1 => some (u_1.1, u_1.2.1, u_1.2.2)
set_option maxHeartbeats 4000000 in
set_option maxRecDepth 100000 in
theorem MX3_plus (l : Launch) (D : va_G) (cI cJ cB cZ cG cS : ClassId) (sz : Nat) (a_t : Nat) (p1 : Int64) (p2 : Int64) (t_upper : Int64) (t_lower : Int64) (t_isLong : Int32) (z_t_upper : Int64) (z_t_lower : Int64) (z_t_isLong : Int32) (hf : fX3_plus p1 p2 t_upper t_lower t_isLong = some (z_t_upper, z_t_lower, z_t_isLong)) : Met l yX3_plus wsX3_plus { frames := 2, cells := 0, slots := 0, locals := 51 } (cP D (tyL cI cJ cB cZ cG cS) [.ref a_t, .long p1, .long p2] sz [(a_t, .inr (3, [.long t_upper, .long t_lower, .int t_isLong]))]) (cQv D (va_A [(a_t, .inr (3, [.long t_upper, .long t_lower, .int t_isLong]))] sz) [(a_t, .inr (3, [.long z_t_upper, .long z_t_lower, .int z_t_isLong]))]) 0 0 (va_A [(a_t, .inr (3, [.long t_upper, .long t_lower, .int t_isLong]))] sz) := by
  refine cM (Qc := fun A => cQv D A [(a_t, .inr (3, [.long z_t_upper, .long z_t_lower, .int z_t_isLong]))]) RX3 (by decide) rfl rfl (Nat.le_of_ble_eq_true rfl) ?_
  intro p e s m below meth c A ls hx hb hr hlk hml hown hts hK hN hP hD hS hA hl
  have X : Cx D (tyL cI cJ cB cZ cG cS) cX3_plus 5 none RX3 wsX3_plus [.ref a_t, .long p1, .long p2] p s m meth c A := ⟨hx, hb, hr, hlk, hml, hown, hts, hK, hN, hA⟩
  have hl : lv_has ls 5 [(0, .ref a_t), (1, .long p1), (3, .long p2)] := hl
  unfold fX3_plus at hf
  refine lv_aload_n hx hb dX3_plus_0 rfl (lv_at hl 0 rfl) ?_
  refine lv_aload_n hx hb dX3_plus_1 rfl (lv_at hl 0 rfl) ?_
  refine va_get (D := D) (ci := 3) (v := .long t_upper) (C := RX3) (T := TX3) (N := 3) hx hb hts inX3_plus_X3 hown hK hP 0 rfl rfl 0 (by decide) (hts (.fieldLink RX3 29 "RowPivots$Ratio" "upper" "J") (List.mem_of_getElem? (i := 1) rfl)) (fun _ h9 => h9) rfl dX3_plus_2 ?_
  refine lv_lload_n hx hb dX3_plus_5 rfl (lv_at hl 2 rfl) ?_
  refine lv_lmul hx hb dX3_plus_6 ?_
  refine lv_lload_n hx hb dX3_plus_7 rfl (lv_at hl 1 rfl) ?_
  refine lv_aload_n hx hb dX3_plus_8 rfl (lv_at hl 0 rfl) ?_
  refine va_get (D := D) (ci := 3) (v := .long t_lower) (C := RX3) (T := TX3) (N := 3) hx hb hts inX3_plus_X3 hown hK hP 0 rfl rfl 1 (by decide) (hts (.fieldLink RX3 9 "RowPivots$Ratio" "lower" "J") (List.mem_of_getElem? (i := 2) rfl)) (fun _ h9 => h9) rfl dX3_plus_9 ?_
  refine lv_lmul hx hb dX3_plus_12 ?_
  refine lv_ladd hx hb dX3_plus_13 ?_
  refine lv_aload_n hx hb dX3_plus_14 rfl (lv_at hl 0 rfl) ?_
  refine va_get (D := D) (ci := 3) (v := .long t_lower) (C := RX3) (T := TX3) (N := 3) hx hb hts inX3_plus_X3 hown hK hP 0 rfl rfl 1 (by decide) (hts (.fieldLink RX3 9 "RowPivots$Ratio" "lower" "J") (List.mem_of_getElem? (i := 2) rfl)) (fun _ h9 => h9) rfl dX3_plus_15 ?_
  refine lv_lload_n hx hb dX3_plus_18 rfl (lv_at hl 2 rfl) ?_
  refine lv_lmul hx hb dX3_plus_19 ?_
  obtain ⟨u_1, hcu_1, hf⟩ := bdS hf
  refine kVv (As := [.long ((t_upper * p2) + (p1 * t_lower)), .long (t_lower * p2)]) (rest := []) (w2 := [(a_t, .inr (3, [.long u_1.1, .long u_1.2.1, .int u_1.2.2]))]) (wr := []) (ci := 3) (q0 := 0) ⟨hx, hb, hml, hown, hts⟩ (MX3_settle l D cI cJ cB cZ cG cS _ a_t ((t_upper * p2) + (p1 * t_lower)) (t_lower * p2) t_upper t_lower t_isLong u_1.1 u_1.2.1 u_1.2.2 hcu_1) (cwV 2 hts gX3_plus_X3_settle rfl rfl rfl (by decide +kernel) ⟨Nat.le_of_ble_eq_true rfl, Nat.le_of_ble_eq_true rfl⟩) hK hN hP hD hS hA [0] [] [0] rfl (by decide) rfl (by decide) (by decide) rfl (by decide) rfl rfl rfl hl.1 rfl (Nat.le_of_ble_eq_true rfl) dX3_plus_20 ⟨Nat.zero_le _, Nat.zero_le _⟩ (fun H locs hP hD hS => ?_)
  have hf : (some (u_1.1, u_1.2.1, u_1.2.2) : Option (Int64 × Int64 × Int32)) = some (z_t_upper, z_t_lower, z_t_isLong) := hf
  cases hf
  exact cRv hx hb hr hlk hP hD hS dX3_plus_23
