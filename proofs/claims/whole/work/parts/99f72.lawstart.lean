set_option maxRecDepth 20000 in
theorem lo_0 : Cond.classLink RL 7 RX10 ∈ lw_tbl := tin_1 (List.mem_of_getElem? (i := 21) rfl)
set_option maxRecDepth 20000 in
theorem lo_1 : Cond.instantiable RX10 10 ∈ lw_tbl := tin_1 (List.mem_of_getElem? (i := 22) rfl)
set_option maxRecDepth 20000 in
theorem lo_2 : Cond.initialized RX10 ∈ lw_tbl := tin_1 (List.mem_of_getElem? (i := 1) rfl)
set_option maxRecDepth 20000 in
theorem lo_3 : Cond.methodLink RL 9 yX10_init ∈ lw_tbl := tin_1 (List.mem_of_getElem? (i := 23) rfl)
set_option maxRecDepth 20000 in
theorem lo_4 : Cond.instanceMethod yX10_init ∈ lw_tbl := tin_1 (List.mem_of_getElem? (i := 24) rfl)
set_option maxRecDepth 20000 in
theorem lo_5 : Cond.classLink RL 10 RX11 ∈ lw_tbl := tin_5 (List.mem_of_getElem? (i := 34) rfl)
set_option maxRecDepth 20000 in
theorem lo_6 : Cond.instantiable RX11 36 ∈ lw_tbl := tin_5 (List.mem_of_getElem? (i := 35) rfl)
set_option maxRecDepth 20000 in
theorem lo_7 : Cond.initialized RX11 ∈ lw_tbl := tin_1 (List.mem_of_getElem? (i := 13) rfl)
set_option maxRecDepth 20000 in
theorem lo_8 : Cond.methodLink RL 12 yX11_init ∈ lw_tbl := tin_5 (List.mem_of_getElem? (i := 36) rfl)
set_option maxRecDepth 20000 in
theorem lo_9 : Cond.instanceMethod yX11_init ∈ lw_tbl := tin_5 (List.mem_of_getElem? (i := 37) rfl)
set_option maxRecDepth 20000 in
theorem lo_10 : Cond.methodLinkNest RX0 32 yX10_isTold RX10 ∈ lw_tbl := tin_3 (List.mem_of_getElem? (i := 144) rfl)
set_option maxRecDepth 20000 in
theorem lo_11 : Cond.methodLinkNest RX0 20 yX3_init RX10 ∈ lw_tbl := tin_1 (List.mem_of_getElem? (i := 170) rfl)
set_option maxRecDepth 20000 in
theorem lo_12 : Cond.methodLinkNest RX1 27 yX3_init RX10 ∈ lw_tbl := tin_1 (List.mem_of_getElem? (i := 43) rfl)
set_option maxRecDepth 20000 in
theorem lo_13 : Cond.methodLinkNest RX4 11 yX5_init RX10 ∈ lw_tbl := tin_2 (List.mem_of_getElem? (i := 40) rfl)
set_option maxRecDepth 20000 in
theorem lo_14 : Cond.methodLinkNest RX5 11 yX8_init RX10 ∈ lw_tbl := tin_2 (List.mem_of_getElem? (i := 45) rfl)
set_option maxRecDepth 20000 in
theorem lo_15 : Cond.methodLinkNest RX6 20 yX8_init RX10 ∈ lw_tbl := tin_1 (List.mem_of_getElem? (i := 98) rfl)
set_option maxRecDepth 20000 in
theorem lo_16 : Cond.methodLinkNest RX7 33 yX3_init RX10 ∈ lw_tbl := tin_1 (List.mem_of_getElem? (i := 196) rfl)
set_option maxRecDepth 20000 in
theorem lo_17 : Cond.methodLinkNest RX9 20 yX3_init RX10 ∈ lw_tbl := tin_2 (List.mem_of_getElem? (i := 15) rfl)
set_option maxRecDepth 20000 in
theorem lo_18 : Cond.methodLinkNest RX10 11 yX6_init RX10 ∈ lw_tbl := tin_1 (List.mem_of_getElem? (i := 31) rfl)
set_option maxRecDepth 20000 in
theorem lo_19 : Cond.methodLinkNest RX10 22 yX2_init RX10 ∈ lw_tbl := tin_1 (List.mem_of_getElem? (i := 144) rfl)
set_option maxRecDepth 20000 in
theorem lo_20 : Cond.methodLinkNest RX10 29 yX0_init RX10 ∈ lw_tbl := tin_1 (List.mem_of_getElem? (i := 163) rfl)
set_option maxRecDepth 20000 in
theorem lo_21 : Cond.methodLinkNest RX10 36 yX7_init RX10 ∈ lw_tbl := tin_1 (List.mem_of_getElem? (i := 189) rfl)
set_option maxRecDepth 20000 in
theorem lo_22 : Cond.methodLinkNest RX10 43 yX9_init RX10 ∈ lw_tbl := tin_2 (List.mem_of_getElem? (i := 10) rfl)
set_option maxRecDepth 20000 in
theorem lo_23 : Cond.methodLinkNest RX10 50 yX4_init RX10 ∈ lw_tbl := tin_2 (List.mem_of_getElem? (i := 34) rfl)
set_option maxRecDepth 20000 in
theorem lo_24 : Cond.methodLinkNest RX10 67 yX3_init RX10 ∈ lw_tbl := tin_2 (List.mem_of_getElem? (i := 104) rfl)
set_option maxRecDepth 20000 in
theorem lo_25 : Cond.arrayOver (.object RX1) ∈ lw_tbl := tin_1 (List.mem_of_getElem? (i := 149) rfl)
set_option maxRecDepth 20000 in
theorem lo_26 : Cond.arrayOver (.object RX6) ∈ lw_tbl := tin_1 (List.mem_of_getElem? (i := 141) rfl)
set_option maxRecDepth 20000 in
theorem lo_27 : Cond.laysStatic "java/lang/String" "COMPACT_STRINGS" "Z" ∈ lw_tbl := tin_2 (List.mem_of_getElem? (i := 222) rfl)
set_option maxRecDepth 20000 in
theorem lo_28 : Cond.initialized "java/lang/String" ∈ lw_tbl := tin_1 (List.mem_of_getElem? (i := 15) rfl)
set_option maxRecDepth 20000 in
theorem lo_29 : Cond.laysStatic "jdk/internal/util/Preconditions" "SIOOBE_FORMATTER" "Ljava/util/function/BiFunction;" ∈ lw_tbl := tin_2 (List.mem_of_getElem? (i := 238) rfl)
set_option maxRecDepth 20000 in
theorem lo_30 : Cond.initialized "jdk/internal/util/Preconditions" ∈ lw_tbl := tin_1 (List.mem_of_getElem? (i := 17) rfl)
set_option maxRecDepth 20000 in
theorem lo_31 : Cond.stringRef RX5 61 "size" ∈ lw_tbl := tin_2 (List.mem_of_getElem? (i := 208) rfl)
set_option maxRecDepth 20000 in
theorem lo_32 : Cond.stringRef RX5 67 "row" ∈ lw_tbl := tin_3 (List.mem_of_getElem? (i := 21) rfl)
set_option maxRecDepth 20000 in
theorem lo_33 : Cond.stringRef RX5 69 "set" ∈ lw_tbl := tin_3 (List.mem_of_getElem? (i := 22) rfl)
set_option maxRecDepth 20000 in
theorem lo_34 : Cond.stringRef RX5 71 "swap" ∈ lw_tbl := tin_3 (List.mem_of_getElem? (i := 23) rfl)
set_option maxRecDepth 20000 in
theorem lo_35 : Cond.stringRef RX5 73 "scale" ∈ lw_tbl := tin_3 (List.mem_of_getElem? (i := 24) rfl)
set_option maxRecDepth 20000 in
theorem lo_36 : Cond.stringRef RX5 75 "add" ∈ lw_tbl := tin_3 (List.mem_of_getElem? (i := 25) rfl)
set_option maxRecDepth 20000 in
theorem lo_37 : Cond.stringRef RX5 77 "reduce" ∈ lw_tbl := tin_3 (List.mem_of_getElem? (i := 26) rfl)
set_option maxRecDepth 20000 in
theorem lo_38 : Cond.arrayClass .int ∈ lw_tbl := tin_1 (List.mem_of_getElem? (i := 70) rfl)
set_option maxRecDepth 20000 in
theorem lo_39 : Cond.arrayClass .long ∈ lw_tbl := tin_5 (List.mem_of_getElem? (i := 154) rfl)
set_option maxRecDepth 20000 in
theorem lo_40 : Cond.arrayClass .byte ∈ lw_tbl := tin_1 (List.mem_of_getElem? (i := 111) rfl)
set_option maxRecDepth 20000 in
theorem lo_41 : Cond.arrayClass .boolean ∈ lw_tbl := tin_5 (List.mem_of_getElem? (i := 153) rfl)
set_option maxRecDepth 20000 in
theorem lo_42 : Cond.instantiable RX0 4 ∈ lw_tbl := tin_1 (List.mem_of_getElem? (i := 162) rfl)
set_option maxRecDepth 20000 in
theorem lo_43 : Cond.instantiable RX1 5 ∈ lw_tbl := tin_1 (List.mem_of_getElem? (i := 36) rfl)
set_option maxRecDepth 20000 in
theorem lo_44 : Cond.instantiable RX2 3 ∈ lw_tbl := tin_1 (List.mem_of_getElem? (i := 143) rfl)
set_option maxRecDepth 20000 in
theorem lo_45 : Cond.instantiable RX3 3 ∈ lw_tbl := tin_1 (List.mem_of_getElem? (i := 42) rfl)
set_option maxRecDepth 20000 in
theorem lo_46 : Cond.instantiable RX4 10 ∈ lw_tbl := tin_2 (List.mem_of_getElem? (i := 33) rfl)
set_option maxRecDepth 20000 in
theorem lo_47 : Cond.instantiable RX5 5 ∈ lw_tbl := tin_2 (List.mem_of_getElem? (i := 39) rfl)
set_option maxRecDepth 20000 in
theorem lo_48 : Cond.instantiable RX6 7 ∈ lw_tbl := tin_1 (List.mem_of_getElem? (i := 30) rfl)
set_option maxRecDepth 20000 in
theorem lo_49 : Cond.instantiable RX7 14 ∈ lw_tbl := tin_1 (List.mem_of_getElem? (i := 188) rfl)
set_option maxRecDepth 20000 in
theorem lo_50 : Cond.instantiable RX8 2 ∈ lw_tbl := tin_1 (List.mem_of_getElem? (i := 97) rfl)
set_option maxRecDepth 20000 in
theorem lo_51 : Cond.instantiable RX9 5 ∈ lw_tbl := tin_2 (List.mem_of_getElem? (i := 9) rfl)
set_option maxHeartbeats 4000000 in
set_option maxRecDepth 100000 in
/-- what stands around the law's walk at its entry -/
theorem lw_EN {p : Program} {s : State} {m : MethodId} {meth : Method} {c : Code} {b L : Nat} {xs : Nat → Int32} (C0 : lw_At p s m meth c b L xs) : EN (fun q : Nat => s.heap.size ≤ q) s := by
  obtain ⟨hx, hb, hr, hml, hown, hts, hX, hbl, hlocks, hgv⟩ := C0
  have hs := flat_of_before _ hgv
  have hA : ∀ a : Nat, a < s.heap.size → ¬ (fun q : Nat => s.heap.size ≤ q) a := fun a h => Nat.not_le.mpr h
  refine ⟨⟨?_, va_AO.of (hts (.arrayOver (.object RX1)) lo_25), va_AO.of (hts (.arrayOver (.object RX6)) lo_26)⟩, ?_⟩
  · unfold nwl
    exact (List.forall_mem_cons.mpr ⟨va_Nw.of rfl (hts (.methodLinkNest RX0 32 yX10_isTold RX10) lo_10), (List.forall_mem_cons.mpr ⟨va_Nw.of rfl (hts (.methodLinkNest RX0 20 yX3_init RX10) lo_11), (List.forall_mem_cons.mpr ⟨va_Nw.of rfl (hts (.methodLinkNest RX1 27 yX3_init RX10) lo_12), (List.forall_mem_cons.mpr ⟨va_Nw.of rfl (hts (.methodLinkNest RX4 11 yX5_init RX10) lo_13), (List.forall_mem_cons.mpr ⟨va_Nw.of rfl (hts (.methodLinkNest RX5 11 yX8_init RX10) lo_14), (List.forall_mem_cons.mpr ⟨va_Nw.of rfl (hts (.methodLinkNest RX6 20 yX8_init RX10) lo_15), (List.forall_mem_cons.mpr ⟨va_Nw.of rfl (hts (.methodLinkNest RX7 33 yX3_init RX10) lo_16), (List.forall_mem_cons.mpr ⟨va_Nw.of rfl (hts (.methodLinkNest RX9 20 yX3_init RX10) lo_17), (List.forall_mem_cons.mpr ⟨va_Nw.of rfl (hts (.methodLinkNest RX10 11 yX6_init RX10) lo_18), (List.forall_mem_cons.mpr ⟨va_Nw.of rfl (hts (.methodLinkNest RX10 22 yX2_init RX10) lo_19), (List.forall_mem_cons.mpr ⟨va_Nw.of rfl (hts (.methodLinkNest RX10 29 yX0_init RX10) lo_20), (List.forall_mem_cons.mpr ⟨va_Nw.of rfl (hts (.methodLinkNest RX10 36 yX7_init RX10) lo_21), (List.forall_mem_cons.mpr ⟨va_Nw.of rfl (hts (.methodLinkNest RX10 43 yX9_init RX10) lo_22), (List.forall_mem_cons.mpr ⟨va_Nw.of rfl (hts (.methodLinkNest RX10 50 yX4_init RX10) lo_23), (List.forall_mem_cons.mpr ⟨va_Nw.of rfl (hts (.methodLinkNest RX10 67 yX3_init RX10) lo_24), (fun _ h => absurd h List.not_mem_nil)⟩)⟩)⟩)⟩)⟩)⟩)⟩)⟩)⟩)⟩)⟩)⟩)⟩)⟩)⟩)
  · obtain ⟨adK, adV, hS, hev⟩ := vk_Sof (args := #[Value.ref b]) (s := s) (N := 7) (tm := fun i => Term.string RX5 (ixJ.getD i 0)) (len := lenJ) (byt := bytJ) (A := fun q : Nat => s.heap.size ≤ q) (by decide +kernel)
      (fun i hi => hs _ ((by decide +kernel : ∀ i, i < 7 → Cond.exactly (Term.string RX5 (ixJ.getD i 0)) "java/lang/String" ∈ (flatC (Jvm.Cond.and given_1 narrow_1))) i hi))
      (fun i hi => hs _ ((by decide +kernel : ∀ i, i < 7 → Cond.eq (.field (Term.string RX5 (ixJ.getD i 0)) "java/lang/String" "coder" "B") (.int 0) ∈ (flatC (Jvm.Cond.and given_1 narrow_1))) i hi))
      (fun i hi => hs _ ((by decide +kernel : ∀ i, i < 7 → Cond.arrayOf (Term.field (Term.string RX5 (ixJ.getD i 0)) "java/lang/String" "value" "[B") .byte ∈ (flatC (Jvm.Cond.and given_1 narrow_1))) i hi))
      (fun i hi => hs _ ((by decide +kernel : ∀ i, i < 7 → Cond.eq (.length (Term.field (Term.string RX5 (ixJ.getD i 0)) "java/lang/String" "value" "[B")) (.int (Int32.ofNat (lenJ.getD i 0))) ∈ (flatC (Jvm.Cond.and given_1 narrow_1))) i hi))
      (fun i hi j hj => hs _ ((by decide +kernel : ∀ i, i < 7 → ∀ j, j < lenJ.getD i 0 → Cond.eq (.elem (Term.field (Term.string RX5 (ixJ.getD i 0)) "java/lang/String" "value" "[B") (.int (Int32.ofNat j))) (.int ((bytJ.getD i []).getD j 0)) ∈ (flatC (Jvm.Cond.and given_1 narrow_1))) i hi j hj))
      (fun i j hi hj hij => ((by decide +kernel : ∀ i, i < 7 → ∀ j, j < 7 → i ≠ j → (Cond.not (Cond.eq (Term.string RX5 (ixJ.getD i 0)) (Term.string RX5 (ixJ.getD j 0))) ∈ (flatC (Jvm.Cond.and given_1 narrow_1)) ∨ Cond.not (Cond.eq (Term.string RX5 (ixJ.getD j 0)) (Term.string RX5 (ixJ.getD i 0))) ∈ (flatC (Jvm.Cond.and given_1 narrow_1)))) i hi j hj hij).elim (fun h => Or.inl (hs _ h)) (fun h => Or.inr (hs _ h))) hA
    refine ⟨adK, adV, hS, fun i hi => vk_R.of (A := #[Value.ref b]) ?_ (hev i hi), va_Zof (hts (.laysStatic "java/lang/String" "COMPACT_STRINGS" "Z") lo_27) (hts (.initialized "java/lang/String") lo_28) (va_eqi (hs _ (by decide +kernel))) hA, va_Zqof (hts (.laysStatic "jdk/internal/util/Preconditions" "SIOOBE_FORMATTER" "Ljava/util/function/BiFunction;") lo_29) (hts (.initialized "jdk/internal/util/Preconditions") lo_30) (hs _ (by decide +kernel)) hA⟩
    exact match i, hi with | 0, _ => hts (.stringRef RX5 61 "size") lo_31 | 1, _ => hts (.stringRef RX5 67 "row") lo_32 | 2, _ => hts (.stringRef RX5 69 "set") lo_33 | 3, _ => hts (.stringRef RX5 71 "swap") lo_34 | 4, _ => hts (.stringRef RX5 73 "scale") lo_35 | 5, _ => hts (.stringRef RX5 75 "add") lo_36 | 6, _ => hts (.stringRef RX5 77 "reduce") lo_37 | _ + 7, h => absurd h (by omega)
set_option maxHeartbeats 4000000 in
set_option maxRecDepth 100000 in
theorem lw_arr {s : State} {args : Array Value} {ty : FieldType} (h : (Cond.arrayClass ty).before args s = true) : ∃ cA : ClassId, ArrOfT s cA ty ∧ s.vm.findClass ("[" ++ ty.toString) = some cA := by
  obtain ⟨cA, kA, comp, f1, f2, f3⟩ := Cond.arrayClass_spec h
  exact ⟨cA, fun N z => ⟨(fun k h => by cases h), kA, f2, comp, f3⟩, f1⟩
theorem lw_arq {s : State} {args : Array Value} {C : String} (h : (Cond.arrayOver (.object C)).before args s = true) : ∃ cA : ClassId, ArrOfT s cA (.object C) ∧ va_RA s cA (.object C) := by
  obtain ⟨comp, cA, kA, f1, f2, f3, f4, f5⟩ := Cond.arrayOver_spec h
  exact ⟨cA, fun N z => ⟨(fun k h => by cases h), kA, f3, comp, f4⟩, kA, comp, f3, f4, f1, f5⟩
set_option maxHeartbeats 4000000 in
set_option maxRecDepth 100000 in
/-- the classes and the kinds of arrays, as the tables have them -/
theorem lw_K {p : Program} {s : State} {m : MethodId} {meth : Method} {c : Code} {b L : Nat} {xs : Nat → Int32} (C0 : lw_At p s m meth c b L xs) : ∃ (D : va_G) (cI cJ cB cZ cG cS : ClassId), va_K D vwCl (tyL cI cJ cB cZ cG cS) s := by
  obtain ⟨hx, hb, hr, hml, hown, hts, hX, hbl, hlocks, hgv⟩ := C0
  obtain ⟨k0, i0, hk0⟩ := u_known (C := RX0) (T := TX0) (N := 4) (n := 4) hts tc_X0 (hts (.instantiable RX0 4) lo_42)
  obtain ⟨k1, i1, hk1⟩ := u_known (C := RX1) (T := TX1) (N := 5) (n := 5) hts tc_X1 (hts (.instantiable RX1 5) lo_43)
  obtain ⟨k2, i2, hk2⟩ := u_known (C := RX2) (T := TX2) (N := 3) (n := 3) hts tc_X2 (hts (.instantiable RX2 3) lo_44)
  obtain ⟨k3, i3, hk3⟩ := u_known (C := RX3) (T := TX3) (N := 3) (n := 3) hts tc_X3 (hts (.instantiable RX3 3) lo_45)
  obtain ⟨k4, i4, hk4⟩ := u_known (C := RX4) (T := TX4) (N := 10) (n := 10) hts tc_X4 (hts (.instantiable RX4 10) lo_46)
  obtain ⟨k5, i5, hk5⟩ := u_known (C := RX5) (T := TX5) (N := 5) (n := 5) hts tc_X5 (hts (.instantiable RX5 5) lo_47)
  obtain ⟨k6, i6, hk6⟩ := u_known (C := RX6) (T := TX6) (N := 7) (n := 7) hts tc_X6 (hts (.instantiable RX6 7) lo_48)
  obtain ⟨k7, i7, hk7⟩ := u_known (C := RX7) (T := TX7) (N := 14) (n := 14) hts tc_X7 (hts (.instantiable RX7 14) lo_49)
  obtain ⟨k8, i8, hk8⟩ := u_known (C := RX8) (T := TX8) (N := 2) (n := 2) hts tc_X8 (hts (.instantiable RX8 2) lo_50)
  obtain ⟨k9, i9, hk9⟩ := u_known (C := RX9) (T := TX9) (N := 5) (n := 5) hts tc_X9 (hts (.instantiable RX9 5) lo_51)
  obtain ⟨k10, i10, hk10⟩ := u_known (C := RX10) (T := TX10) (N := 10) (n := 10) hts tc_X10 (hts (.instantiable RX10 10) lo_1)
  obtain ⟨k11, i11, hk11⟩ := u_known (C := RX11) (T := TX11) (N := 36) (n := 36) hts tc_X11 (hts (.instantiable RX11 36) lo_6)
  obtain ⟨cI, hI, gI⟩ := lw_arr (hts (.arrayClass .int) lo_38)
  obtain ⟨cJ, hJ, gJ⟩ := lw_arr (hts (.arrayClass .long) lo_39)
  obtain ⟨cB, hB, gB⟩ := lw_arr (hts (.arrayClass .byte) lo_40)
  obtain ⟨cZ, hZ, gZ⟩ := lw_arr (hts (.arrayClass .boolean) lo_41)
  obtain ⟨cG, hG, gG⟩ := lw_arq (C := RX1) (hts (.arrayOver (.object RX1)) lo_25)
  obtain ⟨cS, hS, gS⟩ := lw_arq (C := RX6) (hts (.arrayOver (.object RX6)) lo_26)
  refine ⟨(fun k => if k = 0 then k0 else if k = 1 then k1 else if k = 2 then k2 else if k = 3 then k3 else if k = 4 then k4 else if k = 5 then k5 else if k = 6 then k6 else if k = 7 then k7 else if k = 8 then k8 else if k = 9 then k9 else if k = 10 then k10 else k11, fun k => if k = 0 then i0 else if k = 1 then i1 else if k = 2 then i2 else if k = 3 then i3 else if k = 4 then i4 else if k = 5 then i5 else if k = 6 then i6 else if k = 7 then i7 else if k = 8 then i8 else if k = 9 then i9 else if k = 10 then i10 else i11), cI, cJ, cB, cZ, cG, cS, ?_, ?_⟩
  · intro k q hq
    match k, hq with
    | 0, hq => cases hq; exact hk0
    | 1, hq => cases hq; exact hk1
    | 2, hq => cases hq; exact hk2
    | 3, hq => cases hq; exact hk3
    | 4, hq => cases hq; exact hk4
    | 5, hq => cases hq; exact hk5
    | 6, hq => cases hq; exact hk6
    | 7, hq => cases hq; exact hk7
    | 8, hq => cases hq; exact hk8
    | 9, hq => cases hq; exact hk9
    | 10, hq => cases hq; exact hk10
    | 11, hq => cases hq; exact hk11
    | k + 12, hq => simp [vwCl] at hq
  · intro k q hq
    match k, hq with
    | 0, hq => cases hq; exact ⟨hI, gI⟩
    | 1, hq => cases hq; exact ⟨hJ, gJ⟩
    | 2, hq => cases hq; exact ⟨hB, gB⟩
    | 3, hq => cases hq; exact ⟨hZ, gZ⟩
    | 4, hq => cases hq; exact ⟨hG, gG⟩
    | 5, hq => cases hq; exact ⟨hS, gS⟩
    | k + 6, hq => simp [tyL] at hq
