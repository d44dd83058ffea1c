/-! The past: grids kept in a ring, made as they are wanted. -/
abbrev GC : Type := Int32 × Int32 × (Nat → Int32) × (Nat → Int32)
abbrev GA : Type := Nat × Nat × Nat × Nat
abbrev PC : Type := Nat → Option GC
abbrev AD : Type := Nat → GA
/-- a grid that holds rows, columns, uppers, lowers, at four addresses -/
def gcell (cI : ClassId) (g : GC) (a : GA) : va_W := [(a.1, .inr (1, [.int g.1, .int g.2.1, .ref a.2.1, .ref a.2.2.1, .ref a.2.2.2])), (a.2.1, .inl (cI, 42, .inl g.2.2.1)), (a.2.2.1, .inl (cI, 42, .inl g.2.2.2)), (a.2.2.2, .inr (3, [.long 0, .long 1, .int 0]))]
def gcO (cI : ClassId) : Option GC → GA → va_W
  | none, _ => []
  | some g, a => gcell cI g a
def dyP (cI : ClassId) (pc : PC) (ad : AD) : va_W := (List.range 20).flatMap (fun k => gcO cI (pc k) (ad k))
def dyX (cI : ClassId) (i : Nat) (pc : PC) (ad : AD) : va_W := (List.range 20).flatMap (fun k => if k = i then [] else gcO cI (pc k) (ad k))
def kF (pc : PC) (ad : AD) : Nat → Option Nat := fun k => (pc k).map (fun _ => (ad k).1)
def upO {α : Type} (f : Nat → α) (i : Nat) (x : α) : Nat → α := fun k => if k = i then x else f k
theorem upO_at {α : Type} (f : Nat → α) (i : Nat) (x : α) : upO f i x i = x := if_pos rfl
theorem upO_ne {α : Type} {f : Nat → α} {i k : Nat} {x : α} (h : ¬ k = i) : upO f i x k = f k := if_neg h
theorem fm_split {α : Type} (f : Nat → List α) : ∀ (l : List Nat) (i : Nat), l.Nodup → i ∈ l → (l.flatMap f).Perm (f i ++ l.flatMap (fun k => if k = i then [] else f k))
  | [], _, _, h => absurd h List.not_mem_nil
  | a :: l, i, hn, hi => by
    rw [List.flatMap_cons, List.flatMap_cons]
    by_cases h : a = i
    · subst h
      have hl : l.flatMap (fun k => if k = a then [] else f k) = l.flatMap f := by
        rw [List.flatMap_def, List.flatMap_def, List.map_congr_left (f := fun k => if k = a then [] else f k) (g := f) (fun k hk => if_neg (fun (e : k = a) => (List.nodup_cons.mp hn).1 (e ▸ hk)))]
      rw [if_pos rfl, List.nil_append, hl]
    · have hi2 : i ∈ l := (List.mem_cons.mp hi).resolve_left (fun e => h e.symm)
      have ih := fm_split f l i (List.nodup_cons.mp hn).2 hi2
      rw [if_neg h]
      refine (ih.append_left (f a)).trans ?_
      rw [← List.append_assoc, ← List.append_assoc]
      exact List.perm_append_comm.append_right _
theorem dyP_split {cI : ClassId} {i : Nat} (hi : i < 20) (pc : PC) (ad : AD) : (dyP cI pc ad).Perm (gcO cI (pc i) (ad i) ++ dyX cI i pc ad) := fm_split _ (List.range 20) i List.nodup_range (List.mem_range.mpr hi)
theorem dyX_up {cI : ClassId} {i : Nat} {pc : PC} {ad : AD} {x : Option GC} {a : GA} : dyX cI i (upO pc i x) (upO ad i a) = dyX cI i pc ad := by
  unfold dyX
  congr 1
  funext k
  by_cases h : k = i
  · rw [if_pos h, if_pos h]
  · rw [if_neg h, if_neg h, upO_ne h, upO_ne h]
theorem kF_up {i : Nat} {pc : PC} {ad : AD} {g : GC} {a : GA} : kF (upO pc i (some g)) (upO ad i a) = fun k => if k = i then some a.1 else kF pc ad k := by
  funext k
  by_cases h : k = i
  · rw [if_pos h, h]; simp [kF, upO_at]
  · rw [if_neg h]; simp [kF, upO_ne h]
theorem in20 {x : Int32} (h0 : ¬ x < 0) (h1 : x < 20) : vp_in x 20 := by
  rw [vp_in_iff]
  rw [Int32.lt_iff_toInt_lt] at h0 h1
  have e0 : (0 : Int32).toInt = 0 := rfl
  have e1 : (20 : Int32).toInt = 20 := rfl
  omega
theorem in20N {x : Int32} {n : Nat} (h : vp_in x n) : x.toNatClampNeg < n := Nat.not_le.mp fun q => h (Or.inr q)
def gUp : Option GC → Nat → Int32
  | none => fun _ => 0
  | some g => g.2.2.1
def gLo (zf : Nat → Int32) : Option GC → Nat → Int32
  | none => zf
  | some g => g.2.2.2
/-- keep -/
def fX2_keep (t_size t_top p1_rows p1_columns : Int32) (p1_lower p1_upper : Nat → Int32) (zf : Nat → Int32) (pc : PC) : Option (Int32 × Int32 × PC) :=
  if t_top < 0 then some (t_size, t_top, pc) else if t_top < 20 then ((fX1_copy (gLo zf (pc t_top.toNatClampNeg)) (gUp (pc t_top.toNatClampNeg)) p1_rows p1_columns p1_lower p1_upper).bind fun u => some ((if 20 < t_size + 1 then 20 else t_size + 1), ((t_top + 1) - (t_top + 1) / 20 * 20), upO pc t_top.toNatClampNeg (some (u.1, u.2.1, u.2.2.2, u.2.2.1)))) else some (t_size, t_top, pc)
/-- takeBack -/
def fX2_takeBack (t_size t_top p1_rows p1_columns : Int32) (p1_lower p1_upper : Nat → Int32) (pc : PC) : Option (Int32 × Int32 × Int32 × Int32 × (Nat → Int32) × (Nat → Int32)) :=
  lt ((t_top + 20 - 1) - (t_top + 20 - 1) / 20 * 20) fun last => if t_size = 0 then some (t_size, t_top, p1_rows, p1_columns, p1_lower, p1_upper) else if last < 0 then some (t_size, t_top, p1_rows, p1_columns, p1_lower, p1_upper) else if last < 20 then (match pc last.toNatClampNeg with | none => some (t_size - 1, last, p1_rows, p1_columns, p1_lower, p1_upper) | some g => (fX1_copy p1_lower p1_upper g.1 g.2.1 g.2.2.2 g.2.2.1).bind fun u => some (t_size - 1, last, u.1, u.2.1, u.2.2.1, u.2.2.2)) else some (t_size, t_top, p1_rows, p1_columns, p1_lower, p1_upper)
theorem inX2_keep_X2 : ∀ w ∈ wsX20, w ∈ wsX2_keep := fun _ h => List.mem_cons_of_mem _ (List.mem_append_left _ (List.mem_append_left _ (List.mem_append_right _ h)))
theorem inX2_keep_X1 : ∀ w ∈ wsX10, w ∈ wsX2_keep := fun _ h => List.mem_cons_of_mem _ (List.mem_append_left _ (List.mem_append_right _ h))
set_option maxHeartbeats 4000000 in
set_option maxRecDepth 100000 in
theorem MX2_keep (l : Launch) (D : va_G) (cI cJ cB cZ cG cS : ClassId) (sz : Nat) (a_t a_p1 a_t_kept a_p1_upper a_p1_lower a_p1_sum : Nat) (t_size t_top p1_rows p1_columns : Int32) (p1_lower p1_upper : Nat → Int32) (zf : Nat → Int32) (hzf : fJ7_fill_53178 1 (fun _ => 0) 42 = some zf) (pc : PC) (ad : AD) (z_size z_top : Int32) (z_pc : PC) (hf : fX2_keep t_size t_top p1_rows p1_columns p1_lower p1_upper zf pc = some (z_size, z_top, z_pc)) :
    Met l yX2_keep wsX2_keep { frames := 3, cells := 4, slots := 92, locals := 128 } (cP D (tyL cI cJ cB cZ cG cS) [.ref a_t, .ref a_p1] sz (([(a_t, .inr (2, [.int t_size, .ref a_t_kept, .int t_top])), (a_t_kept, .inl (cG, 20, .inr (.inr (.inr (.inr (kF pc ad)))))), (a_p1, .inr (1, [.int p1_rows, .int p1_columns, .ref a_p1_upper, .ref a_p1_lower, .ref a_p1_sum])), (a_p1_lower, .inl (cI, 42, .inl p1_lower)), (a_p1_upper, .inl (cI, 42, .inl p1_upper))] : va_W) ++ dyP cI pc ad)) (cQc D (va_A (([(a_t, .inr (2, [.int t_size, .ref a_t_kept, .int t_top])), (a_t_kept, .inl (cG, 20, .inr (.inr (.inr (.inr (kF pc ad)))))), (a_p1, .inr (1, [.int p1_rows, .int p1_columns, .ref a_p1_upper, .ref a_p1_lower, .ref a_p1_sum])), (a_p1_lower, .inl (cI, 42, .inl p1_lower)), (a_p1_upper, .inl (cI, 42, .inl p1_upper))] : va_W) ++ dyP cI pc ad) sz) (fun u : AD => (([(a_t, .inr (2, [.int z_size, .ref a_t_kept, .int z_top])), (a_t_kept, .inl (cG, 20, .inr (.inr (.inr (.inr (kF z_pc u)))))), (a_p1, .inr (1, [.int p1_rows, .int p1_columns, .ref a_p1_upper, .ref a_p1_lower, .ref a_p1_sum])), (a_p1_lower, .inl (cI, 42, .inl p1_lower)), (a_p1_upper, .inl (cI, 42, .inl p1_upper))] : va_W) ++ dyP cI z_pc u : va_W))) 4 92 (va_A (([(a_t, .inr (2, [.int t_size, .ref a_t_kept, .int t_top])), (a_t_kept, .inl (cG, 20, .inr (.inr (.inr (.inr (kF pc ad)))))), (a_p1, .inr (1, [.int p1_rows, .int p1_columns, .ref a_p1_upper, .ref a_p1_lower, .ref a_p1_sum])), (a_p1_lower, .inl (cI, 42, .inl p1_lower)), (a_p1_upper, .inl (cI, 42, .inl p1_upper))] : va_W) ++ dyP cI pc ad) sz) := by
  refine cMc (Qc := fun A => cQc D A (fun u : AD => (([(a_t, .inr (2, [.int z_size, .ref a_t_kept, .int z_top])), (a_t_kept, .inl (cG, 20, .inr (.inr (.inr (.inr (kF z_pc u)))))), (a_p1, .inr (1, [.int p1_rows, .int p1_columns, .ref a_p1_upper, .ref a_p1_lower, .ref a_p1_sum])), (a_p1_lower, .inl (cI, 42, .inl p1_lower)), (a_p1_upper, .inl (cI, 42, .inl p1_upper))] : va_W) ++ dyP cI z_pc u : va_W))) RX2 (by decide) rfl rfl (Nat.le_of_ble_eq_true rfl) ?_
  intro p e s m below meth c A ls hx hb hr hlk hml hown hts hK hN hP hD hS hA hl hnm
  have hl : lv_has ls 3 [(0, .ref a_t), (1, .ref a_p1)] := hl
  unfold fX2_keep at hf
  refine lv_aload_n hx hb dX2_keep_0 rfl (lv_at hl 0 rfl) ?_
  refine va_get (D := D) (ci := 2) (v := .int t_top) (C := RX2) (T := TX2) (N := 3) hx hb hts inX2_keep_X2 hown hK hP 0 rfl rfl 2 (by decide) (hts (.fieldLink RX2 17 "RowPivots$Past" "top" "I") (List.mem_of_getElem? (i := 1) rfl)) (fun _ h9 => h9) rfl dX2_keep_1 ?_
  refine lv_if_lt (tgt := 16) hx hb dX2_keep_4 (by decide) (fun h0 => ?_) (fun h0 => ?_)
  · have hf := ifP h0 hf
    have hf : (some (t_size, t_top, pc) : Option (Int32 × Int32 × PC)) = some (z_size, z_top, z_pc) := hf
    cases hf
    refine W.widen (k := 4) (n := 92) (Nat.le_of_ble_eq_true rfl) (Nat.le_of_ble_eq_true rfl) ?_
    exact cRc (u := ad) hx hb hr hlk hP hD hS dX2_keep_16
  have hf := ifN h0 hf
  refine lv_aload_n hx hb dX2_keep_7 rfl (lv_at hl 0 rfl) ?_
  refine va_get (D := D) (ci := 2) (v := .int t_top) (C := RX2) (T := TX2) (N := 3) hx hb hts inX2_keep_X2 hown hK hP 0 rfl rfl 2 (by decide) (hts (.fieldLink RX2 17 "RowPivots$Past" "top" "I") (List.mem_of_getElem? (i := 1) rfl)) (fun _ h9 => h9) rfl dX2_keep_8 ?_
  refine lv_bipush (v := 20) hx hb dX2_keep_11 (by decide) ?_
  refine lv_icmp_lt (tgt := 17) hx hb dX2_keep_13 (by decide) (fun h1 => ?_) (fun h1 => ?_)
  rotate_left
  · have hf := ifN h1 hf
    have hf : (some (t_size, t_top, pc) : Option (Int32 × Int32 × PC)) = some (z_size, z_top, z_pc) := hf
    cases hf
    refine W.widen (k := 4) (n := 92) (Nat.le_of_ble_eq_true rfl) (Nat.le_of_ble_eq_true rfl) ?_
    exact cRc (u := ad) hx hb hr hlk hP hD hS dX2_keep_16
  have hf := ifP h1 hf
  have hin := in20 h0 h1
  obtain ⟨i, hi⟩ : ∃ i, i = t_top.toNatClampNeg := ⟨_, rfl⟩
  rw [← hi] at hf
  have hi20 : i < 20 := by rw [hi]; exact in20N hin
  obtain ⟨u, hcu, hf⟩ := bdS hf
  have tail : ∀ (g : GC) (a : GA) (cl sl : Nat) (H : Heap) (locs : List Loc) (ls : Array Slot), cl ≤ 4 → sl ≤ 92 → gUp (pc i) = g.2.2.1 → gLo zf (pc i) = g.2.2.2 → va_P D vwCl (([(a_t, .inr (2, [.int t_size, .ref a_t_kept, .int t_top])), (a_t_kept, .inl (cG, 20, .inr (.inr (.inr (.inr (fun k => if k = i then some a.1 else kF pc ad k)))))), (a_p1, .inr (1, [.int p1_rows, .int p1_columns, .ref a_p1_upper, .ref a_p1_lower, .ref a_p1_sum])), (a_p1_lower, .inl (cI, 42, .inl p1_lower)), (a_p1_upper, .inl (cI, 42, .inl p1_upper)), (a.1, .inr (1, [.int g.1, .int g.2.1, .ref a.2.1, .ref a.2.2.1, .ref a.2.2.2])), (a.2.1, .inl (cI, 42, .inl g.2.2.1)), (a.2.2.1, .inl (cI, 42, .inl g.2.2.2)), (a.2.2.2, .inr (3, [.long 0, .long 1, .int 0]))] : va_W) ++ dyX cI i pc ad) H → va_D A (([(a_t, .inr (2, [.int t_size, .ref a_t_kept, .int t_top])), (a_t_kept, .inl (cG, 20, .inr (.inr (.inr (.inr (fun k => if k = i then some a.1 else kF pc ad k)))))), (a_p1, .inr (1, [.int p1_rows, .int p1_columns, .ref a_p1_upper, .ref a_p1_lower, .ref a_p1_sum])), (a_p1_lower, .inl (cI, 42, .inl p1_lower)), (a_p1_upper, .inl (cI, 42, .inl p1_upper)), (a.1, .inr (1, [.int g.1, .int g.2.1, .ref a.2.1, .ref a.2.2.1, .ref a.2.2.2])), (a.2.1, .inl (cI, 42, .inl g.2.2.1)), (a.2.2.1, .inl (cI, 42, .inl g.2.2.2)), (a.2.2.2, .inr (3, [.long 0, .long 1, .int 0]))] : va_W) ++ dyX cI i pc ad) → va_S A s.heap H locs → lv_has ls 3 [(2, .ref a.1), (0, .ref a_t), (1, .ref a_p1)] → W p l e { frames := 3, cells := 4, slots := 92, locals := 128 } s m ([.ref a_t, .ref a_p1] : List Value).toArray below meth c H locs cl sl (MQ below (cQc D A (fun u : AD => (([(a_t, .inr (2, [.int z_size, .ref a_t_kept, .int z_top])), (a_t_kept, .inl (cG, 20, .inr (.inr (.inr (.inr (kF z_pc u)))))), (a_p1, .inr (1, [.int p1_rows, .int p1_columns, .ref a_p1_upper, .ref a_p1_lower, .ref a_p1_sum])), (a_p1_lower, .inl (cI, 42, .inl p1_lower)), (a_p1_upper, .inl (cI, 42, .inl p1_upper))] : va_W) ++ dyP cI z_pc u : va_W))) ([.ref a_t, .ref a_p1] : List Value).toArray s 4 92 A) (F0 m 49 ls []) := by
    intro g a cl sl H locs ls hcl hsl hgU hgL hP hD hS hl
    rw [hgU, hgL] at hcu
    refine lv_aload_n hx hb dX2_keep_49 rfl (lv_at hl 0 rfl) ?_
    refine lv_aload_n hx hb dX2_keep_50 rfl (lv_at hl 2 rfl) ?_
    refine kVvY (As := [.ref a_p1]) (rest := []) (Y := dyX cI i pc ad) (wx := [(a_t, .inr (2, [.int t_size, .ref a_t_kept, .int t_top])), (a_t_kept, .inl (cG, 20, .inr (.inr (.inr (.inr (fun k => if k = i then some a.1 else kF pc ad k)))))), (a_p1, .inr (1, [.int p1_rows, .int p1_columns, .ref a_p1_upper, .ref a_p1_lower, .ref a_p1_sum])), (a_p1_lower, .inl (cI, 42, .inl p1_lower)), (a_p1_upper, .inl (cI, 42, .inl p1_upper)), (a.1, .inr (1, [.int g.1, .int g.2.1, .ref a.2.1, .ref a.2.2.1, .ref a.2.2.2])), (a.2.1, .inl (cI, 42, .inl g.2.2.1)), (a.2.2.1, .inl (cI, 42, .inl g.2.2.2)), (a.2.2.2, .inr (3, [.long 0, .long 1, .int 0]))]) (w2 := [(a_t, .inr (2, [.int t_size, .ref a_t_kept, .int t_top])), (a_t_kept, .inl (cG, 20, .inr (.inr (.inr (.inr (fun k => if k = i then some a.1 else kF pc ad k)))))), (a_p1, .inr (1, [.int p1_rows, .int p1_columns, .ref a_p1_upper, .ref a_p1_lower, .ref a_p1_sum])), (a_p1_lower, .inl (cI, 42, .inl p1_lower)), (a_p1_upper, .inl (cI, 42, .inl p1_upper)), (a.1, .inr (1, [.int u.1, .int u.2.1, .ref a.2.1, .ref a.2.2.1, .ref a.2.2.2])), (a.2.1, .inl (cI, 42, .inl u.2.2.2)), (a.2.2.1, .inl (cI, 42, .inl u.2.2.1)), (a.2.2.2, .inr (3, [.long 0, .long 1, .int 0]))]) (wr := [(a_t, .inr (2, [.int t_size, .ref a_t_kept, .int t_top])), (a_t_kept, .inl (cG, 20, .inr (.inr (.inr (.inr (fun k => if k = i then some a.1 else kF pc ad k)))))), (a.2.2.2, .inr (3, [.long 0, .long 1, .int 0]))]) (ci := 1) (q0 := 0) ⟨hx, hb, hml, hown, hts⟩ (MX1_copy l D cI cJ cB cZ cG cS _ a.1 a_p1 a.2.1 a.2.2.1 a.2.2.2 a_p1_upper a_p1_lower a_p1_sum g.1 g.2.1 g.2.2.2 g.2.2.1 p1_rows p1_columns p1_lower p1_upper u.1 u.2.1 u.2.2.1 u.2.2.2 hcu) (cwV 1 hts gX2_keep_X1_copy rfl rfl rfl (by decide +kernel) ⟨Nat.le_of_ble_eq_true rfl, Nat.le_of_ble_eq_true rfl⟩) hK hN hP hD hS hA [5, 7, 6, 2, 3, 4] [0, 1, 8] [0, 1, 6, 7, 8, 3, 5, 4, 2] rfl (by decide) rfl (by decide) (by decide) rfl (by decide) rfl rfl rfl hl.1 rfl (Nat.le_of_ble_eq_true rfl) dX2_keep_51 ⟨Nat.le_trans hcl (Nat.le_of_ble_eq_true rfl), Nat.le_trans hsl (Nat.le_of_ble_eq_true rfl)⟩ (fun H locs hP hD hS => ?_)
    refine lv_aload_n hx hb dX2_keep_54 rfl (lv_at hl 1 rfl) ?_
    refine lv_aload_n hx hb dX2_keep_55 rfl (lv_at hl 1 rfl) ?_
    refine va_get (D := D) (ci := 2) (v := .int t_top) (C := RX2) (T := TX2) (N := 3) hx hb hts inX2_keep_X2 hown hK hP 0 rfl rfl 2 (by decide) (hts (.fieldLink RX2 17 "RowPivots$Past" "top" "I") (List.mem_of_getElem? (i := 1) rfl)) (fun _ h9 => h9) rfl dX2_keep_56 ?_
    refine lv_iconst (v := 1) hx hb dX2_keep_59 (by decide) ?_
    refine lv_iadd hx hb dX2_keep_60 ?_
    refine lv_bipush (v := 20) hx hb dX2_keep_61 (by decide) ?_
    refine lv_irem hx hb dX2_keep_63 (by decide) ?_
    refine va_put (D := D) (ci := 2) (v := .int ((t_top + 1) - (t_top + 1) / 20 * 20)) (ty := .int) (C := RX2) (T := TX2) (N := 3) hx hb hts inX2_keep_X2 tyX2 tyX2_ok nmX2 hown hK hP hD hS 0 rfl rfl 2 (by decide) (hts (.fieldLink RX2 17 "RowPivots$Past" "top" "I") (List.mem_of_getElem? (i := 1) rfl)) (fun _ h9 => h9) rfl (by decide +kernel) rfl rfl (Nat.le_of_ble_eq_true rfl) dX2_keep_64 (fun H locs hP hD hS => ?_)
    have hP : va_P D vwCl (([(a_t, .inr (2, [.int t_size, .ref a_t_kept, .int ((t_top + 1) - (t_top + 1) / 20 * 20)])), (a_t_kept, .inl (cG, 20, .inr (.inr (.inr (.inr (fun k => if k = i then some a.1 else kF pc ad k)))))), (a_p1, .inr (1, [.int p1_rows, .int p1_columns, .ref a_p1_upper, .ref a_p1_lower, .ref a_p1_sum])), (a_p1_lower, .inl (cI, 42, .inl p1_lower)), (a_p1_upper, .inl (cI, 42, .inl p1_upper)), (a.1, .inr (1, [.int u.1, .int u.2.1, .ref a.2.1, .ref a.2.2.1, .ref a.2.2.2])), (a.2.1, .inl (cI, 42, .inl u.2.2.2)), (a.2.2.1, .inl (cI, 42, .inl u.2.2.1)), (a.2.2.2, .inr (3, [.long 0, .long 1, .int 0]))] : va_W) ++ dyX cI i pc ad) H := hP
    have hD : va_D A (([(a_t, .inr (2, [.int t_size, .ref a_t_kept, .int ((t_top + 1) - (t_top + 1) / 20 * 20)])), (a_t_kept, .inl (cG, 20, .inr (.inr (.inr (.inr (fun k => if k = i then some a.1 else kF pc ad k)))))), (a_p1, .inr (1, [.int p1_rows, .int p1_columns, .ref a_p1_upper, .ref a_p1_lower, .ref a_p1_sum])), (a_p1_lower, .inl (cI, 42, .inl p1_lower)), (a_p1_upper, .inl (cI, 42, .inl p1_upper)), (a.1, .inr (1, [.int u.1, .int u.2.1, .ref a.2.1, .ref a.2.2.1, .ref a.2.2.2])), (a.2.1, .inl (cI, 42, .inl u.2.2.2)), (a.2.2.1, .inl (cI, 42, .inl u.2.2.1)), (a.2.2.2, .inr (3, [.long 0, .long 1, .int 0]))] : va_W) ++ dyX cI i pc ad) := hD
    refine lv_aload_n hx hb dX2_keep_67 rfl (lv_at hl 1 rfl) ?_
    refine lv_aload_n hx hb dX2_keep_68 rfl (lv_at hl 1 rfl) ?_
    refine va_get (D := D) (ci := 2) (v := .int t_size) (C := RX2) (T := TX2) (N := 3) hx hb hts inX2_keep_X2 hown hK hP 0 rfl rfl 0 (by decide) (hts (.fieldLink RX2 26 "RowPivots$Past" "size" "I") (List.mem_of_getElem? (i := 6) rfl)) (fun _ h9 => h9) rfl dX2_keep_69 ?_
    refine lv_iconst (v := 1) hx hb dX2_keep_72 (by decide) ?_
    refine lv_iadd hx hb dX2_keep_73 ?_
    refine lv_bipush (v := 20) hx hb dX2_keep_74 (by decide) ?_
    refine va_mmin hx hb (hml.trans hl.1.symm) hown (hts (.methodLink RX2 29 Lib.Math.min.name) (List.mem_of_getElem? (i := 7) rfl)) (hts (.static Lib.Math.min.name) (List.mem_of_getElem? (i := 8) rfl)) (hts (.initialized "java/lang/Math") (List.mem_of_getElem? (i := 9) rfl)) (hts (.code Lib.Math.min.name Lib.Math.min.code 2 (some .int)) (List.mem_of_getElem? (i := 10) rfl)) (Nat.le_of_ble_eq_true rfl) (Nat.le_of_ble_eq_true rfl) (Nat.le_trans hcl (Nat.le_of_ble_eq_true rfl)) (Nat.le_trans hsl (Nat.le_of_ble_eq_true rfl)) dX2_keep_76 ?_
    refine va_put (D := D) (ci := 2) (v := .int (if 20 < t_size + 1 then 20 else t_size + 1)) (ty := .int) (C := RX2) (T := TX2) (N := 3) hx hb hts inX2_keep_X2 tyX2 tyX2_ok nmX2 hown hK hP hD hS 0 rfl rfl 0 (by decide) (hts (.fieldLink RX2 26 "RowPivots$Past" "size" "I") (List.mem_of_getElem? (i := 6) rfl)) (fun _ h9 => h9) rfl (by decide +kernel) rfl rfl (Nat.le_of_ble_eq_true rfl) dX2_keep_79 (fun H locs hP hD hS => ?_)
    have hP : va_P D vwCl (([(a_t, .inr (2, [.int (if 20 < t_size + 1 then 20 else t_size + 1), .ref a_t_kept, .int ((t_top + 1) - (t_top + 1) / 20 * 20)])), (a_t_kept, .inl (cG, 20, .inr (.inr (.inr (.inr (fun k => if k = i then some a.1 else kF pc ad k)))))), (a_p1, .inr (1, [.int p1_rows, .int p1_columns, .ref a_p1_upper, .ref a_p1_lower, .ref a_p1_sum])), (a_p1_lower, .inl (cI, 42, .inl p1_lower)), (a_p1_upper, .inl (cI, 42, .inl p1_upper)), (a.1, .inr (1, [.int u.1, .int u.2.1, .ref a.2.1, .ref a.2.2.1, .ref a.2.2.2])), (a.2.1, .inl (cI, 42, .inl u.2.2.2)), (a.2.2.1, .inl (cI, 42, .inl u.2.2.1)), (a.2.2.2, .inr (3, [.long 0, .long 1, .int 0]))] : va_W) ++ dyX cI i pc ad) H := hP
    have hD : va_D A (([(a_t, .inr (2, [.int (if 20 < t_size + 1 then 20 else t_size + 1), .ref a_t_kept, .int ((t_top + 1) - (t_top + 1) / 20 * 20)])), (a_t_kept, .inl (cG, 20, .inr (.inr (.inr (.inr (fun k => if k = i then some a.1 else kF pc ad k)))))), (a_p1, .inr (1, [.int p1_rows, .int p1_columns, .ref a_p1_upper, .ref a_p1_lower, .ref a_p1_sum])), (a_p1_lower, .inl (cI, 42, .inl p1_lower)), (a_p1_upper, .inl (cI, 42, .inl p1_upper)), (a.1, .inr (1, [.int u.1, .int u.2.1, .ref a.2.1, .ref a.2.2.1, .ref a.2.2.2])), (a.2.1, .inl (cI, 42, .inl u.2.2.2)), (a.2.2.1, .inl (cI, 42, .inl u.2.2.1)), (a.2.2.2, .inr (3, [.long 0, .long 1, .int 0]))] : va_W) ++ dyX cI i pc ad) := hD
    have hf : (some ((if 20 < t_size + 1 then 20 else t_size + 1), ((t_top + 1) - (t_top + 1) / 20 * 20), upO pc i (some (u.1, u.2.1, u.2.2.2, u.2.2.1))) : Option (Int32 × Int32 × PC)) = some (z_size, z_top, z_pc) := hf
    cases hf
    refine W.widen (k := 4) (n := 92) hcl hsl ?_
    have hpm : (([(a_t, .inr (2, [.int (if 20 < t_size + 1 then 20 else t_size + 1), .ref a_t_kept, .int ((t_top + 1) - (t_top + 1) / 20 * 20)])), (a_t_kept, .inl (cG, 20, .inr (.inr (.inr (.inr (fun k => if k = i then some a.1 else kF pc ad k)))))), (a_p1, .inr (1, [.int p1_rows, .int p1_columns, .ref a_p1_upper, .ref a_p1_lower, .ref a_p1_sum])), (a_p1_lower, .inl (cI, 42, .inl p1_lower)), (a_p1_upper, .inl (cI, 42, .inl p1_upper)), (a.1, .inr (1, [.int u.1, .int u.2.1, .ref a.2.1, .ref a.2.2.1, .ref a.2.2.2])), (a.2.1, .inl (cI, 42, .inl u.2.2.2)), (a.2.2.1, .inl (cI, 42, .inl u.2.2.1)), (a.2.2.2, .inr (3, [.long 0, .long 1, .int 0]))] : va_W) ++ dyX cI i pc ad).Perm (([(a_t, .inr (2, [.int (if 20 < t_size + 1 then 20 else t_size + 1), .ref a_t_kept, .int ((t_top + 1) - (t_top + 1) / 20 * 20)])), (a_t_kept, .inl (cG, 20, .inr (.inr (.inr (.inr (kF (upO pc i (some (u.1, u.2.1, u.2.2.2, u.2.2.1))) (upO ad i a))))))), (a_p1, .inr (1, [.int p1_rows, .int p1_columns, .ref a_p1_upper, .ref a_p1_lower, .ref a_p1_sum])), (a_p1_lower, .inl (cI, 42, .inl p1_lower)), (a_p1_upper, .inl (cI, 42, .inl p1_upper))] : va_W) ++ dyP cI (upO pc i (some (u.1, u.2.1, u.2.2.2, u.2.2.1))) (upO ad i a)) := by
      rw [kF_up]
      have h := (dyP_split (cI := cI) hi20 (upO pc i (some (u.1, u.2.1, u.2.2.2, u.2.2.1))) (upO ad i a)).symm
      rw [upO_at, upO_at, dyX_up] at h
      exact (List.Perm.refl [(a_t, .inr (2, [.int (if 20 < t_size + 1 then 20 else t_size + 1), .ref a_t_kept, .int ((t_top + 1) - (t_top + 1) / 20 * 20)])), (a_t_kept, .inl (cG, 20, .inr (.inr (.inr (.inr (fun k => if k = i then some a.1 else kF pc ad k)))))), (a_p1, .inr (1, [.int p1_rows, .int p1_columns, .ref a_p1_upper, .ref a_p1_lower, .ref a_p1_sum])), (a_p1_lower, .inl (cI, 42, .inl p1_lower)), (a_p1_upper, .inl (cI, 42, .inl p1_upper))]).append h
    exact cRc (u := upO ad i a) hx hb hr hlk (hP.perm hpm) (hD.perm hpm) hS dX2_keep_82
  refine lv_aload_n hx hb dX2_keep_17 rfl (lv_at hl 0 rfl) ?_
  refine va_get (D := D) (ci := 2) (v := .ref a_t_kept) (C := RX2) (T := TX2) (N := 3) hx hb hts inX2_keep_X2 hown hK hP 0 rfl rfl 1 (by decide) (hts (.fieldLink RX2 11 "RowPivots$Past" "kept" "[LRowPivots$Grid;") (List.mem_of_getElem? (i := 2) rfl)) (fun _ h9 => h9) rfl dX2_keep_18 ?_
  refine lv_aload_n hx hb dX2_keep_21 rfl (lv_at hl 0 rfl) ?_
  refine va_get (D := D) (ci := 2) (v := .int t_top) (C := RX2) (T := TX2) (N := 3) hx hb hts inX2_keep_X2 hown hK hP 0 rfl rfl 2 (by decide) (hts (.fieldLink RX2 17 "RowPivots$Past" "top" "I") (List.mem_of_getElem? (i := 1) rfl)) (fun _ h9 => h9) rfl dX2_keep_22 ?_
  refine va_aldq hx hb hK hP 1 4 rfl rfl hin dX2_keep_25 ?_
  rw [← hi]
  cases hpc : pc i with
  | some g =>
    have hv : va_rf (kF pc ad i) = .ref (ad i).1 := by simp [kF, hpc, va_rf]
    rw [hv]
    refine lv_astore_n (lv' := [(2, .ref (ad i).1), (0, .ref a_t), (1, .ref a_p1)]) hx hb dX2_keep_26 rfl hl (by decide) rfl (fun ls hl => ?_)
    refine lv_aload_n hx hb dX2_keep_27 rfl (lv_at hl 0 rfl) ?_
    refine lv_ifnonnull (tgt := 49) hx hb dX2_keep_28 (by decide) ?_
    have hkf : kF pc ad = (fun k => if k = i then some (ad i).1 else kF pc ad k) := by
      funext k
      by_cases h : k = i
      · rw [if_pos h, h]; simp [kF, hpc]
      · rw [if_neg h]
    have hpm : (([(a_t, .inr (2, [.int t_size, .ref a_t_kept, .int t_top])), (a_t_kept, .inl (cG, 20, .inr (.inr (.inr (.inr (kF pc ad)))))), (a_p1, .inr (1, [.int p1_rows, .int p1_columns, .ref a_p1_upper, .ref a_p1_lower, .ref a_p1_sum])), (a_p1_lower, .inl (cI, 42, .inl p1_lower)), (a_p1_upper, .inl (cI, 42, .inl p1_upper))] : va_W) ++ dyP cI pc ad).Perm (([(a_t, .inr (2, [.int t_size, .ref a_t_kept, .int t_top])), (a_t_kept, .inl (cG, 20, .inr (.inr (.inr (.inr (fun k => if k = i then some (ad i).1 else kF pc ad k)))))), (a_p1, .inr (1, [.int p1_rows, .int p1_columns, .ref a_p1_upper, .ref a_p1_lower, .ref a_p1_sum])), (a_p1_lower, .inl (cI, 42, .inl p1_lower)), (a_p1_upper, .inl (cI, 42, .inl p1_upper)), ((ad i).1, .inr (1, [.int g.1, .int g.2.1, .ref (ad i).2.1, .ref (ad i).2.2.1, .ref (ad i).2.2.2])), ((ad i).2.1, .inl (cI, 42, .inl g.2.2.1)), ((ad i).2.2.1, .inl (cI, 42, .inl g.2.2.2)), ((ad i).2.2.2, .inr (3, [.long 0, .long 1, .int 0]))] : va_W) ++ dyX cI i pc ad) := by
      have h := dyP_split (cI := cI) hi20 pc ad
      rw [hpc] at h
      rw [← hkf]
      exact (List.Perm.refl [(a_t, .inr (2, [.int t_size, .ref a_t_kept, .int t_top])), (a_t_kept, .inl (cG, 20, .inr (.inr (.inr (.inr (kF pc ad)))))), (a_p1, .inr (1, [.int p1_rows, .int p1_columns, .ref a_p1_upper, .ref a_p1_lower, .ref a_p1_sum])), (a_p1_lower, .inl (cI, 42, .inl p1_lower)), (a_p1_upper, .inl (cI, 42, .inl p1_upper))]).append h
    exact tail g (ad i) 0 0 _ _ _ (Nat.zero_le _) (Nat.zero_le _) (by rw [hpc]; rfl) (by rw [hpc]; rfl) (hP.perm hpm) (hD.perm hpm) hS hl
  | none =>
    have hv : va_rf (kF pc ad i) = .null := by simp [kF, hpc, va_rf]
    rw [hv]
    refine lv_astore_nN (lv' := [(2, .null), (0, .ref a_t), (1, .ref a_p1)]) hx hb dX2_keep_26 rfl hl (by decide) rfl (fun ls hl => ?_)
    refine lv_aload_nN hx hb dX2_keep_27 rfl (lv_at hl 0 rfl) ?_
    refine lv_ifnonnullN hx hb dX2_keep_28 ?_
    refine va_new (ci := 1) (fs := [.int 0, .int 0, .null, .null, .null]) (C := RX1) (T := TX1) (N := 5) hx hb hts inX2_keep_X1 tyX1 tyX1_ok hown (hts (.classLink RX2 9 RX1) (List.mem_of_getElem? (i := 3) rfl)) (hts (.instantiable RX1 5) (List.mem_of_getElem? (i := 4) rfl)) (hts (.initialized RX1) (List.mem_of_getElem? (i := 5) rfl)) hK hP hD hS hA rfl (fun j hj => match j, hj with | 0, _ => rfl | 1, _ => rfl | 2, _ => rfl | 3, _ => rfl | 4, _ => rfl | _ + 5, h => absurd h (by omega)) (Nat.le_of_ble_eq_true rfl) (Nat.le_of_ble_eq_true rfl) dX2_keep_31 (fun q H hP hD hS => ?_)
    have hpm : ((([(a_t, .inr (2, [.int t_size, .ref a_t_kept, .int t_top])), (a_t_kept, .inl (cG, 20, .inr (.inr (.inr (.inr (kF pc ad)))))), (a_p1, .inr (1, [.int p1_rows, .int p1_columns, .ref a_p1_upper, .ref a_p1_lower, .ref a_p1_sum])), (a_p1_lower, .inl (cI, 42, .inl p1_lower)), (a_p1_upper, .inl (cI, 42, .inl p1_upper))] : va_W) ++ dyP cI pc ad) ++ ([(q, .inr (1, [.int 0, .int 0, .null, .null, .null]))] : va_W)).Perm (([(a_t, .inr (2, [.int t_size, .ref a_t_kept, .int t_top])), (a_t_kept, .inl (cG, 20, .inr (.inr (.inr (.inr (kF pc ad)))))), (a_p1, .inr (1, [.int p1_rows, .int p1_columns, .ref a_p1_upper, .ref a_p1_lower, .ref a_p1_sum])), (a_p1_lower, .inl (cI, 42, .inl p1_lower)), (a_p1_upper, .inl (cI, 42, .inl p1_upper))] : va_W) ++ (([(q, .inr (1, [.int 0, .int 0, .null, .null, .null]))] : va_W) ++ dyP cI pc ad)) := by
      rw [List.append_assoc]
      exact List.perm_append_comm.append_left _
    refine lv_dup hx hb dX2_keep_34 rfl ?_
    refine kIY (b := q) (rest := [.ref q]) (Y := dyP cI pc ad) (wr := [(a_t, .inr (2, [.int t_size, .ref a_t_kept, .int t_top])), (a_t_kept, .inl (cG, 20, .inr (.inr (.inr (.inr (kF pc ad)))))), (a_p1, .inr (1, [.int p1_rows, .int p1_columns, .ref a_p1_upper, .ref a_p1_lower, .ref a_p1_sum])), (a_p1_lower, .inl (cI, 42, .inl p1_lower)), (a_p1_upper, .inl (cI, 42, .inl p1_upper))]) (wc := [(q, .inr (1, [.int 0, .int 0, .null, .null, .null]))]) ⟨hx, hb, hml, hown, hts⟩ (MX1_init l D cI cJ cB cZ cG cS _ q zf hzf) (cwI 0 hts gX2_keep_X1_init rfl rfl rfl (hts (.initialized RX1) (List.mem_of_getElem? (i := 5) rfl)) (hts (.methodLink RX2 21 yX1_init) (List.mem_of_getElem? (i := 11) rfl)) (hts (.instanceMethod yX1_init) (List.mem_of_getElem? (i := 12) rfl)) rfl (by decide +kernel) ⟨Nat.le_of_ble_eq_true rfl, Nat.le_of_ble_eq_true rfl⟩) hK hN (hP.perm hpm) (hD.perm hpm) hS hA [5] [0, 1, 2, 3, 4] rfl (by decide) rfl (by decide) (by decide) hl.1 rfl (Nat.le_of_ble_eq_true rfl) dX2_keep_35 ⟨Nat.le_of_ble_eq_true rfl, Nat.le_of_ble_eq_true rfl⟩ (fun v H locs hP hD hS => ?_)
    have hP : va_P D vwCl (([(a_t, .inr (2, [.int t_size, .ref a_t_kept, .int t_top])), (a_t_kept, .inl (cG, 20, .inr (.inr (.inr (.inr (kF pc ad)))))), (a_p1, .inr (1, [.int p1_rows, .int p1_columns, .ref a_p1_upper, .ref a_p1_lower, .ref a_p1_sum])), (a_p1_lower, .inl (cI, 42, .inl p1_lower)), (a_p1_upper, .inl (cI, 42, .inl p1_upper)), (q, .inr (1, [.int 2, .int 2, .ref v.1, .ref v.2.1, .ref v.2.2])), (v.1, .inl (cI, 42, .inl (fun _ => 0))), (v.2.1, .inl (cI, 42, .inl zf)), (v.2.2, .inr (3, [.long 0, .long 1, .int 0]))] : va_W) ++ dyP cI pc ad) H := hP
    have hD : va_D A (([(a_t, .inr (2, [.int t_size, .ref a_t_kept, .int t_top])), (a_t_kept, .inl (cG, 20, .inr (.inr (.inr (.inr (kF pc ad)))))), (a_p1, .inr (1, [.int p1_rows, .int p1_columns, .ref a_p1_upper, .ref a_p1_lower, .ref a_p1_sum])), (a_p1_lower, .inl (cI, 42, .inl p1_lower)), (a_p1_upper, .inl (cI, 42, .inl p1_upper)), (q, .inr (1, [.int 2, .int 2, .ref v.1, .ref v.2.1, .ref v.2.2])), (v.1, .inl (cI, 42, .inl (fun _ => 0))), (v.2.1, .inl (cI, 42, .inl zf)), (v.2.2, .inr (3, [.long 0, .long 1, .int 0]))] : va_W) ++ dyP cI pc ad) := hD
    refine lv_astore_n (lv' := [(2, .ref q), (0, .ref a_t), (1, .ref a_p1)]) hx hb dX2_keep_38 rfl hl (by decide) rfl (fun ls hl => ?_)
    refine lv_aload_n hx hb dX2_keep_39 rfl (lv_at hl 1 rfl) ?_
    refine va_get (D := D) (ci := 2) (v := .ref a_t_kept) (C := RX2) (T := TX2) (N := 3) hx hb hts inX2_keep_X2 hown hK hP 0 rfl rfl 1 (by decide) (hts (.fieldLink RX2 11 "RowPivots$Past" "kept" "[LRowPivots$Grid;") (List.mem_of_getElem? (i := 2) rfl)) (fun _ h9 => h9) rfl dX2_keep_40 ?_
    refine lv_aload_n hx hb dX2_keep_43 rfl (lv_at hl 1 rfl) ?_
    refine va_get (D := D) (ci := 2) (v := .int t_top) (C := RX2) (T := TX2) (N := 3) hx hb hts inX2_keep_X2 hown hK hP 0 rfl rfl 2 (by decide) (hts (.fieldLink RX2 17 "RowPivots$Past" "top" "I") (List.mem_of_getElem? (i := 1) rfl)) (fun _ h9 => h9) rfl dX2_keep_44 ?_
    refine lv_aload_n hx hb dX2_keep_47 rfl (lv_at hl 0 rfl) ?_
    refine va_astq hx hb hK hP hD hS 1 4 5 1 rfl rfl rfl rfl hin dX2_keep_48 (fun H locs hP hD hS => ?_)
    have hup : va_up (kF pc ad) t_top.toNatClampNeg (some q) = (fun k => if k = i then some q else kF pc ad k) := by
      funext k
      rw [← hi]
      by_cases h : k = i
      · rw [if_pos h, h, va_up_self]
      · rw [if_neg h, va_up_ne _ _ h]
    have hP : va_P D vwCl (([(a_t, .inr (2, [.int t_size, .ref a_t_kept, .int t_top])), (a_t_kept, .inl (cG, 20, .inr (.inr (.inr (.inr (va_up (kF pc ad) t_top.toNatClampNeg (some q))))))), (a_p1, .inr (1, [.int p1_rows, .int p1_columns, .ref a_p1_upper, .ref a_p1_lower, .ref a_p1_sum])), (a_p1_lower, .inl (cI, 42, .inl p1_lower)), (a_p1_upper, .inl (cI, 42, .inl p1_upper)), (q, .inr (1, [.int 2, .int 2, .ref v.1, .ref v.2.1, .ref v.2.2])), (v.1, .inl (cI, 42, .inl (fun _ => 0))), (v.2.1, .inl (cI, 42, .inl zf)), (v.2.2, .inr (3, [.long 0, .long 1, .int 0]))] : va_W) ++ dyP cI pc ad) H := hP
    have hD : va_D A (([(a_t, .inr (2, [.int t_size, .ref a_t_kept, .int t_top])), (a_t_kept, .inl (cG, 20, .inr (.inr (.inr (.inr (va_up (kF pc ad) t_top.toNatClampNeg (some q))))))), (a_p1, .inr (1, [.int p1_rows, .int p1_columns, .ref a_p1_upper, .ref a_p1_lower, .ref a_p1_sum])), (a_p1_lower, .inl (cI, 42, .inl p1_lower)), (a_p1_upper, .inl (cI, 42, .inl p1_upper)), (q, .inr (1, [.int 2, .int 2, .ref v.1, .ref v.2.1, .ref v.2.2])), (v.1, .inl (cI, 42, .inl (fun _ => 0))), (v.2.1, .inl (cI, 42, .inl zf)), (v.2.2, .inr (3, [.long 0, .long 1, .int 0]))] : va_W) ++ dyP cI pc ad) := hD
    rw [hup] at hP hD
    have hpm : (([(a_t, .inr (2, [.int t_size, .ref a_t_kept, .int t_top])), (a_t_kept, .inl (cG, 20, .inr (.inr (.inr (.inr (fun k => if k = i then some q else kF pc ad k)))))), (a_p1, .inr (1, [.int p1_rows, .int p1_columns, .ref a_p1_upper, .ref a_p1_lower, .ref a_p1_sum])), (a_p1_lower, .inl (cI, 42, .inl p1_lower)), (a_p1_upper, .inl (cI, 42, .inl p1_upper)), (q, .inr (1, [.int 2, .int 2, .ref v.1, .ref v.2.1, .ref v.2.2])), (v.1, .inl (cI, 42, .inl (fun _ => 0))), (v.2.1, .inl (cI, 42, .inl zf)), (v.2.2, .inr (3, [.long 0, .long 1, .int 0]))] : va_W) ++ dyP cI pc ad).Perm (([(a_t, .inr (2, [.int t_size, .ref a_t_kept, .int t_top])), (a_t_kept, .inl (cG, 20, .inr (.inr (.inr (.inr (fun k => if k = i then some q else kF pc ad k)))))), (a_p1, .inr (1, [.int p1_rows, .int p1_columns, .ref a_p1_upper, .ref a_p1_lower, .ref a_p1_sum])), (a_p1_lower, .inl (cI, 42, .inl p1_lower)), (a_p1_upper, .inl (cI, 42, .inl p1_upper)), (q, .inr (1, [.int 2, .int 2, .ref v.1, .ref v.2.1, .ref v.2.2])), (v.1, .inl (cI, 42, .inl (fun _ => 0))), (v.2.1, .inl (cI, 42, .inl zf)), (v.2.2, .inr (3, [.long 0, .long 1, .int 0]))] : va_W) ++ dyX cI i pc ad) := by
      have h := dyP_split (cI := cI) hi20 pc ad
      rw [hpc] at h
      exact (List.Perm.refl [(a_t, .inr (2, [.int t_size, .ref a_t_kept, .int t_top])), (a_t_kept, .inl (cG, 20, .inr (.inr (.inr (.inr (fun k => if k = i then some q else kF pc ad k)))))), (a_p1, .inr (1, [.int p1_rows, .int p1_columns, .ref a_p1_upper, .ref a_p1_lower, .ref a_p1_sum])), (a_p1_lower, .inl (cI, 42, .inl p1_lower)), (a_p1_upper, .inl (cI, 42, .inl p1_upper)), (q, .inr (1, [.int 2, .int 2, .ref v.1, .ref v.2.1, .ref v.2.2])), (v.1, .inl (cI, 42, .inl (fun _ => 0))), (v.2.1, .inl (cI, 42, .inl zf)), (v.2.2, .inr (3, [.long 0, .long 1, .int 0]))]).append h
    exact tail (2, 2, (fun _ => 0), zf) (q, v.1, v.2.1, v.2.2) _ _ _ _ _ (Nat.le_of_ble_eq_true rfl) (Nat.le_of_ble_eq_true rfl) (by rw [hpc]; rfl) (by rw [hpc]; rfl) (hP.perm hpm) (hD.perm hpm) hS hl
theorem inX2_takeBack_X2 : ∀ w ∈ wsX20, w ∈ wsX2_takeBack := fun _ h => List.mem_cons_of_mem _ (List.mem_append_left _ (List.mem_append_right _ h))
set_option maxHeartbeats 4000000 in
set_option maxRecDepth 100000 in
theorem MX2_takeBack (l : Launch) (D : va_G) (cI cJ cB cZ cG cS : ClassId) (sz : Nat) (a_t a_p1 a_t_kept a_p1_upper a_p1_lower a_p1_sum : Nat) (t_size t_top p1_rows p1_columns : Int32) (p1_lower p1_upper : Nat → Int32) (pc : PC) (ad : AD) (z_size z_top z_rows z_columns : Int32) (z_lower z_upper : Nat → Int32) (hf : fX2_takeBack t_size t_top p1_rows p1_columns p1_lower p1_upper pc = some (z_size, z_top, z_rows, z_columns, z_lower, z_upper)) :
    Met l yX2_takeBack wsX2_takeBack { frames := 2, cells := 0, slots := 0, locals := 128 } (cP D (tyL cI cJ cB cZ cG cS) [.ref a_t, .ref a_p1] sz (([(a_t, .inr (2, [.int t_size, .ref a_t_kept, .int t_top])), (a_t_kept, .inl (cG, 20, .inr (.inr (.inr (.inr (kF pc ad)))))), (a_p1, .inr (1, [.int p1_rows, .int p1_columns, .ref a_p1_upper, .ref a_p1_lower, .ref a_p1_sum])), (a_p1_lower, .inl (cI, 42, .inl p1_lower)), (a_p1_upper, .inl (cI, 42, .inl p1_upper))] : va_W) ++ dyP cI pc ad)) (cQc D (va_A (([(a_t, .inr (2, [.int t_size, .ref a_t_kept, .int t_top])), (a_t_kept, .inl (cG, 20, .inr (.inr (.inr (.inr (kF pc ad)))))), (a_p1, .inr (1, [.int p1_rows, .int p1_columns, .ref a_p1_upper, .ref a_p1_lower, .ref a_p1_sum])), (a_p1_lower, .inl (cI, 42, .inl p1_lower)), (a_p1_upper, .inl (cI, 42, .inl p1_upper))] : va_W) ++ dyP cI pc ad) sz) (fun _ : Unit => (([(a_t, .inr (2, [.int z_size, .ref a_t_kept, .int z_top])), (a_t_kept, .inl (cG, 20, .inr (.inr (.inr (.inr (kF pc ad)))))), (a_p1, .inr (1, [.int z_rows, .int z_columns, .ref a_p1_upper, .ref a_p1_lower, .ref a_p1_sum])), (a_p1_lower, .inl (cI, 42, .inl z_lower)), (a_p1_upper, .inl (cI, 42, .inl z_upper))] : va_W) ++ dyP cI pc ad : va_W))) 0 0 (va_A (([(a_t, .inr (2, [.int t_size, .ref a_t_kept, .int t_top])), (a_t_kept, .inl (cG, 20, .inr (.inr (.inr (.inr (kF pc ad)))))), (a_p1, .inr (1, [.int p1_rows, .int p1_columns, .ref a_p1_upper, .ref a_p1_lower, .ref a_p1_sum])), (a_p1_lower, .inl (cI, 42, .inl p1_lower)), (a_p1_upper, .inl (cI, 42, .inl p1_upper))] : va_W) ++ dyP cI pc ad) sz) := by
  refine cMc (Qc := fun A => cQc D A (fun _ : Unit => (([(a_t, .inr (2, [.int z_size, .ref a_t_kept, .int z_top])), (a_t_kept, .inl (cG, 20, .inr (.inr (.inr (.inr (kF pc ad)))))), (a_p1, .inr (1, [.int z_rows, .int z_columns, .ref a_p1_upper, .ref a_p1_lower, .ref a_p1_sum])), (a_p1_lower, .inl (cI, 42, .inl z_lower)), (a_p1_upper, .inl (cI, 42, .inl z_upper))] : va_W) ++ dyP cI pc ad : va_W))) RX2 (by decide) rfl rfl (Nat.le_of_ble_eq_true rfl) ?_
  intro p e s m below meth c A ls hx hb hr hlk hml hown hts hK hN hP hD hS hA hl hnm
  have hl : lv_has ls 4 [(0, .ref a_t), (1, .ref a_p1)] := hl
  unfold fX2_takeBack at hf
  refine lv_aload_n hx hb dX2_takeBack_0 rfl (lv_at hl 0 rfl) ?_
  refine va_get (D := D) (ci := 2) (v := .int t_top) (C := RX2) (T := TX2) (N := 3) hx hb hts inX2_takeBack_X2 hown hK hP 0 rfl rfl 2 (by decide) (hts (.fieldLink RX2 17 "RowPivots$Past" "top" "I") (List.mem_of_getElem? (i := 1) rfl)) (fun _ h9 => h9) rfl dX2_takeBack_1 ?_
  refine lv_bipush (v := 20) hx hb dX2_takeBack_4 (by decide) ?_
  refine lv_iadd hx hb dX2_takeBack_6 ?_
  refine lv_iconst (v := 1) hx hb dX2_takeBack_7 (by decide) ?_
  refine lv_isub hx hb dX2_takeBack_8 ?_
  refine lv_bipush (v := 20) hx hb dX2_takeBack_9 (by decide) ?_
  refine lv_irem hx hb dX2_takeBack_11 (by decide) ?_
  refine lv_topi (fun last elast => ?_)
  have hf := lt_b elast hf
  refine lv_istore_n (lv' := [(2, .int last), (0, .ref a_t), (1, .ref a_p1)]) hx hb dX2_takeBack_12 rfl hl (by decide) rfl (fun ls hl => ?_)
  refine lv_aload_n hx hb dX2_takeBack_13 rfl (lv_at hl 1 rfl) ?_
  refine va_get (D := D) (ci := 2) (v := .int t_size) (C := RX2) (T := TX2) (N := 3) hx hb hts inX2_takeBack_X2 hown hK hP 0 rfl rfl 0 (by decide) (hts (.fieldLink RX2 26 "RowPivots$Past" "size" "I") (List.mem_of_getElem? (i := 2) rfl)) (fun _ h9 => h9) rfl dX2_takeBack_14 ?_
  refine lv_if_eq (tgt := 30) hx hb dX2_takeBack_17 (by decide) (fun h0 => ?_) (fun h0 => ?_)
  · have hf := ifP h0 hf
    have hf : (some (t_size, t_top, p1_rows, p1_columns, p1_lower, p1_upper) : Option (Int32 × Int32 × Int32 × Int32 × (Nat → Int32) × (Nat → Int32))) = some (z_size, z_top, z_rows, z_columns, z_lower, z_upper) := hf
    cases hf
    exact cRc (u := ()) hx hb hr hlk hP hD hS dX2_takeBack_30
  have hf := ifN h0 hf
  refine lv_iload_n hx hb dX2_takeBack_20 rfl (lv_at hl 0 rfl) ?_
  refine lv_if_lt (tgt := 30) hx hb dX2_takeBack_21 (by decide) (fun h1 => ?_) (fun h1 => ?_)
  · have hf := ifP h1 hf
    have hf : (some (t_size, t_top, p1_rows, p1_columns, p1_lower, p1_upper) : Option (Int32 × Int32 × Int32 × Int32 × (Nat → Int32) × (Nat → Int32))) = some (z_size, z_top, z_rows, z_columns, z_lower, z_upper) := hf
    cases hf
    exact cRc (u := ()) hx hb hr hlk hP hD hS dX2_takeBack_30
  have hf := ifN h1 hf
  refine lv_iload_n hx hb dX2_takeBack_24 rfl (lv_at hl 0 rfl) ?_
  refine lv_bipush (v := 20) hx hb dX2_takeBack_25 (by decide) ?_
  refine lv_icmp_lt (tgt := 31) hx hb dX2_takeBack_27 (by decide) (fun h2 => ?_) (fun h2 => ?_)
  rotate_left
  · have hf := ifN h2 hf
    have hf : (some (t_size, t_top, p1_rows, p1_columns, p1_lower, p1_upper) : Option (Int32 × Int32 × Int32 × Int32 × (Nat → Int32) × (Nat → Int32))) = some (z_size, z_top, z_rows, z_columns, z_lower, z_upper) := hf
    cases hf
    exact cRc (u := ()) hx hb hr hlk hP hD hS dX2_takeBack_30
  have hf := ifP h2 hf
  have hin := in20 h1 h2
  obtain ⟨i, hi⟩ : ∃ i, i = last.toNatClampNeg := ⟨_, rfl⟩
  rw [← hi] at hf
  have hi20 : i < 20 := by rw [hi]; exact in20N hin
  refine lv_aload_n hx hb dX2_takeBack_31 rfl (lv_at hl 1 rfl) ?_
  refine va_get (D := D) (ci := 2) (v := .ref a_t_kept) (C := RX2) (T := TX2) (N := 3) hx hb hts inX2_takeBack_X2 hown hK hP 0 rfl rfl 1 (by decide) (hts (.fieldLink RX2 11 "RowPivots$Past" "kept" "[LRowPivots$Grid;") (List.mem_of_getElem? (i := 3) rfl)) (fun _ h9 => h9) rfl dX2_takeBack_32 ?_
  refine lv_iload_n hx hb dX2_takeBack_35 rfl (lv_at hl 0 rfl) ?_
  refine va_aldq hx hb hK hP 1 4 rfl rfl hin dX2_takeBack_36 ?_
  rw [← hi]
  cases hpc : pc i with
  | none =>
    rw [hpc] at hf
    have hv : va_rf (kF pc ad i) = .null := by simp [kF, hpc, va_rf]
    rw [hv]
    refine lv_astore_nN (lv' := [(3, .null), (2, .int last), (0, .ref a_t), (1, .ref a_p1)]) hx hb dX2_takeBack_37 rfl hl (by decide) rfl (fun ls hl => ?_)
    refine lv_aload_nN hx hb dX2_takeBack_38 rfl (lv_at hl 0 rfl) ?_
    refine lv_ifnullN (tgt := 47) hx hb dX2_takeBack_39 (by decide) ?_
    refine lv_aload_n hx hb dX2_takeBack_47 rfl (lv_at hl 2 rfl) ?_
    refine lv_iload_n hx hb dX2_takeBack_48 rfl (lv_at hl 1 rfl) ?_
    refine va_put (D := D) (ci := 2) (v := .int last) (ty := .int) (C := RX2) (T := TX2) (N := 3) hx hb hts inX2_takeBack_X2 tyX2 tyX2_ok nmX2 hown hK hP hD hS 0 rfl rfl 2 (by decide) (hts (.fieldLink RX2 17 "RowPivots$Past" "top" "I") (List.mem_of_getElem? (i := 1) rfl)) (fun _ h9 => h9) rfl (by decide +kernel) rfl rfl (Nat.le_of_ble_eq_true rfl) dX2_takeBack_49 (fun H locs hP hD hS => ?_)
    have hP : va_P D vwCl (([(a_t, .inr (2, [.int t_size, .ref a_t_kept, .int last])), (a_t_kept, .inl (cG, 20, .inr (.inr (.inr (.inr (kF pc ad)))))), (a_p1, .inr (1, [.int p1_rows, .int p1_columns, .ref a_p1_upper, .ref a_p1_lower, .ref a_p1_sum])), (a_p1_lower, .inl (cI, 42, .inl p1_lower)), (a_p1_upper, .inl (cI, 42, .inl p1_upper))] : va_W) ++ dyP cI pc ad) H := hP
    have hD : va_D A (([(a_t, .inr (2, [.int t_size, .ref a_t_kept, .int last])), (a_t_kept, .inl (cG, 20, .inr (.inr (.inr (.inr (kF pc ad)))))), (a_p1, .inr (1, [.int p1_rows, .int p1_columns, .ref a_p1_upper, .ref a_p1_lower, .ref a_p1_sum])), (a_p1_lower, .inl (cI, 42, .inl p1_lower)), (a_p1_upper, .inl (cI, 42, .inl p1_upper))] : va_W) ++ dyP cI pc ad) := hD
    refine lv_aload_n hx hb dX2_takeBack_52 rfl (lv_at hl 2 rfl) ?_
    refine lv_dup hx hb dX2_takeBack_53 rfl ?_
    refine va_get (D := D) (ci := 2) (v := .int t_size) (C := RX2) (T := TX2) (N := 3) hx hb hts inX2_takeBack_X2 hown hK hP 0 rfl rfl 0 (by decide) (hts (.fieldLink RX2 26 "RowPivots$Past" "size" "I") (List.mem_of_getElem? (i := 2) rfl)) (fun _ h9 => h9) rfl dX2_takeBack_54 ?_
    refine lv_iconst (v := 1) hx hb dX2_takeBack_57 (by decide) ?_
    refine lv_isub hx hb dX2_takeBack_58 ?_
    refine va_put (D := D) (ci := 2) (v := .int (t_size - 1)) (ty := .int) (C := RX2) (T := TX2) (N := 3) hx hb hts inX2_takeBack_X2 tyX2 tyX2_ok nmX2 hown hK hP hD hS 0 rfl rfl 0 (by decide) (hts (.fieldLink RX2 26 "RowPivots$Past" "size" "I") (List.mem_of_getElem? (i := 2) rfl)) (fun _ h9 => h9) rfl (by decide +kernel) rfl rfl (Nat.le_of_ble_eq_true rfl) dX2_takeBack_59 (fun H locs hP hD hS => ?_)
    have hP : va_P D vwCl (([(a_t, .inr (2, [.int (t_size - 1), .ref a_t_kept, .int last])), (a_t_kept, .inl (cG, 20, .inr (.inr (.inr (.inr (kF pc ad)))))), (a_p1, .inr (1, [.int p1_rows, .int p1_columns, .ref a_p1_upper, .ref a_p1_lower, .ref a_p1_sum])), (a_p1_lower, .inl (cI, 42, .inl p1_lower)), (a_p1_upper, .inl (cI, 42, .inl p1_upper))] : va_W) ++ dyP cI pc ad) H := hP
    have hD : va_D A (([(a_t, .inr (2, [.int (t_size - 1), .ref a_t_kept, .int last])), (a_t_kept, .inl (cG, 20, .inr (.inr (.inr (.inr (kF pc ad)))))), (a_p1, .inr (1, [.int p1_rows, .int p1_columns, .ref a_p1_upper, .ref a_p1_lower, .ref a_p1_sum])), (a_p1_lower, .inl (cI, 42, .inl p1_lower)), (a_p1_upper, .inl (cI, 42, .inl p1_upper))] : va_W) ++ dyP cI pc ad) := hD
    have hf : (some (t_size - 1, last, p1_rows, p1_columns, p1_lower, p1_upper) : Option (Int32 × Int32 × Int32 × Int32 × (Nat → Int32) × (Nat → Int32))) = some (z_size, z_top, z_rows, z_columns, z_lower, z_upper) := hf
    cases hf
    exact cRc (u := ()) hx hb hr hlk hP hD hS dX2_takeBack_62
  | some g =>
    rw [hpc] at hf
    have hv : va_rf (kF pc ad i) = .ref (ad i).1 := by simp [kF, hpc, va_rf]
    rw [hv]
    refine lv_astore_n (lv' := [(3, .ref (ad i).1), (2, .int last), (0, .ref a_t), (1, .ref a_p1)]) hx hb dX2_takeBack_37 rfl hl (by decide) rfl (fun ls hl => ?_)
    refine lv_aload_n hx hb dX2_takeBack_38 rfl (lv_at hl 0 rfl) ?_
    refine lv_ifnull hx hb dX2_takeBack_39 ?_
    refine lv_aload_n hx hb dX2_takeBack_42 rfl (lv_at hl 3 rfl) ?_
    refine lv_aload_n hx hb dX2_takeBack_43 rfl (lv_at hl 0 rfl) ?_
    obtain ⟨u, hcu, hf⟩ := bdS hf
    have hpm : (([(a_t, .inr (2, [.int t_size, .ref a_t_kept, .int t_top])), (a_t_kept, .inl (cG, 20, .inr (.inr (.inr (.inr (kF pc ad)))))), (a_p1, .inr (1, [.int p1_rows, .int p1_columns, .ref a_p1_upper, .ref a_p1_lower, .ref a_p1_sum])), (a_p1_lower, .inl (cI, 42, .inl p1_lower)), (a_p1_upper, .inl (cI, 42, .inl p1_upper))] : va_W) ++ dyP cI pc ad).Perm (([(a_t, .inr (2, [.int t_size, .ref a_t_kept, .int t_top])), (a_t_kept, .inl (cG, 20, .inr (.inr (.inr (.inr (kF pc ad)))))), (a_p1, .inr (1, [.int p1_rows, .int p1_columns, .ref a_p1_upper, .ref a_p1_lower, .ref a_p1_sum])), (a_p1_lower, .inl (cI, 42, .inl p1_lower)), (a_p1_upper, .inl (cI, 42, .inl p1_upper)), ((ad i).1, .inr (1, [.int g.1, .int g.2.1, .ref (ad i).2.1, .ref (ad i).2.2.1, .ref (ad i).2.2.2])), ((ad i).2.1, .inl (cI, 42, .inl g.2.2.1)), ((ad i).2.2.1, .inl (cI, 42, .inl g.2.2.2)), ((ad i).2.2.2, .inr (3, [.long 0, .long 1, .int 0]))] : va_W) ++ dyX cI i pc ad) := by
      have h := dyP_split (cI := cI) hi20 pc ad
      rw [hpc] at h
      exact (List.Perm.refl [(a_t, .inr (2, [.int t_size, .ref a_t_kept, .int t_top])), (a_t_kept, .inl (cG, 20, .inr (.inr (.inr (.inr (kF pc ad)))))), (a_p1, .inr (1, [.int p1_rows, .int p1_columns, .ref a_p1_upper, .ref a_p1_lower, .ref a_p1_sum])), (a_p1_lower, .inl (cI, 42, .inl p1_lower)), (a_p1_upper, .inl (cI, 42, .inl p1_upper))]).append h
    refine kVvY (As := [.ref (ad i).1]) (rest := []) (Y := dyX cI i pc ad) (wx := [(a_t, .inr (2, [.int t_size, .ref a_t_kept, .int t_top])), (a_t_kept, .inl (cG, 20, .inr (.inr (.inr (.inr (kF pc ad)))))), (a_p1, .inr (1, [.int p1_rows, .int p1_columns, .ref a_p1_upper, .ref a_p1_lower, .ref a_p1_sum])), (a_p1_lower, .inl (cI, 42, .inl p1_lower)), (a_p1_upper, .inl (cI, 42, .inl p1_upper)), ((ad i).1, .inr (1, [.int g.1, .int g.2.1, .ref (ad i).2.1, .ref (ad i).2.2.1, .ref (ad i).2.2.2])), ((ad i).2.1, .inl (cI, 42, .inl g.2.2.1)), ((ad i).2.2.1, .inl (cI, 42, .inl g.2.2.2)), ((ad i).2.2.2, .inr (3, [.long 0, .long 1, .int 0]))]) (w2 := [(a_t, .inr (2, [.int t_size, .ref a_t_kept, .int t_top])), (a_t_kept, .inl (cG, 20, .inr (.inr (.inr (.inr (kF pc ad)))))), (a_p1, .inr (1, [.int u.1, .int u.2.1, .ref a_p1_upper, .ref a_p1_lower, .ref a_p1_sum])), (a_p1_lower, .inl (cI, 42, .inl u.2.2.1)), (a_p1_upper, .inl (cI, 42, .inl u.2.2.2)), ((ad i).1, .inr (1, [.int g.1, .int g.2.1, .ref (ad i).2.1, .ref (ad i).2.2.1, .ref (ad i).2.2.2])), ((ad i).2.1, .inl (cI, 42, .inl g.2.2.1)), ((ad i).2.2.1, .inl (cI, 42, .inl g.2.2.2)), ((ad i).2.2.2, .inr (3, [.long 0, .long 1, .int 0]))]) (wr := [(a_t, .inr (2, [.int t_size, .ref a_t_kept, .int t_top])), (a_t_kept, .inl (cG, 20, .inr (.inr (.inr (.inr (kF pc ad)))))), ((ad i).2.2.2, .inr (3, [.long 0, .long 1, .int 0]))]) (ci := 1) (q0 := 0) ⟨hx, hb, hml, hown, hts⟩ (MX1_copy l D cI cJ cB cZ cG cS _ a_p1 (ad i).1 a_p1_upper a_p1_lower a_p1_sum (ad i).2.1 (ad i).2.2.1 (ad i).2.2.2 p1_rows p1_columns p1_lower p1_upper g.1 g.2.1 g.2.2.2 g.2.2.1 u.1 u.2.1 u.2.2.1 u.2.2.2 hcu) (cwV 1 hts gX2_takeBack_X1_copy rfl rfl rfl (by decide +kernel) ⟨Nat.le_of_ble_eq_true rfl, Nat.le_of_ble_eq_true rfl⟩) hK hN (hP.perm hpm) (hD.perm hpm) hS hA [2, 3, 4, 5, 7, 6] [0, 1, 8] [0, 1, 3, 4, 5, 6, 8, 7, 2] rfl (by decide) rfl (by decide) (by decide) rfl (by decide) rfl rfl rfl hl.1 rfl (Nat.le_of_ble_eq_true rfl) dX2_takeBack_44 ⟨Nat.zero_le _, Nat.zero_le _⟩ (fun H locs hP hD hS => ?_)
    have hpm : (([(a_t, .inr (2, [.int t_size, .ref a_t_kept, .int t_top])), (a_t_kept, .inl (cG, 20, .inr (.inr (.inr (.inr (kF pc ad)))))), (a_p1, .inr (1, [.int u.1, .int u.2.1, .ref a_p1_upper, .ref a_p1_lower, .ref a_p1_sum])), (a_p1_lower, .inl (cI, 42, .inl u.2.2.1)), (a_p1_upper, .inl (cI, 42, .inl u.2.2.2)), ((ad i).1, .inr (1, [.int g.1, .int g.2.1, .ref (ad i).2.1, .ref (ad i).2.2.1, .ref (ad i).2.2.2])), ((ad i).2.1, .inl (cI, 42, .inl g.2.2.1)), ((ad i).2.2.1, .inl (cI, 42, .inl g.2.2.2)), ((ad i).2.2.2, .inr (3, [.long 0, .long 1, .int 0]))] : va_W) ++ dyX cI i pc ad).Perm (([(a_t, .inr (2, [.int t_size, .ref a_t_kept, .int t_top])), (a_t_kept, .inl (cG, 20, .inr (.inr (.inr (.inr (kF pc ad)))))), (a_p1, .inr (1, [.int u.1, .int u.2.1, .ref a_p1_upper, .ref a_p1_lower, .ref a_p1_sum])), (a_p1_lower, .inl (cI, 42, .inl u.2.2.1)), (a_p1_upper, .inl (cI, 42, .inl u.2.2.2))] : va_W) ++ dyP cI pc ad) := by
      have h := (dyP_split (cI := cI) hi20 pc ad).symm
      rw [hpc] at h
      exact (List.Perm.refl [(a_t, .inr (2, [.int t_size, .ref a_t_kept, .int t_top])), (a_t_kept, .inl (cG, 20, .inr (.inr (.inr (.inr (kF pc ad)))))), (a_p1, .inr (1, [.int u.1, .int u.2.1, .ref a_p1_upper, .ref a_p1_lower, .ref a_p1_sum])), (a_p1_lower, .inl (cI, 42, .inl u.2.2.1)), (a_p1_upper, .inl (cI, 42, .inl u.2.2.2))]).append h
    have hP := hP.perm hpm
    have hD := hD.perm hpm
    refine lv_aload_n hx hb dX2_takeBack_47 rfl (lv_at hl 2 rfl) ?_
    refine lv_iload_n hx hb dX2_takeBack_48 rfl (lv_at hl 1 rfl) ?_
    refine va_put (D := D) (ci := 2) (v := .int last) (ty := .int) (C := RX2) (T := TX2) (N := 3) hx hb hts inX2_takeBack_X2 tyX2 tyX2_ok nmX2 hown hK hP hD hS 0 rfl rfl 2 (by decide) (hts (.fieldLink RX2 17 "RowPivots$Past" "top" "I") (List.mem_of_getElem? (i := 1) rfl)) (fun _ h9 => h9) rfl (by decide +kernel) rfl rfl (Nat.le_of_ble_eq_true rfl) dX2_takeBack_49 (fun H locs hP hD hS => ?_)
    have hP : va_P D vwCl (([(a_t, .inr (2, [.int t_size, .ref a_t_kept, .int last])), (a_t_kept, .inl (cG, 20, .inr (.inr (.inr (.inr (kF pc ad)))))), (a_p1, .inr (1, [.int u.1, .int u.2.1, .ref a_p1_upper, .ref a_p1_lower, .ref a_p1_sum])), (a_p1_lower, .inl (cI, 42, .inl u.2.2.1)), (a_p1_upper, .inl (cI, 42, .inl u.2.2.2))] : va_W) ++ dyP cI pc ad) H := hP
    have hD : va_D A (([(a_t, .inr (2, [.int t_size, .ref a_t_kept, .int last])), (a_t_kept, .inl (cG, 20, .inr (.inr (.inr (.inr (kF pc ad)))))), (a_p1, .inr (1, [.int u.1, .int u.2.1, .ref a_p1_upper, .ref a_p1_lower, .ref a_p1_sum])), (a_p1_lower, .inl (cI, 42, .inl u.2.2.1)), (a_p1_upper, .inl (cI, 42, .inl u.2.2.2))] : va_W) ++ dyP cI pc ad) := hD
    refine lv_aload_n hx hb dX2_takeBack_52 rfl (lv_at hl 2 rfl) ?_
    refine lv_dup hx hb dX2_takeBack_53 rfl ?_
    refine va_get (D := D) (ci := 2) (v := .int t_size) (C := RX2) (T := TX2) (N := 3) hx hb hts inX2_takeBack_X2 hown hK hP 0 rfl rfl 0 (by decide) (hts (.fieldLink RX2 26 "RowPivots$Past" "size" "I") (List.mem_of_getElem? (i := 2) rfl)) (fun _ h9 => h9) rfl dX2_takeBack_54 ?_
    refine lv_iconst (v := 1) hx hb dX2_takeBack_57 (by decide) ?_
    refine lv_isub hx hb dX2_takeBack_58 ?_
    refine va_put (D := D) (ci := 2) (v := .int (t_size - 1)) (ty := .int) (C := RX2) (T := TX2) (N := 3) hx hb hts inX2_takeBack_X2 tyX2 tyX2_ok nmX2 hown hK hP hD hS 0 rfl rfl 0 (by decide) (hts (.fieldLink RX2 26 "RowPivots$Past" "size" "I") (List.mem_of_getElem? (i := 2) rfl)) (fun _ h9 => h9) rfl (by decide +kernel) rfl rfl (Nat.le_of_ble_eq_true rfl) dX2_takeBack_59 (fun H locs hP hD hS => ?_)
    have hP : va_P D vwCl (([(a_t, .inr (2, [.int (t_size - 1), .ref a_t_kept, .int last])), (a_t_kept, .inl (cG, 20, .inr (.inr (.inr (.inr (kF pc ad)))))), (a_p1, .inr (1, [.int u.1, .int u.2.1, .ref a_p1_upper, .ref a_p1_lower, .ref a_p1_sum])), (a_p1_lower, .inl (cI, 42, .inl u.2.2.1)), (a_p1_upper, .inl (cI, 42, .inl u.2.2.2))] : va_W) ++ dyP cI pc ad) H := hP
    have hD : va_D A (([(a_t, .inr (2, [.int (t_size - 1), .ref a_t_kept, .int last])), (a_t_kept, .inl (cG, 20, .inr (.inr (.inr (.inr (kF pc ad)))))), (a_p1, .inr (1, [.int u.1, .int u.2.1, .ref a_p1_upper, .ref a_p1_lower, .ref a_p1_sum])), (a_p1_lower, .inl (cI, 42, .inl u.2.2.1)), (a_p1_upper, .inl (cI, 42, .inl u.2.2.2))] : va_W) ++ dyP cI pc ad) := hD
    have hf : (some (t_size - 1, last, u.1, u.2.1, u.2.2.1, u.2.2.2) : Option (Int32 × Int32 × Int32 × Int32 × (Nat → Int32) × (Nat → Int32))) = some (z_size, z_top, z_rows, z_columns, z_lower, z_upper) := hf
    cases hf
    exact cRc (u := ()) hx hb hr hlk hP hD hS dX2_takeBack_62
