/-! Worlds with a tail: the grids that the past keeps, the images. -/
theorem va_P.mem {D : va_G} {cl : List vw_C} {ws : va_W} {H : Heap} (h : va_P D cl ws H) {q : Nat × va_E} (hq : q ∈ ws) : va_at D cl q H := by
  obtain ⟨k, hk⟩ := List.getElem?_of_mem hq
  exact h k q hk
theorem va_P.ofMem {D : va_G} {cl : List vw_C} {ws : va_W} {H : Heap} (h : ∀ q ∈ ws, va_at D cl q H) : va_P D cl ws H := fun _ q hk => h q (List.mem_of_getElem? hk)
theorem va_D.ofNd {A : Nat → Prop} {ws : va_W} (h1 : (ws.map (fun q => q.1)).Nodup) (h2 : ∀ q ∈ ws, A q.1) : va_D A ws := by
  refine ⟨fun i j p q hi hj e => ?_, fun k q hk => h2 q (List.mem_of_getElem? hk)⟩
  have hi' : (ws.map (fun q => q.1))[i]? = some p.1 := by rw [List.getElem?_map, hi]; rfl
  have hj' : (ws.map (fun q => q.1))[j]? = some p.1 := by rw [List.getElem?_map, hj, e]; rfl
  have hlt : i < (ws.map (fun q => q.1)).length := (List.getElem?_eq_some_iff.mp hi').1
  exact (List.getElem?_inj hlt h1).mp (hi'.trans hj'.symm)
theorem va_D.nd {A : Nat → Prop} {ws : va_W} (h : va_D A ws) : (ws.map (fun q => q.1)).Nodup := by
  induction ws with
  | nil => exact List.nodup_nil
  | cons q ws ih =>
    rw [List.map_cons, List.nodup_cons]
    refine ⟨fun hm => ?_, ih ⟨fun i j x y hi hj e => ?_, fun k x hk => h.2 (k + 1) x (by rw [List.getElem?_cons_succ]; exact hk)⟩⟩
    · obtain ⟨x, hx, e⟩ := List.mem_map.mp hm
      obtain ⟨k, hk⟩ := List.getElem?_of_mem hx
      have := h.1 0 (k + 1) q x (by rw [List.getElem?_cons_zero]) (by rw [List.getElem?_cons_succ]; exact hk) e.symm
      omega
    · have := h.1 (i + 1) (j + 1) x y (by rw [List.getElem?_cons_succ]; exact hi) (by rw [List.getElem?_cons_succ]; exact hj) e
      omega
theorem va_D.inA {A : Nat → Prop} {ws : va_W} (h : va_D A ws) {q : Nat × va_E} (hq : q ∈ ws) : A q.1 := by
  obtain ⟨k, hk⟩ := List.getElem?_of_mem hq
  exact h.2 k q hk
theorem va_P.perm {D : va_G} {cl : List vw_C} {w w' : va_W} {H : Heap} (h : va_P D cl w H) (hp : w.Perm w') : va_P D cl w' H := va_P.ofMem (fun _ hq => h.mem (hp.mem_iff.mpr hq))
theorem va_D.perm {A : Nat → Prop} {w w' : va_W} (h : va_D A w) (hp : w.Perm w') : va_D A w' := va_D.ofNd ((hp.map _).nodup_iff.mp h.nd) (fun _ hq => h.inA (hp.mem_iff.mpr hq))
theorem va_P.left {D : va_G} {cl : List vw_C} {w Y : va_W} {H : Heap} (h : va_P D cl (w ++ Y) H) : va_P D cl w H := va_P.ofMem (fun _ hq => h.mem (List.mem_append_left _ hq))
theorem va_P.right {D : va_G} {cl : List vw_C} {w Y : va_W} {H : Heap} (h : va_P D cl (w ++ Y) H) : va_P D cl Y H := va_P.ofMem (fun _ hq => h.mem (List.mem_append_right _ hq))
theorem va_D.left {A : Nat → Prop} {w Y : va_W} (h : va_D A (w ++ Y)) : va_D A w := va_D.ofNd (by have := h.nd; rw [List.map_append] at this; exact (List.nodup_append.mp this).1) (fun _ hq => h.inA (List.mem_append_left _ hq))
theorem va_D.right {A : Nat → Prop} {w Y : va_W} (h : va_D A (w ++ Y)) : va_D A Y := va_D.ofNd (by have := h.nd; rw [List.map_append] at this; exact (List.nodup_append.mp this).2.1) (fun _ hq => h.inA (List.mem_append_right _ hq))
theorem va_D.apart2 {A : Nat → Prop} {w Y : va_W} (h : va_D A (w ++ Y)) {x y : Nat × va_E} (hx : x ∈ w) (hy : y ∈ Y) : x.1 ≠ y.1 := by
  have := h.nd
  rw [List.map_append] at this
  exact (List.nodup_append.mp this).2.2 _ (List.mem_map.mpr ⟨x, hx, rfl⟩) _ (List.mem_map.mpr ⟨y, hy, rfl⟩)
theorem va_D.app2 {A : Nat → Prop} {w Y : va_W} (h1 : va_D A w) (h2 : va_D A Y) (h : ∀ x ∈ w, ∀ y ∈ Y, x.1 ≠ y.1) : va_D A (w ++ Y) := va_D.app h1 h2 (fun _ _ p q hp hq => h p (List.mem_of_getElem? hp) q (List.mem_of_getElem? hq))
theorem mem_of_map {wx wc : va_W} {is : List Nat} (h : is.map (fun i => wx[i]?) = wc.map some) {q : Nat × va_E} (hq : q ∈ wc) : q ∈ wx := by
  have : some q ∈ is.map (fun i => wx[i]?) := by rw [h]; exact List.mem_map.mpr ⟨q, hq, rfl⟩
  obtain ⟨i, -, hi⟩ := List.mem_map.mp this
  exact List.mem_of_getElem? hi
theorem va_A_iff {wc : va_W} {sz q : Nat} : va_A wc sz q ↔ (∃ x ∈ wc, x.1 = q) ∨ sz ≤ q := by
  constructor
  · rintro (⟨k, e, h⟩ | h)
    · exact Or.inl ⟨(q, e), List.mem_of_getElem? h, rfl⟩
    · exact Or.inr h
  · rintro (⟨x, hx, rfl⟩ | h)
    · obtain ⟨k, hk⟩ := List.getElem?_of_mem hx
      exact Or.inl ⟨k, x.2, hk⟩
    · exact Or.inr h
section TAIL
variable {p : Program} {l : Launch} {e : Env} {R : Room} {s : State} {m : MethodId} {args : Array Value} {below : List Frame} {meth : Method} {c : Code} {H H1 : Heap} {locs locs1 : List Loc} {cells slots : Nat} {Q : State → Prop} {D : va_G} {tys : List (ClassId × FieldType)} {A : Nat → Prop} {cc bytes : ByteArray} {pc nL maxL n index mc ms : Nat} {ls : Array Slot} {wx wc wr w1 w2 Y Y1 : va_W} {Ts ws : List Cond} {own C : String} {y : MethodName} {ret : Option FieldType} {rm : Room} {b : Nat} {As rest st : List Value}
/-- the tail is what it was -/
theorem kJY (hP : va_P D vwCl (wx ++ Y) H) (hD : va_D A (wx ++ Y)) (hS : va_S A s.heap H locs) (hA : ∀ q, s.heap.size ≤ q → A q) (isC isR isP : List Nat) (hC : isC.map (fun i => wx[i]?) = wc.map some) (hR : isR.map (fun i => wx[i]?) = wr.map some) (hnd : va_nd isR = true) (hdis : ∀ i ∈ isR, i ∉ isC) (hp2 : isP.map (fun i => (wr ++ w1)[i]?) = w2.map some) (hnp : va_nd isP = true)
    (hk : ∀ q : Nat, q < H.size → ¬ va_A wc H.size q → H1[q]? = H[q]?) (hP1 : va_P D vwCl w1 H1) (hD1 : va_D (va_A wc H.size) w1) : va_P D vwCl (w2 ++ Y) H1 ∧ va_D A (w2 ++ Y) := by
  obtain ⟨h1, h2⟩ := kJ (locs1 := locs) hP.left hD.left hS hA isC isR isP hC hR hnd hdis hp2 hnp hk hP1 hD1
  have hYlt : ∀ y ∈ Y, y.1 < H.size := fun y hy => (hP.right.mem hy).lt
  have hYn : ∀ y ∈ Y, ¬ va_A wc H.size y.1 := by
    intro y hy h
    rcases va_A_iff.mp h with ⟨x, hx, e⟩ | h
    · exact hD.apart2 (mem_of_map hC hx) hy e
    · exact absurd (hYlt y hy) (by omega)
  refine ⟨va_P.app h1 (va_P.ofMem (fun y hy => (hP.right.mem hy).kept (hk y.1 (hYlt y hy) (hYn y hy)))), va_D.app2 h2 hD.right (fun x hx y hy e => ?_)⟩
  rcases List.mem_append.mp (mem_of_map hp2 hx) with hx | hx
  · exact hD.apart2 (mem_of_map hR hx) hy e
  · exact hYn y hy (by rw [← e]; exact hD1.inA hx)
theorem kViY {r : Int32} {q0 ci : Nat} {q : vw_C} {fs : List Value} (S : CallFix p m c cc nL s args Ts own) (hM : Met l y ws rm (cP D tys (.ref b :: As) H.size wc) (cQi D (va_A wc H.size) r w1) 0 0 (va_A wc H.size)) (cw : CallW R s args own q.1 index y bytes maxL ret ws rm 0 0 n)
    (hK : va_K D vwCl tys s) (hN : EN A s) (hP : va_P D vwCl (wx ++ Y) H) (hD : va_D A (wx ++ Y)) (hS : va_S A s.heap H locs) (hA : ∀ q, s.heap.size ≤ q → A q) (isC isR isP : List Nat) (hC : isC.map (fun i => wx[i]?) = wc.map some) (hnc : va_nd isC = true) (hR : isR.map (fun i => wx[i]?) = wr.map some) (hnd : va_nd isR = true) (hdis : ∀ i ∈ isR, i ∉ isC) (hp2 : isP.map (fun i => (wr ++ w1)[i]?) = w2.map some) (hnp : va_nd isP = true)
    (hc : vwCl[ci]? = some q) (he : wc[q0]? = some (b, .inr (ci, fs))) (hn : As.length = n) (hsize : ls.size = nL) (hst : st = As.reverse ++ .ref b :: rest) (hW : (rest.map fun v => v.category).sum ≤ 8) (hdg : decode cc pc = .ok (.invokevirtual index, 3)) (hf : cells ≤ R.cells ∧ slots ≤ R.slots)
    (kk : ∀ (H1 : Heap) (locs1 : List Loc), va_P D vwCl (w2 ++ Y) H1 → va_D A (w2 ++ Y) → va_S A s.heap H1 locs1 → W p l e R s m args below meth c H1 locs1 cells slots Q (F0 m (pc + 3) ls (.int r :: rest))) : W p l e R s m args below meth c H locs cells slots Q (F0 m pc ls st) := by
  subst hst
  have hF := va_free hD.left hS hA isC hC
  refine va_calli (va_runV (As := As) (rest := rest) S hM cw (kPv hK hN hP.left hD.left hS hA isC hC hnc hc he) rfl hn hsize rfl (lv_room hW) hdg hf) hS (fun q _ h => hF q h) hF (fun r' u t H1 locs1 ht hvm hw hB hz hk hS1 => ?_)
  obtain ⟨hP1, hD1⟩ := hB
  rw [ht] at hP1
  subst hw
  obtain ⟨h1, h2⟩ := kJY hP hD hS hA isC isR isP hC hR hnd hdis hp2 hnp hk hP1 hD1
  exact kk H1 locs1 h1 h2 hS1
theorem kVvY {q0 ci : Nat} {q : vw_C} {fs : List Value} (S : CallFix p m c cc nL s args Ts own) (hM : Met l y ws rm (cP D tys (.ref b :: As) H.size wc) (cQv D (va_A wc H.size) w1) 0 0 (va_A wc H.size)) (cw : CallW R s args own q.1 index y bytes maxL ret ws rm 0 0 n)
    (hK : va_K D vwCl tys s) (hN : EN A s) (hP : va_P D vwCl (wx ++ Y) H) (hD : va_D A (wx ++ Y)) (hS : va_S A s.heap H locs) (hA : ∀ q, s.heap.size ≤ q → A q) (isC isR isP : List Nat) (hC : isC.map (fun i => wx[i]?) = wc.map some) (hnc : va_nd isC = true) (hR : isR.map (fun i => wx[i]?) = wr.map some) (hnd : va_nd isR = true) (hdis : ∀ i ∈ isR, i ∉ isC) (hp2 : isP.map (fun i => (wr ++ w1)[i]?) = w2.map some) (hnp : va_nd isP = true)
    (hc : vwCl[ci]? = some q) (he : wc[q0]? = some (b, .inr (ci, fs))) (hn : As.length = n) (hsize : ls.size = nL) (hst : st = As.reverse ++ .ref b :: rest) (hW : (rest.map fun v => v.category).sum ≤ 8) (hdg : decode cc pc = .ok (.invokevirtual index, 3)) (hf : cells ≤ R.cells ∧ slots ≤ R.slots)
    (kk : ∀ (H1 : Heap) (locs1 : List Loc), va_P D vwCl (w2 ++ Y) H1 → va_D A (w2 ++ Y) → va_S A s.heap H1 locs1 → W p l e R s m args below meth c H1 locs1 cells slots Q (F0 m (pc + 3) ls rest)) : W p l e R s m args below meth c H locs cells slots Q (F0 m pc ls st) := by
  subst hst
  have hF := va_free hD.left hS hA isC hC
  refine va_callv (va_runV (As := As) (rest := rest) S hM cw (kPv hK hN hP.left hD.left hS hA isC hC hnc hc he) rfl hn hsize rfl (lv_room hW) hdg hf) hS (fun q _ h => hF q h) hF (fun u t H1 locs1 ht hvm hw hB hz hk hS1 => ?_)
  obtain ⟨hP1, hD1⟩ := hB
  rw [ht] at hP1
  obtain ⟨h1, h2⟩ := kJY hP hD hS hA isC isR isP hC hR hnd hdis hp2 hnp hk hP1 hD1
  exact kk H1 locs1 h1 h2 hS1
/-- a static method of no cells, or a constructor, beside a tail -/
theorem kSiY {r : Int32} (S : CallFix p m c cc nL s args Ts own) (hM : Met l y ws rm (cP D tys As H.size wc) (cQi D (va_A wc H.size) r w1) 0 0 (va_A wc H.size)) (cw : CallB R s args own index y bytes maxL ret ws rm 0 0 n ∧ (Cond.static y).before args s = true)
    (hK : va_K D vwCl tys s) (hN : EN A s) (hP : va_P D vwCl (wx ++ Y) H) (hD : va_D A (wx ++ Y)) (hS : va_S A s.heap H locs) (hA : ∀ q, s.heap.size ≤ q → A q) (isC isR isP : List Nat) (hC : isC.map (fun i => wx[i]?) = wc.map some) (hnc : va_nd isC = true) (hR : isR.map (fun i => wx[i]?) = wr.map some) (hnd : va_nd isR = true) (hdis : ∀ i ∈ isR, i ∉ isC) (hp2 : isP.map (fun i => (wr ++ w1)[i]?) = w2.map some) (hnp : va_nd isP = true)
    (hn : As.length = n) (hsize : ls.size = nL) (hst : st = As.reverse ++ rest) (hW : (rest.map fun v => v.category).sum ≤ 8) (hdg : decode cc pc = .ok (.invokestatic index, 3)) (hf : cells ≤ R.cells ∧ slots ≤ R.slots)
    (kk : ∀ (H1 : Heap) (locs1 : List Loc), va_P D vwCl (w2 ++ Y) H1 → va_D A (w2 ++ Y) → va_S A s.heap H1 locs1 → W p l e R s m args below meth c H1 locs1 cells slots Q (F0 m (pc + 3) ls (.int r :: rest))) : W p l e R s m args below meth c H locs cells slots Q (F0 m pc ls st) := by
  subst hst
  have hF := va_free hD.left hS hA isC hC
  refine va_calli (va_runS (As := As) (rest := rest) S hM cw (kPs hK hN hP.left hD.left hS hA isC hC hnc) rfl hn hsize rfl (lv_room hW) hdg hf) hS (fun q _ h => hF q h) hF (fun r' u t H1 locs1 ht hvm hw hB hz hk hS1 => ?_)
  obtain ⟨hP1, hD1⟩ := hB
  rw [ht] at hP1
  subst hw
  obtain ⟨h1, h2⟩ := kJY hP hD hS hA isC isR isP hC hR hnd hdis hp2 hnp hk hP1 hD1
  exact kk H1 locs1 h1 h2 hS1
variable {S : Type} {v1 : S → va_W}
theorem kIY (Sx : CallFix p m c cc nL s args Ts own) (hM : Met l y ws rm (cP D tys [.ref b] H.size wc) (cQc D (va_A wc H.size) v1) mc ms (va_A wc H.size)) (cw : CallB R s args own index y bytes maxL none ws rm mc ms 0 ∧ y.name = "<init>" ∧ (Cond.instanceMethod y).before args s = true)
    (hK : va_K D vwCl tys s) (hN : EN A s) (hP : va_P D vwCl (wr ++ (wc ++ Y)) H) (hD : va_D A (wr ++ (wc ++ Y))) (hS : va_S A s.heap H locs) (hA : ∀ q, s.heap.size ≤ q → A q) (isC isR : List Nat) (hC : isC.map (fun i => (wr ++ wc)[i]?) = wc.map some) (hnc : va_nd isC = true) (hR : isR.map (fun i => (wr ++ wc)[i]?) = wr.map some) (hnd : va_nd isR = true) (hdis : ∀ i ∈ isR, i ∉ isC)
    (hsize : ls.size = nL) (hst : st = .ref b :: rest) (hW : (rest.map fun v => v.category).sum ≤ 8) (hdg : decode cc pc = .ok (.invokespecial index, 3)) (hf : cells + mc ≤ R.cells ∧ slots + ms ≤ R.slots)
    (kk : ∀ (u : S) (H1 : Heap) (locs1 : List Loc), va_P D vwCl ((wr ++ v1 u) ++ Y) H1 → va_D A ((wr ++ v1 u) ++ Y) → va_S A s.heap H1 locs1 → W p l e R s m args below meth c H1 locs1 (cells + mc) (slots + ms) Q (F0 m (pc + 3) ls rest)) : W p l e R s m args below meth c H locs cells slots Q (F0 m pc ls st) := by
  subst hst
  rw [← List.append_assoc] at hP hD
  have hF := va_free hD.left hS hA isC hC
  refine va_callv (va_runI (As := []) (rest := rest) Sx hM cw (kPs hK hN hP.left hD.left hS hA isC hC hnc) rfl rfl hsize rfl (lv_room hW) hdg hf) hS (fun q _ h => hF q h) hF (fun u t H1 locs1 ht hvm hw hB hz hk hS1 => ?_)
  obtain ⟨hP1, hD1⟩ := hB
  rw [ht] at hP1
  obtain ⟨h1, h2⟩ := va_join hP.left hD.left isC isR hC hR hnd hdis hk hF hP1 hD1
  have hYlt : ∀ y ∈ Y, y.1 < H.size := fun y hy => (hP.right.mem hy).lt
  have hYn : ∀ y ∈ Y, ¬ va_A wc H.size y.1 := by
    intro y hy h
    rcases va_A_iff.mp h with ⟨x, hx, e⟩ | h
    · exact hD.apart2 (mem_of_map hC hx) hy e
    · exact absurd (hYlt y hy) (by omega)
  refine kk u H1 locs1 (va_P.app h1 (va_P.ofMem (fun y hy => (hP.right.mem hy).kept (hk y.1 (hYlt y hy) (hYn y hy))))) (va_D.app2 h2 hD.right (fun x hx y hy e => ?_)) hS1
  rcases List.mem_append.mp hx with hx | hx
  · exact hD.apart2 (mem_of_map hR hx) hy e
  · exact hYn y hy (by rw [← e]; exact hD1.inA hx)
theorem kINY {host : String} (Sx : CallFix p m c cc nL s args Ts own) (hM : Met l y ws rm (cP D tys [.ref b] H.size wc) (cQc D (va_A wc H.size) v1) mc ms (va_A wc H.size)) (cw : va_CN R s args own index y host bytes maxL none ws rm mc ms 0 ∧ y.name = "<init>" ∧ (Cond.instanceMethod y).before args s = true)
    (hK : va_K D vwCl tys s) (hN : EN A s) (hP : va_P D vwCl (wr ++ (wc ++ Y)) H) (hD : va_D A (wr ++ (wc ++ Y))) (hS : va_S A s.heap H locs) (hA : ∀ q, s.heap.size ≤ q → A q) (isC isR : List Nat) (hC : isC.map (fun i => (wr ++ wc)[i]?) = wc.map some) (hnc : va_nd isC = true) (hR : isR.map (fun i => (wr ++ wc)[i]?) = wr.map some) (hnd : va_nd isR = true) (hdis : ∀ i ∈ isR, i ∉ isC)
    (hsize : ls.size = nL) (hst : st = .ref b :: rest) (hW : (rest.map fun v => v.category).sum ≤ 8) (hdg : decode cc pc = .ok (.invokespecial index, 3)) (hf : cells + mc ≤ R.cells ∧ slots + ms ≤ R.slots)
    (kk : ∀ (u : S) (H1 : Heap) (locs1 : List Loc), va_P D vwCl ((wr ++ v1 u) ++ Y) H1 → va_D A ((wr ++ v1 u) ++ Y) → va_S A s.heap H1 locs1 → W p l e R s m args below meth c H1 locs1 (cells + mc) (slots + ms) Q (F0 m (pc + 3) ls rest)) : W p l e R s m args below meth c H locs cells slots Q (F0 m pc ls st) := by
  subst hst
  rw [← List.append_assoc] at hP hD
  have hF := va_free hD.left hS hA isC hC
  refine va_callv (va_runIN (As := []) (rest := rest) Sx hM cw (kPs hK hN hP.left hD.left hS hA isC hC hnc) rfl rfl hsize rfl (lv_room hW) hdg hf) hS (fun q _ h => hF q h) hF (fun u t H1 locs1 ht hvm hw hB hz hk hS1 => ?_)
  obtain ⟨hP1, hD1⟩ := hB
  rw [ht] at hP1
  obtain ⟨h1, h2⟩ := va_join hP.left hD.left isC isR hC hR hnd hdis hk hF hP1 hD1
  have hYlt : ∀ y ∈ Y, y.1 < H.size := fun y hy => (hP.right.mem hy).lt
  have hYn : ∀ y ∈ Y, ¬ va_A wc H.size y.1 := by
    intro y hy h
    rcases va_A_iff.mp h with ⟨x, hx, e⟩ | h
    · exact hD.apart2 (mem_of_map hC hx) hy e
    · exact absurd (hYlt y hy) (by omega)
  refine kk u H1 locs1 (va_P.app h1 (va_P.ofMem (fun y hy => (hP.right.mem hy).kept (hk y.1 (hYlt y hy) (hYn y hy))))) (va_D.app2 h2 hD.right (fun x hx y hy e => ?_)) hS1
  rcases List.mem_append.mp hx with hx | hx
  · exact hD.apart2 (mem_of_map hR hx) hy e
  · exact hYn y hy (by rw [← e]; exact hD1.inA hx)
/-- the callee has the tail, too, and may make cells -/
theorem kJD {u : S} {Y1 : S → va_W} (hP : va_P D vwCl (wx ++ Y) H) (hD : va_D A (wx ++ Y)) (hS : va_S A s.heap H locs) (hA : ∀ q, s.heap.size ≤ q → A q) (isC isR isP : List Nat) (hC : isC.map (fun i => wx[i]?) = wc.map some) (hR : isR.map (fun i => wx[i]?) = wr.map some) (hnd : va_nd isR = true) (hdis : ∀ i ∈ isR, i ∉ isC) {w2 : S → va_W} (hp2 : isP.map (fun i => (wr ++ v1 u)[i]?) = (w2 u).map some) (hnp : va_nd isP = true)
    (hk : ∀ q : Nat, q < H.size → ¬ va_A (wc ++ Y) H.size q → H1[q]? = H[q]?) (hP1 : va_P D vwCl (v1 u ++ Y1 u) H1) (hD1 : va_D (va_A (wc ++ Y) H.size) (v1 u ++ Y1 u)) : va_P D vwCl (w2 u ++ Y1 u) H1 ∧ va_D A (w2 u ++ Y1 u) := by
  have hcx : ∀ x ∈ wc ++ Y, x ∈ wx ++ Y := fun x hx => (List.mem_append.mp hx).elim (fun h => List.mem_append_left _ (mem_of_map hC h)) (fun h => List.mem_append_right _ h)
  have hF : ∀ q, va_A (wc ++ Y) H.size q → A q := by
    intro q h
    rcases va_A_iff.mp h with ⟨x, hx, e⟩ | h
    · rw [← e]; exact hD.inA (hcx x hx)
    · exact hA q (Nat.le_trans hS.1 h)
  have hRlt : ∀ x ∈ wr, x.1 < H.size := fun x hx => (hP.left.mem (mem_of_map hR hx)).lt
  have hRn : ∀ x ∈ wr, ¬ va_A (wc ++ Y) H.size x.1 := by
    intro x hx h
    rcases va_A_iff.mp h with ⟨z, hz, e⟩ | h
    · rcases List.mem_append.mp hz with hz | hz
      · have hx2 : some x ∈ isR.map (fun i => wx[i]?) := by rw [hR]; exact List.mem_map.mpr ⟨x, hx, rfl⟩
        have hz2 : some z ∈ isC.map (fun i => wx[i]?) := by rw [hC]; exact List.mem_map.mpr ⟨z, hz, rfl⟩
        obtain ⟨i, hi, ei⟩ := List.mem_map.mp hx2
        obtain ⟨j, hj, ej⟩ := List.mem_map.mp hz2
        have := hD.left.1 j i z x ej ei e
        subst this
        exact hdis j hi hj
      · exact hD.apart2 (mem_of_map hR hx) hz e.symm
    · exact absurd (hRlt x hx) (by omega)
  have hPr : va_P D vwCl wr H1 := va_P.ofMem (fun x hx => (hP.left.mem (mem_of_map hR hx)).kept (hk x.1 (hRlt x hx) (hRn x hx)))
  have hDr : va_D A wr := hD.left.sub isR hnd hR
  have hDall : va_D A (wr ++ (v1 u ++ Y1 u)) := va_D.app2 hDr (hD1.weaken (fun _ _ _ h => hF _ h)) (fun x hx z hz e => hRn x hx (by rw [e]; exact hD1.inA hz))
  have hPall : va_P D vwCl (wr ++ (v1 u ++ Y1 u)) H1 := va_P.app hPr hP1
  rw [← List.append_assoc] at hDall hPall
  refine ⟨va_P.app (hPall.left.sub isP (fm_of_map hp2)) hPall.right, va_D.app2 (hDall.left.sub isP hnp hp2) hDall.right (fun x hx z hz => hDall.apart2 (mem_of_map hp2 hx) hz)⟩
theorem kPvD {q0 ci : Nat} {q : vw_C} {fs : List Value} (hK : va_K D vwCl tys s) (hN : EN A s) (hP : va_P D vwCl (wx ++ Y) H) (hD : va_D A (wx ++ Y)) (hS : va_S A s.heap H locs) (hA : ∀ q, s.heap.size ≤ q → A q) (isC : List Nat) (hC : isC.map (fun i => wx[i]?) = wc.map some) (hnc : va_nd isC = true) (hc : vwCl[ci]? = some q) (he : wc[q0]? = some (b, .inr (ci, fs))) : PreV s H q.1 b (cP D tys (.ref b :: As) H.size (wc ++ Y)) As ∧ ∀ q, va_A (wc ++ Y) H.size q → A q := by
  have hcx : ∀ x ∈ wc ++ Y, x ∈ wx ++ Y := fun x hx => (List.mem_append.mp hx).elim (fun h => List.mem_append_left _ (mem_of_map hC h)) (fun h => List.mem_append_right _ h)
  have hF : ∀ q, va_A (wc ++ Y) H.size q → A q := by
    intro q h
    rcases va_A_iff.mp h with ⟨x, hx, e⟩ | h
    · rw [← e]; exact hD.inA (hcx x hx)
    · exact hA q (Nat.le_trans hS.1 h)
  have hPc : va_P D vwCl (wc ++ Y) H := va_P.app (hP.left.sub isC (fm_of_map hC)) hP.right
  have hDc : va_D A (wc ++ Y) := va_D.app2 (hD.left.sub isC hnc hC) hD.right (fun x hx z hz => hD.apart2 (mem_of_map hC hx) hz)
  exact ⟨⟨cP_blind, va_recv hK hPc.left hc he, fun U hU hW => ⟨rfl, by rw [hU], by rw [hU]; exact hPc, va_K.moved hW.alike hK, hDc.weaken (fun _ _ _ _ => trivial), EN.to hW hU hS hF hN⟩⟩, hF⟩
theorem kVvD {q0 ci : Nat} {q : vw_C} {fs : List Value} {Y1 w2 : S → va_W} (Sx : CallFix p m c cc nL s args Ts own) (hM : Met l y ws rm (cP D tys (.ref b :: As) H.size (wc ++ Y)) (cQc D (va_A (wc ++ Y) H.size) (fun u => v1 u ++ Y1 u)) mc ms (va_A (wc ++ Y) H.size)) (cw : CallW R s args own q.1 index y bytes maxL ret ws rm mc ms n)
    (hK : va_K D vwCl tys s) (hN : EN A s) (hP : va_P D vwCl (wx ++ Y) H) (hD : va_D A (wx ++ Y)) (hS : va_S A s.heap H locs) (hA : ∀ q, s.heap.size ≤ q → A q) (isC isR isP : List Nat) (hC : isC.map (fun i => wx[i]?) = wc.map some) (hnc : va_nd isC = true) (hR : isR.map (fun i => wx[i]?) = wr.map some) (hnd : va_nd isR = true) (hdis : ∀ i ∈ isR, i ∉ isC) (hp2 : ∀ u, isP.map (fun i => (wr ++ v1 u)[i]?) = (w2 u).map some) (hnp : va_nd isP = true)
    (hc : vwCl[ci]? = some q) (he : wc[q0]? = some (b, .inr (ci, fs))) (hn : As.length = n) (hsize : ls.size = nL) (hst : st = As.reverse ++ .ref b :: rest) (hW : (rest.map fun v => v.category).sum ≤ 8) (hdg : decode cc pc = .ok (.invokevirtual index, 3)) (hf : cells + mc ≤ R.cells ∧ slots + ms ≤ R.slots)
    (kk : ∀ (u : S) (H1 : Heap) (locs1 : List Loc), va_P D vwCl (w2 u ++ Y1 u) H1 → va_D A (w2 u ++ Y1 u) → va_S A s.heap H1 locs1 → W p l e R s m args below meth c H1 locs1 (cells + mc) (slots + ms) Q (F0 m (pc + 3) ls rest)) : W p l e R s m args below meth c H locs cells slots Q (F0 m pc ls st) := by
  subst hst
  obtain ⟨hpre, hF⟩ := kPvD (As := As) hK hN hP hD hS hA isC hC hnc hc he
  refine va_callv (va_runV (As := As) (rest := rest) Sx hM cw hpre rfl hn hsize rfl (lv_room hW) hdg hf) hS (fun q _ h => hF q h) hF (fun u t H1 locs1 ht hvm hw hB hz hk hS1 => ?_)
  obtain ⟨hP1, hD1⟩ := hB
  rw [ht] at hP1
  obtain ⟨h1, h2⟩ := kJD (u := u) (w2 := w2) hP hD hS hA isC isR isP hC hR hnd hdis (hp2 u) hnp hk hP1 hD1
  exact kk u H1 locs1 h1 h2 hS1
/-- the end with an int, of a method that may make cells -/
def cQdi (D : va_G) (A : Nat → Prop) (r : Int32) {S : Type} (w1 : S → va_W) : Array Value → State → Outcome → State → Prop :=
  va_Qi (fun (x : Int32) (_ : S) => x = r) (fun u t => va_P D vwCl (w1 u) t.heap ∧ va_D A (w1 u)) A
theorem cRdi {v r : Int32} {u : S} (hx : p.tables.exec = Jvm.exec) (hb : c.code = cc) (hr : meth.sig.returnType = some .int) (hlocks : meth.locks = false) (hP : va_P D vwCl (v1 u) H) (hD : va_D A (v1 u)) (hS : va_S A s.heap H locs) (hv : v = r) (hdg : decode cc pc = .ok (.ireturn, 1)) :
    W p l e R s m args below meth c H locs mc ms (MQ below (cQdi D A r v1) args s mc ms A) (F0 m pc ls [.int v]) :=
  W.iret (v := v) hx hb hr (fun t ht _ => ⟨⟨v, u, rfl, hv, by rw [ht]; exact hP, hD⟩, hS.F ht⟩) hS.2.2 hdg hlocks
theorem cRdz {v r : Int32} {u : S} (hx : p.tables.exec = Jvm.exec) (hb : c.code = cc) (hr : meth.sig.returnType = some .boolean) (hlocks : meth.locks = false) (hP : va_P D vwCl (v1 u) H) (hD : va_D A (v1 u)) (hS : va_S A s.heap H locs) (hv : v = r) (hn : v = 0 ∨ v = 1) (hdg : decode cc pc = .ok (.ireturn, 1)) :
    W p l e R s m args below meth c H locs mc ms (MQ below (cQdi D A r v1) args s mc ms A) (F0 m pc ls [.int v]) :=
  W.zret (v := v) hx hb hr (narZ hn) (fun t ht _ => ⟨⟨v, u, rfl, hv, by rw [ht]; exact hP, hD⟩, hS.F ht⟩) hS.2.2 hdg hlocks
theorem kViD {r : Int32} {q0 ci : Nat} {q : vw_C} {fs : List Value} {Y1 w2 : S → va_W} (Sx : CallFix p m c cc nL s args Ts own) (hM : Met l y ws rm (cP D tys (.ref b :: As) H.size (wc ++ Y)) (cQdi D (va_A (wc ++ Y) H.size) r (fun u => v1 u ++ Y1 u)) mc ms (va_A (wc ++ Y) H.size)) (cw : CallW R s args own q.1 index y bytes maxL ret ws rm mc ms n)
    (hK : va_K D vwCl tys s) (hN : EN A s) (hP : va_P D vwCl (wx ++ Y) H) (hD : va_D A (wx ++ Y)) (hS : va_S A s.heap H locs) (hA : ∀ q, s.heap.size ≤ q → A q) (isC isR isP : List Nat) (hC : isC.map (fun i => wx[i]?) = wc.map some) (hnc : va_nd isC = true) (hR : isR.map (fun i => wx[i]?) = wr.map some) (hnd : va_nd isR = true) (hdis : ∀ i ∈ isR, i ∉ isC) (hp2 : ∀ u, isP.map (fun i => (wr ++ v1 u)[i]?) = (w2 u).map some) (hnp : va_nd isP = true)
    (hc : vwCl[ci]? = some q) (he : wc[q0]? = some (b, .inr (ci, fs))) (hn : As.length = n) (hsize : ls.size = nL) (hst : st = As.reverse ++ .ref b :: rest) (hW : (rest.map fun v => v.category).sum ≤ 8) (hdg : decode cc pc = .ok (.invokevirtual index, 3)) (hf : cells + mc ≤ R.cells ∧ slots + ms ≤ R.slots)
    (kk : ∀ (u : S) (H1 : Heap) (locs1 : List Loc), va_P D vwCl (w2 u ++ Y1 u) H1 → va_D A (w2 u ++ Y1 u) → va_S A s.heap H1 locs1 → W p l e R s m args below meth c H1 locs1 (cells + mc) (slots + ms) Q (F0 m (pc + 3) ls (.int r :: rest))) : W p l e R s m args below meth c H locs cells slots Q (F0 m pc ls st) := by
  subst hst
  obtain ⟨hpre, hF⟩ := kPvD (As := As) hK hN hP hD hS hA isC hC hnc hc he
  refine va_calli (va_runV (As := As) (rest := rest) Sx hM cw hpre rfl hn hsize rfl (lv_room hW) hdg hf) hS (fun q _ h => hF q h) hF (fun r' u t H1 locs1 ht hvm hw hB hz hk hS1 => ?_)
  obtain ⟨hP1, hD1⟩ := hB
  rw [ht] at hP1
  subst hw
  obtain ⟨h1, h2⟩ := kJD (u := u) (w2 := w2) hP hD hS hA isC isR isP hC hR hnd hdis (hp2 u) hnp hk hP1 hD1
  exact kk u H1 locs1 h1 h2 hS1
end TAIL
