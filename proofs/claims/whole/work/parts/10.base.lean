/-! What every contract is written with: the array kinds, the nest's links, start and end of a contract, a call with its frame. -/
abbrev tyL (cI cJ cB cZ cG cS : ClassId) : List (ClassId × FieldType) := [(cI, .int), (cJ, .long), (cB, .byte), (cZ, .boolean), (cG, .object RX1), (cS, .object RX6)]
/-- links of private members of nest mates, as (class, index, method, host) -/
def nwl : List (String × Nat × MethodName × String) := [(RX0, 32, yX10_isTold, RX10), (RX0, 20, yX3_init, RX10), (RX1, 27, yX3_init, RX10), (RX4, 11, yX5_init, RX10), (RX5, 11, yX8_init, RX10), (RX6, 20, yX8_init, RX10), (RX7, 33, yX3_init, RX10), (RX9, 20, yX3_init, RX10), (RX10, 11, yX6_init, RX10), (RX10, 22, yX2_init, RX10), (RX10, 29, yX0_init, RX10), (RX10, 36, yX7_init, RX10), (RX10, 43, yX9_init, RX10), (RX10, 50, yX4_init, RX10), (RX10, 67, yX3_init, RX10)]
def NW (U : State) : Prop := (∀ q ∈ nwl, va_Nw (.methodLinkNest q.1 q.2.1 q.2.2.1 q.2.2.2) U) ∧ va_AO RX1 U ∧ va_AO RX6 U
theorem NW.warm {s U : State} (hW : s.WarmedH U.vm) (h : NW s) : NW U := ⟨fun q hq => va_Nw.warmM hW (h.1 q hq), va_AO.moved hW.alike h.2.1, va_AO.moved hW.alike h.2.2⟩
theorem NW.same {s U : State} (hv : s.vm = U.vm) (h : NW s) : NW U := ⟨fun q hq => va_Nw.same rfl hv (h.1 q hq), va_AO.moved (by rw [hv]; exact Vm.Alike.refl _) h.2.1, va_AO.moved (by rw [hv]; exact Vm.Alike.refl _) h.2.2⟩
/-- the words of a TEXT: lengths, bytes, places in the scanner's pool, texts -/
def lenJ : List Nat := [4, 3, 3, 4, 5, 3, 6]
def bytJ : List (List Int32) := [[115, 105, 122, 101], [114, 111, 119], [115, 101, 116], [115, 119, 97, 112], [115, 99, 97, 108, 101], [97, 100, 100], [114, 101, 100, 117, 99, 101]]
def ixJ : List Nat := [61, 67, 69, 71, 73, 75, 77]
def txJ : List String := ["size", "row", "set", "swap", "scale", "add", "reduce"]
/-- the constant Strings and what String's members read of statics; A: what may change -/
def STx (adK adV : Nat → Nat) (A : Nat → Prop) (U : State) (H : Heap) : Prop := vk_S 7 lenJ bytJ adK adV A U H ∧ (∀ i, i < 7 → vk_R RX5 (ixJ.getD i 0) (txJ.getD i "") (adK i) U) ∧ va_Z "java/lang/String" "COMPACT_STRINGS" "Z" (.int 1) A U H ∧ va_Zq "jdk/internal/util/Preconditions" "SIOOBE_FORMATTER" "Ljava/util/function/BiFunction;" A U H
theorem STx.warm {adK adV : Nat → Nat} {A : Nat → Prop} {s U : State} {H : Heap} (hW : s.WarmedH U.vm) (h : STx adK adV A s H) : STx adK adV A U H := ⟨h.1.moved hW.alike, fun i hi => (h.2.1 i hi).warm hW, h.2.2.1.moved hW.alike, h.2.2.2.moved hW.alike⟩
theorem STx.same {adK adV : Nat → Nat} {A : Nat → Prop} {s U : State} {H : Heap} (hv : s.vm = U.vm) (h : STx adK adV A s H) : STx adK adV A U H := ⟨h.1.moved (by rw [hv]; exact Vm.Alike.refl _), fun i hi => vk_R.same hv.symm (h.2.1 i hi), h.2.2.1.moved (by rw [hv]; exact Vm.Alike.refl _), h.2.2.2.moved (by rw [hv]; exact Vm.Alike.refl _)⟩
theorem STx.kept {adK adV : Nat → Nat} {A : Nat → Prop} {s : State} {H H1 : Heap} (hq : ∀ a : Nat, a < H.size → ¬ A a → H1[a]? = H[a]?) (h : STx adK adV A s H) : STx adK adV A s H1 := ⟨h.1.kept hq, h.2.1, h.2.2.1.kept hq, h.2.2.2.kept hq⟩
theorem STx.narrow {adK adV : Nat → Nat} {A B : Nat → Prop} {s : State} {H : Heap} (hAB : ∀ q, B q → A q) (h : STx adK adV A s H) : STx adK adV B s H := ⟨h.1.narrow hAB, h.2.1, h.2.2.1.narrow hAB, h.2.2.2.narrow hAB⟩
/-- what stands around a walk: links, constants -/
def EN (A : Nat → Prop) (U : State) : Prop := NW U ∧ ∃ adK adV, STx adK adV A U U.heap
theorem EN.to {A B : Nat → Prop} {s U : State} {H : Heap} {locs : List Loc} (hW : s.WarmedH U.vm) (hU : U.heap = H) (hS : va_S A s.heap H locs) (hAB : ∀ q, B q → A q) (h : EN A s) : EN B U := by
  obtain ⟨h1, adK, adV, h2⟩ := h
  refine ⟨h1.warm hW, adK, adV, ?_⟩
  rw [hU]
  exact ((h2.warm hW).kept hS.2.1).narrow hAB
theorem EN.same {A : Nat → Prop} {s U : State} (hv : s.vm = U.vm) (hh : U.heap = s.heap) (h : EN A s) : EN A U := by
  obtain ⟨h1, adK, adV, h2⟩ := h
  refine ⟨h1.same hv, adK, adV, ?_⟩
  rw [hh]
  exact h2.same hv
/-- a contract's start: the arguments, the heap's size, the cells -/
def cP (D : va_G) (tys : List (ClassId × FieldType)) (av : List Value) (sz : Nat) (w0 : va_W) : Array Value → State → Prop :=
  va_Pc av (fun U => U.heap.size = sz ∧ va_P D vwCl w0 U.heap ∧ va_K D vwCl tys U ∧ va_D (fun _ => True) w0 ∧ EN (va_A w0 sz) U)
/-- its end, with an int, a long, nothing -/
def cQi (D : va_G) (A : Nat → Prop) (r : Int32) (w1 : va_W) : Array Value → State → Outcome → State → Prop :=
  va_Qi (fun (x : Int32) (_ : Unit) => x = r) (fun _ t => va_P D vwCl w1 t.heap ∧ va_D A w1) A
def cQl (D : va_G) (A : Nat → Prop) (r : Int64) (w1 : va_W) : Array Value → State → Outcome → State → Prop :=
  va_Ql (fun (x : Int64) (_ : Unit) => x = r) (fun _ t => va_P D vwCl w1 t.heap ∧ va_D A w1) A
def cQv (D : va_G) (A : Nat → Prop) (w1 : va_W) : Array Value → State → Outcome → State → Prop :=
  va_Qv (fun (_ : Unit) => True) (fun _ t => va_P D vwCl w1 t.heap ∧ va_D A w1) A
theorem cP_blind {D : va_G} {tys : List (ClassId × FieldType)} {av : List Value} {sz : Nat} {w0 : va_W} : FrameBlind (cP D tys av sz w0) := by
  intro a U g mk q
  obtain ⟨q0, q1, qP, qK, qD, qN⟩ := q
  exact ⟨q0, q1, qP, va_K.moved (u := U) (U := U.calling g mk a) (Vm.Alike.refl U.vm) qK, qD, EN.same (s := U) (U := U.calling g mk a) rfl rfl qN⟩
/-- what a walk stands on -/
theorem cM {l : Launch} {y : MethodName} {ws ws' : List Cond} {rm : Room} {D : va_G} {tys : List (ClassId × FieldType)} {av : List Value} {sz : Nat} {w0 : va_W} {Qc : (Nat → Prop) → Array Value → State → Outcome → State → Prop} {cc : ByteArray} {maxL : Nat} {ret : Option FieldType} (own : String)
    (hy : plainName y.cls = true) (hw : ws = Cond.code y cc maxL ret :: ws') (ho : y.cls = own) (hn : (lg_sl av).length ≤ maxL)
    (body : ∀ (p : Program) (e : Env) (s : State) (m : MethodId) (below : List Frame) (meth : Method) (c : Code) (A : Nat → Prop) (ls : Array Slot), p.tables.exec = Jvm.exec → c.code = cc → meth.sig.returnType = ret → meth.locks = false → c.maxLocals = maxL → s.vm.findClass own = some m.cls → (∀ w ∈ ws, w.before av.toArray s = true) → va_K D vwCl tys s → EN A s → va_P D vwCl w0 s.heap → va_D A w0 → va_S A s.heap s.heap [] → (∀ q : Nat, s.heap.size ≤ q → A q) → lv_has ls maxL (lv_args 0 av) →
      W p l e rm s m av.toArray below meth c s.heap [] 0 0 (MQ below (Qc A) av.toArray s 0 0 A) (F0 m 0 ls [])) : Met l y ws rm (cP D tys av sz w0) (Qc (va_A w0 sz)) 0 0 (va_A w0 sz) := by
  refine Met.ofW (cc := cc) (maxL := maxL) (ret := ret) hy hw ?_
  intro p e s m args below meth c s₁ B hml hv
  obtain ⟨rfl, hsz, hP, hK, hD0, hN⟩ := hv
  subst hsz
  have hl := lv_entry av (n := maxL) hn
  rw [lg_entry_eq]
  exact body p e s m below meth c _ _ B.exec B.bytes B.returns B.notSynchronized hml (by rw [← ho]; exact findClass_of_methodNamed B.named) (atoms_spec (ws := ws) B.pre) hK hN hP (hD0.self (sz := s.heap.size)) va_S.rf (fun q h => Or.inr h) hl
section BASE
variable {p : Program} {l : Launch} {e : Env} {R : Room} {s : State} {m : MethodId} {args : Array Value} {below : List Frame} {meth : Method} {c : Code} {H : Heap} {locs : List Loc} {Q : State → Prop} {D : va_G} {tys : List (ClassId × FieldType)} {A : Nat → Prop} {cc : ByteArray} {pc : Nat} {ls : Array Slot} {w1 : va_W}
theorem cRi {v r : Int32} (hx : p.tables.exec = Jvm.exec) (hb : c.code = cc) (hr : meth.sig.returnType = some .int) (hlocks : meth.locks = false) (hP : va_P D vwCl w1 H) (hD : va_D A w1) (hS : va_S A s.heap H locs) (hv : v = r) (hdg : decode cc pc = .ok (.ireturn, 1)) :
    W p l e R s m args below meth c H locs 0 0 (MQ below (cQi D A r w1) args s 0 0 A) (F0 m pc ls [.int v]) :=
  W.iret (v := v) hx hb hr (fun t ht _ => ⟨⟨v, (), rfl, hv, by rw [ht]; exact hP, hD⟩, hS.F ht⟩) hS.2.2 hdg hlocks
theorem cRz {v r : Int32} (hx : p.tables.exec = Jvm.exec) (hb : c.code = cc) (hr : meth.sig.returnType = some .boolean) (hlocks : meth.locks = false) (hP : va_P D vwCl w1 H) (hD : va_D A w1) (hS : va_S A s.heap H locs) (hv : v = r) (hn : v = 0 ∨ v = 1) (hdg : decode cc pc = .ok (.ireturn, 1)) :
    W p l e R s m args below meth c H locs 0 0 (MQ below (cQi D A r w1) args s 0 0 A) (F0 m pc ls [.int v]) :=
  W.zret (v := v) hx hb hr (by rcases hn with h | h <;> (subst h; decide +kernel)) (fun t ht _ => ⟨⟨v, (), rfl, hv, by rw [ht]; exact hP, hD⟩, hS.F ht⟩) hS.2.2 hdg hlocks
theorem cRl {v r : Int64} (hx : p.tables.exec = Jvm.exec) (hb : c.code = cc) (hr : meth.sig.returnType = some .long) (hlocks : meth.locks = false) (hP : va_P D vwCl w1 H) (hD : va_D A w1) (hS : va_S A s.heap H locs) (hv : v = r) (hdg : decode cc pc = .ok (.lreturn, 1)) :
    W p l e R s m args below meth c H locs 0 0 (MQ below (cQl D A r w1) args s 0 0 A) (F0 m pc ls [.long v]) :=
  W.lret (v := v) hx hb hr (fun t ht _ => ⟨⟨v, (), rfl, hv, by rw [ht]; exact hP, hD⟩, hS.F ht⟩) hS.2.2 hdg hlocks
theorem cRv (hx : p.tables.exec = Jvm.exec) (hb : c.code = cc) (hr : meth.sig.returnType = none) (hlocks : meth.locks = false) (hP : va_P D vwCl w1 H) (hD : va_D A w1) (hS : va_S A s.heap H locs) (hdg : decode cc pc = .ok (.return_, 1)) :
    W p l e R s m args below meth c H locs 0 0 (MQ below (cQv D A w1) args s 0 0 A) (F0 m pc ls []) :=
  W.vret hx hb hr (fun t ht _ => ⟨⟨(), rfl, trivial, by rw [ht]; exact hP, hD⟩, hS.F ht⟩) hS.2.2 hdg hlocks
end BASE
theorem fm_of_map {α β : Type} {f : α → Option β} {is : List α} {w : List β} (h : is.map f = w.map some) : is.filterMap f = w := by
  induction is generalizing w with
  | nil => cases w with
    | nil => rfl
    | cons a b => cases h
  | cons i is ih => cases w with
    | nil => cases h
    | cons a b =>
      simp only [List.map_cons, List.cons.injEq] at h
      simp only [List.filterMap_cons, h.1, ih h.2]
section CALL
variable {p : Program} {l : Launch} {e : Env} {R : Room} {s : State} {m : MethodId} {args : Array Value} {below : List Frame} {meth : Method} {c : Code} {H : Heap} {locs : List Loc} {cells slots : Nat} {Q : State → Prop} {D : va_G} {tys : List (ClassId × FieldType)} {A : Nat → Prop} {cc bytes : ByteArray} {pc nL maxL n index : Nat} {ls : Array Slot} {wx wc wr w1 w2 : va_W} {Ts ws : List Cond} {own C : String} {y : MethodName} {ret : Option FieldType} {rm : Room} {b : Nat} {As rest st : List Value}
/-- the cells behind a call, in the caller's order -/
theorem kJ {H1 : Heap} {locs1 : List Loc} (hP : va_P D vwCl wx H) (hD : va_D A wx) (hS : va_S A s.heap H locs) (hA : ∀ q, s.heap.size ≤ q → A q) (isC isR isP : List Nat) (hC : isC.map (fun i => wx[i]?) = wc.map some) (hR : isR.map (fun i => wx[i]?) = wr.map some) (hnd : va_nd isR = true) (hdis : ∀ i ∈ isR, i ∉ isC) (hp2 : isP.map (fun i => (wr ++ w1)[i]?) = w2.map some) (hnp : va_nd isP = true)
    (hk : ∀ q : Nat, q < H.size → ¬ va_A wc H.size q → H1[q]? = H[q]?) (hP1 : va_P D vwCl w1 H1) (hD1 : va_D (va_A wc H.size) w1) : va_P D vwCl w2 H1 ∧ va_D A w2 := by
  obtain ⟨h1, h2⟩ := va_join hP hD isC isR hC hR hnd hdis hk (va_free hD hS hA isC hC) hP1 hD1
  exact ⟨h1.sub isP (fm_of_map hp2), h2.sub isP hnp hp2⟩
theorem kPv {q0 ci : Nat} {q : vw_C} {fs : List Value} (hK : va_K D vwCl tys s) (hN : EN A s) (hP : va_P D vwCl wx H) (hD : va_D A wx) (hS : va_S A s.heap H locs) (hA : ∀ q, s.heap.size ≤ q → A q) (isC : List Nat) (hC : isC.map (fun i => wx[i]?) = wc.map some) (hnc : va_nd isC = true) (hc : vwCl[ci]? = some q) (he : wc[q0]? = some (b, .inr (ci, fs))) : PreV s H q.1 b (cP D tys (.ref b :: As) H.size wc) As := by
  have hPc := hP.sub isC (fm_of_map hC)
  exact ⟨cP_blind, va_recv hK hPc hc he, fun U hU hW => ⟨rfl, by rw [hU], by rw [hU]; exact hPc, va_K.moved hW.alike hK, (hD.sub isC hnc hC).weaken (fun _ _ _ _ => trivial), EN.to hW hU hS (va_free hD hS hA isC hC) hN⟩⟩
theorem kPs (hK : va_K D vwCl tys s) (hN : EN A s) (hP : va_P D vwCl wx H) (hD : va_D A wx) (hS : va_S A s.heap H locs) (hA : ∀ q, s.heap.size ≤ q → A q) (isC : List Nat) (hC : isC.map (fun i => wx[i]?) = wc.map some) (hnc : va_nd isC = true) : PreS s H (cP D tys As H.size wc) As := by
  have hPc := hP.sub isC (fm_of_map hC)
  exact ⟨cP_blind, fun U hU hW => ⟨rfl, by rw [hU], by rw [hU]; exact hPc, va_K.moved hW.alike hK, (hD.sub isC hnc hC).weaken (fun _ _ _ _ => trivial), EN.to hW hU hS (va_free hD hS hA isC hC) hN⟩⟩
theorem kVi {r : Int32} {q0 ci : Nat} {q : vw_C} {fs : List Value} (S : CallFix p m c cc nL s args Ts own) (hM : Met l y ws rm (cP D tys (.ref b :: As) H.size wc) (cQi D (va_A wc H.size) r w1) 0 0 (va_A wc H.size)) (cw : CallW R s args own q.1 index y bytes maxL ret ws rm 0 0 n)
    (hK : va_K D vwCl tys s) (hN : EN A s) (hP : va_P D vwCl wx H) (hD : va_D A wx) (hS : va_S A s.heap H locs) (hA : ∀ q, s.heap.size ≤ q → A q) (isC isR isP : List Nat) (hC : isC.map (fun i => wx[i]?) = wc.map some) (hnc : va_nd isC = true) (hR : isR.map (fun i => wx[i]?) = wr.map some) (hnd : va_nd isR = true) (hdis : ∀ i ∈ isR, i ∉ isC) (hp2 : isP.map (fun i => (wr ++ w1)[i]?) = w2.map some) (hnp : va_nd isP = true)
    (hc : vwCl[ci]? = some q) (he : wc[q0]? = some (b, .inr (ci, fs))) (hn : As.length = n) (hsize : ls.size = nL) (hst : st = As.reverse ++ .ref b :: rest) (hW : (rest.map fun v => v.category).sum ≤ 8) (hdg : decode cc pc = .ok (.invokevirtual index, 3)) (hf : cells ≤ R.cells ∧ slots ≤ R.slots)
    (kk : ∀ (H1 : Heap) (locs1 : List Loc), va_P D vwCl w2 H1 → va_D A w2 → va_S A s.heap H1 locs1 → W p l e R s m args below meth c H1 locs1 cells slots Q (F0 m (pc + 3) ls (.int r :: rest))) : W p l e R s m args below meth c H locs cells slots Q (F0 m pc ls st) := by
  subst hst
  have hF := va_free hD hS hA isC hC
  refine va_calli (va_runV (As := As) (rest := rest) S hM cw (kPv hK hN hP hD hS hA isC hC hnc hc he) rfl hn hsize rfl (lv_room hW) hdg hf) hS (fun q _ h => hF q h) hF (fun r' u t H1 locs1 ht hvm hw hB hz hk hS1 => ?_)
  obtain ⟨hP1, hD1⟩ := hB
  rw [ht] at hP1
  subst hw
  obtain ⟨h1, h2⟩ := kJ (locs1 := locs1) hP hD hS hA isC isR isP hC hR hnd hdis hp2 hnp hk hP1 hD1
  exact kk H1 locs1 h1 h2 hS1
theorem kVl {r : Int64} {q0 ci : Nat} {q : vw_C} {fs : List Value} (S : CallFix p m c cc nL s args Ts own) (hM : Met l y ws rm (cP D tys (.ref b :: As) H.size wc) (cQl D (va_A wc H.size) r w1) 0 0 (va_A wc H.size)) (cw : CallW R s args own q.1 index y bytes maxL ret ws rm 0 0 n)
    (hK : va_K D vwCl tys s) (hN : EN A s) (hP : va_P D vwCl wx H) (hD : va_D A wx) (hS : va_S A s.heap H locs) (hA : ∀ q, s.heap.size ≤ q → A q) (isC isR isP : List Nat) (hC : isC.map (fun i => wx[i]?) = wc.map some) (hnc : va_nd isC = true) (hR : isR.map (fun i => wx[i]?) = wr.map some) (hnd : va_nd isR = true) (hdis : ∀ i ∈ isR, i ∉ isC) (hp2 : isP.map (fun i => (wr ++ w1)[i]?) = w2.map some) (hnp : va_nd isP = true)
    (hc : vwCl[ci]? = some q) (he : wc[q0]? = some (b, .inr (ci, fs))) (hn : As.length = n) (hsize : ls.size = nL) (hst : st = As.reverse ++ .ref b :: rest) (hW : (rest.map fun v => v.category).sum ≤ 8) (hdg : decode cc pc = .ok (.invokevirtual index, 3)) (hf : cells ≤ R.cells ∧ slots ≤ R.slots)
    (kk : ∀ (H1 : Heap) (locs1 : List Loc), va_P D vwCl w2 H1 → va_D A w2 → va_S A s.heap H1 locs1 → W p l e R s m args below meth c H1 locs1 cells slots Q (F0 m (pc + 3) ls (.long r :: rest))) : W p l e R s m args below meth c H locs cells slots Q (F0 m pc ls st) := by
  subst hst
  have hF := va_free hD hS hA isC hC
  refine va_calll (va_runV (As := As) (rest := rest) S hM cw (kPv hK hN hP hD hS hA isC hC hnc hc he) rfl hn hsize rfl (lv_room hW) hdg hf) hS (fun q _ h => hF q h) hF (fun r' u t H1 locs1 ht hvm hw hB hz hk hS1 => ?_)
  obtain ⟨hP1, hD1⟩ := hB
  rw [ht] at hP1
  subst hw
  obtain ⟨h1, h2⟩ := kJ (locs1 := locs1) hP hD hS hA isC isR isP hC hR hnd hdis hp2 hnp hk hP1 hD1
  exact kk H1 locs1 h1 h2 hS1
theorem kVv {q0 ci : Nat} {q : vw_C} {fs : List Value} (S : CallFix p m c cc nL s args Ts own) (hM : Met l y ws rm (cP D tys (.ref b :: As) H.size wc) (cQv D (va_A wc H.size) w1) 0 0 (va_A wc H.size)) (cw : CallW R s args own q.1 index y bytes maxL ret ws rm 0 0 n)
    (hK : va_K D vwCl tys s) (hN : EN A s) (hP : va_P D vwCl wx H) (hD : va_D A wx) (hS : va_S A s.heap H locs) (hA : ∀ q, s.heap.size ≤ q → A q) (isC isR isP : List Nat) (hC : isC.map (fun i => wx[i]?) = wc.map some) (hnc : va_nd isC = true) (hR : isR.map (fun i => wx[i]?) = wr.map some) (hnd : va_nd isR = true) (hdis : ∀ i ∈ isR, i ∉ isC) (hp2 : isP.map (fun i => (wr ++ w1)[i]?) = w2.map some) (hnp : va_nd isP = true)
    (hc : vwCl[ci]? = some q) (he : wc[q0]? = some (b, .inr (ci, fs))) (hn : As.length = n) (hsize : ls.size = nL) (hst : st = As.reverse ++ .ref b :: rest) (hW : (rest.map fun v => v.category).sum ≤ 8) (hdg : decode cc pc = .ok (.invokevirtual index, 3)) (hf : cells ≤ R.cells ∧ slots ≤ R.slots)
    (kk : ∀ (H1 : Heap) (locs1 : List Loc), va_P D vwCl w2 H1 → va_D A w2 → va_S A s.heap H1 locs1 → W p l e R s m args below meth c H1 locs1 cells slots Q (F0 m (pc + 3) ls rest)) : W p l e R s m args below meth c H locs cells slots Q (F0 m pc ls st) := by
  subst hst
  have hF := va_free hD hS hA isC hC
  refine va_callv (va_runV (As := As) (rest := rest) S hM cw (kPv hK hN hP hD hS hA isC hC hnc hc he) rfl hn hsize rfl (lv_room hW) hdg hf) hS (fun q _ h => hF q h) hF (fun u t H1 locs1 ht hvm hw hB hz hk hS1 => ?_)
  obtain ⟨hP1, hD1⟩ := hB
  rw [ht] at hP1
  obtain ⟨h1, h2⟩ := kJ (locs1 := locs1) hP hD hS hA isC isR isP hC hR hnd hdis hp2 hnp hk hP1 hD1
  exact kk H1 locs1 h1 h2 hS1
theorem kSi {r : Int32} (S : CallFix p m c cc nL s args Ts own) (hM : Met l y ws rm (cP D tys As H.size wc) (cQi D (va_A wc H.size) r w1) 0 0 (va_A wc H.size)) (cw : CallB R s args own index y bytes maxL ret ws rm 0 0 n ∧ (Cond.static y).before args s = true)
    (hK : va_K D vwCl tys s) (hN : EN A s) (hP : va_P D vwCl wx H) (hD : va_D A wx) (hS : va_S A s.heap H locs) (hA : ∀ q, s.heap.size ≤ q → A q) (isC isR isP : List Nat) (hC : isC.map (fun i => wx[i]?) = wc.map some) (hnc : va_nd isC = true) (hR : isR.map (fun i => wx[i]?) = wr.map some) (hnd : va_nd isR = true) (hdis : ∀ i ∈ isR, i ∉ isC) (hp2 : isP.map (fun i => (wr ++ w1)[i]?) = w2.map some) (hnp : va_nd isP = true)
    (hn : As.length = n) (hsize : ls.size = nL) (hst : st = As.reverse ++ rest) (hW : (rest.map fun v => v.category).sum ≤ 8) (hdg : decode cc pc = .ok (.invokestatic index, 3)) (hf : cells ≤ R.cells ∧ slots ≤ R.slots)
    (kk : ∀ (H1 : Heap) (locs1 : List Loc), va_P D vwCl w2 H1 → va_D A w2 → va_S A s.heap H1 locs1 → W p l e R s m args below meth c H1 locs1 cells slots Q (F0 m (pc + 3) ls (.int r :: rest))) : W p l e R s m args below meth c H locs cells slots Q (F0 m pc ls st) := by
  subst hst
  have hF := va_free hD hS hA isC hC
  refine va_calli (va_runS (As := As) (rest := rest) S hM cw (kPs hK hN hP hD hS hA isC hC hnc) rfl hn hsize rfl (lv_room hW) hdg hf) hS (fun q _ h => hF q h) hF (fun r' u t H1 locs1 ht hvm hw hB hz hk hS1 => ?_)
  obtain ⟨hP1, hD1⟩ := hB
  rw [ht] at hP1
  subst hw
  obtain ⟨h1, h2⟩ := kJ (locs1 := locs1) hP hD hS hA isC isR isP hC hR hnd hdis hp2 hnp hk hP1 hD1
  exact kk H1 locs1 h1 h2 hS1
theorem kSl {r : Int64} (S : CallFix p m c cc nL s args Ts own) (hM : Met l y ws rm (cP D tys As H.size wc) (cQl D (va_A wc H.size) r w1) 0 0 (va_A wc H.size)) (cw : CallB R s args own index y bytes maxL ret ws rm 0 0 n ∧ (Cond.static y).before args s = true)
    (hK : va_K D vwCl tys s) (hN : EN A s) (hP : va_P D vwCl wx H) (hD : va_D A wx) (hS : va_S A s.heap H locs) (hA : ∀ q, s.heap.size ≤ q → A q) (isC isR isP : List Nat) (hC : isC.map (fun i => wx[i]?) = wc.map some) (hnc : va_nd isC = true) (hR : isR.map (fun i => wx[i]?) = wr.map some) (hnd : va_nd isR = true) (hdis : ∀ i ∈ isR, i ∉ isC) (hp2 : isP.map (fun i => (wr ++ w1)[i]?) = w2.map some) (hnp : va_nd isP = true)
    (hn : As.length = n) (hsize : ls.size = nL) (hst : st = As.reverse ++ rest) (hW : (rest.map fun v => v.category).sum ≤ 8) (hdg : decode cc pc = .ok (.invokestatic index, 3)) (hf : cells ≤ R.cells ∧ slots ≤ R.slots)
    (kk : ∀ (H1 : Heap) (locs1 : List Loc), va_P D vwCl w2 H1 → va_D A w2 → va_S A s.heap H1 locs1 → W p l e R s m args below meth c H1 locs1 cells slots Q (F0 m (pc + 3) ls (.long r :: rest))) : W p l e R s m args below meth c H locs cells slots Q (F0 m pc ls st) := by
  subst hst
  have hF := va_free hD hS hA isC hC
  refine va_calll (va_runS (As := As) (rest := rest) S hM cw (kPs hK hN hP hD hS hA isC hC hnc) rfl hn hsize rfl (lv_room hW) hdg hf) hS (fun q _ h => hF q h) hF (fun r' u t H1 locs1 ht hvm hw hB hz hk hS1 => ?_)
  obtain ⟨hP1, hD1⟩ := hB
  rw [ht] at hP1
  subst hw
  obtain ⟨h1, h2⟩ := kJ (locs1 := locs1) hP hD hS hA isC isR isP hC hR hnd hdis hp2 hnp hk hP1 hD1
  exact kk H1 locs1 h1 h2 hS1
theorem kSv (S : CallFix p m c cc nL s args Ts own) (hM : Met l y ws rm (cP D tys As H.size wc) (cQv D (va_A wc H.size) w1) 0 0 (va_A wc H.size)) (cw : CallB R s args own index y bytes maxL ret ws rm 0 0 n ∧ (Cond.static y).before args s = true)
    (hK : va_K D vwCl tys s) (hN : EN A s) (hP : va_P D vwCl wx H) (hD : va_D A wx) (hS : va_S A s.heap H locs) (hA : ∀ q, s.heap.size ≤ q → A q) (isC isR isP : List Nat) (hC : isC.map (fun i => wx[i]?) = wc.map some) (hnc : va_nd isC = true) (hR : isR.map (fun i => wx[i]?) = wr.map some) (hnd : va_nd isR = true) (hdis : ∀ i ∈ isR, i ∉ isC) (hp2 : isP.map (fun i => (wr ++ w1)[i]?) = w2.map some) (hnp : va_nd isP = true)
    (hn : As.length = n) (hsize : ls.size = nL) (hst : st = As.reverse ++ rest) (hW : (rest.map fun v => v.category).sum ≤ 8) (hdg : decode cc pc = .ok (.invokestatic index, 3)) (hf : cells ≤ R.cells ∧ slots ≤ R.slots)
    (kk : ∀ (H1 : Heap) (locs1 : List Loc), va_P D vwCl w2 H1 → va_D A w2 → va_S A s.heap H1 locs1 → W p l e R s m args below meth c H1 locs1 cells slots Q (F0 m (pc + 3) ls rest)) : W p l e R s m args below meth c H locs cells slots Q (F0 m pc ls st) := by
  subst hst
  have hF := va_free hD hS hA isC hC
  refine va_callv (va_runS (As := As) (rest := rest) S hM cw (kPs hK hN hP hD hS hA isC hC hnc) rfl hn hsize rfl (lv_room hW) hdg hf) hS (fun q _ h => hF q h) hF (fun u t H1 locs1 ht hvm hw hB hz hk hS1 => ?_)
  obtain ⟨hP1, hD1⟩ := hB
  rw [ht] at hP1
  obtain ⟨h1, h2⟩ := kJ (locs1 := locs1) hP hD hS hA isC isR isP hC hR hnd hdis hp2 hnp hk hP1 hD1
  exact kk H1 locs1 h1 h2 hS1
/-- a static method of a nest mate -/
theorem kNi {r : Int32} {host : String} (S : CallFix p m c cc nL s args Ts own) (hM : Met l y ws rm (cP D tys As H.size wc) (cQi D (va_A wc H.size) r w1) 0 0 (va_A wc H.size)) (cw : va_CN R s args own index y host bytes maxL ret ws rm 0 0 n ∧ (Cond.static y).before args s = true ∧ True)
    (hK : va_K D vwCl tys s) (hN : EN A s) (hP : va_P D vwCl wx H) (hD : va_D A wx) (hS : va_S A s.heap H locs) (hA : ∀ q, s.heap.size ≤ q → A q) (isC isR isP : List Nat) (hC : isC.map (fun i => wx[i]?) = wc.map some) (hnc : va_nd isC = true) (hR : isR.map (fun i => wx[i]?) = wr.map some) (hnd : va_nd isR = true) (hdis : ∀ i ∈ isR, i ∉ isC) (hp2 : isP.map (fun i => (wr ++ w1)[i]?) = w2.map some) (hnp : va_nd isP = true)
    (hn : As.length = n) (hsize : ls.size = nL) (hst : st = As.reverse ++ rest) (hW : (rest.map fun v => v.category).sum ≤ 8) (hdg : decode cc pc = .ok (.invokestatic index, 3)) (hf : cells ≤ R.cells ∧ slots ≤ R.slots)
    (kk : ∀ (H1 : Heap) (locs1 : List Loc), va_P D vwCl w2 H1 → va_D A w2 → va_S A s.heap H1 locs1 → W p l e R s m args below meth c H1 locs1 cells slots Q (F0 m (pc + 3) ls (.int r :: rest))) : W p l e R s m args below meth c H locs cells slots Q (F0 m pc ls st) := by
  subst hst
  have hF := va_free hD hS hA isC hC
  refine va_calli (va_runSN (As := As) (rest := rest) S hM cw (kPs hK hN hP hD hS hA isC hC hnc) rfl hn hsize rfl (lv_room hW) hdg hf) hS (fun q _ h => hF q h) hF (fun r' u t H1 locs1 ht hvm hw hB hz hk hS1 => ?_)
  obtain ⟨hP1, hD1⟩ := hB
  rw [ht] at hP1
  subst hw
  obtain ⟨h1, h2⟩ := kJ (locs1 := locs1) hP hD hS hA isC isR isP hC hR hnd hdis hp2 hnp hk hP1 hD1
  exact kk H1 locs1 h1 h2 hS1
end CALL
/-- what a walk has at hand -/
def Cx (D : va_G) (tys : List (ClassId × FieldType)) (cc : ByteArray) (nL : Nat) (ret : Option FieldType) (own : String) (Ts : List Cond) (av : List Value) (p : Program) (s : State) (m : MethodId) (meth : Method) (c : Code) (A : Nat → Prop) : Prop :=
  p.tables.exec = Jvm.exec ∧ c.code = cc ∧ meth.sig.returnType = ret ∧ meth.locks = false ∧ c.maxLocals = nL ∧ s.vm.findClass own = some m.cls ∧ (∀ w ∈ Ts, w.before av.toArray s = true) ∧ va_K D vwCl tys s ∧ EN A s ∧ (∀ q : Nat, s.heap.size ≤ q → A q)
/-! The programs as functions: none where the machine itself would throw. -/
/-- an index that lies in its row -/
def inB {α : Type} (n : Nat) (i : Int32) (K : Option α) : Option α := if i < 0 ∨ n ≤ i.toNatClampNeg then none else K
theorem inB_b {α : Type} {n : Nat} {i : Int32} {K : Option α} {z : α} (h : inB n i K = some z) : vp_in i n ∧ K = some z := by
  unfold inB at h
  by_cases hc : i < 0 ∨ n ≤ i.toNatClampNeg
  · rw [if_pos hc] at h; cases h
  · rw [if_neg hc] at h; exact ⟨hc, h⟩
/-- a value that gets a name -/
def lt {β α : Type} (x : β) (K : β → Option α) : Option α := K x
theorem lt_b {β α : Type} {x y : β} {K : β → Option α} {z : α} (e : y = x) (h : lt x K = some z) : K y = some z := by subst e; exact h
/-- a divisor that isn't 0 -/
def nzI {α : Type} (y : Int32) (K : Option α) : Option α := if y = 0 then none else K
def nzL {α : Type} (y : Int64) (K : Option α) : Option α := if y = 0 then none else K
theorem nzI_b {α : Type} {y : Int32} {K : Option α} {z : α} (h : nzI y K = some z) : ¬ y = 0 ∧ K = some z := by
  unfold nzI at h
  by_cases hc : y = 0
  · rw [if_pos hc] at h; cases h
  · rw [if_neg hc] at h; exact ⟨hc, h⟩
theorem nzL_b {α : Type} {y : Int64} {K : Option α} {z : α} (h : nzL y K = some z) : ¬ y = 0 ∧ K = some z := by
  unfold nzL at h
  by_cases hc : y = 0
  · rw [if_pos hc] at h; cases h
  · rw [if_neg hc] at h; exact ⟨hc, h⟩
/-- a truth value -/
def tvI {α : Type} (x : Int32) (K : Option α) : Option α := if x = 0 ∨ x = 1 then K else none
theorem tvI_b {α : Type} {x : Int32} {K : Option α} {z : α} (h : tvI x K = some z) : (x = 0 ∨ x = 1) ∧ K = some z := by
  unfold tvI at h
  by_cases hc : x = 0 ∨ x = 1
  · rw [if_pos hc] at h; exact ⟨hc, h⟩
  · rw [if_neg hc] at h; cases h
theorem ifP {α : Type} {c : Prop} [Decidable c] {a b z : α} (hc : c) (h : (if c then a else b) = z) : a = z := by rw [if_pos hc] at h; exact h
theorem ifN {α : Type} {c : Prop} [Decidable c] {a b z : α} (hc : ¬ c) (h : (if c then a else b) = z) : b = z := by rw [if_neg hc] at h; exact h
theorem bdS {α β : Type} {o : Option α} {K : α → Option β} {z : β} (h : o.bind K = some z) : ∃ x, o = some x ∧ K x = some z := by
  cases o with
  | none => cases h
  | some x => exact ⟨x, rfl, h⟩
theorem narZ {x : Int32} (h : x = 0 ∨ x = 1) : narrow .boolean (.int x) = .int x := by rcases h with h | h <;> (subst h; decide +kernel)
theorem fitZ {x : Int32} (h : x = 0 ∨ x = 1) : fits .boolean (.int x) = true := by rcases h with h | h <;> (subst h; decide +kernel)
/-- arraycopy of ints, of bytes: its places lie in both rows -/
def acI {α : Type} (n0 n1 : Nat) (sp dp n : Int32) (K : Option α) : Option α := if ¬ sp < 0 ∧ ¬ dp < 0 ∧ ¬ n < 0 ∧ sp.toNatClampNeg + n.toNatClampNeg ≤ n0 ∧ dp.toNatClampNeg + n.toNatClampNeg ≤ n1 then K else none
theorem acI_b {α : Type} {n0 n1 : Nat} {sp dp n : Int32} {K : Option α} {z : α} (h : acI n0 n1 sp dp n K = some z) : (¬ sp < 0 ∧ ¬ dp < 0 ∧ ¬ n < 0 ∧ sp.toNatClampNeg + n.toNatClampNeg ≤ n0 ∧ dp.toNatClampNeg + n.toNatClampNeg ≤ n1) ∧ K = some z := by
  unfold acI at h
  split at h
  · rename_i hc; exact ⟨hc, h⟩
  · cases h
def acB {α : Type} (n0 n1 : Nat) (f : Nat → Int32) (sp dp n : Int32) (K : Option α) : Option α := if ¬ sp < 0 ∧ ¬ dp < 0 ∧ ¬ n < 0 ∧ sp.toNatClampNeg + n.toNatClampNeg ≤ n0 ∧ dp.toNatClampNeg + n.toNatClampNeg ≤ n1 ∧ ∀ i, i < n.toNatClampNeg → fits .byte (.int (f (sp.toNatClampNeg + i))) = true then K else none
theorem acB_b {α : Type} {n0 n1 : Nat} {f : Nat → Int32} {sp dp n : Int32} {K : Option α} {z : α} (h : acB n0 n1 f sp dp n K = some z) : (¬ sp < 0 ∧ ¬ dp < 0 ∧ ¬ n < 0 ∧ sp.toNatClampNeg + n.toNatClampNeg ≤ n0 ∧ dp.toNatClampNeg + n.toNatClampNeg ≤ n1 ∧ ∀ i, i < n.toNatClampNeg → fits .byte (.int (f (sp.toNatClampNeg + i))) = true) ∧ K = some z := by
  unfold acB at h
  split at h
  · rename_i hc; exact ⟨hc, h⟩
  · cases h
/-- a number that is none of a switch's -/
theorem swOut {lo k : Nat} {x : Int32} (h : ∀ j, j < k → ¬ x = Int32.ofNat (lo + j)) (hk : lo + k < 2 ^ 31) : x.toInt < (lo : Int) ∨ ((lo + k : Nat) : Int) - 1 < x.toInt := by
  rcases Int.lt_or_le x.toInt (lo : Int) with h1 | h1
  · exact Or.inl h1
  · rcases Int.lt_or_le (((lo + k : Nat) : Int) - 1) x.toInt with h2 | h2
    · exact Or.inr h2
    · exfalso
      have hj : (x.toInt - lo).toNat < k := by omega
      refine h _ hj (Int32.toInt_inj.mp ?_)
      rw [Int32.toInt_ofNat_of_lt (by omega)]
      omega
/-- the most steps of a loop -/
def fuelN : Nat := 4096
