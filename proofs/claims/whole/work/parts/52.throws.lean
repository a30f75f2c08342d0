theorem tb_26_0 : Cond.classLink RX11 356 "java/util/NoSuchElementException" ∈ bT := List.mem_append_left _ (in_r26 _ (List.mem_of_getElem? (i := 0) rfl))
theorem tb_26_1 : Cond.initialized "java/util/NoSuchElementException" ∈ bT := List.mem_append_left _ (in_r26 _ (List.mem_of_getElem? (i := 1) rfl))
theorem tb_9_4 : Cond.classLink RX11 87 "java/lang/IllegalArgumentException" ∈ bT := List.mem_append_left _ (in_r9 _ (List.mem_of_getElem? (i := 4) rfl))
theorem tb_9_5 : Cond.initialized "java/lang/IllegalArgumentException" ∈ bT := List.mem_append_left _ (in_r9 _ (List.mem_of_getElem? (i := 5) rfl))
theorem tb_39_5 : Cond.classLink RX11 386 "java/lang/IllegalStateException" ∈ bT := List.mem_append_left _ (in_r39 _ (List.mem_of_getElem? (i := 5) rfl))
theorem tb_39_6 : Cond.initialized "java/lang/IllegalStateException" ∈ bT := List.mem_append_left _ (in_r39 _ (List.mem_of_getElem? (i := 6) rfl))
theorem tb_68_8 : Cond.classLink RX11 366 "java/lang/IndexOutOfBoundsException" ∈ bT := List.mem_append_left _ (in_r68 _ (List.mem_of_getElem? (i := 8) rfl))
theorem tb_68_9 : Cond.initialized "java/lang/IndexOutOfBoundsException" ∈ bT := List.mem_append_left _ (in_r68 _ (List.mem_of_getElem? (i := 9) rfl))
def exN (k : Nat) : String := if k = 1 then "java/lang/IllegalArgumentException" else if k = 2 then "java/util/NoSuchElementException" else if k = 3 then "java/lang/IllegalStateException" else "java/lang/IndexOutOfBoundsException"
def exI (k : Nat) : Nat := if k = 1 then 91 else if k = 2 then 360 else if k = 3 then 390 else 370
/-- where the class's own constructor links its super, and its bytes -/
def exJ (k : Nat) : Nat := if k = 2 then 13 else 7
def exR (k : Nat) : ByteArray := if k = 2 then ⟨#[0x2a, 0x2b, 0xb7, 0x00, 0x0d, 0xb1]⟩ else Bundle.six
theorem exR_ok (k : Nat) : decode (exR k) 0 = .ok (.aload_n 0, 1) ∧ decode (exR k) 1 = .ok (.aload_n 1, 1) ∧ decode (exR k) 2 = .ok (.invokespecial (exJ k), 3) ∧ decode (exR k) 5 = .ok (.return_, 1) := by
  unfold exR exJ
  by_cases h : k = 2
  · rw [if_pos h, if_pos h]
    exact ⟨by decide +kernel, by decide +kernel, by decide +kernel, by decide +kernel⟩
  · rw [if_neg h, if_neg h]
    exact ⟨Bundle.six_0, Bundle.six_1, Bundle.six_2, Bundle.six_5⟩
def exA (k : Nat) : List Cond := vx_atX RX11 (exI k) (exN k) (exJ k) (exR k) "java/lang/RuntimeException" ["java/lang/Exception"]
/-- the words of the four throws -/
def vxW (k : Nat) : List Cond := (exA k).filter goodWord
def vxD : List Cond := [.declares (Bundle.initS "java/lang/RuntimeException"), .declares (Bundle.initS "java/lang/Exception"), .declares (Bundle.initS Bundle.tN)]
def XS (A : Nat → Prop) (U : State) (H : Heap) : Prop := vx_Zq Bundle.tN "UNASSIGNED_STACK" Bundle.steD A U H ∧ vx_Zq Bundle.tN "SUPPRESSED_SENTINEL" Bundle.listD A U H ∧ (∀ w ∈ vxD, va_Nw w U) ∧ ∀ k, 1 ≤ k → k ≤ 4 → va_Nw (.castable (exN k) (exN k)) U
theorem vxD_warm {s U : State} (hW : s.WarmedH U.vm) (h : ∀ w ∈ vxD, va_Nw w s) : ∀ w ∈ vxD, va_Nw w U := by
  intro w hw
  have h1 := h w hw
  simp only [vxD, List.mem_cons, List.not_mem_nil, or_false] at hw
  rcases hw with q | q | q <;> subst q <;> exact va_Nw.warmD hW h1
theorem vxD_same {U V : State} (hv : V.vm = U.vm) (h : ∀ w ∈ vxD, va_Nw w U) : ∀ w ∈ vxD, va_Nw w V := by
  intro w hw
  have h1 := h w hw
  simp only [vxD, List.mem_cons, List.not_mem_nil, or_false] at hw
  rcases hw with q | q | q <;> subst q <;> exact va_tabs rfl hv.symm h1
theorem XS.blind {A : Nat → Prop} {U V : State} {H : Heap} (hv : V.vm = U.vm) (h : XS A U H) : XS A V H := by
  have ha : U.vm.Alike V.vm := by rw [hv]; exact Vm.Alike.refl U.vm
  exact ⟨h.1.moved ha, h.2.1.moved ha, vxD_same hv h.2.2.1, fun k h1 h2 => va_tabs rfl hv.symm (h.2.2.2 k h1 h2)⟩
theorem XS.step {A B : Nat → Prop} {s U : State} {H : Heap} {locs : List Loc} (h : XS A s s.heap) (hS : va_S A s.heap H locs) (hAB : ∀ q, B q → A q) (hW : s.WarmedH U.vm) : XS B U H := ⟨((h.1.kept hS.2.1).narrow hAB).moved hW.alike, ((h.2.1.kept hS.2.1).narrow hAB).moved hW.alike, vxD_warm hW h.2.2.1, fun k h1 h2 => va_Nw.warmC hW (h.2.2.2 k h1 h2)⟩
def bT2 : List Cond := bT ++ (vxW 1 ++ (vxW 2 ++ (vxW 3 ++ vxW 4)))
def wsOf2 (y : MethodName) (cc : ByteArray) (n : Nat) (r : Option FieldType) : List Cond := .code y cc n r :: bT2
theorem bT2_good : bT2.all goodWord = true := by
  unfold bT2
  simp only [List.all_append, Bool.and_eq_true]
  refine ⟨bT_good, ?_, ?_, ?_, ?_⟩ <;> exact List.all_eq_true.mpr (fun w hw => (List.mem_filter.mp hw).2)
theorem bT2_mem {w : Cond} (h : w ∈ bT2) : (w.onTables && w.keeps) = true ∨ ∃ ty, w = .arrayClass ty := good_of_word (List.all_eq_true.mp bT2_good w h)
theorem bT2_in {ws : List Cond} (h : ∀ w ∈ ws, w ∈ bT2) : GoodIn bT2 ws := fun w hw => ⟨h w hw, bT2_mem (h w hw)⟩
theorem bT_bT2 {w : Cond} (h : w ∈ bT) : w ∈ bT2 := List.mem_append_left _ h
theorem vxW_bT2 {k : Nat} (h1 : 1 ≤ k) (h4 : k ≤ 4) {w : Cond} (h : w ∈ vxW k) : w ∈ bT2 := by
  refine List.mem_append_right _ ?_
  rcases (show k = 1 ∨ k = 2 ∨ k = 3 ∨ k = 4 by omega) with q | q | q | q <;> subst q
  · exact List.mem_append_left _ h
  · exact List.mem_append_right _ (List.mem_append_left _ h)
  · exact List.mem_append_right _ (List.mem_append_right _ (List.mem_append_left _ h))
  · exact List.mem_append_right _ (List.mem_append_right _ (List.mem_append_right _ h))
set_option maxRecDepth 100000 in
theorem vx_ng : ∀ k, 1 ≤ k → k ≤ 4 → ∀ w ∈ (exA k).filter (fun w => !goodWord w), w ∈ Cond.castable (exN k) (exN k) :: vxD := by
  intro k h1 h4
  rcases (show k = 1 ∨ k = 2 ∨ k = 3 ∨ k = 4 by omega) with q | q | q | q <;> subst q <;> decide +kernel
set_option maxRecDepth 100000 in
theorem vx_okk : ∀ k, 1 ≤ k → k ≤ 4 → ∀ w ∈ exA k, vx_ot w = true := by
  intro k h1 h4
  rcases (show k = 1 ∨ k = 2 ∨ k = 3 ∨ k = 4 by omega) with q | q | q | q <;> subst q <;> decide +kernel
/-- what a walk that ends in a throw needs besides -/
def TC (l : Launch) (s : State) (args : Array Value) (c : Code) (adK adV : Nat → Nat) (A : Nat → Prop) : Prop := KS adK adV A s s.heap ∧ XS A s s.heap ∧ (∀ w ∈ bT2, w.before args s = true) ∧ (∀ x ∈ c.exceptionTable.toList, False) ∧ l.stackTraces = false
/-- the world behind a throw of kind kd -/
def XP (D : va_G) (cs : Nat → ClassId) (ad al : Nat → Nat) (P : PL) (kd : Nat) (g : CS) (A : Nat → Prop) : String → State → State → Prop := fun E st t => E = exN kd ∧ va_P D vwCl (SW cs ad al P g) t.heap ∧ va_D A (SW cs ad al P g) ∧ va_F A st t
def fit1 (k : Nat) : Bool := Bundle.fit (exN k)
set_option maxRecDepth 100000 in
theorem fit1_ok : ∀ k, 1 ≤ k → k ≤ 4 → fit1 k = true := by
  intro k h1 h4
  rcases (show k = 1 ∨ k = 2 ∨ k = 3 ∨ k = 4 by omega) with q | q | q | q <;> subst q <;> decide +kernel
def QF : Array Value → State → Outcome → State → Prop := fun _ _ _ _ => False
def XCon (l : Launch) (D : va_G) (cs : Nat → ClassId) (ad al adK adV : Nat → Nat) (y : MethodName) (bc : ByteArray) (nc : Nat) (rc : Option FieldType) (rm : Room) (av : List Value) (P : PL) (g : CS) (kd : Nat) (g' : CS) : Prop :=
  ∀ sz : Nat, vx_Met l y (wsOf2 y bc nc rc) rm (va_Pc av (fun U => U.heap.size = sz ∧ va_P D vwCl (SW cs ad al P g) U.heap ∧ va_K D vwCl (tyL cs) U ∧ va_D (fun _ => True) (SW cs ad al P g) ∧ KS adK adV (va_A (SW cs ad al P g) sz) U U.heap ∧ XS (va_A (SW cs ad al P g) sz) U U.heap)) QF (XP D cs ad al P kd g' (va_A (SW cs ad al P g) sz)) 1 6 (va_A (SW cs ad al P g) sz)
section
variable {p : Program} {l : Launch} {e : Env} {R : Room} {s : State} {m : MethodId} {args : Array Value} {below : List Frame} {meth : Method} {c : Code} {H : Heap} {locs : List Loc} {Q : State → Prop}
variable {D : va_G} {cs : Nat → ClassId} {ad al adK adV : Nat → Nat} {A : Nat → Prop} {own : String} {cc : ByteArray} {nL : Nat} {rt : Option FieldType} {pc : Nat} {ls : Array Slot} {rest : List Value} {P : PL} {g g' : CS} {kd : Nat}
theorem XCon.of {y : MethodName} {bc : ByteArray} {nc : Nat} {rc : Option FieldType} {rm : Room} {av : List Value} (hst : l.stackTraces = false) (hy : plainName y.cls = true) (hlen : (lg_sl av).length ≤ nc)
    (body : ∀ (p : Program) (e : Env) (s : State) (m : MethodId) (args : Array Value) (below : List Frame) (meth : Method) (c : Code) (A : Nat → Prop) (ls : Array Slot) (H : Heap) (locs : List Loc), MCx p s m args meth c A y.cls bc nc rc D cs → TC l s args c adK adV A → MH D (SW cs ad al P g) A s H locs → lv_has ls nc (lv_args 0 av) → W p l e rm s m args below meth c H locs 0 0 (vx_MQ below QF (XP D cs ad al P kd g' A) args s 1 6 A) (F0 m 0 ls [])) :
    XCon l D cs ad al adK adV y bc nc rc rm av P g kd g' := by
  intro sz
  refine vx_ofW (cc := bc) (maxL := nc) (ret := rc) hy rfl ?_
  intro p e s m args below meth c s₁ B hml hex hv
  obtain ⟨rfl, hsz, hP, hK, hD0, hKS, hXS⟩ := hv
  have hts := atoms_spec (ws := wsOf2 y bc nc rc) B.pre
  have hown : s.vm.findClass y.cls = some m.cls := findClass_of_methodNamed B.named
  subst hsz
  have hl := lv_entry av (n := nc) hlen
  rw [lg_entry_eq]
  exact body p e s m _ below meth c (va_A (SW cs ad al P g) s.heap.size) _ s.heap [] ⟨B.exec, B.bytes, hml, hown, fun w h => hts w (List.mem_cons_of_mem _ (bT_bT2 h)), B.returns, B.notSynchronized, hK, fun q h => Or.inr h⟩ ⟨hKS, hXS, fun w h => hts w (List.mem_cons_of_mem _ h), hex, hst⟩ ⟨hP, hD0.self, va_S.rf⟩ hl
theorem t_hx (C : MCx p s m args meth c A own cc nL rt D cs) (h : MH D (SW cs ad al P g) A s H locs) : ∀ t : State, s.vm.Alike t.vm → H.size ≤ t.heap.size → (∀ q : Nat, q < H.size → t.heap[q]? = H[q]?) → XP D cs ad al P kd g A (exN kd) s t := by
  obtain ⟨hP, hD, hS⟩ := h
  intro t _ hz hk
  exact ⟨rfl, hP.kept (fun k q hq => hk q.1 ((hP k q hq).lt)), hD, Nat.le_trans hS.1 hz, fun q h1 h2 => (hk q (Nat.lt_of_lt_of_le h1 hS.1)).trans (hS.2.1 q h1 h2)⟩
theorem t_words (hT : TC l s args c adK adV A) (k : Nat) (h1 : 1 ≤ k) (h4 : k ≤ 4) : ∀ w ∈ exA k, w.before args s = true := by
  refine vx_hat (B := Cond.castable (exN k) (exN k) :: vxD) (fun w hw => hT.2.2.1 w (vxW_bT2 h1 h4 hw)) (vx_ng k h1 h4) ?_
  intro w hw
  rcases List.mem_cons.mp hw with q | q
  · subst q; exact va_tabs rfl rfl (hT.2.1.2.2.2 k h1 h4)
  · have hz := hT.2.1.2.2.1 w q
    simp only [vxD, List.mem_cons, List.not_mem_nil, or_false] at q
    rcases q with q | q | q <;> subst q <;> exact va_tabs rfl rfl hz
theorem t_throwS {ik is i : Nat} (k : Nat) (h1 : 1 ≤ k) (h4 : k ≤ 4) (C : MCx p s m args meth c A RX11 cc nL rt D cs) (hT : TC l s args c adK adV A) (h : MH D (SW cs ad al P g) A s H locs) (hk : Cond.classLink RX11 ik (exN k) ∈ bT) (hin : Cond.initialized (exN k) ∈ bT) (hi : i < nS) (hs1 : (sNm i).1 = RX11) (hs2 : (sNm i).2.1 = is) (hls : ls.size = nL)
    (d0 : decode cc pc = .ok (.new ik, 3)) (d3 : decode cc (pc + 3) = .ok (.dup, 1)) (d4 : decode cc (pc + 4) = .ok (.ldc is, 2)) (d6 : decode cc (pc + 6) = .ok (.invokespecial (exI k), 3)) (d9 : decode cc (pc + 9) = .ok (.athrow, 1)) (hfr : 5 < R.frames) (hlo : (rest.map fun v => v.category).sum + 82 ≤ R.locals) (hc : 1 ≤ R.cells) (hs : 6 ≤ R.slots) :
    W p l e R s m args below meth c H locs 0 0 (vx_MQ below QF (XP D cs ad al P k g A) args s 1 6 A) (F0 m pc ls rest) := by
  have hx := t_hx (kd := k) C h
  obtain ⟨hx0, hb, hml, hown, hts, hr, hlocks, hK, hA⟩ := C
  have hR := hT.1.2.1 i hi
  rw [hs1, hs2] at hR
  have e1 : fit1 k = true := fit1_ok k h1 h4
  exact vx_throwXS (Y := "java/lang/RuntimeException") (r := ["java/lang/Exception"]) (cls := exN k) (own := RX11) (ic := exI k) (ix := exJ k) (rx := exR k) hx0 hb hT.2.2.2.2 hown e1 (by decide +kernel) (by decide +kernel) (exR_ok k).1 (exR_ok k).2.1 (exR_ok k).2.2.1 (exR_ok k).2.2.2 (hts _ hk) (hts _ hin) hR (t_words hT k h1 h4) (fun w hw => by
    rcases List.mem_cons.mp hw with q | q
    · subst q; rfl
    · rcases List.mem_cons.mp q with q | q
      · subst q; rfl
      · exact vx_okk k h1 h4 w q) hT.2.1.1 hT.2.1.2.1 h.2.2 (hls.trans hml.symm) d0 d3 d4 d6 d9 (fun x hx => (hT.2.2.2.1 x hx).elim) (by show 1 + 4 < R.frames; omega) (by show _ + (13 * (1 + 2) + 43) ≤ R.locals; omega) (by omega) (by omega) hlocks hx h.2.2.2.2 (by omega) (by omega)
theorem t_throwW {ik is i : Nat} (k : Nat) (h1 : 1 ≤ k) (h4 : k ≤ 4) (C : MCx p s m args meth c A RX11 cc nL rt D cs) (hT : TC l s args c adK adV A) (h : MH D (SW cs ad al P g) A s H locs) (hk : Cond.classLink RX11 ik (exN k) ∈ bT) (hin : Cond.initialized (exN k) ∈ bT) (hi : i < nS) (hs1 : (sNm i).1 = RX11) (hs2 : (sNm i).2.1 = is) (hls : ls.size = nL)
    (d0 : decode cc pc = .ok (.new ik, 3)) (d3 : decode cc (pc + 3) = .ok (.dup, 1)) (d4 : decode cc (pc + 4) = .ok (.ldc_w is, 3)) (d7 : decode cc (pc + 7) = .ok (.invokespecial (exI k), 3)) (d10 : decode cc (pc + 10) = .ok (.athrow, 1)) (hfr : 5 < R.frames) (hlo : (rest.map fun v => v.category).sum + 82 ≤ R.locals) (hc : 1 ≤ R.cells) (hs : 6 ≤ R.slots) :
    W p l e R s m args below meth c H locs 0 0 (vx_MQ below QF (XP D cs ad al P k g A) args s 1 6 A) (F0 m pc ls rest) := by
  have hx := t_hx (kd := k) C h
  obtain ⟨hx0, hb, hml, hown, hts, hr, hlocks, hK, hA⟩ := C
  have hR := hT.1.2.1 i hi
  rw [hs1, hs2] at hR
  have e1 : fit1 k = true := fit1_ok k h1 h4
  exact vx_throwXW (Y := "java/lang/RuntimeException") (r := ["java/lang/Exception"]) (cls := exN k) (own := RX11) (ic := exI k) (ix := exJ k) (rx := exR k) hx0 hb hT.2.2.2.2 hown e1 (by decide +kernel) (by decide +kernel) (exR_ok k).1 (exR_ok k).2.1 (exR_ok k).2.2.1 (exR_ok k).2.2.2 (hts _ hk) (hts _ hin) hR (t_words hT k h1 h4) (fun w hw => by
    rcases List.mem_cons.mp hw with q | q
    · subst q; rfl
    · rcases List.mem_cons.mp q with q | q
      · subst q; rfl
      · exact vx_okk k h1 h4 w q) hT.2.1.1 hT.2.1.2.1 h.2.2 (hls.trans hml.symm) d0 d3 d4 d7 d10 (fun x hx => (hT.2.2.2.1 x hx).elim) (by show 1 + 4 < R.frames; omega) (by show _ + (13 * (1 + 2) + 43) ≤ R.locals; omega) (by omega) (by omega) hlocks hx h.2.2.2.2 (by omega) (by omega)
theorem t_fb {av : List Value} {sz : Nat} {Wd : va_W} : FrameBlind (va_Pc av (fun U => U.heap.size = sz ∧ va_P D vwCl Wd U.heap ∧ va_K D vwCl (tyL cs) U ∧ va_D (fun _ => True) Wd ∧ KS adK adV (va_A Wd sz) U U.heap ∧ XS (va_A Wd sz) U U.heap)) := fun a U g mk q => by
  obtain ⟨q0, q1, qP, qK, qD, qS, qX⟩ := q
  exact ⟨q0, q1, qP, va_K.moved (u := U) (U := U.calling g mk a) (Vm.Alike.refl U.vm) qK, qD, KS.blind (U := U) (V := U.calling g mk a) rfl qS, XS.blind (U := U) (V := U.calling g mk a) rfl qX⟩
/-- a callee that throws, not caught here -/
theorem t_callV {y : MethodName} {bc : ByteArray} {nc : Nat} {rc : Option FieldType} {rm : Room} {idx b n : Nat} {st : List Value} (av : List Value) (C : MCx p s m args meth c A own cc nL rt D cs) (hT : TC l s args c adK adV A) (h : MH D (SW cs ad al P g) A s H locs)
    (cv : CalV own idx y bc nc rc n) (hM : XCon l D cs ad al adK adV y bc nc rc rm (.ref b :: av) P g kd g') (hn : av.length = n) (hrm : rm.cells = 1 ∧ rm.slots = 6) (hR : rm.frames + 1 ≤ R.frames ∧ 8 + (nc + 11) + rm.locals ≤ R.locals)
    (hrecv : ∃ cell : Cell, H[b]? = some cell ∧ cell.vm.isStatics = false ∧ s.vm.findClass y.cls = some cell.cls) (hls : ls.size = nL) (hst : st = av.reverse ++ .ref b :: rest) (hW : (rest.map fun v => v.category).sum ≤ 8) (hf : 1 ≤ R.cells ∧ 6 ≤ R.slots) (hdg : decode cc pc = .ok (.invokevirtual idx, 3)) :
    W p l e R s m args below meth c H locs 0 0 (vx_MQ below QF (XP D cs ad al P kd g' A) args s 1 6 A) (F0 m pc ls st) := by
  have C0 := C
  obtain ⟨hx, hb, hml, hown, hts, hrt, hlocks, hK, hA⟩ := C
  obtain ⟨hP, hD, hS⟩ := h
  have hfr := va_A_sub hD hS hA
  have ht2 := hT.2.2.1
  have hcode : Cond.code y bc nc rc ∈ bT2 := bT_bT2 (cv.1 _ (by unfold wsV; exact List.mem_append_right _ List.mem_cons_self))
  have hr := vx_runV (H := H) (locs := locs) (cells := 0) (slots := 0) (g := F0 m pc ls st) (rest := rest) (As := av) (R := R) (e := e) (below := below) (meth := meth) (b := b) ⟨hx, hb, hml, hown, ht2⟩ (hM H.size) (cwV (C := y.cls) n ht2 (bT2_in (ws := wsV own idx y.cls y (wsOf2 y bc nc rc)) (fun w hw => by
    unfold wsV at hw
    rcases List.mem_append.mp hw with q | q
    · exact bT_bT2 (cv.1 w (by unfold wsV; exact List.mem_append_left _ q))
    · rcases List.mem_cons.mp q with q | q
      · subst q; exact hcode
      · exact q)) rfl hrm.1 hrm.2 ⟨rfl, cv.2⟩ hR) ⟨t_fb, hrecv, fun U hU hW => ⟨rfl, by rw [hU], by rw [hU]; exact hP, va_K.moved hW.alike hK, hD.weaken (fun _ _ _ _ => trivial), by rw [hU]; exact hT.1.step hS hfr hW, by rw [hU]; exact hT.2.1.step hS hfr hW⟩⟩ rfl hn hls hst (lv_room hW) hdg (by omega)
  intro T hTT X
  rcases hr T hTT X with ⟨v, st₀, t, T', L, h0, X', hL, e1, e2, hF, sg⟩ | ⟨q, st₀, t, T', L, E, ce, h0, X', hL, e1, e2, ⟨hE, hP1, hD1, hF⟩, hce, hcv, hcl, sg⟩
  · exact hF.elim
  · obtain ⟨k1, k2, k3⟩ := vx_keep (A1 := va_A (SW cs ad al P g) H.size) h0 e1 hS (fun q _ z => hfr q z) hfr hL hF
    obtain ⟨t2, a1, b1⟩ := vx_out (p := p) (l := l) (e := e) (R := R) (m := m) (below := below) (ls := ls) (rest := rest) (pc := pc) (Qc := QF) (XC := XP D cs ad al P kd g' A) (mc := 1) (ms := 6) (free := A) (E := E) (ce := ce) (q := q) (H := T'.heap) (locs := locs ++ L) (cells := 0 + 1) (slots := 0 + 6) (fun x hx => (hT.2.2.2.1 x hx).elim) hlocks (by rw [e1]; exact hce) hcv hcl (fun t' ht' _ => ⟨hE, by rw [ht', e1]; exact hP1, hD1.weaken (fun _ z _ => hfr z.1), k3.F ht'⟩) k3.2.2 (by omega) (by omega) T' rfl X'
    exact ⟨t2, sg.trans a1, b1⟩
end
theorem bndx_cases {ρ τ σ : Type} {f : Option ((Nat ⊕ ρ) × σ)} {k : ρ → σ → Option ((Nat ⊕ τ) × σ)} {x : Nat} {s' : σ} (h : bndx f k = some (Sum.inl x, s')) : f = some (Sum.inl x, s') ∨ ∃ r s, f = some (Sum.inr r, s) ∧ k r s = some (Sum.inl x, s') := by
  match f, h with
  | some (Sum.inr r, s), h => exact Or.inr ⟨r, s, rfl, h⟩
  | some (Sum.inl y, s), h =>
    have h1 := Option.some.inj h
    have h2 := Sum.inl.inj (congrArg Prod.fst h1)
    have h3 := congrArg Prod.snd h1
    dsimp only at h2 h3
    subst h2 h3
    exact Or.inl rfl
  | none, h => exact absurd h (by simp [bndx])
theorem xl_inj {α β : Type} {a c : Nat} {b d : β} (h : some ((Sum.inl a : Nat ⊕ α), b) = some (Sum.inl c, d)) : a = c ∧ b = d := by
  have h1 := Option.some.inj h
  exact ⟨Sum.inl.inj (congrArg Prod.fst h1), congrArg Prod.snd h1⟩
theorem xr_l {α β : Type} {a : α} {c : Nat} {b d : β} (h : some ((Sum.inr a : Nat ⊕ α), b) = some (Sum.inl c, d)) : False := by
  have h1 := congrArg Prod.fst (Option.some.inj h)
  cases h1
