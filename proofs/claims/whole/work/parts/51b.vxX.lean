/-! ===== a throw with a text, its class's own constructor linking its super at any index ===== -/
section VXX
/-- the words of the class that is thrown -/
def vx_ownW (own : String) (ic : Nat) (X : String) : List Cond :=
  [.methodLink own ic (Bundle.initS X), .instantiable X 6, .castable X X, .selects X Bundle.tFill0 Bundle.tFill0, .selects X Bundle.tFill Bundle.tFill,
   .lays X Bundle.tN "cause" "Ljava/lang/Throwable;", .lays X Bundle.tN "stackTrace" Bundle.steD, .lays X Bundle.tN "suppressedExceptions" Bundle.listD, .lays X Bundle.tN "detailMessage" "Ljava/lang/String;",
   .isRef (.static Bundle.tN "UNASSIGNED_STACK" Bundle.steD), .isRef (.static Bundle.tN "SUPPRESSED_SENTINEL" Bundle.listD),
   .fieldLink Bundle.tN 198 Bundle.tN "backtrace" "Ljava/lang/Object;", .lays Bundle.tN Bundle.tN "backtrace" "Ljava/lang/Object;", .lays X Bundle.tN "backtrace" "Ljava/lang/Object;"]
/-- .. with those of its first step up (index ix, bytes rx), of the steps above it, and of Throwable -/
def vx_ownX (own : String) (ic : Nat) (X : String) (ix : Nat) (rx : ByteArray) (Y : String) (r : List String) : List Cond :=
  Bundle.throwableAtoms ++ (Bundle.throwableSAtoms ++ (Bundle.passSAtoms X Y ix rx ++ (Bundle.chainSAtoms Y r ++ vx_ownW own ic X)))
def vx_atX (own : String) (ic : Nat) (X : String) (ix : Nat) (rx : ByteArray) (Y : String) (r : List String) : List Cond := (vx_ownX own ic X ix rx Y r).filter vx_no
section
variable {own X Y : String} {ic ix : Nat} {rx : ByteArray} {r : List String} {w : Cond}
theorem vx_inA (h : w ∈ Bundle.throwableAtoms) : w ∈ vx_ownX own ic X ix rx Y r := List.mem_append_left _ h
theorem vx_inB (h : w ∈ Bundle.throwableSAtoms) : w ∈ vx_ownX own ic X ix rx Y r := List.mem_append_right _ (List.mem_append_left _ h)
theorem vx_inC (h : w ∈ Bundle.passSAtoms X Y ix rx) : w ∈ vx_ownX own ic X ix rx Y r := List.mem_append_right _ (List.mem_append_right _ (List.mem_append_left _ h))
theorem vx_inD (h : w ∈ Bundle.chainSAtoms Y r) : w ∈ vx_ownX own ic X ix rx Y r := List.mem_append_right _ (List.mem_append_right _ (List.mem_append_right _ (List.mem_append_left _ h)))
theorem vx_inE (h : w ∈ vx_ownW own ic X) : w ∈ vx_ownX own ic X ix rx Y r := List.mem_append_right _ (List.mem_append_right _ (List.mem_append_right _ (List.mem_append_right _ h)))
end
variable {p : Program} {l : Launch} {e : Env} {R : Room} {s : State} {m : MethodId} {args : Array Value} {below : List Frame} {meth : Method} {c : Code} {H : Heap} {locs : List Loc} {cells slots : Nat} {Q : State → Prop}
variable {mc ms : Nat} {free : Addr → Prop} {A0 A1 : Nat → Prop} {H0 : Heap} {a : Array Value} {ls : Array Slot} {st0 rest : List Value}
variable {Qc : Array Value → State → Outcome → State → Prop} {XC : String → State → State → Prop}
set_option maxHeartbeats 2000000 in
/-- behind 'new; dup; ldc': the constructor's call and the throw -/
theorem vx_ctorX {T : State} (X : Stand p l e R s m args below meth c T [] cells slots) (hexec : p.tables.exec = Jvm.exec) (htr : e.platform.stackTraces = false) {own cls Y : String} {r : List String} {ic ix : Nat} {rx : ByteArray}
    (x0 : decode rx 0 = .ok (.aload_n 0, 1)) (x1 : decode rx 1 = .ok (.aload_n 1, 1)) (x2 : decode rx 2 = .ok (.invokespecial ix, 3)) (x5 : decode rx 5 = .ok (.return_, 1))
    (hown : s.vm.findClass own = some m.cls) (hcls : Bundle.fit cls = true) (hY : Bundle.fit Y = true) (hr : ∀ n ∈ r, Bundle.fit n = true)
    (hA : ∀ w ∈ Bundle.throwableAtoms, w.before args s = true) (hB : ∀ w ∈ Bundle.throwableSAtoms, w.before args s = true) (hC : ∀ w ∈ Bundle.passSAtoms cls Y ix rx, w.before args s = true) (hD : ∀ w ∈ Bundle.chainSAtoms Y r, w.before args s = true) (hE : ∀ w ∈ vx_ownW own ic cls, w.before args s = true)
    {q : Addr} {cX : ClassId} {kX : Class} (hfX : s.vm.findClass cls = some cX) (hkX : s.vm.classes[cX]? = some kX) (hcell : T.heap[q]? = some (freshCell cX kX)) (hnew : s.heap.size ≤ q) {msg : Value} (hmsg : msg.isRef = true)
    {g : JFrame} (hg : g.method = m) (hsize : g.locals.size = c.maxLocals) (hlocked : g.locked = none) (hentered : g.entered = []) {rest : List Value} (hstack : g.stack = msg :: .ref q :: .ref q :: rest)
    (hd : decode c.code g.pc = .ok (.invokespecial ic, 3)) (hd3 : decode c.code (g.pc + 3) = .ok (.athrow, 1)) (hout : ∀ x ∈ c.exceptionTable.toList, covers x (g.pc + 3) = false)
    (hRf : r.length + 4 < R.frames) (hRl : 2 * g.monitorRoom + ((Value.ref q :: rest).map fun v => v.category).sum + (13 * (r.length + 2) + 42) ≤ R.locals) (hlocks : meth.locks = false) :
    ∃ U : State, Steps p.tables e below (T.setTop g) U ∧ U.status = .running ∧ Ended U below (.threw q) ∧ s.WarmedH U.vm ∧ s.sameButNew ({ U with vm := s.vm } : State) [] cells slots ∧
      ∃ ce, U.heap[q]? = some ce ∧ s.vm.findClass cls = some ce.cls ∧ ce.vm = .none := by
  have p1 : e.platform.frameOwnsMonitors = true := by rw [X.admits.platform]
  have p2 : e.platform.finalization = false := by rw [X.admits.platform]
  have p3 : e.platform.magicAccessors = ({} : Platform).magicAccessors := by rw [X.admits.platform]
  have hw : ∀ w, w ∈ vx_ownW own ic cls → w.holds args s none s [] = true := fun w h => hE w h
  -- Throwable, its constructor with a text, the steps up to it
  obtain ⟨K, Z0, LK, -, tk⟩ := ThrowableC.of_atoms (args := args) p1 p2 p3 hA
  obtain ⟨Z, M, LZ, LM, nZ⟩ := Init0T.ofS_atoms (args := args) p3 LK tk hB
  obtain ⟨P1, L1, n1, u1⟩ := PassC.ofS_atoms (args := args) p3 (Bundle.fit_spec hcls).1 (Bundle.fit_spec hY).2 x0 x1 x2 x5 hC
  obtain ⟨P2, Ps, hlen, L2, Ls, n2, l2, lp⟩ := Bundle.chainS (args := args) p3 nZ r Y hY hr hD
  have up : PassesOn (Z.m K.toThrowableT) ((P1 :: P2 :: Ps).map (·.toPassT)) := ⟨Option.some.inj (u1.symm.trans n2), l2, lp⟩
  have lk : ∀ P, P ∈ P1 :: P2 :: Ps → P.LinksS e.platform s := by
    intro P hP
    rcases List.mem_cons.mp hP with h | h
    · subst h; exact L1
    · rcases List.mem_cons.mp h with h | h
      · subst h; exact L2
      · exact Ls P h
  -- the class
  have hfc : s.vm.findClass cls = some P1.m.cls := findClass_of_methodNamed n1
  cases Option.some.inj (hfX.symm.trans hfc)
  obtain ⟨c1, k1, hc1, hk, hord, -, -, -⟩ := Cond.instantiable_spec (hw (.instantiable cls 6) (by simp [vx_ownW]))
  cases Option.some.inj (hc1.symm.trans hfc)
  cases Option.some.inj (hkX.symm.trans hk)
  have sel : ∀ (y : MethodName) (d : MethodId), Cond.selects cls y y ∈ vx_ownW own ic cls → s.methodNamed? y = some d → (y.cls ≠ "java/lang/invoke/MethodHandle" ∧ y.cls ≠ "java/lang/invoke/VarHandle") → selectMethod e.platform s.vm P1.m.cls d = .method d := by
    intro y d hy hd hn
    obtain ⟨c2, r2, m2, q1, q2, q3, q4, -⟩ := Cond.selects_spec (hw _ hy)
    cases Option.some.inj (q1.symm.trans hfc)
    cases Option.some.inj (q2.symm.trans (State.methodFound?_of_named hd hn))
    cases Option.some.inj (q3.symm.trans hd)
    rw [Launch.admits_selectMethod X.admits]
    exact q4
  have sel0 := sel Bundle.tFill0 K.fill0 (by simp [vx_ownW]) tk.fill0 (by decide)
  have selF := sel Bundle.tFill K.fill (by simp [vx_ownW]) tk.fill (by decide)
  -- Throwable's statics, as they lie now
  obtain ⟨cS, hcS, hst⟩ := tk.statics
  obtain ⟨u0, hu0⟩ := Cond.staticRefV tk.unassigned LK.unassignedStatic LK.statics hcS hst (hw (.isRef (.static Bundle.tN "UNASSIGNED_STACK" Bundle.steD)) (by simp [vx_ownW]))
  obtain ⟨sn, hsn⟩ := Cond.staticRefV tk.sentinel LK.sentinelStatic LK.statics hcS hst (hw (.isRef (.static Bundle.tN "SUPPRESSED_SENTINEL" Bundle.listD)) (by simp [vx_ownW]))
  obtain ⟨cS', eS, vS, -, kS⟩ := X.same.2.2.2.2.2 K.aS cS hcS
  have eS' : T.heap[K.aS]? = some cS' := eS
  have unk : cS'.vm ≠ .unknown := by
    rw [vS]
    intro h
    rw [show cS.vm = .unknown from h] at hst
    cases hst
  have neq : K.aS ≠ q := Nat.ne_of_lt (Nat.lt_of_lt_of_le (Array.getElem?_eq_some_iff.mp hcS).1 hnew)
  -- the five fields that are written, apart from the trace
  obtain ⟨ci, ib, fB, b1, b2, b3, b4, -, b5, b6, b7⟩ := Cond.ownField (t := .object "java/lang/Object") tk.found LK.cls (by decide +kernel) (hw (.fieldLink Bundle.tN 198 Bundle.tN "backtrace" "Ljava/lang/Object;") (by simp [vx_ownW])) (hw (.lays Bundle.tN Bundle.tN "backtrace" "Ljava/lang/Object;") (by simp [vx_ownW])) e.platform p3
  obtain ⟨iM, fM⟩ := tk.msg
  obtain ⟨tC, dC, eC, nC⟩ := Cond.laysAt hfc hk tk.cause (hw (.lays cls Bundle.tN "cause" "Ljava/lang/Throwable;") (by simp [vx_ownW]))
  obtain ⟨tS, dS, eT, nS⟩ := Cond.laysAt hfc hk tk.stack (hw (.lays cls Bundle.tN "stackTrace" Bundle.steD) (by simp [vx_ownW]))
  obtain ⟨tP, dP, eP, nP⟩ := Cond.laysAt hfc hk tk.supp (hw (.lays cls Bundle.tN "suppressedExceptions" Bundle.listD) (by simp [vx_ownW]))
  obtain ⟨tM, dM, eM, nM⟩ := Cond.laysAt hfc hk fM (hw (.lays cls Bundle.tN "detailMessage" "Ljava/lang/String;") (by simp [vx_ownW]))
  obtain ⟨tB, dB, eB, nB⟩ := Cond.laysAt hfc hk b7 (hw (.lays cls Bundle.tN "backtrace" "Ljava/lang/Object;") (by simp [vx_ownW]))
  have a1 := Cond.laysApart eB eC nB nC (by rw [b5, tk.causeName]; decide)
  have a2 := Cond.laysApart eB eT nB nS (by rw [b5, tk.stackName]; decide)
  have a3 := Cond.laysApart eB eP nB nP (by rw [b5, tk.suppName]; decide)
  have skip : SkipFacts K e.platform s (fun u => u) u0 ((preparedCellV K.toThrowableT (freshCell P1.m.cls kX) q u0 sn).withEntry T.cur) := by
    refine ⟨{ ci198 := ci, i198 := ib, fBack := fB }, ⟨b1, b2, b3, b4⟩, ?_, fun _ _ => rfl⟩
    have h := fresh_default (c := P1.m.cls) tB
    rw [b6] at h
    simpa [preparedCellV, Cell.setSlot, Cell.withEntry, Array.getElem?_setIfInBounds, a1, a2, a3, a1.symm, a2.symm, a3.symm, defaultValue] using h
  -- the call, the chain of constructors, the throw
  obtain ⟨tm, m9, c9, k9, v1, nT, -, -, -, -, -, -, -, w1, st1⟩ := Steps.initColdS (tb := p.tables) (e := e) (below := below) (s := s) (U := T) X.here hexec X.warmed p3 hown (t := Bundle.initS cls) rfl rfl (Bundle.fit_spec hcls).2
    (hw (.methodLink own ic (Bundle.initS cls)) (by simp [vx_ownW])) (hC (.instanceMethod (Bundle.initS cls)) (by simp [Bundle.passSAtoms])) (bytes := rx) (maxL := 2) (hC (.code (Bundle.initS cls) rx 2 none) (by simp [Bundle.passSAtoms]))
    (f := g) hg (a := q) (msg := msg) (rest := .ref q :: rest) hstack hd
  cases Option.some.inj (nT.symm.trans n1)
  have X1 := X.noted w1
  obtain ⟨v2, X2, st2⟩ := X1.ctorMessageOffV hexec (g := { g with stack := .ref q :: rest }) hg hsize K LK Z LZ M LM (P1 :: P2 :: Ps) lk up (u0 := u0) (sen := sn) (self := q) hmsg (cell := freshCell P1.m.cls kX) (cellS := cS')
    hcell (fun _ => by simp) (by simp) rfl rfl sel0 selF eS' neq unk (by rw [kS _ (by simp)]; exact hu0) (by rw [kS _ (by simp)]; exact hsn)
    (Takes.of_laid hk hord tC (by rw [tk.causeType]; rfl)) (Takes.of_laid hk hord tS (by rw [tk.stackType]; exact fits_refV_array _ u0)) (Takes.of_laid hk hord tP (by rw [tk.suppType]; exact fits_refV_object _ sn)) (Takes.of_laid hk hord tM (by rw [tk.msgType]; exact fits_refV_object _ ⟨msg, hmsg⟩)) tk.objLocals skip htr [] hd
    (by simp only [List.length_cons, hlen]; omega) (by simp only [List.length_cons, hlen]; exact hRl)
  obtain ⟨wk, run, ed, wU, sm⟩ := X2.athrowLeaves hexec (g := { g with stack := .ref q :: rest, pc := g.pc + 3 }) hg hlocked hentered hout (a := q) (rest := rest) rfl hd3 hlocks
  have hU := heapAt_setCell_self (s := (T.setVm v1).setVm v2) (plainBareV K.toThrowableT (freshCell P1.m.cls kX) q u0 sn msg) (Array.getElem?_eq_some_iff.mp hcell).1
  refine ⟨_, st1 _ (fun acts => by rw [doInvoke_state]; exact st2 _ wk), run, ed, wU, sm.weaken (fun y hy hlt => ?_) (Nat.le_refl _) (Nat.le_refl _), _, hU, hfc, rfl⟩
  have hb : y.base = q := by
    simp only [List.nil_append, List.mem_cons, List.not_mem_nil, or_false] at hy
    rcases hy with h | h | h | h | h <;> subst h <;> rfl
  rw [hb] at hlt
  exact absurd hnew (Nat.not_le.mpr hlt)
theorem vx_throwXS {cc : ByteArray} {pc : Nat} (hexec : p.tables.exec = Jvm.exec) (hb : c.code = cc) (hl : l.stackTraces = false) {own cls text : String} {Y : String} {r : List String} {ix : Nat} {rx : ByteArray} {ik is ic mc ms sa : Nat} {A : Nat → Prop}
    (hown : s.vm.findClass own = some m.cls) (hcls : Bundle.fit cls = true) (hY : Bundle.fit Y = true) (hr : ∀ n ∈ r, Bundle.fit n = true) (x0 : decode rx 0 = .ok (.aload_n 0, 1)) (x1 : decode rx 1 = .ok (.aload_n 1, 1)) (x2 : decode rx 2 = .ok (.invokespecial ix, 3)) (x5 : decode rx 5 = .ok (.return_, 1))
    (hk : (Cond.classLink own ik cls).before args s = true) (hini : (Cond.initialized cls).before args s = true) (hstr : vk_R own is text sa s) (hat : ∀ w ∈ vx_atX own ic cls ix rx Y r, w.before args s = true)
    (hgood : ∀ w ∈ Cond.classLink own ik cls :: Cond.initialized cls :: vx_atX own ic cls ix rx Y r, vx_ot w = true)
    (hU : vx_Zq Bundle.tN "UNASSIGNED_STACK" Bundle.steD A s s.heap) (hN : vx_Zq Bundle.tN "SUPPRESSED_SENTINEL" Bundle.listD A s s.heap) (hS : va_S A s.heap H locs) (hsize : ls.size = c.maxLocals)
    (d0 : decode cc pc = .ok (.new ik, 3)) (d3 : decode cc (pc + 3) = .ok (.dup, 1)) (d4 : decode cc (pc + 4) = .ok (.ldc is, 2)) (d6 : decode cc (pc + 6) = .ok (.invokespecial ic, 3)) (d9 : decode cc (pc + 9) = .ok (.athrow, 1))
    (hout : ∀ x ∈ c.exceptionTable.toList, covers x (pc + 9) = false)
    (hRframes : r.length + 4 < R.frames) (hRlocals : (rest.map fun v => v.category).sum + (13 * (r.length + 2) + 43) ≤ R.locals) (hRcells : cells + 1 ≤ R.cells) (hRslots : slots + 6 ≤ R.slots) (hlocks : meth.locks = false)
    (hx : ∀ t : State, s.vm.Alike t.vm → H.size ≤ t.heap.size → (∀ q : Nat, q < H.size → t.heap[q]? = H[q]?) → XC cls s t)
    (hf : ∀ z ∈ locs, free z.base) (hc : cells + 1 ≤ mc) (hs : slots + 6 ≤ ms) :
    W p l e R s m args below meth c H locs cells slots (vx_MQ below Qc XC args s mc ms free) (F0 m pc ls rest) := by
  intro T hT X
  have htr : e.platform.stackTraces = false := (show e.platform.stackTraces = l.stackTraces by rw [X.admits.platform]).trans hl
  have Y0 := vx_rebase X (R' := { frames := R.frames, locals := R.locals, cells := 1, slots := 6 }) (Nat.le_refl _) (Nat.le_refl _) hRcells hRslots
  obtain ⟨s', hA⟩ : ∃ z, z = (T.setVm s.vm).setFrames (.invoking m args :: below) := ⟨_, rfl⟩
  rw [← hA] at Y0
  have hvm : s'.vm = s.vm := by rw [hA]; rfl
  have hhp : s'.heap = H := by rw [hA]; exact hT
  have hW0 : s.WarmedH s'.vm := by rw [hvm]; exact State.WarmedH.refl s
  have hat' : ∀ w ∈ vx_atX own ic cls ix rx Y r, w.before args s' = true := fun w hw => vx_ot_at hW0 hvm.symm (hgood w (List.mem_cons_of_mem _ (List.mem_cons_of_mem _ hw))) (hat w hw)
  have hk' : (Cond.classLink own ik cls).before args s' = true := vx_ot_at hW0 hvm.symm (hgood _ List.mem_cons_self) hk
  have hini' : (Cond.initialized cls).before args s' = true := vx_ot_at hW0 hvm.symm (hgood _ (List.mem_cons_of_mem _ List.mem_cons_self)) hini
  have hU' : vx_Zq Bundle.tN "UNASSIGNED_STACK" Bundle.steD A s' s'.heap := by rw [hhp]; exact vx_Zq.moved hW0.alike (hU.kept hS.2.1)
  have hN' : vx_Zq Bundle.tN "SUPPRESSED_SENTINEL" Bundle.listD A s' s'.heap := by rw [hhp]; exact vx_Zq.moved hW0.alike (hN.kept hS.2.1)
  have h : ∀ w ∈ vx_ownX own ic cls ix rx Y r, w.before args s' = true := vx_own hat' (vx_isRefq hU'.1) (vx_isRefq hN'.1) hU'.2.word hN'.2.word
  have hown' : s'.vm.findClass own = some m.cls := by rw [hvm]; exact hown
  have hins : (Cond.instantiable cls 6).before args s' = true := h _ (by simp [vx_ownX, vx_ownW])
  obtain ⟨vm₁, cX, kX, hfX, hkX, -, -, X₁, st1⟩ := Y0.newCold hexec (own := own) (C := cls) (index := ik) (n := 6) hown' hk' hins hini'
    (g := F0 m pc ls rest) rfl (by rw [hb]; exact d0) (Nat.le_refl _) (Nat.le_refl _)
  generalize hT1 : (T.setVm vm₁).pushCell { cls := cX, slots := kX.instanceTypes.map defaultValue, vm := .none } = T1 at X₁ st1
  have hcat : (Value.ref T.heap.size).category = 1 := rfl
  have hcellA : T1.heap[T.heap.size]? = some (freshCell cX kX) := by rw [← hT1]; exact State.heap_pushCell_size _ _
  have d3' : decode c.code (pc + 3) = .ok (.dup, 1) := by rw [hb]; exact d3
  have d4' : decode c.code (pc + 4) = .ok (.ldc is, 2) := by rw [hb]; exact d4
  have hstr' : vk_R own is text sa s' := vk_R.warm hW0 hstr
  obtain ⟨U, hsteps, hrun, hend, hW, hsame, ce, hce, hO⟩ := vx_ctorX X₁ hexec htr (own := own) (cls := cls) (ic := ic) x0 x1 x2 x5 hown' hcls hY hr (fun w hw => h w (vx_inA hw)) (fun w hw => h w (vx_inB hw)) (fun w hw => h w (vx_inC hw)) (fun w hw => h w (vx_inD hw)) (fun w hw => h w (vx_inE hw)) hfX hkX hcellA (by rw [hhp, hT]; exact Nat.le_refl _) (msg := .ref sa) rfl
    (g := { method := m, pc := pc + 6, locals := ls, stack := .ref sa :: .ref T.heap.size :: .ref T.heap.size :: rest, locked := none }) rfl hsize rfl rfl (rest := rest) rfl
    (by rw [hb]; exact d6) (by rw [hb]; exact d9) hout hRframes (by simp only [List.map_cons, List.sum_cons, hcat]; omega) hlocks
  obtain ⟨f1, f2⟩ := vx_frame hsame
  rw [hhp] at f1 f2
  have hWs : s.WarmedH U.vm := State.WarmedH.trans hW0 hW
  have hcl : s.vm.findClass cls = some ce.cls := by
    have h9 := hO.1
    rw [hvm] at h9
    exact h9
  have hall : s.sameButNew ({ U with vm := s.vm } : State) locs mc ms := by
    subst hA
    obtain ⟨e1, e2⟩ := hsame
    rw [State.setFrames_setFrames] at e1
    have h2 : (T.setVm s.vm).sameButNew ({ U with vm := s.vm } : State) [] (0 + 1) (0 + 6) := ⟨e1, e2⟩
    have h3 := X.same.trans h2
    rw [List.append_nil] at h3
    exact h3.mono hc hs
  refine ⟨U, ?_, .threw T.heap.size, hrun, hend, Or.inr ⟨T.heap.size, rfl, cls, ce, locs, hx U hWs.alike f1 (fun q hq => f2 q hq (fun z hz => nomatch hz)), hce, hO.2, hcl, hWs, hall, hf⟩⟩
  refine st1 _ ?_
  show Steps p.tables e below (T1.setTop { method := m, pc := pc + 3, locals := ls, stack := .ref T.heap.size :: rest, locked := none }) _
  jvm_step X₁.here [X₁.here.top, hexec, d3', Value.category]
  exact X₁.ldcString hexec (own := own) (text := text) (index := is) (a := sa) hown' hstr'.1 hstr'.2
    (g := { method := m, pc := pc + 4, locals := ls, stack := .ref T.heap.size :: .ref T.heap.size :: rest, locked := none }) rfl d4' _ hsteps
theorem vx_throwXW {cc : ByteArray} {pc : Nat} (hexec : p.tables.exec = Jvm.exec) (hb : c.code = cc) (hl : l.stackTraces = false) {own cls text : String} {Y : String} {r : List String} {ix : Nat} {rx : ByteArray} {ik is ic mc ms sa : Nat} {A : Nat → Prop}
    (hown : s.vm.findClass own = some m.cls) (hcls : Bundle.fit cls = true) (hY : Bundle.fit Y = true) (hr : ∀ n ∈ r, Bundle.fit n = true) (x0 : decode rx 0 = .ok (.aload_n 0, 1)) (x1 : decode rx 1 = .ok (.aload_n 1, 1)) (x2 : decode rx 2 = .ok (.invokespecial ix, 3)) (x5 : decode rx 5 = .ok (.return_, 1))
    (hk : (Cond.classLink own ik cls).before args s = true) (hini : (Cond.initialized cls).before args s = true) (hstr : vk_R own is text sa s) (hat : ∀ w ∈ vx_atX own ic cls ix rx Y r, w.before args s = true)
    (hgood : ∀ w ∈ Cond.classLink own ik cls :: Cond.initialized cls :: vx_atX own ic cls ix rx Y r, vx_ot w = true)
    (hU : vx_Zq Bundle.tN "UNASSIGNED_STACK" Bundle.steD A s s.heap) (hN : vx_Zq Bundle.tN "SUPPRESSED_SENTINEL" Bundle.listD A s s.heap) (hS : va_S A s.heap H locs) (hsize : ls.size = c.maxLocals)
    (d0 : decode cc pc = .ok (.new ik, 3)) (d3 : decode cc (pc + 3) = .ok (.dup, 1)) (d4 : decode cc (pc + 4) = .ok (.ldc_w is, 3)) (d7 : decode cc (pc + 7) = .ok (.invokespecial ic, 3)) (d10 : decode cc (pc + 10) = .ok (.athrow, 1))
    (hout : ∀ x ∈ c.exceptionTable.toList, covers x (pc + 10) = false)
    (hRframes : r.length + 4 < R.frames) (hRlocals : (rest.map fun v => v.category).sum + (13 * (r.length + 2) + 43) ≤ R.locals) (hRcells : cells + 1 ≤ R.cells) (hRslots : slots + 6 ≤ R.slots) (hlocks : meth.locks = false)
    (hx : ∀ t : State, s.vm.Alike t.vm → H.size ≤ t.heap.size → (∀ q : Nat, q < H.size → t.heap[q]? = H[q]?) → XC cls s t)
    (hf : ∀ z ∈ locs, free z.base) (hc : cells + 1 ≤ mc) (hs : slots + 6 ≤ ms) :
    W p l e R s m args below meth c H locs cells slots (vx_MQ below Qc XC args s mc ms free) (F0 m pc ls rest) := by
  intro T hT X
  have htr : e.platform.stackTraces = false := (show e.platform.stackTraces = l.stackTraces by rw [X.admits.platform]).trans hl
  have Y0 := vx_rebase X (R' := { frames := R.frames, locals := R.locals, cells := 1, slots := 6 }) (Nat.le_refl _) (Nat.le_refl _) hRcells hRslots
  obtain ⟨s', hA⟩ : ∃ z, z = (T.setVm s.vm).setFrames (.invoking m args :: below) := ⟨_, rfl⟩
  rw [← hA] at Y0
  have hvm : s'.vm = s.vm := by rw [hA]; rfl
  have hhp : s'.heap = H := by rw [hA]; exact hT
  have hW0 : s.WarmedH s'.vm := by rw [hvm]; exact State.WarmedH.refl s
  have hat' : ∀ w ∈ vx_atX own ic cls ix rx Y r, w.before args s' = true := fun w hw => vx_ot_at hW0 hvm.symm (hgood w (List.mem_cons_of_mem _ (List.mem_cons_of_mem _ hw))) (hat w hw)
  have hk' : (Cond.classLink own ik cls).before args s' = true := vx_ot_at hW0 hvm.symm (hgood _ List.mem_cons_self) hk
  have hini' : (Cond.initialized cls).before args s' = true := vx_ot_at hW0 hvm.symm (hgood _ (List.mem_cons_of_mem _ List.mem_cons_self)) hini
  have hU' : vx_Zq Bundle.tN "UNASSIGNED_STACK" Bundle.steD A s' s'.heap := by rw [hhp]; exact vx_Zq.moved hW0.alike (hU.kept hS.2.1)
  have hN' : vx_Zq Bundle.tN "SUPPRESSED_SENTINEL" Bundle.listD A s' s'.heap := by rw [hhp]; exact vx_Zq.moved hW0.alike (hN.kept hS.2.1)
  have h : ∀ w ∈ vx_ownX own ic cls ix rx Y r, w.before args s' = true := vx_own hat' (vx_isRefq hU'.1) (vx_isRefq hN'.1) hU'.2.word hN'.2.word
  have hown' : s'.vm.findClass own = some m.cls := by rw [hvm]; exact hown
  have hins : (Cond.instantiable cls 6).before args s' = true := h _ (by simp [vx_ownX, vx_ownW])
  obtain ⟨vm₁, cX, kX, hfX, hkX, -, -, X₁, st1⟩ := Y0.newCold hexec (own := own) (C := cls) (index := ik) (n := 6) hown' hk' hins hini'
    (g := F0 m pc ls rest) rfl (by rw [hb]; exact d0) (Nat.le_refl _) (Nat.le_refl _)
  generalize hT1 : (T.setVm vm₁).pushCell { cls := cX, slots := kX.instanceTypes.map defaultValue, vm := .none } = T1 at X₁ st1
  have hcat : (Value.ref T.heap.size).category = 1 := rfl
  have hcellA : T1.heap[T.heap.size]? = some (freshCell cX kX) := by rw [← hT1]; exact State.heap_pushCell_size _ _
  have d3' : decode c.code (pc + 3) = .ok (.dup, 1) := by rw [hb]; exact d3
  have d4' : decode c.code (pc + 4) = .ok (.ldc_w is, 3) := by rw [hb]; exact d4
  have hstr' : vk_R own is text sa s' := vk_R.warm hW0 hstr
  obtain ⟨U, hsteps, hrun, hend, hW, hsame, ce, hce, hO⟩ := vx_ctorX X₁ hexec htr (own := own) (cls := cls) (ic := ic) x0 x1 x2 x5 hown' hcls hY hr (fun w hw => h w (vx_inA hw)) (fun w hw => h w (vx_inB hw)) (fun w hw => h w (vx_inC hw)) (fun w hw => h w (vx_inD hw)) (fun w hw => h w (vx_inE hw)) hfX hkX hcellA (by rw [hhp, hT]; exact Nat.le_refl _) (msg := .ref sa) rfl
    (g := { method := m, pc := pc + 7, locals := ls, stack := .ref sa :: .ref T.heap.size :: .ref T.heap.size :: rest, locked := none }) rfl hsize rfl rfl (rest := rest) rfl
    (by rw [hb]; exact d7) (by rw [hb]; exact d10) hout hRframes (by simp only [List.map_cons, List.sum_cons, hcat]; omega) hlocks
  obtain ⟨f1, f2⟩ := vx_frame hsame
  rw [hhp] at f1 f2
  have hWs : s.WarmedH U.vm := State.WarmedH.trans hW0 hW
  have hcl : s.vm.findClass cls = some ce.cls := by
    have h9 := hO.1
    rw [hvm] at h9
    exact h9
  have hall : s.sameButNew ({ U with vm := s.vm } : State) locs mc ms := by
    subst hA
    obtain ⟨e1, e2⟩ := hsame
    rw [State.setFrames_setFrames] at e1
    have h2 : (T.setVm s.vm).sameButNew ({ U with vm := s.vm } : State) [] (0 + 1) (0 + 6) := ⟨e1, e2⟩
    have h3 := X.same.trans h2
    rw [List.append_nil] at h3
    exact h3.mono hc hs
  refine ⟨U, ?_, .threw T.heap.size, hrun, hend, Or.inr ⟨T.heap.size, rfl, cls, ce, locs, hx U hWs.alike f1 (fun q hq => f2 q hq (fun z hz => nomatch hz)), hce, hO.2, hcl, hWs, hall, hf⟩⟩
  refine st1 _ ?_
  show Steps p.tables e below (T1.setTop { method := m, pc := pc + 3, locals := ls, stack := .ref T.heap.size :: rest, locked := none }) _
  jvm_step X₁.here [X₁.here.top, hexec, d3', Value.category]
  exact X₁.ldcStringW hexec (own := own) (text := text) (index := is) (a := sa) hown' hstr'.1 hstr'.2
    (g := { method := m, pc := pc + 4, locals := ls, stack := .ref T.heap.size :: .ref T.heap.size :: rest, locked := none }) rfl d4' _ hsteps
end VXX
