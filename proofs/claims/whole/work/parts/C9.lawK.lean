/-! ===== the law's loop: the steps of its walk ===== -/
theorem MH.swap {D : va_G} {W1 W2 : va_W} {A : Nat → Prop} {s : State} {H : Heap} {locs : List Loc} (h : MH D (W1 ++ W2) A s H locs) : MH D (W2 ++ W1) A s H locs := by
  obtain ⟨hP, hD, hS⟩ := h
  have atj : ∀ (k : Nat) (q : Nat × va_E), (W2 ++ W1)[k]? = some q → ∃ j, (W1 ++ W2)[j]? = some q ∧ ((k < W2.length ∧ j = W1.length + k) ∨ (W2.length ≤ k ∧ j = k - W2.length ∧ j < W1.length)) := by
    intro k q hk
    rcases Nat.lt_or_ge k W2.length with a | a
    · rw [List.getElem?_append_left a] at hk
      exact ⟨W1.length + k, kN hk, Or.inl ⟨a, rfl⟩⟩
    · rw [List.getElem?_append_right a] at hk
      have hl : k - W2.length < W1.length := (List.getElem?_eq_some_iff.mp hk).1
      exact ⟨k - W2.length, by rw [List.getElem?_append_left hl]; exact hk, Or.inr ⟨a, rfl, hl⟩⟩
  refine ⟨fun k q hk => ?_, ⟨fun i j p q hi hj e => ?_, fun k q hk => ?_⟩, hS⟩
  · obtain ⟨j, hj, -⟩ := atj k q hk
    exact hP j q hj
  · obtain ⟨i', hi', ci⟩ := atj i p hi
    obtain ⟨j', hj', cj⟩ := atj j q hj
    have := hD.1 i' j' p q hi' hj' e
    omega
  · obtain ⟨j, hj, -⟩ := atj k q hk
    exact hD.2 j q hj
def CalW (idx : Nat) (y : MethodName) (bc : ByteArray) (nc : Nat) (hh : List (Nat × Nat × Nat × Nat)) (n : Nat) : Prop :=
  (∀ w ∈ va_wsS RL idx y (.codeWith y bc nc (some .int) hh :: bT2), w ∈ bT2) ∧ y.cls ≠ "java/lang/invoke/MethodHandle" ∧ y.cls ≠ "java/lang/invoke/VarHandle" ∧ (parseMethodDescriptor y.desc).map (fun d => d.parameters.length) = some n
theorem CalW.of {idx : Nat} {y : MethodName} {bc : ByteArray} {nc : Nat} {hh : List (Nat × Nat × Nat × Nat)} {n : Nat} (h1 : Cond.methodLink RL idx y ∈ bT) (h2 : Cond.static y ∈ bT) (h4 : Cond.initialized y.cls ∈ bT) (h5 : Cond.codeWith y bc nc (some .int) hh ∈ bT) (hd : y.cls ≠ "java/lang/invoke/MethodHandle" ∧ y.cls ≠ "java/lang/invoke/VarHandle" ∧ (parseMethodDescriptor y.desc).map (fun d => d.parameters.length) = some n) : CalW idx y bc nc hh n := by
  refine ⟨fun w hw => ?_, hd⟩
  unfold va_wsS at hw
  rcases List.mem_append.mp hw with h | h
  · refine bT_bT2 ?_
    simp only [List.mem_cons, List.not_mem_nil, or_false] at h
    rcases h with h | h | h <;> subst h <;> assumption
  · rcases List.mem_cons.mp h with h | h
    · subst h
      exact bT_bT2 h5
    · exact h
/-- what a wrapper does, whatever comes of it: it answers k and leaves W' -/
def WOut (l : Launch) (D : va_G) (cs : Nat → ClassId) (adK adV : Nat → Nat) (y : MethodName) (bc : ByteArray) (nc : Nat) (hh : List (Nat × Nat × Nat × Nat)) (av : List Value) (Wd : va_W) (k : Int32) (W' : va_W) : Prop :=
  ∃ (rm : Room) (mc ms : Nat), WCon l D cs adK adV y bc nc hh rm mc ms av Wd k W' ∧ (rm.cells = mc ∧ rm.slots = ms) ∧ rm.frames ≤ 100 ∧ rm.locals ≤ 6000 ∧ mc ≤ 131 ∧ ms ≤ 1006
theorem w_fb {D : va_G} {cs : Nat → ClassId} {adK adV : Nat → Nat} {av : List Value} {sz : Nat} {Wd : va_W} : FrameBlind (va_Pc av (LP0 D cs adK adV Wd sz)) := fun a U g mk q => by
  obtain ⟨q0, q1, qP, qK, qD, qS, qX, qN⟩ := q
  exact ⟨q0, q1, qP, va_K.moved (u := U) (U := U.calling g mk a) (Vm.Alike.refl U.vm) qK, qD, KS.blind (U := U) (V := U.calling g mk a) rfl qS, XS.blind (U := U) (V := U.calling g mk a) rfl qX, NC.moved (u := U) (U := U.calling g mk a) (Vm.Alike.refl U.vm) qN⟩
section
variable {p : Program} {l : Launch} {e : Env} {R : Room} {s : State} {m : MethodId} {args : Array Value} {below : List Frame} {meth : Method} {c : Code} {H : Heap} {locs : List Loc} {cells slots : Nat} {Q : State → Prop}
variable {D : va_G} {cs : Nat → ClassId} {ad al adK adV : Nat → Nat} {A : Nat → Prop} {Wd W' W1 W2 Mw M2 : va_W} {own : String} {cc : ByteArray} {nL : Nat} {rt : Option FieldType} {pc : Nat} {ls : Array Slot} {rest : List Value} {P P' : PL} {x0 : Nat × va_E}
/-- a call over the first part of the world, that reads constants -/
theorem f_callVK {W3 : va_W} {y : MethodName} {bc : ByteArray} {nc : Nat} {rc : Option FieldType} {rm : Room} {idx b n : Nat} {st : List Value} {r : Option Value} (av : List Value) (C : MCx p s m args meth c A own cc nL rt D cs) (hks : KS adK adV A s s.heap) (h : MH D (W1 ++ W2) A s H locs)
    (cv : CalV own idx y bc nc rc n) (hM : GConK l D cs adK adV y bc nc rc rm 0 0 (.ref b :: av) W1 r W3) (hn : av.length = n) (hrm : rm.cells = 0 ∧ rm.slots = 0) (hR : rm.frames + 1 ≤ R.frames ∧ 8 + (nc + 11) + rm.locals ≤ R.locals)
    (hrecv : ∃ cell : Cell, H[b]? = some cell ∧ cell.vm.isStatics = false ∧ s.vm.findClass y.cls = some cell.cls) (hls : ls.size = nL) (hst : st = av.reverse ++ .ref b :: rest) (hW : (rest.map fun v => v.category).sum ≤ 8) (hf : cells ≤ R.cells ∧ slots ≤ R.slots) (hdg : decode cc pc = .ok (.invokevirtual idx, 3))
    (kk : ∀ (H1 : Heap) (locs1 : List Loc), MH D (W3 ++ W2) A s H1 locs1 → W p l e R s m args below meth c H1 locs1 cells slots Q (F0 m (pc + 3) ls (r.toList ++ rest))) : W p l e R s m args below meth c H locs cells slots Q (F0 m pc ls st) := by
  obtain ⟨hx, hb, hml, hown, hts, hrt, hlocks, hK, hA⟩ := C
  obtain ⟨hP, hD, hS⟩ := h
  obtain ⟨hPl, hDl⟩ := fr_left hP hD
  have hfr := va_A_sub hDl hS hA
  have hr := va_runV (H := H) (locs := locs) (cells := cells) (slots := slots) (g := F0 m pc ls st) (rest := rest) (As := av) (R := R) (e := e) (below := below) (meth := meth) (b := b) ⟨hx, hb, hml, hown, hts⟩ (hM H.size) (cwV n hts (bT_in cv.1) rfl hrm.1 hrm.2 ⟨rfl, cv.2⟩ hR) ⟨m_fbK, hrecv, fun U hU hW => ⟨rfl, by rw [hU], by rw [hU]; exact hPl, va_K.moved hW.alike hK, hDl.weaken (fun _ _ _ _ => trivial), by rw [hU]; exact hks.step hS hfr hW⟩⟩ rfl hn hls hst (lv_room hW) hdg hf
  intro T hT X
  obtain ⟨v, st₀, t, T', L, h0, X', hL, e1, e2, ⟨hv, hP1, hD1, hz, hk⟩, sg⟩ := hr T hT X
  cases hv
  rw [h0] at hz hk
  have hkk : ∀ q : Nat, q < H.size → ¬ va_A W1 H.size q → T'.heap[q]? = H[q]? := fun q h1 h2 => by rw [e1]; exact hk q h1 h2
  obtain ⟨hPj, hDj⟩ := fr_join hP hD hkk hfr (by rw [e1]; exact hP1) hD1
  obtain ⟨t2, a1, b1⟩ := kk T'.heap (locs ++ L) ⟨hPj, hDj,
    Nat.le_trans hS.1 (by rw [e1]; exact hz), fun q h1 h2 => by rw [e1, hk q (Nat.lt_of_lt_of_le h1 hS.1) (fun z => h2 (hfr q z))]; exact hS.2.1 q h1 h2, fun q hq => by
      rcases List.mem_append.mp hq with h | h
      · exact hS.2.2 q h
      · exact hfr _ (hL q h)⟩ T' rfl X'
  exact ⟨t2, sg t2 a1, b1⟩
theorem MH.out (h : MH D (W1 ++ x0 :: Mw) A s H locs) : MH D (Mw ++ (W1 ++ [x0])) A s H locs := by
  rw [List.append_cons] at h
  exact h.swap
theorem MH.inn (h : MH D (Mw ++ (W1 ++ [x0])) A s H locs) : MH D (W1 ++ x0 :: Mw) A s H locs := by
  rw [List.append_cons]
  exact h.swap
/-- a call over the last part of the world -/
theorem f_callM {y : MethodName} {bc : ByteArray} {nc : Nat} {rc : Option FieldType} {rm : Room} {idx b n : Nat} {st : List Value} {r : Option Value} (av : List Value) (C : MCx p s m args meth c A own cc nL rt D cs) (h : MH D (W1 ++ x0 :: Mw) A s H locs)
    (cv : CalV own idx y bc nc rc n) (hM : GCon l D cs y bc nc rc rm 0 0 (.ref b :: av) Mw r M2) (hn : av.length = n) (hrm : rm.cells = 0 ∧ rm.slots = 0) (hR : rm.frames + 1 ≤ R.frames ∧ 8 + (nc + 11) + rm.locals ≤ R.locals)
    (hrecv : ∃ cell : Cell, H[b]? = some cell ∧ cell.vm.isStatics = false ∧ s.vm.findClass y.cls = some cell.cls) (hls : ls.size = nL) (hst : st = av.reverse ++ .ref b :: rest) (hW : (rest.map fun v => v.category).sum ≤ 8) (hf : cells ≤ R.cells ∧ slots ≤ R.slots) (hdg : decode cc pc = .ok (.invokevirtual idx, 3))
    (kk : ∀ (H1 : Heap) (locs1 : List Loc), MH D (W1 ++ x0 :: M2) A s H1 locs1 → W p l e R s m args below meth c H1 locs1 cells slots Q (F0 m (pc + 3) ls (r.toList ++ rest))) : W p l e R s m args below meth c H locs cells slots Q (F0 m pc ls st) :=
  f_callV av C h.out cv hM hn hrm hR hrecv hls hst hW hf hdg (fun H1 l1 h2 => kk H1 l1 h2.inn)
theorem f_callMK {y : MethodName} {bc : ByteArray} {nc : Nat} {rc : Option FieldType} {rm : Room} {idx b n : Nat} {st : List Value} {r : Option Value} (av : List Value) (C : MCx p s m args meth c A own cc nL rt D cs) (hks : KS adK adV A s s.heap) (h : MH D (W1 ++ x0 :: Mw) A s H locs)
    (cv : CalV own idx y bc nc rc n) (hM : GConK l D cs adK adV y bc nc rc rm 0 0 (.ref b :: av) Mw r M2) (hn : av.length = n) (hrm : rm.cells = 0 ∧ rm.slots = 0) (hR : rm.frames + 1 ≤ R.frames ∧ 8 + (nc + 11) + rm.locals ≤ R.locals)
    (hrecv : ∃ cell : Cell, H[b]? = some cell ∧ cell.vm.isStatics = false ∧ s.vm.findClass y.cls = some cell.cls) (hls : ls.size = nL) (hst : st = av.reverse ++ .ref b :: rest) (hW : (rest.map fun v => v.category).sum ≤ 8) (hf : cells ≤ R.cells ∧ slots ≤ R.slots) (hdg : decode cc pc = .ok (.invokevirtual idx, 3))
    (kk : ∀ (H1 : Heap) (locs1 : List Loc), MH D (W1 ++ x0 :: M2) A s H1 locs1 → W p l e R s m args below meth c H1 locs1 cells slots Q (F0 m (pc + 3) ls (r.toList ++ rest))) : W p l e R s m args below meth c H locs cells slots Q (F0 m pc ls st) :=
  f_callVK av C hks h.out cv hM hn hrm hR hrecv hls hst hW hf hdg (fun H1 l1 h2 => kk H1 l1 h2.inn)
theorem rv_M {g : MS} (C : MCx p s m args meth c A own cc nL rt D cs) (h : MH D (W1 ++ x0 :: MW cs ad g) A s H locs) : ∃ cell : Cell, H[ad 48]? = some cell ∧ cell.vm.isStatics = false ∧ s.vm.findClass RX12 = some cell.cls :=
  va_recv (ci := 11) (q := (RX12, TX12, 48)) (fs := mF ad g) C.2.2.2.2.2.2.2.1 h.1 rfl (kN (j := 1) rfl)
theorem o_load {aO : Nat} {fo : Nat → Int64} (C : MCx p s m args meth c A own cc nL rt D cs) (h : MH D (W1 ++ outC cs aO fo :: W2) A s H locs) (hdg : decode cc pc = .ok (.laload, 1)) (kk : W p l e R s m args below meth c H locs cells slots Q (F0 m (pc + 1) ls (.long (fo 0) :: rest))) : W p l e R s m args below meth c H locs cells slots Q (F0 m pc ls (.int 0 :: .ref aO :: rest)) :=
  va_lald C.1 C.2.1 C.2.2.2.2.2.2.2.1 h.1 (W1.length + 0) 2 (kN (j := 0) rfl) rfl (ib_in (by decide)) hdg kk
/-- a wrapper's call -/
theorem w_callS {y : MethodName} {bc : ByteArray} {nc : Nat} {hh : List (Nat × Nat × Nat × Nat)} {idx n : Nat} {st : List Value} {k : Int32} (av : List Value) (C : MCx p s m args meth c A RL cc nL rt D cs) (hL : LC l s args adK adV A) (h : MH D Wd A s H locs)
    (cw : CalW idx y bc nc hh n) (hM : WOut l D cs adK adV y bc nc hh av Wd k W') (hn : av.length = n) (hnc : nc ≤ 20) (hR : 101 ≤ R.frames ∧ 6100 ≤ R.locals) (hls : ls.size = nL) (hst : st = av.reverse ++ rest) (hW : (rest.map fun v => v.category).sum ≤ 8) (hf : cells + 131 ≤ R.cells ∧ slots + 1006 ≤ R.slots) (hdg : decode cc pc = .ok (.invokestatic idx, 3))
    (kk : ∀ (H1 : Heap) (locs1 : List Loc), MH D W' A s H1 locs1 → W p l e R s m args below meth c H1 locs1 (cells + 131) (slots + 1006) Q (F0 m (pc + 3) ls (.int k :: rest))) : W p l e R s m args below meth c H locs cells slots Q (F0 m pc ls st) := by
  obtain ⟨rm, mc, ms, hM, hrm, hfr, hlo, hmc, hms⟩ := hM
  refine m_back (r := some (.int k)) (mc := mc) (ms := ms) (a := av.toArray) (W' := W') C h ?_ (fun H1 l1 h1 => W.widen (k := cells + 131) (n := slots + 1006) (by omega) (by omega) (kk H1 l1 h1))
  obtain ⟨hx, hb, hml, hown, hts, hrt, hlocks, hK, hA⟩ := C
  obtain ⟨hP, hD, hS⟩ := h
  have hsub := va_A_sub hD hS hA
  exact vx_runSW (As := av) ⟨hx, hb, hml, hown, hL.2.2.1⟩ (hM H.size) (vx_cwSW n hL.2.2.1 (bT2_in cw.1) rfl hrm.1 hrm.2 cw.2 ⟨by omega, by omega⟩) ⟨w_fb, fun U hU hW => ⟨rfl, by rw [hU], by rw [hU]; exact hP, va_K.moved hW.alike hK, hD.weaken (fun _ _ _ _ => trivial), by rw [hU]; exact hL.1.step hS hsub hW, by rw [hU]; exact hL.2.1.step hS hsub hW, hL.2.2.2.2.moved hW.alike⟩⟩ rfl hn hls hst (lv_room hW) hdg (by omega)
/-- the wrapper of board, where the pool grows -/
theorem b_callS {y : MethodName} {bc : ByteArray} {nc : Nat} {hh : List (Nat × Nat × Nat × Nat)} {rm : Room} {mc ms idx n : Nat} {st : List Value} {k : Int32} {g g' : CS} {W3 : va_W} (av : List Value) (C : MCx p s m args meth c A RL cc nL rt D cs) (hL : LC l s args adK adV A) (h : MH D (SW cs ad al P g ++ W2) A s H locs)
    (cw : CalW idx y bc nc hh n) (hM : BCon l D cs ad al adK adV y bc nc hh rm mc ms av P g W2 k P' g' W3) (hrm : rm.cells = mc ∧ rm.slots = ms) (hn : av.length = n) (hR : rm.frames + 1 ≤ R.frames ∧ 8 + (nc + 11) + rm.locals ≤ R.locals) (hls : ls.size = nL) (hst : st = av.reverse ++ rest) (hW : (rest.map fun v => v.category).sum ≤ 8) (hf : cells + mc ≤ R.cells ∧ slots + ms ≤ R.slots) (hdg : decode cc pc = .ok (.invokestatic idx, 3))
    (kk : ∀ (al' : Nat → Nat) (H1 : Heap) (locs1 : List Loc), MH D (SW cs ad al' P' g' ++ W3) A s H1 locs1 → W p l e R s m args below meth c H1 locs1 (cells + mc) (slots + ms) Q (F0 m (pc + 3) ls (.int k :: rest))) : W p l e R s m args below meth c H locs cells slots Q (F0 m pc ls st) := by
  obtain ⟨hx, hb, hml, hown, hts, hrt, hlocks, hK, hA⟩ := C
  obtain ⟨hP, hD, hS⟩ := h
  have hfr := va_A_sub hD hS hA
  have hr := vx_runSW (H := H) (locs := locs) (cells := cells) (slots := slots) (g := F0 m pc ls st) (rest := rest) (As := av) (R := R) (e := e) (below := below) (meth := meth) ⟨hx, hb, hml, hown, hL.2.2.1⟩ (hM H.size) (vx_cwSW n hL.2.2.1 (bT2_in cw.1) rfl hrm.1 hrm.2 cw.2 hR) ⟨w_fb, fun U hU hW => ⟨rfl, by rw [hU], by rw [hU]; exact hP, va_K.moved hW.alike hK, hD.weaken (fun _ _ _ _ => trivial), by rw [hU]; exact hL.1.step hS hfr hW, by rw [hU]; exact hL.2.1.step hS hfr hW, hL.2.2.2.2.moved hW.alike⟩⟩ rfl hn hls hst (lv_room hW) hdg hf
  intro T hT X
  obtain ⟨v, st₀, t, T', L, h0, X', hLf, e1, e2, ⟨al', hal, hv, hP1, hD1, hz, hk⟩, sg⟩ := hr T hT X
  cases hv
  rw [h0] at hz hk
  obtain ⟨t2, a1, b1⟩ := kk al' T'.heap (locs ++ L) ⟨by rw [e1]; exact hP1, hD1.weaken (fun _ q _ => hfr q.1),
    Nat.le_trans hS.1 (by rw [e1]; exact hz), fun q h1 h2 => by rw [e1, hk q (Nat.lt_of_lt_of_le h1 hS.1) (fun z => h2 (hfr q z))]; exact hS.2.1 q h1 h2, fun q hq => by
      rcases List.mem_append.mp hq with h | h
      · exact hS.2.2 q h
      · exact hfr _ (hLf q h)⟩ T' rfl X'
  exact ⟨t2, sg t2 a1, b1⟩
/-- the script, as it lies outside A -/
def LX (s : State) (A : Nat → Prop) (b L : Nat) (xs : Nat → Int32) : Prop := va_X b L xs s s.heap ∧ b < s.heap.size ∧ ¬ A b
theorem s_ld {b L : Nat} {xs : Nat → Int32} {lv : List (Nat × Value)} {x4 kI : Int32} {kz : Int} (i0 i4 : Nat) (C : MCx p s m args meth c A own cc nL rt D cs) (hX : LX s A b L xs) (h : MH D Wd A s H locs) (hl : lv_has ls nL lv) (e0 : lv[i0]? = some (0, .ref b)) (e4 : lv[i4]? = some (4, .int x4))
    (d0 : decode cc pc = .ok (.aload_n 0, 1)) (d1 : decode cc (pc + 1) = .ok (.iload 4, 2)) (d3 : decode cc (pc + 3) = .ok (.iconst kz, 1)) (d4 : decode cc (pc + 4) = .ok (.iadd, 1)) (d5 : decode cc (pc + 5) = .ok (.iaload, 1)) (hk : Int32.ofInt kz = kI) (hin : vp_in (x4 + kI) L)
    (kk : W p l e R s m args below meth c H locs cells slots Q (F0 m (pc + 6) ls (.int (xs (x4 + kI).toNatClampNeg) :: rest))) : W p l e R s m args below meth c H locs cells slots Q (F0 m pc ls rest) := by
  have hx := C.1
  have hb := C.2.1
  refine lv_aload_n hx hb d0 rfl (lv_at hl i0 e0) ?_
  refine lv_iload hx hb d1 (lv_at hl i4 e4) ?_
  refine lv_iconst (v := kI) hx hb d3 hk ?_
  refine lv_iadd hx hb d4 ?_
  exact va_sld hx hb hX.1 hX.2.1 hX.2.2 h.2.2 hin d5 kk
abbrev lvL (b a1 a2 aO : Nat) (x4 : Int32) : List (Nat × Value) := [(0, .ref b), (1, .ref a1), (2, .ref a2), (3, .ref aO), (4, .int x4)]
/-- behind a call: the loop goes on -/
def Nx (p : Program) (l : Launch) (e : Env) (s : State) (m : MethodId) (args : Array Value) (below : List Frame) (meth : Method) (c : Code) (D : va_G) (cs : Nat → ClassId) (A : Nat → Prop) (ad ad' : Nat → Nat) (b aO : Nat) (x4 : Int32) (T cells slots : Nat) (Q : State → Prop) : Prop :=
  ∀ (σ' : AS) (P' : PL) (T' : Nat) (g' : MS) (h' : CS) (al' : Nat → Nat) (fo' : Nat → Int64) (H : Heap) (locs : List Loc) (ls : Array Slot), wfS σ' → MI σ' g' → CI σ' P' T' h' → T' ≤ T + 31 → MH D (SW cs ad al' P' h' ++ outC cs aO fo' :: MW cs ad' g') A s H locs → lv_has ls 8 (lvL b (ad 0) (ad' 48) aO x4) → W p l e room_1 s m args below meth c H locs (cells + 131) (slots + 1006) Q (F0 m 2453 ls [])
def Hin (x4 : Int32) (L : Nat) : Prop := vp_in (x4 + 1) L ∧ vp_in (x4 + 2) L ∧ vp_in (x4 + 3) L ∧ vp_in (x4 + 4) L ∧ vp_in (x4 + 5) L
theorem lg_self (x : Int64) : lg_cmp x x = 0 := (lg_cmp_eq x x).mpr rfl
end
