theorem tb_11_21 : Cond.methodLink RJ0 335 yJ0_coder_7d493 ∈ bT := List.mem_append_left _ (in_r11 _ (List.mem_of_getElem? (i := 21) rfl))
theorem tb_12_0 : Cond.code yJ0_coder_7d493 cJ0_coder_7d493 1 (some .byte) ∈ bT := List.mem_append_left _ (in_r12 _ (List.mem_of_getElem? (i := 0) rfl))
theorem tb_11_18 : Cond.initialized RJ0 ∈ bT := List.mem_append_left _ (in_r11 _ (List.mem_of_getElem? (i := 18) rfl))
theorem tb_11_22 : Cond.instanceMethod yJ0_coder_7d493 ∈ bT := List.mem_append_left _ (in_r11 _ (List.mem_of_getElem? (i := 22) rfl))
theorem tb_11_23 : Cond.selects RJ0 yJ0_coder_7d493 yJ0_coder_7d493 ∈ bT := List.mem_append_left _ (in_r11 _ (List.mem_of_getElem? (i := 23) rfl))
theorem tb_12_7 : Cond.methodLink RJ0 492 yJ0_isLatin1_aae02 ∈ bT := List.mem_append_left _ (in_r12 _ (List.mem_of_getElem? (i := 7) rfl))
theorem tb_12_10 : Cond.code yJ0_isLatin1_aae02 cJ0_isLatin1_aae02 1 (some .boolean) ∈ bT := List.mem_append_left _ (in_r12 _ (List.mem_of_getElem? (i := 10) rfl))
theorem tb_12_8 : Cond.instanceMethod yJ0_isLatin1_aae02 ∈ bT := List.mem_append_left _ (in_r12 _ (List.mem_of_getElem? (i := 8) rfl))
theorem tb_12_9 : Cond.selects RJ0 yJ0_isLatin1_aae02 yJ0_isLatin1_aae02 ∈ bT := List.mem_append_left _ (in_r12 _ (List.mem_of_getElem? (i := 9) rfl))
theorem tb_12_11 : Cond.methodLink RJ0 495 yJ1_charAt_3b067 ∈ bT := List.mem_append_left _ (in_r12 _ (List.mem_of_getElem? (i := 11) rfl))
theorem tb_12_14 : Cond.code yJ1_charAt_3b067 cJ1_charAt_3b067 2 (some .char) ∈ bT := List.mem_append_left _ (in_r12 _ (List.mem_of_getElem? (i := 14) rfl))
theorem tb_12_13 : Cond.initialized RJ1 ∈ bT := List.mem_append_left _ (in_r12 _ (List.mem_of_getElem? (i := 13) rfl))
theorem tb_12_12 : Cond.static yJ1_charAt_3b067 ∈ bT := List.mem_append_left _ (in_r12 _ (List.mem_of_getElem? (i := 12) rfl))
theorem tb_12_15 : Cond.methodLink RJ1 9 yJ0_checkIndex_df160 ∈ bT := List.mem_append_left _ (in_r12 _ (List.mem_of_getElem? (i := 15) rfl))
theorem tb_12_17 : Cond.code yJ0_checkIndex_df160 cJ0_checkIndex_df160 2 none ∈ bT := List.mem_append_left _ (in_r12 _ (List.mem_of_getElem? (i := 17) rfl))
theorem tb_12_16 : Cond.static yJ0_checkIndex_df160 ∈ bT := List.mem_append_left _ (in_r12 _ (List.mem_of_getElem? (i := 16) rfl))
theorem tb_12_19 : Cond.methodLink RJ0 1059 yJ3_checkIndex_8e157 ∈ bT := List.mem_append_left _ (in_r12 _ (List.mem_of_getElem? (i := 19) rfl))
theorem tb_12_22 : Cond.code yJ3_checkIndex_8e157 cJ3_checkIndex_8e157 3 (some .int) ∈ bT := List.mem_append_left _ (in_r12 _ (List.mem_of_getElem? (i := 22) rfl))
theorem tb_12_21 : Cond.initialized RJ3 ∈ bT := List.mem_append_left _ (in_r12 _ (List.mem_of_getElem? (i := 21) rfl))
theorem tb_12_20 : Cond.static yJ3_checkIndex_8e157 ∈ bT := List.mem_append_left _ (in_r12 _ (List.mem_of_getElem? (i := 20) rfl))
theorem tb_21_22 : Cond.methodLink RX12 127 yJ0_length_8abf5 ∈ bT := List.mem_append_left _ (in_r21 _ (List.mem_of_getElem? (i := 22) rfl))
theorem tb_11_19 : Cond.code yJ0_length_8abf5 cJ0_length_8abf5 1 (some .int) ∈ bT := List.mem_append_left _ (in_r11 _ (List.mem_of_getElem? (i := 19) rfl))
theorem tb_11_16 : Cond.instanceMethod yJ0_length_8abf5 ∈ bT := List.mem_append_left _ (in_r11 _ (List.mem_of_getElem? (i := 16) rfl))
theorem tb_11_17 : Cond.selects RJ0 yJ0_length_8abf5 yJ0_length_8abf5 ∈ bT := List.mem_append_left _ (in_r11 _ (List.mem_of_getElem? (i := 17) rfl))
theorem tb_21_23 : Cond.methodLink RX12 132 yJ0_charAt_5068e ∈ bT := List.mem_append_left _ (in_r21 _ (List.mem_of_getElem? (i := 23) rfl))
theorem tb_12_6 : Cond.code yJ0_charAt_5068e cJ0_charAt_5068e 2 (some .char) ∈ bT := List.mem_append_left _ (in_r12 _ (List.mem_of_getElem? (i := 6) rfl))
theorem tb_12_4 : Cond.instanceMethod yJ0_charAt_5068e ∈ bT := List.mem_append_left _ (in_r12 _ (List.mem_of_getElem? (i := 4) rfl))
theorem tb_12_5 : Cond.selects RJ0 yJ0_charAt_5068e yJ0_charAt_5068e ∈ bT := List.mem_append_left _ (in_r12 _ (List.mem_of_getElem? (i := 5) rfl))
theorem tb_11_15 : Cond.methodLink RX8 57 yJ0_length_8abf5 ∈ bT := List.mem_append_left _ (in_r11 _ (List.mem_of_getElem? (i := 15) rfl))
theorem tb_12_3 : Cond.methodLink RX8 62 yJ0_charAt_5068e ∈ bT := List.mem_append_left _ (in_r12 _ (List.mem_of_getElem? (i := 3) rfl))
theorem tb_11_20 : Cond.fieldLink RJ0 9 "java/lang/String" "value" "[B" ∈ bT := List.mem_append_left _ (in_r11 _ (List.mem_of_getElem? (i := 20) rfl))
theorem tb_12_2 : Cond.fieldLink RJ0 15 "java/lang/String" "coder" "B" ∈ bT := List.mem_append_left _ (in_r12 _ (List.mem_of_getElem? (i := 2) rfl))
theorem tb_12_1 : Cond.fieldLink RJ0 38 "java/lang/String" "COMPACT_STRINGS" "Z" ∈ bT := List.mem_append_left _ (in_r12 _ (List.mem_of_getElem? (i := 1) rfl))
theorem tb_12_18 : Cond.fieldLink RJ0 1053 "jdk/internal/util/Preconditions" "SIOOBE_FORMATTER" "Ljava/util/function/BiFunction;" ∈ bT := List.mem_append_left _ (in_r12 _ (List.mem_of_getElem? (i := 18) rfl))
theorem sk_low : ∀ q, q < 128 → nI q &&& 255 = nI q := by decide +kernel
theorem cv_J0_335 : CalV RJ0 335 yJ0_coder_7d493 cJ0_coder_7d493 1 (some .byte) 0 := CalV.of tb_11_21 tb_11_22 tb_11_23 tb_11_18 tb_12_0 (by decide +kernel)
theorem cv_J0_492 : CalV RJ0 492 yJ0_isLatin1_aae02 cJ0_isLatin1_aae02 1 (some .boolean) 0 := CalV.of tb_12_7 tb_12_8 tb_12_9 tb_11_18 tb_12_10 (by decide +kernel)
theorem cs_J0_495 : CalS RJ0 495 yJ1_charAt_3b067 cJ1_charAt_3b067 2 (some .char) 2 := CalS.of tb_12_11 tb_12_12 tb_12_13 tb_12_14 (by decide +kernel)
theorem cs_J1_9 : CalS RJ1 9 yJ0_checkIndex_df160 cJ0_checkIndex_df160 2 none 2 := CalS.of tb_12_15 tb_12_16 tb_11_18 tb_12_17 (by decide +kernel)
theorem cs_J0_1059 : CalS RJ0 1059 yJ3_checkIndex_8e157 cJ3_checkIndex_8e157 3 (some .int) 3 := CalS.of tb_12_19 tb_12_20 tb_12_21 tb_12_22 (by decide +kernel)
theorem cv_X12_127 : CalV RX12 127 yJ0_length_8abf5 cJ0_length_8abf5 1 (some .int) 0 := CalV.of tb_21_22 tb_11_16 tb_11_17 tb_11_18 tb_11_19 (by decide +kernel)
theorem cv_X12_132 : CalV RX12 132 yJ0_charAt_5068e cJ0_charAt_5068e 2 (some .char) 1 := CalV.of tb_21_23 tb_12_4 tb_12_5 tb_11_18 tb_12_6 (by decide +kernel)
theorem cv_X8_57 : CalV RX8 57 yJ0_length_8abf5 cJ0_length_8abf5 1 (some .int) 0 := CalV.of tb_11_15 tb_11_16 tb_11_17 tb_11_18 tb_11_19 (by decide +kernel)
theorem cv_X8_62 : CalV RX8 62 yJ0_charAt_5068e cJ0_charAt_5068e 2 (some .char) 1 := CalV.of tb_12_3 tb_12_4 tb_12_5 tb_11_18 tb_12_6 (by decide +kernel)
/-- the string constants (and two statics of the JDK) as they lie outside A -/
def KS (adK adV : Nat → Nat) (A : Nat → Prop) (U : State) (H : Heap) : Prop :=
  (∀ i, i < nS → va_O "java/lang/String" (adK i) A U H ∧ va_OF "java/lang/String" "coder" "B" (.int 0) (adK i) A U H ∧ va_OF "java/lang/String" "value" "[B" (.ref (adV i)) (adK i) A U H ∧ va_T .byte (adV i) (tx i).length (fun j => .int ((tx i).getD j 0)) A U H) ∧
  (∀ i, i < nS → vk_R (sNm i).1 (sNm i).2.1 (sNm i).2.2 (adK i) U) ∧ va_Z "java/lang/String" "COMPACT_STRINGS" "Z" (.int 1) A U H ∧ va_Zq "jdk/internal/util/Preconditions" "SIOOBE_FORMATTER" "Ljava/util/function/BiFunction;" A U H
theorem KS.blind {adK adV : Nat → Nat} {A : Nat → Prop} {U V : State} {H : Heap} (hv : V.vm = U.vm) (h : KS adK adV A U H) : KS adK adV A V H := by
  have ha : U.vm.Alike V.vm := by rw [hv]; exact Vm.Alike.refl U.vm
  obtain ⟨h1, h2, h3, h4⟩ := h
  exact ⟨fun i hi => ⟨va_O.moved ha (h1 i hi).1, va_OF.moved ha (h1 i hi).2.1, va_OF.moved ha (h1 i hi).2.2.1, va_T.moved ha (h1 i hi).2.2.2⟩, fun i hi => vk_R.same hv (h2 i hi), va_Z.moved ha h3, va_Zq.moved ha h4⟩
theorem KS.step {adK adV : Nat → Nat} {A B : Nat → Prop} {s U : State} {H : Heap} {locs : List Loc} (h : KS adK adV A s s.heap) (hS : va_S A s.heap H locs) (hAB : ∀ q, B q → A q) (hW : s.WarmedH U.vm) : KS adK adV B U H := by
  have ha := hW.alike
  obtain ⟨h1, h2, h3, h4⟩ := h
  exact ⟨fun i hi => ⟨va_O.moved ha (((h1 i hi).1.kept hS.2.1).narrow hAB), va_OF.moved ha (((h1 i hi).2.1.kept hS.2.1).narrow hAB), va_OF.moved ha (((h1 i hi).2.2.1.kept hS.2.1).narrow hAB), va_T.moved ha (((h1 i hi).2.2.2.kept hS.2.1).narrow hAB)⟩, fun i hi => vk_R.warm hW (h2 i hi), va_Z.moved ha ((h3.kept hS.2.1).narrow hAB), va_Zq.moved ha ((h4.kept hS.2.1).narrow hAB)⟩
/-- a contract over a world and the string constants -/
def GConK (l : Launch) (D : va_G) (cs : Nat → ClassId) (adK adV : Nat → Nat) (y : MethodName) (bc : ByteArray) (nc : Nat) (rc : Option FieldType) (rm : Room) (mc ms : Nat) (av : List Value) (Wd : va_W) (r : Option Value) (W' : va_W) : Prop :=
  ∀ sz : Nat, Met l y (wsOf y bc nc rc) rm (va_Pc av (fun U => U.heap.size = sz ∧ va_P D vwCl Wd U.heap ∧ va_K D vwCl (tyL cs) U ∧ va_D (fun _ => True) Wd ∧ KS adK adV (va_A Wd sz) U U.heap)) (GPost D r W' (va_A Wd sz)) mc ms (va_A Wd sz)
section
variable {p : Program} {l : Launch} {e : Env} {R : Room} {s : State} {m : MethodId} {args : Array Value} {below : List Frame} {meth : Method} {c : Code} {H : Heap} {locs : List Loc} {cells slots : Nat} {Q : State → Prop}
variable {D : va_G} {cs : Nat → ClassId} {adK adV : Nat → Nat} {A : Nat → Prop} {Wd W' : va_W} {own : String} {cc : ByteArray} {nL : Nat} {rt : Option FieldType} {pc : Nat} {ls : Array Slot} {rest : List Value}
theorem GConK.of {y : MethodName} {bc : ByteArray} {nc : Nat} {rc : Option FieldType} {rm : Room} {mc ms : Nat} {av : List Value} {r : Option Value} (hy : plainName y.cls = true) (hlen : (lg_sl av).length ≤ nc)
    (body : ∀ (p : Program) (e : Env) (s : State) (m : MethodId) (args : Array Value) (below : List Frame) (meth : Method) (c : Code) (A : Nat → Prop) (ls : Array Slot) (H : Heap) (locs : List Loc), MCx p s m args meth c A y.cls bc nc rc D cs → KS adK adV A s s.heap → MH D Wd A s H locs → lv_has ls nc (lv_args 0 av) → W p l e rm s m args below meth c H locs 0 0 (MQ below (GPost D r W' A) args s mc ms A) (F0 m 0 ls [])) :
    GConK l D cs adK adV y bc nc rc rm mc ms av Wd r W' := by
  intro sz
  refine Met.ofW (cc := bc) (maxL := nc) (ret := rc) hy rfl ?_
  intro p e s m args below meth c s₁ B hml hv
  obtain ⟨rfl, hsz, hP, hK, hD0, hKS⟩ := hv
  have hts := atoms_spec (ws := wsOf y bc nc rc) B.pre
  have hown : s.vm.findClass y.cls = some m.cls := findClass_of_methodNamed B.named
  subst hsz
  have hl := lv_entry av (n := nc) hlen
  rw [lg_entry_eq]
  exact body p e s m _ below meth c (va_A Wd s.heap.size) _ s.heap [] ⟨B.exec, B.bytes, hml, hown, fun w h => hts w (List.mem_cons_of_mem _ h), B.returns, B.notSynchronized, hK, fun q h => Or.inr h⟩ hKS ⟨hP, hD0.self, va_S.rf⟩ hl
theorem m_fbK {D : va_G} {cs : Nat → ClassId} {av : List Value} {sz : Nat} {Wd : va_W} : FrameBlind (va_Pc av (fun U => U.heap.size = sz ∧ va_P D vwCl Wd U.heap ∧ va_K D vwCl (tyL cs) U ∧ va_D (fun _ => True) Wd ∧ KS adK adV (va_A Wd sz) U U.heap)) := fun a U g mk q => by
  obtain ⟨q0, q1, qP, qK, qD, qS⟩ := q
  exact ⟨q0, q1, qP, va_K.moved (u := U) (U := U.calling g mk a) (Vm.Alike.refl U.vm) qK, qD, KS.blind (U := U) (V := U.calling g mk a) rfl qS⟩
theorem m_callVK {y : MethodName} {bc : ByteArray} {nc : Nat} {rc : Option FieldType} {rm : Room} {mc ms idx b n : Nat} {st : List Value} {r : Option Value} (av : List Value) (C : MCx p s m args meth c A own cc nL rt D cs) (hks : KS adK adV A s s.heap) (h : MH D Wd A s H locs)
    (cv : CalV own idx y bc nc rc n) (hM : GConK l D cs adK adV y bc nc rc rm mc ms (.ref b :: av) Wd r W') (hn : av.length = n) (hrm : rm.cells = mc ∧ rm.slots = ms) (hR : rm.frames + 1 ≤ R.frames ∧ 8 + (nc + 11) + rm.locals ≤ R.locals)
    (hrecv : ∃ cell : Cell, H[b]? = some cell ∧ cell.vm.isStatics = false ∧ s.vm.findClass y.cls = some cell.cls) (hls : ls.size = nL) (hst : st = av.reverse ++ .ref b :: rest) (hW : (rest.map fun v => v.category).sum ≤ 8) (hf : cells + mc ≤ R.cells ∧ slots + ms ≤ R.slots) (hdg : decode cc pc = .ok (.invokevirtual idx, 3))
    (kk : ∀ (H1 : Heap) (locs1 : List Loc), MH D W' A s H1 locs1 → W p l e R s m args below meth c H1 locs1 (cells + mc) (slots + ms) Q (F0 m (pc + 3) ls (r.toList ++ rest))) : W p l e R s m args below meth c H locs cells slots Q (F0 m pc ls st) := by
  refine m_back (a := (Value.ref b :: av).toArray) C h ?_ kk
  obtain ⟨hx, hb, hml, hown, hts, hrt, hlocks, hK, hA⟩ := C
  obtain ⟨hP, hD, hS⟩ := h
  exact va_runV (As := av) ⟨hx, hb, hml, hown, hts⟩ (hM H.size) (cwV n hts (bT_in cv.1) rfl hrm.1 hrm.2 ⟨rfl, cv.2⟩ hR) ⟨m_fbK, hrecv, fun U hU hW => ⟨rfl, by rw [hU], by rw [hU]; exact hP, va_K.moved hW.alike hK, hD.weaken (fun _ _ _ _ => trivial), by rw [hU]; exact hks.step hS (va_A_sub hD hS hA) hW⟩⟩ rfl hn hls hst (lv_room hW) hdg hf
/-- a callee that needs nothing of the world but the constants -/
theorem m_callVK0 {y : MethodName} {bc : ByteArray} {nc : Nat} {rc : Option FieldType} {rm : Room} {idx b n : Nat} {st : List Value} {r : Option Value} (av : List Value) (C : MCx p s m args meth c A own cc nL rt D cs) (hks : KS adK adV A s s.heap) (h : MH D Wd A s H locs)
    (cv : CalV own idx y bc nc rc n) (hM : GConK l D cs adK adV y bc nc rc rm 0 0 (.ref b :: av) [] r []) (hn : av.length = n) (hrm : rm.cells = 0 ∧ rm.slots = 0) (hR : rm.frames + 1 ≤ R.frames ∧ 8 + (nc + 11) + rm.locals ≤ R.locals)
    (hrecv : ∃ cell : Cell, H[b]? = some cell ∧ cell.vm.isStatics = false ∧ s.vm.findClass y.cls = some cell.cls) (hls : ls.size = nL) (hst : st = av.reverse ++ .ref b :: rest) (hW : (rest.map fun v => v.category).sum ≤ 8) (hf : cells ≤ R.cells ∧ slots ≤ R.slots) (hdg : decode cc pc = .ok (.invokevirtual idx, 3))
    (kk : ∀ (H1 : Heap) (locs1 : List Loc), MH D Wd A s H1 locs1 → W p l e R s m args below meth c H1 locs1 cells slots Q (F0 m (pc + 3) ls (r.toList ++ rest))) : W p l e R s m args below meth c H locs cells slots Q (F0 m pc ls st) := by
  refine m_back0 (a := (Value.ref b :: av).toArray) C h ?_ kk
  obtain ⟨hx, hb, hml, hown, hts, hrt, hlocks, hK, hA⟩ := C
  obtain ⟨hP, hD, hS⟩ := h
  have hsub : ∀ q, va_A [] H.size q → A q := by
    rintro q (⟨k, e, h⟩ | h)
    · simp at h
    · exact hA q (Nat.le_trans hS.1 h)
  exact va_runV (As := av) ⟨hx, hb, hml, hown, hts⟩ (hM H.size) (cwV n hts (bT_in cv.1) rfl hrm.1 hrm.2 ⟨rfl, cv.2⟩ hR) ⟨m_fbK, hrecv, fun U hU hW => ⟨rfl, by rw [hU], by rw [hU]; intro k q hq; simp at hq, va_K.moved hW.alike hK, ⟨fun i j p q h => by simp at h, fun k q h => by simp at h⟩, by rw [hU]; exact hks.step hS hsub hW⟩⟩ rfl hn hls hst (lv_room hW) hdg hf
theorem m_callSK0 {y : MethodName} {bc : ByteArray} {nc : Nat} {rc : Option FieldType} {rm : Room} {idx n : Nat} {st : List Value} {r : Option Value} (av : List Value) (C : MCx p s m args meth c A own cc nL rt D cs) (hks : KS adK adV A s s.heap) (h : MH D Wd A s H locs)
    (cv : CalS own idx y bc nc rc n) (hM : GConK l D cs adK adV y bc nc rc rm 0 0 av [] r []) (hn : av.length = n) (hrm : rm.cells = 0 ∧ rm.slots = 0) (hR : rm.frames + 1 ≤ R.frames ∧ 8 + (nc + 11) + rm.locals ≤ R.locals)
    (hls : ls.size = nL) (hst : st = av.reverse ++ rest) (hW : (rest.map fun v => v.category).sum ≤ 8) (hf : cells ≤ R.cells ∧ slots ≤ R.slots) (hdg : decode cc pc = .ok (.invokestatic idx, 3))
    (kk : ∀ (H1 : Heap) (locs1 : List Loc), MH D Wd A s H1 locs1 → W p l e R s m args below meth c H1 locs1 cells slots Q (F0 m (pc + 3) ls (r.toList ++ rest))) : W p l e R s m args below meth c H locs cells slots Q (F0 m pc ls st) := by
  refine m_back0 (a := av.toArray) C h ?_ kk
  obtain ⟨hx, hb, hml, hown, hts, hrt, hlocks, hK, hA⟩ := C
  obtain ⟨hP, hD, hS⟩ := h
  have hsub : ∀ q, va_A [] H.size q → A q := by
    rintro q (⟨k, e, h⟩ | h)
    · simp at h
    · exact hA q (Nat.le_trans hS.1 h)
  exact va_runS (As := av) ⟨hx, hb, hml, hown, hts⟩ (hM H.size) (va_cwS n hts (bT_in cv.1) rfl hrm.1 hrm.2 cv.2 hR) ⟨m_fbK, fun U hU hW => ⟨rfl, by rw [hU], by rw [hU]; intro k q hq; simp at hq, va_K.moved hW.alike hK, ⟨fun i j p q h => by simp at h, fun k q h => by simp at h⟩, by rw [hU]; exact hks.step hS hsub hW⟩⟩ rfl hn hls hst (lv_room hW) hdg hf
theorem m_callVKi {y : MethodName} {bc : ByteArray} {nc : Nat} {rc : Option FieldType} {rm : Room} {idx b n : Nat} {st : List Value} {r : Int32} (av : List Value) (C : MCx p s m args meth c A own cc nL rt D cs) (hks : KS adK adV A s s.heap) (h : MH D Wd A s H locs)
    (cv : CalV own idx y bc nc rc n) (hM : GConK l D cs adK adV y bc nc rc rm 0 0 (.ref b :: av) Wd (some (.int r)) W') (hn : av.length = n) (hrm : rm.cells = 0 ∧ rm.slots = 0) (hR : rm.frames + 1 ≤ R.frames ∧ 8 + (nc + 11) + rm.locals ≤ R.locals)
    (hrecv : ∃ cell : Cell, H[b]? = some cell ∧ cell.vm.isStatics = false ∧ s.vm.findClass y.cls = some cell.cls) (hls : ls.size = nL) (hst : st = av.reverse ++ .ref b :: rest) (hW : (rest.map fun v => v.category).sum ≤ 8) (hf : cells ≤ R.cells ∧ slots ≤ R.slots) (hdg : decode cc pc = .ok (.invokevirtual idx, 3))
    (kk : ∀ (H1 : Heap) (locs1 : List Loc), MH D W' A s H1 locs1 → W p l e R s m args below meth c H1 locs1 cells slots Q (F0 m (pc + 3) ls (.int r :: rest))) : W p l e R s m args below meth c H locs cells slots Q (F0 m pc ls st) := m_callVK av C hks h cv hM hn hrm hR hrecv hls hst hW hf hdg kk
theorem m_callVKv {y : MethodName} {bc : ByteArray} {nc : Nat} {rc : Option FieldType} {rm : Room} {idx b n : Nat} {st : List Value} (av : List Value) (C : MCx p s m args meth c A own cc nL rt D cs) (hks : KS adK adV A s s.heap) (h : MH D Wd A s H locs)
    (cv : CalV own idx y bc nc rc n) (hM : GConK l D cs adK adV y bc nc rc rm 0 0 (.ref b :: av) Wd none W') (hn : av.length = n) (hrm : rm.cells = 0 ∧ rm.slots = 0) (hR : rm.frames + 1 ≤ R.frames ∧ 8 + (nc + 11) + rm.locals ≤ R.locals)
    (hrecv : ∃ cell : Cell, H[b]? = some cell ∧ cell.vm.isStatics = false ∧ s.vm.findClass y.cls = some cell.cls) (hls : ls.size = nL) (hst : st = av.reverse ++ .ref b :: rest) (hW : (rest.map fun v => v.category).sum ≤ 8) (hf : cells ≤ R.cells ∧ slots ≤ R.slots) (hdg : decode cc pc = .ok (.invokevirtual idx, 3))
    (kk : ∀ (H1 : Heap) (locs1 : List Loc), MH D W' A s H1 locs1 → W p l e R s m args below meth c H1 locs1 cells slots Q (F0 m (pc + 3) ls rest)) : W p l e R s m args below meth c H locs cells slots Q (F0 m pc ls st) := m_callVK av C hks h cv hM hn hrm hR hrecv hls hst hW hf hdg kk
theorem m_xret {v : Int32} {ty : FieldType} (C : MCx p s m args meth c A own cc nL (some ty) D cs) (h : MH D Wd A s H locs) (hv : narrow ty (.int v) = .int v) (hdg : decode cc pc = .ok (.ireturn, 1)) : W p l e R s m args below meth c H locs cells slots (MQ below (GPost D (some (.int v)) Wd A) args s cells slots A) (F0 m pc ls [.int v]) := by
  obtain ⟨hx, hb, hml, hown, hts, hr, hlocks, hK, hA⟩ := C
  obtain ⟨hP, hD, hS⟩ := h
  exact W.zret hx hb hr hv (fun t ht hW => ⟨rfl, by rw [ht]; exact hP, hD, hS.F ht⟩) hS.2.2 hdg
theorem KS.recv {i : Nat} (hks : KS adK adV A s s.heap) (hi : i < nS) (h : MH D Wd A s H locs) : ∃ cell : Cell, H[adK i]? = some cell ∧ cell.vm.isStatics = false ∧ s.vm.findClass RJ0 = some cell.cls := by
  obtain ⟨cell, h1, h2, h3, -⟩ := ((hks.1 i hi).1).kept h.2.2.2.1
  exact ⟨cell, h1, h2, h3⟩
end
set_option maxHeartbeats 4000000 in
set_option maxRecDepth 100000 in
theorem qJ_coder {l : Launch} {D : va_G} {cs : Nat → ClassId} {adK adV : Nat → Nat} {i : Nat} (hi : i < nS) : GConK l D cs adK adV yJ0_coder_7d493 cJ0_coder_7d493 1 (some .byte) (rM 0) 0 0 [.ref (adK i)] [] (some (.int 0)) [] := by
  refine GConK.of (by decide) (Nat.le_of_ble_eq_true rfl) ?_
  intro p e s m args below meth c A ls H locs C hks h hl
  have hx := C.1
  have hb := C.2.1
  have hw := C.2.2.2.1
  have ht := C.2.2.2.2.1
  have C : MCx p s m args meth c A RJ0 cJ0_coder_7d493 1 (some .byte) D cs := C
  have hl : lv_has ls 1 [(0, .ref (adK i))] := hl
  refine va_gets hx hb hks.2.2.1 h.2.2 hw (ht _ tb_12_1) (fun _ h9 => h9) dJ0_coder_7d493_0 ?_
  refine lv_if_eq (tgt := 13) hx hb dJ0_coder_7d493_3 (by decide) (fun q => absurd q (by decide)) (fun _ => ?_)
  refine lv_aload_n hx hb dJ0_coder_7d493_6 rfl (lv_at hl 0 rfl) ?_
  refine vk_getf hx hb (hks.1 i hi).2.1 h.2.2 hw (ht _ tb_12_2) (fun _ h9 => h9) dJ0_coder_7d493_7 ?_
  refine lv_goto (tgt := 14) hx hb dJ0_coder_7d493_10 (by decide) ?_
  exact m_xret C h (by decide) dJ0_coder_7d493_14

set_option maxHeartbeats 4000000 in
set_option maxRecDepth 100000 in
theorem qJ_isLatin1 {l : Launch} {D : va_G} {cs : Nat → ClassId} {adK adV : Nat → Nat} {i : Nat} (hi : i < nS) : GConK l D cs adK adV yJ0_isLatin1_aae02 cJ0_isLatin1_aae02 1 (some .boolean) (rM 0) 0 0 [.ref (adK i)] [] (some (.int 1)) [] := by
  refine GConK.of (by decide) (Nat.le_of_ble_eq_true rfl) ?_
  intro p e s m args below meth c A ls H locs C hks h hl
  have hx := C.1
  have hb := C.2.1
  have hw := C.2.2.2.1
  have ht := C.2.2.2.2.1
  have C : MCx p s m args meth c A RJ0 cJ0_isLatin1_aae02 1 (some .boolean) D cs := C
  have hl : lv_has ls 1 [(0, .ref (adK i))] := hl
  refine va_gets hx hb hks.2.2.1 h.2.2 hw (ht _ tb_12_1) (fun _ h9 => h9) dJ0_isLatin1_aae02_0 ?_
  refine lv_if_eq (tgt := 17) hx hb dJ0_isLatin1_aae02_3 (by decide) (fun q => absurd q (by decide)) (fun _ => ?_)
  refine lv_aload_n hx hb dJ0_isLatin1_aae02_6 rfl (lv_at hl 0 rfl) ?_
  refine vk_getf hx hb (hks.1 i hi).2.1 h.2.2 hw (ht _ tb_12_2) (fun _ h9 => h9) dJ0_isLatin1_aae02_7 ?_
  refine lv_if_ne (tgt := 17) hx hb dJ0_isLatin1_aae02_10 (by decide) (fun q => absurd rfl q) (fun _ => ?_)
  refine lv_iconst (v := 1) hx hb dJ0_isLatin1_aae02_13 (by decide) ?_
  refine lv_goto (tgt := 18) hx hb dJ0_isLatin1_aae02_14 (by decide) ?_
  exact m_xret C h (by decide) dJ0_isLatin1_aae02_18

set_option maxHeartbeats 4000000 in
set_option maxRecDepth 100000 in
theorem qJ_length {l : Launch} {D : va_G} {cs : Nat → ClassId} {adK adV : Nat → Nat} {i : Nat} (hi : i < nS) : GConK l D cs adK adV yJ0_length_8abf5 cJ0_length_8abf5 1 (some .int) (rM 1) 0 0 [.ref (adK i)] [] (some (.int (nI (tx i).length))) [] := by
  refine GConK.of (by decide) (Nat.le_of_ble_eq_true rfl) ?_
  intro p e s m args below meth c A ls H locs C hks h hl
  have hx := C.1
  have hb := C.2.1
  have hw := C.2.2.2.1
  have ht := C.2.2.2.2.1
  have C : MCx p s m args meth c A RJ0 cJ0_length_8abf5 1 (some .int) D cs := C
  have hl : lv_has ls 1 [(0, .ref (adK i))] := hl
  refine lv_aload_n hx hb dJ0_length_8abf5_0 rfl (lv_at hl 0 rfl) ?_
  refine vk_getf hx hb (hks.1 i hi).2.2.1 h.2.2 hw (ht _ tb_11_20) (fun _ h9 => h9) dJ0_length_8abf5_1 ?_
  refine va_tlen (v := nI (tx i).length) hx hb (hks.1 i hi).2.2.2 h.2.2 rfl dJ0_length_8abf5_4 ?_
  refine lv_aload_n hx hb dJ0_length_8abf5_5 rfl (lv_at hl 0 rfl) ?_
  refine m_callVK0 (r := some (.int 0)) [] C hks h cv_J0_335 (qJ_coder hi) rfl ⟨rfl, rfl⟩ ⟨Nat.le_of_ble_eq_true rfl, Nat.le_of_ble_eq_true rfl⟩ (hks.recv hi h) hl.1 rfl (Nat.le_of_ble_eq_true rfl) ⟨Nat.le_refl _, Nat.le_refl _⟩ dJ0_length_8abf5_6 (fun H locs h => ?_)
  refine lv_ishr hx hb dJ0_length_8abf5_9 ?_
  rw [sc_shr0 (tx_small i hi).1]
  exact m_iret C h dJ0_length_8abf5_10

set_option maxHeartbeats 4000000 in
set_option maxRecDepth 100000 in
theorem qJ_check3 {l : Launch} {D : va_G} {cs : Nat → ClassId} {adK adV : Nat → Nat} {i n : Int32} (h0 : ¬ i < 0) (h1 : i < n) (v : Value) (hv : v = .null ∨ ∃ t, v = .ref t) : GConK l D cs adK adV yJ3_checkIndex_8e157 cJ3_checkIndex_8e157 3 (some .int) (rM 0) 0 0 [.int i, .int n, v] [] (some (.int i)) [] := by
  have hlen : (lg_sl [.int i, .int n, v]).length ≤ 3 := by rcases hv with q | ⟨t, q⟩ <;> subst q <;> exact Nat.le_of_ble_eq_true rfl
  refine GConK.of (by decide) hlen ?_
  intro p e s m args below meth c A ls H locs C hks h hl
  have hx := C.1
  have hb := C.2.1
  have C : MCx p s m args meth c A RJ3 cJ3_checkIndex_8e157 3 (some .int) D cs := C
  have hl : lv_has ls 3 [(0, .int i), (1, .int n)] := lv_sub hl [0, 1] rfl
  refine lv_iload_n hx hb dJ3_checkIndex_8e157_0 rfl (lv_at hl 0 rfl) ?_
  refine lv_if_lt (tgt := 9) hx hb dJ3_checkIndex_8e157_1 (by decide) (fun q => absurd q h0) (fun _ => ?_)
  refine lv_iload_n hx hb dJ3_checkIndex_8e157_4 rfl (lv_at hl 0 rfl) ?_
  refine lv_iload_n hx hb dJ3_checkIndex_8e157_5 rfl (lv_at hl 1 rfl) ?_
  refine lv_icmp_lt (tgt := 16) hx hb dJ3_checkIndex_8e157_6 (by decide) (fun _ => ?_) (fun q => absurd h1 q)
  refine lv_iload_n hx hb dJ3_checkIndex_8e157_16 rfl (lv_at hl 0 rfl) ?_
  exact m_iret C h dJ3_checkIndex_8e157_17

set_option maxHeartbeats 4000000 in
set_option maxRecDepth 100000 in
theorem qJ_check0 {l : Launch} {D : va_G} {cs : Nat → ClassId} {adK adV : Nat → Nat} {i n : Int32} (h0 : ¬ i < 0) (h1 : i < n) : GConK l D cs adK adV yJ0_checkIndex_df160 cJ0_checkIndex_df160 2 none (rM 1) 0 0 [.int i, .int n] [] none [] := by
  refine GConK.of (by decide) (Nat.le_of_ble_eq_true rfl) ?_
  intro p e s m args below meth c A ls H locs C hks h hl
  have hx := C.1
  have hb := C.2.1
  have hw := C.2.2.2.1
  have ht := C.2.2.2.2.1
  have C : MCx p s m args meth c A RJ0 cJ0_checkIndex_df160 2 none D cs := C
  have hl : lv_has ls 2 [(0, .int i), (1, .int n)] := hl
  refine lv_iload_n hx hb dJ0_checkIndex_df160_0 rfl (lv_at hl 0 rfl) ?_
  refine lv_iload_n hx hb dJ0_checkIndex_df160_1 rfl (lv_at hl 1 rfl) ?_
  rcases hks.2.2.2 with hz | ⟨t, hz⟩
  · refine va_gets hx hb hz h.2.2 hw (ht _ tb_12_18) (fun _ h9 => h9) dJ0_checkIndex_df160_2 ?_
    refine m_callSK0 (r := some (.int i)) [.int i, .int n, .null] C hks h cs_J0_1059 (qJ_check3 h0 h1 _ (Or.inl rfl)) rfl ⟨rfl, rfl⟩ ⟨Nat.le_of_ble_eq_true rfl, Nat.le_of_ble_eq_true rfl⟩ hl.1 rfl (Nat.le_of_ble_eq_true rfl) ⟨Nat.le_refl _, Nat.le_refl _⟩ dJ0_checkIndex_df160_5 (fun H locs h => ?_)
    refine lv_pop hx hb dJ0_checkIndex_df160_8 rfl ?_
    exact m_vret C h dJ0_checkIndex_df160_9
  · refine va_gets hx hb hz h.2.2 hw (ht _ tb_12_18) (fun _ h9 => h9) dJ0_checkIndex_df160_2 ?_
    refine m_callSK0 (r := some (.int i)) [.int i, .int n, .ref t] C hks h cs_J0_1059 (qJ_check3 h0 h1 _ (Or.inr ⟨t, rfl⟩)) rfl ⟨rfl, rfl⟩ ⟨Nat.le_of_ble_eq_true rfl, Nat.le_of_ble_eq_true rfl⟩ hl.1 rfl (Nat.le_of_ble_eq_true rfl) ⟨Nat.le_refl _, Nat.le_refl _⟩ dJ0_checkIndex_df160_5 (fun H locs h => ?_)
    refine lv_pop hx hb dJ0_checkIndex_df160_8 rfl ?_
    exact m_vret C h dJ0_checkIndex_df160_9

set_option maxHeartbeats 4000000 in
set_option maxRecDepth 100000 in
theorem qJ_charAt1 {l : Launch} {D : va_G} {cs : Nat → ClassId} {adK adV : Nat → Nat} {i : Nat} (hi : i < nS) {k : Int32} (hk : ib k (tx i).length = true) : GConK l D cs adK adV yJ1_charAt_3b067 cJ1_charAt_3b067 2 (some .char) (rM 2) 0 0 [.ref (adV i), .int k] [] (some (.int ((tx i).getD (ix k) 0))) [] := by
  refine GConK.of (by decide) (Nat.le_of_ble_eq_true rfl) ?_
  intro p e s m args below meth c A ls H locs C hks h hl
  have hx := C.1
  have hb := C.2.1
  have hw := C.2.2.2.1
  have ht := C.2.2.2.2.1
  have C : MCx p s m args meth c A RJ1 cJ1_charAt_3b067 2 (some .char) D cs := C
  have hl : lv_has ls 2 [(0, .ref (adV i)), (1, .int k)] := hl
  have hin := ib_in hk
  obtain ⟨hsm, hby⟩ := tx_small i hi
  obtain ⟨j, hj, rfl⟩ := vp_in_of hin hsm
  obtain ⟨q, hq, eq⟩ := hby j hj
  refine lv_iload_n hx hb dJ1_charAt_3b067_0 rfl (lv_at hl 1 rfl) ?_
  refine lv_aload_n hx hb dJ1_charAt_3b067_1 rfl (lv_at hl 0 rfl) ?_
  refine va_tlen (v := nI (tx i).length) hx hb (hks.1 i hi).2.2.2 h.2.2 rfl dJ1_charAt_3b067_2 ?_
  refine m_callSK0 (r := none) [.int (nI j), .int (nI (tx i).length)] C hks h cs_J1_9 (qJ_check0 (nI_pos (by omega)) (nI_lt hj hsm)) rfl ⟨rfl, rfl⟩ ⟨Nat.le_of_ble_eq_true rfl, Nat.le_of_ble_eq_true rfl⟩ hl.1 rfl (Nat.le_of_ble_eq_true rfl) ⟨Nat.le_refl _, Nat.le_refl _⟩ dJ1_charAt_3b067_3 (fun H locs h => ?_)
  refine lv_aload_n hx hb dJ1_charAt_3b067_6 rfl (lv_at hl 0 rfl) ?_
  refine lv_iload_n hx hb dJ1_charAt_3b067_7 rfl (lv_at hl 1 rfl) ?_
  refine va_tb (v := .int (nI q)) hx hb (hks.1 i hi).2.2.2 h.2.2 hin (by rw [nI_clamp (by omega), eq]) dJ1_charAt_3b067_8 ?_
  refine lv_sipush (v := 255) hx hb dJ1_charAt_3b067_9 (by decide) ?_
  refine lv_iand hx hb dJ1_charAt_3b067_12 ?_
  refine lv_i2c (v := nI q) hx hb dJ1_charAt_3b067_13 (by rw [sc_c2]; exact sk_low q hq) ?_
  rw [show ix (nI j) = j from nI_clamp (by omega), eq]
  exact m_xret C h (pk_charN (by omega)).1 dJ1_charAt_3b067_14

set_option maxHeartbeats 4000000 in
set_option maxRecDepth 100000 in
theorem qJ_charAt {l : Launch} {D : va_G} {cs : Nat → ClassId} {adK adV : Nat → Nat} {i : Nat} (hi : i < nS) {k : Int32} (hk : ib k (tx i).length = true) : GConK l D cs adK adV yJ0_charAt_5068e cJ0_charAt_5068e 2 (some .char) (rM 3) 0 0 [.ref (adK i), .int k] [] (some (.int ((tx i).getD (ix k) 0))) [] := by
  refine GConK.of (by decide) (Nat.le_of_ble_eq_true rfl) ?_
  intro p e s m args below meth c A ls H locs C hks h hl
  have hx := C.1
  have hb := C.2.1
  have hw := C.2.2.2.1
  have ht := C.2.2.2.2.1
  have C : MCx p s m args meth c A RJ0 cJ0_charAt_5068e 2 (some .char) D cs := C
  have hl : lv_has ls 2 [(0, .ref (adK i)), (1, .int k)] := hl
  have hin := ib_in hk
  obtain ⟨hsm, hby⟩ := tx_small i hi
  obtain ⟨j, hj, ek⟩ := vp_in_of hin hsm
  obtain ⟨q, hq, eq⟩ := hby j hj
  refine lv_aload_n hx hb dJ0_charAt_5068e_0 rfl (lv_at hl 0 rfl) ?_
  refine m_callVK0 (r := some (.int 1)) [] C hks h cv_J0_492 (qJ_isLatin1 hi) rfl ⟨rfl, rfl⟩ ⟨Nat.le_of_ble_eq_true rfl, Nat.le_of_ble_eq_true rfl⟩ (hks.recv hi h) hl.1 rfl (Nat.le_of_ble_eq_true rfl) ⟨Nat.le_refl _, Nat.le_refl _⟩ dJ0_charAt_5068e_1 (fun H locs h => ?_)
  refine lv_if_eq (tgt := 16) hx hb dJ0_charAt_5068e_4 (by decide) (fun q => absurd q (by decide)) (fun _ => ?_)
  refine lv_aload_n hx hb dJ0_charAt_5068e_7 rfl (lv_at hl 0 rfl) ?_
  refine vk_getf hx hb (hks.1 i hi).2.2.1 h.2.2 hw (ht _ tb_11_20) (fun _ h9 => h9) dJ0_charAt_5068e_8 ?_
  refine lv_iload_n hx hb dJ0_charAt_5068e_11 rfl (lv_at hl 1 rfl) ?_
  refine m_callSK0 (r := some (.int ((tx i).getD (ix k) 0))) [.ref (adV i), .int k] C hks h cs_J0_495 (qJ_charAt1 hi hk) rfl ⟨rfl, rfl⟩ ⟨Nat.le_of_ble_eq_true rfl, Nat.le_of_ble_eq_true rfl⟩ hl.1 rfl (Nat.le_of_ble_eq_true rfl) ⟨Nat.le_refl _, Nat.le_refl _⟩ dJ0_charAt_5068e_12 (fun H locs h => ?_)
  have en : narrow .char (.int ((tx i).getD (ix k) 0)) = .int ((tx i).getD (ix k) 0) := by
    rw [ek, show ix (nI j) = j from nI_clamp (by omega), eq]
    exact (pk_charN (by omega)).1
  exact m_xret C h en dJ0_charAt_5068e_15

