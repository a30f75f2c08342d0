theorem tb_9_0 : Cond.methodLink RL 7 yX11_board ∈ bT := List.mem_append_left _ (in_r9 _ (List.mem_of_getElem? (i := 0) rfl))
theorem tb_9_3 : Cond.code yX11_board cX11_board 2 (some .int) ∈ bT := List.mem_append_left _ (in_r9 _ (List.mem_of_getElem? (i := 3) rfl))
theorem tb_9_1 : Cond.instanceMethod yX11_board ∈ bT := List.mem_append_left _ (in_r9 _ (List.mem_of_getElem? (i := 1) rfl))
theorem tb_9_2 : Cond.selects RX11 yX11_board yX11_board ∈ bT := List.mem_append_left _ (in_r9 _ (List.mem_of_getElem? (i := 2) rfl))
theorem cv_L_7 : CalV RL 7 yX11_board cX11_board 2 (some .int) 1 := CalV.of tb_9_0 tb_9_1 tb_9_2 tb_1_2 tb_9_3 (by decide +kernel)
set_option maxHeartbeats 4000000 in
set_option maxRecDepth 100000 in
theorem tX11_board {l : Launch} {D : va_G} {cs : Nat → ClassId} {ad al adK adV : Nat → Nat} {P : PL} (hst : l.stackTraces = false) {g : CS} {a0 : Int32} (hf : a0 < 0 ∨ ¬ a0 ≤ g.1 0 1) : XCon l D cs ad al adK adV yX11_board cX11_board 2 (some .int) (rA 6 1 6) [.ref (ad 0), .int a0] P g 1 g := by
  refine XCon.of hst (by decide) (Nat.le_of_ble_eq_true rfl) ?_
  intro p e s m args below meth c A ls H locs C hT h hl
  have hx := C.1
  have hb := C.2.1
  have C : MCx p s m args meth c A RX11 cX11_board 2 (some .int) D cs := C
  have hl : lv_has ls 2 [(0, .ref (ad 0)), (1, .int a0)] := hl
  refine lv_iload_n hx hb dX11_board_0 rfl (lv_at hl 1 rfl) ?_
  refine lv_if_lt (tgt := 12) hx hb dX11_board_1 (by decide) (fun hq => ?_) (fun hq => ?_)
  · exact t_throwS (i := 0) 1 (by decide) (by decide) C hT h tb_9_4 tb_9_5 (by decide) rfl rfl hl.1 dX11_board_12 dX11_board_15 dX11_board_16 dX11_board_18 dX11_board_21 (Nat.le_of_ble_eq_true rfl) (Nat.le_of_ble_eq_true rfl) (Nat.le_refl 1) (Nat.le_refl 6)
  · refine lv_iload_n hx hb dX11_board_4 rfl (lv_at hl 1 rfl) ?_
    refine lv_aload_n hx hb dX11_board_5 rfl (lv_at hl 0 rfl) ?_
    refine xg_X11 1 C h (by decide) tb_8_8 rfl rfl dX11_board_6 ?_
    refine lv_icmp_le (tgt := 22) hx hb dX11_board_9 (by decide) (fun hq2 => ?_) (fun hq2 => ?_)
    · exact (hf.elim (fun z => hq z) (fun z => z hq2)).elim
    · exact t_throwS (i := 0) 1 (by decide) (by decide) C hT h tb_9_4 tb_9_5 (by decide) rfl rfl hl.1 dX11_board_12 dX11_board_15 dX11_board_16 dX11_board_18 dX11_board_21 (Nat.le_of_ble_eq_true rfl) (Nat.le_of_ble_eq_true rfl) (Nat.le_refl 1) (Nat.le_refl 6)
section
variable {p : Program} {l : Launch} {e : Env} {R : Room} {s : State} {m : MethodId} {args : Array Value} {below : List Frame} {meth : Method} {c : Code} {H : Heap} {locs : List Loc} {cells slots : Nat} {Q : State → Prop}
variable {D : va_G} {cs : Nat → ClassId} {ad al adK adV : Nat → Nat} {A : Nat → Prop} {Wd W' W2 : va_W} {own : String} {cc : ByteArray} {nL : Nat} {rt : Option FieldType} {pc : Nat} {ls : Array Slot} {rest : List Value} {P P' : PL} {g g' : CS} {kd : Nat} {rv : (Nat → Nat) → Option Value}
/-- the world behind the wrapper of board: the pool of laws has grown -/
def BPost (D : va_G) (cs : Nat → ClassId) (ad : Nat → Nat) (al : Nat → Nat) (n : Nat) (P' : PL) (g' : CS) (W2 : va_W) (r : Int32) (A : Nat → Prop) : Array Value → State → Outcome → State → Prop := fun _ st oc t =>
  ∃ al' : Nat → Nat, (∀ i, i < n → al' i = al i) ∧ oc = .returned (some (.int r)) ∧ va_P D vwCl (SW cs ad al' P' g' ++ W2) t.heap ∧ va_D A (SW cs ad al' P' g' ++ W2) ∧ va_F A st t
def BCon (l : Launch) (D : va_G) (cs : Nat → ClassId) (ad al adK adV : Nat → Nat) (y : MethodName) (bc : ByteArray) (nc : Nat) (hh : List (Nat × Nat × Nat × Nat)) (rm : Room) (mc ms : Nat) (av : List Value) (P : PL) (g : CS) (W2 : va_W) (r : Int32) (P' : PL) (g' : CS) (W3 : va_W) : Prop :=
  ∀ sz : Nat, Met l y (.codeWith y bc nc (some .int) hh :: bT2) rm (va_Pc av (LP0 D cs adK adV (SW cs ad al P g ++ W2) sz)) (BPost D cs ad al P.1 P' g' W3 r (va_A (SW cs ad al P g ++ W2) sz)) mc ms (va_A (SW cs ad al P g ++ W2) sz)
theorem BCon.of {y : MethodName} {bc : ByteArray} {nc : Nat} {hh : List (Nat × Nat × Nat × Nat)} {rm : Room} {mc ms : Nat} {av : List Value} {r : Int32} {W3 : va_W} (hst : l.stackTraces = false) (hy : plainName y.cls = true) (hlen : (lg_sl av).length ≤ nc)
    (body : ∀ (p : Program) (e : Env) (s : State) (m : MethodId) (args : Array Value) (below : List Frame) (meth : Method) (c : Code) (A : Nat → Prop) (ls : Array Slot) (H : Heap) (locs : List Loc), MCx p s m args meth c A y.cls bc nc (some .int) D cs → LC l s args adK adV A → c.exceptionTable.toList = tableOf hh → MH D (SW cs ad al P g ++ W2) A s H locs → lv_has ls nc (lv_args 0 av) → W p l e rm s m args below meth c H locs 0 0 (MQ below (BPost D cs ad al P.1 P' g' W3 r A) args s mc ms A) (F0 m 0 ls [])) :
    BCon l D cs ad al adK adV y bc nc hh rm mc ms av P g W2 r P' g' W3 := by
  intro sz
  refine va_MetW (cc := bc) (maxL := nc) (ret := some .int) (hh := hh) hy rfl ?_
  intro p e s m args below meth c s₁ B hml hv
  obtain ⟨rfl, hsz, hP, hK, hD0, hKS, hXS, hNC⟩ := hv
  have hts := atoms_spec (ws := .codeWith y bc nc (some .int) hh :: bT2) B.pre
  have hown : s.vm.findClass y.cls = some m.cls := findClass_of_methodNamed B.named
  have htb := vx_table (x := y) B (hts _ List.mem_cons_self)
  subst hsz
  have hl := lv_entry av (n := nc) hlen
  rw [lg_entry_eq]
  exact body p e s m _ below meth c (va_A (SW cs ad al P g ++ W2) s.heap.size) _ s.heap [] ⟨B.exec, B.bytes, hml, hown, fun w h => hts w (List.mem_cons_of_mem _ (bT_bT2 h)), B.returns, B.notSynchronized, hK, fun q h => Or.inr h⟩ ⟨hKS, hXS, fun w h => hts w (List.mem_cons_of_mem _ h), hst, hNC⟩ htb ⟨hP, hD0.self, va_S.rf⟩ hl
theorem b_callV {y : MethodName} {bc : ByteArray} {nc : Nat} {rc : Option FieldType} {rm : Room} {mc ms idx b n : Nat} {st : List Value} (av : List Value) (C : MCx p s m args meth c A own cc nL rt D cs) (hks : KS adK adV A s s.heap) (h : MH D (SW cs ad al P g ++ W2) A s H locs)
    (cv : CalV own idx y bc nc rc n) (hM : ACon l D cs ad al adK adV y bc nc rc rm mc ms (.ref b :: av) P g rv P' g') (hn : av.length = n) (hrm : rm.cells = mc ∧ rm.slots = ms) (hR : rm.frames + 1 ≤ R.frames ∧ 8 + (nc + 11) + rm.locals ≤ R.locals)
    (hrecv : ∃ cell : Cell, H[b]? = some cell ∧ cell.vm.isStatics = false ∧ s.vm.findClass y.cls = some cell.cls) (hls : ls.size = nL) (hst : st = av.reverse ++ .ref b :: rest) (hW : (rest.map fun v => v.category).sum ≤ 8) (hf : cells + mc ≤ R.cells ∧ slots + ms ≤ R.slots) (hdg : decode cc pc = .ok (.invokevirtual idx, 3))
    (kk : ∀ (al' : Nat → Nat) (H1 : Heap) (locs1 : List Loc), (∀ i, i < P.1 → al' i = al i) → MH D (SW cs ad al' P' g' ++ W2) A s H1 locs1 → W p l e R s m args below meth c H1 locs1 (cells + mc) (slots + ms) Q (F0 m (pc + 3) ls ((rv al').toList ++ rest))) : W p l e R s m args below meth c H locs cells slots Q (F0 m pc ls st) := by
  obtain ⟨hx, hb, hml, hown, hts, hrt, hlocks, hK, hA⟩ := C
  obtain ⟨hP, hD, hS⟩ := h
  obtain ⟨hPl, hDl⟩ := fr_left hP hD
  have hfr := va_A_sub hDl hS hA
  have hr := va_runV (H := H) (locs := locs) (cells := cells) (slots := slots) (g := F0 m pc ls st) (rest := rest) (As := av) (R := R) (e := e) (below := below) (meth := meth) (b := b) ⟨hx, hb, hml, hown, hts⟩ (hM H.size) (cwV n hts (bT_in cv.1) rfl hrm.1 hrm.2 ⟨rfl, cv.2⟩ hR) ⟨m_fbK, hrecv, fun U hU hW => ⟨rfl, by rw [hU], by rw [hU]; exact hPl, va_K.moved hW.alike hK, hDl.weaken (fun _ _ _ _ => trivial), by rw [hU]; exact hks.step hS hfr hW⟩⟩ rfl hn hls hst (lv_room hW) hdg hf
  intro T hT X
  obtain ⟨v, st₀, t, T', L, h0, X', hL, e1, e2, ⟨al', hal, hv, hP1, hD1, hz, hk⟩, sg⟩ := hr T hT X
  cases hv
  rw [h0] at hz hk
  have hkk : ∀ q : Nat, q < H.size → ¬ va_A (SW cs ad al P g) H.size q → T'.heap[q]? = H[q]? := fun q h1 h2 => by rw [e1]; exact hk q h1 h2
  obtain ⟨hPj, hDj⟩ := fr_join hP hD hkk hfr (by rw [e1]; exact hP1) hD1
  obtain ⟨t2, a1, b1⟩ := kk al' T'.heap (locs ++ L) hal ⟨hPj, hDj,
    Nat.le_trans hS.1 (by rw [e1]; exact hz), fun q h1 h2 => by rw [e1, hk q (Nat.lt_of_lt_of_le h1 hS.1) (fun z => h2 (hfr q z))]; exact hS.2.1 q h1 h2, fun q hq => by
      rcases List.mem_append.mp hq with h | h
      · exact hS.2.2 q h
      · exact hfr _ (hL q h)⟩ T' rfl X'
  exact ⟨t2, sg t2 a1, b1⟩
end
section
variable {l : Launch} {D : va_G} {cs : Nat → ClassId} {ad al adK adV : Nat → Nat} {P P' : PL} {g g' : CS} {aO : Nat} {fo : Nat → Int64} {Wm : va_W}
set_option maxHeartbeats 4000000 in
set_option maxRecDepth 100000 in
theorem nL_board (hst : l.stackTraces = false) {p0 : Int32} {r : Int32} (hf : fX11_board P g p0 = some (Sum.inr r, P', g')) : BCon l D cs ad al adK adV yL_board cL_board 4 [(0, 9, 12, 13)] (rA 11 130 1000) 130 1000 [.ref (ad 0), .int p0, .ref aO] P g (outC cs aO fo :: Wm) (0 : Int32) P' g' (outC cs aO (vp_updL fo 0 r.toInt64) :: Wm) := by
  refine BCon.of hst (by decide) (Nat.le_of_ble_eq_true rfl) ?_
  intro p e s m args below meth c A ls H locs C hL htb h hl
  have hx := C.1
  have hb := C.2.1
  have C : MCx p s m args meth c A RL cL_board 4 (some .int) D cs := C
  have hl : lv_has ls 4 [(0, .ref (ad 0)), (1, .int p0), (2, .ref aO)] := hl
  refine lv_aload_n hx hb dL_board_0 rfl (lv_at hl 2 rfl) ?_
  refine lv_iconst (v := (0 : Int32)) hx hb dL_board_1 (by decide) ?_
  refine lv_aload_n hx hb dL_board_2 rfl (lv_at hl 0 rfl) ?_
  refine lv_iload_n hx hb dL_board_3 rfl (lv_at hl 1 rfl) ?_
  refine b_callV (rv := fun _ => some (.int r)) (rest := [.int (0 : Int32), .ref aO]) (W2 := outC cs aO fo :: Wm) [.int p0] C hL.1 h cv_L_7 (qX11_board hf) rfl ⟨rfl, rfl⟩ ⟨Nat.le_of_ble_eq_true rfl, Nat.le_of_ble_eq_true rfl⟩ (rv_law (q0 := 0) (ci := 10) (q := (RX11, TX11, 13)) C h rfl (SW_fix rfl)) hl.1 rfl (Nat.le_of_ble_eq_true rfl) ⟨Nat.le_of_ble_eq_true rfl, Nat.le_of_ble_eq_true rfl⟩ dL_board_4 (fun al' H locs hal h => ?_)
  refine lv_i2l hx hb dL_board_7 rfl ?_
  refine o_store C h dL_board_8 (fun H locs h => ?_)
  refine lv_goto (tgt := 15) hx hb dL_board_9 (by decide) ?_
  refine lv_iconst (v := (0 : Int32)) hx hb dL_board_15 (by decide) ?_
  obtain ⟨hx, hb, hml, hown, hts, hr, hlocks, hK, hA⟩ := C
  obtain ⟨hP, hD, hS⟩ := h
  exact W.iret hx hb hr (fun t ht hW => ⟨al', hal, rfl, by rw [ht]; exact hP, hD, hS.F ht⟩) hS.2.2 dL_board_16
set_option maxHeartbeats 4000000 in
set_option maxRecDepth 100000 in
theorem xL_board_1 (hst : l.stackTraces = false) {p0 : Int32} (hf : p0 < 0 ∨ ¬ p0 ≤ g.1 0 1) : WCon l D cs adK adV yL_board cL_board 4 [(0, 9, 12, 13)] (rA 7 1 6) 1 6 [.ref (ad 0), .int p0, .ref aO] (SW cs ad al P g ++ outC cs aO fo :: Wm) (1 : Int32) (SW cs ad al P g ++ outC cs aO fo :: Wm) := by
  refine WCon.of hst (by decide) (Nat.le_of_ble_eq_true rfl) ?_
  intro p e s m args below meth c A ls H locs C hL htb h hl
  have hx := C.1
  have hb := C.2.1
  have C : MCx p s m args meth c A RL cL_board 4 (some .int) D cs := C
  have hl : lv_has ls 4 [(0, .ref (ad 0)), (1, .int p0), (2, .ref aO)] := hl
  refine lv_aload_n hx hb dL_board_0 rfl (lv_at hl 2 rfl) ?_
  refine lv_iconst (v := (0 : Int32)) hx hb dL_board_1 (by decide) ?_
  refine lv_aload_n hx hb dL_board_2 rfl (lv_at hl 0 rfl) ?_
  refine lv_iload_n hx hb dL_board_3 rfl (lv_at hl 1 rfl) ?_
  refine f_catch (rest := [.int (0 : Int32), .ref aO]) (W2 := outC cs aO fo :: Wm) [.int p0] C hL h cv_L_7 (tX11_board hst hf) rfl ⟨rfl, rfl⟩ ⟨Nat.le_of_ble_eq_true rfl, Nat.le_of_ble_eq_true rfl⟩ (rv_law (q0 := 0) (ci := 10) (q := (RX11, TX11, 13)) C h rfl (SW_fix rfl)) hl.1 rfl (Nat.le_of_ble_eq_true rfl) ⟨Nat.le_refl 1, Nat.le_refl 6⟩ dL_board_4 [] ⟨0, 9, 12, 13⟩ [] (htb.trans rfl) ⟨by decide, by decide⟩ (fun z hz => absurd hz List.not_mem_nil) (by decide) (by decide) tb_8_23 (fun q H locs h => ?_)
  refine lv_astore_n (lv' := [(3, .ref q), (0, .ref (ad 0)), (1, .int p0), (2, .ref aO)]) hx hb dL_board_12 rfl hl (by decide) rfl (fun ls hl => ?_)
  refine lv_iconst (v := (1 : Int32)) hx hb dL_board_13 (by decide) ?_
  exact m_iret C h dL_board_14
end
