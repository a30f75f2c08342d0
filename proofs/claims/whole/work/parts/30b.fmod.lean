theorem tb_33_17 : Cond.static yJ9_floorMod_7cf53 ∈ bT := List.mem_append_left _ (in_r33 _ (List.mem_of_getElem? (i := 17) rfl))
theorem tb_33_19 : Cond.code yJ9_floorMod_7cf53 cJ9_floorMod_7cf53 3 (some .int) ∈ bT := List.mem_append_left _ (in_r33 _ (List.mem_of_getElem? (i := 19) rfl))
def jfm (x y : Int32) : Int32 := if 0 ≤ x ^^^ y then jrem x y else if jrem x y = 0 then jrem x y else jrem x y + y
section
variable {p : Program} {l : Launch} {e : Env} {R : Room} {s : State} {m : MethodId} {args : Array Value} {below : List Frame} {meth : Method} {c : Code} {H : Heap} {locs : List Loc} {cells slots : Nat} {Q : State → Prop}
variable {D : va_G} {cs : Nat → ClassId} {A : Nat → Prop} {own : String} {cc : ByteArray} {nL : Nat} {rt : Option FieldType} {pc : Nat} {ls : Array Slot} {rest : List Value}
theorem x_fmod {idx : Nat} {x y : Int32} (hl : Cond.methodLink own idx yJ9_floorMod_7cf53 ∈ bT) (C : MCx p s m args meth c A own cc nL rt D cs) (hls : ls.size = nL) (hy : ¬ y = 0) (hfr : 1 ≤ R.frames) (hlo : (rest.map fun v => v.category).sum + 14 ≤ R.locals) (hc : cells ≤ R.cells) (hs : slots ≤ R.slots) (hdg : decode cc pc = .ok (.invokestatic idx, 3)) (kk : W p l e R s m args below meth c H locs cells slots Q (F0 m (pc + 3) ls (.int (jfm x y) :: rest))) : W p l e R s m args below meth c H locs cells slots Q (F0 m pc ls (.int y :: .int x :: rest)) := by
  intro T hT X
  have hcode : Jvm.Free.MCB.FloorMod.tab.before args s = true := C.2.2.2.2.1 _ tb_33_19
  have hini : (Cond.initialized "java/lang/Math").before args s = true := C.2.2.2.2.1 _ tb_10_2
  obtain ⟨v, vm1, B, hWm, X', ⟨⟨hh, hL, hc', hs'⟩, hv⟩, st⟩ := Jvm.LawKit.callS X C.1 (own := own) (index := idx) (y := Jvm.Free.MCB.FloorMod.yN) (bytes := Jvm.Free.MCB.FloorMod.yB) (maxL := 3) (ret := some .int) C.2.2.2.1 (C.2.2.2.2.1 _ hl) (C.2.2.2.2.1 _ tb_33_17) hini hcode (by decide) (W := (rest.map fun v => v.category).sum)
    (Jvm.Free.MCB.FloorMod.pays (len := 3) hfr hlo hcode hini) (g := F0 m pc ls (.int y :: .int x :: rest)) rfl (by show ls.size = _; rw [hls]; exact C.2.2.1.symm) (argsL := [.int x, .int y]) (rest := rest)
    (fun sig hs => by rw [show parseMethodDescriptor Jvm.Free.MCB.FloorMod.yN.desc = some ⟨[.int, .int], some .int⟩ from by decide +kernel] at hs; rw [← Option.some.inj hs]; rfl) rfl (by show 2 * 0 + _ ≤ _; omega) (by rw [C.2.1]; exact hdg) (fun vmx hWx => ⟨hc, hs, (x, y), rfl, hy⟩)
  have hr := hv (x, y) ⟨rfl, hy⟩
  rw [hL, hc', hs'] at X'
  subst hr
  obtain ⟨t, a1, b1⟩ := kk B.U (hh.trans hT) X'
  exact ⟨t, st t a1, b1⟩
end
