theorem tb_33_17 : Cond.static yJ9_floorMod_7cf53 ∈ bT := List.mem_append_left _ (in_r33 _ (List.mem_of_getElem? (i := 17) rfl))
theorem tb_33_19 : Cond.code yJ9_floorMod_7cf53 cJ9_floorMod_7cf53 3 (some .int) ∈ bT := List.mem_append_left _ (in_r33 _ (List.mem_of_getElem? (i := 19) rfl))
def jfm (x y : Int32) : Int32 := if 0 ≤ x ^^^ y then jrem x y else if jrem x y = 0 then jrem x y else jrem x y + y
section
variable {p : Program} {l : Launch} {e : Env} {R : Room} {s : State} {m : MethodId} {args : Array Value} {below : List Frame} {meth : Method} {c : Code} {H : Heap} {locs : List Loc} {cells slots : Nat} {Q : State → Prop}
variable {D : va_G} {cs : Nat → ClassId} {A : Nat → Prop} {own : String} {cc : ByteArray} {nL : Nat} {rt : Option FieldType} {pc : Nat} {ls : Array Slot} {rest : List Value}
theorem x_fmod {idx : Nat} {x y : Int32} (hl : Cond.methodLink own idx yJ9_floorMod_7cf53 ∈ bT) (C : MCx p s m args meth c A own cc nL rt D cs) (hls : ls.size = nL) (hy : ¬ y = 0) (hfr : 1 ≤ R.frames) (hlo : (rest.map fun v => v.category).sum + 14 ≤ R.locals) (hc : cells ≤ R.cells) (hs : slots ≤ R.slots) (hdg : decode cc pc = .ok (.invokestatic idx, 3)) (kk : W p l e R s m args below meth c H locs cells slots Q (F0 m (pc + 3) ls (.int (jfm x y) :: rest))) : W p l e R s m args below meth c H locs cells slots Q (F0 m pc ls (.int y :: .int x :: rest)) := sorry
end
