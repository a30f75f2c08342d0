theorem tb_6_22 : Cond.methodLink RL 122 yX12_init ∈ bT := List.mem_append_left _ (in_r6 _ (List.mem_of_getElem? (i := 22) rfl))
theorem tb_6_23 : Cond.instanceMethod yX12_init ∈ bT := List.mem_append_left _ (in_r6 _ (List.mem_of_getElem? (i := 23) rfl))
theorem tb_7_0 : Cond.code yX12_init cX12_init 2 none ∈ bT := List.mem_append_left _ (in_r7 _ (List.mem_of_getElem? (i := 0) rfl))
theorem tb_1_0 : Cond.classLink RL 8 RX11 ∈ bT := List.mem_append_left _ (in_r1 _ (List.mem_of_getElem? (i := 0) rfl))
theorem tb_1_1 : Cond.instantiable RX11 13 ∈ bT := List.mem_append_left _ (in_r1 _ (List.mem_of_getElem? (i := 1) rfl))
theorem tb_1_3 : Cond.classLink RL 120 RX12 ∈ bT := List.mem_append_left _ (in_r1 _ (List.mem_of_getElem? (i := 3) rfl))
theorem tb_1_4 : Cond.instantiable RX12 48 ∈ bT := List.mem_append_left _ (in_r1 _ (List.mem_of_getElem? (i := 4) rfl))
theorem tb_1_8 : Cond.methodLink RL 119 yX11_init ∈ bT := List.mem_append_left _ (in_r1 _ (List.mem_of_getElem? (i := 8) rfl))
theorem tb_1_9 : Cond.instanceMethod yX11_init ∈ bT := List.mem_append_left _ (in_r1 _ (List.mem_of_getElem? (i := 9) rfl))
theorem tb_1_10 : Cond.code yX11_init cX11_init 3 none ∈ bT := List.mem_append_left _ (in_r1 _ (List.mem_of_getElem? (i := 10) rfl))
theorem set_last (W0 : va_W) (c c' : Nat × va_E) (R : va_W) : (W0 ++ [c]).set W0.length c' ++ R = W0 ++ c' :: R := by
  induction W0 with
  | nil => rfl
  | cons a W ih => exact congrArg (a :: ·) ih
/-- the reference's fields before its constructor -/
def nu12 : List Value := [.null, .null, .null, .null, .int 0, .null, .int 0, .int 0, .int 0, .int 0, .int 0, .int 0, .int 0, .int 0, .int 0, .int 0, .int 0, .int 0, .int 0, .null, .null, .null, .null, .null, .null, .int 0, .null, .null, .null, .null, .null, .null, .int 0, .int 0, .int 0, .int 0, .int 0, .int 0, .int 0, .null, .int 0, .int 0, .null, .null, .int 0, .null, .null, .null]
theorem kX12_at {l : Launch} {D : va_G} {cs : Nat → ClassId} (W0 : va_W) (q1 : Nat) : KCon l D cs yX12_init cX12_init 2 (rA 1 23 108932) 23 108932 [.ref q1] (W0 ++ [(q1, .inr (11, nu12))]) (fun u => W0 ++ MW cs (adM q1 u) g0) := by
  have hW : (W0 ++ [((q1, .inr (11, nu12)) : Nat × va_E)])[W0.length]? = some (q1, .inr (11, nu12)) := by simp
  have h := kX12 (l := l) (D := D) (cs := cs) (Wd := W0 ++ [(q1, .inr (11, nu12))]) (i := W0.length) (o := q1) (by simp) hW
  refine Eq.mp (congrArg (KCon l D cs yX12_init cX12_init 2 (rA 1 23 108932) 23 108932 [.ref q1] (W0 ++ [(q1, .inr (11, nu12))])) (funext fun u => ?_)) h
  exact (set_last W0 _ _ _).trans (congrArg (W0 ++ ·) (MW_start cs q1 u).symm)
