abbrev eC : Cond := Jvm.Cond.and given_1 narrow_1
def nSS : Cond → Bool
  | .eq (.string _ _) (.string _ _) => false
  | _ => true
def sT (i : Nat) : Term := .string (sNm i).1 (sNm i).2.1
def sV (i : Nat) : Term := .field (sT i) "java/lang/String" "value" "[B"
def sW (i : Nat) : List Cond := .exactly (sT i) "java/lang/String" :: .eq (.field (sT i) "java/lang/String" "coder" "B") (.int 0) :: .arrayOf (sV i) .byte :: .eq (.length (sV i)) (.int (Int32.ofNat (tx i).length)) :: (List.range (tx i).length).map (fun j => Cond.eq (.elem (sV i) (.int (Int32.ofNat j))) (.int ((tx i).getD j 0)))
set_option maxRecDepth 100000 in
theorem sW_in : ((flatC eC).filter nSS).drop 105 = (List.range nS).flatMap sW := by decide +kernel
theorem sW_ok {args : Array Value} {s : State} (hgv : eC.before args s = true) : ∀ i, i < nS → ∀ w ∈ sW i, w.before args s = true := fun i hi w hw => flat_of_before _ hgv w (by
  have h : w ∈ (List.range nS).flatMap sW := List.mem_flatMap.mpr ⟨i, List.mem_range.mpr hi, hw⟩
  rw [← sW_in] at h
  exact (List.mem_filter.mp (List.mem_of_mem_drop h)).1)
