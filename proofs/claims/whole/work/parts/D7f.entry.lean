theorem vxD_in : ∀ w ∈ vxD, w ∈ lw_tbl := by decide +kernel
theorem vxD_ot : ∀ w ∈ vxD, w.onTables = true := by decide +kernel
theorem vxC_in : ∀ k, k < 5 → 1 ≤ k → Cond.castable (exN k) (exN k) ∈ lw_tbl := by decide +kernel
theorem en_XS {args : Array Value} {s : State} {A : Nat → Prop} (hts : ∀ w ∈ lw_tbl, w.before args s = true) (hgv : eC.before args s = true) (hA : ∀ a : Nat, a < s.heap.size → ¬ A a) : XS A s s.heap := by
  refine ⟨?_, ?_, fun w hw => va_Nw.of (vxD_ot w hw) (hts w (vxD_in w hw)), fun k h1 h4 => va_Nw.of rfl (hts _ (vxC_in k (by omega) h1))⟩
  · exact vx_Zqof (hts (.laysStatic Bundle.tN "UNASSIGNED_STACK" Bundle.steD) (by decide +kernel)) (hts (.initialized Bundle.tN) (by decide +kernel)) (flat_of_before _ hgv (.isRef (.static Bundle.tN "UNASSIGNED_STACK" Bundle.steD)) (by decide +kernel)) hA
  · exact vx_Zqof (hts (.laysStatic Bundle.tN "SUPPRESSED_SENTINEL" Bundle.listD) (by decide +kernel)) (hts (.initialized Bundle.tN) (by decide +kernel)) (flat_of_before _ hgv (.isRef (.static Bundle.tN "SUPPRESSED_SENTINEL" Bundle.listD)) (by decide +kernel)) hA
