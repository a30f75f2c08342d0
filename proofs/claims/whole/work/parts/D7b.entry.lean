/-! ===== what holds at the law's entry ===== -/
theorem vx_tbl1 : ∀ w ∈ vxW 1, w ∈ lw_tbl := by decide +kernel
theorem vx_tbl2 : ∀ w ∈ vxW 2, w ∈ lw_tbl := by decide +kernel
theorem vx_tbl3 : ∀ w ∈ vxW 3, w ∈ lw_tbl := by decide +kernel
theorem vx_tbl4 : ∀ w ∈ vxW 4, w ∈ lw_tbl := by decide +kernel
theorem bT2_tbl : ∀ w ∈ bT2, w ∈ lw_tbl := by
  intro w h
  unfold bT2 at h
  rcases List.mem_append.mp h with h | h
  · exact bT_tbl w h
  rcases List.mem_append.mp h with h | h
  · exact vx_tbl1 w h
  rcases List.mem_append.mp h with h | h
  · exact vx_tbl2 w h
  rcases List.mem_append.mp h with h | h
  · exact vx_tbl3 w h
  · exact vx_tbl4 w h
