/-! ===== a world's cells in another order ===== -/
theorem perm_at {W W' : va_W} {is : List Nat} (hi : is.map (fun i => W[i]?) = W'.map some) {k : Nat} {q : Nat × va_E} (hk : W'[k]? = some q) : ∃ i, is[k]? = some i ∧ W[i]? = some q := by
  have h1 : (W'.map some)[k]? = some (some q) := by rw [List.getElem?_map, hk]; rfl
  rw [← hi, List.getElem?_map] at h1
  cases e : is[k]? with
  | none => rw [e] at h1; cases h1
  | some i => rw [e] at h1; exact ⟨i, rfl, Option.some.inj h1⟩
theorem perm_P {D : va_G} {cl : List vw_C} {W W' : va_W} {H : Heap} (h : va_P D cl W H) (is : List Nat) (hi : is.map (fun i => W[i]?) = W'.map some) : va_P D cl W' H := fun k q hk => by
  obtain ⟨i, -, e⟩ := perm_at hi hk
  exact h i q e
theorem perm_D {A : Nat → Prop} {W W' : va_W} (h : va_D A W) (is : List Nat) (hi : is.map (fun i => W[i]?) = W'.map some) (hn : is.Nodup) : va_D A W' := by
  refine ⟨fun i j p q hp hq e => ?_, fun k q hk => ?_⟩
  · obtain ⟨a, a1, a2⟩ := perm_at hi hp
    obtain ⟨c, c1, c2⟩ := perm_at hi hq
    have hac := h.1 a c p q a2 c2 e
    have hl : i < is.length := (List.getElem?_eq_some_iff.mp a1).1
    exact (List.getElem?_inj hl hn).mp (by rw [a1, c1, hac])
  · obtain ⟨i, -, e⟩ := perm_at hi hk
    exact h.2 i q e
