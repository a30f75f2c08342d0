/-! ===== where both sides begin ===== -/
def R0 : Nat → Int32 := upd (upd (upd (upd (upd (upd (upd (fun _ => 0) (1 : Int32).toNatClampNeg (2 : Int32)) (12 : Int32).toNatClampNeg (1 : Int32)) (13 : Int32).toNatClampNeg (1 : Int32)) (14 : Int32).toNatClampNeg (1 : Int32)) (15 : Int32).toNatClampNeg (1 : Int32)) (16 : Int32).toNatClampNeg (1 : Int32)) (17 : Int32).toNatClampNeg (1 : Int32)
def R45 : Nat → Int32 := upd (upd (upd (upd (fun _ => 0) (0 : Int32).toNatClampNeg (-1 : Int32)) (1 : Int32).toNatClampNeg (-1 : Int32)) (2 : Int32).toNatClampNeg (-1 : Int32)) (3 : Int32).toNatClampNeg (-1 : Int32)
def g0 : MS := ((fun k => if k = 15 then -1 else 0), (fun a => if a = 0 then R0 else if a = 45 then R45 else fun _ => 0), fun _ => 0)
def isSt (o : Nat) : Bool := decide (o = 30 ∨ o = 31 ∨ o = 32 ∨ o = 33 ∨ o = 34)
def h0 : CS := ((fun o k => if (o = 0 ∧ k = 3) ∨ (o = 12 ∧ k = 1) ∨ (o = 17 ∧ (k = 2 ∨ k = 3 ∨ k = 4)) ∨ (o = 27 ∧ k = 1) ∨ ((o = 50 ∨ o = 51 ∨ o = 52 ∨ o = 53) ∧ k = 0) then -1 else if isSt o = true ∧ k = 1 then 2 else if isSt o = true ∧ k = 4 then 17 else 0), (fun _ _ => 0), (fun _ _ => 0), fun o _ => if o = 30 then 1 else if o = 31 then 2 else if o = 32 then 3 else if o = 33 then 4 else if o = 34 then 5 else 0)
def P0 : PL := (6, 0, fun _ => (0, fun _ => 0))
def s0 : AS := ((b0 2, 0, 0, fun _ => ((fun _ => 0), (fun _ => 0), 0)), (fun _ => (false, (b0 2, 0, 0, fun _ => ((fun _ => 0), (fun _ => 0), 0)))), (fun _ => (false, 0, 0, fun _ => 0)), 0, (fun _ => 0), 0, -1)
theorem s0_wf : wfS s0 := ⟨⟨b0_wf ⟨by omega, by omega⟩, by show 0 ≤ 900; omega, by show 0 ≤ 10; omega, fun j hj => absurd hj (Nat.not_lt_zero j)⟩, fun i _ ht => absurd (show false = true from ht) (by decide), by show 0 ≤ 900; omega, fun k hk => absurd hk (Nat.not_lt_zero k)⟩
theorem g0_MI : MI s0 g0 := by
  refine ⟨⟨⟨by decide, by decide, fun m hm => ?_, fun m hm => ?_, by decide, by decide, by decide, fun i hi => absurd hi (Nat.not_lt_zero i), fun i hi => absurd hi (Nat.not_lt_zero i), fun i hi => absurd hi (Nat.not_lt_zero i)⟩, by decide, by decide, fun j hj => absurd hj (Nat.not_lt_zero j)⟩, fun i hi => ⟨rfl, fun ht => absurd (show false = true from ht) (by decide)⟩, fun i hi => Or.inl ⟨rfl, ?_⟩, rfl, fun k hk => absurd hk (Nat.not_lt_zero k), rfl, rfl⟩
  · have hm : m < 2 := hm
    rcases (show m = 0 ∨ m = 1 by omega) with e | e <;> subst e <;> decide
  · have hm : m < 2 := hm
    rcases (show m = 0 ∨ m = 1 by omega) with e | e <;> subst e <;> decide
  · rcases (show i = 0 ∨ i = 1 ∨ i = 2 ∨ i = 3 by omega) with e | e | e | e <;> subst e <;> decide
theorem in0 {w : Nat} (h : w < 6) : inP P0 w [] := ⟨h, rfl, fun i hi => absurd hi (Nat.not_lt_zero i)⟩
theorem h0_CI : CI s0 P0 0 h0 := by
  have mm : ∀ C : Prop, memo 0 (-1) C := fun C => ⟨Or.inl rfl, fun e => absurd e (by decide)⟩
  refine ⟨⟨⟨by decide, by decide, by decide, by decide, in0 (by decide), in0 (by decide), in0 (by decide)⟩, by decide, by decide, fun j hj => absurd hj (Nat.not_lt_zero j)⟩, by decide, ⟨mm _, mm _, mm _, mm _⟩, mm _, ⟨by decide, fun i hi ht => absurd (show false = true from ht) (by decide)⟩, fun i hi => Or.inl ⟨rfl, ?_⟩, ⟨by decide, fun k hk => absurd hk (Nat.not_lt_zero k), by decide, by decide⟩, by decide, in0 (by decide)⟩
  rcases (show i = 0 ∨ i = 1 ∨ i = 2 ∨ i = 3 by omega) with e | e | e | e <;> subst e <;> decide
