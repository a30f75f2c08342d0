/-! ===== the class's law writer as a machine over tokens ===== -/
abbrev WS : Type := List (Nat × Nat)
abbrev Cf : Type := Nat × List Nat × WS × Nat × Bool × Bool × Nat × Nat
abbrev kP (C : Cf) : Nat := C.1
abbrev kC (C : Cf) : List Nat := C.2.1
abbrev kW (C : Cf) : WS := C.2.2.1
abbrev kS (C : Cf) : Nat := C.2.2.2.1
abbrev kO (C : Cf) : Bool := C.2.2.2.2.1
abbrev kU (C : Cf) : Bool := C.2.2.2.2.2.1
abbrev kF (C : Cf) : Nat := C.2.2.2.2.2.2.1
abbrev kL (C : Cf) : Nat := C.2.2.2.2.2.2.2
def bd (o : Nat) : Nat := if o = 17 then 1 else if o = 16 then 2 else if o = 18 then 3 else if o = 13 ∨ o = 14 ∨ o = 15 then 4 else if o = 10 ∨ o = 11 then 5 else if o = 12 then 6 else 0
def unw (n : Nat) : WS → List Nat → List Nat × WS
  | [], c => (c, [])
  | e :: W, c => if n ≤ bd e.1 then unw n W (c ++ [e.1]) else (c, e :: W)
/-- opens: not [ ( -/
def opn? (o : Nat) : Bool := decide (o = 1 ∨ o = 2 ∨ o = 18)
def brk? (o : Nat) : Bool := decide (o = 1 ∨ o = 2)
def wi : WS → Nat
  | [] => 0
  | e :: W => wi W + (opn? e.1).toNat
def br : WS → Nat
  | [] => 0
  | e :: W => br W + (brk? e.1).toNat
def okE (e : Nat × Nat) : Prop := (e.1 = 1 ∨ e.1 = 2 ∨ (10 ≤ e.1 ∧ e.1 ≤ 18)) ∧ e.2 ≤ 3
def okW : WS → Prop
  | [] => True
  | [e] => okE e
  | x :: y :: W => okE x ∧ (opn? x.1 = true ∨ opn? y.1 = true ∨ bd y.1 < bd x.1) ∧ okW (y :: W)
def tb' : WS → Nat
  | [] => 0
  | e :: _ => if opn? e.1 = true then 0 else bd e.1
def tb : WS → Nat
  | [] => 0
  | e :: _ => bd e.1
theorem bd_le (o : Nat) : bd o ≤ 6 := by
  unfold bd
  repeat' split
  all_goals omega
theorem bd_op {o : Nat} (h : 10 ≤ o ∧ o ≤ 18) : 1 ≤ bd o := (by decide : ∀ o, o < 19 → 10 ≤ o → 1 ≤ bd o) o (by omega) h.1
theorem bd_brk {o : Nat} (h : brk? o = true) : bd o = 0 := by
  rcases of_decide_eq_true h with q | q <;> subst q <;> decide
theorem okW.tail {e : Nat × Nat} {W : WS} (h : okW (e :: W)) : okW W := by
  cases W with
  | nil => trivial
  | cons y W => exact h.2.2
theorem okW.head {e : Nat × Nat} {W : WS} (h : okW (e :: W)) : okE e := by
  cases W with
  | nil => exact h
  | cons y W => exact h.1
theorem okW_len : ∀ W, okW W → W.length ≤ 7 * wi W + tb' W
  | [], _ => Nat.le_refl _
  | [e], h => by
    show 1 ≤ 7 * (0 + (opn? e.1).toNat) + (if opn? e.1 = true then 0 else bd e.1)
    cases c : opn? e.1 with
    | true => rw [if_pos rfl, Bool.toNat_true]; omega
    | false =>
      rw [if_neg (by decide)]
      have : 10 ≤ e.1 ∧ e.1 ≤ 18 := by
        have h1 := h.1
        have := of_decide_eq_false c
        omega
      have := bd_op this
      omega
  | x :: y :: W, h => by
    have ih := okW_len (y :: W) h.2.2
    have hx := h.1.1
    show (y :: W).length + 1 ≤ 7 * (wi (y :: W) + (opn? x.1).toNat) + (if opn? x.1 = true then 0 else bd x.1)
    have hty : tb' (y :: W) = if opn? y.1 = true then 0 else bd y.1 := rfl
    have by6 := bd_le y.1
    rw [hty] at ih
    cases c : opn? x.1 with
    | true =>
      rw [if_pos rfl, Bool.toNat_true]
      split at ih <;> omega
    | false =>
      have : 10 ≤ x.1 ∧ x.1 ≤ 18 := by
        have := of_decide_eq_false c
        omega
      have h1 := bd_op this
      rw [if_neg (by decide), Bool.toNat_false]
      rcases h.2.1 with q | q | q
      · rw [c] at q; exact absurd q (by decide)
      · rw [if_pos q] at ih; omega
      · split at ih <;> omega
theorem okW_64 {W : WS} (h : okW W) (hw : wi W ≤ 6) : W.length ≤ 48 := by
  have h1 := okW_len W h
  have h2 : tb' W ≤ 6 := by
    cases W with
    | nil => exact Nat.zero_le _
    | cons e W =>
      show (if opn? e.1 = true then 0 else bd e.1) ≤ 6
      have := bd_le e.1
      split <;> omega
  omega
theorem unw_len (n : Nat) : ∀ W c, (unw n W c).1.length + (unw n W c).2.length = c.length + W.length
  | [], c => by show c.length + 0 = _; rfl
  | e :: W, c => by
    unfold unw
    split
    · rw [unw_len n W, List.length_append]
      show c.length + 1 + W.length = c.length + (W.length + 1)
      omega
    · rfl
theorem unw_ok (n : Nat) : ∀ W c, okW W → okW (unw n W c).2
  | [], _, _ => trivial
  | e :: W, c, h => by
    unfold unw
    split
    · exact unw_ok n W _ h.tail
    · exact h
theorem unw_wi (n : Nat) : ∀ W c, wi (unw n W c).2 ≤ wi W
  | [], _ => Nat.le_refl _
  | e :: W, c => by
    unfold unw
    split
    · have := unw_wi n W (c ++ [e.1])
      show _ ≤ wi W + _
      omega
    · exact Nat.le_refl _
theorem unw_br (n : Nat) (hn : 1 ≤ n) : ∀ W c, br (unw n W c).2 = br W
  | [], _ => rfl
  | e :: W, c => by
    unfold unw
    split
    · rename_i h
      rw [unw_br n hn W]
      show br W = br W + (brk? e.1).toNat
      cases q : brk? e.1 with
      | true => rw [bd_brk q] at h; omega
      | false => rfl
    · rfl
theorem unw_tb (n : Nat) (hn : 1 ≤ n) : ∀ W c, tb (unw n W c).2 < n
  | [], _ => by show 0 < n; omega
  | e :: W, c => by
    unfold unw
    split
    · exact unw_tb n hn W _
    · show bd e.1 < n; omega
theorem okW_push {o s n : Nat} {W : WS} (hW : okW W) (he : okE (o, s)) (hb : bd o = n) (ht : tb W < n ∨ opn? o = true) : okW ((o, s) :: W) := by
  cases W with
  | nil => exact he
  | cons y W =>
    refine ⟨he, ?_, hW⟩
    rcases ht with q | q
    · exact Or.inr (Or.inr (by rw [hb]; exact q))
    · exact Or.inl q
/-! tokens as the machine takes them -/
section
variable (B : Nat → Nat) (N law : Nat)
def nmO (t : Tk) : Nat := if isW B t (tx 7) = true then 100 else if isW B t (tx 8) = true then 101 else if (law = 0 ∧ isW B t (tx 9) = true) ∨ (law = 2 ∧ isW B t (tx 10) = true) then 102 else if (law = 0 ∧ isW B t (tx 11) = true) ∨ (law = 2 ∧ isW B t (tx 12) = true) then 103 else 0
def opO (t : Tk) : Nat := if nmO B law t ≠ 0 then nmO B law t else if tKd t = 2 then 1000 + tVl t else 0
def lkO (t : Tk) : Nat := if tKd t = 3 then (if tVl t = 43 then 10 else if tVl t = 45 then 11 else if tVl t = 42 then 12 else if tVl t = 61 then 13 else if tVl t = 60 then 14 else if tVl t = 62 then 15 else 0) else 0
def fltC (C : Cf) (t : Tk) (k : Nat) : Cf := (kP C, kC C, kW C, kS C, kO C, kU C, (if tKd t = 4 then 1 else k), tSt t)
def opnC (C : Cf) (t : Tk) (o : Nat) : Cf := if 6 ≤ wi (kW C) then fltC C t 4 else (tEn t, kC C, (o, kS C) :: kW C, (if o = 1 then 0 else kS C), true, (if o = 1 then false else kU C), 0, 0)
def opS (C : Cf) : Cf :=
  if opO B law (tok B N (kP C)) ≠ 0 then (tEn (tok B N (kP C)), kC C ++ [opO B law (tok B N (kP C))], kW C, kS C, false, kU C, 0, 0)
  else if kU C = true ∧ isW B (tok B N (kP C)) (tx 13) = true then opnC C (tok B N (kP C)) 18
  else if kU C = true ∧ isS (tok B N (kP C)) 91 = true then opnC C (tok B N (kP C)) 2
  else if isS (tok B N (kP C)) 40 = true then opnC C (tok B N (kP C)) 1
  else fltC C (tok B N (kP C)) 2
def lnkC (C : Cf) (t : Tk) (o s : Nat) (u : Bool) : Cf := (tEn t, (unw (bd o) (kW C) (kC C)).1, (o, kS C) :: (unw (bd o) (kW C) (kC C)).2, s, true, u, 0, 0)
def clsC (C : Cf) (t : Tk) : Cf := (tEn t, (unw 1 (kW C) (kC C)).1, (unw 1 (kW C) (kC C)).2.tail, (if ((unw 1 (kW C) (kC C)).2.headD (0, 0)).1 = 2 then 3 else ((unw 1 (kW C) (kC C)).2.headD (0, 0)).2), false, kU C, 0, 0)
def unitW (C : Cf) : Prop := kS C = 2 ∨ kS C = 3
def lkS (C : Cf) : Cf :=
  if (kS C = 2 ∨ kS C = 3) ∧ (isW B (tok B N (kP C)) (tx 14) = true ∨ isW B (tok B N (kP C)) (tx 15) = true) then lnkC C (tok B N (kP C)) (if isW B (tok B N (kP C)) (tx 14) = true then 16 else 17) 1 true
  else if 0 < br (kW C) ∧ ((kS C = 2 ∨ kS C = 3) ∧ isS (tok B N (kP C)) 93 = true ∨ kS C = 0 ∧ isS (tok B N (kP C)) 41 = true) then clsC C (tok B N (kP C))
  else if lkO (tok B N (kP C)) = 0 then fltC C (tok B N (kP C)) 2
  else if 13 ≤ lkO (tok B N (kP C)) then (if kS C = 1 then lnkC C (tok B N (kP C)) (lkO (tok B N (kP C))) 2 false else fltC C (tok B N (kP C)) 2)
  else (if kS C = 3 then fltC C (tok B N (kP C)) 2 else lnkC C (tok B N (kP C)) (lkO (tok B N (kP C))) (kS C) false)
def lEnd (C : Cf) : Bool := decide (kO C = false ∧ br (kW C) = 0 ∧ kS C ≠ 1 ∧ isS (tok B N (kP C)) 59 = true)
def stC (C : Cf) : Cf := if kF C ≠ 0 then C else if kO C = true then opS B N law C else if lEnd B N C = true then C else lkS B N C
def itC : Nat → Cf → Cf
  | 0, C => C
  | k + 1, C => itC k (stC B N law C)
theorem itC_add (j k : Nat) (C : Cf) : itC B N law (j + k) C = itC B N law k (itC B N law j C) := by
  induction j generalizing C with
  | zero => rw [Nat.zero_add]; rfl
  | succ j ih => rw [show j + 1 + k = j + k + 1 by omega]; exact ih _
theorem itC_1 (k : Nat) (C : Cf) : itC B N law (k + 1) C = stC B N law (itC B N law k C) := by rw [itC_add]; rfl
end
section
variable {B : Nat → Nat} {N law : Nat} {C : Cf}
theorem lkO_rng (t : Tk) : lkO t = 0 ∨ (10 ≤ lkO t ∧ lkO t ≤ 15 ∧ tKd t = 3) := by
  unfold lkO
  by_cases h : tKd t = 3
  · rw [if_pos h]
    repeat' split
    all_goals omega
  · rw [if_neg h]; omega
theorem nmO_rng (t : Tk) : nmO B law t = 0 ∨ (100 ≤ nmO B law t ∧ nmO B law t ≤ 103 ∧ tKd t = 1) := by
  have hw : ∀ w, isW B t w = true → tKd t = 1 := fun w h => (of_decide_eq_true h).1
  unfold nmO
  by_cases h1 : isW B t (tx 7) = true
  · rw [if_pos h1]; exact Or.inr ⟨by omega, by omega, hw _ h1⟩
  rw [if_neg h1]
  by_cases h2 : isW B t (tx 8) = true
  · rw [if_pos h2]; exact Or.inr ⟨by omega, by omega, hw _ h2⟩
  rw [if_neg h2]
  by_cases h3 : (law = 0 ∧ isW B t (tx 9) = true) ∨ (law = 2 ∧ isW B t (tx 10) = true)
  · rw [if_pos h3]; exact Or.inr ⟨by omega, by omega, h3.elim (fun z => hw _ z.2) (fun z => hw _ z.2)⟩
  rw [if_neg h3]
  by_cases h4 : (law = 0 ∧ isW B t (tx 11) = true) ∨ (law = 2 ∧ isW B t (tx 12) = true)
  · rw [if_pos h4]; exact Or.inr ⟨by omega, by omega, h4.elim (fun z => hw _ z.2) (fun z => hw _ z.2)⟩
  rw [if_neg h4]; exact Or.inl rfl
theorem opO_rng {p : Nat} (hp : p ≤ N) : opO B law (tok B N p) = 0 ∨ ((100 ≤ opO B law (tok B N p) ∧ opO B law (tok B N p) ≤ 103 ∨ 1000 ≤ opO B law (tok B N p) ∧ opO B law (tok B N p) < 2000) ∧ tKd (tok B N p) ≠ 0) := by
  obtain ⟨r1, r2, r3, r4, r5, r6, r7, r8⟩ := tok_rng B N p hp
  unfold opO
  rcases nmO_rng (B := B) (law := law) (tok B N p) with h | ⟨h1, h2, h3⟩
  · rw [if_neg (fun z => z h)]
    by_cases c : tKd (tok B N p) = 2
    · rw [if_pos c]
      have := r6 c
      exact Or.inr ⟨Or.inr ⟨by omega, by omega⟩, by omega⟩
    · rw [if_neg c]; exact Or.inl rfl
  · rw [if_pos (show nmO B law (tok B N p) ≠ 0 by omega)]
    exact Or.inr ⟨Or.inl ⟨h1, h2⟩, by omega⟩
/-- what holds of every configuration -/
def IC (N : Nat) (C : Cf) : Prop := kP C ≤ N ∧ (kC C).length + (kW C).length ≤ kP C ∧ okW (kW C) ∧ wi (kW C) ≤ 6 ∧ kS C ≤ 3 ∧ kF C ≤ 4
theorem isS_k {t : Tk} {c : Nat} (h : isS t c = true) : tKd t = 3 := (of_decide_eq_true h).1
theorem isW_k {t : Tk} {w : List Int32} (h : isW B t w = true) : tKd t = 1 := (of_decide_eq_true h).1
theorem IC.flt {t : Tk} {k : Nat} (h : IC N C) (hk : k ≤ 4) : IC N (fltC C t k) := ⟨h.1, h.2.1, h.2.2.1, h.2.2.2.1, h.2.2.2.2.1, by show (if tKd t = 4 then 1 else k) ≤ 4; split <;> omega⟩
theorem IC.opn {o : Nat} (h : IC N C) (ho : o = 1 ∨ o = 2 ∨ o = 18) (ht : tKd (tok B N (kP C)) ≠ 0) : IC N (opnC C (tok B N (kP C)) o) := by
  obtain ⟨r1, r2, r3, r4, r5, r6, r7, r8⟩ := tok_rng B N (kP C) h.1
  have := r5 ht
  unfold opnC
  by_cases c : 6 ≤ wi (kW C)
  · rw [if_pos c]; exact h.flt (by omega)
  · rw [if_neg c]
    have hop : opn? o = true := decide_eq_true ho
    refine ⟨r3, ?_, okW_push h.2.2.1 ⟨by show o = 1 ∨ o = 2 ∨ _; omega, h.2.2.2.2.1⟩ rfl (Or.inr hop), ?_, ?_, by show 0 ≤ 4; omega⟩
    · show (kC C).length + ((kW C).length + 1) ≤ tEn (tok B N (kP C))
      have := h.2.1
      omega
    · show wi (kW C) + (opn? o).toNat ≤ 6
      rw [hop, Bool.toNat_true]
      omega
    · show (if o = 1 then 0 else kS C) ≤ 3
      have := h.2.2.2.2.1
      split <;> omega
theorem IC.lnk {o s : Nat} {u : Bool} (h : IC N C) (ho : 10 ≤ o ∧ o ≤ 17) (hs : s ≤ 3) (ht : tKd (tok B N (kP C)) ≠ 0) : IC N (lnkC C (tok B N (kP C)) o s u) := by
  obtain ⟨r1, r2, r3, r4, r5, r6, r7, r8⟩ := tok_rng B N (kP C) h.1
  have := r5 ht
  have hl := unw_len (bd o) (kW C) (kC C)
  have hb := bd_op (o := o) (by omega)
  refine ⟨r3, ?_, okW_push (unw_ok _ _ _ h.2.2.1) ⟨by show o = 1 ∨ o = 2 ∨ _; omega, h.2.2.2.2.1⟩ rfl (Or.inl (unw_tb _ hb _ _)), ?_, hs, by show 0 ≤ 4; omega⟩
  · show (unw (bd o) (kW C) (kC C)).1.length + ((unw (bd o) (kW C) (kC C)).2.length + 1) ≤ tEn (tok B N (kP C))
    have := h.2.1
    omega
  · show wi (unw (bd o) (kW C) (kC C)).2 + (opn? o).toNat ≤ 6
    have e : opn? o = false := decide_eq_false (by omega)
    have := unw_wi (bd o) (kW C) (kC C)
    have := h.2.2.2.1
    rw [e, Bool.toNat_false]
    omega
theorem br_cons_pos : ∀ {W : WS}, 0 < br W → okW W → tb W < 1 → ∃ e W', W = e :: W' ∧ brk? e.1 = true
  | [], h, _, _ => absurd h (Nat.lt_irrefl _)
  | e :: W, h, hok, ht => by
    refine ⟨e, W, rfl, ?_⟩
    have h1 := hok.head.1
    have h2 : bd e.1 < 1 := ht
    rcases h1 with q | q | q
    · exact decide_eq_true (Or.inl q)
    · exact decide_eq_true (Or.inr q)
    · have := bd_op q; omega
theorem IC.cls (h : IC N C) (hb : 0 < br (kW C)) (ht : tKd (tok B N (kP C)) ≠ 0) : IC N (clsC C (tok B N (kP C))) := by
  obtain ⟨r1, r2, r3, r4, r5, r6, r7, r8⟩ := tok_rng B N (kP C) h.1
  have := r5 ht
  have hl := unw_len 1 (kW C) (kC C)
  have hok := unw_ok 1 (kW C) (kC C) h.2.2.1
  have hbr := unw_br 1 (by omega) (kW C) (kC C)
  have hwi := unw_wi 1 (kW C) (kC C)
  obtain ⟨e, W', hW, he⟩ := br_cons_pos (W := (unw 1 (kW C) (kC C)).2) (by omega) hok (unw_tb 1 (by omega) _ _)
  unfold clsC
  rw [hW] at hl hok hwi ⊢
  refine ⟨r3, ?_, hok.tail, ?_, ?_, by show 0 ≤ 4; omega⟩
  · show (unw 1 (kW C) (kC C)).1.length + W'.length ≤ tEn (tok B N (kP C))
    have := h.2.1
    simp only [List.length_cons] at hl
    omega
  · show wi W' ≤ 6
    have : wi (e :: W') = wi W' + (opn? e.1).toNat := rfl
    have := h.2.2.2.1
    omega
  · show (if e.1 = 2 then 3 else e.2) ≤ 3
    have := hok.head.2
    split <;> omega
theorem IC.step (h : IC N C) : IC N (stC B N law C) := by
  unfold stC
  by_cases c0 : kF C ≠ 0
  · rw [if_pos c0]; exact h
  rw [if_neg c0]
  by_cases c1 : kO C = true
  · rw [if_pos c1]
    unfold opS
    rcases opO_rng (B := B) (law := law) h.1 with q | ⟨q1, q2⟩
    · rw [if_neg (fun z => z q)]
      by_cases c2 : kU C = true ∧ isW B (tok B N (kP C)) (tx 13) = true
      · rw [if_pos c2]; exact h.opn (by omega) (by rw [isW_k c2.2]; decide)
      rw [if_neg c2]
      by_cases c3 : kU C = true ∧ isS (tok B N (kP C)) 91 = true
      · rw [if_pos c3]; exact h.opn (by omega) (by rw [isS_k c3.2]; decide)
      rw [if_neg c3]
      by_cases c4 : isS (tok B N (kP C)) 40 = true
      · rw [if_pos c4]; exact h.opn (by omega) (by rw [isS_k c4]; decide)
      rw [if_neg c4]; exact h.flt (by omega)
    · rw [if_pos (show opO B law (tok B N (kP C)) ≠ 0 by omega)]
      obtain ⟨r1, r2, r3, r4, r5, r6, r7, r8⟩ := tok_rng B N (kP C) h.1
      have := r5 q2
      refine ⟨r3, ?_, h.2.2.1, h.2.2.2.1, h.2.2.2.2.1, by show 0 ≤ 4; omega⟩
      show (kC C ++ [_]).length + (kW C).length ≤ tEn (tok B N (kP C))
      rw [List.length_append]
      have := h.2.1
      simp only [List.length_cons, List.length_nil]
      omega
  rw [if_neg c1]
  by_cases c2 : lEnd B N C = true
  · rw [if_pos c2]; exact h
  rw [if_neg c2]
  unfold lkS
  by_cases c3 : (kS C = 2 ∨ kS C = 3) ∧ (isW B (tok B N (kP C)) (tx 14) = true ∨ isW B (tok B N (kP C)) (tx 15) = true)
  · rw [if_pos c3]
    exact h.lnk (by split <;> omega) (by omega) (by rw [c3.2.elim (fun z => isW_k z) (fun z => isW_k z)]; decide)
  rw [if_neg c3]
  by_cases c4 : 0 < br (kW C) ∧ ((kS C = 2 ∨ kS C = 3) ∧ isS (tok B N (kP C)) 93 = true ∨ kS C = 0 ∧ isS (tok B N (kP C)) 41 = true)
  · rw [if_pos c4]
    exact h.cls c4.1 (by rw [c4.2.elim (fun z => isS_k z.2) (fun z => isS_k z.2)]; decide)
  rw [if_neg c4]
  rcases lkO_rng (tok B N (kP C)) with q | ⟨q1, q2, q3⟩
  · rw [if_pos q]; exact h.flt (by omega)
  rw [if_neg (show ¬ lkO (tok B N (kP C)) = 0 by omega)]
  by_cases c5 : 13 ≤ lkO (tok B N (kP C))
  · rw [if_pos c5]
    by_cases c6 : kS C = 1
    · rw [if_pos c6]; exact h.lnk (by omega) (by omega) (by rw [q3]; decide)
    · rw [if_neg c6]; exact h.flt (by omega)
  · rw [if_neg c5]
    by_cases c6 : kS C = 3
    · rw [if_pos c6]; exact h.flt (by omega)
    · rw [if_neg c6]; exact h.lnk (by omega) h.2.2.2.2.1 (by rw [q3]; decide)
theorem IC.it (h : IC N C) : ∀ k, IC N (itC B N law k C)
  | 0 => h
  | k + 1 => by rw [itC_1]; exact (h.it k).step
end
