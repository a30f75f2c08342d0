/-! ===== all that both sides keep ===== -/
abbrev AS : Type := AQ × (Nat → Bool × AQ) × (Nat → AT) × Nat × (Nat → Nat) × Int32 × Int32
abbrev zQ (s : AS) : AQ := s.1
abbrev zI (s : AS) : Nat → Bool × AQ := s.2.1
abbrev zT (s : AS) : Nat → AT := s.2.2.1
abbrev zL (s : AS) : Nat := s.2.2.2.1
abbrev zB (s : AS) : Nat → Nat := s.2.2.2.2.1
abbrev zK (s : AS) : Int32 := s.2.2.2.2.2.1
abbrev zP (s : AS) : Int32 := s.2.2.2.2.2.2
def stQ (s : AS) (q : AQ) : AS := (q, s.2)
def stT (s : AS) (i : Nat) (t : AT) : AS := (s.1, s.2.1, (fun j => if j = i then t else zT s j), s.2.2.2)
def stM (s : AS) (i : Nat) : AS := (s.1, (fun j => if j = i then (true, zQ s) else zI s j), s.2.2)
def wfS (s : AS) : Prop := wfQ (zQ s) ∧ (∀ i, i < 3 → (zI s i).1 = true → wfQ (zI s i).2) ∧ zL s ≤ 900 ∧ ∀ k, k < zL s → zB s k < 256
def MI (s : AS) (g : MS) : Prop := KQ (zQ s) (g.2.1 0) ∧ (∀ i, i < 3 → g.2.1 3 i = nI (zI s i).1.toNat ∧ ((zI s i).1 = true → KQ (zI s i).2 (fun k => g.2.1 2 (2850 * i + k)))) ∧ (∀ i, i < 4 → MT (zT s i) i g) ∧ g.1 6 = nI (zL s) ∧ (∀ k, k < zL s → g.2.1 5 k = nI (zB s k)) ∧ g.1 14 = zK s ∧ g.1 15 = zP s
theorem MI.res {s : AS} {g g' : MS} {q' : AQ} {th : Nat} (h : MI s g) (r : MRes q' th g g') : MI (stQ s q') g' ∧ g'.1 4 = nI th := by
  obtain ⟨h1, h2, h3, h4, h5, h6, h7⟩ := h
  obtain ⟨r1, r2, r3⟩ := r
  refine ⟨⟨r1, fun i hi => ?_, fun i hi => (h3 i hi).keep r3, by rw [r3.1.1]; exact h4, fun k hk => by rw [r3.2.1.2.2.1]; exact h5 k hk, by rw [r3.1.2.1]; exact h6, by rw [r3.1.2.2]; exact h7⟩, r2⟩
  rw [r3.2.1.2.1, r3.2.1.1]
  exact h2 i hi
theorem stQ_id (s : AS) : stQ s (zQ s) = s := rfl
theorem KQ.cong {q : AQ} {k k' : Nat → Int32} (hq : wfQ q) (h : KQ q k) (he : ∀ i, i < 2850 → k' i = k i) : KQ q k' := by
  obtain ⟨hw, hL, hD, hP⟩ := hq
  obtain ⟨hB, h0, h5, hp⟩ := h
  have hn := hw.2.1
  have l1 := hw.2.2.2.2.2.1.1
  have l2 := hw.2.2.2.2.2.2.1.1
  have l3 := hw.2.2.2.2.2.2.2.1
  obtain ⟨b1, b2, b3, b4, b5, b6, b7, b8, b9, b10⟩ := hB
  refine ⟨⟨?_, ?_, fun m hm => ?_, fun m hm => ?_, ?_, ?_, ?_, fun i hi => ?_, fun i hi => ?_, fun i hi => ?_⟩, ?_, ?_, fun j hj => ⟨fun m hm => ?_, fun m hm => ?_, ?_⟩⟩
  · rw [he 1 (by omega)]; exact b1
  · rw [he 18 (by omega)]; exact b2
  · rw [he (6 + m) (by omega)]; exact b3 m hm
  · rw [he (12 + m) (by omega)]; exact b4 m hm
  · rw [he 2 (by omega)]; exact b5
  · rw [he 3 (by omega)]; exact b6
  · rw [he 4 (by omega)]; exact b7
  · rw [he (149 + i) (by omega)]; exact b8 i hi
  · rw [he (1049 + i) (by omega)]; exact b9 i hi
  · rw [he (1949 + i) (by omega)]; exact b10 i hi
  · rw [he 0 (by omega)]; exact h0
  · rw [he 5 (by omega)]; exact h5
  · show k' (19 + 13 * j + m) = _
    rw [he _ (by omega)]; exact (hp j hj).1 m hm
  · show k' (19 + 13 * j + (6 + m)) = _
    rw [he _ (by omega)]; exact (hp j hj).2.1 m hm
  · show k' (19 + 13 * j + 12) = _
    rw [he _ (by omega)]; exact (hp j hj).2.2
/-! ===== the class's side of it ===== -/
def CX (s : AS) (P : PL) (g : CS) : Prop := (g.1 0 4 = nI (bs (fun i => (zI s i).1) 3) ∧ ∀ i, i < 3 → (zI s i).1 = true → SQ (zI s i).2 P g (32 + i)) ∧ (∀ i, i < 4 → CT (zT s i) i g) ∧ (g.1 0 1 = nI (zL s) ∧ (∀ k, k < zL s → g.2.1 1 k = (nI (zB s k)).toInt8.toInt32) ∧ g.1 0 2 = zK s ∧ g.1 0 3 = zP s) ∧ wfL P g = true ∧ inP P (g.2.2.2 4 12) []
def CI (s : AS) (P : PL) (T : Nat) (g : CS) : Prop := SQ (zQ s) P g 30 ∧ g.1 30 7 = nI T ∧ SV (qB (zQ s)) T g ∧ CO (qB (zQ s)) T g ∧ CX s P g
theorem SQ.keep {q : AQ} {P : PL} {g g' : CS} {o : Nat} {oi : List (Nat × Nat)} {la ll : List Nat} (h : SQ q P g o) (f : fC oi la ll g g') (h1 : ∀ k, k ≤ 6 → (o, k) ∉ oi) (h2 : o + 10 ∉ ll) : SQ q P g' o := by
  obtain ⟨hB, hL, hD, hp⟩ := h
  refine ⟨hB.keep f (fun k hk => h1 k (by omega)), ?_, ?_, fun j hj => ?_⟩
  · rw [f.i o 2 (h1 2 (by omega))]; exact hL
  · rw [f.i o 6 (h1 6 (by omega))]; exact hD
  · rw [f.2.2.1 _ h2]; exact hp j hj
theorem SQ.same {q : AQ} {P : PL} {g g' : CS} {o : Nat} (h : SQ q P g o) (h1 : ∀ k, g'.1 o k = g.1 o k) (h2 : g'.2.2.1 (o + 10) = g.2.2.1 (o + 10)) (h3 : g'.2.2.2 o = g.2.2.2 o) : SQ q P g' o := by
  obtain ⟨⟨a1, a2, a3, a4, a5, a6, a7⟩, hL, hD, hp⟩ := h
  exact ⟨⟨by rw [h1]; exact a1, by rw [h1]; exact a2, by rw [h1]; exact a3, by rw [h1]; exact a4, by rw [h3]; exact a5, by rw [h3]; exact a6, by rw [h3]; exact a7⟩, by rw [h1]; exact hL, by rw [h1]; exact hD, fun j hj => by rw [h2]; exact hp j hj⟩
/-- what a call on the board alone leaves -/
def kpC (g g' : CS) : Prop := (∀ o, o = 0 ∨ o = 32 ∨ o = 33 ∨ o = 34 ∨ o = 50 ∨ o = 51 ∨ o = 52 ∨ o = 53 → ∀ k, g'.1 o k = g.1 o k) ∧ g'.2.1 1 = g.2.1 1 ∧ (∀ a, a = 42 ∨ a = 43 ∨ a = 44 ∨ a = 60 ∨ a = 61 ∨ a = 62 ∨ a = 63 → g'.2.2.1 a = g.2.2.1 a) ∧ (∀ o, o ≠ 30 → o ≠ 31 → g'.2.2.2 o = g.2.2.2 o)
theorem CT.same {t : AT} {i : Nat} {g g' : CS} (h : CT t i g) (h1 : ∀ k, g'.1 (50 + i) k = g.1 (50 + i) k) (h2 : g'.2.2.1 (60 + i) = g.2.2.1 (60 + i)) : CT t i g' := by
  unfold CT
  rw [h1, h1, h2]
  exact h
theorem CX.kp {s : AS} {P : PL} {g g' : CS} (h : CX s P g) (k : kpC g g') (hl : wfL P g' = true) : CX s P g' := by
  obtain ⟨⟨a1, a2⟩, a3, ⟨a4, a5, a6, a7⟩, a8, a9⟩ := h
  obtain ⟨k1, k2, k3, k4⟩ := k
  refine ⟨⟨by rw [k1 0 (by omega)]; exact a1, fun i hi ht => (a2 i hi ht).same (k1 _ (by omega)) (k3 _ (by omega)) (k4 _ (by omega) (by omega))⟩, fun i hi => (a3 i hi).same (k1 _ (by omega)) (k3 _ (by omega)), ⟨by rw [k1 0 (by omega)]; exact a4, fun k hk => by rw [k2]; exact a5 k hk, by rw [k1 0 (by omega)]; exact a6, by rw [k1 0 (by omega)]; exact a7⟩, hl, by rw [k4 4 (by omega) (by omega)]; exact a9⟩
abbrev kpO : List Nat := [0, 32, 33, 34, 50, 51, 52, 53]
theorem kpC.of {g g' : CS} {oi : List (Nat × Nat)} {la ll : List Nat} (f : fC oi la ll g g') (h1 : ∀ p ∈ oi, p.1 ∉ kpO) (h2 : 1 ∉ la) (h3 : ∀ a ∈ [42, 43, 44, 60, 61, 62, 63], a ∉ ll) : kpC g g' := by
  refine ⟨fun o ho k => f.i o k (fun hm => h1 _ hm ?_), f.2.1 1 h2, fun a ha => f.2.2.1 a (h3 a ?_), fun o _ _ => by rw [f.2.2.2]⟩
  · show o ∈ kpO
    rcases ho with q | q | q | q | q | q | q | q <;> subst q <;> decide
  · rcases ha with q | q | q | q | q | q | q <;> subst q <;> decide
theorem wfL.of {P : PL} {g g' : CS} (h : wfL P g = true) (e : g'.2.2.2 = g.2.2.2) : wfL P g' = true := by
  unfold wfL at h ⊢
  rw [e]
  exact h
section
variable {s : AS} {P : PL} {T : Nat} {g g' : CS}
theorem CI.res0 (h : CI s P T g) (f : fC [(10, 1)] [11] [] g g') : CI s P T g' := by
  obtain ⟨h1, h2, h3, h4, h5⟩ := h
  exact ⟨h1.keep f (by intro k _ z; simp at z) (by decide), by rw [f.i 30 7 (by decide)]; exact h2, h3.keep f (by decide) (by decide), h4.keep f (by decide) (by decide), h5.kp (kpC.of f (by decide) (by decide) (by decide)) (wfL.of h5.2.2.2.1 f.2.2.2)⟩
theorem CI.res1 (h : CI s P T g) (r : CRes (qB (zQ s)) T g g') : CI s P T g' := by
  obtain ⟨h1, h2, h3, h4, h5⟩ := h
  obtain ⟨r, f⟩ := r
  exact ⟨h1.keep f (by intro k _ z; simp at z) (by decide), by rw [f.i 30 7 (by decide)]; exact h2, r, h4.keep f (by decide) (by decide), h5.kp (kpC.of f (by decide) (by decide) (by decide)) (wfL.of h5.2.2.2.1 f.2.2.2)⟩
theorem CI.res2 (h : CI s P T g) (r : CRs (qB (zQ s)) T g g') : CI s P T g' := by
  obtain ⟨h1, h2, h3, h4, h5⟩ := h
  obtain ⟨r, f⟩ := r
  exact ⟨h1.keep f (by intro k _ z; simp at z) (by decide), by rw [f.i 30 7 (by decide)]; exact h2, r, h4.keep f (by decide) (by decide), h5.kp (kpC.of f (by decide) (by decide) (by decide)) (wfL.of h5.2.2.2.1 f.2.2.2)⟩
theorem CI.res3 (h : CI s P T g) (r : CRc (qB (zQ s)) T g g') : CI s P T g' := by
  obtain ⟨h1, h2, h3, h4, h5⟩ := h
  obtain ⟨r, f⟩ := r
  exact ⟨h1.keep f (by intro k _ z; simp at z) (by decide), by rw [f.i 30 7 (by decide)]; exact h2, h3.keep f (by decide) (by decide), r, h5.kp (kpC.of f (by decide) (by decide) (by decide)) (wfL.of h5.2.2.2.1 f.2.2.2)⟩
theorem SV.old {b b' : AB} {k : Nat} (h : SV b T g) (f1 : g'.1 12 1 = g.1 12 1) (f2 : g'.1 17 4 = g.1 17 4) (f3 : g'.1 17 2 = g.1 17 2) (f4 : g'.1 17 3 = g.1 17 3) (hk : 1 ≤ k) (hT : T + k < 2 ^ 31) : SV b' (T + k) g' := by
  obtain ⟨m1, m2, m3, m4⟩ := h
  refine ⟨?_, ?_, ?_, ?_⟩
  · rw [f1]; exact m1.old hk hT
  · rw [f2]; exact m2.old hk hT
  · rw [f3]; exact m3.old hk hT
  · rw [f4]; exact m4.old hk hT
theorem CO.old {b b' : AB} {k : Nat} (h : CO b T g) (f1 : g'.1 27 1 = g.1 27 1) (hk : 1 ≤ k) (hT : T + k < 2 ^ 31) : CO b' (T + k) g' := by
  unfold CO
  rw [f1]
  exact memo.old h hk hT
theorem CX.stQ {q : AQ} (h : CX s P g) : CX (stQ s q) P g := h
theorem CI.resL {q' : AQ} {k : Nat} (h : CI s P T g) (r : LV q' k P g g') (h0 : k = 0 → q' = zQ s) (hT : T + k < 2 ^ 31) : CI (stQ s q') P (T + k) g' := by
  by_cases hk : k = 0
  · subst hk
    rw [h0 rfl]
    exact h.res0 (r.2.2.1 rfl)
  · obtain ⟨h1, h2, h3, h4, h5⟩ := h
    obtain ⟨r1, r2, -, f⟩ := r
    have f' : fC [(30, 3), (30, 4), (30, 5), (30, 6), (30, 7), (10, 1)] [11] [40] g g' := f
    exact ⟨r1, by rw [r2, h2, nI_add], h3.old (f'.i 12 1 (by decide)) (f'.i 17 4 (by decide)) (f'.i 17 2 (by decide)) (f'.i 17 3 (by decide)) (by omega) hT, h4.old (f'.i 27 1 (by decide)) (by omega) hT, CX.stQ (h5.kp (kpC.of f' (by decide) (by decide) (by decide)) (wfL.of h5.2.2.2.1 f'.2.2.2))⟩
/-- judged upon the trial state -/
theorem CI.resJ (h : CI s P T g) (r : fJ g g') (r2 : ∀ k, k = 8 ∨ k = 9 ∨ k = 10 → g'.2.2.2 31 k = g.2.2.2 30 k) : CI s P T g' := by
  obtain ⟨h1, h2, h3, h4, h5⟩ := h
  obtain ⟨f1, f2, f3, f4⟩ := r
  have i1 : ∀ o k, o ≠ 31 → o ≠ 10 → g'.1 o k = g.1 o k := fun o k ho ho2 => f1 o k (fun hm => by simp at hm; omega)
  have kp : kpC g g' := ⟨fun o ho k => i1 o k (by omega) (by omega), f2 1 (by decide), fun a ha => f3 a (by simp; omega), fun o _ h => f4 o h⟩
  have hl : wfL P g' = true := by
    have h0 := of_decide_eq_true h5.2.2.2.1
    unfold wfL
    rw [f4 4 (by omega), f4 30 (by omega), f4 32 (by omega), f4 33 (by omega), f4 34 (by omega), r2 8 (by omega), r2 9 (by omega), r2 10 (by omega)]
    refine decide_eq_true ?_
    obtain ⟨a, b, c, d⟩ := h0
    exact ⟨a, b, b, d⟩
  have fS : ∀ p, p ∈ svK → g'.1 p.1 p.2 = g.1 p.1 p.2 := fun p hp => i1 _ _ (by intro e; simp at hp; rcases hp with q | q | q | q | q | q | q | q | q | q | q | q <;> rw [q] at e <;> exact absurd e (by decide)) (by intro e; simp at hp; rcases hp with q | q | q | q | q | q | q | q | q | q | q | q <;> rw [q] at e <;> exact absurd e (by decide))
  refine ⟨h1.same (fun k => i1 30 k (by omega) (by omega)) (f3 40 (by decide)) (f4 30 (by omega)), by rw [i1 30 7 (by omega) (by omega)]; exact h2, ?_, ?_, h5.kp kp hl⟩
  · obtain ⟨m1, m2, m3, m4⟩ := h3
    refine ⟨?_, ?_, ?_, ?_⟩
    · rw [i1 12 1 (by omega) (by omega)]; exact m1.imp (fun h m hm => by rw [f2 13 (by decide), f2 14 (by decide)]; exact h m hm)
    · rw [i1 17 4 (by omega) (by omega)]
      refine m2.imp (fun h => ?_)
      unfold TLm TLa
      rw [i1 17 5 (by omega) (by omega), i1 17 6 (by omega) (by omega), i1 17 7 (by omega) (by omega), i1 17 8 (by omega) (by omega), i1 17 9 (by omega) (by omega)]
      exact h
    · rw [i1 17 2 (by omega) (by omega)]
      refine m3.imp (fun h m hm => ?_)
      rw [f2 18 (by decide), f2 19 (by decide), f2 20 (by decide), f2 21 (by decide)]
      exact h m hm
    · rw [i1 17 3 (by omega) (by omega)]
      refine m4.imp (fun h => ?_)
      unfold PAa
      rw [i1 17 10 (by omega) (by omega), i1 17 11 (by omega) (by omega), i1 17 12 (by omega) (by omega)]
      exact h
  · unfold CO
    rw [i1 27 1 (by omega) (by omega)]
    refine memo.imp h4 (fun h => ⟨fun t r hR hB => ?_, fun m x y hm hx hy => ?_⟩)
    · rw [i1 27 3 (by omega) (by omega), i1 27 4 (by omega) (by omega)]; exact h.1 t r hR hB
    · rw [f2 28 (by decide)]; exact h.2 m x y hm hx hy
end
