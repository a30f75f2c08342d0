/-! ===== what the reference asks of all rows ===== -/
def tcR (n : Nat) (v : Nat → Nat) : Nat → Nat := fun j => if j < n then v j else 0
theorem tcR_cong {n : Nat} {v w : Nat → Nat} (h : ∀ j, j < n → v j = w j) : tcR n v = tcR n w := by
  funext j
  unfold tcR
  by_cases e : j < n
  · rw [if_pos e, if_pos e, h j e]
  · rw [if_neg e, if_neg e]
theorem tcR_in {n : Nat} {v : Nat → Nat} : ∀ j, j < n → tcR n v j = v j := fun j hj => if_pos hj
abbrev rI : List Nat := [32, 33, 34, 35, 36, 37, 38]
abbrev rL : List Nat := [19, 20, 21, 22, 26, 27, 28, 29, 30, 31]
def BS (b : AB) (fd : Bool) (w : Nat → Nat) (g : MS) : Prop := (fd = false → g.1 36 = (536870912 : Int32)) ∧ (fd = true → BR b w g ∧ csA b w ≤ 2970)
theorem BR.cong {b : AB} {v w : Nat → Nat} {g : MS} (h : ∀ j, j < bN b → v j = w j) (hb : BR b v g) : BR b w g := ⟨by rw [← csA_cong h]; exact hb.1, fun j hj => by
  rw [hb.2 j hj]
  by_cases e : j < bN b
  · rw [if_pos e, if_pos e, h j e]
  · rw [if_neg e, if_neg e]⟩
theorem BS.keep {b : AB} {fd : Bool} {w : Nat → Nat} {g g' : MS} {li la : List Nat} (h : BS b fd w g) (f : fM li la g g') (h1 : 36 ∉ li) (h2 : 29 ∉ la) : BS b fd w g' := by
  unfold BS BR
  rw [f.1 36 h1, f.row 29 h2]
  exact h
/-- the first of the cheapest so far -/
def upB (b : AB) (v : Nat → Nat) (fd : Bool) (w : Nat → Nat) : Nat → Nat := if fd = false ∨ csA b v < csA b w then tcR (bN b) v else w
section
variable {b : AB} {g : MS} {v w : Nat → Nat} {fd : Bool}
theorem best_eq (hw : wfB b) (hv : ∀ j, j < bN b → v j < bN b) (hR : RI b g) (hN : NR (bN b) v g) (hB : BS b fd w g) : Ev (bndc (fX12_costOf g) (fun x2 g3 => if (g3.1 36) ≤ x2 then (some g3) else (bndv (fX12_keepsRow g3) (fun g4 => some g4)))) (fun g' => BS b true (upB b v fd w) g' ∧ fM [36] [29] g g') := by
  have hc := csA_le hw hv
  rw [costOf_eq hw hR hN, bndc_s]
  unfold upB
  have upd1 : Ev (bndv (fX12_keepsRow g) (fun g4 => some g4)) (fun g' => BS b true (tcR (bN b) v) g' ∧ fM [36] [29] g g') := by
    refine Ev.v (keepsRow_eq hw hR hN) ?_
    rintro g1 ⟨h1, h2⟩
    exact ev_some.mpr ⟨⟨fun e => absurd e (by decide), fun _ => ⟨h1.cong (fun j hj => (tcR_in j hj).symm), by rw [csA_cong (w := v) tcR_in]; exact hc⟩⟩, h2⟩
  cases fd with
  | false =>
    rw [hB.1 rfl, if_neg (show ¬ (536870912 : Int32) ≤ nI (csA b v) from nI_ge (b := 536870912) (by omega) (by omega)), if_pos (Or.inl rfl)]
    exact upd1
  | true =>
    obtain ⟨h1, h2⟩ := hB.2 rfl
    rw [h1.1, iLE (by omega) (by omega)]
    by_cases e : csA b w ≤ csA b v
    · rw [if_pos e, if_neg (by simp; omega)]
      exact ev_some.mpr ⟨⟨fun e => absurd e (by decide), fun _ => ⟨h1, h2⟩⟩, fM.refl g⟩
    · rw [if_neg e, if_pos (Or.inr (by omega))]
      exact upd1
theorem seesOne_eq (hw : wfB b) (hv : ∀ j, j < bN b → v j < bN b) (hR : RI b g) (hN : NR (bN b) v g) {c : Nat} (hc : g.1 35 = nI c) (hB : BS b fd w g) : Ev (fX12_seesOne g) (fun g' => g'.1 35 = nI (c + 1) ∧ BS b true (upB b v fd w) g' ∧ fM [35, 36] [29] g g') := by
  unfold fX12_seesOne
  rw [bnd_e, hc, nI_1]
  have f1 : fM [35] [] g (sI g 35 (nI (c + 1))) := (fM.refl g).sI (by decide)
  refine (best_eq hw hv (hR.keep f1 (by decide)) (hN.keep f1 (by decide)) (hB.keep f1 (by decide) (by decide))).mono ?_
  rintro z ⟨z1, z2⟩
  exact ⟨by rw [z2.1 35 (by decide)]; rfl, z1, (f1.mono (by decide) (by decide)).trans (z2.mono (by decide) (by decide))⟩
end
/-- (how many, found, the best) -/
abbrev A1 : Type := Nat × Bool × (Nat → Nat)
def st1 (b : AB) (p : (Nat → Nat) → Bool) (v : Nat → Nat) (a : A1) : A1 := if p v then (a.1 + 1, true, upB b v a.2.1 a.2.2) else a
def R1 (b : AB) (wh : Nat) (g0 : MS) (a : A1) (g : MS) : Prop := RI b g ∧ g.1 32 = nI wh ∧ g.1 33 = g0.1 33 ∧ g.1 34 = g0.1 34 ∧ g.1 35 = nI a.1 ∧ BS b a.2.1 a.2.2 g ∧ fM rI rL g0 g
theorem upB_cong {b : AB} {v w x : Nat → Nat} {fd : Bool} (h : ∀ j, j < bN b → v j = w j) : upB b v fd x = upB b w fd x := by
  unfold upB
  rw [csA_cong h, tcR_cong h]
theorem st1_cong {b : AB} {p : (Nat → Nat) → Bool} (hp : ∀ v w, (∀ j, j < bN b → v j = w j) → p v = p w) (v w : Nat → Nat) (a : A1) (h : ∀ j, j < bN b → v j = w j) : st1 b p v a = st1 b p w a := by
  unfold st1
  rw [hp v w h, upB_cong h]
theorem R1.row {b : AB} {wh : Nat} {g0 : MS} {a : A1} {g : MS} {i : Nat} {x : Int32} (h : R1 b wh g0 a g) : R1 b wh g0 a (sA g 26 i x) := by
  have f1 : fM [] [26] g (sA g 26 i x) := (fM.refl g).sA (by decide)
  obtain ⟨h1, h2, h3, h4, h5, h6, h7⟩ := h
  exact ⟨h1.keep f1 (by decide), h2, h3, h4, h5, h6.keep f1 (by decide) (by decide), h7.sA (by decide)⟩
theorem R1.next {b : AB} {wh : Nat} {g0 : MS} {a : A1} {g g1 : MS} (h : R1 b wh g0 a g) (f : fM [] [21, 22] g g1) : R1 b wh g0 a g1 := by
  obtain ⟨h1, h2, h3, h4, h5, h6, h7⟩ := h
  exact ⟨h1.keep f (by decide), by rw [f.1 32 (by decide)]; exact h2, by rw [f.1 33 (by decide)]; exact h3, by rw [f.1 34 (by decide)]; exact h4, by rw [f.1 35 (by decide)]; exact h5, h6.keep f (by decide) (by decide), h7.trans (f.mono (by decide) (by decide))⟩
theorem R1.one {b : AB} {wh : Nat} {g0 : MS} {a : A1} {g : MS} {v : Nat → Nat} (hw : wfB b) (hv : ∀ j, j < bN b → v j < bN b) (h : R1 b wh g0 a g) (hN : NR (bN b) v g) : Ev (fX12_seesOne g) (fun g' => R1 b wh g0 (a.1 + 1, true, upB b v a.2.1 a.2.2) g' ∧ g'.2.1 26 = g.2.1 26) := by
  obtain ⟨h1, h2, h3, h4, h5, h6, h7⟩ := h
  refine (seesOne_eq hw hv h1 hN h5 h6).mono ?_
  rintro z ⟨z1, z2, z3⟩
  exact ⟨⟨h1.keep z3 (by decide), by rw [z3.1 32 (by decide)]; exact h2, by rw [z3.1 33 (by decide)]; exact h3, by rw [z3.1 34 (by decide)]; exact h4, z1, z2, h7.trans (z3.mono (by decide) (by decide))⟩, z3.row 26 (by decide)⟩
section
variable {b : AB} {g0 g : MS} {v : Nat → Nat} {a : A1}
theorem v1000 (hw : wfB b) (hv : ∀ j, j < bN b → v j < bN b) : ∀ j, j < bN b → v j ≤ 1000 := fun j hj => by have := hv j hj; have := hw.2.1; omega
theorem leafLook {t : AT} {i : Nat} (hi : i < 4) (ht : t.1 = true) (hw : wfB b) (hT : MT t i g0) (h33 : g0.1 33 = nI i) (hv : ∀ j, j < bN b → v j < bN b) (hR : R1 b 0 g0 a g) (hN : NR (bN b) v g) : Ev (fX12_sees g) (fun g' => R1 b 0 g0 (st1 b (fun v => soB (bN b) t.2.2.2 (bhA b v)) v a) g' ∧ g'.2.1 26 = g.2.1 26) := by
  unfold fX12_sees st1
  show Ev _ (fun g' => R1 b 0 g0 (if soB (bN b) t.2.2.2 (bhA b v) = true then (a.1 + 1, true, upB b v a.2.1 a.2.2) else a) g' ∧ g'.2.1 26 = g.2.1 26)
  refine Ev.v (behind_eq hw (v1000 hw hv) hR.1 hN) ?_
  rintro g1 ⟨h1, f1⟩
  have hR1 := hR.next (f1.mono (by decide) (by decide))
  rw [bnd_e, hR1.2.1, if_pos (show nI 0 = (0 : Int32) from rfl), hR1.2.2.1, h33, looksSo_eq hi ht hw hR1.1.1 (hT.keep (kpM.of hR1.2.2.2.2.2.2 (by decide) (by decide))) (bhA_lk hw v) h1, bndc_s]
  cases soB (bN b) t.2.2.2 (bhA b v) with
  | false =>
    rw [if_pos (show nI false.toNat = 0 from rfl), if_neg (by decide)]
    exact ev_some.mpr ⟨hR1, f1.row 26 (by decide)⟩
  | true =>
    rw [if_neg (show ¬ nI true.toNat = 0 by decide), if_pos rfl]
    refine Ev.v (hR1.one hw hv (hN.keep f1 (by decide))) ?_
    rintro g2 ⟨r1, r2⟩
    exact ev_some.mpr ⟨r1, r2.trans (f1.row 26 (by decide))⟩
theorem leafChair {m : Nat} (hm : m < 6) (hw : wfB b) (h34 : g0.1 34 = nI m) (hv : ∀ j, j < bN b → v j < bN b) (hR : R1 b 1 g0 a g) (hN : NR (bN b) v g) : Ev (fX12_sees g) (fun g' => R1 b 1 g0 (st1 b (fun v => decide (chA b (bhA b v) = m + 1)) v a) g' ∧ g'.2.1 26 = g.2.1 26) := by
  unfold fX12_sees st1
  show Ev _ (fun g' => R1 b 1 g0 (if decide (chA b (bhA b v) = m + 1) = true then (a.1 + 1, true, upB b v a.2.1 a.2.2) else a) g' ∧ g'.2.1 26 = g.2.1 26)
  refine Ev.v (behind_eq hw (v1000 hw hv) hR.1 hN) ?_
  rintro g1 ⟨h1, f1⟩
  have hR1 := hR.next (f1.mono (by decide) (by decide))
  rw [bnd_e, hR1.2.1, if_neg (show ¬ nI 1 = (0 : Int32) by decide), if_pos (show nI 1 = (1 : Int32) from rfl)]
  refine Ev.c (chairBy_eq hw hR1.1.1 (bhA_lk hw v) h1) ?_
  rintro r g2 ⟨q1, -, q3⟩
  dsimp only at q1
  have hR2 := hR1.next (q3.mono (by decide) (by decide))
  have e26 : g2.2.1 26 = g.2.1 26 := (q3.row 26 (by decide)).trans (f1.row 26 (by decide))
  have hc := chA_le hw (bhA b v)
  rw [q1, hR2.2.2.2.1, h34]
  by_cases e : chA b (bhA b v) = m + 1
  · rw [if_pos ((pm_eq (by omega) (by omega)).mpr e), decide_eq_true e, if_pos rfl]
    refine Ev.v (hR2.one hw hv (by unfold NR; rw [e26]; exact hN)) ?_
    rintro g3 ⟨r1, r2⟩
    exact ev_some.mpr ⟨r1, r2.trans e26⟩
  · rw [if_neg (fun z => e ((pm_eq (by omega) (by omega)).mp z)), decide_eq_false e, if_neg (by decide)]
    exact ev_some.mpr ⟨hR2, e26⟩
theorem leafIdle (hw : wfB b) (hv : ∀ j, j < bN b → v j < bN b) (hR : R1 b 4 g0 a g) (hN : NR (bN b) v g) : Ev (fX12_sees g) (fun g' => R1 b 4 g0 (if asB b (bhA b v) then (a.1 + 1, a.2) else a) g' ∧ g'.2.1 26 = g.2.1 26) := by
  unfold fX12_sees
  refine Ev.v (behind_eq hw (v1000 hw hv) hR.1 hN) ?_
  rintro g1 ⟨h1, f1⟩
  have hR1 := hR.next (f1.mono (by decide) (by decide))
  rw [bnd_e, hR1.2.1, if_neg (show ¬ nI 4 = (0 : Int32) by decide), if_neg (show ¬ nI 4 = (1 : Int32) by decide), if_neg (show ¬ nI 4 = (2 : Int32) by decide), if_neg (show ¬ nI 4 = (3 : Int32) by decide), if_pos (show nI 4 = (4 : Int32) from rfl), isAsNow_eq hw hR1.1.1 (bhA_lk hw v) h1, bndc_s]
  obtain ⟨r1, r2, r3, r4, r5, r6, r7⟩ := hR1
  have fin : ∀ c, Ev (some (sI g1 35 (nI c))) (fun g' => R1 b 4 g0 (c, a.2) g' ∧ g'.2.1 26 = g.2.1 26) := fun c => by
    have f2 : fM [35] [] g1 (sI g1 35 (nI c)) := (fM.refl g1).sI (by decide)
    exact ev_some.mpr ⟨⟨r1.keep f2 (by decide), r2, r3, r4, rfl, r6.keep f2 (by decide) (by decide), r7.sI (by decide)⟩, f1.row 26 (by decide)⟩
  unfold fX12_sees_111
  cases asB b (bhA b v) with
  | false =>
    rw [if_pos (show nI false.toNat = 0 from rfl), if_neg (by decide), bnd_e, r5, l_0, nI_add]
    exact fin a.1
  | true =>
    rw [if_neg (show ¬ nI true.toNat = 0 by decide), if_pos rfl, bnd_e, r5, l_1, nI_add]
    exact fin (a.1 + 1)
end
/-- asked: the start -/
theorem asks1 {b : AB} {g : MS} {wh : Nat} {Q : MS → Prop} (hw : wfB b) (hK : KB b (g.2.1 0)) (kk : ∀ g' : MS, R1 b wh g (0, false, fun _ => 0) g' → g'.1 37 = -1 → g'.1 38 = -1 → g'.2.1 30 = g.2.1 30 → g'.2.1 31 = g.2.1 31 → Ev (fX12_goesRows g' (0 : Int32)) Q) : Ev (fX12_asksRows g (nI wh)) Q := by
  unfold fX12_asksRows
  simp only [bnd_e]
  have f1 : fM rI rL g (sI (sI (sI (sI (sI g 32 (nI wh)) 35 (0 : Int32)) 36 (536870912 : Int32)) 37 (-1 : Int32)) 38 (-1 : Int32)) := ((((((fM.refl g).sI (by decide)).sI (by decide)).sI (by decide)).sI (by decide)).sI (by decide))
  refine Ev.v (along_eq hw hK) ?_
  rintro g1 ⟨h1, f2⟩
  refine Ev.v (kk g1 ⟨h1, ?_, ?_, ?_, ?_, ⟨fun _ => ?_, fun e => absurd e (by decide)⟩, f1.trans (f2.mono (by decide) (by decide))⟩ ?_ ?_ ?_ ?_) (fun g2 h => ev_some.mpr h)
  · rw [f2.1 32 (by decide)]; rfl
  · rw [f2.1 33 (by decide)]; rfl
  · rw [f2.1 34 (by decide)]; rfl
  · rw [f2.1 35 (by decide)]; rfl
  · rw [f2.1 36 (by decide)]; rfl
  · rw [f2.1 37 (by decide)]; rfl
  · rw [f2.1 38 (by decide)]; rfl
  · exact f2.row 30 (by decide)
  · exact f2.row 31 (by decide)
/-- what all rows give -/
def all1 (b : AB) (p : (Nat → Nat) → Bool) : A1 := lpf (fun i y => st1 b p (rwA b i) y) (nR b) (0, false, fun _ => 0)
theorem soB_cong {b : AB} {f : Nat → Int64} (v w : Nat → Nat) (h : ∀ j, j < bN b → v j = w j) : soB (bN b) f (bhA b v) = soB (bN b) f (bhA b w) := by rw [bhA_cong h]
theorem askLook {b : AB} {g : MS} {t : AT} {i : Nat} (hi : i < 4) (ht : t.1 = true) (hw : wfB b) (hK : KB b (g.2.1 0)) (hT : MT t i g) (h33 : g.1 33 = nI i) : Ev (fX12_asksRows g (0 : Int32)) (fun g' => R1 b 0 g (all1 b (fun v => soB (bN b) t.2.2.2 (bhA b v))) g') :=
  asks1 (wh := 0) hw hK (fun g1 hR _ _ _ _ => rows_eq hw (st1_cong (fun v w h => soB_cong v w h)) (fun _ _ h => h.1.1) (fun _ _ _ _ h => h.row) (fun v a g' hv hR hN => leafLook hi ht hw hT h33 hv hR hN) hR)
theorem askChair {b : AB} {g : MS} {m : Nat} (hm : m < 6) (hw : wfB b) (hK : KB b (g.2.1 0)) (h34 : g.1 34 = nI m) : Ev (fX12_asksRows g (1 : Int32)) (fun g' => R1 b 1 g (all1 b (fun v => decide (chA b (bhA b v) = m + 1))) g') :=
  asks1 (wh := 1) hw hK (fun g1 hR _ _ _ _ => rows_eq hw (st1_cong (fun v w h => by rw [bhA_cong h])) (fun _ _ h => h.1.1) (fun _ _ _ _ h => h.row) (fun v a g' hv hR hN => leafChair hm hw h34 hv hR hN) hR)
def allI (b : AB) : A1 := lpf (fun i (y : A1) => if asB b (bhA b (rwA b i)) then (y.1 + 1, y.2) else y) (nR b) (0, false, fun _ => 0)
theorem askIdle {b : AB} {g : MS} (hw : wfB b) (hK : KB b (g.2.1 0)) : Ev (fX12_asksRows g (4 : Int32)) (fun g' => R1 b 4 g (allI b) g') :=
  asks1 (wh := 4) hw hK (fun g1 hR _ _ _ _ => rows_eq (step := fun v (y : A1) => if asB b (bhA b v) then (y.1 + 1, y.2) else y) hw (fun v w a h => by rw [bhA_cong h]) (fun _ _ h => h.1.1) (fun _ _ _ _ h => h.row) (fun v a g' hv hR hN => leafIdle hw hv hR hN) hR)
/-! knees -/
abbrev A2 : Type := Bool × (Nat → Nat)
def st2 (b : AB) (v : Nat → Nat) (a : A2) : A2 := if a.1 = false ∨ knA (bN b) (bhA b a.2) < knA (bN b) (bhA b v) ∨ (knA (bN b) (bhA b v) = knA (bN b) (bhA b a.2) ∧ csA b v < csA b a.2) then (true, tcR (bN b) v) else a
theorem st2_cong {b : AB} (v w : Nat → Nat) (a : A2) (h : ∀ j, j < bN b → v j = w j) : st2 b v a = st2 b w a := by
  unfold st2
  rw [bhA_cong h, csA_cong h, tcR_cong h]
def R2 (b : AB) (g0 : MS) (a : A2) (g : MS) : Prop := RI b g ∧ g.1 32 = nI 2 ∧ (a.1 = false → g.1 37 = -1) ∧ (a.1 = true → g.1 37 = nI (knA (bN b) (bhA b a.2)) ∧ BR b a.2 g ∧ csA b a.2 ≤ 2970) ∧ fM rI rL g0 g
theorem R2.row {b : AB} {g0 : MS} {a : A2} {g : MS} {i : Nat} {x : Int32} (h : R2 b g0 a g) : R2 b g0 a (sA g 26 i x) := by
  have f1 : fM [] [26] g (sA g 26 i x) := (fM.refl g).sA (by decide)
  obtain ⟨h1, h2, h3, h4, h7⟩ := h
  exact ⟨h1.keep f1 (by decide), h2, h3, h4, h7.sA (by decide)⟩
theorem knA_le {n : Nat} {a : Nat → Nat} (hn : 2 ≤ n) (h6 : n ≤ 6) (ha : lk n a) : knA n a ≤ 6 := by
  rw [knA_C hn h6 ha]
  exact Nat.le_trans (sm_le1 (fun k => knC_le n a k) n) h6
section
variable {b : AB} {g0 g : MS} {v : Nat → Nat} {a : A2}
theorem leafKnees (hw : wfB b) (hv : ∀ j, j < bN b → v j < bN b) (hR : R2 b g0 a g) (hN : NR (bN b) v g) : Ev (fX12_sees g) (fun g' => R2 b g0 (st2 b v a) g' ∧ g'.2.1 26 = g.2.1 26) := by
  have hc := csA_le hw hv
  have hk := knA_le hw.1 hw.2.1 (bhA_lk hw v)
  unfold fX12_sees
  refine Ev.v (behind_eq hw (v1000 hw hv) hR.1 hN) ?_
  rintro g1 ⟨h1, f1⟩
  have r1 : RI b g1 := hR.1.keep f1 (by decide)
  have hN1 : NR (bN b) v g1 := hN.keep f1 (by decide)
  have e32 : g1.1 32 = nI 2 := by rw [f1.1 32 (by decide)]; exact hR.2.1
  have e37 : g1.1 37 = g.1 37 := f1.1 37 (by decide)
  have e36 : g1.1 36 = g.1 36 := f1.1 36 (by decide)
  have f0 : fM rI rL g0 g1 := hR.2.2.2.2.trans (f1.mono (by decide) (by decide))
  rw [bnd_e, e32, if_neg (show ¬ nI 2 = (0 : Int32) by decide), if_neg (show ¬ nI 2 = (1 : Int32) by decide), if_pos (show nI 2 = (2 : Int32) from rfl)]
  unfold fX12_seesKnees
  rw [kneesBy_eq hw r1.1 (bhA_lk hw v) h1, bndc_s, e37]
  have up1 : Ev (bndv (fX12_seesKnees_33 g1 (nI (knA (bN b) (bhA b v)))) (fun g10 => some g10)) (fun g' => R2 b g0 (true, tcR (bN b) v) g' ∧ g'.2.1 26 = g.2.1 26) := by
    unfold fX12_seesKnees_33
    rw [bnd_e]
    have f2 : fM [37] [] g1 (sI g1 37 (nI (knA (bN b) (bhA b v)))) := (fM.refl g1).sI (by decide)
    refine ev_bndv.mpr (Ev.v (keepsRow_eq hw (r1.keep f2 (by decide)) (hN1.keep f2 (by decide))) ?_)
    rintro g3 ⟨k1, k2⟩
    have f3 : fM rI rL g0 g3 := (f0.trans (f2.mono (by decide) (by decide))).trans (k2.mono (by decide) (by decide))
    refine ev_some.mpr (ev_some.mpr ⟨⟨(r1.keep f2 (by decide)).keep k2 (by decide), ?_, fun e => absurd e (by simp), fun _ => ⟨?_, k1.cong (fun j hj => (tcR_in j hj).symm), by rw [csA_cong (w := v) tcR_in]; exact hc⟩, f3⟩, ?_⟩)
    · rw [k2.1 32 (by decide)]; exact e32
    · rw [k2.1 37 (by decide), bhA_cong (w := v) tcR_in]; rfl
    · exact (k2.row 26 (by decide)).trans (f1.row 26 (by decide))
  have same : Ev (bndv (some g1) (fun g10 => some g10)) (fun g' => R2 b g0 a g' ∧ g'.2.1 26 = g.2.1 26) := by
    rw [bndv_s]
    refine ev_some.mpr ⟨⟨r1, e32, fun e => by rw [e37]; exact hR.2.2.1 e, fun e => ?_, f0⟩, f1.row 26 (by decide)⟩
    obtain ⟨x1, x2, x3⟩ := hR.2.2.2.1 e
    exact ⟨by rw [e37]; exact x1, ⟨by rw [e36]; exact x2.1, by rw [f1.row 29 (by decide)]; exact x2.2⟩, x3⟩
  unfold st2
  cases hfd : a.1 with
  | false =>
    rw [hR.2.2.1 hfd, if_pos (Or.inl rfl)]
    rw [if_neg (by rw [fa_lt, n_toInt (by omega)]; have e : (-1 : Int32).toInt = -1 := rfl; omega), if_neg (nI_nm1 (by omega))]
    exact up1
  | true =>
    obtain ⟨x1, x2, x3⟩ := hR.2.2.2.1 hfd
    have hk2 := knA_le hw.1 hw.2.1 (bhA_lk hw a.2)
    rw [x1, iLT (by omega) (by omega), iEQ (by omega) (by omega)]
    by_cases c1 : knA (bN b) (bhA b v) < knA (bN b) (bhA b a.2)
    · rw [if_pos c1, if_neg (by simp; omega)]
      exact same
    · rw [if_neg c1]
      by_cases c2 : knA (bN b) (bhA b v) = knA (bN b) (bhA b a.2)
      · rw [if_pos c2, costOf_eq hw r1 hN1, bndc_s, e36, x2.1, iLT (by omega) (by omega)]
        by_cases c3 : csA b v < csA b a.2
        · rw [if_pos c3, if_pos (Or.inr (Or.inr ⟨c2, c3⟩))]
          exact up1
        · rw [if_neg c3, if_neg (by simp; omega)]
          exact same
      · rw [if_neg c2, if_pos (Or.inr (Or.inl (by omega)))]
        exact up1
end
def all2 (b : AB) : A2 := lpf (fun i y => st2 b (rwA b i) y) (nR b) (false, fun _ => 0)
theorem askKnees {b : AB} {g : MS} (hw : wfB b) (hK : KB b (g.2.1 0)) : Ev (fX12_asksRows g (2 : Int32)) (fun g' => R2 b g (all2 b) g') :=
  asks1 (wh := 2) hw hK (fun g1 hR h37 _ _ _ => rows_eq (step := st2 b) hw st2_cong (fun _ _ h => h.1.1) (fun _ _ _ _ h => h.row) (fun v a g' hv hR hN => leafKnees hw hv hR hN) ⟨hR.1, hR.2.1, fun _ => h37, fun e => absurd e (by decide), hR.2.2.2.2.2.2⟩)
/-! help -/
theorem bits_mono : ∀ f y1 y2 r, fX12_bits_4 f y1 y2 = some r → ∀ f', f ≤ f' → fX12_bits_4 f' y1 y2 = some r
  | 0, _, _, _, h, _, _ => absurd h (by simp [fX12_bits_4])
  | f + 1, y1, y2, r, h, f', hf => by
    obtain ⟨f', rfl⟩ : ∃ k, f' = k + 1 := ⟨f' - 1, by omega⟩
    rw [fX12_bits_4] at h ⊢
    by_cases e : y2 = 0
    · rw [if_pos e] at h ⊢; exact h
    · rw [if_neg e] at h ⊢
      rw [bnd_e, bnd_e] at h ⊢
      exact bits_mono f _ _ _ h f' (by omega)
theorem bits_20 : ∀ s, s < 64 → fX12_bits_4 20 (0 : Int32) (nI s) = some (nI (pcN s)) := by decide +kernel
theorem bits_eq {s : Nat} (h : s < 64) : fX12_bits (nI s) = some (nI (pcN s)) := bits_mono 20 _ _ _ (bits_20 s h) fuel (by unfold fuel; omega)
theorem pcN_le (s : Nat) : pcN s ≤ 6 := fb_ct_le _ 6
def st5 (b : AB) (m : Nat) (v : Nat → Nat) (h : Nat) : Nat := if chA b (bhA b v) = m + 1 ∧ (h = 0 ∨ pcN (mvA b v) < pcN (h - 1) ∨ (pcN (mvA b v) = pcN (h - 1) ∧ mvA b v < h - 1)) then mvA b v + 1 else h
theorem st5_cong {b : AB} {m : Nat} (v w : Nat → Nat) (a : Nat) (h : ∀ j, j < bN b → v j = w j) : st5 b m v a = st5 b m w a := by
  unfold st5
  rw [bhA_cong h, mvA_cong h]
def R5 (b : AB) (m : Nat) (g0 : MS) (h : Nat) (g : MS) : Prop := RI b g ∧ g.1 32 = nI 5 ∧ g.1 34 = nI m ∧ g.1 38 = pm h ∧ h ≤ 64 ∧ fM rI rL g0 g
theorem R5.row {b : AB} {m : Nat} {g0 : MS} {a : Nat} {g : MS} {i : Nat} {x : Int32} (h : R5 b m g0 a g) : R5 b m g0 a (sA g 26 i x) := by
  have f1 : fM [] [26] g (sA g 26 i x) := (fM.refl g).sA (by decide)
  obtain ⟨h1, h2, h3, h4, h5, h7⟩ := h
  exact ⟨h1.keep f1 (by decide), h2, h3, h4, h5, h7.sA (by decide)⟩
theorem mvA_lt {b : AB} (hw : wfB b) (v : Nat → Nat) : mvA b v < 64 := by
  have h1 := bs_lt (fun m => decide (0 < v m)) (bN b)
  have h2 : (2 : Nat) ^ bN b ≤ 2 ^ 6 := Nat.pow_le_pow_right (by omega) hw.2.1
  show bs _ _ < 64
  omega
section
variable {b : AB} {g0 g : MS} {v : Nat → Nat}
theorem help_lp (hw : wfB b) (hR : RI b g) (hv : ∀ j, j < bN b → v j < bN b) (hN : NR (bN b) v g) {h : Nat} (hh : h ≤ 64) (h38 : g.1 38 = pm h) : ∀ d k f, k + d = bN b → d < f → Ev (fX12_seesHelp_4 f g (nI (bs (fun m => decide (0 < v m)) k)) (nI k)) (fun g' => g' = sI g 38 (pm (if h = 0 ∨ pcN (mvA b v) < pcN (h - 1) ∨ (pcN (mvA b v) = pcN (h - 1) ∧ mvA b v < h - 1) then mvA b v + 1 else h)) ∨ (g' = g ∧ ¬ (h = 0 ∨ pcN (mvA b v) < pcN (h - 1) ∨ (pcN (mvA b v) = pcN (h - 1) ∧ mvA b v < h - 1)))) := by
  have hn := hw.2.1
  have hm := mvA_lt hw v
  intro d
  induction d with
  | zero =>
    intro k f hk hf
    obtain ⟨f, rfl⟩ : ∃ f', f = f' + 1 := ⟨f - 1, by omega⟩
    have hk : k = bN b := hk
    subst hk
    rw [fX12_seesHelp_4, size_eq hR.1, bndc_s, if_pos (nI_le (by omega) (by omega)), h38]
    have em : bs (fun m => decide (0 < v m)) (bN b) = mvA b v := rfl
    rw [em]
    have up1 : (h = 0 ∨ pcN (mvA b v) < pcN (h - 1) ∨ (pcN (mvA b v) = pcN (h - 1) ∧ mvA b v < h - 1)) → Ev (bnd (sI g 38 (nI (mvA b v))) (fun g5 => some g5)) (fun g' => g' = sI g 38 (pm (if h = 0 ∨ pcN (mvA b v) < pcN (h - 1) ∨ (pcN (mvA b v) = pcN (h - 1) ∧ mvA b v < h - 1) then mvA b v + 1 else h)) ∨ (g' = g ∧ ¬ (h = 0 ∨ pcN (mvA b v) < pcN (h - 1) ∨ (pcN (mvA b v) = pcN (h - 1) ∧ mvA b v < h - 1)))) := fun c => by
      rw [bnd_e, if_pos c, pm_s]
      exact ev_some.mpr (Or.inl rfl)
    by_cases h0 : h = 0
    · rw [if_pos (by rw [h0]; rfl)]
      exact up1 (Or.inl h0)
    · have eh : pm h = nI (h - 1) := by unfold pm; rw [if_neg h0]
      have p1 := pcN_le (mvA b v)
      have p2 := pcN_le (h - 1)
      rw [eh, if_neg (nI_nm1 (by omega)), bits_eq hm, bndv_s, bits_eq (show h - 1 < 64 by omega), bndv_s, iLT (by omega) (by omega)]
      by_cases c1 : pcN (mvA b v) < pcN (h - 1)
      · rw [if_pos c1]
        exact up1 (Or.inr (Or.inl c1))
      · rw [if_neg c1, bndv_s, bndv_s, iEQ (by omega) (by omega)]
        by_cases c2 : pcN (mvA b v) = pcN (h - 1)
        · rw [if_pos c2, iLE (by omega) (by omega)]
          by_cases c3 : h - 1 ≤ mvA b v
          · rw [if_pos c3]
            exact ev_some.mpr (Or.inr ⟨rfl, by omega⟩)
          · rw [if_neg c3]
            exact up1 (Or.inr (Or.inr ⟨c2, by omega⟩))
        · rw [if_neg c2]
          exact ev_some.mpr (Or.inr ⟨rfl, by omega⟩)
  | succ d ih =>
    intro k f hk hf
    obtain ⟨f, rfl⟩ : ∃ f', f = f' + 1 := ⟨f - 1, by omega⟩
    have hvk := hv k (by omega)
    have st := ih (k + 1) f (by omega) (by omega)
    have hlt := bs_lt (fun m => decide (0 < v m)) k
    rw [fX12_seesHelp_4, size_eq hR.1, bndc_s, if_neg (nI_ge (by omega) (by omega))]
    refine Ev.k (ib_n (by omega) (by omega)) ?_
    rw [ix_n (by omega), hN k (by omega)]
    unfold fX12_seesHelp_29
    rw [bs_succ] at st
    by_cases e : v k = 0
    · rw [if_pos (by rw [e]; decide), bnd_e, nI_1, bnd_e]
      have := or_bit hlt (show k < 31 by omega) false
      rw [Bool.toNat_false, Nat.zero_mul] at this
      rw [l_0, this]
      rw [decide_eq_false (by omega), Bool.toNat_false, Nat.zero_mul] at st
      exact st
    · rw [if_neg (nI_nle0 (by omega) (by omega)), bnd_e, nI_1, bnd_e]
      have := or_bit hlt (show k < 31 by omega) true
      rw [Bool.toNat_true, Nat.one_mul] at this
      rw [shl1 (by omega), this]
      rw [decide_eq_true (by omega), Bool.toNat_true, Nat.one_mul] at st
      exact st
theorem leafHelp {m : Nat} (hm : m < 6) {h : Nat} (hw : wfB b) (hv : ∀ j, j < bN b → v j < bN b) (hR : R5 b m g0 h g) (hN : NR (bN b) v g) : Ev (fX12_sees g) (fun g' => R5 b m g0 (st5 b m v h) g' ∧ g'.2.1 26 = g.2.1 26) := by
  have hn := hw.2.1
  have hmv := mvA_lt hw v
  unfold fX12_sees
  refine Ev.v (behind_eq hw (v1000 hw hv) hR.1 hN) ?_
  rintro g1 ⟨h1, f1⟩
  have r1 : RI b g1 := hR.1.keep f1 (by decide)
  rw [bnd_e, f1.1 32 (by decide), hR.2.1, if_neg (show ¬ nI 5 = (0 : Int32) by decide), if_neg (show ¬ nI 5 = (1 : Int32) by decide), if_neg (show ¬ nI 5 = (2 : Int32) by decide), if_neg (show ¬ nI 5 = (3 : Int32) by decide), if_neg (show ¬ nI 5 = (4 : Int32) by decide)]
  refine Ev.c (chairBy_eq hw r1.1 (bhA_lk hw v) h1) ?_
  rintro r g2 ⟨q1, -, q3⟩
  dsimp only at q1
  have f2 : fM [] [21, 22] g g2 := (f1.mono (by decide) (by decide)).trans (q3.mono (by decide) (by decide))
  have r2 : RI b g2 := r1.keep q3 (by decide)
  have e26 : g2.2.1 26 = g.2.1 26 := f2.row 26 (by decide)
  have hN2 : NR (bN b) v g2 := by unfold NR; rw [e26]; exact hN
  have hc := chA_le hw (bhA b v)
  have e32 : g2.1 32 = nI 5 := by rw [f2.1 32 (by decide)]; exact hR.2.1
  have e34 : g2.1 34 = nI m := by rw [f2.1 34 (by decide)]; exact hR.2.2.1
  have e38 : g2.1 38 = pm h := by rw [f2.1 38 (by decide)]; exact hR.2.2.2.1
  have f0 : fM rI rL g0 g2 := hR.2.2.2.2.2.trans (f2.mono (by decide) (by decide))
  have h64 := hR.2.2.2.2.1
  rw [q1, e34]
  unfold st5
  by_cases e : chA b (bhA b v) = m + 1
  · rw [if_pos ((pm_eq (by omega) (by omega)).mpr e)]
    simp only [e, true_and]
    unfold fX12_seesHelp
    refine Ev.v (help_lp hw r2 hv hN2 h64 e38 (bN b) 0 fuel (by omega) (by unfold fuel; omega)) ?_
    rintro g3 (rfl | ⟨rfl, c⟩)
    · have f3 : fM [38] [] g2 (sI g2 38 (pm (if h = 0 ∨ pcN (mvA b v) < pcN (h - 1) ∨ (pcN (mvA b v) = pcN (h - 1) ∧ mvA b v < h - 1) then mvA b v + 1 else h))) := (fM.refl g2).sI (by decide)
      refine ev_some.mpr ⟨⟨r2.keep f3 (by decide), e32, e34, rfl, ?_, f0.sI (by decide)⟩, e26⟩
      split <;> omega
    · rw [if_neg c]
      exact ev_some.mpr ⟨⟨r2, e32, e34, e38, h64, f0⟩, e26⟩
  · rw [if_neg (fun z => e ((pm_eq (by omega) (by omega)).mp z)), if_neg (fun z => e z.1)]
    exact ev_some.mpr ⟨⟨r2, e32, e34, e38, h64, f0⟩, e26⟩
end
def all5 (b : AB) (m : Nat) : Nat := lpf (fun i y => st5 b m (rwA b i) y) (nR b) 0
theorem askHelp {b : AB} {g : MS} {m : Nat} (hm : m < 6) (hw : wfB b) (hK : KB b (g.2.1 0)) (h34 : g.1 34 = nI m) : Ev (fX12_asksRows g (5 : Int32)) (fun g' => R5 b m g (all5 b m) g') :=
  asks1 (wh := 5) hw hK (fun g1 hR _ h38 _ _ => rows_eq (step := st5 b m) hw st5_cong (fun _ _ h => h.1.1) (fun _ _ _ _ h => h.row) (fun v a g' hv hR hN => leafHelp hm hw hv hR hN) ⟨hR.1, hR.2.1, hR.2.2.2.1.trans h34, h38, by omega, hR.2.2.2.2.2.2⟩)
/-! looks -/
abbrev A3 : Type := (Nat → Bool) × Nat × (Nat → Nat)
def st3 (b : AB) (v : Nat → Nat) (a : A3) : A3 := if a.1 (lcA (bhA b v) (bN b)) = true then a else ((fun c => if c = lcA (bhA b v) (bN b) then true else a.1 c), a.2.1 + 1, fun m => if m + 1 = chA b (bhA b v) then a.2.2 m + 1 else a.2.2 m)
theorem st3_cong {b : AB} (v w : Nat → Nat) (a : A3) (h : ∀ j, j < bN b → v j = w j) : st3 b v a = st3 b w a := by
  unfold st3
  rw [bhA_cong h]
def R3 (b : AB) (g0 : MS) (a : A3) (g : MS) : Prop := RI b g ∧ g.1 32 = nI 3 ∧ (∀ c, c < 46656 → g.2.1 31 c = nI (a.1 c).toNat) ∧ g.1 35 = nI a.2.1 ∧ (∀ m, m < 6 → g.2.1 30 m = nI (a.2.2 m)) ∧ fM rI rL g0 g
theorem R3.row {b : AB} {g0 : MS} {a : A3} {g : MS} {i : Nat} {x : Int32} (h : R3 b g0 a g) : R3 b g0 a (sA g 26 i x) := by
  have f1 : fM [] [26] g (sA g 26 i x) := (fM.refl g).sA (by decide)
  obtain ⟨h1, h2, h3, h4, h5, h7⟩ := h
  exact ⟨h1.keep f1 (by decide), h2, h3, h4, h5, h7.sA (by decide)⟩
section
variable {b : AB} {g0 g : MS} {v : Nat → Nat} {a : A3}
theorem leafLooks (hw : wfB b) (hv : ∀ j, j < bN b → v j < bN b) (hR : R3 b g0 a g) (hN : NR (bN b) v g) : Ev (fX12_sees g) (fun g' => R3 b g0 (st3 b v a) g' ∧ g'.2.1 26 = g.2.1 26) := by
  have hn := hw.2.1
  unfold fX12_sees
  refine Ev.v (behind_eq hw (v1000 hw hv) hR.1 hN) ?_
  rintro g1 ⟨h1, f1⟩
  have r1 : RI b g1 := hR.1.keep f1 (by decide)
  have e32 : g1.1 32 = nI 3 := by rw [f1.1 32 (by decide)]; exact hR.2.1
  have e31 : g1.2.1 31 = g.2.1 31 := f1.row 31 (by decide)
  have e30 : g1.2.1 30 = g.2.1 30 := f1.row 30 (by decide)
  have e35 : g1.1 35 = nI a.2.1 := by rw [f1.1 35 (by decide)]; exact hR.2.2.2.1
  have f0 : fM rI rL g0 g1 := hR.2.2.2.2.2.trans (f1.mono (by decide) (by decide))
  have hl := lc_lt hw (bhA_lk hw v)
  rw [bnd_e, e32, if_neg (show ¬ nI 3 = (0 : Int32) by decide), if_neg (show ¬ nI 3 = (1 : Int32) by decide), if_neg (show ¬ nI 3 = (2 : Int32) by decide), if_pos (show nI 3 = (3 : Int32) from rfl)]
  unfold fX12_seesLook st3
  rw [lookCode_eq hw r1.1 (bhA_lk hw v) h1, bndc_s]
  refine ev_bndv.mpr (Ev.k (ib_n hl (by omega)) ?_)
  rw [ix_n (by omega), e31, hR.2.2.1 _ hl]
  cases hm : a.1 (lcA (bhA b v) (bN b)) with
  | true =>
    rw [if_neg (show ¬ nI true.toNat = 0 by decide), if_pos rfl]
    exact ev_some.mpr (ev_some.mpr ⟨⟨r1, e32, by rw [e31]; exact hR.2.2.1, e35, by rw [e30]; exact hR.2.2.2.2.1, f0⟩, f1.row 26 (by decide)⟩)
  | false =>
    rw [if_pos (show nI false.toNat = 0 from rfl), if_neg (by decide)]
    refine Ev.k (ib_n hl (by omega)) ?_
    rw [bnd_e, bnd_e]
    have ee : (sA g1 31 (lcA (bhA b v) (bN b)) (1 : Int32)).1 35 = nI a.2.1 := e35
    rw [ee, nI_1]
    have f2 : fM [35] [31] g1 (sI (sA g1 31 (lcA (bhA b v) (bN b)) (1 : Int32)) 35 (nI (a.2.1 + 1))) := ((fM.refl g1).sA (by decide)).sI (by decide)
    have r2 := r1.keep f2 (by decide)
    refine Ev.c (chairBy_eq hw r2.1 (bhA_lk hw v) h1) ?_
    rintro r g2 ⟨q1, -, q3⟩
    dsimp only at q1
    have hc := chA_le hw (bhA b v)
    have r3 := r2.keep q3 (by decide)
    have x31 : ∀ c, c < 46656 → g2.2.1 31 c = nI ((if c = lcA (bhA b v) (bN b) then true else a.1 c)).toNat := fun c hc => by
      rw [q3.row 31 (by decide)]
      show upd (g1.2.1 31) (lcA (bhA b v) (bN b)) (1 : Int32) c = _
      rw [upd_j]
      by_cases e : c = lcA (bhA b v) (bN b)
      · rw [if_pos e, if_pos e]; rfl
      · rw [if_neg e, if_neg e, e31]; exact hR.2.2.1 c hc
    have x30 : g2.2.1 30 = g.2.1 30 := (q3.row 30 (by decide)).trans e30
    have x35 : g2.1 35 = nI (a.2.1 + 1) := by rw [q3.1 35 (by decide)]; rfl
    have x32 : g2.1 32 = nI 3 := by rw [q3.1 32 (by decide)]; exact e32
    have x26 : g2.2.1 26 = g.2.1 26 := (q3.row 26 (by decide)).trans (f1.row 26 (by decide))
    have f3 : fM rI rL g0 g2 := (f0.trans (f2.mono (by decide) (by decide))).trans (q3.mono (by decide) (by decide))
    rw [q1]
    by_cases e : chA b (bhA b v) = 0
    · rw [if_pos (by rw [e]; rfl)]
      refine ev_some.mpr (ev_some.mpr ⟨⟨r3, x32, x31, x35, fun m hm => ?_, f3⟩, x26⟩)
      show _ = nI (if m + 1 = chA b (bhA b v) then a.2.2 m + 1 else a.2.2 m)
      rw [x30, hR.2.2.2.2.1 m hm, if_neg (by omega)]
    · have ep : pm (chA b (bhA b v)) = nI (chA b (bhA b v) - 1) := by unfold pm; rw [if_neg e]
      rw [ep, if_neg (nI_nm1 (by omega))]
      refine Ev.k (ib_n (by omega) (by omega)) (Ev.k (ib_n (by omega) (by omega)) ?_)
      rw [bnd_e, ix_n (by omega), x30, hR.2.2.2.2.1 _ (show chA b (bhA b v) - 1 < 6 by omega), nI_1]
      refine ev_some.mpr (ev_some.mpr ⟨⟨r3.keep (li := []) (la := [30]) ((fM.refl g2).sA (by decide)) (by decide), x32, x31, x35, fun m hm => ?_, f3.sA (by decide)⟩, x26⟩)
      show upd (g2.2.1 30) (chA b (bhA b v) - 1) _ m = nI (if m + 1 = chA b (bhA b v) then a.2.2 m + 1 else a.2.2 m)
      rw [upd_j, x30]
      by_cases e2 : m = chA b (bhA b v) - 1
      · rw [if_pos e2, if_pos (by omega), e2]
      · rw [if_neg e2, if_neg (by omega)]; exact hR.2.2.2.2.1 m hm
end
def all3 (b : AB) : A3 := lpf (fun i y => st3 b (rwA b i) y) (nR b) ((fun _ => false), 0, fun _ => 0)
theorem askLooks {b : AB} {g : MS} (hw : wfB b) (hK : KB b (g.2.1 0)) (h31 : ∀ c, c < 46656 → g.2.1 31 c = 0) (h30 : ∀ m, m < 6 → g.2.1 30 m = 0) : Ev (fX12_asksRows g (3 : Int32)) (fun g' => R3 b g (all3 b) g') :=
  asks1 (wh := 3) hw hK (fun g1 hR _ _ e30 e31 => rows_eq (step := st3 b) hw st3_cong (fun _ _ h => h.1.1) (fun _ _ _ _ h => h.row) (fun v a g' hv hR hN => leafLooks hw hv hR hN) ⟨hR.1, hR.2.1, fun c hc => by rw [e31]; exact h31 c hc, hR.2.2.2.2.1, fun m hm => by rw [e30]; exact h30 m hm, hR.2.2.2.2.2.2⟩)
