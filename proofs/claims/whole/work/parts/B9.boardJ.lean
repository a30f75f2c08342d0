/-! ===== the call that reads a board, on both sides ===== -/
theorem SQ.up {q : AQ} {P P' : PL} {h : CS} {o d : Nat} (a : SQ q P h o) (x : PX P P' d) : SQ q P' h o := ⟨⟨a.1.1, a.1.2.1, a.1.2.2.1, a.1.2.2.2.1, a.1.2.2.2.2.1.up x, a.1.2.2.2.2.2.1.up x, a.1.2.2.2.2.2.2.up x⟩, a.2⟩
theorem SV.same {b : AB} {T : Nat} {g g' : CS} (h3 : SV b T g) (i1 : ∀ o k, o = 12 ∨ o = 17 → g'.1 o k = g.1 o k) (f2 : ∀ a, a = 13 ∨ a = 14 ∨ a = 18 ∨ a = 19 ∨ a = 20 ∨ a = 21 → g'.2.1 a = g.2.1 a) : SV b T g' := by
  obtain ⟨m1, m2, m3, m4⟩ := h3
  refine ⟨?_, ?_, ?_, ?_⟩
  · rw [i1 12 1 (by omega)]; exact m1.imp (fun h m hm => by rw [f2 13 (by omega), f2 14 (by omega)]; exact h m hm)
  · rw [i1 17 4 (by omega)]
    refine m2.imp (fun h => ?_)
    unfold TLm TLa
    rw [i1 17 5 (by omega), i1 17 6 (by omega), i1 17 7 (by omega), i1 17 8 (by omega), i1 17 9 (by omega)]
    exact h
  · rw [i1 17 2 (by omega)]
    refine m3.imp (fun h m hm => ?_)
    rw [f2 18 (by omega), f2 19 (by omega), f2 20 (by omega), f2 21 (by omega)]
    exact h m hm
  · rw [i1 17 3 (by omega)]
    refine m4.imp (fun h => ?_)
    unfold PAa
    rw [i1 17 10 (by omega), i1 17 11 (by omega), i1 17 12 (by omega)]
    exact h
theorem CO.same {b : AB} {T : Nat} {g g' : CS} (h4 : CO b T g) (i1 : ∀ k, g'.1 27 k = g.1 27 k) (f2 : g'.2.1 28 = g.2.1 28) : CO b T g' := by
  unfold CO
  rw [i1 1]
  refine memo.imp h4 (fun h => ⟨fun t r hR hB => ?_, fun m x y hm hx hy => ?_⟩)
  · rw [i1 3, i1 4]; exact h.1 t r hR hB
  · rw [f2]; exact h.2 m x y hm hx hy
def rd0 (h : CS) : CS := tF (tF (tF (tI (tI (tI (tI (tI h 4 2 0) 4 3 (-1)) 4 5 0) 4 6 0) 4 8 0) 4 9 (h.2.2.2 4 12)) 4 10 (h.2.2.2 4 12)) 4 11 (h.2.2.2 4 12)
theorem read_rd0 {P : PL} {h : CS} {x : Int32} : fX3_read P h x = bndv (fX8_begin P (rd0 h) x) (fun g9 => bndv (fX3_readBoard P g9) (fun g10 => fX3_read_63 P fuel P g10 (0 : Int32))) := rfl
theorem rd0_c (h : CS) : (rd0 h).1 4 2 = 0 ∧ (rd0 h).1 4 3 = -1 ∧ (rd0 h).1 4 5 = 0 ∧ (rd0 h).1 4 6 = 0 ∧ (rd0 h).1 4 8 = 0 := by
  unfold rd0
  simp only [tF_1]
  refine ⟨?_, ?_, ?_, ?_, ?_⟩
  all_goals repeat (first | exact tI_s | rw [tI_n (by omega)])
theorem rd0_f (h : CS) : fP h (rd0 h) := by
  refine ⟨fun o k a b c => ?_, fun _ _ => rfl, rfl⟩
  unfold rd0
  simp only [tF_1]
  rw [tI_o a, tI_o a, tI_o a, tI_o a, tI_o a]
theorem rd0_r (h : CS) (o k : Nat) : (rd0 h).2.2.2 o k = if o = 4 then (if k = 11 then h.2.2.2 4 12 else if k = 10 then h.2.2.2 4 12 else if k = 9 then h.2.2.2 4 12 else h.2.2.2 4 k) else h.2.2.2 o k := by
  unfold rd0
  rw [tF_4]
  by_cases e : o = 4
  · subst e
    rw [if_pos rfl, if_pos rfl, tF_4, if_pos rfl, tF_4, if_pos rfl]
    rfl
  · rw [if_neg e, if_neg e, tF_4, if_neg e, tF_4, if_neg e]
    rfl
def stR (s : AS) (q : AQ) (k pl : Int32) : AS := (q, zI s, zT s, 0, zB s, k, pl)
theorem MI.read {s : AS} {g g' : MS} {q : AQ} {k pl : Int32} (h : MI s g) (f : fM ([4, 6, 7, 14, 15] ++ liR) [0, 1] g g') (h1 : KQ q (g'.2.1 0)) (h6 : g'.1 6 = 0) (hk : g'.1 14 = k) (hp : g'.1 15 = pl) : MI (stR s q k pl) g' := by
  obtain ⟨a1, a2, a3, a4, a5, a6, a7⟩ := h
  refine ⟨h1, fun i hi => ?_, fun i hi => (a3 i hi).row (i := 0) (by rw [f.row 45 (by decide)]) (by rw [f.row 46 (by decide)]) (fun k _ => by rw [f.2.2]), h6, fun k hk => absurd hk (Nat.not_lt_zero k), hk, hp⟩
  rw [f.row 3 (by decide), f.row 2 (by decide)]
  exact a2 i hi
theorem wfS.read {s : AS} {q : AQ} {k pl : Int32} (h : wfS s) (hq : wfQ q) : wfS (stR s q k pl) := ⟨hq, h.2.1, by show 0 ≤ 900; omega, fun k hk => absurd hk (Nat.not_lt_zero k)⟩
theorem CX.read {s : AS} {P P' : PL} {h h' : CS} {q : AQ} {k pl : Int32} {d : Nat} (c : CX s P h) (x : PX P P' d) (i : ∀ o k, (o = 0 → k = 4) → o ≠ 4 → o ≠ 5 → o ≠ 6 → o ≠ 30 → h'.1 o k = h.1 o k) (l : ∀ a, a ≠ 40 → h'.2.2.1 a = h.2.2.1 a) (r : ∀ o, o ≠ 4 → o ≠ 30 → h'.2.2.2 o = h.2.2.2 o) (h01 : h'.1 0 1 = 0) (h02 : h'.1 0 2 = k) (h03 : h'.1 0 3 = pl) (hw : wfL P' h' = true) (hu : inP P' (h'.2.2.2 4 12) []) : CX (stR s q k pl) P' h' := by
  obtain ⟨⟨a1, a2⟩, a3, a4, a8, a9⟩ := c
  refine ⟨⟨?_, fun j hj ht => ?_⟩, fun j hj => ?_, ⟨h01, fun k hk => absurd hk (Nat.not_lt_zero k), h02, h03⟩, hw, hu⟩
  · rw [i 0 4 (fun _ => rfl) (by omega) (by omega) (by omega) (by omega)]; exact a1
  · exact ((a2 j hj ht).same (fun k => i _ k (by omega) (by omega) (by omega) (by omega) (by omega)) (l _ (by omega)) (r _ (by omega) (by omega))).up x
  · exact (a3 j hj).same (fun k => i _ k (by omega) (by omega) (by omega) (by omega) (by omega)) (l _ (by omega))
section
variable {s : AS} {P : PL} {T N : Nat} {g : MS} {h : CS}
theorem mBoard_no (hs : wfS s) (hM : MI s g) {x : Int32} (hx : ¬ upTo (zL s) x) : Ev (fX12_board g x) (fun q => MI s q.2 ∧ q.2.1 4 = nI 1) := by
  unfold fX12_board
  have h6 : (sI g 4 0).1 6 = nI (zL s) := hM.2.2.2.1
  have hL := hs.2.2.1
  rw [bnd_e, h6, within_n (by
    rw [Int32.toInt_toInt64, Int32.toInt_toInt64, nI_toInt (by omega)]
    intro z
    exact hx (upTo_of z.1 z.2)), bndv_s, if_pos rfl]
  unfold fX12_fails
  rw [bnd_e, bndc_s]
  exact ev_some.mpr ⟨(hM.th 0).th 1, rfl⟩
theorem cBoard_no (hs : wfS s) (hC : CI s P T h) {x : Int32} (hx : ¬ upTo (zL s) x) : fX11_board P h x = some (Sum.inl 1, P, h) := by
  unfold fX11_board
  have h1 := hC.2.2.2.2.2.2.1.1
  have hL := hs.2.2.1
  by_cases e : x < 0
  · rw [if_pos e]
  · rw [if_neg e, h1, if_neg]
    intro z
    refine hx (upTo_of ?_ ?_)
    · have := Int32.le_iff_toInt_le.mp (Int32.not_lt.mp e)
      exact this
    · have := Int32.le_iff_toInt_le.mp z
      rw [nI_toInt (by omega)] at this
      exact this
/-- both sides once the reading is over -/
theorem board_fin {B : Nat → Nat} {P' : PL} {ge : MS} {he : CS} (hN : N ≤ 900) (hs : wfS s) (hM : MI s g) (hC : CI s P T h) (hT : T + 1 < 2 ^ 31) (M : fM ([4, 6, 7, 14, 15] ++ liR) [0, 1] g ge) (hK : KQ (zQ s) (ge.2.1 0)) (g6 : ge.1 6 = 0) (g4 : ge.1 4 = 0)
    (I : ∀ o k, (o = 0 → k = 4) → o ≠ 4 → o ≠ 5 → o ≠ 6 → he.1 o k = h.1 o k) (h01 : he.1 0 1 = 0) (A : ∀ a, a ∉ wrA → he.2.1 a = h.2.1 a) (L : he.2.2.1 = h.2.2.1) (R : ∀ o, o ≠ 4 → he.2.2.2 o = h.2.2.2 o) (X : PX P P' 900)
    (O : (∃ p b ln, PJ B N p b ln P' ge he) ∨ (∃ f l, FS f l ge ∧ FH f l he ∧ wfL P' he = true ∧ inP P' (he.2.2.2 4 12) [])) :
    ∃ r g' h' s' T', fX12_board_144 ge = some (r, g') ∧ fX11_board_35 P' (fun g2 r => some ((Sum.inr r : Nat ⊕ Int32), P', g2)) (fun g2 r => some ((Sum.inr r : Nat ⊕ Int32), P', g2)) he = some (Sum.inr r, P', h') ∧ wfS s' ∧ MI s' g' ∧ g'.1 4 = nI 0 ∧ CI s' P' T' h' ∧ T ≤ T' ∧ T' ≤ T + 1 := by
  obtain ⟨s1, s2, s3, s4, s5⟩ := hC
  rcases O with ⟨p, b, ln, pj⟩ | ⟨f, l, H, H', hw, hu⟩
  · obtain ⟨⟨hp, hp1, hl⟩, wf, ⟨a1, a2, a3, a4, a5⟩, ⟨c1, c2, c3, c4, c5, c6⟩, d1, d2, d3, d4, d5⟩ := pj
    have hq : wfQ (b, ln, 0, qP (zQ s)) := ⟨wf, by show ln ≤ 900; omega, by show 0 ≤ 10; omega, fun j hj => absurd hj (Nat.not_lt_zero j)⟩
    have e12 : (sI ge 14 (ge.1 12)).1 12 = 0 := a1.2.1
    have e12' : (sI (sI ge 14 (ge.1 12)) 15 (-1)).1 12 = 0 := a1.2.1
    obtain ⟨g', e1, F1, e2, -⟩ := cpy188 2850 0 fuel (sI (sI ge 14 (ge.1 12)) 15 (-1)) (by omega) (by unfold fuel; omega)
    have row1 : (sI (sI ge 14 (ge.1 12)) 15 (-1)).2.1 1 = ge.2.1 1 := rfl
    have kq : KQ (b, ln, 0, qP (zQ s)) (g'.2.1 0) := by
      refine KQ.cong hq (k := ge.2.1 1) ⟨a3, a4, a5, fun j hj => absurd hj (Nat.not_lt_zero j)⟩ (fun i hi => ?_)
      rw [e2 i (by omega) hi, row1]
    have M' : fM ([4, 6, 7, 14, 15] ++ liR) [0, 1] g g' := (M.trans (((fM.refl ge).sI (by decide)).sI (by decide))).trans (F1.mono (fun z hz => nomatch hz) (by decide))
    have m : fX12_board_144 ge = some (g'.2.1 0 0, g') := by
      unfold fX12_board_144 fX12_board_168
      rw [bnd_e, if_pos e12, bnd_e, if_pos e12']
      exact e1
    -- the class
    have h42 : he.1 4 2 = 0 := c1.2.2.1
    have h43 : he.1 4 3 = -1 := c1.2.2.2
    have cl : fX11_board_35 P' (fun g2 r => some ((Sum.inr r : Nat ⊕ Int32), P', g2)) (fun g2 r => some ((Sum.inr r : Nat ⊕ Int32), P', g2)) he = some (Sum.inr (nI ln), P', tI (tI (tF (tF (tF (tI (tI (tI (tI (tI (tI (tI he 0 2 0) 0 3 (-1)) 30 1 (nI (bN b))) 30 2 (nI ln)) 30 3 (nI (l6 (bA b)))) 30 4 (nI (l6 (bW b)))) 30 5 (nI (bS b))) 30 8 (he.2.2.2 4 9)) 30 9 (he.2.2.2 4 10)) 30 10 (he.2.2.2 4 11)) 30 6 0) 30 7 (nI (T + 1))) := by
      have e307 : he.1 30 7 = nI T := by rw [I 30 7 (by omega) (by omega) (by omega) (by omega)]; exact s2
      unfold fX11_board_35 fX6_settleAs
      rw [h42, bnd_e, tI_o (show (4 : Nat) ≠ 0 by omega), h43, bnd_e, tI_n (show (2 : Nat) ≠ 3 by omega), tI_s, if_pos rfl]
      rw [bnd_e, tI_o (show (4 : Nat) ≠ 0 by omega), tI_o (show (4 : Nat) ≠ 0 by omega), c2]
      rw [bnd_e, tI_o (show (4 : Nat) ≠ 30 by omega), tI_o (show (4 : Nat) ≠ 0 by omega), tI_o (show (4 : Nat) ≠ 0 by omega), c3]
      rw [bnd_e, tI_o (show (4 : Nat) ≠ 30 by omega), tI_o (show (4 : Nat) ≠ 30 by omega), tI_o (show (4 : Nat) ≠ 0 by omega), tI_o (show (4 : Nat) ≠ 0 by omega), c4]
      rw [bnd_e, tI_o (show (4 : Nat) ≠ 30 by omega), tI_o (show (4 : Nat) ≠ 30 by omega), tI_o (show (4 : Nat) ≠ 30 by omega), tI_o (show (4 : Nat) ≠ 0 by omega), tI_o (show (4 : Nat) ≠ 0 by omega), c5]
      rw [bnd_e, tI_o (show (4 : Nat) ≠ 30 by omega), tI_o (show (4 : Nat) ≠ 30 by omega), tI_o (show (4 : Nat) ≠ 30 by omega), tI_o (show (4 : Nat) ≠ 30 by omega), tI_o (show (4 : Nat) ≠ 0 by omega), tI_o (show (4 : Nat) ≠ 0 by omega), c6]
      rw [bnd_e, bnd_e, bnd_e, bnd_e, bnd_e, tI_n (show (7 : Nat) ≠ 6 by omega)]
      simp only [tF_1]
      rw [tI_n (show (7 : Nat) ≠ 5 by omega), tI_n (show (7 : Nat) ≠ 4 by omega), tI_n (show (7 : Nat) ≠ 3 by omega), tI_n (show (7 : Nat) ≠ 2 by omega), tI_n (show (7 : Nat) ≠ 1 by omega), tI_o (show (30 : Nat) ≠ 0 by omega), tI_o (show (30 : Nat) ≠ 0 by omega), e307, nI_1, bndv_s]
      have e302 : (tI (tI (tF (tF (tF (tI (tI (tI (tI (tI (tI (tI he 0 2 0) 0 3 (-1)) 30 1 (nI (bN b))) 30 2 (nI ln)) 30 3 (nI (l6 (bA b)))) 30 4 (nI (l6 (bW b)))) 30 5 (nI (bS b))) 30 8 (he.2.2.2 4 9)) 30 9 (he.2.2.2 4 10)) 30 10 (he.2.2.2 4 11)) 30 6 0) 30 7 (nI (T + 1))).1 30 2 = nI ln := by
        rw [tI_n (by omega), tI_n (by omega)]
        simp only [tF_1]
        rw [tI_n (by omega), tI_n (by omega), tI_n (by omega), tI_s]
      show some (Sum.inr ((tI (tI (tF (tF (tF (tI (tI (tI (tI (tI (tI (tI he 0 2 0) 0 3 (-1)) 30 1 (nI (bN b))) 30 2 (nI ln)) 30 3 (nI (l6 (bA b)))) 30 4 (nI (l6 (bW b)))) 30 5 (nI (bS b))) 30 8 (he.2.2.2 4 9)) 30 9 (he.2.2.2 4 10)) 30 10 (he.2.2.2 4 11)) 30 6 0) 30 7 (nI (T + 1))).1 30 2), P', _) = _
      rw [e302]
      rfl
    have r0 : g'.2.1 0 0 = nI ln := kq.2.1
    rw [r0] at m
    generalize hh' : tI (tI (tF (tF (tF (tI (tI (tI (tI (tI (tI (tI he 0 2 0) 0 3 (-1)) 30 1 (nI (bN b))) 30 2 (nI ln)) 30 3 (nI (l6 (bA b)))) 30 4 (nI (l6 (bW b)))) 30 5 (nI (bS b))) 30 8 (he.2.2.2 4 9)) 30 9 (he.2.2.2 4 10)) 30 10 (he.2.2.2 4 11)) 30 6 0) 30 7 (nI (T + 1)) = h' at cl
    have ints : ∀ o k, o ≠ 0 → o ≠ 30 → h'.1 o k = he.1 o k := fun o k n1 n2 => by
      rw [← hh', tI_o n2, tI_o n2]
      simp only [tF_1]
      rw [tI_o n2, tI_o n2, tI_o n2, tI_o n2, tI_o n2, tI_o n1, tI_o n1]
    have c0 : ∀ k, h'.1 0 k = if k = 3 then -1 else if k = 2 then 0 else he.1 0 k := fun k => by
      rw [← hh', tI_o (by omega), tI_o (by omega)]
      simp only [tF_1]
      rw [tI_o (by omega), tI_o (by omega), tI_o (by omega), tI_o (by omega), tI_o (by omega), tI_1, if_pos rfl, tI_1, if_pos rfl]
    have rows : h'.2.1 = he.2.1 := by rw [← hh']; rfl
    have lngs : h'.2.2.1 = he.2.2.1 := by rw [← hh']; rfl
    have refs : ∀ o k, h'.2.2.2 o k = if o = 30 then (if k = 10 then he.2.2.2 4 11 else if k = 9 then he.2.2.2 4 10 else if k = 8 then he.2.2.2 4 9 else he.2.2.2 30 k) else he.2.2.2 o k := fun o k => by
      rw [← hh', tI_2, tI_2, tF_4]
      by_cases e : o = 30
      · subst e
        rw [if_pos rfl, if_pos rfl, tF_4, if_pos rfl, tF_4, if_pos rfl]
        rfl
      · rw [if_neg e, if_neg e, tF_4, if_neg e, tF_4, if_neg e]
        rfl
    have c30 : h'.1 30 1 = nI (bN b) ∧ h'.1 30 2 = nI ln ∧ h'.1 30 3 = nI (l6 (bA b)) ∧ h'.1 30 4 = nI (l6 (bW b)) ∧ h'.1 30 5 = nI (bS b) ∧ h'.1 30 6 = nI 0 ∧ h'.1 30 7 = nI (T + 1) := by
      rw [← hh']
      refine ⟨?_, ?_, ?_, ?_, ?_, ?_, ?_⟩
      · rw [tI_n (by omega), tI_n (by omega)]; simp only [tF_1]; rw [tI_n (by omega), tI_n (by omega), tI_n (by omega), tI_n (by omega), tI_s]
      · rw [tI_n (by omega), tI_n (by omega)]; simp only [tF_1]; rw [tI_n (by omega), tI_n (by omega), tI_n (by omega), tI_s]
      · rw [tI_n (by omega), tI_n (by omega)]; simp only [tF_1]; rw [tI_n (by omega), tI_n (by omega), tI_s]
      · rw [tI_n (by omega), tI_n (by omega)]; simp only [tF_1]; rw [tI_n (by omega), tI_s]
      · rw [tI_n (by omega), tI_n (by omega)]; simp only [tF_1]; rw [tI_s]
      · rw [tI_n (by omega), tI_s]; rfl
      · rw [tI_s]
    have rr : ∀ o, o ≠ 30 → h'.2.2.2 o = he.2.2.2 o := fun o ho => funext fun k => by rw [refs, if_neg ho]
    have hw' : wfL P' h' = true := by
      have D := of_decide_eq_true d5
      obtain ⟨⟨⟨w1, w2⟩, w3, w4⟩, -, ww⟩ := D
      have f30 : ∀ k, h'.2.2.2 30 k = _ := fun k => refs 30 k
      refine decide_eq_true ⟨?_, ⟨?_, ?_, ?_⟩, ?_⟩
      · rw [rr 4 (by omega)]; exact ⟨⟨w1, w2⟩, w3, w4⟩
      · rw [f30 8]; exact w1
      · rw [f30 9]; exact w2
      · rw [f30 10]; exact w3
      · rw [rr 31 (by omega), rr 32 (by omega), rr 33 (by omega), rr 34 (by omega)]; exact ww
    refine ⟨nI ln, g', h', stR s (b, ln, 0, qP (zQ s)) 0 (-1), T + 1, m, cl, hs.read hq, hM.read M' kq ?_ ?_ ?_, ?_, ⟨⟨⟨c30.1, c30.2.2.1, c30.2.2.2.1, c30.2.2.2.2.1, ?_, ?_, ?_⟩, c30.2.1, c30.2.2.2.2.2.1, fun j hj => absurd hj (Nat.not_lt_zero j)⟩, c30.2.2.2.2.2.2, ?_, ?_, ?_⟩, by omega, by omega⟩
    · rw [F1.1 6 (fun z => nomatch z)]; exact g6
    · rw [F1.1 14 (fun z => nomatch z)]; exact a1.2.1
    · rw [F1.1 15 (fun z => nomatch z)]; rfl
    · rw [F1.1 4 (fun z => nomatch z)]; exact g4
    · rw [refs]; exact d1
    · rw [refs]; exact d2
    · rw [refs]; exact d3
    · refine s3.old ?_ ?_ ?_ ?_ (by omega) hT
      · rw [ints 12 1 (by omega) (by omega), I 12 1 (by omega) (by omega) (by omega) (by omega)]
      · rw [ints 17 4 (by omega) (by omega), I 17 4 (by omega) (by omega) (by omega) (by omega)]
      · rw [ints 17 2 (by omega) (by omega), I 17 2 (by omega) (by omega) (by omega) (by omega)]
      · rw [ints 17 3 (by omega) (by omega), I 17 3 (by omega) (by omega) (by omega) (by omega)]
    · refine s4.old ?_ (by omega) hT
      rw [ints 27 1 (by omega) (by omega), I 27 1 (by omega) (by omega) (by omega) (by omega)]
    · refine s5.read X (fun o k n0 n4 n5 n6 n30 => ?_) (fun a _ => by rw [lngs, L]) (fun o n4 n30 => by rw [rr o n30, R o n4]) ?_ ?_ ?_ hw' ?_
      · by_cases e : o = 0
        · have := n0 e
          subst e
          subst this
          rw [c0, if_neg (by omega), if_neg (by omega)]
          exact I 0 4 (fun _ => rfl) n4 n5 n6
        · rw [ints o k e n30]
          exact I o k (fun z => absurd z e) n4 n5 n6
      · rw [c0, if_neg (by omega), if_neg (by omega)]; exact h01
      · rw [c0, if_neg (by omega), if_pos rfl]
      · rw [c0, if_pos rfl]
      · rw [rr 4 (by omega)]; exact d4
  · have e12 : ¬ (sI ge 14 (ge.1 12)).1 12 = 0 := H.bad
    have m : fX12_board_144 ge = some ((-10 : Int32) - nI f, sI (sI ge 14 (nI f)) 15 (nI l)) := by
      unfold fX12_board_144 fX12_board_168
      rw [bnd_e, if_neg e12, bnd_e, if_neg (show ¬ (sI (sI ge 14 (ge.1 12)) 15 ((sI ge 14 (ge.1 12)).1 13)).1 12 = 0 from H.bad)]
      show some ((-10 : Int32) - ge.1 12, sI (sI ge 14 (ge.1 12)) 15 (ge.1 13)) = _
      rw [H.1, H.2.1]
    have cl : fX11_board_35 P' (fun g2 r => some ((Sum.inr r : Nat ⊕ Int32), P', g2)) (fun g2 r => some ((Sum.inr r : Nat ⊕ Int32), P', g2)) he = some (Sum.inr ((-10 : Int32) - nI f), P', tI (tI he 0 2 (nI f)) 0 3 (nI l)) := by
      have Hb := H'.bad
      rw [H'.1] at Hb
      unfold fX11_board_35
      rw [H'.1, bnd_e, tI_o (show (4 : Nat) ≠ 0 by omega), H'.2.1, bnd_e, tI_n (show (2 : Nat) ≠ 3 by omega), tI_s, if_neg Hb]
    have c0 : ∀ k, (tI (tI he 0 2 (nI f)) 0 3 (nI l)).1 0 k = if k = 3 then nI l else if k = 2 then nI f else he.1 0 k := fun k => by rw [tI_1, if_pos rfl, tI_1, if_pos rfl]
    have ints : ∀ o k, o ≠ 0 → (tI (tI he 0 2 (nI f)) 0 3 (nI l)).1 o k = he.1 o k := fun o k ho => by rw [tI_o ho, tI_o ho]
    have Mq : fM ([4, 6, 7, 14, 15] ++ liR) [0, 1] g (sI (sI ge 14 (nI f)) 15 (nI l)) := M.trans (((fM.refl ge).sI (by decide)).sI (by decide))
    have J : ∀ o k, o ≠ 0 → o ≠ 4 → o ≠ 5 → o ≠ 6 → (tI (tI he 0 2 (nI f)) 0 3 (nI l)).1 o k = h.1 o k := fun o k n0 n4 n5 n6 => by rw [ints o k n0]; exact I o k (fun z => absurd z n0) n4 n5 n6
    refine ⟨_, _, _, stR s (zQ s) (nI f) (nI l), T, m, cl, hs.read hs.1, hM.read Mq hK g6 rfl rfl, g4, ⟨?_, ?_, ?_, ?_, ?_⟩, by omega, by omega⟩
    · exact (s1.same (fun k => J 30 k (by omega) (by omega) (by omega) (by omega)) (by show he.2.2.1 _ = _; rw [L]) (R 30 (by omega))).up X
    · rw [J 30 7 (by omega) (by omega) (by omega) (by omega)]; exact s2
    · exact s3.same (fun o k ho => J o k (by omega) (by omega) (by omega) (by omega)) (fun a ha => A a (by rcases ha with q | q | q | q | q | q <;> subst q <;> decide))
    · exact s4.same (fun k => J 27 k (by omega) (by omega) (by omega) (by omega)) (A 28 (by decide))
    · refine s5.read X (fun o k n0 n4 n5 n6 n30 => ?_) (fun a _ => by show he.2.2.1 a = _; rw [L]) (fun o n4 n30 => R o n4) ?_ ?_ ?_ hw hu
      · by_cases e : o = 0
        · have := n0 e
          subst e
          subst this
          rw [c0, if_neg (by omega), if_neg (by omega)]
          exact I 0 4 (fun _ => rfl) n4 n5 n6
        · exact J o k e n4 n5 n6
      · rw [c0, if_neg (by omega), if_neg (by omega)]; exact h01
      · rw [c0, if_neg (by omega), if_pos rfl]
      · rw [c0, if_pos rfl]
end
