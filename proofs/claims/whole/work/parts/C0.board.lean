/-! ===== the board call: the same answer ===== -/
section
variable {s : AS} {P : PL} {T N : Nat} {g : MS} {h : CS}
theorem board_ok (hs : wfS s) (hM : MI s g) (hC : CI s P T h) (hT : T + 1 < 2 ^ 31) (hNL : N ≤ zL s) : ∃ r g' P' h' s' T', fX12_board g (nI N) = some (r, g') ∧ fX11_board P h (nI N) = some (Sum.inr r, P', h') ∧ wfS s' ∧ MI s' g' ∧ g'.1 4 = nI 0 ∧ CI s' P' T' h' ∧ T ≤ T' ∧ T' ≤ T + 1 ∧ PX P P' 900 := by
  have hL := hs.2.2.1
  have hN : N ≤ 900 := by omega
  have hMM := hM
  have hCC := hC
  obtain ⟨m1, m2, m3, m4, m5, m6, m7⟩ := hM
  obtain ⟨s1, s2, s3, s4, s5⟩ := hC
  obtain ⟨x1, x2, ⟨x3, x4, x5, x6⟩, x7, x8⟩ := s5
  -- the reference up to the first token
  have eM : fX12_board g (nI N) = fX12_board_52 fuel (sI (sI (sI (sI (sI (sI g 4 0) 7 (nI N)) 6 0) 8 0) 12 0) 16 0) (0 : Int32) := by
    unfold fX12_board
    have h6 : (sI g 4 0).1 6 = nI (zL s) := m4
    have e0 : (0 : Int64).toInt = 0 := rfl
    rw [bnd_e, h6, within_y (by rw [Int32.toInt_toInt64, nI_toInt (by omega), e0]; omega) (by rw [Int32.toInt_toInt64, Int32.toInt_toInt64, nI_toInt (by omega), nI_toInt (by omega)]; omega), bndv_s, if_neg (by decide), bnd_e, bnd_e, bnd_e, bnd_e, bnd_e]
  have G7 : (sI (sI (sI (sI (sI (sI g 4 0) 7 (nI N)) 6 0) 8 0) 12 0) 16 0).1 7 = nI N := rfl
  have G8 : (sI (sI (sI (sI (sI (sI g 4 0) 7 (nI N)) 6 0) 8 0) 12 0) 16 0).1 8 = nI 0 := rfl
  have G12 : (sI (sI (sI (sI (sI (sI g 4 0) 7 (nI N)) 6 0) 8 0) 12 0) 16 0).1 12 = 0 := rfl
  have G16 : (sI (sI (sI (sI (sI (sI g 4 0) 7 (nI N)) 6 0) 8 0) 12 0) 16 0).1 16 = 0 := rfl
  have G6 : (sI (sI (sI (sI (sI (sI g 4 0) 7 (nI N)) 6 0) 8 0) 12 0) 16 0).1 6 = 0 := rfl
  have G4 : (sI (sI (sI (sI (sI (sI g 4 0) 7 (nI N)) 6 0) 8 0) 12 0) 16 0).1 4 = 0 := rfl
  have GF : fM ([4, 6, 7, 14, 15] ++ liR) [] g (sI (sI (sI (sI (sI (sI g 4 0) 7 (nI N)) 6 0) 8 0) 12 0) 16 0) := ((((((fM.refl g).sI (by decide)).sI (by decide)).sI (by decide)).sI (by decide)).sI (by decide)).sI (by decide)
  generalize sI (sI (sI (sI (sI (sI g 4 0) 7 (nI N)) 6 0) 8 0) 12 0) 16 0 = G at *
  obtain ⟨ga, ea, Fa, za, -⟩ := clr52 2850 0 fuel G (by omega) (by unfold fuel; omega)
  have ea : fX12_board_52 fuel G (0 : Int32) = fX12_board_74 fuel ga (0 : Int32) := ea
  obtain ⟨gb, eb, Fb, wb, zb⟩ := clr74 6 0 fuel ga (by omega) (by unfold fuel; omega)
  have eb : fX12_board_74 fuel ga (0 : Int32) = bndv (fX12_readsOn gb) (fun g6 => headM g6) := eb
  have Fab := Fa.trans Fb
  have mb : MB (zB s) N gb := ⟨by rw [Fab.1 7 (fun z => nomatch z)]; exact G7, fun k hk => by rw [Fab.row 5 (by decide), GF.row 5 (fun z => nomatch z)]; exact ⟨m5 k (by omega), hs.2.2.2 k (by omega)⟩⟩
  obtain ⟨gc, ec, tc, Fc⟩ := reads_eq hN (p := 0) (by omega) mb (by rw [Fab.1 8 (fun z => nomatch z)]; exact G8)
  have Mc : fM liR [1] G gc := (Fab.mono (li2 := liR) (la2 := [1]) (fun z hz => nomatch hz) (fun z hz => hz)).trans (Fc.mono (by decide) (fun z hz => nomatch hz))
  have Rc : RB (zB s) N 0 gc := ⟨mb.keep Fc (by decide) (fun z => nomatch z), by rw [Fc.1 12 (by decide), Fab.1 12 (fun z => nomatch z)]; exact G12, tc⟩
  have d16 : gc.1 16 = 0 := by rw [Fc.1 16 (by decide), Fab.1 16 (fun z => nomatch z)]; exact G16
  have hz : ∀ j, j < 12 ∨ 18 ≤ j ∧ j < 2850 → gc.2.1 1 j = 0 := fun j hj => by rw [Fc.row 1 (fun z => nomatch z), zb j (by omega), za j (by omega) (by omega)]
  have hw1 : ∀ j, j < 6 → gc.2.1 1 (12 + j) = 1 := fun j hj => by rw [Fc.row 1 (fun z => nomatch z)]; exact wb j (by omega) hj
  have eM' : fX12_board g (nI N) = headM gc := by rw [eM, ea, eb, ec, bndv_s]
  -- the class up to the first token
  have eC : fX11_board P h (nI N) = bndc (fX3_read P (tI h 0 1 (0 : Int32)) (nI N)) (fun P1 g1 => fX11_board_35 P1 (fun g2 r => some ((Sum.inr r : Nat ⊕ Int32), P1, g2)) (fun g2 r => some ((Sum.inr r : Nat ⊕ Int32), P1, g2)) g1) := by
    unfold fX11_board
    rw [if_neg (show ¬ nI N < 0 from by rw [l_0, nI_ltI (by omega) (by omega)]; omega), x3, if_pos (nI_le hNL (by omega))]
  have rc := rd0_c (tI h 0 1 (0 : Int32))
  have rf := rd0_f (tI h 0 1 (0 : Int32))
  have rr := rd0_r (tI h 0 1 (0 : Int32))
  have rrow : (rd0 (tI h 0 1 (0 : Int32))).2.1 = h.2.1 := rfl
  have hread : fX3_read P (tI h 0 1 (0 : Int32)) (nI N) = bndv (fX8_begin P (rd0 (tI h 0 1 (0 : Int32))) (nI N)) (fun g9 => bndv (fX3_readBoard P g9) (fun g10 => fX3_read_63 P fuel P g10 (0 : Int32))) := read_rd0
  generalize rd0 (tI h 0 1 (0 : Int32)) = hb at *
  have F1 : fC [(5, 1), (5, 2)] [] [] hb (tI (tI hb 5 1 (nI N)) 5 2 0) := ((fC.refl hb).tI (by decide)).tI (by decide)
  have cb : CB (zB s) N (tI (tI hb 5 1 (nI N)) 5 2 0) := ⟨by rw [tI_n (by omega)]; exact tI_s, fun k hk => ⟨by show hb.2.1 1 k = _; rw [rrow]; exact x4 k (by omega), hs.2.2.2 k (by omega)⟩⟩
  obtain ⟨hc, ehc, tkc, Fhc⟩ := step_eq (P := P) hN (p := 0) (by omega) cb tI_s
  have ebg : fX8_begin P hb (nI N) = some hc := by
    unfold fX8_begin
    rw [l_900, jmin_n (by omega) (by omega), if_neg (by omega), bnd_e, bnd_e, ehc, bndv_s]
  have Fbc : fC ((5, 1) :: (5, 2) :: lcI) [] [] hb hc := (F1.mono (by decide) (by decide) (by decide)).trans (Fhc.mono (by decide) (by decide) (by decide))
  have Kc : CK (zB s) N 0 hc := ⟨cb.keep Fhc (by decide) (by decide), tkc, by rw [Fbc.i 4 2 (by decide)]; exact rc.1, by rw [Fbc.i 4 3 (by decide)]; exact rc.2.1⟩
  have h42 : ∀ k, k ≠ 9 → k ≠ 10 → k ≠ 11 → hc.2.2.2 4 k = h.2.2.2 4 k := fun k n9 n10 n11 => by rw [Fbc.2.2.2, rr, if_pos rfl, if_neg n11, if_neg n10, if_neg n9]; rfl
  have h4s : ∀ k, k = 9 ∨ k = 10 ∨ k = 11 → hc.2.2.2 4 k = hc.2.2.2 4 12 := fun k hk => by
    rw [h42 12 (by omega) (by omega) (by omega), Fbc.2.2.2, rr, if_pos rfl]
    rcases hk with q | q | q <;> subst q <;> rfl
  have ho4 : ∀ o, o ≠ 4 → hc.2.2.2 o = h.2.2.2 o := fun o ho => funext fun k => by rw [Fbc.2.2.2, rr, if_neg ho]; rfl
  have huc : inP P (hc.2.2.2 4 12) [] := by rw [h42 12 (by omega) (by omega) (by omega)]; exact x8
  have hwc : wfL P hc = true := by
    refine wfL_up x7 (Nat.le_refl _) (fun o k => ?_)
    by_cases e : o = 4
    · subst e
      by_cases e9 : k = 9 ∨ k = 10 ∨ k = 11
      · refine Or.inr ?_
        rw [h4s k e9, h42 12 (by omega) (by omega) (by omega)]
        exact wfL_42 x7
      · exact Or.inl (h42 k (by omega) (by omega) (by omega))
    · rw [ho4 o e]; exact Or.inl rfl
  have fPc : fP (tI h 0 1 (0 : Int32)) hc := rf.trans (fP.of Fbc (by decide) (by decide))
  obtain ⟨gd, hd, e1, e2, Md, fd, rd, od⟩ := head_both (P := P) hN Rc d16 hz hw1 Kc (by rw [Fbc.i 4 5 (by decide)]; exact rc.2.2.1) (by rw [Fbc.i 4 6 (by decide)]; exact rc.2.2.2.1) (by rw [Fbc.i 4 8 (by decide)]; exact rc.2.2.2.2) ⟨h4s 9 (by omega), h4s 10 (by omega), h4s 11 (by omega)⟩ huc hwc
  -- the lines
  have big : ∃ ge P' he, fX12_board_123 fuel gd = fX12_board_144 ge ∧ fX3_read_63 P fuel P hd (0 : Int32) = some (P', he) ∧ fM liR [1] G ge ∧ fP (tI h 0 1 (0 : Int32)) he ∧ (∀ o, o ≠ 4 → he.2.2.2 o = h.2.2.2 o) ∧ PX P P' 900 ∧ ((∃ p b ln, PJ (zB s) N p b ln P' ge he) ∨ (∃ f l, FS f l ge ∧ FH f l he ∧ wfL P' he = true ∧ inP P' (he.2.2.2 4 12) [])) := by
    rcases od with ⟨p, b, ln, pj⟩ | ⟨f, l, H, H'⟩
    · obtain ⟨ge, P', he, q1, q2, q3, q4, q5, q6, q7⟩ := lines_both (P0 := P) hN (N - p) p fuel fuel gd hd P 0 b ln rfl (by unfold fuel; omega) (by unfold fuel; omega) (by have := pj.1.2.1; omega) pj (PX.refl P p)
      exact ⟨ge, P', he, q1, q2, (Mc.trans Md).trans q3, (fPc.trans fd).trans q4, fun o ho => by rw [q5 o ho, rd, ho4 o ho], q6, q7⟩
    · refine ⟨gd, P, hd, ?_, ?_, Mc.trans Md, fPc.trans fd, fun o ho => by rw [rd, ho4 o ho], PX.refl P 900, Or.inr ⟨f, l, H, H', wfL.of hwc rd, by rw [rd]; exact huc⟩⟩
      · rw [show fuel = fuel - 1 + 1 by unfold fuel; omega, fX12_board_123, if_neg H.bad]
      · rw [show fuel = fuel - 1 + 1 by unfold fuel; omega, fX3_read_63, if_neg (by decide), if_neg H'.bad]
  obtain ⟨ge, P', he, q1, q2, q3, q4, q5, q6, q7⟩ := big
  have Mg : fM ([4, 6, 7, 14, 15] ++ liR) [1] g ge := (GF.mono (fun z hz => hz) (fun z hz => nomatch hz)).trans (q3.mono (by decide) (fun z hz => hz))
  obtain ⟨r, g', h', s', T', r1, r2, r3, r4, r5, r6, r7, r8⟩ := board_fin (P' := P') hN hs hMM hCC hT (Mg.mono (fun z hz => hz) (by decide)) (by rw [Mg.row 0 (by decide)]; exact m1) (by rw [q3.1 6 (by decide)]; exact G6) (by rw [q3.1 4 (by decide)]; exact G4) (fun o k n0 n4 n5 n6 => by
      rw [q4.1 o k n4 n5 n6]
      by_cases e : o = 0
      · have := n0 e
        subst e
        subst this
        exact tI_n (by omega)
      · exact tI_o e) (by rw [q4.1 0 1 (by omega) (by omega) (by omega)]; exact tI_s) (fun a ha => by rw [q4.2.1 a ha]; rfl) (by rw [q4.2.2]; rfl) q5 q6 q7
  refine ⟨r, g', P', h', s', T', ?_, ?_, r3, r4, r5, r6, r7, r8, q6⟩
  · rw [eM', e1, q1]; exact r1
  · rw [eC, hread, ebg, bndv_s, e2, bndv_s, q2, bndc_s]; exact r2
end
