/-! ===== operands and links taken ===== -/
section
variable {P : PL} {g : CS} {B : Nat → Nat} {N law : Nat} {C : Cf}
theorem encC_num {v : Nat} (h : v ≤ 999) : encC (1000 + v) = nI v := by
  unfold encC
  rw [if_neg (by omega), if_neg (by omega), if_neg (by omega), if_neg (by omega), if_neg (by omega), if_neg (by omega), if_neg (by omega), if_neg (by omega), if_neg (by omega), if_neg (by omega), if_neg (by omega), if_neg (by omega), if_neg (by omega), show 1000 + v - 1000 = v by omega]
theorem opEmit {x : Nat} {v : Int32} (hv : v = encC x) (hN : N ≤ 900) (hC : IC N C) (ht : tKd (tok B N (kP C)) ≠ 0) (hM : CMt B N law (tok B N (kP C)) C g) : Ev (fX2_takeOperand_31 P g v) (Tkn B N law (tok B N (kP C)) C (tEn (tok B N (kP C)), kC C ++ [x], kW C, kS C, false, kU C, 0, 0) g) := by
  obtain ⟨r1, r2, r3, r4, r5, r6, r7, r8⟩ := tok_rng B N (kP C) hC.1
  have r5 := r5 ht
  have hl := hC.2.1
  have hMM := hM
  obtain ⟨m1, m2, m3, m4, m5, m6, m7, m8⟩ := hM
  unfold fX2_takeOperand_31
  rw [emit_eq m4.1 (by omega), bndv_s, bnd_e, hv]
  have F : fC wrI wrA [] g (tI (tI (tA g 7 (kC C).length (encC x)) 6 1 (nI ((kC C).length + 1))) 6 9 0) := (((fC.refl g).tA (by decide)).tI (by decide)).tI (by decide)
  have kb := hMM.keepB F
  refine ev_some.mpr ⟨F, 0, by omega, rfl, fun _ => ⟨rfl, rfl, kb.1, kb.2.1, kb.2.2, ⟨?_, ?_, ?_, m4.2.2.2.1.keep (fun i _ => ⟨rfl, rfl⟩), ?_⟩, ?_, ?_, tI_s, fun z => absurd (show false = true from z) (by decide)⟩, fun z => absurd rfl z⟩
  · show _ = nI (kC C ++ [x]).length
    rw [tI_n (by omega), List.length_append]
    exact tI_s
  · exact CR.snoc m4.2.1
  · rw [tI_n (by omega), tI_n (by omega)]; exact m4.2.2.1
  · rw [tI_n (by omega), tI_n (by omega)]; exact m4.2.2.2.2
  · rw [tI_n (by omega), tI_n (by omega)]; exact m5
  · rw [tI_n (by omega), tI_n (by omega)]; exact m6
theorem takeOp_eq (hN : N ≤ 900) (hlaw : law ≤ 2) (hO : kO C = true) (hC : IC N C) (hM : CMt B N law (tok B N (kP C)) C g) : Ev (fX2_takeOperand P g) (Tkn B N law (tok B N (kP C)) C (opS B N law C) g) := by
  obtain ⟨r1, r2, r3, r4, r5, r6, r7, r8⟩ := tok_rng B N (kP C) hC.1
  have hMM := hM
  obtain ⟨m1, m2, m3, m4, m5, m6, m7, m8⟩ := hM
  have h10 := m8 hO
  have W : ∀ i, (tx i).length < 100 → fX8_isWord P g i = some (nI (isW B (tok B N (kP C)) (tx i)).toNat, g) := fun i hi => cWord_eq hN hC.1 m1 m2 i hi
  have S : ∀ c, c < 256 → fX8_isSignOf P g (nI c) = some (nI (isS (tok B N (kP C)) c).toNat, g) := fun c hc => cSign_eq hC.1 m2 hc
  have t1 : nI true.toNat ≠ (0 : Int32) := by decide
  have t0 : nI false.toNat = (0 : Int32) := rfl
  unfold fX2_takeOperand
  rw [name_eq hN hlaw hC.1 m1 m2 m3, bndc_s, m2.2.2.1, l_2, iEQ (by omega) (by omega)]
  unfold opS
  rcases nmO_rng (B := B) (law := law) (tok B N (kP C)) with hn | ⟨n1, n2, n3⟩
  · -- no name
    have en : encN (nmO B law (tok B N (kP C))) = 0 := by unfold encN; rw [if_pos hn]
    by_cases c2 : tKd (tok B N (kP C)) = 2
    · have eo : opO B law (tok B N (kP C)) = 1000 + tVl (tok B N (kP C)) := by unfold opO; rw [if_neg (fun z => z hn), if_pos c2]
      rw [if_pos c2, if_pos (show opO B law (tok B N (kP C)) ≠ 0 by omega), en]
      unfold fX2_takeOperand_18
      rw [if_pos rfl, m2.2.2.2 (Or.inl c2)]
      exact opEmit (by rw [eo, encC_num (r6 c2)]) hN hC (by omega) hMM
    · have eo : opO B law (tok B N (kP C)) = 0 := by unfold opO; rw [if_neg (fun z => z hn), if_neg c2]
      rw [if_neg c2, en, if_pos rfl, if_neg (show ¬ opO B law (tok B N (kP C)) ≠ 0 from fun z => z eo), h10]
      have last : Ev (fX2_takeOperand_87 P g) (Tkn B N law (tok B N (kP C)) C (if isS (tok B N (kP C)) 40 = true then opnC C (tok B N (kP C)) 1 else fltC C (tok B N (kP C)) 2) g) := by
        unfold fX2_takeOperand_87
        rw [show (40 : Int32) = nI 40 from rfl, S 40 (by omega), bndc_s]
        cases c40 : isS (tok B N (kP C)) 40 with
        | true =>
          rw [if_neg t1, if_pos rfl, bndc_id]
          exact open_eq (o := 1) (by omega) hO hC hMM
        | false =>
          rw [if_pos t0, if_neg (show ¬ false = true by decide)]
          exact ev_some.mpr ⟨fC.refl g, 2, by omega, rfl, fun z => absurd z (by decide), fun _ => ⟨rfl, rfl⟩⟩
      unfold fX2_takeOperand_64
      rw [h10]
      cases cu : kU C with
      | false =>
        rw [if_pos t0, if_pos t0, if_neg (fun z => absurd z.1 (by decide)), if_neg (fun z => absurd z.1 (by decide))]
        exact last
      | true =>
        rw [if_neg t1, W 13 (by decide), bndc_s]
        cases c13 : isW B (tok B N (kP C)) (tx 13) with
        | true =>
          rw [if_neg t1, if_pos ⟨rfl, rfl⟩, bndc_id]
          exact open_eq (o := 18) (by omega) hO hC hMM
        | false =>
          rw [if_pos t0, h10, cu, if_neg t1, if_neg (fun z => absurd z.2 (by decide)), show (91 : Int32) = nI 91 from rfl, S 91 (by omega), bndc_s]
          cases c91 : isS (tok B N (kP C)) 91 with
          | true =>
            rw [if_neg t1, if_pos ⟨rfl, rfl⟩, bndc_id]
            exact open_eq (o := 2) (by omega) hO hC hMM
          | false =>
            rw [if_pos t0, if_neg (fun z => absurd z.2 (by decide))]
            exact last
  · have en : encN (nmO B law (tok B N (kP C))) = encC (nmO B law (tok B N (kP C))) := by unfold encN; rw [if_neg (by omega)]
    have eo : opO B law (tok B N (kP C)) = nmO B law (tok B N (kP C)) := by unfold opO; rw [if_pos (by omega)]
    have ne0 : ¬ encC (nmO B law (tok B N (kP C))) = 0 := (by decide +kernel : ∀ x, x < 104 → 100 ≤ x → ¬ encC x = 0) _ (by omega) n1
    rw [if_neg (by omega), en, if_neg ne0, if_pos (show opO B law (tok B N (kP C)) ≠ 0 by omega)]
    unfold fX2_takeOperand_18
    rw [if_neg ne0]
    exact opEmit (by rw [eo]) hN hC (by omega) hMM
theorem link_eq {o : Nat} (ho : 10 ≤ o ∧ o ≤ 17) (hC : IC N C) (hN : N ≤ 900) (hM : MK (kC C) (kW C) g) (h6 : g.1 6 6 = nI (kS C)) : Ev (fX2_link P g (encW o)) (fun g' => MK (unw (bd o) (kW C) (kC C)).1 ((o, kS C) :: (unw (bd o) (kW C) (kC C)).2) g' ∧ g'.1 6 9 = 1 ∧ fC [(6, 1), (6, 4), (6, 7), (6, 9)] wrA [] g g') := by
  have hl := hC.2.1
  have hb := bd_op (o := o) (by omega)
  have hb6 := bd_le o
  have hul := unw_len (bd o) (kW C) (kC C)
  have h48 := okW_64 hC.2.2.1 hC.2.2.2.1
  have hp := hC.1
  unfold fX2_link
  rw [encW_bd (by omega), bndv_s]
  refine Ev.v (unwind_eq hb hb6 hM (by omega) hC.2.2.1 hC.2.2.2.1) ?_
  rintro g1 ⟨a1, f1⟩
  have e6 : g1.1 6 6 = nI (kS C) := by rw [f1.i 6 6 (by decide)]; exact h6
  have hlen : (unw (bd o) (kW C) (kC C)).2.length ≤ 48 := okW_64 (unw_ok _ _ _ hC.2.2.1) (Nat.le_trans (unw_wi _ _ _) hC.2.2.2.1)
  rw [push2_eq a1.2.2.1 (by omega), bndv_s, bnd_e, e6]
  have F : fC [(6, 1), (6, 4), (6, 7), (6, 9)] wrA [] g (tI (tI (tA (tA g1 8 (unw (bd o) (kW C) (kC C)).2.length (encW o)) 9 (unw (bd o) (kW C) (kC C)).2.length (nI (kS C))) 6 4 (nI ((unw (bd o) (kW C) (kC C)).2.length + 1))) 6 9 1) := ((((f1.mono (by decide) (by decide) (by decide)).tA (by decide)).tA (by decide)).tI (by decide)).tI (by decide)
  refine ev_some.mpr ⟨⟨?_, a1.2.1, ?_, ⟨?_, ?_, a1.2.2.2.1.keep (fun i hi => ⟨?_, ?_⟩)⟩, ?_⟩, tI_s, F⟩
  · rw [tI_n (by omega), tI_n (by omega)]; exact a1.1
  · rw [tI_n (by omega)]; exact tI_s
  · show upd (g1.2.1 8) _ (encW o) _ = _
    rw [upd_j, if_pos rfl]
  · show upd (g1.2.1 9) _ (nI (kS C)) _ = _
    rw [upd_j, if_pos rfl]
  · show upd (g1.2.1 8) _ (encW o) i = _
    rw [upd_j, if_neg (by omega)]
  · show upd (g1.2.1 9) _ (nI (kS C)) i = _
    rw [upd_j, if_neg (by omega)]
  · have e : opn? o = false := decide_eq_false (by omega)
    show _ = nI (wi (unw (bd o) (kW C) (kC C)).2 + (opn? o).toNat)
    rw [tI_n (by omega), tI_n (by omega), e]
    exact a1.2.2.2.2
theorem br_lnk {o s : Nat} (ho : 10 ≤ o ∧ o ≤ 17) : br ((o, s) :: (unw (bd o) (kW C) (kC C)).2) = br (kW C) := by
  have e : brk? o = false := decide_eq_false (by omega)
  show br (unw (bd o) (kW C) (kC C)).2 + (brk? o).toNat = _
  rw [e, unw_br _ (bd_op (by omega))]
  rfl
theorem close_eq (hC : IC N C) (hN : N ≤ 900) (hb : 0 < br (kW C)) (hM : CMt B N law (tok B N (kP C)) C g) (hO : kO C = false) : Ev (fX2_takeLink_115 P g) (Tkn B N law (tok B N (kP C)) C (clsC C (tok B N (kP C))) g) := by
  have hMM := hM
  obtain ⟨m1, m2, m3, m4, m5, m6, m7, m8⟩ := hM
  have hl := hC.2.1
  have hp := hC.1
  have hbw := br_le (kW C)
  have hw6 := hC.2.2.2.1
  have hok := unw_ok 1 (kW C) (kC C) hC.2.2.1
  have hbr := unw_br 1 (by omega) (kW C) (kC C)
  have hwi := unw_wi 1 (kW C) (kC C)
  obtain ⟨e, W', hW, he⟩ := br_cons_pos (W := (unw 1 (kW C) (kC C)).2) (by omega) hok (unw_tb 1 (by omega) _ _)
  have hlen : (unw 1 (kW C) (kC C)).2.length ≤ 48 := okW_64 hok (Nat.le_trans hwi hw6)
  unfold fX2_takeLink_115 fX2_close
  refine ev_bndv.mpr ?_
  refine Ev.v (unwind_eq (n := 1) (by omega) (by omega) m4 (by omega) hC.2.2.1 hw6) ?_
  rintro g1 ⟨a1, f1⟩
  unfold clsC
  rw [hW] at a1 hok hwi hbr hlen ⊢
  obtain ⟨b1, b2, b3, ⟨b4, b5, b6⟩, b7⟩ := a1
  simp only [List.length_cons] at b3 hlen
  have hE := hok.head
  have hopn : opn? e.1 = true := decide_eq_true (by have := of_decide_eq_true he; omega)
  have hbe : br (e :: W') = br W' + 1 := by show br W' + (brk? e.1).toNat = _; rw [he]; rfl
  have hwe : wi (e :: W') = wi W' + 1 := by show wi W' + (opn? e.1).toNat = _; rw [hopn]; rfl
  rw [b3, if_neg (show ¬ nI (W'.length + 1) ≤ 0 from nI_ge (a := 0) (by omega) (by omega)), nI_pred, bnd_e]
  have x4 : (tI g1 6 4 (nI W'.length)).1 6 4 = nI W'.length := tI_s
  rw [x4]
  refine Ev.k (ib_n (by omega) (by omega)) ?_
  have x8 : (tI g1 6 4 (nI W'.length)).2.1 8 (ix (nI W'.length)) = encW e.1 := by rw [ix_n (by omega)]; exact b4
  have x9 : (tI g1 6 4 (nI W'.length)).2.1 9 (ix (nI W'.length)) = nI e.2 := by rw [ix_n (by omega)]; exact b5
  rw [x8, x9]
  -- the end of it, the side being sd
  have fin : ∀ sd : Nat, sd = (if e.1 = 2 then 3 else e.2) → Ev (fX2_close_50 P (tI g1 6 4 (nI W'.length)) (nI sd)) (fun q => Ev (some ((0 : Int32), q)) (Tkn B N law (tok B N (kP C)) C (tEn (tok B N (kP C)), (unw 1 (kW C) (kC C)).1, (e :: W').tail, (if ((e :: W').headD (0, 0)).1 = 2 then 3 else ((e :: W').headD (0, 0)).2), false, kU C, 0, 0) g)) := by
    intro sd hsd
    unfold fX2_close_50 fX2_close_53
    rw [bnd_e, bnd_e, bnd_e]
    have y8 : (tI (tI g1 6 4 (nI W'.length)) 6 6 (nI sd)).1 6 8 = nI (br W' + 1) := by rw [tI_n (by omega), tI_n (by omega), f1.i 6 8 (by decide), m6, ← hbr, hbe]
    rw [y8, nI_pred]
    have y7 : (tI (tI (tI g1 6 4 (nI W'.length)) 6 6 (nI sd)) 6 8 (nI (br W'))).1 6 7 = nI (wi W' + 1) := by rw [tI_n (by omega), tI_n (by omega), tI_n (by omega), b7, hwe]
    rw [y7, nI_pred]
    have F : fC wrI wrA [] g (tI (tI (tI (tI g1 6 4 (nI W'.length)) 6 6 (nI sd)) 6 8 (nI (br W'))) 6 7 (nI (wi W'))) := ((((f1.mono (by decide) (by decide) (by decide)).tI (by decide)).tI (by decide)).tI (by decide)).tI (by decide)
    have kb := hMM.keepB F
    refine ev_some.mpr (ev_some.mpr ⟨F, 0, by omega, rfl, fun _ => ⟨rfl, rfl, kb.1, kb.2.1, kb.2.2, ⟨?_, b2, ?_, b6.keep (fun i _ => ⟨rfl, rfl⟩), tI_s⟩, ?_, ?_, ?_, fun z => absurd (show false = true from z) (by decide)⟩, fun z => absurd rfl z⟩)
    · rw [tI_n (by omega), tI_n (by omega), tI_n (by omega), tI_n (by omega)]; exact b1
    · rw [tI_n (by omega), tI_n (by omega), tI_n (by omega)]; exact tI_s
    · show _ = nI (if e.1 = 2 then 3 else e.2)
      rw [tI_n (by omega), tI_n (by omega), ← hsd]; exact tI_s
    · show _ = nI (br W')
      rw [tI_n (by omega)]; exact tI_s
    · show _ = nI false.toNat
      rw [tI_n (by omega), tI_n (by omega), tI_n (by omega), tI_n (by omega), f1.i 6 9 (by decide), m7, hO]
  by_cases c2 : e.1 = 2
  · rw [if_pos ((encW_sq hE.1).mpr c2)]
    exact fin 3 (by rw [if_pos c2])
  · rw [if_neg (fun z => c2 ((encW_sq hE.1).mp z))]
    refine Ev.k (ib_n (by omega) (by omega)) ?_
    exact fin e.2 (by rw [if_neg c2])
theorem encL (t : Tk) (h : tKd t = 3) (hv : tVl t < 256) : fX2_linkOf (nI (tVl t)) = some (if lkO t = 0 then 0 else encW (lkO t)) := by
  have key : ∀ v, v < 256 → fX2_linkOf (nI v) = some (if (if v = 43 then 10 else if v = 45 then 11 else if v = 42 then 12 else if v = 61 then 13 else if v = 60 then 14 else if v = 62 then 15 else 0) = 0 then 0 else encW (if v = 43 then 10 else if v = 45 then 11 else if v = 42 then 12 else if v = 61 then 13 else if v = 60 then 14 else if v = 62 then 15 else 0)) := by decide +kernel
  unfold lkO
  rw [if_pos h]
  exact key _ hv
theorem lnk_out {o s : Nat} {u : Bool} {v : Int32} (ho : 10 ≤ o ∧ o ≤ 17) (hs : s ≤ 3) (hC : IC N C) (hN : N ≤ 900) (hM : CMt B N law (tok B N (kP C)) C g) {k : CS → Option (Int32 × CS)} (hk : ∀ g1 : CS, g1.1 6 6 = nI (kS C) → k g1 = some ((0 : Int32), tI (tI g1 6 6 (nI s)) 6 10 (nI u.toNat))) (hv : v = encW o) : Ev (bndv (fX2_link P g v) k) (Tkn B N law (tok B N (kP C)) C (lnkC C (tok B N (kP C)) o s u) g) := by
  have hMM := hM
  obtain ⟨m1, m2, m3, m4, m5, m6, m7, m8⟩ := hM
  rw [hv]
  refine Ev.v (link_eq ho hC hN m4 m5) ?_
  rintro g1 ⟨a1, a2, f1⟩
  rw [hk g1 (by rw [f1.i 6 6 (by decide)]; exact m5)]
  have F : fC wrI wrA [] g (tI (tI g1 6 6 (nI s)) 6 10 (nI u.toNat)) := ((f1.mono (by decide) (by decide) (by decide)).tI (by decide)).tI (by decide)
  have kb := hMM.keepB F
  refine ev_some.mpr ⟨F, 0, by omega, rfl, fun _ => ⟨rfl, rfl, kb.1, kb.2.1, kb.2.2, a1.keep (oi := [(6, 6), (6, 10)]) (la := []) (ll := []) (((fC.refl g1).tI (by decide)).tI (by decide)) (by decide) (by decide), ?_, ?_, ?_, fun _ => tI_s⟩, fun z => absurd rfl z⟩
  · show _ = nI s
    rw [tI_n (by omega)]; exact tI_s
  · show _ = nI (br ((o, kS C) :: (unw (bd o) (kW C) (kC C)).2))
    rw [br_lnk ho, tI_n (by omega), tI_n (by omega), f1.i 6 8 (by decide)]; exact m6
  · show _ = nI true.toNat
    rw [tI_n (by omega), tI_n (by omega), a2]; rfl
theorem takeLk_eq (hN : N ≤ 900) (hO : kO C = false) (hC : IC N C) (hM : CMt B N law (tok B N (kP C)) C g) : Ev (fX2_takeLink P g) (Tkn B N law (tok B N (kP C)) C (lkS B N C) g) := by
  obtain ⟨r1, r2, r3, r4, r5, r6, r7, r8⟩ := tok_rng B N (kP C) hC.1
  have hMM := hM
  obtain ⟨m1, m2, m3, m4, m5, m6, m7, m8⟩ := hM
  have hs3 := hC.2.2.2.2.1
  have hbw := br_le (kW C)
  have hw6 := hC.2.2.2.1
  have W : ∀ i, (tx i).length < 100 → fX8_isWord P g i = some (nI (isW B (tok B N (kP C)) (tx i)).toNat, g) := fun i hi => cWord_eq hN hC.1 m1 m2 i hi
  have S : ∀ c, c < 256 → fX8_isSignOf P g (nI c) = some (nI (isS (tok B N (kP C)) c).toNat, g) := fun c hc => cSign_eq hC.1 m2 hc
  have t1 : nI true.toNat ≠ (0 : Int32) := by decide
  have t0 : nI false.toNat = (0 : Int32) := rfl
  -- signs that link
  have p121 : Ev (fX2_takeLink_121 P g) (Tkn B N law (tok B N (kP C)) C (if lkO (tok B N (kP C)) = 0 then fltC C (tok B N (kP C)) 2 else if 13 ≤ lkO (tok B N (kP C)) then (if kS C = 1 then lnkC C (tok B N (kP C)) (lkO (tok B N (kP C))) 2 false else fltC C (tok B N (kP C)) 2) else (if kS C = 3 then fltC C (tok B N (kP C)) 2 else lnkC C (tok B N (kP C)) (lkO (tok B N (kP C))) (kS C) false)) g) := by
    unfold fX2_takeLink_121
    have bad : ∀ C', Tkn B N law (tok B N (kP C)) C (fltC C (tok B N (kP C)) 2) g ((2 : Int32), g) → C' = fltC C (tok B N (kP C)) 2 → Ev (some ((2 : Int32), g)) (Tkn B N law (tok B N (kP C)) C C' g) := fun C' h e => by rw [e]; exact ev_some.mpr h
    have b2 : Tkn B N law (tok B N (kP C)) C (fltC C (tok B N (kP C)) 2) g ((2 : Int32), g) := ⟨fC.refl g, 2, by omega, rfl, fun z => absurd z (by decide), fun _ => ⟨rfl, rfl⟩⟩
    rw [m2.2.2.1, l_3, iEQ (by omega) (by omega)]
    rcases lkO_rng (tok B N (kP C)) with q | ⟨q1, q2, q3⟩
    · rw [if_pos q]
      by_cases c3 : tKd (tok B N (kP C)) = 3
      · have hv := of_decide_eq_true (r7 c3)
        rw [if_pos c3, m2.2.2.2 (Or.inr c3), encL _ c3 (by omega), if_pos q, bndv_s]
        unfold fX2_takeLink_140
        rw [if_pos rfl]
        exact ev_some.mpr b2
      · rw [if_neg c3]
        unfold fX2_takeLink_140
        rw [if_pos rfl]
        exact ev_some.mpr b2
    · have hv := of_decide_eq_true (r7 q3)
      have ne0 : ¬ encW (lkO (tok B N (kP C))) = 0 := (by decide +kernel : ∀ x, x < 16 → 10 ≤ x → ¬ encW x = 0) _ (by omega) q1
      have ecmp : fX2_isComparison (encW (lkO (tok B N (kP C)))) = some (if 13 ≤ lkO (tok B N (kP C)) then 1 else 0) := (by decide +kernel : ∀ x, x < 16 → 10 ≤ x → fX2_isComparison (encW x) = some (if 13 ≤ x then 1 else 0)) _ (by omega) q1
      rw [if_pos q3, m2.2.2.2 (Or.inr q3), encL _ q3 (by omega), if_neg (show ¬ lkO (tok B N (kP C)) = 0 by omega), bndv_s, if_neg (show ¬ lkO (tok B N (kP C)) = 0 by omega)]
      unfold fX2_takeLink_140
      rw [if_neg ne0, ecmp, bndv_s]
      by_cases c13 : 13 ≤ lkO (tok B N (kP C))
      · rw [if_pos c13, if_pos c13, if_neg (by decide), m5, l_1, iEQ (by omega) (by omega)]
        by_cases cs : kS C = 1
        · rw [if_pos cs, if_pos cs]
          unfold fX2_takeLink_179 fX2_takeLink_198
          exact lnk_out (o := lkO (tok B N (kP C))) (s := 2) (u := false) ⟨q1, by omega⟩ (by omega) hC hN hMM (fun g1 _ => rfl) rfl
        · rw [if_neg cs, if_neg cs]
          exact ev_some.mpr b2
      · rw [if_neg c13, if_neg c13, if_pos rfl, m5, l_3, iEQ (by omega) (by omega)]
        by_cases cs : kS C = 3
        · rw [if_pos cs, if_pos cs]
          exact ev_some.mpr b2
        · rw [if_neg cs, if_neg cs]
          unfold fX2_takeLink_179 fX2_takeLink_198
          exact lnk_out (o := lkO (tok B N (kP C))) (s := kS C) (u := false) ⟨q1, by omega⟩ hs3 hC hN hMM (fun g1 h6 => by rw [if_pos rfl, h6]; rfl) rfl
  unfold lkS
  unfold fX2_takeLink fX2_takeLink_16
  rw [m5, l_2, iEQ (by omega) (by omega), l_3, iEQ (by omega) (by omega)]
  -- brackets, then the signs
  have p76w : (kS C = 2 ∨ kS C = 3) → Ev (fX2_takeLink_76 P g 1) (Tkn B N law (tok B N (kP C)) C (if 0 < br (kW C) ∧ ((kS C = 2 ∨ kS C = 3) ∧ isS (tok B N (kP C)) 93 = true ∨ kS C = 0 ∧ isS (tok B N (kP C)) 41 = true) then clsC C (tok B N (kP C)) else if lkO (tok B N (kP C)) = 0 then fltC C (tok B N (kP C)) 2 else if 13 ≤ lkO (tok B N (kP C)) then (if kS C = 1 then lnkC C (tok B N (kP C)) (lkO (tok B N (kP C))) 2 false else fltC C (tok B N (kP C)) 2) else (if kS C = 3 then fltC C (tok B N (kP C)) 2 else lnkC C (tok B N (kP C)) (lkO (tok B N (kP C))) (kS C) false)) g) := by
    intro hu
    unfold fX2_takeLink_76
    rw [m6]
    by_cases cb : 0 < br (kW C)
    · rw [if_neg (show ¬ nI (br (kW C)) ≤ 0 from nI_ge (a := 0) cb (by omega)), if_neg (by decide), show (93 : Int32) = nI 93 from rfl, S 93 (by omega), bndc_s]
      cases c93 : isS (tok B N (kP C)) 93 with
      | true =>
        rw [if_neg t1, if_pos ⟨cb, Or.inl ⟨hu, rfl⟩⟩]
        exact close_eq hC hN cb hMM hO
      | false =>
        rw [if_pos t0, if_neg (fun z => z.2.elim (fun w => absurd w.2 (by decide)) (fun w => by omega))]
        exact p121
    · rw [if_pos (show nI (br (kW C)) ≤ 0 by rw [show br (kW C) = 0 by omega]; decide), if_neg (fun z => cb z.1)]
      exact p121
  have p76n : ¬ (kS C = 2 ∨ kS C = 3) → Ev (fX2_takeLink_76 P g 0) (Tkn B N law (tok B N (kP C)) C (if 0 < br (kW C) ∧ ((kS C = 2 ∨ kS C = 3) ∧ isS (tok B N (kP C)) 93 = true ∨ kS C = 0 ∧ isS (tok B N (kP C)) 41 = true) then clsC C (tok B N (kP C)) else if lkO (tok B N (kP C)) = 0 then fltC C (tok B N (kP C)) 2 else if 13 ≤ lkO (tok B N (kP C)) then (if kS C = 1 then lnkC C (tok B N (kP C)) (lkO (tok B N (kP C))) 2 false else fltC C (tok B N (kP C)) 2) else (if kS C = 3 then fltC C (tok B N (kP C)) 2 else lnkC C (tok B N (kP C)) (lkO (tok B N (kP C))) (kS C) false)) g) := by
    intro hu
    unfold fX2_takeLink_76
    rw [m6]
    by_cases cb : 0 < br (kW C)
    · rw [if_neg (show ¬ nI (br (kW C)) ≤ 0 from nI_ge (a := 0) cb (by omega)), if_pos rfl, m5, i0 (by omega)]
      by_cases cs : kS C = 0
      · rw [if_pos cs, show (41 : Int32) = nI 41 from rfl, S 41 (by omega), bndc_s]
        cases c41 : isS (tok B N (kP C)) 41 with
        | true =>
          rw [if_neg t1, if_pos ⟨cb, Or.inr ⟨cs, rfl⟩⟩]
          exact close_eq hC hN cb hMM hO
        | false =>
          rw [if_pos t0, if_neg (fun z => z.2.elim (fun w => hu w.1) (fun w => absurd w.2 (by decide)))]
          exact p121
      · rw [if_neg cs, if_neg (fun z => z.2.elim (fun w => hu w.1) (fun w => cs w.1))]
        exact p121
    · rw [if_pos (show nI (br (kW C)) ≤ 0 by rw [show br (kW C) = 0 by omega]; decide), if_neg (fun z => cb z.1)]
      exact p121
  have whole : (kS C = 2 ∨ kS C = 3) → Ev (fX2_takeLink_21 P g 1) (Tkn B N law (tok B N (kP C)) C (if (kS C = 2 ∨ kS C = 3) ∧ (isW B (tok B N (kP C)) (tx 14) = true ∨ isW B (tok B N (kP C)) (tx 15) = true) then lnkC C (tok B N (kP C)) (if isW B (tok B N (kP C)) (tx 14) = true then 16 else 17) 1 true else if 0 < br (kW C) ∧ ((kS C = 2 ∨ kS C = 3) ∧ isS (tok B N (kP C)) 93 = true ∨ kS C = 0 ∧ isS (tok B N (kP C)) 41 = true) then clsC C (tok B N (kP C)) else if lkO (tok B N (kP C)) = 0 then fltC C (tok B N (kP C)) 2 else if 13 ≤ lkO (tok B N (kP C)) then (if kS C = 1 then lnkC C (tok B N (kP C)) (lkO (tok B N (kP C))) 2 false else fltC C (tok B N (kP C)) 2) else (if kS C = 3 then fltC C (tok B N (kP C)) 2 else lnkC C (tok B N (kP C)) (lkO (tok B N (kP C))) (kS C) false)) g) := by
    intro hu
    unfold fX2_takeLink_21 fX2_takeLink_44 fX2_takeLink_61
    rw [if_neg (by decide), W 14 (by decide), bndc_s]
    cases c14 : isW B (tok B N (kP C)) (tx 14) with
    | true =>
      rw [if_neg t1, W 14 (by decide), c14, bndc_s, if_neg t1, if_pos ⟨hu, Or.inl rfl⟩, if_pos rfl]
      exact lnk_out (o := 16) (s := 1) (u := true) ⟨by omega, by omega⟩ (by omega) hC hN hMM (fun g1 _ => rfl) rfl
    | false =>
      rw [if_pos t0, W 15 (by decide), bndc_s]
      cases c15 : isW B (tok B N (kP C)) (tx 15) with
      | true =>
        rw [if_neg t1, W 14 (by decide), c14, bndc_s, if_pos t0, if_pos ⟨hu, Or.inr rfl⟩, if_neg (show ¬ false = true by decide)]
        exact lnk_out (o := 17) (s := 1) (u := true) ⟨by omega, by omega⟩ (by omega) hC hN hMM (fun g1 _ => rfl) rfl
      | false =>
        rw [if_pos t0, if_neg (fun z => z.2.elim (fun w => absurd w (by decide)) (fun w => absurd w (by decide)))]
        exact p76w hu
  by_cases c2 : kS C = 2
  · rw [if_pos c2]; exact whole (Or.inl c2)
  rw [if_neg c2]
  by_cases c3 : kS C = 3
  · rw [if_pos c3]; exact whole (Or.inr c3)
  rw [if_neg c3]
  unfold fX2_takeLink_21
  rw [if_pos rfl, if_neg (fun z => z.1.elim c2 c3)]
  exact p76n (fun z => z.elim c2 c3)
theorem ends_eq (hC : IC N C) (hM : CMt B N law (tok B N (kP C)) C g) : fX3_lawEnds P g = some (nI (lEnd B N C).toNat, g) := by
  obtain ⟨m1, m2, m3, m4, m5, m6, m7, m8⟩ := hM
  have hs3 := hC.2.2.2.2.1
  have hbw := br_le (kW C)
  have hw6 := hC.2.2.2.1
  have no : ¬ (kO C = false ∧ br (kW C) = 0 ∧ kS C ≠ 1 ∧ isS (tok B N (kP C)) 59 = true) → nI (lEnd B N C).toNat = (0 : Int32) := fun h => by unfold lEnd; rw [decide_eq_false h]; rfl
  unfold fX3_lawEnds fX2_isWhole
  rw [m7]
  cases cO : kO C with
  | true =>
    rw [if_neg (show ¬ nI true.toNat = 0 by decide), bndc_s, if_pos rfl, no (fun z => by rw [cO] at z; exact absurd z.1 (by decide))]
  | false =>
    rw [if_pos (show nI false.toNat = 0 from rfl), m6, i0 (by omega)]
    by_cases cb : br (kW C) = 0
    · rw [if_pos cb, m5, l_1, iEQ (by omega) (by omega)]
      by_cases cs : kS C = 1
      · rw [if_pos cs, bndc_s, if_pos rfl, no (fun z => z.2.2.1 cs)]
      · rw [if_neg cs, bndc_s, if_neg (by decide), show (59 : Int32) = nI 59 from rfl, cSign_eq hC.1 m2 (by omega), bndc_s]
        cases c59 : isS (tok B N (kP C)) 59 with
        | true =>
          rw [if_neg (show ¬ nI true.toNat = 0 by decide)]
          unfold lEnd
          rw [decide_eq_true ⟨cO, cb, cs, c59⟩]
          rfl
        | false =>
          rw [if_pos (show nI false.toNat = 0 from rfl), no (fun z => by rw [c59] at z; exact absurd z.2.2.2 (by decide))]
    · rw [if_neg cb, bndc_s, if_pos rfl, no (fun z => cb z.2.1)]
/-- the class's cells at a configuration -/
def CM (B : Nat → Nat) (N law : Nat) (C : Cf) (g : CS) : Prop := IC N C ∧ CMt B N law (tok B N (kP C)) C g ∧ g.1 4 2 = nI (kF C) ∧ (kF C ≠ 0 → g.1 4 3 = nI (kL C)) ∧ (kF C = 0 → g.1 4 3 = -1)
def term (B : Nat → Nat) (N : Nat) (C : Cf) : Prop := kF C ≠ 0 ∨ lEnd B N C = true
theorem term_st (h : term B N C) : stC B N law C = C := by
  unfold stC
  by_cases c : kF C ≠ 0
  · rw [if_pos c]
  · rw [if_neg c]
    have he := h.resolve_left c
    have hO := (of_decide_eq_true he).1
    rw [if_neg (by rw [hO]; decide), if_pos he]
theorem term_it (h : term B N C) : ∀ k, itC B N law k C = C
  | 0 => rfl
  | k + 1 => by rw [itC_1, term_it h k, term_st h]
abbrev lwI : List (Nat × Nat) := [(4, 2), (4, 3), (5, 2), (5, 3), (5, 4), (5, 5), (6, 1), (6, 4), (6, 6), (6, 7), (6, 8), (6, 9), (6, 10)]
theorem one_eq (hN : N ≤ 900) (h0 : kF C = 0) {C' : Cf} {z : Int32 × CS} (hC : IC N C) (hC' : IC N C') (h4 : g.1 4 2 = nI 0) (h43 : g.1 4 3 = -1) (hM : CMt B N law (tok B N (kP C)) C g) (hT : Tkn B N law (tok B N (kP C)) C C' g z) {ρ : Type} {k23 : CS → Int32 → Option ρ} {k112 k122 : CS → Option ρ} {y : Int32} {Q : ρ → Prop} (kk : ∀ g', CM B N law C' g' → fC lwI wrA [] g g' → Ev (k23 g' (y + 1)) Q) : Ev (fX3_readLaw_79 P k23 k112 k122 z.2 y z.1) Q := by
  obtain ⟨f1, k, k4, e1, ok, no⟩ := hT
  obtain ⟨r1, r2, r3, r4, r5, r6, r7, r8⟩ := tok_rng B N (kP C) hC.1
  unfold fX3_readLaw_79
  rw [e1, i0 (by omega)]
  by_cases c : k = 0
  · obtain ⟨o1, o2, o3⟩ := ok c
    rw [if_pos c]
    obtain ⟨n1, n2, n3, n4, n5, n6, n7, n8⟩ := o3
    refine Ev.v (step_eq hN r3 n1 n2.1) ?_
    rintro g2 ⟨s1, s2⟩
    rw [bnd_e]
    have F : fC lwI wrA [] g g2 := (f1.mono (by decide) (by decide) (by decide)).trans (s2.mono (by decide) (by decide) (by decide))
    refine kk g2 ⟨hC', ⟨n1.keep s2 (by decide) (by decide), by rw [o2]; exact s1, by rw [s2.i 6 5 (by decide)]; exact n3, n4.keep s2 (by decide) (by decide), by rw [s2.i 6 6 (by decide)]; exact n5, by rw [s2.i 6 8 (by decide)]; exact n6, by rw [s2.i 6 9 (by decide)]; exact n7, fun z => by rw [s2.i 6 10 (by decide)]; exact n8 z⟩, ?_, fun z => absurd o1 z, fun _ => by rw [s2.i 4 3 (by decide), f1.i 4 3 (by decide)]; exact h43⟩ F
    rw [s2.i 4 2 (by decide), f1.i 4 2 (by decide), h4, o1]
  · obtain ⟨o1, o2⟩ := no c
    rw [if_neg c, o2]
    unfold fX3_refuse fX3_refuse_17
    have hMM := hM
    obtain ⟨n1, n2, n3, n4, n5, n6, n7, n8⟩ := hM
    have fin : ∀ kd : Nat, kd = (if tKd (tok B N (kP C)) = 4 then 1 else k) → Ev (bndv (bnd (tI g 4 2 (nI kd)) (fun g1 => bnd (tI g1 4 3 (g1.1 5 4)) (fun g2 => some g2))) (fun g1 => bnd (y + (1 : Int32)) (fun x2 => k23 g1 x2))) Q := by
      intro kd hkd
      rw [bnd_e, bnd_e, bndv_s, bnd_e]
      have e54 : (tI g 4 2 (nI kd)).1 5 4 = nI (tSt (tok B N (kP C))) := by rw [tI_o (by omega)]; exact n2.2.1
      rw [e54]
      have F : fC [(4, 2), (4, 3)] [] [] g (tI (tI g 4 2 (nI kd)) 4 3 (nI (tSt (tok B N (kP C))))) := ((fC.refl g).tI (by decide)).tI (by decide)
      refine kk _ ⟨hC', ?_, ?_, fun _ => ?_, fun z => ?_⟩ (F.mono (by decide) (by decide) (by decide))
      · rw [o1]
        exact ⟨n1.keep F (by decide) (by decide), n2.keep F (by decide), by rw [F.i 6 5 (by decide)]; exact n3, n4.keep F (by decide) (by decide), by rw [F.i 6 6 (by decide)]; exact n5, by rw [F.i 6 8 (by decide)]; exact n6, by rw [F.i 6 9 (by decide)]; exact n7, fun z => by rw [F.i 6 10 (by decide)]; exact n8 z⟩
      · rw [o1, tI_n (by omega)]
        show _ = nI (if tKd (tok B N (kP C)) = 4 then 1 else k)
        rw [← hkd]
        exact tI_s
      · rw [o1]
        exact tI_s
      · rw [o1] at z
        have z : (if tKd (tok B N (kP C)) = 4 then 1 else k) = 0 := z
        split at z <;> omega
    rw [n2.2.2.1, l_4, iEQ (by omega) (by omega)]
    by_cases c4 : tKd (tok B N (kP C)) = 4
    · rw [if_pos c4]
      exact fin 1 (by rw [if_pos c4])
    · rw [if_neg c4]
      exact fin k (by rw [if_neg c4])
theorem law_run (hN : N ≤ 900) (hlaw : law ≤ 2) {ρ : Type} {k112 k122 : CS → Option ρ} {Q : ρ → Prop} : ∀ k (C : Cf) (g g0 : CS) (f y : Nat), k < f → y + k < 900 → CM B N law C g → term B N (itC B N law k C) → fC lwI wrA [] g0 g → (∀ g', CM B N law (itC B N law k C) g' → fC lwI wrA [] g0 g' → Ev (fX3_readLaw_105 P k112 k122 g') Q) → Ev (fX3_readLaw_23 P k112 k122 f g (nI y)) Q := by
  intro k
  induction k with
  | zero =>
    intro C g g0 f y hf hy hM ht hF kk
    obtain ⟨f, rfl⟩ : ∃ f', f = f' + 1 := ⟨f - 1, by omega⟩
    have hC := hM.1
    have hk4 := hC.2.2.2.2.2
    rw [fX3_readLaw_23, if_neg (show ¬ (900 : Int32) ≤ nI y from nI_ge (b := 900) (by omega) (by omega)), hM.2.2.1, i0 (by omega)]
    by_cases c0 : kF C = 0
    · have he : lEnd B N C = true := ht.resolve_left (fun z => z c0)
      rw [if_pos c0, ends_eq hC hM.2.1, bndc_s, he, if_neg (show ¬ nI true.toNat = 0 by decide)]
      exact kk g hM hF
    · rw [if_neg c0]
      exact kk g hM hF
  | succ k ih =>
    intro C g g0 f y hf hy hM ht hF kk
    obtain ⟨f, rfl⟩ : ∃ f', f = f' + 1 := ⟨f - 1, by omega⟩
    have hC := hM.1
    have hk4 := hC.2.2.2.2.2
    by_cases hterm : term B N C
    · -- it has ended already
      rw [term_it hterm] at kk
      rw [fX3_readLaw_23, if_neg (show ¬ (900 : Int32) ≤ nI y from nI_ge (b := 900) (by omega) (by omega)), hM.2.2.1, i0 (by omega)]
      by_cases c0 : kF C = 0
      · rw [if_pos c0, ends_eq hC hM.2.1, bndc_s, hterm.resolve_left (fun z => z c0), if_neg (show ¬ nI true.toNat = 0 by decide)]
        exact kk g hM hF
      · rw [if_neg c0]
        exact kk g hM hF
    · have c0 : kF C = 0 := by
        by_cases c : kF C = 0
        · exact c
        · exact absurd (Or.inl c) hterm
      have ce : lEnd B N C = false := by
        cases h : lEnd B N C with
        | false => rfl
        | true => exact absurd (Or.inr h) hterm
      have h42 : g.1 4 2 = nI 0 := by rw [hM.2.2.1, c0]
      rw [fX3_readLaw_23, if_neg (show ¬ (900 : Int32) ≤ nI y from nI_ge (b := 900) (by omega) (by omega)), if_pos (show g.1 4 2 = 0 from h42), ends_eq hC hM.2.1, bndc_s, ce, if_pos (show nI false.toNat = 0 from rfl), hM.2.1.2.2.2.2.2.2.1]
      have st : IC N (stC B N law C) := hC.step
      have go : ∀ g', CM B N law (stC B N law C) g' → fC lwI wrA [] g g' → Ev (fX3_readLaw_23 P k112 k122 f g' (nI y + 1)) Q := by
        intro g' hM' hF'
        rw [nI_1]
        exact ih (stC B N law C) g' g0 f (y + 1) (by omega) (by omega) hM' ht (hF.trans hF') kk
      cases cO : kO C with
      | false =>
        rw [if_pos (show nI false.toNat = 0 from rfl)]
        have es : stC B N law C = lkS B N C := by unfold stC; rw [if_neg (fun z => z c0), if_neg (by rw [cO]; decide), if_neg (by rw [ce]; decide)]
        rw [es] at st go
        refine Ev.c (takeLk_eq hN cO hC hM.2.1) ?_
        intro r g1 hT
        exact one_eq hN c0 hC st h42 (hM.2.2.2.2 c0) hM.2.1 hT go
      | true =>
        rw [if_neg (show ¬ nI true.toNat = 0 by decide)]
        have es : stC B N law C = opS B N law C := by unfold stC; rw [if_neg (fun z => z c0), if_pos cO]
        rw [es] at st go
        refine Ev.c (takeOp_eq hN hlaw cO hC hM.2.1) ?_
        intro r g1 hT
        exact one_eq hN c0 hC st h42 (hM.2.2.2.2 c0) hM.2.1 hT go
end
