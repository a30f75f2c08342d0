/-! ===== a law's line on both sides ===== -/
def fP (h h' : CS) : Prop := (∀ o k, o ≠ 4 → o ≠ 5 → o ≠ 6 → h'.1 o k = h.1 o k) ∧ (∀ a, a ∉ wrA → h'.2.1 a = h.2.1 a) ∧ h'.2.2.1 = h.2.2.1
theorem fP.refl (h : CS) : fP h h := ⟨fun _ _ _ _ _ => rfl, fun _ _ => rfl, rfl⟩
theorem fP.trans {h h' h'' : CS} (a : fP h h') (b : fP h' h'') : fP h h'' := ⟨fun o k x y z => (b.1 o k x y z).trans (a.1 o k x y z), fun c hc => (b.2.1 c hc).trans (a.2.1 c hc), b.2.2.trans a.2.2⟩
theorem fP.of {h h' : CS} {oi : List (Nat × Nat)} {la : List Nat} (f : fC oi la [] h h') (h1 : ∀ q ∈ oi, q.1 = 4 ∨ q.1 = 5 ∨ q.1 = 6) (h2 : ∀ a ∈ la, a ∈ wrA) : fP h h' := ⟨fun o k a b c => f.i o k (fun z => by
  have q : o = 4 ∨ o = 5 ∨ o = 6 := h1 (o, k) z
  omega), fun a ha => f.2.1 a (fun z => ha (h2 a z)), funext fun a => f.2.2.1 a (fun z => nomatch z)⟩
theorem fP.tF {h h' : CS} {o k w : Nat} (a : fP h h') : fP h (tF h' o k w) := a
def lawMo (law : Nat) (g : MS) : Option MS := bndv (fX12_beginsLaw g (nI (law + 2)) (nI (149 + 900 * law))) (fun g1 => bndv ((if law = 0 then fX12_readTruth else fX12_readSum) g1) (fun g2 => fX12_readLine_93 g2))
def lawRd (P : PL) (h : CS) (law : Nat) : Option (Nat × PL × CS) := bndv (fX3_takeSign P h (58 : Int32)) (fun g12 => bndv (fX2_begin P g12 (nI law)) (fun g13 => fX3_readLaw_23 P (fun g => fX2_written P g) (fun g => chk (wfL P g) (some (g.2.2.2 4 12, P, g))) fuel g13 (0 : Int32)))
def lawCl (P : PL) (h : CS) (law : Nat) : Option (PL × CS) := bndc (lawRd P h law) (fun w q => fX3_endOf q.1 (tF q.2 4 (9 + law) w))
def KL (law : Nat) (x : List Nat) (k k' : Nat → Int32) : Prop := k' (law + 2) = nI x.length ∧ (∀ i, i < x.length → k' (149 + 900 * law + i) = nI (x.getD i 0)) ∧ k' 0 = k 0 + 1 ∧ ∀ j, j ≠ 0 → j ≠ law + 2 → (j < 149 + 900 * law ∨ 1049 + 900 * law ≤ j) → k' j = k j
abbrev bgI : List (Nat × Nat) := [(6, 1), (6, 4), (6, 5), (6, 6), (6, 7), (6, 8), (6, 9), (6, 10)]
section
variable {B : Nat → Nat} {N law p : Nat} {P : PL} {h : CS} {g : MS}
theorem lbeg_eq (hlaw : law ≤ 2) : Ev (fX2_begin P h (nI law)) (fun h' => h'.1 6 5 = nI law ∧ h'.1 6 1 = nI 0 ∧ h'.1 6 4 = nI 0 ∧ h'.1 6 7 = nI 0 ∧ h'.1 6 8 = nI 0 ∧ h'.1 6 9 = nI 1 ∧ h'.1 6 10 = nI (decide (law = 0)).toNat ∧ h'.1 6 6 = nI (if law = 0 then 1 else 0) ∧ fC bgI [] [] h h') := by
  unfold fX2_begin fX2_begin_40
  rw [bnd_e, bnd_e, bnd_e, bnd_e, bnd_e, bnd_e, i0 (by omega)]
  by_cases e : law = 0
  · rw [if_pos e, chk_tt (by decide), bnd_e, tI_s, if_neg (by decide), bnd_e, if_pos e, decide_eq_true e]
    refine ev_some.mpr ⟨?_, ?_, ?_, ?_, ?_, ?_, ?_, ?_, ((((((((fC.refl h).tI (by decide)).tI (by decide)).tI (by decide)).tI (by decide)).tI (by decide)).tI (by decide)).tI (by decide)).tI (by decide)⟩
    all_goals repeat (first | exact tI_s | rw [tI_n (by omega)])
  · rw [if_neg e, chk_tt (by decide), bnd_e, tI_s, if_pos rfl, bnd_e, if_neg e, decide_eq_false e]
    refine ev_some.mpr ⟨?_, ?_, ?_, ?_, ?_, ?_, ?_, ?_, ((((((((fC.refl h).tI (by decide)).tI (by decide)).tI (by decide)).tI (by decide)).tI (by decide)).tI (by decide)).tI (by decide)).tI (by decide)⟩
    all_goals repeat (first | exact tI_s | rw [tI_n (by omega)])
theorem CK.start (hlaw : law ≤ 2) (hp : p ≤ N) (k : CK B N p h) : Ev (fX2_begin P h (nI law)) (fun h' => CM B N law (st0 p law) h' ∧ fC bgI [] [] h h') := by
  refine (lbeg_eq hlaw).mono ?_
  rintro z ⟨a1, a2, a3, a4, a5, a6, a7, a8, f⟩
  have k' := k.keep f (by decide) (by decide)
  refine ⟨⟨st0_IC hp, ⟨k'.1, k'.2.1, a1, ⟨a2, fun i hi => absurd hi (Nat.not_lt_zero i), a3, trivial, a4⟩, a8, a5, a6, fun _ => a7⟩, k'.2.2.1, fun z => absurd rfl z, fun _ => k'.2.2.2⟩, f⟩
def ENc (B : Nat → Nat) (N : Nat) (C : Cf) : Prop := kS C ≠ 1 ∧ (kS C = 2 ∨ kS C = 3 → ¬ isW B (tok B N (kP C)) (tx 14) = true ∧ ¬ isW B (tok B N (kP C)) (tx 15) = true) ∧ (10 ≤ lkO (tok B N (kP C)) → lkO (tok B N (kP C)) ≤ 12 → kS C = 3)
theorem desc (hN : N ≤ 900) (hlaw : law ≤ 2) (hp : p ≤ N) (hR : RS B N law p [] 0 g) : Ev ((if law = 0 then fX12_readTruth else fX12_readSum) g) (fun g' => fL law g g' ∧ ((∃ k pend x, OKR B N law 1 (st0 p law) g' k pend x ∧ ENc B N (itC B N law k (st0 p law)) ∧ tyS x [] = some [decide (law = 0)]) ∨ BD B N law (st0 p law) g')) := by
  by_cases e : law = 0
  · rw [if_pos e]
    refine (truth_sp hN hlaw (st0 p law) g (st0_IC hp) rfl rfl (by show 0 < 1; omega) ⟨if_pos e, decide_eq_true e, by show 16 ≤ 16 + 2 * 0; omega⟩ hR).mono ?_
    rintro g' ⟨f, ⟨k, pend, x, o, z1, z2⟩ | b⟩
    · have y1 := z1.1.1.1
      have y2 := z1.1.1.2
      refine ⟨f, Or.inl ⟨k, pend, x, o, ⟨by omega, fun _ => ⟨z1.1.2, z1.2⟩, fun x1 x2 => ?_⟩, ?_⟩⟩
      · rcases y1 with y | y
        · exact absurd ⟨x1, x2⟩ (y2 y)
        · exact y
      · rw [decide_eq_true e]
        exact z2 [] (by show 0 + 18 ≤ 64 + 2 * 0; omega)
    · exact ⟨f, Or.inr b⟩
  · rw [if_neg e]
    refine (sum_sp hN hlaw (st0 p law) g (st0_IC hp) rfl rfl (by show 0 < 5; omega) ⟨by show (if law = 0 then 1 else 0) ≤ 2; rw [if_neg e]; omega, fun z => absurd (of_decide_eq_true z) e, by show 8 ≤ 12 + 0; omega⟩ hR).mono ?_
    rintro g' ⟨f, ⟨k, pend, x, ⟨o1, o2, o3, o4, o5, o6, o7⟩, z1, z2⟩ | b⟩
    · have y1 : kS (itC B N law k (st0 p law)) = 0 := by rw [z1.1]; exact if_neg e
      have y2 := z1.2
      refine ⟨f, Or.inl ⟨k, pend, x, ⟨o1, o2, o3, o4, fun q hq => Nat.le_trans (by omega) (o5 q hq), o6, o7⟩, ⟨by omega, fun z => by omega, fun x1 x2 => by omega⟩, ?_⟩⟩
      rw [decide_eq_false e]
      exact z2 [] (by show 0 + 15 ≤ 64 + 2 * 0; omega)
    · exact ⟨f, Or.inr b⟩
theorem wr_eq {C : Cf} {pend : WS} {x : List Nat} {t : Tk} (hN : N ≤ 900) (hM : CMt B N law t C h) (hC : IC N C) (hW : kW C = pend) (hb : ∀ e ∈ pend, 1 ≤ bd e.1) (hx : kC C ++ pend.map (fun e => e.1) = x) (hl : x.length < 900) (hw : wfL P h = true) : Ev (fX2_written P h) (fun r => r.1 = P.1 ∧ (∃ f, r.2.1 = pAdd P x.length f ∧ ∀ i, i < x.length → f i = encC (x.getD i 0)) ∧ fC uwI [7] [] h r.2.2) := by
  unfold fX2_written
  rw [l_1]
  have hl2 := hC.2.1
  have hl3 := hC.1
  refine Ev.v (unwind_eq (n := 1) (by omega) (by omega) hM.2.2.2.1 (by omega) hC.2.2.1 hC.2.2.2.1) ?_
  rintro z ⟨z1, z2⟩
  have hu := unw_pend pend [] (kC C) hb (by show 0 < 1; omega)
  rw [List.append_nil] at hu
  rw [hW, hu, hx] at z1
  have z1 : MK x [] z := z1
  refine Ev.k (wfL.of hw z2.2.2.2) (Ev.k (by rw [z1.1]; exact ib_n hl (by omega)) ?_)
  rw [z1.1, ix_n (by omega)]
  refine ev_some.mpr ⟨rfl, ⟨_, rfl, fun i hi => ?_⟩, z2⟩
  show (if 0 ≤ i ∧ i < 0 + x.length then z.2.1 7 (0 + (i - 0)) else 0) = _
  rw [if_pos ⟨by omega, by omega⟩, show 0 + (i - 0) = i by omega]
  exact z1.2.1 i hi
theorem br_pend : ∀ {W : WS}, (∀ e ∈ W, 1 ≤ bd e.1) → br W = 0
  | [], _ => rfl
  | e :: W, h => by
    have ih := br_pend (W := W) (fun q hq => h q (List.mem_cons_of_mem _ hq))
    have h1 := h e (List.mem_cons_self ..)
    show br W + (brk? e.1).toNat = 0
    cases q : brk? e.1 with
    | true => rw [bd_brk q] at h1; omega
    | false => rw [ih]; rfl
/-- the class at a fault of the machine -/
theorem lawR_bad (hN : N ≤ 900) (hlaw : law ≤ 2) (hp : 2 ≤ p) {k f l : Nat} (hM : CM B N law (st0 p law) h) (hw : wfL P h = true) (hf : kF (itC B N law k (st0 p law)) = f ∧ kL (itC B N law k (st0 p law)) = l ∧ f ≠ 0 ∧ f ≤ 4) (hk : k + p ≤ kP (itC B N law k (st0 p law)) + 1) : Ev (fX3_readLaw_23 P (fun g => fX2_written P g) (fun g => chk (wfL P g) (some (g.2.2.2 4 12, P, g))) fuel h (nI 0)) (fun r => r.1 = h.2.2.2 4 12 ∧ r.2.1 = P ∧ FH f l r.2.2 ∧ fC lwI wrA [] h r.2.2) := by
  have hI := hM.1.it (B := B) (law := law) k
  have := hI.1
  refine law_run hN hlaw k (st0 p law) h h fuel 0 (by unfold fuel; omega) (by omega) hM (Or.inl (by rw [hf.1]; exact hf.2.2.1)) (fC.refl h) ?_
  intro h' m F
  obtain ⟨m1, m2, m3, m4⟩ := m
  have H : FH f l h' := ⟨by rw [m3, hf.1], by rw [m4.1 (by rw [hf.1]; exact hf.2.2.1), hf.2.1], hf.2.2⟩
  unfold fX3_readLaw_105
  rw [if_neg H.bad]
  refine Ev.k (wfL.of hw F.2.2.2) (ev_some.mpr ⟨?_, rfl, H, F⟩)
  rw [F.2.2.2]
/-- the class at the end of a law -/
theorem lawR_ok (hN : N ≤ 900) (hlaw : law ≤ 2) (hp : 2 ≤ p) {k : Nat} {pend : WS} {x : List Nat} (hM : CM B N law (st0 p law) h) (hw : wfL P h = true) (hF : kF (itC B N law k (st0 p law)) = 0) (hE : lEnd B N (itC B N law k (st0 p law)) = true) (hk : k + p ≤ kP (itC B N law k (st0 p law))) (hW : kW (itC B N law k (st0 p law)) = pend) (hb : ∀ e ∈ pend, 1 ≤ bd e.1) (hx : kC (itC B N law k (st0 p law)) ++ pend.map (fun e => e.1) = x) (hl : x.length < 900) : Ev (fX3_readLaw_23 P (fun g => fX2_written P g) (fun g => chk (wfL P g) (some (g.2.2.2 4 12, P, g))) fuel h (nI 0)) (fun r => r.1 = P.1 ∧ (∃ f, r.2.1 = pAdd P x.length f ∧ ∀ i, i < x.length → f i = encC (x.getD i 0)) ∧ CK B N (kP (itC B N law k (st0 p law))) r.2.2 ∧ fC lwI wrA [] h r.2.2) := by
  have hI := hM.1.it (B := B) (law := law) k
  have := hI.1
  refine law_run hN hlaw k (st0 p law) h h fuel 0 (by unfold fuel; omega) (by omega) hM (Or.inr hE) (fC.refl h) ?_
  intro h' m F
  obtain ⟨m1, m2, m3, m4⟩ := m
  have e0 : h'.1 4 2 = 0 := by rw [m3, hF]; rfl
  unfold fX3_readLaw_105
  rw [if_pos e0]
  refine (wr_eq hN m2 hI hW hb hx hl (wfL.of hw F.2.2.2)).mono ?_
  rintro r ⟨r1, r2, r3⟩
  have K : CK B N (kP (itC B N law k (st0 p law))) h' := ⟨m2.1, m2.2.1, e0, m4.2 hF⟩
  exact ⟨r1, r2, K.keep r3 (by decide) (by decide), F.trans (r3.mono (by decide) (by decide) (by decide))⟩
theorem endOf_bad {f l : Nat} {w k : Nat} (H : FH f l h) : fX3_endOf P (tF h 4 k w) = some (P, tF h 4 k w) := by
  unfold fX3_endOf
  rw [end_bad (show ¬ (tF h 4 k w).1 4 2 = 0 from H.bad), bndv_s]
def LJ (B : Nat → Nat) (N law p : Nat) (P : PL) (g : MS) (h : CS) (g' : MS) (q : PL × CS) : Prop := fM liR [1] g g' ∧ fP h q.2 ∧
  ((∃ p' x, (p + 3 ≤ p' ∧ p' ≤ N ∧ x.length + p ≤ p' ∧ x.length < 900) ∧ (RB B N p' g' ∧ g'.1 16 = 0 ∧ KL law x (g.2.1 1) (g'.2.1 1)) ∧ tyS x [] = some [decide (law = 0)] ∧ (∃ f, q.1 = pAdd P x.length f ∧ ∀ i, i < x.length → f i = encC (x.getD i 0)) ∧ CK B N p' q.2 ∧ q.2.2.2.2 = (tF h 4 (9 + law) P.1).2.2.2 ∧ q.2.1 4 5 = h.1 4 5 + 1 ∧ ∀ k, k = 4 ∨ k = 6 ∨ k = 7 ∨ k = 8 → q.2.1 4 k = h.1 4 k)
   ∨ (∃ f l, FS f l g' ∧ FH f l q.2 ∧ q.1 = P ∧ q.2.2.2.2 = (tF h 4 (9 + law) (h.2.2.2 4 12)).2.2.2))
theorem tF_ref {h h' : CS} (e : h'.2.2.2 = h.2.2.2) (o k w : Nat) : (tF h' o k w).2.2.2 = (tF h o k w).2.2.2 := by
  unfold tF
  rw [e]
theorem law_both (hN : N ≤ 900) (hlaw : law ≤ 2) (hp : p ≤ N) (hp1 : 1 ≤ p) (hR : RB B N p g) (hd : g.1 16 = 0) (hK : CK B N p h) (hw : wfL P h = true) : Ev (lawMo law g) (fun g' => Ev (lawCl P h law) (LJ B N law p P g h g')) := by
  obtain ⟨r1, r2, r3, r4, r5, r6, r7, r8⟩ := tok_rng B N p hp
  unfold lawMo fX12_beginsLaw
  rw [bnd_e, bnd_e, chk_tt (ib_n (by omega) (by omega)), bnd_e, ix_n (by omega), l_58]
  have R3 : RB B N p (sA (sI (sI g 17 (nI (law + 2))) 18 (nI (149 + 900 * law))) 1 (law + 2) 0) := ⟨⟨hR.1.1, hR.1.2⟩, hR.2.1, hR.2.2⟩
  have F3 : fM liR [1] g (sA (sI (sI g 17 (nI (law + 2))) 18 (nI (149 + 900 * law))) 1 (law + 2) 0) := (((fM.refl g).sI (by decide)).sI (by decide)).sA (by decide)
  have d17 : (sA (sI (sI g 17 (nI (law + 2))) 18 (nI (149 + 900 * law))) 1 (law + 2) 0).1 17 = nI (law + 2) := rfl
  have d18 : (sA (sI (sI g 17 (nI (law + 2))) 18 (nI (149 + 900 * law))) 1 (law + 2) 0).1 18 = nI (149 + 900 * law) := rfl
  have d16 : (sA (sI (sI g 17 (nI (law + 2))) 18 (nI (149 + 900 * law))) 1 (law + 2) 0).1 16 = 0 := hd
  have drow : ∀ j, (sA (sI (sI g 17 (nI (law + 2))) 18 (nI (149 + 900 * law))) 1 (law + 2) 0).2.1 1 j = if j = law + 2 then 0 else g.2.1 1 j := fun j => by rw [sA_2, if_pos rfl, upd_j]; rfl
  generalize (sA (sI (sI g 17 (nI (law + 2))) 18 (nI (149 + 900 * law))) 1 (law + 2) 0) = g3 at *
  by_cases s58 : isS (tok B N p) 58 = true
  · have r5 := r5 (by rw [isS_k s58]; decide)
    rw [ev_bndv, ev_bndv]
    refine (R3.must hN hp ⟨by omega, by omega⟩ s58).mono ?_
    rintro g4 ⟨R4, F4⟩
    rw [ev_some]
    have hp2 : tEn (tok B N p) ≤ N := r3
    generalize hp2e : tEn (tok B N p) = p2 at *
    have RS4 : RS B N law p2 [] 0 g4 := ⟨R4.1, R4.2.1, R4.2.2, by rw [F4.1 16 (by decide)]; exact d16, by rw [F4.1 17 (by decide)]; exact d17, by rw [F4.1 18 (by decide)]; exact d18, by rw [F4.row 1 (fun e => nomatch e), drow, if_pos rfl]; rfl, fun i hi => absurd hi (Nat.not_lt_zero i)⟩
    have M4 : fM liR [1] g g4 := F3.trans (F4.mono (by decide) (fun k hk => nomatch hk))
    refine Ev.v (desc hN hlaw hp2 RS4) ?_
    -- the class up to the machine's start
    have cls : ∀ {Q : PL × CS → Prop} {Q1 : Nat × PL × CS → Prop}, (∀ h2, CM B N law (st0 p2 law) h2 → fC (lcI ++ bgI) [] [] h h2 → Ev (fX3_readLaw_23 P (fun g => fX2_written P g) (fun g => chk (wfL P g) (some (g.2.2.2 4 12, P, g))) fuel h2 (nI 0)) Q1 ∧ (∀ r, Q1 r → Ev (fX3_endOf r.2.1 (tF r.2.2 4 (9 + law) r.1)) Q)) → Ev (lawCl P h law) Q := by
      intro Q Q1 hyp
      unfold lawCl lawRd
      rw [l_58, ev_bndc, ev_bndv]
      refine (hK.sg hN hp (by omega) s58).mono ?_
      rintro h1 ⟨k1, f1⟩
      rw [hp2e] at k1
      refine Ev.v (k1.start hlaw hp2) ?_
      rintro h2 ⟨m, f2⟩
      obtain ⟨e1, e2⟩ := hyp h2 m ((f1.mono (by decide) (by decide) (by decide)).trans (f2.mono (by decide) (by decide) (by decide)))
      exact e1.mono (fun r hr => e2 r hr)
    have bad : ∀ g', fM liR [1] g g' → BD B N law (st0 p2 law) g' → Ev (lawCl P h law) (LJ B N law p P g h g') := by
      intro g' M' b
      obtain ⟨k, b1, b2⟩ := b
      refine cls (Q1 := fun r => r.1 = h.2.2.2 4 12 ∧ r.2.1 = P ∧ FH (kF (itC B N law k (st0 p2 law))) (kL (itC B N law k (st0 p2 law))) r.2.2 ∧ fC (lcI ++ bgI ++ lwI) wrA [] h r.2.2) (fun h2 m F2 => ⟨?_, ?_⟩)
      · refine (lawR_bad hN hlaw (by omega) m (wfL.of hw F2.2.2.2) ⟨rfl, rfl, b1.2.2⟩ b2).mono ?_
        rintro r ⟨q1, q2, q3, q4⟩
        exact ⟨by rw [q1, F2.2.2.2], q2, q3, (F2.mono (by decide) (by decide) (by decide)).trans (q4.mono (by decide) (by decide) (by decide))⟩
      · rintro ⟨w, P1, h3⟩ ⟨q1, q2, q3, q4⟩
        have q1 : w = h.2.2.2 4 12 := q1
        have q2 : P1 = P := q2
        subst q2
        rw [endOf_bad q3]
        refine ev_some.mpr ⟨M', (fP.of q4 (by decide) (by decide)).tF, Or.inr ⟨_, _, b1, q3, rfl, ?_⟩⟩
        rw [q1]
        exact tF_ref q4.2.2.2 4 _ _
    rintro g5 ⟨F5, ⟨k, pend, x, ⟨o1, o2, o3, o4, o5, o6, o7⟩, en, ty⟩ | b⟩
    · have M5 := M4.trans F5.toM
      have hI := (st0_IC (law := law) hp2).it (B := B) (law := law) k
      have hbr : br (kW (itC B N law k (st0 p2 law))) = 0 := by
        rw [o4, show kW (st0 p2 law) = [] from rfl, List.append_nil]
        exact br_pend o5
      have o4' : kW (itC B N law k (st0 p2 law)) = pend := by rw [o4, show kW (st0 p2 law) = [] from rfl, List.append_nil]
      have o6' : kC (itC B N law k (st0 p2 law)) ++ pend.map (fun e => e.1) = x := o6
      have o1' : k + p2 ≤ kP (itC B N law k (st0 p2 law)) := o1
      have o7' : RS B N law (kP (itC B N law k (st0 p2 law))) x 0 g5 := o7
      have hx : x.length ≤ k := by
        have := lnC_it (B := B) (N := N) (law := law) (st0 p2 law) k
        have e0 : lnC (st0 p2 law) = 0 := rfl
        rw [← o6', List.length_append, List.length_map, ← o4']
        unfold lnC at this e0
        omega
      have hk1 : 1 ≤ k := by
        cases k with
        | zero => exact absurd o3 (by show ¬ true = false; decide)
        | succ k => omega
      have hI1 := hI.1
      by_cases s59 : isS (tok B N (kP (itC B N law k (st0 p2 law)))) 59 = true
      · obtain ⟨t1, t2, t3, t4, t5, t6, t7, t8⟩ := tok_rng B N (kP (itC B N law k (st0 p2 law))) hI.1
        have t5 := t5 (by rw [isS_k s59]; decide)
        refine (o7'.rb.stop hN hI.1 s59).mono ?_
        rintro g' ⟨R6, g6, F6, e6⟩
        have M6 := M5.trans (F6.mono (li2 := liR) (la2 := [1]) (by decide) (fun k hk => nomatch hk))
        have M7 : fM liR [1] g g' := by rw [e6]; exact M6.sA (by decide)
        have hE : lEnd B N (itC B N law k (st0 p2 law)) = true := decide_eq_true ⟨o3, hbr, en.1, s59⟩
        refine cls (Q1 := fun r => r.1 = P.1 ∧ (∃ f, r.2.1 = pAdd P x.length f ∧ ∀ i, i < x.length → f i = encC (x.getD i 0)) ∧ CK B N (kP (itC B N law k (st0 p2 law))) r.2.2 ∧ fC (lcI ++ bgI ++ lwI) wrA [] h r.2.2) (fun h2 m F2 => ⟨?_, ?_⟩)
        · refine (lawR_ok hN hlaw (by omega) m (wfL.of hw F2.2.2.2) o2 hE o1' o4' o5 o6' (by omega)).mono ?_
          rintro r ⟨q1, q2, q3, q4⟩
          exact ⟨q1, q2, q3, (F2.mono (by decide) (by decide) (by decide)).trans (q4.mono (by decide) (by decide) (by decide))⟩
        · rintro ⟨w, P1, h3⟩ ⟨q1, q2, q3, q4⟩
          have q1 : w = P.1 := q1
          have q3 : CK B N (kP (itC B N law k (st0 p2 law))) h3 := q3
          have q4 : fC (lcI ++ bgI ++ lwI) wrA [] h h3 := q4
          have K3 : CK B N (kP (itC B N law k (st0 p2 law))) (tF h3 4 (9 + law) w) := q3
          unfold fX3_endOf
          refine Ev.v (K3.stop hN hI.1 s59) ?_
          rintro h4 ⟨k4, c4, F4'⟩
          refine ev_some.mpr ⟨M7, ((fP.of q4 (by decide) (by decide)).tF (o := 4) (k := 9 + law) (w := w)).trans (fP.of F4' (by decide) (by decide)), Or.inl ⟨tEn (tok B N (kP (itC B N law k (st0 p2 law)))), x, ⟨by omega, t3, by omega, by omega⟩, ⟨R6, ?_, ?_⟩, ty, q2, k4, ?_, ?_, ?_⟩⟩
          · rw [e6]
            show g6.1 16 = 0
            rw [F6.1 16 (by decide)]
            exact o7'.2.2.2.1
          · have e0 : ∀ j, g'.2.1 1 j = if j = 0 then g5.2.1 1 0 + 1 else g5.2.1 1 j := fun j => by
              rw [e6, sA_2, if_pos rfl, upd_j, F6.row 1 (fun e => nomatch e)]
            refine ⟨?_, fun i hi => ?_, ?_, fun j j1 j2 j3 => ?_⟩
            · rw [e0, if_neg (by omega)]; exact o7'.2.2.2.2.2.2.1
            · rw [e0, if_neg (by omega)]; exact o7'.2.2.2.2.2.2.2 i hi
            · rw [e0, if_pos rfl, F5.2.1 1 0 (fun _ => ⟨by omega, by omega⟩), F4.row 1 (fun e => nomatch e), drow, if_neg (by omega)]
            · rw [e0, if_neg j1, F5.2.1 1 j (fun _ => ⟨j2, j3⟩), F4.row 1 (fun e => nomatch e), drow, if_neg j2]
          · rw [F4'.2.2.2, q1]
            exact tF_ref q4.2.2.2 4 _ _
          · rw [c4]
            show h3.1 4 5 + 1 = _
            rw [q4.i 4 5 (by decide)]
          · intro k' hk'
            have n1 : (4, k') ∉ (4, 5) :: lcI := by rcases hk' with q | q | q | q <;> subst q <;> decide
            have n2 : (4, k') ∉ lcI ++ bgI ++ lwI := by rcases hk' with q | q | q | q <;> subst q <;> decide
            rw [F4'.i 4 k' n1]
            show h3.1 4 k' = _
            exact q4.i 4 k' n2
      · refine (o7'.rb.stopN hI.1 s59).mono ?_
        rintro g' ⟨H, F6⟩
        refine bad g' (M5.trans (F6.mono (by decide) (fun k hk => nomatch hk))) (BD.pre (j := k) o1 ?_)
        exact BD.st (t := tok B N (kP (itC B N law k (st0 p2 law)))) (k := 2) (lk_flt o2 o3 (lEnd_S s59) en.2.1 (fun _ z => by omega) (fun _ z => by omega) (fun _ => en.1) en.2.2) H
    · have M5 := M4.trans F5.toM
      rw [stop_bad b.bad]
      exact ev_some.mpr (bad g5 M5 b)
  · rw [ev_bndv, ev_bndv]
    refine (R3.mustN hp ⟨by omega, by omega⟩ s58).mono ?_
    rintro g4 ⟨H4, F4⟩
    rw [ev_some]
    have e5 : (if law = 0 then fX12_readTruth else fX12_readSum) g4 = some g4 := by
      split
      · exact truth_bad H4.bad
      · exact sum_bad H4.bad
    rw [e5, bndv_s, stop_bad H4.bad]
    refine ev_some.mpr ?_
    unfold lawCl lawRd
    rw [l_58, ev_bndc, ev_bndv]
    refine (hK.sgN hp (by omega) s58).mono ?_
    rintro h1 ⟨k1, f1⟩
    refine Ev.v (lbeg_eq hlaw) ?_
    rintro h2 ⟨-, -, -, -, -, -, -, -, f2⟩
    have H2 : FH (fk (tok B N p) 2) (tSt (tok B N p)) h2 := ⟨by rw [f2.i 4 2 (by decide)]; exact k1.1, by rw [f2.i 4 3 (by decide)]; exact k1.2.1, k1.2.2⟩
    have F2 : fC (bgI ++ [(4, 2), (4, 3)]) [] [] h h2 := (f1.mono (by decide) (by decide) (by decide)).trans (f2.mono (by decide) (by decide) (by decide))
    rw [show fuel = fuel - 1 + 1 by unfold fuel; omega, fX3_readLaw_23, if_neg (by decide), if_neg H2.bad]
    unfold fX3_readLaw_105
    rw [if_neg H2.bad]
    refine Ev.k (wfL.of hw F2.2.2.2) (ev_some.mpr ?_)
    show Ev (fX3_endOf P (tF h2 4 (9 + law) (h2.2.2.2 4 12))) _
    rw [endOf_bad H2]
    refine ev_some.mpr ⟨F3.trans (F4.mono (by decide) (fun k hk => nomatch hk)), (fP.of F2 (by decide) (by decide)).tF, Or.inr ⟨_, _, H4, H2, rfl, ?_⟩⟩
    rw [F2.2.2.2]
    exact tF_ref F2.2.2.2 4 _ _
end
