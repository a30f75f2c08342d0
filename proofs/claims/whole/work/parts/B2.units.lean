/-! ===== truths: the descent and the machine ===== -/
def PrU (m n s : Nat) (u : Bool) (_ : Tk) (d : Nat) : Prop := s = 1 ∧ u = true ∧ m ≤ n + 2 * d
def EU (_ s' : Nat) (t : Tk) : Prop := (s' = 2 ∨ s' = 3) ∧ (s' = 2 → ¬ (10 ≤ lkO t ∧ lkO t ≤ 12))
def EB (B : Nat → Nat) (s s' : Nat) (t : Tk) : Prop := EU s s' t ∧ ¬ isW B t (tx 14) = true
def EO (B : Nat → Nat) (s s' : Nat) (t : Tk) : Prop := EB B s s' t ∧ ¬ isW B t (tx 15) = true
section
variable {B : Nat → Nat} {N law : Nat}
theorem op_not {t : Tk} (h : isW B t (tx 13) = true) : opO B law t = 0 := by
  have n : ∀ i, tx 13 ≠ tx i → ¬ isW B t (tx i) = true := fun i hi z => hi (isW_one h z)
  have hv : nmO B law t = 0 := by
    unfold nmO
    rw [if_neg (n 7 (by decide)), if_neg (n 8 (by decide)), if_neg (fun z => z.elim (fun y => n 9 (by decide) y.2) (fun y => n 10 (by decide) y.2)), if_neg (fun z => z.elim (fun y => n 11 (by decide) y.2) (fun y => n 12 (by decide) y.2))]
  unfold opO
  rw [if_neg (fun z => z hv), if_neg (by rw [isW_k h]; decide)]
theorem op_S {t : Tk} {a : Nat} (h : isS t a = true) : opO B law t = 0 := by
  have h3 := isS_k h
  have hv : nmO B law t = 0 := by
    rcases nmO_rng (B := B) (law := law) t with q | q
    · exact q
    · omega
  unfold opO
  rw [if_neg (fun z => z hv), if_neg (by omega)]
theorem lk_s {p : Nat} (hp : p ≤ N) (h : 13 ≤ lkO (tok B N p)) : (lkO (tok B N p) = 13 ∧ tkM (tok B N p) = nI 61) ∨ (lkO (tok B N p) = 14 ∧ tkM (tok B N p) = nI 60) ∨ (lkO (tok B N p) = 15 ∧ tkM (tok B N p) = nI 62) := by
  rcases lkO_rng (tok B N p) with q | q
  · omega
  rcases (show lkO (tok B N p) = 13 ∨ lkO (tok B N p) = 14 ∨ lkO (tok B N p) = 15 by omega) with e | e | e
  · exact Or.inl ⟨e, (tkM_s hp ⟨by omega, by omega⟩).mpr ((lk_13 _).mp e)⟩
  · exact Or.inr (Or.inl ⟨e, (tkM_s hp ⟨by omega, by omega⟩).mpr ((lk_14 _).mp e)⟩)
  · exact Or.inr (Or.inr ⟨e, (tkM_s hp ⟨by omega, by omega⟩).mpr ((lk_15 _).mp e)⟩)
theorem u123 {ru rt : MS → Option MS} {g : MS} {p : Nat} (hp : p ≤ N) (h : 13 ≤ lkO (tok B N p)) : fX12_readUnit_123 ru rt g (tkM (tok B N p)) = bndv (fX12_readSum g) (fun g2 => bndv (fX12_laysStep g2 (nI (lkO (tok B N p)))) (fun g1 => some g1)) := by
  unfold fX12_readUnit_123 fX12_readUnit_152
  rcases lk_s hp h with ⟨e1, e2⟩ | ⟨e1, e2⟩ | ⟨e1, e2⟩
  · rw [e1, e2]
    simp only [if_pos (show nI 61 = (61 : Int32) from rfl)]
    rfl
  · rw [e1, e2]
    simp only [if_neg (show ¬ nI 60 = (61 : Int32) by decide), if_pos (show nI 60 = (60 : Int32) from rfl)]
    rfl
  · rw [e1, e2]
    simp only [if_neg (show ¬ nI 62 = (61 : Int32) by decide), if_neg (show ¬ nI 62 = (60 : Int32) by decide)]
    rfl
theorem usel {ρ : Type} {p : Nat} {x y : ρ} (hp : p ≤ N) (h : 13 ≤ lkO (tok B N p)) : (if tkM (tok B N p) = (61 : Int32) then x else (if tkM (tok B N p) = (60 : Int32) then x else (if tkM (tok B N p) = (62 : Int32) then x else y))) = x := by
  rcases lk_s hp h with ⟨e1, e2⟩ | ⟨e1, e2⟩ | ⟨e1, e2⟩
  · rw [e2, if_pos (show nI 61 = (61 : Int32) from rfl)]
  · rw [e2, if_neg (show ¬ nI 60 = (61 : Int32) by decide), if_pos (show nI 60 = (60 : Int32) from rfl)]
  · rw [e2, if_neg (show ¬ nI 62 = (61 : Int32) by decide), if_neg (show ¬ nI 62 = (60 : Int32) by decide), if_pos (show nI 62 = (62 : Int32) from rfl)]
theorem u112_bad {ru rt : MS → Option MS} {g : MS} {y : Int32} (hb : ¬ g.1 12 = 0) : fX12_readUnit_112 ru rt g y = some g := by
  unfold fX12_readUnit_112 fX12_readUnit_123 fX12_readUnit_152
  rw [if_neg hb, sum_bad hb, bndv_s, lay_bad hb, lay_bad hb, lay_bad hb, bndv_s]
  repeat' split
  all_goals rfl
theorem unit_not (hN : N ≤ 900) (hlaw : law ≤ 2) {n : Nat} {ru : MS → Option MS} (hu : Sp B N law 4 3 (PrU 15 n) EU 16 true ru) (hub : 1 ≤ n → ∀ g : MS, ¬ g.1 12 = 0 → ru g = some g) {C : Cf} {g : MS} (hC : IC N C) (hF : kF C = 0) (hO : kO C = true) (ht : tb (kW C) < 4) (hP : PrU 15 (n + 1) (kS C) (kU C) (tok B N (kP C)) (wi (kW C))) (hR : RS B N law (kP C) (kC C) (wi (kW C)) g) (wn : isW B (tok B N (kP C)) (tx 13) = true) : Ev (bndv (fX12_goesIn g) (fun g15 => bndv (ru g15) (fun g16 => bndv (fX12_laysStep g16 (18 : Int32)) (fun g17 => bnd (sI g17 16 ((g17.1 16) - (1 : Int32))) (fun g18 => some g18))))) (RR B N law 3 EU 16 true C g) := by
  have hp := hC.1
  obtain ⟨s1, u1, hd⟩ := hP
  obtain ⟨r1, r2, r3, r4, r5, r6, r7, r8⟩ := tok_rng B N (kP C) hp
  have r5 := r5 (by rw [isW_k wn]; decide)
  have hop : stC B N law C = opnC C (tok B N (kP C)) 18 := by
    rw [st_op hF hO]
    unfold opS
    rw [if_neg (fun z => z (op_not wn)), if_pos ⟨u1, wn⟩]
  by_cases d6 : 6 ≤ wi (kW C)
  · have e6 : wi (kW C) = 6 := by have := hC.2.2.2.1; omega
    rw [e6] at hR
    refine Ev.v (hR.inn6 hp) ?_
    rintro g8 ⟨b1, b2⟩
    rw [hub (by omega) g8 b1.bad, bndv_s, lay_bad b1.bad, bndv_s, bnd_e]
    have o := b1.out (law := law)
    refine ev_some.mpr ⟨b2.trans o.2, Or.inr (BD.st (t := tok B N (kP C)) (k := 4) ?_ o.1)⟩
    rw [hop]
    unfold opnC
    rw [if_pos d6]
  · have hs : itC B N law 1 C = (tEn (tok B N (kP C)), kC C, (18, kS C) :: kW C, kS C, true, kU C, 0, 0) := by
      show stC B N law C = _
      rw [hop]
      unfold opnC
      rw [if_neg d6, if_neg (by decide), if_neg (by decide)]
    generalize hC1 : itC B N law 1 C = C1 at hs
    have hI1 : IC N C1 := by rw [← hC1]; exact hC.it _
    have pk1 : kP C1 = tEn (tok B N (kP C)) := by rw [hs]
    have ck1 : kC C1 = kC C := by rw [hs]
    have wk1 : kW C1 = (18, kS C) :: kW C := by rw [hs]
    have sk1 : kS C1 = kS C := by rw [hs]
    have uk1 : kU C1 = kU C := by rw [hs]
    have hwi : wi (kW C1) = wi (kW C) + 1 := by rw [wk1]; rfl
    refine Ev.v (hR.inn hN hp (by omega)) ?_
    rintro g8 ⟨b1, b2⟩
    refine Ev.v (hu C1 g8 hI1 (by rw [hs]) (by rw [hs]) (by rw [wk1]; show bd 18 < 4; decide) ⟨by rw [sk1]; exact s1, by rw [uk1]; exact u1, by omega⟩ (by rw [pk1, ck1, hwi]; exact b1)) ?_
    rintro g9 ⟨c1, c2⟩
    have F9 := b2.trans c1
    rcases c2 with ⟨k, pend, x, ⟨d1, d2, d3, d4, d5, d6', d7⟩, z1, z2⟩ | c2
    · have hI2 := hI1.it (B := B) (law := law) k
      have hk : itC B N law (1 + k) C = itC B N law k C1 := by rw [itC_add, hC1]
      rw [ck1, hwi] at d7
      rw [ck1] at d6'
      rw [wk1] at d4
      have hlen : (kC C ++ x).length < 900 := by
        rw [← d6', List.length_append, List.length_map]
        have := hI2.2.1
        have h3 := hI2.1
        rw [d4, List.length_append] at this
        simp only [List.length_cons] at this
        omega
      rw [l_18]
      refine Ev.v (d7.lay hlaw hlen 18) ?_
      rintro g10 ⟨f1, f2⟩
      rw [bnd_e]
      have f3 := f1.out (by omega)
      refine ev_some.mpr ⟨(F9.trans f2).trans f3.2, Or.inl ⟨1 + k, pend ++ [(18, kS C)], x ++ [18], ?_, ?_⟩⟩
      · unfold OKR
        rw [hk]
        refine ⟨by omega, d2, d3, by rw [d4, List.append_assoc]; rfl, ?_, ?_, ?_⟩
        · intro e he
          rcases List.mem_append.mp he with he | he
          · exact d5 e he
          · rw [List.mem_singleton.mp he]; show 3 ≤ bd 18; decide
        · rw [List.map_append, ← List.append_assoc, d6', ← List.append_assoc]; rfl
        · rw [← List.append_assoc]; exact f3.1
      · unfold ZZ
        rw [hk]
        refine ⟨z1, fun K hK => ?_⟩
        refine tyS_app (z2 K (by rw [hwi]; omega)) ?_
        rfl
    · rw [lay_bad c2.bad, bndv_s, bnd_e]
      obtain ⟨k, m1, m2⟩ := c2
      have o := m1.out (law := law)
      refine ev_some.mpr ⟨F9.trans o.2, Or.inr (BD.pre (j := 1) (by rw [hC1]; omega) ?_)⟩
      rw [hC1]
      exact ⟨k, o.1, m2⟩
theorem unit_brk (hN : N ≤ 900) {n : Nat} {rt : MS → Option MS} (hu : Sp B N law 1 1 (PrU 16 n) (EO B) 18 true rt) (hub : 2 ≤ n → ∀ g : MS, ¬ g.1 12 = 0 → rt g = some g) {C : Cf} {g : MS} (hC : IC N C) (hF : kF C = 0) (hO : kO C = true) (hP : PrU 15 (n + 1) (kS C) (kU C) (tok B N (kP C)) (wi (kW C))) (hR : RS B N law (kP C) (kC C) (wi (kW C)) g) (wn : ¬ isW B (tok B N (kP C)) (tx 13) = true) (s91 : isS (tok B N (kP C)) 91 = true) : Ev (bndv (fX12_goesIn g) (fun g11 => bndv (rt g11) (fun g12 => bndv (fX12_mustSign g12 (93 : Int32)) (fun g13 => bnd (sI g13 16 ((g13.1 16) - (1 : Int32))) (fun g14 => some g14))))) (RR B N law 3 EU 16 true C g) := by
  have hp := hC.1
  obtain ⟨s1, u1, hd⟩ := hP
  obtain ⟨r1, r2, r3, r4, r5, r6, r7, r8⟩ := tok_rng B N (kP C) hp
  have r5 := r5 (by rw [isS_k s91]; decide)
  have hop : stC B N law C = opnC C (tok B N (kP C)) 2 := by
    rw [st_op hF hO]
    unfold opS
    rw [if_neg (fun z => z (op_S s91)), if_neg (fun z => wn z.2), if_pos ⟨u1, s91⟩]
  by_cases d6 : 6 ≤ wi (kW C)
  · have e6 : wi (kW C) = 6 := by have := hC.2.2.2.1; omega
    rw [e6] at hR
    refine Ev.v (hR.inn6 hp) ?_
    rintro g8 ⟨b1, b2⟩
    rw [hub (by omega) g8 b1.bad, bndv_s, must_bad b1.bad, bndv_s, bnd_e]
    have o := b1.out (law := law)
    refine ev_some.mpr ⟨b2.trans o.2, Or.inr (BD.st (t := tok B N (kP C)) (k := 4) ?_ o.1)⟩
    rw [hop]
    unfold opnC
    rw [if_pos d6]
  · have hs : itC B N law 1 C = (tEn (tok B N (kP C)), kC C, (2, kS C) :: kW C, kS C, true, kU C, 0, 0) := by
      show stC B N law C = _
      rw [hop]
      unfold opnC
      rw [if_neg d6, if_neg (by decide), if_neg (by decide)]
    generalize hC1 : itC B N law 1 C = C1 at hs
    have hI1 : IC N C1 := by rw [← hC1]; exact hC.it _
    have pk1 : kP C1 = tEn (tok B N (kP C)) := by rw [hs]
    have ck1 : kC C1 = kC C := by rw [hs]
    have wk1 : kW C1 = (2, kS C) :: kW C := by rw [hs]
    have sk1 : kS C1 = kS C := by rw [hs]
    have uk1 : kU C1 = kU C := by rw [hs]
    have hwi : wi (kW C1) = wi (kW C) + 1 := by rw [wk1]; rfl
    refine Ev.v (hR.inn hN hp (by omega)) ?_
    rintro g8 ⟨b1, b2⟩
    refine Ev.v (hu C1 g8 hI1 (by rw [hs]) (by rw [hs]) (by rw [wk1]; show bd 2 < 1; decide) ⟨by rw [sk1]; exact s1, by rw [uk1]; exact u1, by omega⟩ (by rw [pk1, ck1, hwi]; exact b1)) ?_
    rintro g9 ⟨c1, c2⟩
    have F9 := b2.trans c1
    rcases c2 with ⟨k, pend, x, ⟨d1, d2, d3, d4, d5, d6', d7⟩, z1, z2⟩ | c2
    · have hI2 := hI1.it (B := B) (law := law) k
      have hk : itC B N law (1 + k) C = itC B N law k C1 := by rw [itC_add, hC1]
      rw [ck1, hwi] at d7
      rw [ck1] at d6'
      rw [wk1] at d4
      by_cases s93 : isS (tok B N (kP (itC B N law k C1))) 93 = true
      · obtain ⟨t1, t2, t3, t4, t5, t6, t7, t8⟩ := tok_rng B N (kP (itC B N law k C1)) hI2.1
        have t5 := t5 (by rw [isS_k s93]; decide)
        have hcl := cls_eq (law := law) d2 d3 d4 d5 (Or.inr rfl) d6' (Or.inl ⟨z1.1.1.1, s93⟩)
        rw [if_pos rfl] at hcl
        have hk3 : itC B N law (1 + k + 1) C = stC B N law (itC B N law k C1) := by rw [itC_1, hk]
        rw [l_93]
        refine Ev.v (d7.must hN hI2.1 ⟨by omega, by omega⟩ s93) ?_
        rintro g10 ⟨f1, f2⟩
        rw [bnd_e]
        have f3 := f1.out (by omega)
        refine ev_some.mpr ⟨(F9.trans f2).trans f3.2, Or.inl ⟨1 + k + 1, [], x, ?_, ?_⟩⟩
        · unfold OKR
          rw [hk3, hcl]
          exact ⟨by show 1 + k + 1 + kP C ≤ tEn (tok B N (kP (itC B N law k C1))); omega, rfl, rfl, rfl, (fun z hz => nomatch hz), by show kC C ++ x ++ [] = _; rw [List.append_nil], f3.1⟩
        · unfold ZZ
          rw [hk3, hcl]
          exact ⟨⟨Or.inr rfl, fun z => absurd (show (3 : Nat) = 2 from z) (by decide)⟩, fun K hK => z2 K (by rw [hwi]; omega)⟩
      · rw [l_93]
        refine Ev.v (d7.mustN hI2.1 ⟨by omega, by omega⟩ s93) ?_
        rintro g10 ⟨f1, f2⟩
        rw [bnd_e]
        have f3 := f1.out (law := law)
        have hbr : 0 < br (kW (itC B N law k C1)) := by
          rw [d4]
          have := br_app pend ((2, kS C) :: kW C)
          have e : br ((2, kS C) :: kW C) = br (kW C) + 1 := rfl
          omega
        have y1 := z1.1.1.1
        have y2 := z1.1.1.2
        refine ev_some.mpr ⟨(F9.trans f2).trans f3.2, Or.inr (BD.pre (j := 1 + k) (by rw [hk]; omega) ?_)⟩
        rw [hk]
        exact BD.st (t := tok B N (kP (itC B N law k C1))) (k := 2) (lk_flt d2 d3 (lEnd_br hbr) (fun _ => ⟨z1.1.2, z1.2⟩) (fun _ _ => s93) (fun z => by omega) (fun _ => by omega) (fun x1 x2 => by
          rcases y1 with y | y
          · exact absurd ⟨x1, x2⟩ (y2 y)
          · exact y)) f3.1
    · rw [must_bad c2.bad, bndv_s, bnd_e]
      obtain ⟨k, m1, m2⟩ := c2
      have o := m1.out (law := law)
      refine ev_some.mpr ⟨F9.trans o.2, Or.inr (BD.pre (j := 1) (by rw [hC1]; omega) ?_)⟩
      rw [hC1]
      exact ⟨k, o.1, m2⟩
theorem Sp.unit (hN : N ≤ 900) (hlaw : law ≤ 2) {n : Nat} {ru rt : MS → Option MS} (hu : Sp B N law 4 3 (PrU 15 n) EU 16 true ru) (hub : 1 ≤ n → ∀ g : MS, ¬ g.1 12 = 0 → ru g = some g) (htr : Sp B N law 1 1 (PrU 16 n) (EO B) 18 true rt) (htb : 2 ≤ n → ∀ g : MS, ¬ g.1 12 = 0 → rt g = some g) : Sp B N law 4 3 (PrU 15 (n + 1)) EU 16 true (fX12_readUnitB ru rt) := by
  intro C g hC hF hO ht hP hR
  have hp := hC.1
  unfold fX12_readUnitB
  rw [if_pos hR.2.1, mWord_eq hN hp hR.1 hR.2.1 hR.2.2.1 43 (by decide), bndc_s]
  by_cases wn : isW B (tok B N (kP C)) (tx 13) = true
  · rw [show isW B (tok B N (kP C)) (tx 43) = true from wn, if_neg (by decide)]
    exact unit_not hN hlaw hu hub hC hF hO ht hP hR wn
  have wf : isW B (tok B N (kP C)) (tx 43) = false := by cases q : isW B (tok B N (kP C)) (tx 43) with | true => exact absurd q wn | false => rfl
  rw [wf, if_pos (show nI false.toNat = 0 from rfl), l_91, mSign_eq hp hR.2.1 hR.2.2.1 ⟨by omega, by omega⟩, bndc_s]
  by_cases s91 : isS (tok B N (kP C)) 91 = true
  · rw [s91, if_neg (by decide)]
    exact unit_brk hN htr htb hC hF hO hP hR wn s91
  rw [isS_f s91, if_pos (show nI false.toNat = 0 from rfl)]
  obtain ⟨s1, u1, hd⟩ := hP
  refine Ev.v (sum_sp hN hlaw C g hC hF hO (by omega) ⟨by omega, fun _ => ⟨wn, s91⟩, by omega⟩ hR) ?_
  rintro g8 ⟨b1, b2⟩
  rcases b2 with ⟨k, pend, x, ⟨q1, q2, q3, q4, q5, q6, q7⟩, z1, z2⟩ | b2
  · have hI2 := hC.it (B := B) (law := law) k
    have hp2 := hI2.1
    have sk2 : kS (itC B N law k C) = 1 := by rw [← s1]; exact z1.1
    obtain ⟨t1, t2, t3, t4, t5, t6, t7, t8⟩ := tok_rng B N (kP (itC B N law k C)) hp2
    rw [bnd_e, q7.2.2.1.2.2.1]
    by_cases lk : 13 ≤ lkO (tok B N (kP (itC B N law k C)))
    · have lr : lkO (tok B N (kP (itC B N law k C))) ≤ 15 ∧ tKd (tok B N (kP (itC B N law k C))) = 3 := by
        rcases lkO_rng (tok B N (kP (itC B N law k C))) with q | q
        · omega
        · exact q.2
      have t5 := t5 (by omega)
      have hb4 : bd (lkO (tok B N (kP (itC B N law k C)))) = 4 := by
        rcases (show lkO (tok B N (kP (itC B N law k C))) = 13 ∨ lkO (tok B N (kP (itC B N law k C))) = 14 ∨ lkO (tok B N (kP (itC B N law k C))) = 15 by omega) with e | e | e <;> rw [e] <;> decide
      have hs : itC B N law (k + 1) C = (tEn (tok B N (kP (itC B N law k C))), kC C ++ x, (lkO (tok B N (kP (itC B N law k C))), kS (itC B N law k C)) :: kW C, 2, true, false, 0, 0) := by
        rw [itC_1, lk_cp q2 q3 sk2 lk]
        unfold lnkC
        rw [hb4, q4, unw_pend pend (kW C) _ (fun e he => Nat.le_trans (by omega) (q5 e he)) ht, q6]
      rw [usel hp2 lk]
      unfold fX12_readUnit_112
      rw [if_pos q7.2.1]
      refine Ev.v (q7.on hN hp2) ?_
      rintro g3 ⟨a1, a2⟩
      rw [u123 hp2 lk]
      generalize hC1 : itC B N law (k + 1) C = C1 at hs
      have hI1 : IC N C1 := by rw [← hC1]; exact hC.it _
      generalize hoe : lkO (tok B N (kP (itC B N law k C))) = o at *
      have pk1 : kP C1 = tEn (tok B N (kP (itC B N law k C))) := by rw [hs]
      have ck1 : kC C1 = kC C ++ x := by rw [hs]
      have wk1 : kW C1 = (o, kS (itC B N law k C)) :: kW C := by rw [hs]
      have sk1 : kS C1 = 2 := by rw [hs]
      have uk1 : kU C1 = false := by rw [hs]
      have hwi : wi (kW C1) = wi (kW C) := by
        rw [wk1]
        show wi (kW C) + (opn? o).toNat = wi (kW C)
        rw [show opn? o = false from decide_eq_false (by omega)]
        rfl
      refine Ev.v (sum_sp hN hlaw C1 g3 hI1 (by rw [hs]) (by rw [hs]) (by rw [wk1]; show bd o < 5; omega) ⟨by rw [sk1]; omega, fun z => by rw [uk1] at z; exact absurd z (by decide), by omega⟩ (by rw [pk1, ck1, hwi]; exact a1)) ?_
      rintro g4 ⟨b3, b4⟩
      have F4 := (b1.trans a2).trans b3
      rcases b4 with ⟨k2, pend2, x2, ⟨c1, c2, c3, c4, c5, c6, c7⟩, y1, y2⟩ | b4
      · have hk2 : itC B N law (k + 1 + k2) C = itC B N law k2 C1 := by rw [itC_add, hC1]
        have hI3 := hI1.it (B := B) (law := law) k2
        rw [hwi, ck1] at c7
        have hlen : (kC C ++ x ++ x2).length < 900 := by
          rw [← ck1, ← c6, List.length_append, List.length_map]
          have := hI3.2.1
          have h3 := hI3.1
          rw [c4, wk1, List.length_append] at this
          simp only [List.length_cons] at this
          omega
        refine Ev.v (c7.lay hlaw hlen o) ?_
        rintro g5 ⟨d1, d2⟩
        refine ev_some.mpr ⟨F4.trans d2, Or.inl ⟨k + 1 + k2, pend2 ++ [(o, kS (itC B N law k C))], x ++ x2 ++ [o], ?_, ?_⟩⟩
        · unfold OKR
          rw [hk2]
          refine ⟨by omega, c2, c3, ?_, ?_, ?_, ?_⟩
          · rw [c4, wk1, List.append_assoc]; rfl
          · intro e he
            rcases List.mem_append.mp he with he | he
            · exact Nat.le_trans (by omega) (c5 e he)
            · rw [List.mem_singleton.mp he]; show 3 ≤ bd o; omega
          · rw [List.map_append, ← List.append_assoc, c6, ck1, ← List.append_assoc, ← List.append_assoc]; rfl
          · rw [← List.append_assoc, ← List.append_assoc]; exact d1
        · unfold ZZ
          rw [hk2]
          have y3 : kS (itC B N law k2 C1) = 2 := by rw [← sk1]; exact y1.1
          have y4 := y1.2
          refine ⟨⟨Or.inl y3, fun _ z => ?_⟩, fun K hK => ?_⟩
          · omega
          · have ty1' := z2 K (by omega)
            have ty2' := y2 (false :: K) (by rw [hwi]; simp only [List.length_cons]; omega)
            refine tyS_app (tyS_app ty1' ty2') ?_
            rcases (show o = 13 ∨ o = 14 ∨ o = 15 by omega) with e | e | e <;> rw [e] <;> rfl
      · rw [lay_bad b4.bad, bndv_s]
        refine ev_some.mpr ⟨F4, Or.inr (BD.pre (j := k + 1) ?_ (by rw [hC1]; exact b4))⟩
        rw [hC1]
        omega
    · have z3 := z1.2
      have l0 : lkO (tok B N (kP (itC B N law k C))) = 0 := by
        rcases lkO_rng (tok B N (kP (itC B N law k C))) with q | q <;> omega
      have nt : ∀ a o, 5 ≤ a ∧ a < 256 → (isS (tok B N (kP (itC B N law k C))) a = true → lkO (tok B N (kP (itC B N law k C))) = o) → o ≠ 0 → ¬ tkM (tok B N (kP (itC B N law k C))) = nI a := fun a o ha h ho z => by
        have := h ((tkM_s hp2 ha).mp z)
        omega
      rw [l_61, l_60, l_62, if_neg (nt 61 13 ⟨by omega, by omega⟩ (lk_13 _).mpr (by omega)), if_neg (nt 60 14 ⟨by omega, by omega⟩ (lk_14 _).mpr (by omega)), if_neg (nt 62 15 ⟨by omega, by omega⟩ (lk_15 _).mpr (by omega))]
      refine Ev.v (q7.blame hp2 (k := 2) ⟨by decide, by decide⟩) ?_
      rintro g10 ⟨f1, f2⟩
      rw [u112_bad f1.bad]
      refine ev_some.mpr ⟨b1.trans (fL.of f2 (by decide)), Or.inr (BD.pre (j := k) q1 ?_)⟩
      exact BD.st (t := tok B N (kP (itC B N law k C))) (k := 2) (lk_flt q2 q3 (lEnd_1 sk2) (fun z => by omega) (fun z => by omega) (fun z => by omega) (fun z => by omega) (fun y1 y2 => by omega)) f1
  · rw [bnd_e, blame_bad b2.bad, bndv_s, u112_bad b2.bad]
    refine ev_ite (fun _ => ?_) (fun _ => ev_ite (fun _ => ?_) (fun _ => ev_ite (fun _ => ?_) (fun _ => ?_)))
    all_goals exact ev_some.mpr ⟨b1, Or.inr b2⟩
end
section
variable {B : Nat → Nat} {N law : Nat}
def opB (B : Nat → Nat) (t : Tk) : Nat := if isW B t (tx 14) = true then 16 else 0
def opQ (B : Nat → Nat) (t : Tk) : Nat := if isW B t (tx 15) = true then 17 else 0
theorem RS.tookC {p dp : Nat} {c : List Nat} {g : MS} {ρ : Type} {k : Int32 → MS → Option ρ} (hN : N ≤ 900) (hp : p ≤ N) (h : RS B N law p c dp g) (i : Nat) (hi : (tx i).length < 100) (ht : isW B (tok B N p) (tx i) = true) : bndc (fX12_took g i) k = bndv (fX12_readsOn g) (fun g3 => k (nI true.toNat) g3) := by
  unfold fX12_took
  rw [mWord_eq hN hp h.1 h.2.1 h.2.2.1 i hi, bndc_s, ht, if_neg (by decide)]
  cases fX12_readsOn g with
  | none => rfl
  | some z => rw [bndv_s, chk_tt (by decide), bndc_s, bndv_s]
theorem Sp.both (hN : N ≤ 900) (hlaw : law ≤ 2) {n : Nat} {ru rt : MS → Option MS} (hu : Sp B N law 4 3 (PrU 15 n) EU 16 true ru) : Sp B N law 2 2 (PrU 15 n) (EB B) 17 true (fX12_readBothB ru rt) := by
  refine Sp.loop hN hlaw (u := true) (σ := fun _ => 1) (lp := fX12_readBoth_4 ru rt) (opB B) ?_ ?_ ?_ ?_ ?_ ?_ ?_ ?_ ⟨by decide, by decide, by decide⟩ hu
  · intro n g p c dp hp hR ho
    unfold opB at ho ⊢
    by_cases e : isW B (tok B N p) (tx 14) = true
    · rw [if_pos e, fX12_readBoth_4, hR.tookC hN hp 49 (by decide) e]
      simp only [if_neg (show ¬ nI true.toNat = (0 : Int32) by decide)]
      rfl
    · rw [if_neg e] at ho; exact absurd rfl ho
  · intro n g p c dp hp hR ho
    unfold opB at ho
    by_cases e : isW B (tok B N p) (tx 14) = true
    · rw [if_pos e] at ho; exact absurd ho (by decide)
    · rw [fX12_readBoth_4, hR.tookN hN hp 49 (by decide) e, bndc_s, if_pos rfl]
  · intro n g hb
    rw [fX12_readBoth_4, took_bad hb, bndc_s, if_pos rfl]
  · intro p hp ho
    unfold opB at ho ⊢
    by_cases e : isW B (tok B N p) (tx 14) = true
    · rw [if_pos e]
      exact ⟨by decide, by decide, by rw [isW_k e]; decide, fun K => rfl⟩
    · rw [if_neg e] at ho; exact absurd rfl ho
  · intro C' s u0 t0 d hF hO hP hE ho
    unfold opB at ho ⊢
    by_cases e : isW B (tok B N (kP C')) (tx 14) = true
    · rw [if_pos e]
      have := lk_wd (law := law) hF hO hE.1 (Or.inl e)
      rw [if_pos e] at this
      exact this
    · rw [if_neg e] at ho; exact absurd rfl ho
  · intro s s' t s2 t2 u0 t0 d _ h1 h2
    exact h2
  · intro s u0 t0 d s' t t1 hP h1
    exact ⟨rfl, rfl, hP.2.2⟩
  · intro s s' t h1 h2
    refine ⟨h1, fun e => ?_⟩
    unfold opB at h2
    rw [if_pos e] at h2
    exact absurd h2 (by decide)
theorem Sp.truth (hN : N ≤ 900) (hlaw : law ≤ 2) {n : Nat} {ru rt : MS → Option MS} (hu : Sp B N law 2 2 (PrU 15 n) (EB B) 17 true (fX12_readBothB ru rt)) : Sp B N law 1 1 (PrU 15 n) (EO B) 18 true (fX12_readTruthB ru rt) := by
  refine Sp.loop hN hlaw (u := true) (σ := fun _ => 1) (lp := fX12_readTruth_4 ru rt) (opQ B) ?_ ?_ ?_ ?_ ?_ ?_ ?_ ?_ ⟨by decide, by decide, by decide⟩ hu
  · intro n g p c dp hp hR ho
    unfold opQ at ho ⊢
    by_cases e : isW B (tok B N p) (tx 15) = true
    · rw [if_pos e, fX12_readTruth_4, hR.tookC hN hp 50 (by decide) e]
      simp only [if_neg (show ¬ nI true.toNat = (0 : Int32) by decide)]
      rfl
    · rw [if_neg e] at ho; exact absurd rfl ho
  · intro n g p c dp hp hR ho
    unfold opQ at ho
    by_cases e : isW B (tok B N p) (tx 15) = true
    · rw [if_pos e] at ho; exact absurd ho (by decide)
    · rw [fX12_readTruth_4, hR.tookN hN hp 50 (by decide) e, bndc_s, if_pos rfl]
  · intro n g hb
    rw [fX12_readTruth_4, took_bad hb, bndc_s, if_pos rfl]
  · intro p hp ho
    unfold opQ at ho ⊢
    by_cases e : isW B (tok B N p) (tx 15) = true
    · rw [if_pos e]
      exact ⟨by decide, by decide, by rw [isW_k e]; decide, fun K => rfl⟩
    · rw [if_neg e] at ho; exact absurd rfl ho
  · intro C' s u0 t0 d hF hO hP hE ho
    unfold opQ at ho ⊢
    by_cases e : isW B (tok B N (kP C')) (tx 15) = true
    · rw [if_pos e]
      have := lk_wd (law := law) hF hO hE.1.1 (Or.inr e)
      rw [if_neg hE.2] at this
      exact this
    · rw [if_neg e] at ho; exact absurd rfl ho
  · intro s s' t s2 t2 u0 t0 d _ h1 h2
    exact h2
  · intro s u0 t0 d s' t t1 hP h1
    exact ⟨rfl, rfl, hP.2.2⟩
  · intro s s' t h1 h2
    refine ⟨h1, fun e => ?_⟩
    unfold opQ at h2
    rw [if_pos e] at h2
    exact absurd h2 (by decide)
theorem tudU_bad {n : Nat} (hn : 1 ≤ n) {g : MS} (hb : ¬ g.1 12 = 0) : fX12_readTUD n false g = some g := by
  obtain ⟨n, rfl⟩ : ∃ n', n = n' + 1 := ⟨n - 1, by omega⟩
  rw [fX12_readTUD]
  unfold fX12_readUnitB
  rw [if_neg hb]
theorem tudT_bad {n : Nat} (hn : 2 ≤ n) {g : MS} (hb : ¬ g.1 12 = 0) : fX12_readTUD n true g = some g := by
  obtain ⟨n, rfl⟩ : ∃ n', n = n' + 1 := ⟨n - 1, by omega⟩
  rw [fX12_readTUD]
  have e1 : ∀ rt, fX12_readBothB (fX12_readTUD n false) rt g = some g := fun rt => by
    unfold fX12_readBothB
    rw [tudU_bad (by omega) hb, bndv_s, show fuel = fuel - 1 + 1 by unfold fuel; omega, fX12_readBoth_4, took_bad hb, bndc_s, if_pos rfl]
  unfold fX12_readTruthB
  rw [e1, bndv_s, show fuel = fuel - 1 + 1 by unfold fuel; omega, fX12_readTruth_4, took_bad hb, bndc_s, if_pos rfl]
theorem tud_sp (hN : N ≤ 900) (hlaw : law ≤ 2) : ∀ n, Sp B N law 4 3 (PrU 15 n) EU 16 true (fX12_readTUD n false) ∧ Sp B N law 1 1 (PrU 16 n) (EO B) 18 true (fX12_readTUD n true)
  | 0 => ⟨fun C g hC hF hO ht hP hR => by
      have := hP.2.2
      have := hC.2.2.2.1
      omega, fun C g hC hF hO ht hP hR => by
      have := hP.2.2
      have := hC.2.2.2.1
      omega⟩
  | n + 1 => by
    have ih := tud_sp hN hlaw n
    refine ⟨Sp.unit hN hlaw ih.1 (fun hn g hb => tudU_bad hn hb) ih.2 (fun hn g hb => tudT_bad hn hb), fun C g hC hF hO ht hP hR => ?_⟩
    exact Sp.truth hN hlaw (Sp.both hN hlaw (rt := fX12_readTUD n true) ih.1) C g hC hF hO ht ⟨hP.1, hP.2.1, by have := hP.2.2; omega⟩ hR
theorem truth_sp (hN : N ≤ 900) (hlaw : law ≤ 2) : Sp B N law 1 1 (PrU 16 16) (EO B) 18 true fX12_readTruth := (tud_sp hN hlaw 16).2
theorem truth_bad {g : MS} (hb : ¬ g.1 12 = 0) : fX12_readTruth g = some g := tudT_bad (n := 16) (by omega) hb
end
