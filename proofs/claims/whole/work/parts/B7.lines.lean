/-! ===== the lines of a board on both sides ===== -/
theorem inP_add {P : PL} {x : List Nat} {f : Nat → Int32} (hf : ∀ i, i < x.length → f i = encC (x.getD i 0)) : inP (pAdd P x.length f) P.1 x := by
  unfold inP pAdd
  refine ⟨Nat.lt_succ_self _, ?_, fun i hi => ?_⟩
  · show (if P.1 = P.1 then (x.length, f) else P.2.2 P.1).1 = x.length
    rw [if_pos rfl]
  · show (if P.1 = P.1 then (x.length, f) else P.2.2 P.1).2 i = _
    rw [if_pos rfl]
    exact hf i hi
theorem inP.up {P P' : PL} {d w : Nat} {l : Lw} (h : inP P w l) (x : PX P P' d) : inP P' w l := by
  obtain ⟨h1, h2, h3⟩ := h
  refine ⟨Nat.lt_of_lt_of_le h1 x.1, ?_, fun i hi => ?_⟩
  · rw [x.2.2.2.2 w h1]; exact h2
  · rw [x.2.2.2.2 w h1]; exact h3 i hi
theorem wfL_up {P P' : PL} {h h' : CS} (hw : wfL P h = true) (hP : P.1 ≤ P'.1) (hr : ∀ o k, h'.2.2.2 o k = h.2.2.2 o k ∨ h'.2.2.2 o k < P'.1) : wfL P' h' = true := by
  have f : ∀ o k, h.2.2.2 o k < P.1 → h'.2.2.2 o k < P'.1 := fun o k hk => by
    rcases hr o k with q | q
    · rw [q]; exact Nat.lt_of_lt_of_le hk hP
    · exact q
  have H := of_decide_eq_true hw
  obtain ⟨⟨⟨a1, a2⟩, a3, a4⟩, ⟨b1, b2, b3⟩, ⟨c1, c2, c3⟩, ⟨d1, d2, d3⟩, ⟨e1, e2, e3⟩, f1, f2, f3⟩ := H
  exact decide_eq_true ⟨⟨⟨f _ _ a1, f _ _ a2⟩, f _ _ a3, f _ _ a4⟩, ⟨f _ _ b1, f _ _ b2, f _ _ b3⟩, ⟨f _ _ c1, f _ _ c2, f _ _ c3⟩, ⟨f _ _ d1, f _ _ d2, f _ _ d3⟩, ⟨f _ _ e1, f _ _ e2, f _ _ e3⟩, f _ _ f1, f _ _ f2, f _ _ f3⟩
theorem wfL_42 {P : PL} {h : CS} (hw : wfL P h = true) : h.2.2.2 4 12 < P.1 := (of_decide_eq_true hw).1.2.2
theorem tF_h {h : CS} {k w : Nat} (o j : Nat) : (tF h 4 k w).2.2.2 o j = h.2.2.2 o j ∨ (tF h 4 k w).2.2.2 o j = w := by
  rw [tF_4]
  by_cases e : o = 4
  · rw [if_pos e]
    by_cases e2 : j = k
    · rw [if_pos e2]; exact Or.inr rfl
    · rw [if_neg e2, e]; exact Or.inl rfl
  · rw [if_neg e]; exact Or.inl rfl
theorem PX_add {P : PL} {n d : Nat} {f : Nat → Int32} (h1 : 7 ≤ d) (h2 : n ≤ d) : PX P (pAdd P n f) d := ⟨Nat.le_succ _, Nat.le_add_right _ _, by show 7 * (P.1 + 1) ≤ _; omega, by show P.2.1 + n ≤ _; omega, fun i hi => by show (if i = P.1 then (n, f) else P.2.2 i) = _; rw [if_neg (by omega)]⟩
section
variable {B : Nat → Nat} {N law p ln : Nat} {P : PL} {h : CS} {g : MS} {b : AB}
theorem law_split : fX3_law P h (nI law) (9 + law) = bndv (fX8_step P h) (fun h1 => lawCl P h1 law) := by
  unfold fX3_law fX3_readLaw fX3_readLaw_0 lawCl lawRd
  cases fX8_step P h with
  | none => rfl
  | some z => rfl
def bL (law : Nat) (x : Lw) (b : AB) : AB := (bN b, bA b, bW b, bS b, (if law = 0 then x else bD b), (if law = 1 then x else bC b), (if law = 2 then x else bG b))
theorem KB.mL {x : List Nat} {k k' : Nat → Int32} (hlaw : law ≤ 2) (wf : wfB b) (h : KB b k) (hL : KL law x k k') : KB (bL law x b) k' := by
  obtain ⟨b1, b2, b3, b4, b5, b6, b7, b8, b9, b10⟩ := h
  obtain ⟨l1, l2, l3, l4⟩ := hL
  have hn := wf.2.1
  have d1 := wf.2.2.2.2.2.1.1
  have d2 := wf.2.2.2.2.2.2.1.1
  have d3 := wf.2.2.2.2.2.2.2.1
  rcases (show law = 0 ∨ law = 1 ∨ law = 2 by omega) with e | e | e
  · subst e
    exact ⟨by rw [l4 1 (by omega) (by omega) (by omega)]; exact b1, by rw [l4 18 (by omega) (by omega) (by omega)]; exact b2, fun m hm => by have hm : m < bN b := hm; rw [l4 _ (by omega) (by omega) (by omega)]; exact b3 m hm, fun m hm => by have hm : m < bN b := hm; rw [l4 _ (by omega) (by omega) (by omega)]; exact b4 m hm, l1, by rw [l4 3 (by omega) (by omega) (by omega)]; exact b6, by rw [l4 4 (by omega) (by omega) (by omega)]; exact b7, l2, fun i hi => by rw [l4 _ (by omega) (by omega) (by omega)]; exact b9 i hi, fun i hi => by rw [l4 _ (by omega) (by omega) (by omega)]; exact b10 i hi⟩
  · subst e
    refine ⟨by rw [l4 1 (by omega) (by omega) (by omega)]; exact b1, by rw [l4 18 (by omega) (by omega) (by omega)]; exact b2, fun m hm => by have hm : m < bN b := hm; rw [l4 _ (by omega) (by omega) (by omega)]; exact b3 m hm, fun m hm => by have hm : m < bN b := hm; rw [l4 _ (by omega) (by omega) (by omega)]; exact b4 m hm, by rw [l4 2 (by omega) (by omega) (by omega)]; exact b5, l1, by rw [l4 4 (by omega) (by omega) (by omega)]; exact b7, fun i hi => ?_, l2, fun i hi => by rw [l4 _ (by omega) (by omega) (by omega)]; exact b10 i hi⟩
    have hi : i < (bD b).length := hi
    rw [l4 _ (by omega) (by omega) (by omega)]; exact b8 i hi
  · subst e
    refine ⟨by rw [l4 1 (by omega) (by omega) (by omega)]; exact b1, by rw [l4 18 (by omega) (by omega) (by omega)]; exact b2, fun m hm => by have hm : m < bN b := hm; rw [l4 _ (by omega) (by omega) (by omega)]; exact b3 m hm, fun m hm => by have hm : m < bN b := hm; rw [l4 _ (by omega) (by omega) (by omega)]; exact b4 m hm, by rw [l4 2 (by omega) (by omega) (by omega)]; exact b5, by rw [l4 3 (by omega) (by omega) (by omega)]; exact b6, l1, fun i hi => ?_, fun i hi => ?_, l2⟩
    · have hi : i < (bD b).length := hi
      rw [l4 _ (by omega) (by omega) (by omega)]; exact b8 i hi
    · have hi : i < (bC b).length := hi
      rw [l4 _ (by omega) (by omega) (by omega)]; exact b9 i hi
theorem wfB.mL {x : List Nat} (hlaw : law ≤ 2) (wf : wfB b) (hx : x.length < 900) (ty : tyS x [] = some [decide (law = 0)]) : wfB (bL law x b) := by
  obtain ⟨w1, w2, w3, w4, w5, w6, w7, w8⟩ := wf
  refine ⟨w1, w2, w3, w4, w5, ?_, ?_, ?_⟩
  · show lwOK true (if law = 0 then x else bD b)
    by_cases e : law = 0
    · rw [if_pos e]; exact ⟨by omega, Or.inr (by rw [ty, decide_eq_true e])⟩
    · rw [if_neg e]; exact w6
  · show lwOK false (if law = 1 then x else bC b)
    by_cases e : law = 1
    · rw [if_pos e]; exact ⟨by omega, Or.inr (by rw [ty, decide_eq_false (by omega)])⟩
    · rw [if_neg e]; exact w7
  · show lwOK false (if law = 2 then x else bG b)
    by_cases e : law = 2
    · rw [if_pos e]; exact ⟨by omega, Or.inr (by rw [ty, decide_eq_false (by omega)])⟩
    · rw [if_neg e]; exact w8
theorem LJ.nj {p1 : Nat} {g1 g' : MS} {h1 : CS} {q : PL × CS} (hlaw : law ≤ 2) (k : PJ B N p1 b ln P g1 h1) (hp : p + 4 ≤ p1) (F : fM liR [1] g g1) (G : fP h h1) (e : h1.2.2.2 = h.2.2.2) (j : LJ B N law p1 P g1 h1 g' q) : NJ B N p ln P g h g' q := by
  obtain ⟨⟨hp0, hp1, hl⟩, wf, ⟨a1, a2, a3, a4, a5⟩, ⟨c1, c2, c3, c4, c5, c6⟩, d1, d2, d3, d4, d5⟩ := k
  obtain ⟨j1, j2, j3⟩ := j
  rcases j3 with ⟨p', x, ⟨x1, x2, x3, x4⟩, ⟨y1, y2, y3⟩, ty, ⟨f, z1, z2⟩, u1, u2, u3, u4⟩ | ⟨f, l, H, H', eP, u2⟩
  · have X : PX P q.1 (p' - p) := by rw [z1]; exact PX_add (by omega) (by omega)
    have X1 : P.1 < q.1.1 := by rw [z1]; exact Nat.lt_succ_self _
    have rf : ∀ o k, q.2.2.2.2 o k = if o = 4 then (if k = 9 + law then P.1 else h1.2.2.2 4 k) else h1.2.2.2 o k := fun o k => by rw [u2, tF_4]
    have rw' : ∀ kk (l : Lw), (kk ≠ 9 + law → inP P (h1.2.2.2 4 kk) l) → (kk = 9 + law → l = x) → inP q.1 (q.2.2.2.2 4 kk) l := fun kk l hne heq => by
      rw [rf, if_pos rfl]
      by_cases ek : kk = 9 + law
      · rw [if_pos ek, heq ek, z1]; exact inP_add z2
      · rw [if_neg ek]; exact (hne ek).up X
    refine ⟨F.trans j1, G.trans j2, fun o ho => by rw [funext (fun k => rf o k), ← e]; funext k; rw [if_neg ho], Or.inl ⟨p', bL law x b, by omega, ⟨⟨x2, by omega, by omega⟩, wfB.mL hlaw wf x4 ty, ⟨y1, y2, KB.mL hlaw wf a3 y3, ?_, ?_⟩, ⟨u1, ?_, ?_, ?_, ?_, ?_⟩, ?_, ?_, ?_, ?_, ?_⟩, X⟩⟩
    · rw [y3.2.2.1, a4, nI_1]
    · rw [y3.2.2.2 5 (by omega) (by omega) (by omega)]; exact a5
    · rw [u4 4 (by omega)]; exact c2
    · rw [u3, c3, nI_1]
    · rw [u4 6 (by omega)]; exact c4
    · rw [u4 7 (by omega)]; exact c5
    · rw [u4 8 (by omega)]; exact c6
    · refine rw' 9 (if law = 0 then x else bD b) (fun n => ?_) (fun n => by rw [if_pos (by omega)])
      rw [if_neg (by omega)]; exact d1
    · refine rw' 10 (if law = 1 then x else bC b) (fun n => ?_) (fun n => by rw [if_pos (by omega)])
      rw [if_neg (by omega)]; exact d2
    · refine rw' 11 (if law = 2 then x else bG b) (fun n => ?_) (fun n => by rw [if_pos (by omega)])
      rw [if_neg (by omega)]; exact d3
    · exact rw' 12 [] (fun n => d4) (fun n => by omega)
    · refine wfL_up d5 X.1 (fun o k => ?_)
      rw [u2]
      rcases tF_h (h := h1) (k := 9 + law) (w := P.1) o k with q | q
      · exact Or.inl q
      · exact Or.inr (by rw [q]; exact X1)
  · have rf : ∀ o k, q.2.2.2.2 o k = if o = 4 then (if k = 9 + law then h1.2.2.2 4 12 else h1.2.2.2 4 k) else h1.2.2.2 o k := fun o k => by rw [u2, tF_4]
    refine ⟨F.trans j1, G.trans j2, fun o ho => by rw [funext (fun k => rf o k), ← e]; funext k; rw [if_neg ho], Or.inr ⟨f, l, H, H', eP, ?_, ?_⟩⟩
    · refine wfL_up d5 (Nat.le_refl _) (fun o k => ?_)
      rw [u2]
      rcases tF_h (h := h1) (k := 9 + law) (w := h1.2.2.2 4 12) o k with q | q
      · exact Or.inl q
      · exact Or.inr (by rw [q]; exact wfL_42 d5)
    · rw [rf, if_pos rfl, if_neg (by omega)]; exact d4
theorem lawline (hN : N ≤ 900) (hlaw : law ≤ 2) (k : PJ B N p b ln P g h) {i : Nat} (hi : (tx i).length < 100) (hw : isW B (tok B N p) (tx i) = true) (h4 : 4 ≤ (tx i).length) : Ev (fX12_readsOn g) (fun g1 => Ev (lawMo law g1) (fun g' => Ev (fX3_law P h (nI law) (9 + law)) (NJ B N p ln P g h g'))) := by
  have kk := k
  obtain ⟨⟨hp, hp1, hl⟩, wf, ⟨a1, a2, a3, a4, a5⟩, ⟨c1, c2, c3, c4, c5, c6⟩, d1, d2, d3, d4, d5⟩ := k
  obtain ⟨r1, r2, r3, r4, r5, r6, r7, r8⟩ := tok_rng B N p hp
  have hlen := (of_decide_eq_true hw).2.1
  refine (a1.on hN hp).mono ?_
  rintro g1 ⟨R, F⟩
  obtain ⟨h1, e1, K, G⟩ := c1.on (P := P) hN hp
  have k1 := kk.mv (p1 := tEn (tok B N p)) ⟨by omega, r3⟩ R F K G
  refine (law_both (P := P) hN hlaw r3 (by omega) R k1.2.2.1.2.1 K k1.2.2.2.2.2.2.2.2).mono ?_
  intro g' hg'
  rw [law_split, e1, bndv_s]
  exact hg'.mono (fun q hq => LJ.nj hlaw k1 (by omega) (F.mono (by decide) (fun z hz => nomatch hz)) (fP.of G (by decide) (by decide)) G.2.2.2 hq)
theorem took_on {i : Nat} {ρ : Type} {K : Int32 → MS → Option ρ} {Q : ρ → Prop} (hN : N ≤ 900) (hp : p ≤ N) (R : RB B N p g) (hi : (tx i).length < 100) (hw : isW B (tok B N p) (tx i) = true) (e : Ev (fX12_readsOn g) (fun g1 => Ev (K (nI true.toNat) g1) Q)) : Ev (bndc (fX12_took g i) K) Q := by
  unfold fX12_took
  rw [mWord_eq hN hp R.1 R.2.1 R.2.2 i hi, bndc_s, hw, if_neg (by decide), ev_bndc, ev_bndv]
  refine e.mono (fun z hz => ?_)
  exact Ev.k (by decide) (ev_some.mpr hz)
theorem line_both (hN : N ≤ 900) (k : PJ B N p b ln P g h) : Ev (fX12_readLine g) (fun g' => Ev (fX3_readLine P h) (NJ B N p ln P g h g')) := by
  have kk := k
  obtain ⟨w1, w2⟩ := kk.w6
  obtain ⟨⟨hp, hp1, hl⟩, wf, ⟨a1, a2, a3, a4, a5⟩, ⟨c1, c2, c3, c4, c5, c6⟩, d⟩ := k
  obtain ⟨r1, r2, r3, r4, r5, r6, r7, r8⟩ := tok_rng B N p hp
  have hn6 := wf.2.1
  have hn2 := wf.1
  have W : ∀ i, (tx i).length < 100 → fX8_isWord P h i = some (nI (isW B (tok B N p) (tx i)).toNat, h) := fun i hi => cWord_eq hN hp c1.1 c1.2.1 i hi
  have t0 : nI false.toNat = (0 : Int32) := rfl
  have t1 : ¬ nI true.toNat = (0 : Int32) := by decide
  unfold fX12_readLine fX3_readLine fX3_readLine_0
  rw [W 2 (by decide), bndc_s]
  by_cases w : isW B (tok B N p) (tx 2) = true
  · have r5 := r5 (by rw [isW_k w]; decide)
    rw [w, if_neg t1]
    refine Ev.c (a1.tookY hN hp 38 (by decide) w) ?_
    rintro x1 g2 ⟨e1, R2, F2⟩
    have e1 : x1 = 1 := e1
    rw [e1, if_neg (by decide)]
    unfold fX12_readMember fX3_readMember
    obtain ⟨h2, eh2, K2, G2⟩ := c1.on (P := P) hN hp
    rw [eh2, bndv_s]
    have k2 := kk.mv (p1 := tEn (tok B N p)) ⟨by omega, r3⟩ R2 F2 K2 G2
    have k2' := k2
    obtain ⟨-, -, ⟨-, -, a3', -, -⟩, ⟨-, c2', -, c4', -, -⟩, -⟩ := k2
    rw [chk_tt (show ib 1 2850 = true by decide), show ix 1 = 1 from rfl, a3'.1, c2', l_1, pk_sub (by omega), l_0]
    have hpp : tEn (tok B N p) ≤ N := r3
    generalize hpe : tEn (tok B N p) = p1 at *
    obtain ⟨u1, u2, u3, u4, u5, u6, u7, u8⟩ := tok_rng B N p1 hpp
    rw [ev_bndv]
    by_cases v : tKd (tok B N p1) = 2 ∧ 0 ≤ tVl (tok B N p1) ∧ tVl (tok B N p1) ≤ bN b - 1
    · have u5 := u5 (by omega)
      refine Ev.c (R2.numY hN hpp (a := 0) (b := bN b - 1) (by omega) v) ?_
      rintro x11 g12 ⟨e2, R3, F3⟩
      have e2 : x11 = nI (tVl (tok B N p1)) := e2
      obtain ⟨⟨x, h3⟩, eh3, e3, K3, G3⟩ := K2.numY (P := P) hN hpp (a := 0) (b := bN b - 1) (by omega) v
      have e3 : x = nI (tVl (tok B N p1)) := e3
      rw [eh3, bndc_s, e2, e3]
      have k3 := k2'.mv (p1 := tEn (tok B N p1)) ⟨by omega, u3⟩ R3 F3 K3 G3
      rw [← ev_bndv]
      refine (mem_loop hN (N - tEn (tok B N p1)) (tEn (tok B N p1)) fuel fuel _ _ 0 _ (tVl (tok B N p1)) rfl (by unfold fuel; omega) (by unfold fuel; omega) (by omega) k3 (by omega)).mono ?_
      intro g' hg'
      refine hg'.mono (fun q hq => NJ.pre ?_ ?_ ?_ (by omega) hq)
      · exact (F2.trans F3).mono (by decide) (fun z hz => nomatch hz)
      · exact fP.of (G2.trans G3) (by decide) (by decide)
      · rw [G3.2.2.2, G2.2.2.2]
    · refine Ev.c (R2.numN hpp (a := 0) (b := bN b - 1) (by omega) (by omega) v) ?_
      rintro x11 g12 ⟨e2, H3, F3⟩
      obtain ⟨⟨x, h3⟩, eh3, e3, H4, G3⟩ := K2.numN (P := P) hpp (a := 0) (b := bN b - 1) (by omega) (by omega) v
      rw [m16_bad (by unfold fuel; omega) H3.bad]
      refine ev_some.mpr ?_
      rw [stop_bad H3.bad]
      refine ev_some.mpr ?_
      have H4 : FH (nf (tok B N p1)) (tSt (tok B N p1)) h3 := H4
      rw [eh3, bndc_s, m21_bad (by unfold fuel; omega) H4.bad, bndv_s]
      show Ev (fX3_endOf P h3) _
      rw [endOf_b H4]
      have G4 : fC ((4, 2) :: (4, 3) :: lcI) [] [] h h3 := (G2.mono (by decide) (by decide) (by decide)).trans (G3.mono (by decide) (by decide) (by decide))
      refine ev_some.mpr (NJ.bad kk ?_ ⟨_, _, G4, by decide, by decide⟩ H3 H4)
      exact (F2.mono (li2 := liR) (la2 := [1]) (by decide) (fun z hz => nomatch hz)).trans (F3.mono (by decide) (fun z hz => nomatch hz))
  rw [isW_f w, if_pos t0, W 6 (by decide), bndc_s, a1.tookN hN hp 38 (by decide) w, bndc_s, if_pos rfl]
  by_cases w2' : isW B (tok B N p) (tx 6) = true
  · rw [w2', if_neg t1]
    refine took_on hN hp a1 (i := 42) (by decide) w2' ?_
    exact lawline (law := 0) hN (by omega) kk (i := 6) (by decide) w2' (by decide)
  rw [isW_f w2', if_pos t0, W 16 (by decide), bndc_s, a1.tookN hN hp 42 (by decide) w2', bndc_s, if_pos rfl]
  by_cases w3 : isW B (tok B N p) (tx 16) = true
  · rw [w3, if_neg t1]
    refine took_on hN hp a1 (i := 51) (by decide) w3 ?_
    exact lawline (law := 1) hN (by omega) kk (i := 16) (by decide) w3 (by decide)
  rw [isW_f w3, if_pos t0, W 17 (by decide), bndc_s, a1.tookN hN hp 51 (by decide) w3, bndc_s, if_pos rfl]
  by_cases w4 : isW B (tok B N p) (tx 17) = true
  · rw [w4, if_neg t1]
    refine took_on hN hp a1 (i := 52) (by decide) w4 ?_
    exact lawline (law := 2) hN (by omega) kk (i := 17) (by decide) w4 (by decide)
  rw [isW_f w4, if_pos t0, a1.tookN hN hp 52 (by decide) w4, bndc_s, if_pos rfl]
  refine Ev.v (a1.blame hp (k := 2) ⟨by decide, by decide⟩) ?_
  rintro g' ⟨H, F⟩
  rw [stop_bad H.bad]
  obtain ⟨h2, eh2, H2, G2⟩ := c1.ref (P := P) hp (j := 2) ⟨by decide, by decide⟩
  rw [show (2 : Int32) = nI 2 from rfl, eh2, bndv_s]
  refine ev_some.mpr ?_
  show Ev (fX3_endOf P h2) _
  rw [endOf_b H2]
  exact ev_some.mpr ((NJ.bad kk (F.mono (by decide) (fun z hz => nomatch hz)) ⟨_, _, G2, by decide, by decide⟩ H H2))
end
section
variable {B : Nat → Nat} {N p ln : Nat} {P P0 : PL} {h : CS} {g : MS} {b : AB}
/-- what the reading of all lines leaves -/
def EJ (B : Nat → Nat) (N : Nat) (P0 : PL) (g : MS) (h : CS) (g' : MS) (P' : PL) (h' : CS) : Prop := fM liR [1] g g' ∧ fP h h' ∧ (∀ o, o ≠ 4 → h'.2.2.2 o = h.2.2.2 o) ∧ PX P0 P' 900 ∧
  ((∃ p' b' ln', PJ B N p' b' ln' P' g' h') ∨ (∃ f l, FS f l g' ∧ FH f l h' ∧ wfL P' h' = true ∧ inP P' (h'.2.2.2 4 12) []))
theorem EJ.pre {g1 g' : MS} {h1 h' : CS} {P' : PL} (a : fM liR [1] g g1) (c : fP h h1) (d : ∀ o, o ≠ 4 → h1.2.2.2 o = h.2.2.2 o) (n : EJ B N P0 g1 h1 g' P' h') : EJ B N P0 g h g' P' h' := ⟨a.trans n.1, c.trans n.2.1, fun o ho => (n.2.2.1 o ho).trans (d o ho), n.2.2.2⟩
theorem capB_t {P1 : PL} (a : PX P0 P 900) (c : PX P P1 900) (e : PX P0 P1 900) : capB P0 P P1 = true := by
  obtain ⟨a1, a2, a3, a4, a5⟩ := a
  obtain ⟨c1, c2, c3, c4, c5⟩ := c
  obtain ⟨e1, e2, e3, e4, e5⟩ := e
  exact decide_eq_true ⟨c1, c2, by omega, by omega⟩
theorem lines_both (hN : N ≤ 900) : ∀ (d p n m : Nat) (g : MS) (h : CS) (P : PL) (y : Nat) (b : AB) (ln : Nat), N - p = d → d + 1 < n → d + 1 < m → y + d ≤ 899 → PJ B N p b ln P g h → PX P0 P p → ∃ g' P' h', fX12_board_123 n g = fX12_board_144 g' ∧ fX3_read_63 P0 m P h (nI y) = some (P', h') ∧ EJ B N P0 g h g' P' h' := by
  intro d
  induction d using Nat.strongRecOn with
  | ind d ih =>
    intro p n m g h P y b ln hd hn hm hy k X
    have kk := k
    obtain ⟨⟨hp, hp1, hl⟩, wf, ⟨a1, a2, a3, a4, a5⟩, ⟨c1, c2, c3, c4, c5, c6⟩, dd⟩ := k
    obtain ⟨n, rfl⟩ : ∃ n', n = n' + 1 := ⟨n - 1, by omega⟩
    obtain ⟨m, rfl⟩ : ∃ n', m = n' + 1 := ⟨m - 1, by omega⟩
    obtain ⟨r1, r2, r3, r4, r5, r6, r7, r8⟩ := tok_rng B N p hp
    rw [fX12_board_123, if_pos a1.2.1, a1.2.2.2.2.1, fX3_read_63, l_900, if_neg (nI_ge (by omega) (by omega)), if_pos c1.2.2.1, c1.2.1.2.2.1, i0 (by omega)]
    by_cases k0 : tKd (tok B N p) = 0
    · rw [if_pos ((tkM_0 hp).mpr k0), if_pos k0]
      exact ⟨g, P, h, rfl, rfl, fM.refl g, fP.refl h, fun _ _ => rfl, X.mono (by omega), Or.inl ⟨p, b, ln, kk⟩⟩
    · rw [if_neg (fun z => k0 ((tkM_0 hp).mp z)), if_neg k0]
      obtain ⟨g1, e1, ⟨P1, h1⟩, e2, n1, n2, n3, n4⟩ := line_both (P := P) hN kk
      rw [e1, bndv_s, e2, bndc_s]
      obtain ⟨n, rfl⟩ : ∃ n', n = n' + 1 := ⟨n - 1, by omega⟩
      obtain ⟨m, rfl⟩ : ∃ n', m = n' + 1 := ⟨m - 1, by omega⟩
      rcases n4 with ⟨p', b', x1, x2, x3⟩ | ⟨f, l, H, H', eP, w1, w2⟩
      · have hp' : p' ≤ N := x2.1.1
        have X' : PX P0 P1 p' := (X.trans x3).mono (by omega)
        rw [chk_tt (capB_t (X.mono (by omega)) (x3.mono (by omega)) (X'.mono (by omega))), nI_1, bnd_e]
        obtain ⟨g', P', h', q1, q2, q3⟩ := ih (N - p') (by omega) p' (n + 1) (m + 1) g1 h1 P1 (y + 1) b' (ln + 1) rfl (by omega) (by omega) (by omega) x2 X'
        exact ⟨g', P', h', q1, q2, EJ.pre n1 n2 n3 q3⟩
      · have eP : P1 = P := eP
        subst eP
        have H' : FH f l h1 := H'
        rw [chk_tt (capB_t (X.mono (by omega)) (PX.refl _ _) (X.mono (by omega))), nI_1, bnd_e, fX12_board_123, if_neg H.bad, fX3_read_63, if_neg H'.bad]
        refine ⟨g1, P1, h1, rfl, ?_, n1, n2, n3, X.mono (by omega), Or.inr ⟨f, l, H, H', w1, w2⟩⟩
        split <;> rfl
end
