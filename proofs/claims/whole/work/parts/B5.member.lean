/-! ===== numbers and members' lines on both sides ===== -/
section
variable {B : Nat → Nat} {N p : Nat} {P : PL} {h : CS} {g : MS}
def nf (t : Tk) : Nat := fk t (if tKd t = 2 then 3 else 2)
theorem RB.numY (hN : N ≤ 900) (hp : p ≤ N) (h : RB B N p g) {a b : Nat} (hb : b < 2 ^ 31) (hv : tKd (tok B N p) = 2 ∧ a ≤ tVl (tok B N p) ∧ tVl (tok B N p) ≤ b) : Ev (fX12_number g (nI a) (nI b)) (fun q => q.1 = nI (tVl (tok B N p)) ∧ RB B N (tEn (tok B N p)) q.2 ∧ fM lxI [] g q.2) := by
  unfold fX12_number
  rw [h.2.2.2.2.1, if_pos ((tkM_2 hp).mpr hv.1), h.2.2.2.2.2 hv.1, within_y (by rw [Int32.toInt_toInt64, Int32.toInt_toInt64, nI_toInt (by omega), nI_toInt (by omega)]; omega) (by rw [Int32.toInt_toInt64, Int32.toInt_toInt64, nI_toInt (by omega), nI_toInt (by omega)]; omega), bndv_s, if_neg (by decide)]
  unfold fX12_number_36 fX12_number_52
  rw [bnd_e, if_pos h.2.1, h.2.2.2.2.2 hv.1]
  refine Ev.v (h.on hN hp) ?_
  rintro z ⟨z1, z2⟩
  rw [if_pos z1.2.1]
  exact ev_some.mpr ⟨rfl, z1, z2⟩
theorem RB.numN (hp : p ≤ N) (h : RB B N p g) {a b : Nat} (ha : a < 2 ^ 31) (hb : b < 2 ^ 31) (hv : ¬ (tKd (tok B N p) = 2 ∧ a ≤ tVl (tok B N p) ∧ tVl (tok B N p) ≤ b)) : Ev (fX12_number g (nI a) (nI b)) (fun q => q.1 = nI a ∧ FS (nf (tok B N p)) (tSt (tok B N p)) q.2 ∧ fM [12, 13] [] g q.2) := by
  obtain ⟨r1, r2, r3, r4, r5, r6, r7, r8⟩ := tok_rng B N p hp
  unfold fX12_number nf
  rw [h.2.2.2.2.1]
  by_cases k2 : tKd (tok B N p) = 2
  · have hv2 := r6 k2
    rw [if_pos ((tkM_2 hp).mpr k2), h.2.2.2.2.2 k2, within_n (by rw [Int32.toInt_toInt64, Int32.toInt_toInt64, Int32.toInt_toInt64, nI_toInt (by omega), nI_toInt (by omega), nI_toInt (by omega)]; omega), bndv_s, if_pos rfl, if_pos k2]
    refine Ev.v (h.blame hp (k := 3) ⟨by decide, by decide⟩) ?_
    rintro z ⟨z1, z2⟩
    rw [num36_bad z1.bad]
    exact ev_some.mpr ⟨rfl, z1, z2⟩
  · rw [if_neg (fun z => k2 ((tkM_2 hp).mp z)), if_neg k2]
    refine Ev.v (h.blame hp (k := 2) ⟨by decide, by decide⟩) ?_
    rintro z ⟨z1, z2⟩
    rw [num36_bad z1.bad]
    exact ev_some.mpr ⟨rfl, z1, z2⟩
theorem CK.numY (hN : N ≤ 900) (hp : p ≤ N) (k : CK B N p h) {a b : Nat} (hb : b < 2 ^ 31) (hv : tKd (tok B N p) = 2 ∧ a ≤ tVl (tok B N p) ∧ tVl (tok B N p) ≤ b) : Ev (fX3_takeNumber P h (nI a) (nI b)) (fun q => q.1 = nI (tVl (tok B N p)) ∧ CK B N (tEn (tok B N p)) q.2 ∧ fC lcI [] [] h q.2) := by
  unfold fX3_takeNumber
  rw [if_pos k.2.2.1, bnd_e, k.2.1.2.2.1, hv.1, if_pos (show nI 2 = (2 : Int32) from rfl), k.2.1.2.2.2 (Or.inl hv.1), iLT (by omega) (by omega), if_neg (by omega), iLE (by omega) (by omega), if_pos (by omega)]
  refine Ev.v (k.on hN hp) ?_
  rintro z ⟨z1, z2⟩
  exact ev_some.mpr ⟨rfl, z1, z2⟩
theorem CK.numN (hp : p ≤ N) (k : CK B N p h) {a b : Nat} (ha : a < 2 ^ 31) (hb : b < 2 ^ 31) (hv : ¬ (tKd (tok B N p) = 2 ∧ a ≤ tVl (tok B N p) ∧ tVl (tok B N p) ≤ b)) : Ev (fX3_takeNumber P h (nI a) (nI b)) (fun q => q.1 = nI a ∧ FH (nf (tok B N p)) (tSt (tok B N p)) q.2 ∧ fC [(4, 2), (4, 3)] [] [] h q.2) := by
  obtain ⟨r1, r2, r3, r4, r5, r6, r7, r8⟩ := tok_rng B N p hp
  unfold fX3_takeNumber fX3_takeNumber_45 nf
  rw [if_pos k.2.2.1, bnd_e, k.2.1.2.2.1, l_2, iEQ (by omega) (by omega)]
  by_cases k2 : tKd (tok B N p) = 2
  · have hv2 := r6 k2
    rw [if_pos k2, if_pos k2, k.2.1.2.2.2 (Or.inl k2), iLT (by omega) (by omega), iLE (by omega) (by omega)]
    have e3 : Ev (bndv (fX3_refuse P h (3 : Int32)) (fun g1 => some (nI a, g1))) (fun q => q.1 = nI a ∧ FH (fk (tok B N p) 3) (tSt (tok B N p)) q.2 ∧ fC [(4, 2), (4, 3)] [] [] h q.2) := by
      refine Ev.v (k.ref hp (j := 3) ⟨by decide, by decide⟩) ?_
      rintro z ⟨z1, z2⟩
      exact ev_some.mpr ⟨rfl, z1, z2⟩
    by_cases c : tVl (tok B N p) < a
    · rw [if_pos c]; exact e3
    · rw [if_neg c, if_neg (by omega)]; exact e3
  · rw [if_neg k2, if_neg k2]
    refine Ev.v (k.ref hp (j := 2) ⟨by decide, by decide⟩) ?_
    rintro z ⟨z1, z2⟩
    exact ev_some.mpr ⟨rfl, z1, z2⟩
end
/-! a board in the making, on both sides -/
def PJ (B : Nat → Nat) (N p : Nat) (b : AB) (ln : Nat) (P : PL) (g : MS) (h : CS) : Prop :=
  (p ≤ N ∧ 1 ≤ p ∧ ln ≤ p) ∧ wfB b ∧ (RB B N p g ∧ g.1 16 = 0 ∧ KB b (g.2.1 1) ∧ g.2.1 1 0 = nI ln ∧ g.2.1 1 5 = 0) ∧
  (CK B N p h ∧ h.1 4 4 = nI (bN b) ∧ h.1 4 5 = nI ln ∧ h.1 4 6 = nI (l6 (bA b)) ∧ h.1 4 7 = nI (l6 (bW b)) ∧ h.1 4 8 = nI (bS b)) ∧
  (inP P (h.2.2.2 4 9) (bD b) ∧ inP P (h.2.2.2 4 10) (bC b) ∧ inP P (h.2.2.2 4 11) (bG b) ∧ inP P (h.2.2.2 4 12) [] ∧ wfL P h = true)
def PX (P P' : PL) (d : Nat) : Prop := P.1 ≤ P'.1 ∧ P.2.1 ≤ P'.2.1 ∧ 7 * P'.1 ≤ 7 * P.1 + d ∧ P'.2.1 ≤ P.2.1 + d ∧ ∀ i, i < P.1 → P'.2.2 i = P.2.2 i
theorem PX.refl (P : PL) (d : Nat) : PX P P d := ⟨Nat.le_refl _, Nat.le_refl _, by omega, by omega, fun _ _ => rfl⟩
theorem PX.trans {P P' P'' : PL} {d e : Nat} (a : PX P P' d) (b : PX P' P'' e) : PX P P'' (d + e) := by
  obtain ⟨a1, a2, a3, a4, a5⟩ := a
  obtain ⟨b1, b2, b3, b4, b5⟩ := b
  exact ⟨by omega, by omega, by omega, by omega, fun i hi => (b5 i (by omega)).trans (a5 i hi)⟩
theorem PX.mono {P P' : PL} {d e : Nat} (a : PX P P' d) (h : d ≤ e) : PX P P' e := ⟨a.1, a.2.1, by have := a.2.2.1; omega, by have := a.2.2.2.1; omega, a.2.2.2.2⟩
/-- what a line leaves -/
def NJ (B : Nat → Nat) (N p ln : Nat) (P : PL) (g : MS) (h : CS) (g' : MS) (q : PL × CS) : Prop := fM liR [1] g g' ∧ fP h q.2 ∧ (∀ o, o ≠ 4 → q.2.2.2.2 o = h.2.2.2 o) ∧
  ((∃ p' b', p < p' ∧ PJ B N p' b' (ln + 1) q.1 g' q.2 ∧ PX P q.1 (p' - p)) ∨ (∃ f l, FS f l g' ∧ FH f l q.2 ∧ q.1 = P ∧ wfL P q.2 = true ∧ inP P (q.2.2.2.2 4 12) []))
section
variable {B : Nat → Nat} {N p ln : Nat} {P : PL} {h : CS} {g : MS} {b : AB}
theorem NJ.pre {p1 : Nat} {g1 g' : MS} {h1 : CS} {q : PL × CS} (a : fM liR [1] g g1) (c : fP h h1) (d : h1.2.2.2 = h.2.2.2) (e : p ≤ p1) (n : NJ B N p1 ln P g1 h1 g' q) : NJ B N p ln P g h g' q := by
  obtain ⟨n1, n2, n3, n4⟩ := n
  refine ⟨a.trans n1, c.trans n2, fun o ho => by rw [n3 o ho, d], ?_⟩
  rcases n4 with ⟨p', b', x1, x2, x3⟩ | x
  · exact Or.inl ⟨p', b', by omega, x2, x3.mono (by omega)⟩
  · exact Or.inr x
theorem PJ.w6 (k : PJ B N p b ln P g h) : (∀ j, j < 6 → bA b j < 16) ∧ (∀ j, j < 6 → bW b j < 16) := by
  have w := k.2.1
  exact ⟨fun j hj => by have := (w.2.2.1 j hj).1; have := w.2.1; omega, fun j hj => by have := (w.2.2.2.1 j hj).1; omega⟩
theorem NJ.bad {f l : Nat} {g' : MS} {h' : CS} (k : PJ B N p b ln P g h) (a : fM liR [1] g g') (F : ∃ oi la, fC oi la [] h h' ∧ (∀ q ∈ oi, q.1 = 4 ∨ q.1 = 5 ∨ q.1 = 6) ∧ (∀ a ∈ la, a ∈ wrA)) (H : FS f l g') (H' : FH f l h') : NJ B N p ln P g h g' (P, h') := by
  obtain ⟨oi, la, f1, f2, f3⟩ := F
  refine ⟨a, fP.of f1 f2 f3, fun o _ => by rw [f1.2.2.2], Or.inr ⟨f, l, H, H', rfl, wfL.of k.2.2.2.2.2.2.2.2 f1.2.2.2, ?_⟩⟩
  show inP P (h'.2.2.2 4 12) []
  rw [f1.2.2.2]
  exact k.2.2.2.2.2.2.2.1
theorem stop_both (hN : N ≤ 900) (k : PJ B N p b ln P g h) : Ev (fX12_readLine_93 g) (fun g' => Ev (fX3_endOf P h) (NJ B N p ln P g h g')) := by
  have kk := k
  obtain ⟨⟨hp, hp1, hl⟩, wf, ⟨a1, a2, a3, a4, a5⟩, ⟨c1, c2, c3, c4, c5, c6⟩, d⟩ := k
  obtain ⟨r1, r2, r3, r4, r5, r6, r7, r8⟩ := tok_rng B N p hp
  unfold fX3_endOf
  by_cases s : isS (tok B N p) 59 = true
  · have r5 := r5 (by rw [isS_k s]; decide)
    refine (a1.stop hN hp s).mono ?_
    rintro g' ⟨R, g1, F1, e⟩
    refine Ev.v (c1.stop hN hp s) ?_
    rintro h' ⟨K, q5, F2⟩
    have e1 : ∀ j, g'.2.1 1 j = if j = 0 then g.2.1 1 0 + 1 else g.2.1 1 j := fun j => by rw [e, sA_2, if_pos rfl, upd_j, F1.row 1 (fun z => nomatch z)]
    have M : fM liR [1] g g' := by rw [e]; exact (F1.mono (li2 := liR) (la2 := [1]) (by decide) (fun z hz => nomatch hz)).sA (by decide)
    refine ev_some.mpr ⟨M, fP.of F2 (by decide) (by decide), fun o _ => by show h'.2.2.2 o = _; rw [F2.2.2.2], Or.inl ⟨tEn (tok B N p), b, by omega, ⟨⟨r3, by omega, by omega⟩, wf, ⟨R, ?_, ?_, ?_, ?_⟩, ⟨K, ?_, ?_, ?_, ?_, ?_⟩, ?_⟩, PX.refl P _⟩⟩
    · rw [e]; show g1.1 16 = 0; rw [F1.1 16 (by decide)]; exact a2
    · obtain ⟨b1, b2, b3, b4, b5, b6, b7, b8, b9, b10⟩ := a3
      have hn := wf.2.1
      refine ⟨by rw [e1, if_neg (by omega)]; exact b1, by rw [e1, if_neg (by omega)]; exact b2, fun m hm => by rw [e1, if_neg (by omega)]; exact b3 m hm, fun m hm => by rw [e1, if_neg (by omega)]; exact b4 m hm, by rw [e1, if_neg (by omega)]; exact b5, by rw [e1, if_neg (by omega)]; exact b6, by rw [e1, if_neg (by omega)]; exact b7, fun i hi => by rw [e1, if_neg (by omega)]; exact b8 i hi, fun i hi => by rw [e1, if_neg (by omega)]; exact b9 i hi, fun i hi => by rw [e1, if_neg (by omega)]; exact b10 i hi⟩
    · rw [e1, if_pos rfl, a4, nI_1]
    · rw [e1, if_neg (by omega)]; exact a5
    · rw [F2.i 4 4 (by decide)]; exact c2
    · rw [q5, c3, nI_1]
    · rw [F2.i 4 6 (by decide)]; exact c4
    · rw [F2.i 4 7 (by decide)]; exact c5
    · rw [F2.i 4 8 (by decide)]; exact c6
    · show inP P (h'.2.2.2 4 9) (bD b) ∧ inP P (h'.2.2.2 4 10) (bC b) ∧ inP P (h'.2.2.2 4 11) (bG b) ∧ inP P (h'.2.2.2 4 12) [] ∧ wfL P h' = true
      rw [F2.2.2.2]
      exact ⟨d.1, d.2.1, d.2.2.1, d.2.2.2.1, wfL.of d.2.2.2.2 F2.2.2.2⟩
  · refine (a1.stopN hp s).mono ?_
    rintro g' ⟨R, F1⟩
    refine Ev.v (c1.stopN hp s) ?_
    rintro h' ⟨K, F2⟩
    exact ev_some.mpr (NJ.bad kk (F1.mono (by decide) (fun z hz => nomatch hz)) ⟨_, _, F2, by decide, by decide⟩ R K)
end
