/-! ===== a law on both sides ===== -/
abbrev liR : List Nat := [8, 9, 10, 11, 12, 13, 16, 17, 18]
theorem fL.toM {law : Nat} {g g' : MS} (h : fL law g g') : fM liR [1] g g' := ⟨fun i hi => h.1 i (fun z => hi ((by decide : ∀ k ∈ lqI, k ∈ liR) i z)), fun r hr => funext fun k => h.2.1 r k (fun e => absurd (show r ∈ [1] by rw [e]; decide) hr), h.2.2⟩
def RB (B : Nat → Nat) (N p : Nat) (g : MS) : Prop := MB B N g ∧ g.1 12 = 0 ∧ RTk (tok B N p) g
theorem RS.rb {B : Nat → Nat} {N law p dp : Nat} {c : List Nat} {g : MS} (h : RS B N law p c dp g) : RB B N p g := ⟨h.1, h.2.1, h.2.2.1⟩
section
variable {B : Nat → Nat} {N p : Nat} {g : MS}
theorem RB.row {g' : MS} (h : RB B N p g) (h1 : g'.1 = g.1) (h2 : g'.2.1 5 = g.2.1 5) : RB B N p g' := ⟨⟨by rw [h1]; exact h.1.1, fun k hk => by rw [h2]; exact h.1.2 k hk⟩, by rw [h1]; exact h.2.1, by unfold RTk; rw [h1]; exact h.2.2⟩
theorem RB.on (hN : N ≤ 900) (hp : p ≤ N) (h : RB B N p g) : Ev (fX12_readsOn g) (fun g' => RB B N (tEn (tok B N p)) g' ∧ fM lxI [] g g') := by
  have r := (tok_rng B N p hp).2.2.1
  refine (reads_eq hN r h.1 h.2.2.1).mono ?_
  rintro z ⟨z1, z2⟩
  exact ⟨⟨h.1.keep z2 (by decide) (fun e => nomatch e), by rw [z2.1 12 (by decide)]; exact h.2.1, z1⟩, z2⟩
theorem RB.blame (hp : p ≤ N) (h : RB B N p g) {k : Nat} (hk : k ≠ 0 ∧ k ≤ 4) : Ev (fX12_blames g (nI k)) (fun g' => FS (fk (tok B N p) k) (tSt (tok B N p)) g' ∧ fM [12, 13] [] g g') := by
  obtain ⟨h1, h2, h3⟩ := h
  unfold fX12_blames fX12_blames_22 fk
  rw [if_pos h2, h3.2.2.1]
  have e9 : ∀ v, (sI g 12 v).1 9 = nI (tSt (tok B N p)) := fun v => h3.2.1
  by_cases e : tKd (tok B N p) = 4
  · rw [if_pos ((tkM_3 hp).mpr e), if_pos e, bnd_e, bnd_e, e9]
    exact ev_some.mpr ⟨⟨rfl, rfl, by decide, by decide⟩, ((fM.refl g).sI (by decide)).sI (by decide)⟩
  · rw [if_neg (fun z => e ((tkM_3 hp).mp z)), if_neg e, bnd_e, bnd_e, e9]
    exact ev_some.mpr ⟨⟨rfl, rfl, hk.1, hk.2⟩, ((fM.refl g).sI (by decide)).sI (by decide)⟩
theorem RB.must (hN : N ≤ 900) (hp : p ≤ N) (h : RB B N p g) {s : Nat} (hs : 5 ≤ s ∧ s < 256) (ht : isS (tok B N p) s = true) : Ev (fX12_mustSign g (nI s)) (fun g' => RB B N (tEn (tok B N p)) g' ∧ fM lxI [] g g') := by
  unfold fX12_mustSign fX12_mustSign_13
  rw [h.2.2.2.2.1, if_pos ((tkM_s hp hs).mpr ht), if_pos h.2.1]
  exact Ev.v (h.on hN hp) (fun z hz => ev_some.mpr hz)
theorem RB.mustN (hp : p ≤ N) (h : RB B N p g) {s : Nat} (hs : 5 ≤ s ∧ s < 256) (ht : ¬ isS (tok B N p) s = true) : Ev (fX12_mustSign g (nI s)) (fun g' => FS (fk (tok B N p) 2) (tSt (tok B N p)) g' ∧ fM [12, 13] [] g g') := by
  unfold fX12_mustSign fX12_mustSign_13
  rw [h.2.2.2.2.1, if_neg (fun z => ht ((tkM_s hp hs).mp z))]
  refine Ev.v (h.blame hp (k := 2) ⟨by decide, by decide⟩) ?_
  rintro z ⟨z1, z2⟩
  rw [if_neg z1.bad]
  exact ev_some.mpr ⟨z1, z2⟩
theorem RB.tookN (hN : N ≤ 900) (hp : p ≤ N) (h : RB B N p g) (i : Nat) (hi : (tx i).length < 100) (ht : ¬ isW B (tok B N p) (tx i) = true) : fX12_took g i = some (0, g) := by
  unfold fX12_took
  have e : isW B (tok B N p) (tx i) = false := by cases q : isW B (tok B N p) (tx i) with | true => exact absurd q ht | false => rfl
  rw [mWord_eq hN hp h.1 h.2.1 h.2.2 i hi, bndc_s, e, if_pos (by rfl), chk_tt (by decide)]
  rfl
theorem RB.tookY (hN : N ≤ 900) (hp : p ≤ N) (h : RB B N p g) (i : Nat) (hi : (tx i).length < 100) (ht : isW B (tok B N p) (tx i) = true) : Ev (fX12_took g i) (fun q => q.1 = 1 ∧ RB B N (tEn (tok B N p)) q.2 ∧ fM lxI [] g q.2) := by
  unfold fX12_took
  rw [mWord_eq hN hp h.1 h.2.1 h.2.2 i hi, bndc_s, ht, if_neg (by decide)]
  refine Ev.v (h.on hN hp) ?_
  rintro z ⟨z1, z2⟩
  exact Ev.k (by decide) (ev_some.mpr ⟨rfl, z1, z2⟩)
theorem stop_bad (h : ¬ g.1 12 = 0) : fX12_readLine_93 g = some g := by
  unfold fX12_readLine_93 fX12_readStop
  rw [must_bad h, bndv_s, if_neg h, bndv_s]
theorem RB.stop (hN : N ≤ 900) (hp : p ≤ N) (h : RB B N p g) (ht : isS (tok B N p) 59 = true) : Ev (fX12_readLine_93 g) (fun g' => RB B N (tEn (tok B N p)) g' ∧ (∃ g1, fM lxI [] g g1 ∧ g' = sA g1 1 0 (g1.2.1 1 0 + 1))) := by
  unfold fX12_readLine_93 fX12_readStop
  rw [l_59, ev_bndv, ev_bndv]
  refine (h.must hN hp ⟨by omega, by omega⟩ ht).mono ?_
  rintro z ⟨z1, z2⟩
  rw [if_pos z1.2.1, chk_tt (by decide), chk_tt (by decide), bnd_e, show ix 0 = 0 from rfl]
  exact ev_some.mpr (ev_some.mpr ⟨z1.row rfl rfl, z, z2, rfl⟩)
theorem RB.stopN (hp : p ≤ N) (h : RB B N p g) (ht : ¬ isS (tok B N p) 59 = true) : Ev (fX12_readLine_93 g) (fun g' => FS (fk (tok B N p) 2) (tSt (tok B N p)) g' ∧ fM [12, 13] [] g g') := by
  unfold fX12_readLine_93 fX12_readStop
  rw [l_59, ev_bndv, ev_bndv]
  refine (h.mustN hp ⟨by omega, by omega⟩ ht).mono ?_
  rintro z ⟨z1, z2⟩
  rw [if_neg z1.bad]
  exact ev_some.mpr (ev_some.mpr ⟨z1, z2⟩)
end
/-! the class's side -/
def CK (B : Nat → Nat) (N p : Nat) (h : CS) : Prop := CB B N h ∧ CTk (tok B N p) h ∧ h.1 4 2 = 0 ∧ h.1 4 3 = -1
def FH (f l : Nat) (h : CS) : Prop := h.1 4 2 = nI f ∧ h.1 4 3 = nI l ∧ f ≠ 0 ∧ f ≤ 4
theorem FH.bad {f l : Nat} {h : CS} (z : FH f l h) : ¬ h.1 4 2 = 0 := by
  rw [z.1, l_0, nI_eq (by have := z.2.2.2; omega) (by omega)]
  exact z.2.2.1
section
variable {B : Nat → Nat} {N p : Nat} {P : PL} {h : CS}
theorem CK.keep {h' : CS} {oi : List (Nat × Nat)} {la ll : List Nat} (k : CK B N p h) (f : fC oi la ll h h') (h1 : ∀ q ∈ [(4, 2), (4, 3), (5, 1), (5, 2), (5, 3), (5, 4), (5, 5)], q ∉ oi) (h2 : 1 ∉ la) : CK B N p h' := by
  obtain ⟨a, ⟨b1, b2, b3, b4⟩, c, c'⟩ := k
  refine ⟨a.keep f (h1 _ (by decide)) h2, ⟨?_, ?_, ?_, fun z => ?_⟩, ?_, ?_⟩
  · rw [f.i 5 2 (h1 _ (by decide))]; exact b1
  · rw [f.i 5 4 (h1 _ (by decide))]; exact b2
  · rw [f.i 5 3 (h1 _ (by decide))]; exact b3
  · rw [f.i 5 5 (h1 _ (by decide))]; exact b4 z
  · rw [f.i 4 2 (h1 _ (by decide))]; exact c
  · rw [f.i 4 3 (h1 _ (by decide))]; exact c'
theorem CK.on (hN : N ≤ 900) (hp : p ≤ N) (k : CK B N p h) : Ev (fX8_step P h) (fun h' => CK B N (tEn (tok B N p)) h' ∧ fC lcI [] [] h h') := by
  have r := (tok_rng B N p hp).2.2.1
  refine (step_eq hN r k.1 k.2.1.1).mono ?_
  rintro z ⟨z1, z2⟩
  exact ⟨⟨k.1.keep z2 (by decide) (by decide), z1, by rw [z2.i 4 2 (by decide)]; exact k.2.2.1, by rw [z2.i 4 3 (by decide)]; exact k.2.2.2⟩, z2⟩
theorem CK.ref (hp : p ≤ N) (k : CK B N p h) {j : Nat} (hj : j ≠ 0 ∧ j ≤ 4) : Ev (fX3_refuse P h (nI j)) (fun h' => FH (fk (tok B N p) j) (tSt (tok B N p)) h' ∧ fC [(4, 2), (4, 3)] [] [] h h') := by
  obtain ⟨r1, r2, r3, r4, r5, r6, r7, r8⟩ := tok_rng B N p hp
  unfold fX3_refuse fX3_refuse_17 fk
  rw [k.2.1.2.2.1, l_4, iEQ (by omega) (by omega)]
  have e4 : ∀ v, (tI h 4 2 v).1 5 4 = nI (tSt (tok B N p)) := fun v => by rw [tI_o (by omega)]; exact k.2.1.2.1
  by_cases e : tKd (tok B N p) = 4
  · rw [if_pos e, if_pos e, bnd_e, bnd_e, e4]
    exact ev_some.mpr ⟨⟨by rw [tI_n (by omega)]; exact tI_s, tI_s, by decide, by decide⟩, ((fC.refl h).tI (by decide)).tI (by decide)⟩
  · rw [if_neg e, if_neg e, bnd_e, bnd_e, e4]
    exact ev_some.mpr ⟨⟨by rw [tI_n (by omega)]; exact tI_s, tI_s, hj.1, hj.2⟩, ((fC.refl h).tI (by decide)).tI (by decide)⟩
theorem sg_bad {c : Int32} (k : ¬ h.1 4 2 = 0) : fX3_takeSign P h c = some h := by
  unfold fX3_takeSign
  rw [if_neg k]
theorem CK.sg (hN : N ≤ 900) (hp : p ≤ N) (k : CK B N p h) {c : Nat} (hc : c < 256) (ht : isS (tok B N p) c = true) : Ev (fX3_takeSign P h (nI c)) (fun h' => CK B N (tEn (tok B N p)) h' ∧ fC lcI [] [] h h') := by
  unfold fX3_takeSign
  rw [if_pos k.2.2.1, cSign_eq hp k.2.1 hc, bndc_s, ht, if_neg (by decide)]
  exact Ev.v (k.on hN hp) (fun z hz => ev_some.mpr hz)
theorem CK.sgN (hp : p ≤ N) (k : CK B N p h) {c : Nat} (hc : c < 256) (ht : ¬ isS (tok B N p) c = true) : Ev (fX3_takeSign P h (nI c)) (fun h' => FH (fk (tok B N p) 2) (tSt (tok B N p)) h' ∧ fC [(4, 2), (4, 3)] [] [] h h') := by
  unfold fX3_takeSign
  rw [if_pos k.2.2.1, cSign_eq hp k.2.1 hc, bndc_s, isS_f ht, if_pos (show nI false.toNat = 0 from rfl)]
  exact Ev.v (k.ref hp (j := 2) ⟨by decide, by decide⟩) (fun z hz => ev_some.mpr hz)
theorem end_bad (k : ¬ h.1 4 2 = 0) : fX3_endLine P h = some h := by
  unfold fX3_endLine
  rw [sg_bad k, bndv_s, if_neg k]
theorem CK.stop (hN : N ≤ 900) (hp : p ≤ N) (k : CK B N p h) (ht : isS (tok B N p) 59 = true) : Ev (fX3_endLine P h) (fun h' => CK B N (tEn (tok B N p)) h' ∧ h'.1 4 5 = h.1 4 5 + 1 ∧ fC ((4, 5) :: lcI) [] [] h h') := by
  unfold fX3_endLine
  rw [l_59]
  refine Ev.v (k.sg hN hp (by omega) ht) ?_
  rintro z ⟨z1, z2⟩
  rw [if_pos z1.2.2.1, bnd_e]
  have F : fC ((4, 5) :: lcI) [] [] h (tI z 4 5 (z.1 4 5 + 1)) := (z2.mono (by decide) (by decide) (by decide)).tI (by decide)
  have F2 : fC [(4, 5)] [] [] z (tI z 4 5 (z.1 4 5 + 1)) := (fC.refl z).tI (by decide)
  exact ev_some.mpr ⟨z1.keep F2 (by decide) (by decide), by rw [tI_s, z2.i 4 5 (by decide)], F⟩
theorem CK.stopN (hp : p ≤ N) (k : CK B N p h) (ht : ¬ isS (tok B N p) 59 = true) : Ev (fX3_endLine P h) (fun h' => FH (fk (tok B N p) 2) (tSt (tok B N p)) h' ∧ fC [(4, 2), (4, 3)] [] [] h h') := by
  unfold fX3_endLine
  rw [l_59]
  refine Ev.v (k.sgN hp (by omega) ht) ?_
  rintro z ⟨z1, z2⟩
  rw [if_neg z1.bad]
  exact ev_some.mpr ⟨z1, z2⟩
end
/-! the machine's start, and how much it writes -/
def st0 (p law : Nat) : Cf := (p, [], [], (if law = 0 then 1 else 0), true, decide (law = 0), 0, 0)
theorem st0_IC {p N law : Nat} (hp : p ≤ N) : IC N (st0 p law) := ⟨hp, by show 0 + 0 ≤ p; omega, trivial, by show 0 ≤ 6; omega, by show (if law = 0 then 1 else 0) ≤ 3; split <;> omega, by show 0 ≤ 4; omega⟩
def lnC (C : Cf) : Nat := (kC C).length + (kW C).length
section
variable {B : Nat → Nat} {N law : Nat}
theorem lnC_opn {C : Cf} {t : Tk} {o : Nat} : lnC (opnC C t o) ≤ lnC C + 1 := by
  unfold opnC
  split
  · exact Nat.le_succ _
  · show (kC C).length + ((kW C).length + 1) ≤ (kC C).length + (kW C).length + 1
    omega
theorem lnC_lnk {C : Cf} {t : Tk} {o s : Nat} {u : Bool} : lnC (lnkC C t o s u) ≤ lnC C + 1 := by
  have := unw_len (bd o) (kW C) (kC C)
  show (unw (bd o) (kW C) (kC C)).1.length + ((unw (bd o) (kW C) (kC C)).2.length + 1) ≤ (kC C).length + (kW C).length + 1
  omega
theorem lnC_cls {C : Cf} {t : Tk} : lnC (clsC C t) ≤ lnC C + 1 := by
  have := unw_len 1 (kW C) (kC C)
  show (unw 1 (kW C) (kC C)).1.length + (unw 1 (kW C) (kC C)).2.tail.length ≤ (kC C).length + (kW C).length + 1
  rw [List.length_tail]
  omega
theorem lnC_st (C : Cf) : lnC (stC B N law C) ≤ lnC C + 1 := by
  unfold stC opS lkS
  repeat' split
  all_goals first | exact Nat.le_succ _ | exact lnC_opn | exact lnC_lnk | exact lnC_cls | skip
  all_goals
    show (kC C ++ [_]).length + (kW C).length ≤ (kC C).length + (kW C).length + 1
    rw [List.length_append]
    simp only [List.length_cons, List.length_nil]
    omega
theorem lnC_it (C : Cf) : ∀ k, lnC (itC B N law k C) ≤ lnC C + k
  | 0 => Nat.le_refl _
  | k + 1 => by
    have := lnC_it C k
    have := lnC_st (B := B) (N := N) (law := law) (itC B N law k C)
    rw [itC_1]
    omega
end
