/-! ===== sums: the descent and the machine ===== -/
theorem lk_10 (t : Tk) : lkO t = 10 ↔ isS t 43 = true := by
  unfold lkO isS
  rw [decide_eq_true_iff]
  repeat' split
  all_goals omega
theorem lk_11 (t : Tk) : lkO t = 11 ↔ isS t 45 = true := by
  unfold lkO isS
  rw [decide_eq_true_iff]
  repeat' split
  all_goals omega
theorem lk_12 (t : Tk) : lkO t = 12 ↔ isS t 42 = true := by
  unfold lkO isS
  rw [decide_eq_true_iff]
  repeat' split
  all_goals omega
theorem lk_13 (t : Tk) : lkO t = 13 ↔ isS t 61 = true := by
  unfold lkO isS
  rw [decide_eq_true_iff]
  repeat' split
  all_goals omega
theorem lk_14 (t : Tk) : lkO t = 14 ↔ isS t 60 = true := by
  unfold lkO isS
  rw [decide_eq_true_iff]
  repeat' split
  all_goals omega
theorem lk_15 (t : Tk) : lkO t = 15 ↔ isS t 62 = true := by
  unfold lkO isS
  rw [decide_eq_true_iff]
  repeat' split
  all_goals omega
theorem lk_0 {t : Tk} {a : Nat} (h : isS t a = true) (ha : a = 59 ∨ a = 93 ∨ a = 41) : lkO t = 0 := by
  have := of_decide_eq_true h
  unfold lkO
  repeat' split
  all_goals omega
section
variable {B : Nat → Nat} {N law : Nat} {C : Cf}
theorem lEnd_S (h : ¬ isS (tok B N (kP C)) 59 = true) : ¬ lEnd B N C = true := fun z => h (of_decide_eq_true z).2.2.2
theorem lEnd_br (h : 0 < br (kW C)) : ¬ lEnd B N C = true := fun z => by
  have := (of_decide_eq_true z).2.1
  omega
theorem lEnd_1 (h : kS C = 1) : ¬ lEnd B N C = true := fun z => (of_decide_eq_true z).2.2.1 h
theorem st_lk (hF : kF C = 0) (hO : kO C = false) (hE : ¬ lEnd B N C = true) : stC B N law C = lkS B N C := by
  unfold stC
  rw [if_neg (show ¬ kF C ≠ 0 from fun z => z hF), if_neg (show ¬ kO C = true by rw [hO]; decide), if_neg hE]
theorem lk_ar (hF : kF C = 0) (hO : kO C = false) (hs : kS C ≠ 3) (hl : 10 ≤ lkO (tok B N (kP C)) ∧ lkO (tok B N (kP C)) ≤ 12) : stC B N law C = lnkC C (tok B N (kP C)) (lkO (tok B N (kP C))) (kS C) false := by
  have h3 : tKd (tok B N (kP C)) = 3 := by
    rcases lkO_rng (tok B N (kP C)) with q | q
    · omega
    · exact q.2.2
  have n0 : ∀ a, a = 59 ∨ a = 93 ∨ a = 41 → ¬ isS (tok B N (kP C)) a = true := fun a ha z => by
    have := lk_0 z ha
    omega
  have nw : ∀ w, ¬ isW B (tok B N (kP C)) w = true := fun w z => by
    have := isW_k z
    omega
  rw [st_lk hF hO (lEnd_S (n0 59 (by omega)))]
  unfold lkS
  rw [if_neg (fun z => z.2.elim (nw _) (nw _)), if_neg (fun z => z.2.elim (fun y => n0 93 (by omega) y.2) (fun y => n0 41 (by omega) y.2)), if_neg (show ¬ lkO (tok B N (kP C)) = 0 by omega), if_neg (show ¬ 13 ≤ lkO (tok B N (kP C)) by omega), if_neg hs]
theorem lk_cp (hF : kF C = 0) (hO : kO C = false) (hs : kS C = 1) (hl : 13 ≤ lkO (tok B N (kP C))) : stC B N law C = lnkC C (tok B N (kP C)) (lkO (tok B N (kP C))) 2 false := by
  have n0 : ∀ a, a = 59 ∨ a = 93 ∨ a = 41 → ¬ isS (tok B N (kP C)) a = true := fun a ha z => by
    have := lk_0 z ha
    omega
  rw [st_lk hF hO (lEnd_1 hs)]
  unfold lkS
  rw [if_neg (fun z => by have := z.1; omega), if_neg (fun z => z.2.elim (fun y => n0 93 (by omega) y.2) (fun y => n0 41 (by omega) y.2)), if_neg (show ¬ lkO (tok B N (kP C)) = 0 by omega), if_pos hl, if_pos hs]
theorem lk_wd (hF : kF C = 0) (hO : kO C = false) (hs : kS C = 2 ∨ kS C = 3) (hl : isW B (tok B N (kP C)) (tx 14) = true ∨ isW B (tok B N (kP C)) (tx 15) = true) : stC B N law C = lnkC C (tok B N (kP C)) (if isW B (tok B N (kP C)) (tx 14) = true then 16 else 17) 1 true := by
  rw [st_lk hF hO (lEnd_S (hl.elim (fun z => isW_S z) (fun z => isW_S z)))]
  unfold lkS
  rw [if_pos ⟨hs, hl⟩]
theorem lk_flt (hF : kF C = 0) (hO : kO C = false) (hE : ¬ lEnd B N C = true) (h1 : kS C = 2 ∨ kS C = 3 → ¬ isW B (tok B N (kP C)) (tx 14) = true ∧ ¬ isW B (tok B N (kP C)) (tx 15) = true) (h2 : kS C = 2 ∨ kS C = 3 → 0 < br (kW C) → ¬ isS (tok B N (kP C)) 93 = true) (h2' : kS C = 0 → 0 < br (kW C) → ¬ isS (tok B N (kP C)) 41 = true) (h3 : 13 ≤ lkO (tok B N (kP C)) → kS C ≠ 1) (h4 : 10 ≤ lkO (tok B N (kP C)) → lkO (tok B N (kP C)) ≤ 12 → kS C = 3) : stC B N law C = fltC C (tok B N (kP C)) 2 := by
  rw [st_lk hF hO hE]
  unfold lkS
  rw [if_neg (fun z => z.2.elim (h1 z.1).1 (h1 z.1).2), if_neg (fun z => z.2.elim (fun y => h2 y.1 z.1 y.2) (fun y => h2' y.1 z.1 y.2))]
  rcases lkO_rng (tok B N (kP C)) with q | q
  · rw [if_pos q]
  rw [if_neg (show ¬ lkO (tok B N (kP C)) = 0 by omega)]
  by_cases c : 13 ≤ lkO (tok B N (kP C))
  · rw [if_pos c, if_neg (h3 c)]
  · rw [if_neg c, if_pos (h4 q.1 (by omega))]
theorem cls_eq {o s : Nat} {W pend : WS} {c : List Nat} (hF : kF C = 0) (hO : kO C = false) (hW : kW C = pend ++ (o, s) :: W) (hb : ∀ e ∈ pend, 1 ≤ bd e.1) (ho : o = 1 ∨ o = 2) (hc : kC C ++ pend.map (fun e => e.1) = c) (hs : (kS C = 2 ∨ kS C = 3) ∧ isS (tok B N (kP C)) 93 = true ∨ kS C = 0 ∧ isS (tok B N (kP C)) 41 = true) : stC B N law C = (tEn (tok B N (kP C)), c, W, (if o = 2 then 3 else s), false, kU C, 0, 0) := by
  have hbr : 0 < br (kW C) := by
    rw [hW]
    have := br_app pend ((o, s) :: W)
    have e : br ((o, s) :: W) = br W + (brk? o).toNat := rfl
    rw [show brk? o = true from decide_eq_true ho] at e
    have : true.toNat = 1 := rfl
    omega
  have nw : ∀ w, ¬ isW B (tok B N (kP C)) w = true := fun w z => hs.elim (fun y => isW_S z y.2) (fun y => isW_S z y.2)
  have h0 : bd o < 1 := by rcases ho with q | q <;> subst q <;> decide
  rw [st_lk hF hO (lEnd_br hbr)]
  unfold lkS
  rw [if_neg (fun z => z.2.elim (nw _) (nw _)), if_pos ⟨hbr, hs⟩]
  unfold clsC
  rw [hW, unw_pend pend ((o, s) :: W) _ hb h0, hc]
  rfl
end
section
variable {B : Nat → Nat} {N law p dp : Nat} {c : List Nat} {g : MS}
theorem RS.w72 (hN : N ≤ 900) (hp : p ≤ N) (h : RS B N law p c dp g) (i : Nat) (hi : (tx i).length < 100) : Ev (fX12_lawWord_72 g i) (fun q => (¬ isW B (tok B N p) (tx i) = true ∧ q = (-1, g)) ∨ (isW B (tok B N p) (tx i) = true ∧ q.1 = 3 ∧ RS B N law (tEn (tok B N p)) c dp q.2 ∧ fL law g q.2)) := by
  unfold fX12_lawWord_72
  by_cases a : isW B (tok B N p) (tx i) = true
  · refine Ev.c (h.tookY hN hp i hi a) ?_
    rintro r s ⟨e, b1, b2⟩
    have e : r = 1 := e
    rw [e, if_neg (by decide)]
    exact ev_some.mpr (Or.inr ⟨a, rfl, b1, b2⟩)
  · rw [h.tookN hN hp i hi a, bndc_s, if_pos rfl]
    exact ev_some.mpr (Or.inl ⟨a, rfl⟩)
theorem RS.w48 (hN : N ≤ 900) (hlaw : law ≤ 2) (hp : p ≤ N) (h : RS B N law p c dp g) (i : Nat) (hi : (tx i).length < 100) : Ev (fX12_lawWord_48 g i) (fun q => (¬ isW B (tok B N p) (tx i) = true ∧ ¬ isW B (tok B N p) (tx (if law = 0 then 47 else 48)) = true ∧ q = (-1, g)) ∨ (isW B (tok B N p) (tx i) = true ∧ q.1 = 2 ∧ RS B N law (tEn (tok B N p)) c dp q.2 ∧ fL law g q.2) ∨ (¬ isW B (tok B N p) (tx i) = true ∧ isW B (tok B N p) (tx (if law = 0 then 47 else 48)) = true ∧ q.1 = 3 ∧ RS B N law (tEn (tok B N p)) c dp q.2 ∧ fL law g q.2)) := by
  unfold fX12_lawWord_48
  by_cases a : isW B (tok B N p) (tx i) = true
  · refine Ev.c (h.tookY hN hp i hi a) ?_
    rintro r s ⟨e, b1, b2⟩
    have e : r = 1 := e
    rw [e, if_neg (by decide)]
    exact ev_some.mpr (Or.inr (Or.inl ⟨a, rfl, b1, b2⟩))
  · rw [h.tookN hN hp i hi a, bndc_s, if_pos rfl, h.2.2.2.2.1, l_2]
    by_cases e : law = 0
    · rw [if_pos (by rw [e]), if_pos e]
      refine (h.w72 hN hp 47 (by decide)).mono ?_
      rintro q (⟨q1, q2⟩ | ⟨q1, q2⟩)
      · exact Or.inl ⟨a, q1, q2⟩
      · exact Or.inr (Or.inr ⟨a, q1, q2⟩)
    · rw [if_neg e]
      have ne : ¬ nI (law + 2) = nI 2 := by
        rw [nI_eq (by omega) (by omega)]
        omega
      rw [if_neg ne]
      refine (h.w72 hN hp 48 (by decide)).mono ?_
      rintro q (⟨q1, q2⟩ | ⟨q1, q2⟩)
      · exact Or.inl ⟨a, q1, q2⟩
      · exact Or.inr (Or.inr ⟨a, q1, q2⟩)
theorem RS.nm (hN : N ≤ 900) (hlaw : law ≤ 2) (hp : p ≤ N) (h : RS B N law p c dp g) : Ev (fX12_lawWord g) (fun q => (nmO B law (tok B N p) = 0 ∧ q = (-1, g)) ∨ (nmO B law (tok B N p) ≠ 0 ∧ q.1 = nI (nmO B law (tok B N p) - 100) ∧ RS B N law (tEn (tok B N p)) c dp q.2 ∧ fL law g q.2)) := by
  unfold fX12_lawWord
  by_cases a7 : isW B (tok B N p) (tx 7) = true
  · have hv : nmO B law (tok B N p) = 100 := by unfold nmO; rw [if_pos a7]
    rw [hv]
    refine Ev.c (h.tookY hN hp 44 (by decide) a7) ?_
    rintro r s ⟨e, b1, b2⟩
    have e : r = 1 := e
    rw [e, if_neg (by decide)]
    exact ev_some.mpr (Or.inr ⟨by decide, rfl, b1, b2⟩)
  rw [h.tookN hN hp 44 (by decide) a7, bndc_s, if_pos rfl]
  by_cases a8 : isW B (tok B N p) (tx 8) = true
  · have hv : nmO B law (tok B N p) = 101 := by unfold nmO; rw [if_neg a7, if_pos a8]
    rw [hv]
    refine Ev.c (h.tookY hN hp 40 (by decide) a8) ?_
    rintro r s ⟨e, b1, b2⟩
    have e : r = 1 := e
    rw [e, if_neg (by decide)]
    exact ev_some.mpr (Or.inr ⟨by decide, rfl, b1, b2⟩)
  rw [h.tookN hN hp 40 (by decide) a8, bndc_s, if_pos rfl, h.2.2.2.2.1]
  rcases (show law = 0 ∨ law = 1 ∨ law = 2 by omega) with rfl | rfl | rfl
  · rw [if_neg (by decide), if_pos (by decide)]
    refine (h.w48 hN hlaw hp 45 (by decide)).mono ?_
    rw [if_pos rfl]
    rintro q (⟨q1, q2, q3⟩ | ⟨q1, q2⟩ | ⟨q0, q1, q2⟩)
    · exact Or.inl ⟨by unfold nmO; rw [if_neg a7, if_neg a8, if_neg (fun z => z.elim (fun y => q1 y.2) (fun y => absurd y.1 (by decide))), if_neg (fun z => z.elim (fun y => q2 y.2) (fun y => absurd y.1 (by decide)))], q3⟩
    · have hv : nmO B 0 (tok B N p) = 102 := by unfold nmO; rw [if_neg a7, if_neg a8, if_pos (Or.inl ⟨rfl, q1⟩)]
      rw [hv]
      exact Or.inr ⟨by decide, q2⟩
    · have hv : nmO B 0 (tok B N p) = 103 := by unfold nmO; rw [if_neg a7, if_neg a8, if_neg (fun z => z.elim (fun y => q0 y.2) (fun y => absurd y.1 (by decide))), if_pos (Or.inl ⟨rfl, q1⟩)]
      rw [hv]
      exact Or.inr ⟨by decide, q2⟩
  · rw [if_pos (by decide)]
    refine ev_some.mpr (Or.inl ⟨?_, rfl⟩)
    unfold nmO
    rw [if_neg a7, if_neg a8, if_neg (fun z => z.elim (fun y => absurd y.1 (by decide)) (fun y => absurd y.1 (by decide))), if_neg (fun z => z.elim (fun y => absurd y.1 (by decide)) (fun y => absurd y.1 (by decide)))]
  · rw [if_neg (by decide), if_neg (by decide)]
    refine (h.w48 hN hlaw hp 46 (by decide)).mono ?_
    rw [if_neg (show ¬ (2 : Nat) = 0 by decide)]
    rintro q (⟨q1, q2, q3⟩ | ⟨q1, q2⟩ | ⟨q0, q1, q2⟩)
    · exact Or.inl ⟨by unfold nmO; rw [if_neg a7, if_neg a8, if_neg (fun z => z.elim (fun y => absurd y.1 (by decide)) (fun y => q1 y.2)), if_neg (fun z => z.elim (fun y => absurd y.1 (by decide)) (fun y => q2 y.2))], q3⟩
    · have hv : nmO B 2 (tok B N p) = 102 := by unfold nmO; rw [if_neg a7, if_neg a8, if_pos (Or.inr ⟨rfl, q1⟩)]
      rw [hv]
      exact Or.inr ⟨by decide, q2⟩
    · have hv : nmO B 2 (tok B N p) = 103 := by unfold nmO; rw [if_neg a7, if_neg a8, if_neg (fun z => z.elim (fun y => absurd y.1 (by decide)) (fun y => q0 y.2)), if_pos (Or.inr ⟨rfl, q1⟩)]
      rw [hv]
      exact Or.inr ⟨by decide, q2⟩
theorem num36_bad {y : Int32} (h : ¬ g.1 12 = 0) : fX12_number_36 g y = some (y, g) := by
  unfold fX12_number_36 fX12_number_52
  rw [bnd_e, if_neg h, if_neg h]
theorem num_bad {a b : Int32} (h : ¬ g.1 12 = 0) : fX12_number g a b = some (a, g) := by
  unfold fX12_number
  rw [within_eq, bndv_s, blame_bad h, blame_bad h, bndv_s, num36_bad h]
  repeat' split
  all_goals rfl
theorem RS.numY (hN : N ≤ 900) (hp : p ≤ N) (h : RS B N law p c dp g) {a b : Nat} (hb : b < 2 ^ 31) (hk : tKd (tok B N p) = 2) (hv : a ≤ tVl (tok B N p) ∧ tVl (tok B N p) ≤ b) : Ev (fX12_number g (nI a) (nI b)) (fun q => q.1 = nI (tVl (tok B N p)) ∧ RS B N law (tEn (tok B N p)) c dp q.2 ∧ fL law g q.2) := by
  unfold fX12_number
  rw [h.2.2.1.2.2.1, if_pos ((tkM_2 hp).mpr hk), h.2.2.1.2.2.2 hk, within_y (by rw [Int32.toInt_toInt64, Int32.toInt_toInt64, nI_toInt (by omega), nI_toInt (by omega)]; omega) (by rw [Int32.toInt_toInt64, Int32.toInt_toInt64, nI_toInt (by omega), nI_toInt (by omega)]; omega), bndv_s, if_neg (by decide)]
  unfold fX12_number_36 fX12_number_52
  rw [bnd_e, if_pos h.2.1, h.2.2.1.2.2.2 hk]
  refine Ev.v (h.on hN hp) ?_
  rintro z ⟨z1, z2⟩
  rw [if_pos z1.2.1]
  exact ev_some.mpr ⟨rfl, z1, z2⟩
theorem RS.numK (hp : p ≤ N) (h : RS B N law p c dp g) {a b : Int32} (hk : ¬ tKd (tok B N p) = 2) : Ev (fX12_number g a b) (fun q => FS (fk (tok B N p) 2) (tSt (tok B N p)) q.2 ∧ fL law g q.2) := by
  unfold fX12_number
  rw [h.2.2.1.2.2.1, if_neg (fun z => hk ((tkM_2 hp).mp z))]
  refine Ev.v (h.blame hp (k := 2) ⟨by decide, by decide⟩) ?_
  rintro z ⟨z1, z2⟩
  rw [num36_bad z1.bad]
  exact ev_some.mpr ⟨z1, fL.of z2 (by decide)⟩
end
def PrS (B : Nat → Nat) (n s : Nat) (u : Bool) (t : Tk) (d : Nat) : Prop := s ≤ 2 ∧ (u = true → ¬ isW B t (tx 13) = true ∧ ¬ isS t 91 = true) ∧ 8 ≤ n + d
def EA (s s' : Nat) (_ : Tk) : Prop := s' = s
def ET (s s' : Nat) (t : Tk) : Prop := s' = s ∧ lkO t ≠ 12
def ES (s s' : Nat) (t : Tk) : Prop := s' = s ∧ lkO t ≠ 12 ∧ lkO t ≠ 10 ∧ lkO t ≠ 11
section
variable {B : Nat → Nat} {N law : Nat}
theorem st_op {C : Cf} (hF : kF C = 0) (hO : kO C = true) : stC B N law C = opS B N law C := by
  unfold stC
  rw [if_neg (show ¬ kF C ≠ 0 from fun z => z hF), if_pos hO]
theorem ty_leaf {o : Nat} (h : 100 ≤ o ∧ o ≤ 103 ∨ 1000 ≤ o ∧ o < 2000) {K : List Bool} (hK : K.length < 64) : tyS [o] K = some (false :: K) := by
  show (match ty1 o K with | some K' => tyS [] K' | none => none) = _
  unfold ty1
  rw [if_neg (show ¬ o < 100 by omega), if_pos (show o < 104 ∨ 1000 ≤ o ∧ o < 2000 by omega), if_pos hK]
  rfl
theorem leaf {C : Cf} {g' : MS} (hC : IC N C) (hF : kF C = 0) (hO : kO C = true) (ho : opO B law (tok B N (kP C)) ≠ 0) (hR : RS B N law (tEn (tok B N (kP C))) (kC C ++ [opO B law (tok B N (kP C))]) (wi (kW C)) g') : ∃ k pend x, OKR B N law 7 C g' k pend x ∧ ZZ B N EA 13 false C (itC B N law k C) x := by
  have e : itC B N law 1 C = (tEn (tok B N (kP C)), kC C ++ [opO B law (tok B N (kP C))], kW C, kS C, false, kU C, 0, 0) := by
    show stC B N law C = _
    rw [st_op hF hO]
    unfold opS
    rw [if_pos ho]
  obtain ⟨r1, r2, r3, r4, r5, r6, r7, r8⟩ := tok_rng B N (kP C) hC.1
  rcases opO_rng (B := B) (law := law) hC.1 with q | ⟨q1, q2⟩
  · exact absurd q ho
  have r5 := r5 q2
  refine ⟨1, [], [opO B law (tok B N (kP C))], ?_, ?_⟩
  · unfold OKR
    rw [e]
    exact ⟨by show 1 + kP C ≤ tEn (tok B N (kP C)); omega, rfl, rfl, rfl, (fun z hz => nomatch hz), by show kC C ++ [_] ++ [] = _; rw [List.append_nil], hR⟩
  · unfold ZZ
    rw [e]
    exact ⟨rfl, fun K hK => ty_leaf q1 (by have := hC.2.2.2.1; omega)⟩
theorem Sp.atom (hN : N ≤ 900) (hlaw : law ≤ 2) {n : Nat} {r : MS → Option MS} (hr : Sp B N law 5 5 (PrS B n) ES 15 false r) (hrb : 1 ≤ n → ∀ g : MS, ¬ g.1 12 = 0 → r g = some g) : Sp B N law 7 7 (PrS B (n + 1)) EA 13 false (fX12_readAtomB r) := by
  intro C g hC hF hO ht hP hR
  have hp := hC.1
  obtain ⟨r1, r2, r3, r4, r5, r6, r7, r8⟩ := tok_rng B N (kP C) hp
  have hlen : (kC C).length < 900 ∨ tKd (tok B N (kP C)) = 0 := by
    by_cases e : tKd (tok B N (kP C)) = 0
    · exact Or.inr e
    · have := r5 e
      have := hC.2.1
      exact Or.inl (by omega)
  unfold fX12_readAtomB
  rw [if_pos hR.2.1]
  refine Ev.c (hR.nm hN hlaw hp) ?_
  rintro x1 g2 (⟨en, eq⟩ | ⟨en, e1, a1, a2⟩)
  · obtain ⟨q1, q2⟩ := Prod.mk.inj eq
    rw [q1, q2, if_pos rfl, l_40, mSign_eq hp hR.2.1 hR.2.2.1 ⟨by omega, by omega⟩, bndc_s]
    cases s40 : isS (tok B N (kP C)) 40 with
    | false =>
      rw [if_pos (show nI false.toNat = 0 from rfl)]
      by_cases k2 : tKd (tok B N (kP C)) = 2
      · have eo : opO B law (tok B N (kP C)) = 1000 + tVl (tok B N (kP C)) := by unfold opO; rw [if_neg (fun z => z en), if_pos k2]
        refine Ev.c (hR.numY hN hp (a := 0) (b := 999) (by omega) k2 ⟨by omega, r6 k2⟩) ?_
        rintro x5 g6 ⟨b0, b1, b2⟩
        have b0 : x5 = nI (tVl (tok B N (kP C))) := b0
        rw [b0, l_1000, nI_add]
        refine Ev.v (b1.lay hlaw (by omega) _) ?_
        rintro g7 ⟨d1, d2⟩
        refine ev_some.mpr ⟨b2.trans d2, Or.inl (leaf hC hF hO (by omega) ?_)⟩
        rw [eo]
        exact d1
      · have eo : opO B law (tok B N (kP C)) = 0 := by unfold opO; rw [if_neg (fun z => z en), if_neg k2]
        refine Ev.c (hR.numK hp k2) ?_
        rintro x5 g6 ⟨b1, b2⟩
        rw [lay_bad b1.bad, bndv_s]
        refine ev_some.mpr ⟨b2, Or.inr (BD.st (t := tok B N (kP C)) (k := 2) ?_ b1)⟩
        rw [st_op hF hO]
        unfold opS
        rw [if_neg (fun z => z eo), if_neg (fun z => (hP.2.1 z.1).1 z.2), if_neg (fun z => (hP.2.1 z.1).2 z.2), if_neg (by rw [s40]; decide)]
    | true =>
      rw [if_neg (show ¬ nI true.toNat = 0 by decide)]
      have k3 := isS_k s40
      have eo : opO B law (tok B N (kP C)) = 0 := by unfold opO; rw [if_neg (fun z => z en), if_neg (by omega)]
      have hop : stC B N law C = opnC C (tok B N (kP C)) 1 := by
        rw [st_op hF hO]
        unfold opS
        rw [if_neg (fun z => z eo), if_neg (fun z => (hP.2.1 z.1).1 z.2), if_neg (fun z => (hP.2.1 z.1).2 z.2), if_pos s40]
      have r5 := r5 (by omega)
      by_cases d6 : 6 ≤ wi (kW C)
      · have e6 : wi (kW C) = 6 := by have := hC.2.2.2.1; omega
        rw [e6] at hR
        refine Ev.v (hR.inn6 hp) ?_
        rintro g8 ⟨b1, b2⟩
        rw [hrb (by have := hP.2.2; omega) g8 b1.bad, bndv_s, must_bad b1.bad, bndv_s, bnd_e]
        have o := b1.out (law := law)
        refine ev_some.mpr ⟨b2.trans o.2, Or.inr (BD.st (t := tok B N (kP C)) (k := 4) ?_ o.1)⟩
        rw [hop]
        unfold opnC
        rw [if_pos d6]
      · have hs : itC B N law 1 C = (tEn (tok B N (kP C)), kC C, (1, kS C) :: kW C, 0, true, false, 0, 0) := by
          show stC B N law C = _
          rw [hop]
          unfold opnC
          rw [if_neg d6, if_pos rfl, if_pos rfl]
        generalize hC1 : itC B N law 1 C = C1 at hs
        have hI1 : IC N C1 := by rw [← hC1]; exact hC.it _
        have pk1 : kP C1 = tEn (tok B N (kP C)) := by rw [hs]
        have ck1 : kC C1 = kC C := by rw [hs]
        have wk1 : kW C1 = (1, kS C) :: kW C := by rw [hs]
        have sk1 : kS C1 = 0 := by rw [hs]
        have uk1 : kU C1 = false := by rw [hs]
        have hwi : wi (kW C1) = wi (kW C) + 1 := by rw [wk1]; rfl
        refine Ev.v (hR.inn hN hp (by omega)) ?_
        rintro g8 ⟨b1, b2⟩
        refine Ev.v (hr C1 g8 hI1 (by rw [hs]) (by rw [hs]) (by rw [wk1]; show bd 1 < 5; decide) ⟨by rw [sk1]; omega, fun z => by rw [uk1] at z; exact absurd z (by decide), by have := hP.2.2; omega⟩ (by rw [pk1, ck1, hwi]; exact b1)) ?_
        rintro g9 ⟨c1, c2⟩
        have F9 := b2.trans c1
        rcases c2 with ⟨k, pend, x, ⟨d1, d2, d3, d4, d5, d6', d7⟩, z1, z2⟩ | c2
        · have hI2 := hI1.it (B := B) (law := law) k
          have hk : itC B N law (1 + k) C = itC B N law k C1 := by rw [itC_add, hC1]
          rw [ck1, hwi] at d7
          rw [ck1] at d6'
          rw [wk1] at d4
          have sk2 : kS (itC B N law k C1) = 0 := by rw [← sk1]; exact z1.1
          by_cases s41 : isS (tok B N (kP (itC B N law k C1))) 41 = true
          · obtain ⟨t1, t2, t3, t4, t5, t6, t7, t8⟩ := tok_rng B N (kP (itC B N law k C1)) hI2.1
            have t5 := t5 (by rw [isS_k s41]; decide)
            have hcl := cls_eq (law := law) d2 d3 d4 (fun e he => Nat.le_trans (by omega) (d5 e he)) (Or.inl rfl) d6' (Or.inr ⟨sk2, s41⟩)
            rw [if_neg (show ¬ (1 : Nat) = 2 by decide)] at hcl
            have hk3 : itC B N law (1 + k + 1) C = stC B N law (itC B N law k C1) := by rw [itC_1, hk]
            rw [l_41]
            refine Ev.v (d7.must hN hI2.1 ⟨by omega, by omega⟩ s41) ?_
            rintro g10 ⟨f1, f2⟩
            rw [bnd_e]
            have f3 := f1.out (by omega)
            refine ev_some.mpr ⟨(F9.trans f2).trans f3.2, Or.inl ⟨1 + k + 1, [], x, ?_, ?_⟩⟩
            · unfold OKR
              rw [hk3, hcl]
              exact ⟨by show 1 + k + 1 + kP C ≤ tEn (tok B N (kP (itC B N law k C1))); omega, rfl, rfl, rfl, (fun z hz => nomatch hz), by show kC C ++ x ++ [] = _; rw [List.append_nil], f3.1⟩
            · unfold ZZ
              rw [hk3, hcl]
              exact ⟨rfl, fun K hK => z2 K (by rw [hwi]; omega)⟩
          · rw [l_41]
            refine Ev.v (d7.mustN hI2.1 ⟨by omega, by omega⟩ s41) ?_
            rintro g10 ⟨f1, f2⟩
            rw [bnd_e]
            have f3 := f1.out (law := law)
            have hbr : 0 < br (kW (itC B N law k C1)) := by
              rw [d4]
              have := br_app pend ((1, kS C) :: kW C)
              have e : br ((1, kS C) :: kW C) = br (kW C) + 1 := rfl
              omega
            have z3 := z1.2
            refine ev_some.mpr ⟨(F9.trans f2).trans f3.2, Or.inr (BD.pre (j := 1 + k) (by rw [hk]; omega) ?_)⟩
            rw [hk]
            exact BD.st (t := tok B N (kP (itC B N law k C1))) (k := 2) (lk_flt d2 d3 (lEnd_br hbr) (fun z => by omega) (fun z => by omega) (fun _ _ => s41) (fun _ => by omega) (fun y1 y2 => by omega)) f3.1
        · rw [must_bad c2.bad, bndv_s, bnd_e]
          obtain ⟨k, m1, m2⟩ := c2
          have o := m1.out (law := law)
          refine ev_some.mpr ⟨F9.trans o.2, Or.inr (BD.pre (j := 1) (by rw [hC1]; omega) ?_)⟩
          rw [hC1]
          exact ⟨k, o.1, m2⟩
  · have e1 : x1 = nI (nmO B law (tok B N (kP C)) - 100) := e1
    rcases nmO_rng (B := B) (law := law) (tok B N (kP C)) with q | ⟨q1, q2, q3⟩
    · exact absurd q en
    have eo : opO B law (tok B N (kP C)) = nmO B law (tok B N (kP C)) := by unfold opO; rw [if_pos en]
    rw [e1, if_neg (nI_nm1 (by omega)), l_100, nI_add, show 100 + (nmO B law (tok B N (kP C)) - 100) = nmO B law (tok B N (kP C)) by omega]
    refine Ev.v (a1.lay hlaw (by omega) _) ?_
    rintro g7 ⟨d1, d2⟩
    refine ev_some.mpr ⟨a2.trans d2, Or.inl (leaf hC hF hO (by omega) ?_)⟩
    rw [eo]
    exact d1
end
/-! terms and sums -/
section
variable {B : Nat → Nat} {N law : Nat}
def opT (t : Tk) : Nat := if lkO t = 12 then 12 else 0
def opP (t : Tk) : Nat := if lkO t = 10 then 10 else if lkO t = 11 then 11 else 0
theorem isS_f {t : Tk} {a : Nat} (h : ¬ isS t a = true) : isS t a = false := by
  cases q : isS t a with
  | true => exact absurd q h
  | false => rfl
theorem Sp.term (hN : N ≤ 900) (hlaw : law ≤ 2) {n : Nat} {r : MS → Option MS} (ha : Sp B N law 7 7 (PrS B n) EA 13 false (fX12_readAtomB r)) : Sp B N law 6 6 (PrS B n) ET 14 false (fX12_readTermB r) := by
  refine Sp.loop hN hlaw (u := false) (σ := fun s => s) (lp := fX12_readTerm_4 r) opT ?_ ?_ ?_ ?_ ?_ ?_ ?_ ?_ ⟨by decide, by decide, by decide⟩ ha
  · intro n g p c dp hp hR ho
    unfold opT at ho ⊢
    by_cases e : lkO (tok B N p) = 12
    · rw [if_pos e, fX12_readTerm_4, l_42, mSign_eq hp hR.2.1 hR.2.2.1 ⟨by omega, by omega⟩, (lk_12 _).mp e, bndc_s, if_neg (show ¬ nI true.toNat = 0 by decide)]
      rfl
    · rw [if_neg e] at ho; exact absurd rfl ho
  · intro n g p c dp hp hR ho
    unfold opT at ho
    by_cases e : lkO (tok B N p) = 12
    · rw [if_pos e] at ho; exact absurd ho (by decide)
    · rw [fX12_readTerm_4, l_42, mSign_eq hp hR.2.1 hR.2.2.1 ⟨by omega, by omega⟩, isS_f (fun z => e ((lk_12 _).mpr z)), bndc_s, if_pos (show nI false.toNat = 0 from rfl)]
  · intro n g hb
    rw [fX12_readTerm_4, mSign_bad hb, bndc_s, if_pos rfl]
  · intro p hp ho
    unfold opT at ho ⊢
    by_cases e : lkO (tok B N p) = 12
    · rw [if_pos e]
      exact ⟨by decide, by decide, by rw [isS_k ((lk_12 _).mp e)]; decide, fun K => rfl⟩
    · rw [if_neg e] at ho; exact absurd rfl ho
  · intro C' s u0 t0 d hF hO hP hE ho
    unfold opT at ho ⊢
    by_cases e : lkO (tok B N (kP C')) = 12
    · rw [if_pos e]
      have hE : kS C' = s := hE
      have := lk_ar (law := law) hF hO (by have := hP.1; omega) (show 10 ≤ lkO (tok B N (kP C')) ∧ lkO (tok B N (kP C')) ≤ 12 by omega)
      rw [e] at this
      exact this
    · rw [if_neg e] at ho; exact absurd rfl ho
  · intro s s' t s2 t2 u0 t0 d _ h1 h2
    have h1 : s' = s := h1
    have h2 : s2 = s' := h2
    show s2 = s
    omega
  · intro s u0 t0 d s' t t1 hP h1
    have h1 : s' = s := h1
    exact ⟨by have := hP.1; show s' ≤ 2; omega, fun z => absurd z (by decide), hP.2.2⟩
  · intro s s' t h1 h2
    refine ⟨h1, fun e => ?_⟩
    unfold opT at h2
    rw [if_pos e] at h2
    exact absurd h2 (by decide)
theorem Sp.sum (hN : N ≤ 900) (hlaw : law ≤ 2) {n : Nat} {r : MS → Option MS} (ha : Sp B N law 6 6 (PrS B n) ET 14 false (fX12_readTermB r)) : Sp B N law 5 5 (PrS B n) ES 15 false (fX12_readSumB r) := by
  refine Sp.loop hN hlaw (u := false) (σ := fun s => s) (lp := fX12_readSum_4 r) opP ?_ ?_ ?_ ?_ ?_ ?_ ?_ ?_ ⟨by decide, by decide, by decide⟩ ha
  · intro n g p c dp hp hR ho
    have S : ∀ a, 5 ≤ a ∧ a < 256 → fX12_isSign g (nI a) = some (nI (isS (tok B N p) a).toNat, g) := fun a ha => mSign_eq hp hR.2.1 hR.2.2.1 ha
    unfold opP at ho ⊢
    by_cases e : lkO (tok B N p) = 10
    · have e' := (lk_10 _).mp e
      rw [if_pos e, fX12_readSum_4, l_43, S 43 ⟨by omega, by omega⟩, e', bndc_s, if_neg (show ¬ nI true.toNat = 0 by decide)]
      unfold fX12_readSum_22 fX12_readSum_49
      rw [hR.2.2.1.2.2.1, (tkM_s hp ⟨by omega, by omega⟩).mpr e', bnd_e]
      simp only [if_pos (show nI 43 = (43 : Int32) from rfl)]
      rfl
    · have e43 := isS_f (fun z => e ((lk_10 _).mpr z))
      by_cases e2 : lkO (tok B N p) = 11
      · have e' := (lk_11 _).mp e2
        rw [if_neg e, if_pos e2, fX12_readSum_4, l_43, S 43 ⟨by omega, by omega⟩, e43, bndc_s, if_pos (show nI false.toNat = 0 from rfl), l_45, S 45 ⟨by omega, by omega⟩, e', bndc_s, if_neg (show ¬ nI true.toNat = 0 by decide)]
        unfold fX12_readSum_22 fX12_readSum_49
        rw [hR.2.2.1.2.2.1, (tkM_s hp ⟨by omega, by omega⟩).mpr e', bnd_e]
        simp only [if_neg (show ¬ nI 45 = (43 : Int32) by decide)]
        rfl
      · rw [if_neg e, if_neg e2] at ho; exact absurd rfl ho
  · intro n g p c dp hp hR ho
    have S : ∀ a, 5 ≤ a ∧ a < 256 → fX12_isSign g (nI a) = some (nI (isS (tok B N p) a).toNat, g) := fun a ha => mSign_eq hp hR.2.1 hR.2.2.1 ha
    unfold opP at ho
    by_cases e : lkO (tok B N p) = 10
    · rw [if_pos e] at ho; exact absurd ho (by decide)
    rw [if_neg e] at ho
    by_cases e2 : lkO (tok B N p) = 11
    · rw [if_pos e2] at ho; exact absurd ho (by decide)
    rw [fX12_readSum_4, l_43, S 43 ⟨by omega, by omega⟩, isS_f (fun z => e ((lk_10 _).mpr z)), bndc_s, if_pos (show nI false.toNat = 0 from rfl), l_45, S 45 ⟨by omega, by omega⟩, isS_f (fun z => e2 ((lk_11 _).mpr z)), bndc_s, if_pos (show nI false.toNat = 0 from rfl)]
  · intro n g hb
    rw [fX12_readSum_4, mSign_bad hb, bndc_s, if_pos rfl, mSign_bad hb, bndc_s, if_pos rfl]
  · intro p hp ho
    unfold opP at ho ⊢
    by_cases e : lkO (tok B N p) = 10
    · rw [if_pos e]
      exact ⟨by decide, by decide, by rw [isS_k ((lk_10 _).mp e)]; decide, fun K => rfl⟩
    rw [if_neg e] at ho ⊢
    by_cases e2 : lkO (tok B N p) = 11
    · rw [if_pos e2]
      exact ⟨by decide, by decide, by rw [isS_k ((lk_11 _).mp e2)]; decide, fun K => rfl⟩
    · rw [if_neg e2] at ho; exact absurd rfl ho
  · intro C' s u0 t0 d hF hO hP hE ho
    have h1 : kS C' = s := hE.1
    have h2 := hP.1
    unfold opP at ho ⊢
    by_cases e : lkO (tok B N (kP C')) = 10
    · rw [if_pos e]
      have := lk_ar (law := law) hF hO (by omega) (show 10 ≤ lkO (tok B N (kP C')) ∧ lkO (tok B N (kP C')) ≤ 12 by omega)
      rw [e] at this
      exact this
    rw [if_neg e] at ho ⊢
    by_cases e2 : lkO (tok B N (kP C')) = 11
    · rw [if_pos e2]
      have := lk_ar (law := law) hF hO (by omega) (show 10 ≤ lkO (tok B N (kP C')) ∧ lkO (tok B N (kP C')) ≤ 12 by omega)
      rw [e2] at this
      exact this
    · rw [if_neg e2] at ho; exact absurd rfl ho
  · intro s s' t s2 t2 u0 t0 d _ h1 h2
    have h1 : s' = s := h1.1
    have h3 : s2 = s' := h2.1
    exact ⟨by omega, h2.2⟩
  · intro s u0 t0 d s' t t1 hP h1
    have h1 : s' = s := h1.1
    exact ⟨by have := hP.1; show s' ≤ 2; omega, fun z => absurd z (by decide), hP.2.2⟩
  · intro s s' t h1 h2
    unfold opP at h2
    refine ⟨h1.1, h1.2, fun e => ?_, fun e => ?_⟩
    · rw [if_pos e] at h2
      exact absurd h2 (by decide)
    · rw [if_neg (by omega), if_pos e] at h2
      exact absurd h2 (by decide)
theorem sumB_bad {r : MS → Option MS} {g : MS} (hb : ¬ g.1 12 = 0) : fX12_readSumB r g = some g := by
  have e1 : fX12_readTermB r g = some g := by
    unfold fX12_readTermB fX12_readAtomB
    rw [if_neg hb, bndv_s, show fuel = fuel - 1 + 1 by unfold fuel; omega, fX12_readTerm_4, mSign_bad hb, bndc_s, if_pos rfl]
  unfold fX12_readSumB
  rw [e1, bndv_s, show fuel = fuel - 1 + 1 by unfold fuel; omega, fX12_readSum_4, mSign_bad hb, bndc_s, if_pos rfl, mSign_bad hb, bndc_s, if_pos rfl]
theorem sumD_bad {n : Nat} (hn : 1 ≤ n) {g : MS} (hb : ¬ g.1 12 = 0) : fX12_readSumD n g = some g := by
  obtain ⟨n, rfl⟩ : ∃ n', n = n' + 1 := ⟨n - 1, by omega⟩
  rw [fX12_readSumD]
  exact sumB_bad hb
theorem sumD_sp (hN : N ≤ 900) (hlaw : law ≤ 2) : ∀ n, Sp B N law 5 5 (PrS B n) ES 15 false (fX12_readSumD n)
  | 0 => fun C g hC hF hO ht hP hR => by
    have := hP.2.2
    have := hC.2.2.2.1
    omega
  | n + 1 => Sp.sum hN hlaw (Sp.term hN hlaw (Sp.atom hN hlaw (sumD_sp hN hlaw n) (fun hn g hb => sumD_bad hn hb)))
theorem sum_sp (hN : N ≤ 900) (hlaw : law ≤ 2) : Sp B N law 5 5 (PrS B 12) ES 15 false fX12_readSum := sumD_sp hN hlaw 12
theorem sum_bad {g : MS} (hb : ¬ g.1 12 = 0) : fX12_readSum g = some g := sumD_bad (n := 12) (by omega) hb
end
