/-! ===== calls of turns ===== -/
theorem all1_ix {b : AB} (p : (Nat → Nat) → Bool) : ∀ k, lpf (fun i y => st1 b p (rwA b i) y) k ((0, false, fun _ => 0) : A1) = (fb_ct (fun i => p (rwA b i)) k, decide (bstF (fun i => p (rwA b i)) (cR b) k ≠ 0), if bstF (fun i => p (rwA b i)) (cR b) k = 0 then (fun _ => 0) else tcR (bN b) (rwA b (bstF (fun i => p (rwA b i)) (cR b) k - 1)))
  | 0 => rfl
  | k + 1 => by
    show st1 b p (rwA b k) (lpf _ k _) = _
    rw [all1_ix p k]
    have st : ∀ (c : Nat) (fd : Bool) (w : Nat → Nat), st1 b p (rwA b k) (c, fd, w) = if p (rwA b k) = true then (c + 1, true, upB b (rwA b k) fd w) else (c, fd, w) := fun _ _ _ => rfl
    rw [st]
    generalize hB : bstF (fun i => p (rwA b i)) (cR b) k = B
    cases hp : p (rwA b k) with
    | false =>
      rw [if_neg (by decide), ct_n (p := fun i => p (rwA b i)) hp, bstF_n (p := fun i => p (rwA b i)) (fun z => by rw [show p (rwA b k) = false from hp] at z; exact absurd z.1 (by decide)), hB]
    | true =>
      rw [if_pos rfl, ct_y (p := fun i => p (rwA b i)) hp]
      by_cases h0 : B = 0
      · have e : bstF (fun i => p (rwA b i)) (cR b) (k + 1) = k + 1 := bstF_y ⟨hp, Or.inl (hB.trans h0)⟩
        have e2 : decide (B ≠ 0) = false := by rw [h0]; rfl
        rw [e, e2, if_neg (Nat.succ_ne_zero k), decide_eq_true (Nat.succ_ne_zero k), Nat.add_sub_cancel]
        unfold upB
        rw [if_pos (Or.inl rfl)]
      · have e2 : decide (B ≠ 0) = true := decide_eq_true h0
        have ec : csA b (tcR (bN b) (rwA b (B - 1))) = cR b (B - 1) := csA_cong tcR_in
        have ek : csA b (rwA b k) = cR b k := rfl
        rw [e2, if_neg h0]
        unfold upB
        rw [ec, ek]
        by_cases h1 : cR b k < cR b (B - 1)
        · have e : bstF (fun i => p (rwA b i)) (cR b) (k + 1) = k + 1 := bstF_y ⟨hp, Or.inr (by rw [hB]; exact h1)⟩
          rw [e, if_neg (Nat.succ_ne_zero k), decide_eq_true (Nat.succ_ne_zero k), Nat.add_sub_cancel, if_pos (Or.inr h1)]
        · have e : bstF (fun i => p (rwA b i)) (cR b) (k + 1) = B := by rw [bstF_n (fun z => by rw [hB] at z; exact z.2.elim h0 h1), hB]
          rw [e, if_neg h0, e2, if_neg (fun z => z.elim (fun z => absurd z (by decide)) h1)]
def paAns (b : AB) (x : Nat) (w : Int32) : Int32 := if x = 0 then -1 else if w = 0 then nI (cR b (x - 1)) else if (w - 10).toNatClampNeg < bN b then nI (rwA b (x - 1) (w - 10).toNatClampNeg) else -1
def whOK (w : Int32) : Prop := w = 0 ∨ (10 ≤ w.toInt ∧ w.toInt ≤ 15)
theorem wh_ix {w : Int32} (h : 10 ≤ w.toInt ∧ w.toInt ≤ 15) : ∃ j, j < 6 ∧ w - 10 = nI j ∧ (w - 10).toNatClampNeg = j ∧ w ≠ 0 := by
  have e10 : (10 : Int32).toInt = 10 := rfl
  have e0 : (0 : Int32).toInt = 0 := rfl
  have hs : (w - 10).toInt = w.toInt - 10 := by rw [fb_subI (by rw [e10]; omega) (by rw [e10]; omega), e10]
  refine ⟨(w.toInt - 10).toNat, by omega, ?_, ?_, fun e => by rw [e, e0] at h; omega⟩
  · apply Int32.toInt_inj.mp
    rw [hs, n_toInt (by omega)]; omega
  · rw [show w - 10 = nI (w.toInt - 10).toNat from Int32.toInt_inj.mp (by rw [hs, n_toInt (by omega)]; omega), nI_clamp (by omega)]
theorem isWhat_eq (w : Int32) [Decidable (whOK w)] : fX12_isWhat w = some (if whOK w then 1 else 0) := by
  have e10 : (10 : Int64).toInt = 10 := rfl
  have e15 : (15 : Int64).toInt = 15 := rfl
  unfold fX12_isWhat fX12_isWhat_18
  by_cases h0 : w = 0
  · rw [if_pos h0, if_pos (show whOK w from Or.inl h0)]
  · rw [if_neg h0]
    by_cases h1 : 10 ≤ w.toInt ∧ w.toInt ≤ 15
    · rw [within_y (by rw [i64, e10]; exact h1.1) (by rw [i64, e15]; exact h1.2), bndv_s, if_neg (by decide), if_pos (show whOK w from Or.inr h1)]
    · rw [within_n (by rw [i64]; exact h1), bndv_s, if_pos rfl, if_neg (fun z => z.elim h0 h1)]
section
variable {b : AB} {g : MS}
theorem toldRow_eq (hw : wfB b) {x : Nat} (hB : BS b (decide (x ≠ 0)) (if x = 0 then (fun _ => 0) else tcR (bN b) (rwA b (x - 1))) g) {w : Int32} (hwh : whOK w) : fX12_toldRow g w = some (paAns b x w, g) := by
  unfold fX12_toldRow paAns
  by_cases h0 : x = 0
  · rw [hB.1 (by rw [h0]; rfl), if_pos rfl, if_pos h0]
  · rw [if_neg h0] at hB
    obtain ⟨h1, h2⟩ := hB.2 (decide_eq_true h0)
    have hc : csA b (tcR (bN b) (rwA b (x - 1))) = cR b (x - 1) := csA_cong tcR_in
    have hcl := cR_le hw (x - 1)
    rw [h1.1, hc, if_neg (by intro e; have := (nI_eq (b := 536870912) (by omega) (by omega)).mp e; omega), if_neg h0]
    by_cases hw0 : w = 0
    · rw [if_pos hw0, if_pos hw0]
    · rw [if_neg hw0, if_neg hw0]
      obtain ⟨j, hj, e1, e2, -⟩ := wh_ix (hwh.resolve_left hw0)
      rw [e1, chk_tt (ib_n hj (by omega)), ix_n (by omega), h1.2 j hj, nI_clamp (by omega)]
      by_cases hjn : j < bN b
      · rw [if_pos hjn, if_pos hjn, tcR_in j hjn]
      · rw [if_neg hjn, if_neg hjn]
end
section
variable {b : AB} {P : PL} {g : CS}
theorem pathAns_eq (hw : wfB b) (hS : SB b P g 30) (x : Nat) {w : Int32} (hwh : whOK w) : fX11_pathAnswer P g (cOf b x) (nOf b x) w = some (paAns b x w, g) := by
  have hn := hw.2.1
  unfold fX11_pathAnswer paAns
  by_cases h0 : x = 0
  · have e : cOf b x = -1 := if_pos h0
    rw [e, if_pos rfl, if_pos h0]
  · have e : cOf b x = nI (cR b (x - 1)) := if_neg h0
    have e2 : nOf b x = nI (l6 (rwA b (x - 1))) := if_neg h0
    have hcl := cR_le hw (x - 1)
    rw [e, e2, if_neg (nI_nm1 (by omega)), if_neg h0]
    by_cases hw0 : w = 0
    · rw [if_pos hw0, if_pos hw0]
    · rw [if_neg hw0, if_neg hw0, bnd_e]
      obtain ⟨j, hj, e1, e3, -⟩ := wh_ix (hwh.resolve_left hw0)
      rw [e1, nI_clamp (by omega)]
      by_cases hjn : j < bN b
      · rw [cHas_eq hw hS hjn, bndc_s, if_neg (by decide), at_l6 (fun k _ => by have := rwA_lt hw (x - 1) k; omega) hj, bndv_s, if_pos hjn]
      · rw [cHas_n hw hS hjn (by omega), bndc_s, if_pos rfl, if_neg hjn]
theorem needPath_y {w : Int32} (h : whOK w) : fX11_needPathQuestion P g w = some (Sum.inr (), g) := by
  have e10 : (10 : Int32).toInt = 10 := rfl
  have e16 : (16 : Int32).toInt = 16 := rfl
  unfold fX11_needPathQuestion
  by_cases h0 : w = 0
  · rw [if_pos h0]
  · have h1 := h.resolve_left h0
    rw [if_neg h0, if_neg (by rw [fa_lt, e10]; omega), if_pos (by rw [fa_lt, e16]; omega)]
theorem needPath_n {w : Int32} (h : ¬ whOK w) : fX11_needPathQuestion P g w = some (Sum.inl 1, g) := by
  have e10 : (10 : Int32).toInt = 10 := rfl
  have e16 : (16 : Int32).toInt = 16 := rfl
  unfold fX11_needPathQuestion
  rw [if_neg (fun z => h (Or.inl z))]
  by_cases h1 : w < (10 : Int32)
  · rw [if_pos h1]
  · rw [if_neg h1, if_neg (fun z => h (Or.inr ?_))]
    rw [fa_lt, e10] at h1
    rw [fa_lt, e16] at z
    omega
end
/-! told looks -/
def tlB (n : Nat) (t : AT) : Bool := decide (t.2.2.1 = n ∧ ∀ k, k < n → -1 ≤ (t.2.2.2 k).toInt ∧ (t.2.2.2 k).toInt < n)
def lkF (tr : Nat → AT) (n : Nat) (x : Int32) : Nat := if trF tr x = 0 then (if tlB n (tr x.toNatClampNeg) then 0 else 3) else trF tr x
theorem lkF_le (tr : Nat → AT) (n : Nat) (x : Int32) : lkF tr n x ≤ 3 := by
  have := trF_le tr x
  unfold lkF
  split
  · split <;> omega
  · omega
section
variable {b : AB} {g : MS} {tr : Nat → AT}
theorem lookF_no {i : Nat} (hi : i < 4) (f : Nat) (k : Int32) : fX12_lookFault_34 (f + 1) g (nI i) (0 : Int32) k = some ((3 : Int32), g) := by
  rw [fX12_lookFault_34, chk_tt (ib_n hi (by omega))]
  unfold fX12_lookFault_81
  rw [if_pos rfl, if_pos rfl, ite_self]
theorem lookF_lp (hw : wfB b) (hK : KB b (g.2.1 0)) {i : Nat} (hi : i < 4) (hT : MT (tr i) i g) (ht : (tr i).1 = true) (h0 : (tr i).2.2.1 = bN b) : ∀ d k f, k + d = bN b → d < f → (∀ j, j < k → -1 ≤ ((tr i).2.2.2 j).toInt ∧ ((tr i).2.2.2 j).toInt < bN b) → fX12_lookFault_34 f g (nI i) (1 : Int32) (nI k) = some (nI (if tlB (bN b) (tr i) then 0 else 3), g) := by
  have hn := hw.2.1
  have hn2 := hw.1
  obtain ⟨t1, t2, t3, t4, t5⟩ := hT.on ht
  have em : (-1 : Int64).toInt = -1 := rfl
  intro d
  induction d with
  | zero =>
    intro k f hk hf h
    obtain ⟨f, rfl⟩ : ∃ f', f = f' + 1 := ⟨f - 1, by omega⟩
    rw [fX12_lookFault_34, chk_tt (ib_n hi (by omega)), ix_n (by omega), t4, if_pos (nI_le (by omega) (by omega))]
    have hk : k = bN b := hk
    subst hk
    unfold tlB fX12_lookFault_81
    rw [decide_eq_true ⟨h0, h⟩, if_neg (by decide), if_pos rfl]
    rfl
  | succ d ih =>
    intro k f hk hf h
    obtain ⟨f, rfl⟩ : ∃ f', f = f' + 1 := ⟨f - 1, by omega⟩
    rw [fX12_lookFault_34, chk_tt (ib_n hi (by omega)), ix_n (by omega), t4, if_neg (nI_ge (by omega) (by omega)), if_neg (by decide), l_30, pk_mul, nI_add, chk_tt (ib_n (by omega) (by omega)), size_eq hK, bndc_s, ix_n (by omega), t5 k (by omega)]
    have e1 : nI (bN b) - (1 : Int32) = nI (bN b - 1) := by rw [l_1, pk_sub (by omega)]
    rw [e1, nI_l (by omega)]
    by_cases hk1 : -1 ≤ ((tr i).2.2.2 k).toInt ∧ ((tr i).2.2.2 k).toInt < bN b
    · rw [within_y (by rw [em]; exact hk1.1) (by rw [lN_I (by omega)]; omega), bndv_s, nI_1, bnd_e]
      exact ih (k + 1) f (by omega) (by omega) (fun j hj => by
        by_cases e : j = k
        · rw [e]; exact hk1
        · exact h j (by omega))
    · rw [within_n (by rw [em, lN_I (by omega)]; omega), bndv_s, nI_1, bnd_e]
      obtain ⟨f, rfl⟩ : ∃ f', f = f' + 1 := ⟨f - 1, by omega⟩
      have hfalse : tlB (bN b) (tr i) = false := decide_eq_false (fun z => hk1 (z.2 k (by omega)))
      rw [lookF_no hi f, hfalse]
      rfl
theorem lookF_eq (hw : wfB b) (hK : KB b (g.2.1 0)) (hT : ∀ i, i < 4 → MT (tr i) i g) (x : Int32) : fX12_lookFault g x = some (nI (lkF tr (bN b) x), g) := by
  have hn := hw.2.1
  unfold fX12_lookFault lkF
  rw [trayFault_eq hT, bndc_s]
  by_cases h0 : trF tr x = 0
  · obtain ⟨i, hi, rfl, ht⟩ := trF_0 h0
    obtain ⟨t1, t2, t3, t4, t5⟩ := (hT i hi).on ht
    rw [h0, if_pos n00, if_pos rfl, chk_tt (ib_n hi (by omega)), size_eq hK, bndc_s, ix_n (by omega), t4, nI_clamp (by omega), iEQ (by omega) (by omega)]
    unfold fX12_lookFault_30
    by_cases h1 : (tr i).2.2.1 = bN b
    · rw [if_pos h1]
      exact lookF_lp hw hK hi (hT i hi) ht h1 (bN b) 0 fuel (by omega) (by unfold fuel; omega) (fun j hj => absurd hj (Nat.not_lt_zero j))
    · rw [if_neg h1]
      have hfalse : tlB (bN b) (tr i) = false := decide_eq_false (fun z => h1 z.1)
      rw [hfalse, if_neg (by decide)]
      exact lookF_no hi 999999 _
  · rw [if_neg (nn_ne (trF_le _ _) h0), if_neg h0]
end
section
variable {b : AB} {P : PL} {g : CS} {tr : Nat → AT}
theorem tells_lp (hw : wfB b) {i : Nat} (hT : CT (tr i) i g) (ht : (tr i).1 = true) (h0 : (tr i).2.2.1 = bN b) : ∀ d k f, k + d = bN b → d < f → (∀ j, j < k → -1 ≤ ((tr i).2.2.2 j).toInt ∧ ((tr i).2.2.2 j).toInt < bN b) → fX9_tellsLook_12 P f g (50 + i) (nI (bN b)) (nI k) = some (nI (tlB (bN b) (tr i)).toNat, g) := by
  have hn := hw.2.1
  have em : (-1 : Int64).toInt = -1 := rfl
  intro d
  induction d with
  | zero =>
    intro k f hk hf h
    obtain ⟨f, rfl⟩ : ∃ f', f = f' + 1 := ⟨f - 1, by omega⟩
    have hk : k = bN b := hk
    subst hk
    rw [fX9_tellsLook_12, if_pos (nI_le (by omega) (by omega))]
    unfold tlB
    rw [decide_eq_true ⟨h0, h⟩]
    rfl
  | succ d ih =>
    intro k f hk hf h
    obtain ⟨f, rfl⟩ : ∃ f', f = f' + 1 := ⟨f - 1, by omega⟩
    rw [fX9_tellsLook_12, if_neg (nI_ge (by omega) (by omega)), get_eq hT ht (by omega), bndc_s, nI_l (by omega)]
    simp only [lg_cmp_lt, fa_lt64, em]
    by_cases c1 : ((tr i).2.2.2 k).toInt < -1
    · have hfalse : tlB (bN b) (tr i) = false := decide_eq_false (fun z => by have := z.2 k (by omega); omega)
      rw [if_pos c1, hfalse]; rfl
    · rw [if_neg c1, get_eq hT ht (by omega), bndc_s, lN_I (by omega)]
      by_cases c2 : ((tr i).2.2.2 k).toInt < bN b
      · rw [if_pos c2, nI_1, bnd_e]
        exact ih (k + 1) f (by omega) (by omega) (fun j hj => by
          by_cases e : j = k
          · rw [e]; exact ⟨by omega, c2⟩
          · exact h j (by omega))
      · have hfalse : tlB (bN b) (tr i) = false := decide_eq_false (fun z => c2 (z.2 k (by omega)).2)
        rw [if_neg c2, hfalse]; rfl
theorem needLook_eq (hw : wfB b) (hS : SB b P g 30) (hT : ∀ i, i < 4 → CT (tr i) i g) (x : Int32) : fX11_needLook P g x = some (if lkF tr (bN b) x = 0 then Sum.inr (50 + x.toNatClampNeg) else Sum.inl (if trF tr x = 0 then 1 else trX (trF tr x)), g) := by
  have hn := hw.2.1
  unfold fX11_needLook
  by_cases h0 : trF tr x = 0
  · obtain ⟨i, hi, rfl, ht⟩ := trF_0 h0
    obtain ⟨t1, t2, t3, t4, t5⟩ := (hT i hi).on ht
    rw [needTray_y hT hi ht, bxr, chk_tt (okT_b i hi), hS.1]
    unfold fX9_tellsLook lkF
    rw [t3, if_pos h0, if_pos h0, nI_clamp (by omega), iEQ (by omega) (by omega)]
    by_cases h1 : (tr i).2.2.1 = bN b
    · have h9 := tells_lp (P := P) hw (hT i hi) ht h1 (bN b) 0 fuel (by omega) (by unfold fuel; omega) (fun j hj => absurd hj (Nat.not_lt_zero j))
      rw [n00] at h9
      rw [if_pos h1, h9, bndc_s]
      cases tlB (bN b) (tr i) with
      | true => rw [if_neg (show ¬ nI true.toNat = 0 by decide)]; rfl
      | false => rw [if_pos (show nI false.toNat = 0 from rfl)]; rfl
    · have hfalse : tlB (bN b) (tr i) = false := decide_eq_false (fun z => h1 z.1)
      rw [if_neg h1, bndc_s, if_pos rfl, hfalse]; rfl
  · rw [needTray_n hT h0, bxl]
    unfold lkF
    rw [if_neg h0, if_neg h0, if_neg h0]
def mkN (n : Nat) (f : Nat → Int64) : Nat → Nat := fun m => if m < n ∧ f m ≠ -1 then 15 else 0
def amN (n : Nat) (f : Nat → Int64) : Nat → Nat := fun m => if m < n ∧ f m ≠ -1 then (f m).toInt.toNat else 0
theorem mask_lp {n : Nat} (hn : n ≤ 6) {t : AT} {i : Nat} (hT : CT t i g) (ht : t.1 = true) : ∀ d k f, k + d = n → d < f → fX9_maskOf_4 P f g (50 + i) (nI n) (nI (l6 (mkN k t.2.2.2))) (nI k) = some (nI (l6 (mkN n t.2.2.2)), g) := by
  have h16 : ∀ k j, mkN k t.2.2.2 j < 16 := fun k j => by unfold mkN; split <;> omega
  intro d
  induction d with
  | zero =>
    intro k f hk hf
    obtain ⟨f, rfl⟩ : ∃ f', f = f' + 1 := ⟨f - 1, by omega⟩
    have hk : k = n := hk
    subst hk
    rw [fX9_maskOf_4, if_pos (nI_le (by omega) (by omega))]
  | succ d ih =>
    intro k f hk hf
    obtain ⟨f, rfl⟩ : ∃ f', f = f' + 1 := ⟨f - 1, by omega⟩
    have st := ih (k + 1) f (by omega) (by omega)
    rw [fX9_maskOf_4, if_neg (nI_ge (by omega) (by omega)), get_eq hT ht (by omega), bndc_s]
    simp only [lg_cmp_eq]
    by_cases e : t.2.2.2 k = -1
    · rw [if_pos e, nI_1, bnd_e]
      have : l6 (mkN (k + 1) t.2.2.2) = l6 (mkN k t.2.2.2) := lnb_cong (fun j _ => by
        unfold mkN
        by_cases q : j = k
        · rw [q, if_neg (fun z => z.2 e), if_neg (fun z => z.2 e)]
        · by_cases c : j < k ∧ t.2.2.2 j ≠ -1
          · rw [if_pos ⟨by omega, c.2⟩, if_pos c]
          · rw [if_neg (fun z => c ⟨by omega, z.2⟩), if_neg c])
      rw [this] at st
      exact st
    · rw [if_neg e, l_15, with_l6 (fun j _ => h16 k j) (by omega) (by omega), bndv_s, nI_1, bnd_e]
      have : l6 (mkN (k + 1) t.2.2.2) = l6 (fun j => if j = k then 15 else mkN k t.2.2.2 j) := lnb_cong (fun j _ => by
        unfold mkN
        by_cases q : j = k
        · rw [q, if_pos ⟨by omega, e⟩, if_pos rfl]
        · rw [if_neg q]
          by_cases c : j < k ∧ t.2.2.2 j ≠ -1
          · rw [if_pos ⟨by omega, c.2⟩, if_pos c]
          · rw [if_neg (fun z => c ⟨by omega, z.2⟩), if_neg c])
      rw [this] at st
      exact st
theorem mask_eq {n : Nat} (hn : n ≤ 6) {t : AT} {i : Nat} (hT : CT t i g) (ht : t.1 = true) : fX9_maskOf P g (50 + i) (nI n) = some (nI (l6 (mkN n t.2.2.2)), g) := by
  have e : l6 (mkN 0 t.2.2.2) = 0 := by
    show lnb 16 (mkN 0 t.2.2.2) 6 = 0
    rw [lnb_cong (a := mkN 0 t.2.2.2) (b := fun _ => 0) (k := 6) (fun j _ => if_neg (by omega))]
    rfl
  have h := mask_lp (P := P) (g := g) hn hT ht n 0 fuel (by omega) (by unfold fuel; omega)
  rw [e] at h
  exact h
theorem aims_lp {n : Nat} (hn : n ≤ 6) {t : AT} {i : Nat} (hT : CT t i g) (ht : t.1 = true) (hl : tlB n t = true) : ∀ d k f, k + d = n → d < f → fX9_aimsOf_4 P f g (50 + i) (nI n) (nI (l6 (amN k t.2.2.2))) (nI k) = some (nI (l6 (amN n t.2.2.2)), g) := by
  have hl := of_decide_eq_true hl
  have h16 : ∀ k j, k ≤ n → amN k t.2.2.2 j < 16 := fun k j hk => by
    unfold amN
    split
    · rename_i h; have := hl.2 j (by omega); omega
    · omega
  intro d
  induction d with
  | zero =>
    intro k f hk hf
    obtain ⟨f, rfl⟩ : ∃ f', f = f' + 1 := ⟨f - 1, by omega⟩
    have hk : k = n := hk
    subst hk
    rw [fX9_aimsOf_4, if_pos (nI_le (by omega) (by omega))]
  | succ d ih =>
    intro k f hk hf
    obtain ⟨f, rfl⟩ : ∃ f', f = f' + 1 := ⟨f - 1, by omega⟩
    have st := ih (k + 1) f (by omega) (by omega)
    have hk2 := hl.2 k (by omega)
    rw [fX9_aimsOf_4, if_neg (nI_ge (by omega) (by omega)), get_eq hT ht (by omega), bndc_s]
    simp only [lg_cmp_eq]
    by_cases e : t.2.2.2 k = -1
    · rw [if_pos e, nI_1, bnd_e]
      have : l6 (amN (k + 1) t.2.2.2) = l6 (amN k t.2.2.2) := lnb_cong (fun j _ => by
        unfold amN
        by_cases q : j = k
        · rw [q, if_neg (fun z => z.2 e), if_neg (fun z => z.2 e)]
        · by_cases c : j < k ∧ t.2.2.2 j ≠ -1
          · rw [if_pos ⟨by omega, c.2⟩, if_pos c]
          · rw [if_neg (fun z => c ⟨by omega, z.2⟩), if_neg c])
      rw [this] at st
      exact st
    · have hne : (t.2.2.2 k).toInt ≠ -1 := fun z => e (Int64.toInt_inj.mp z)
      have ev : (t.2.2.2 k).toInt32 = nI (t.2.2.2 k).toInt.toNat := by
        have e2 : t.2.2.2 k = lN (t.2.2.2 k).toInt.toNat := Int64.toInt_inj.mp (by rw [lN_I (by omega)]; omega)
        rw [← lN_i, ← e2]
      rw [if_neg e, get_eq hT ht (by omega), bndc_s, ev, with_l6 (fun j _ => h16 k j (by omega)) (by omega) (by omega), bndv_s, nI_1, bnd_e]
      have : l6 (amN (k + 1) t.2.2.2) = l6 (fun j => if j = k then (t.2.2.2 k).toInt.toNat else amN k t.2.2.2 j) := lnb_cong (fun j _ => by
        unfold amN
        by_cases q : j = k
        · rw [q, if_pos ⟨by omega, e⟩, if_pos rfl]
        · rw [if_neg q]
          by_cases c : j < k ∧ t.2.2.2 j ≠ -1
          · rw [if_pos ⟨by omega, c.2⟩, if_pos c]
          · rw [if_neg (fun z => c ⟨by omega, z.2⟩), if_neg c])
      rw [this] at st
      exact st
theorem aims_eq {n : Nat} (hn : n ≤ 6) {t : AT} {i : Nat} (hT : CT t i g) (ht : t.1 = true) (hl : tlB n t = true) : fX9_aimsOf P g (50 + i) (nI n) = some (nI (l6 (amN n t.2.2.2)), g) := by
  have e : l6 (amN 0 t.2.2.2) = 0 := by
    show lnb 16 (amN 0 t.2.2.2) 6 = 0
    rw [lnb_cong (a := amN 0 t.2.2.2) (b := fun _ => 0) (k := 6) (fun j _ => if_neg (by omega))]
    rfl
  have h := aims_lp (P := P) (g := g) hn hT ht hl n 0 fuel (by omega) (by unfold fuel; omega)
  rw [e] at h
  exact h
end
theorem and_15 {x : Nat} (h : x < 16) : x &&& 15 = x := by
  have := Nat.and_two_pow_sub_one_eq_mod x 4
  rw [show (15 : Nat) = 2 ^ 4 - 1 from rfl, this]
  exact Nat.mod_eq_of_lt h
/-- a look held against a told one, lane by lane -/
theorem lanes_so {n : Nat} {t : AT} {a : Nat → Nat} (hn : n ≤ 6) (ha : lk n a) (hl : tlB n t = true) : ((nI (l6 a) &&& nI (l6 (mkN n t.2.2.2))) = nI (l6 (amN n t.2.2.2))) ↔ soB n t.2.2.2 a = true := by
  have hl := of_decide_eq_true hl
  have ha16 := lk16 hn ha
  have hm16 : ∀ j, j < 6 → mkN n t.2.2.2 j < 16 := fun j _ => by unfold mkN; split <;> omega
  have hs16 : ∀ j, j < 6 → amN n t.2.2.2 j < 16 := fun j _ => by
    unfold amN
    split
    · rename_i h; have := hl.2 j h.1; omega
    · omega
  have l1 := l6_lt (a := fun m => a m &&& mkN n t.2.2.2 m) (fun j hj => and_lt16 (ha16 j hj))
  have l2 := l6_lt hs16
  rw [fa_and, l6_and ha16 hm16, nI_eq (by omega) (by omega), l6_inj (fun j hj => and_lt16 (ha16 j hj)) hs16]
  unfold soB
  rw [decide_eq_true_iff]
  constructor
  · intro h j hj
    by_cases e : t.2.2.2 j = -1
    · exact Or.inl e
    · right
      have h1 := h j (by omega)
      have hk2 := hl.2 j hj
      have hne : (t.2.2.2 j).toInt ≠ -1 := fun z => e (Int64.toInt_inj.mp z)
      unfold mkN amN at h1
      rw [if_pos ⟨hj, e⟩, if_pos ⟨hj, e⟩, and_15 (ha16 j (by omega))] at h1
      exact Int64.toInt_inj.mp (by rw [lN_I (by have := ha16 j (by omega); omega), h1]; omega)
  · intro h j hj
    unfold mkN amN
    by_cases hjn : j < n ∧ t.2.2.2 j ≠ -1
    · rw [if_pos hjn, if_pos hjn, and_15 (ha16 j hj)]
      have h1 := (h j hjn.1).resolve_left hjn.2
      rw [h1, lN_I (by have := ha16 j hj; omega), Int.toNat_natCast]
    · rw [if_neg hjn, if_neg hjn, Nat.and_zero]
theorem lanes_as {b : AB} (hw : wfB b) {a : Nat → Nat} (ha : lk (bN b) a) : ((nI (l6 a) &&& (16777215 : Int32)) = nI (l6 (bA b))) ↔ asB b a = true := by
  have hn := hw.2.1
  have ha16 := lk16 hn ha
  have hb16 := lk16 hn hw.2.2.1
  have l1 := l6_lt ha16
  have l2 := l6_lt hb16
  rw [show (16777215 : Int32) = nI (2 ^ 24 - 1) from rfl, fa_mask, Nat.mod_eq_of_lt (by omega), nI_eq (by omega) (by omega), l6_inj ha16 hb16]
  unfold asB
  rw [decide_eq_true_iff]
  constructor
  · intro h j hj; exact h j (by omega)
  · intro h j hj
    by_cases e : j < bN b
    · exact h j e
    · rw [(ha j hj).2 (by omega), (hw.2.2.1 j hj).2 (by omega)]
/-! the calls -/
theorem KQ.keepR {q : AQ} {g g' : MS} {li la : List Nat} (h : KQ q (g.2.1 0)) (f : fM li la g g') (ha : 0 ∉ la) : KQ q (g'.2.1 0) := by rw [f.row 0 ha]; exact h
def soR (b : AB) (t : AT) (i : Nat) : Bool := soB (bN b) t.2.2.2 (bhA b (rwA b i))
theorem MRes.frame {q : AQ} {g g1 g2 : MS} {th : Nat} (h : MRes q th g g1) (f : fM rI rL g1 g2) : MRes q th g g2 := ⟨h.1.keepR f (by decide), by rw [f.1 4 (by decide)]; exact h.2.1, h.2.2.trans (kpM.of f (by decide) (by decide))⟩
section
variable {q : AQ} {g : MS} {tr : Nat → AT}
theorem mCheap_look (hq : wfQ q) (hK : KQ q (g.2.1 0)) (hT : ∀ i, i < 4 → MT (tr i) i g) {i : Nat} (hi : i < 4) (ht : (tr i).1 = true) : Ev (fX12_asksRows (sI (sI g 4 (nI 0)) 33 (nI i)) (0 : Int32)) (fun g' => g'.1 35 = nI (fb_ct (soR (qB q) (tr i)) (nR (qB q))) ∧ BS (qB q) (decide (bstF (soR (qB q) (tr i)) (cR (qB q)) (nR (qB q)) ≠ 0)) (if bstF (soR (qB q) (tr i)) (cR (qB q)) (nR (qB q)) = 0 then (fun _ => 0) else tcR (bN (qB q)) (rwA (qB q) (bstF (soR (qB q) (tr i)) (cR (qB q)) (nR (qB q)) - 1))) g' ∧ MRes q 0 g g') := by
  have f1 : fM [4, 33] [] g (sI (sI g 4 (nI 0)) 33 (nI i)) := ((fM.refl g).sI (by decide)).sI (by decide)
  refine (askLook (g := sI (sI g 4 (nI 0)) 33 (nI i)) hi ht hq.1 hK.1 ((hT i hi).keep (kpM.of f1 (by decide) (by decide))) rfl).mono ?_
  intro g' hR
  unfold all1 at hR
  rw [all1_ix] at hR
  obtain ⟨r1, r2, r3, r4, r5, r6, r7⟩ := hR
  exact ⟨r5, r6, (show MRes q 0 g (sI (sI g 4 (nI 0)) 33 (nI i)) from ⟨hK, rfl, kpM.of f1 (by decide) (by decide)⟩).frame r7⟩
theorem mCheapest_eq (hq : wfQ q) (hK : KQ q (g.2.1 0)) (hT : ∀ i, i < 4 → MT (tr i) i g) {i : Nat} (hi : i < 4) (ht : (tr i).1 = true) (hl : lkF tr (bN (qB q)) (nI i) = 0) {w : Int32} (hwh : whOK w) : Ev (fX12_cheapest g (nI i) w) (fun z => z.1 = paAns (qB q) (bstF (soR (qB q) (tr i)) (cR (qB q)) (nR (qB q))) w ∧ MRes q 0 g z.2) := by
  have : Decidable (whOK w) := inferInstanceAs (Decidable (_ ∨ _))
  unfold fX12_cheapest fX12_cheapest_28
  rw [lookF_eq hq.1 hK.1 hT, bndc_s, hl, bnd_e, if_pos (show (sI g 4 (nI 0)).1 4 = 0 from rfl), isWhat_eq, if_pos hwh, bndv_s, if_neg (by decide), if_pos (show (sI g 4 (nI 0)).1 4 ≤ 0 from (by decide : (0 : Int32) ≤ 0)), bnd_e]
  refine Ev.v (mCheap_look hq hK hT hi ht) ?_
  rintro g' ⟨r1, r2, r3⟩
  rw [toldRow_eq hq.1 r2 hwh, bndc_s]
  exact ev_some.mpr ⟨rfl, r3⟩
theorem mCheapest_no (hq : wfQ q) (hK : KQ q (g.2.1 0)) (hT : ∀ i, i < 4 → MT (tr i) i g) {x w : Int32} (h : lkF tr (bN (qB q)) x ≠ 0 ∨ ¬ whOK w) : Ev (fX12_cheapest g x w) (fun z => MRes q (if lkF tr (bN (qB q)) x = 0 then 3 else lkF tr (bN (qB q)) x) g z.2) := by
  have : Decidable (whOK w) := inferInstanceAs (Decidable (_ ∨ _))
  have hle := lkF_le tr (bN (qB q)) x
  unfold fX12_cheapest fX12_cheapest_28
  rw [lookF_eq hq.1 hK.1 hT, bndc_s, bnd_e]
  by_cases h0 : lkF tr (bN (qB q)) x = 0
  · rw [h0, if_pos (show (sI g 4 (nI 0)).1 4 = 0 from rfl), isWhat_eq, if_neg (h.resolve_left (fun z => z h0)), bndv_s, if_pos rfl, bnd_e, if_neg (show ¬ (sI (sI g 4 (nI 0)) 4 (3 : Int32)).1 4 ≤ 0 from (by decide : ¬ (3 : Int32) ≤ 0)), if_pos rfl]
    exact ev_some.mpr ⟨hK, rfl, (kpM.th g _).trans (kpM.th _ _)⟩
  · rw [if_neg (show ¬ (sI g 4 (nI (lkF tr (bN (qB q)) x))).1 4 = 0 from nI_ne0 (by omega) (by omega)), if_neg (show ¬ (sI g 4 (nI (lkF tr (bN (qB q)) x))).1 4 ≤ 0 from nI_nle0 (by omega) (by omega)), if_neg h0]
    exact ev_some.mpr (MRes.fail hK _)
theorem mWays_eq (hq : wfQ q) (hK : KQ q (g.2.1 0)) (hT : ∀ i, i < 4 → MT (tr i) i g) {i : Nat} (hi : i < 4) (ht : (tr i).1 = true) (hl : lkF tr (bN (qB q)) (nI i) = 0) : Ev (fX12_ways g (nI i)) (fun z => z.1 = nI (fb_ct (soR (qB q) (tr i)) (nR (qB q))) ∧ MRes q 0 g z.2) := by
  unfold fX12_ways
  rw [lookF_eq hq.1 hK.1 hT, bndc_s, hl, bnd_e, if_pos (show (sI g 4 (nI 0)).1 4 ≤ 0 from (by decide : (0 : Int32) ≤ 0)), bnd_e]
  refine Ev.v (mCheap_look hq hK hT hi ht) ?_
  rintro g' ⟨r1, r2, r3⟩
  exact ev_some.mpr ⟨r1, r3⟩
theorem mWays_no (hq : wfQ q) (hK : KQ q (g.2.1 0)) (hT : ∀ i, i < 4 → MT (tr i) i g) {x : Int32} (h : lkF tr (bN (qB q)) x ≠ 0) : Ev (fX12_ways g x) (fun z => MRes q (lkF tr (bN (qB q)) x) g z.2) := by
  have hle := lkF_le tr (bN (qB q)) x
  unfold fX12_ways
  rw [lookF_eq hq.1 hK.1 hT, bndc_s, bnd_e, if_neg (show ¬ (sI g 4 (nI (lkF tr (bN (qB q)) x))).1 4 ≤ 0 from nI_nle0 (by omega) (by omega))]
  exact ev_some.mpr (MRes.fail hK _)
end
/-- the class behind a call that changes no board -/
def CRes (b : AB) (T : Nat) (g g' : CS) : Prop := SV b T g' ∧ fC svI svA [] g g'
section
variable {b : AB} {P : PL} {g : CS} {tr : Nat → AT} {T : Nat}
theorem lk_y {tr : Nat → AT} {n : Nat} {i : Nat} (hi : i < 4) (ht : (tr i).1 = true) (hl : lkF tr n (nI i) = 0) : tlB n (tr i) = true := by
  unfold lkF at hl
  have h0 : trF tr (nI i) = 0 := by unfold trF; rw [n_toInt (by omega), if_pos (by omega), nI_clamp (by omega), ht, if_pos rfl]
  rw [if_pos h0, nI_clamp (by omega)] at hl
  cases h : tlB n (tr i) with
  | true => rfl
  | false => rw [h] at hl; exact absurd hl (by decide)
theorem cTell_look (hw : wfB b) (hT : g.1 30 7 = nI T) (hS : SB b P g 30) (hV : SV b T g) {t : AT} (hl : tlB (bN b) t = true) : Ev (fX7_tell P g (nI (l6 (mkN (bN b) t.2.2.2))) (nI (l6 (amN (bN b) t.2.2.2)))) (fun g' => TLa b (soR b t) (nR b) g' ∧ CRes b T g g') := by
  refine (tell_eq hw hT hS hV _ _).mono ?_
  rintro g' ⟨h1, h2, h3⟩
  have e : pkB b (nI (l6 (mkN (bN b) t.2.2.2))) (nI (l6 (amN (bN b) t.2.2.2))) = soR b t := by
    funext i
    unfold pkB soR
    have := lanes_so (t := t) hw.2.1 (bhA_lk hw (rwA b i)) hl
    cases h : soB (bN b) t.2.2.2 (bhA b (rwA b i)) with
    | true => exact decide_eq_true (this.mpr h)
    | false => exact decide_eq_false (fun z => by rw [this.mp z] at h; exact absurd h (by decide))
  rw [e] at h1
  exact ⟨h1, h2, h3⟩
theorem cCheapest_eq (hw : wfB b) (hTs : g.1 30 7 = nI T) (hS : SB b P g 30) (hV : SV b T g) (hT : ∀ i, i < 4 → CT (tr i) i g) {i : Nat} (hi : i < 4) (ht : (tr i).1 = true) (hl : lkF tr (bN b) (nI i) = 0) {w : Int32} (hwh : whOK w) : Ev (fX11_cheapest P g (nI i) w) (fun z => z.1 = Sum.inr (paAns b (bstF (soR b (tr i)) (cR b) (nR b)) w) ∧ CRes b T g z.2) := by
  have hlk := lk_y hi ht hl
  unfold fX11_cheapest
  rw [needLook_eq hw hS hT, if_pos hl, nI_clamp (by omega), bxr]
  refine Ev.k (okT_b i hi) ?_
  rw [needPath_y hwh, bxr, hS.1, mask_eq hw.2.1 (hT i hi) ht, bndc_s, hS.1, aims_eq hw.2.1 (hT i hi) ht hlk, bndc_s]
  refine Ev.v (cTell_look hw hTs hS hV hlk) ?_
  rintro g' ⟨h1, h2⟩
  rw [h1.2.1, h1.2.2, pathAns_eq hw (hS.keep h2.2 svno30) _ hwh, bndc_s]
  exact ev_some.mpr ⟨rfl, h2⟩
theorem cCheapest_no (hw : wfB b) (hS : SB b P g 30) (hT : ∀ i, i < 4 → CT (tr i) i g) {x w : Int32} (h : lkF tr (bN b) x ≠ 0 ∨ ¬ whOK w) : fX11_cheapest P g x w = some (Sum.inl (if trF tr x = 0 then 1 else trX (trF tr x)), g) := by
  unfold fX11_cheapest
  rw [needLook_eq hw hS hT]
  by_cases h0 : lkF tr (bN b) x = 0
  · have ht0 : trF tr x = 0 := by
      unfold lkF at h0
      by_cases e : trF tr x = 0
      · exact e
      · rw [if_neg e] at h0; exact absurd h0 e
    obtain ⟨i, hi, rfl, ht⟩ := trF_0 ht0
    rw [if_pos h0, nI_clamp (by omega), bxr, chk_tt (okT_b i hi), needPath_n (h.resolve_left (fun z => z h0)), bxl, if_pos ht0]
  · rw [if_neg h0, bxl]
theorem cWays_eq (hw : wfB b) (hTs : g.1 30 7 = nI T) (hS : SB b P g 30) (hV : SV b T g) (hT : ∀ i, i < 4 → CT (tr i) i g) {i : Nat} (hi : i < 4) (ht : (tr i).1 = true) (hl : lkF tr (bN b) (nI i) = 0) : Ev (fX11_ways P g (nI i)) (fun z => z.1 = Sum.inr (nI (fb_ct (soR b (tr i)) (nR b))) ∧ CRes b T g z.2) := by
  have hlk := lk_y hi ht hl
  unfold fX11_ways
  rw [needLook_eq hw hS hT, if_pos hl, nI_clamp (by omega), bxr]
  refine Ev.k (okT_b i hi) ?_
  rw [hS.1, mask_eq hw.2.1 (hT i hi) ht, bndc_s, hS.1, aims_eq hw.2.1 (hT i hi) ht hlk, bndc_s]
  refine Ev.v (cTell_look hw hTs hS hV hlk) ?_
  rintro g' ⟨h1, h2⟩
  rw [h1.1]
  exact ev_some.mpr ⟨rfl, h2⟩
theorem cWays_no (hw : wfB b) (hS : SB b P g 30) (hT : ∀ i, i < 4 → CT (tr i) i g) {x : Int32} (h : lkF tr (bN b) x ≠ 0) : fX11_ways P g x = some (Sum.inl (if trF tr x = 0 then 1 else trX (trF tr x)), g) := by
  unfold fX11_ways
  rw [needLook_eq hw hS hT, if_neg h, bxl]
end
