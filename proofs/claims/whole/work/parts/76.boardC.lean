/-! ===== paces ===== -/
theorem jrem_I {x : Int32} {n : Nat} (hx : kv false x) (h2 : 2 ≤ n) (h6 : n ≤ 6) : (jrem x (nI n)).toInt = x.toInt.tmod n := by
  have hx1 : -1000000 ≤ x.toInt := hx.1
  have hx2 : x.toInt ≤ 1000000 := hx.2
  unfold jrem
  have hn : (nI n).toInt = n := n_toInt (by omega)
  have hd : (x / nI n).toInt = x.toInt.tdiv n := by
    rw [Int32.toInt_div_of_ne_right _ _ (nI_nm1 (by omega)), hn]
  have hb : -1000000 ≤ x.toInt.tdiv n * n ∧ x.toInt.tdiv n * n ≤ 1000000 := by
    have e := Int.tmod_add_mul_tdiv x.toInt n
    rw [Int.mul_comm] at e
    rcases Int.le_total 0 x.toInt with h | h
    · have e1 := Int.tmod_nonneg (n : Int) h
      have e2 := Int.tdiv_eq_ediv_of_nonneg (b := (n : Int)) h
      have e3 : 0 ≤ x.toInt / (n : Int) * n := Int.mul_nonneg (Int.ediv_nonneg h (by omega)) (by omega)
      rw [e2] at e ⊢
      omega
    · have e1 := Int.tmod_nonneg (n : Int) (show 0 ≤ -x.toInt by omega)
      rw [Int.neg_tmod] at e1
      have e2 := Int.tdiv_eq_ediv_of_nonneg (b := (n : Int)) (show 0 ≤ -x.toInt by omega)
      rw [Int.neg_tdiv] at e2
      have e3 : 0 ≤ -x.toInt / (n : Int) * n := Int.mul_nonneg (Int.ediv_nonneg (by omega) (by omega)) (by omega)
      rw [← e2, Int.neg_mul] at e3
      omega
  have hm : (x / nI n * nI n).toInt = x.toInt.tdiv n * n := by
    rw [fb_mulI (by rw [hd, hn]; omega) (by rw [hd, hn]; omega), hd, hn]
  rw [fb_subI (by rw [hm]; omega) (by rw [hm]; omega), hm, Int.tmod_def, Int.mul_comm]
theorem emod_of_t {z : Int} {n : Nat} (h2 : 2 ≤ n) : z % (n : Int) = if 0 ≤ z.tmod n then z.tmod n else z.tmod n + n := by
  have hn : (n : Int) ≠ 0 := by omega
  have h1 := Int.emod_nonneg z hn
  have h3 := Int.emod_lt_of_pos z (show (0 : Int) < n by omega)
  rcases Int.le_total 0 z with h | h
  · rw [if_pos (Int.tmod_nonneg _ h), Int.tmod_eq_emod_of_nonneg h]
  · have e1 := Int.tmod_nonneg (n : Int) (show 0 ≤ -z by omega)
    have e2 := Int.tmod_eq_emod_of_nonneg (b := (n : Int)) (show 0 ≤ -z by omega)
    rw [Int.neg_tmod] at e1 e2
    have e4 := Int.emod_lt_of_pos (-z) (show (0 : Int) < n by omega)
    have d1 := Int.emod_add_mul_ediv z n
    have d2 := Int.emod_add_mul_ediv (-z) n
    have key : z % (n : Int) = 0 ∧ -z % (n : Int) = 0 ∨ z % (n : Int) + -z % (n : Int) = n := by
      have hs : z % (n : Int) + -z % (n : Int) = n * -(z / n + -z / n) := by
        rw [Int.mul_neg, Int.mul_add]
        omega
      have hq : -(z / (n : Int) + -z / n) = 0 ∨ -(z / (n : Int) + -z / n) = 1 := by
        have n0 : (0 : Int) < n := by omega
        rcases (show -(z / (n : Int) + -z / n) < 0 ∨ 0 ≤ -(z / (n : Int) + -z / n) by omega) with q | q
        · have : (n : Int) * -(z / n + -z / n) < 0 := Int.mul_neg_of_pos_of_neg n0 q
          omega
        · rcases (show -(z / (n : Int) + -z / n) < 2 ∨ 2 ≤ -(z / (n : Int) + -z / n) by omega) with q2 | q2
          · omega
          · have : (n : Int) * 2 ≤ n * -(z / n + -z / n) := Int.mul_le_mul_of_nonneg_left q2 (by omega)
            omega
      rcases hq with q | q
      · rw [q, Int.mul_zero] at hs
        exact Or.inl ⟨by omega, by omega⟩
      · rw [q, Int.mul_one] at hs
        exact Or.inr hs
    rcases key with ⟨k1, k2⟩ | k
    · rw [k1, if_pos (by omega)]
      omega
    · by_cases h0 : 0 ≤ z.tmod n
      · omega
      · rw [if_neg h0]
        omega
/-- both ways to a pace -/
theorem pace_v {x : Int32} {n : Nat} (hx : kv false x) (h2 : 2 ≤ n) (h6 : n ≤ 6) : (if 0 ≤ jrem x (nI n) then jrem x (nI n) else jrem x (nI n) + nI n) = nI ((x.toInt % (n : Int)).toNat) ∧ (x.toInt % (n : Int)).toNat < n := by
  have hn : (n : Int) ≠ 0 := by omega
  have h1 := Int.emod_nonneg x.toInt hn
  have h3 := Int.emod_lt_of_pos x.toInt (show (0 : Int) < n by omega)
  refine ⟨?_, by omega⟩
  have hr := jrem_I hx h2 h6
  have e := emod_of_t (z := x.toInt) h2
  have hnn : (nI n).toInt = n := n_toInt (by omega)
  have e0 : (0 : Int32).toInt = 0 := rfl
  by_cases h : 0 ≤ jrem x (nI n)
  · have h' : 0 ≤ x.toInt.tmod n := by rw [fa_le, hr, e0] at h; exact h
    rw [if_pos h]
    apply Int32.toInt_inj.mp
    rw [if_pos h'] at e
    rw [hr, n_toInt (by omega), ← e]
    omega
  · have h' : ¬ 0 ≤ x.toInt.tmod n := by rw [fa_le, hr, e0] at h; exact h
    rw [if_neg h]
    apply Int32.toInt_inj.mp
    rw [if_neg h'] at e
    rw [fb_addI (by rw [hr, hnn]; omega) (by rw [hr, hnn]; omega), hr, hnn, n_toInt (by omega)]
    omega
theorem jfm_v {x : Int32} {n : Nat} (hx : kv false x) (h2 : 2 ≤ n) (h6 : n ≤ 6) : jfm x (nI n) = nI ((x.toInt % (n : Int)).toNat) := by
  rw [← (pace_v hx h2 h6).1]
  have hr := jrem_I hx h2 h6
  have e0 : (0 : Int32).toInt = 0 := rfl
  have hs : (0 ≤ x ^^^ nI n) ↔ 0 ≤ x := by
    rw [← Int32.not_lt, ← Int32.not_lt]
    apply not_congr
    rw [Int32.lt_iff_toBitVec_slt, Int32.lt_iff_toBitVec_slt, Int32.toBitVec_xor]
    have m1 : ∀ w : BitVec 32, w.slt (0 : Int32).toBitVec = w.msb := fun w => by
      show w.slt 0#32 = w.msb
      exact BitVec.slt_zero_eq_msb
    rw [m1, m1, BitVec.msb_xor]
    have : (nI n).toBitVec.msb = false := by
      rcases (show n = 2 ∨ n = 3 ∨ n = 4 ∨ n = 5 ∨ n = 6 by omega) with q | q | q | q | q <;> subst q <;> decide
    rw [this, Bool.xor_false]
  unfold jfm
  by_cases h : 0 ≤ x
  · have hx0 : 0 ≤ x.toInt := by rw [fa_le, e0] at h; exact h
    rw [if_pos (hs.mpr h), if_pos (by rw [fa_le, hr, e0]; exact Int.tmod_nonneg _ hx0)]
  · have hx0 : ¬ 0 ≤ x.toInt := by rw [fa_le, e0] at h; exact h
    rw [if_neg (fun z => h (hs.mp z))]
    have h7 := Int.tmod_nonneg (n : Int) (show 0 ≤ -x.toInt by omega)
    rw [Int.neg_tmod] at h7
    by_cases hz : jrem x (nI n) = 0
    · rw [if_pos hz, hz, if_pos (by decide)]
    · rw [if_neg hz, if_neg]
      intro hc
      rw [fa_le, hr, e0] at hc
      exact hz (Int32.toInt_inj.mp (by rw [hr, e0]; omega))
theorem paA_lt (b : AB) (hw : wfB b) (m x y : Nat) : paA b m x y < bN b := by
  have h2 := hw.1
  unfold paA
  split
  · omega
  · have h3 := Int.emod_lt_of_pos (paV b m x y).toInt (show (0 : Int) < (bN b : Int) by omega)
    omega
section
variable {b : AB} {g : MS} {a : Nat → Nat}
theorem byA_lt (hw : wfB b) (m : Nat) : byA b a m < bN b := by
  have h2 := hw.1
  unfold byA
  repeat' split
  · omega
  · omega
  · exact paA_lt b hw _ _ _
theorem mnA_lk (hw : wfB b) (ha : lk (bN b) a) : lk (bN b) (mnA b a) := fun m hm => ⟨Nat.mod_lt _ (by have := hw.1; omega), fun h => by
  show (a m + byA b a m) % bN b = 0
  rw [(ha m hm).2 h, show byA b a m = 0 from if_pos h, Nat.add_zero, Nat.zero_mod]⟩
theorem goesBy_eq (hw : wfB b) (hK : KB b (g.2.1 0)) (ha : lk (bN b) a) (hA : AR (bN b) a g) (hV : VR (bN b) (vt b a) g) {m : Nat} (hm : m < bN b) : Ev (fX12_goesBy g (nI m)) (fun q => q.1 = nI (paA b m (a m) (vt b a m)) ∧ fM [] [19, 20] g q.2) := by
  have hn := hw.2.1
  unfold fX12_goesBy paA
  refine Ev.k (by decide) ?_
  show Ev (if g.2.1 0 4 = 0 then _ else _) _
  rw [hK.2.2.2.2.2.2.1]
  by_cases h4 : bG b = []
  · rw [if_pos ((len0 hw.2.2.2.2.2.2.2.1).mpr h4), if_pos h4]
    exact ev_some.mpr ⟨rfl, fM.refl g⟩
  · rw [if_neg (fun z => h4 ((len0 hw.2.2.2.2.2.2.2.1).mp z)), if_neg h4]
    refine Ev.k (ib_n (by omega) (by omega)) (Ev.k (ib_n (by omega) (by omega)) ?_)
    rw [ix_n (by omega), hA m hm, hV m hm]
    refine Ev.v (asks_eq hw hK hm _ _) ?_
    rintro g1 ⟨e1, f1⟩
    have e0 : g1.2.1 0 = g.2.1 0 := f1.row 0 (by decide)
    have hW9 := (hw.2.2.2.1 m (by omega)).1
    have ham := (ha m (by omega)).1
    have hvm := vt_le hw a m
    refine Ev.c (lawOf_eq (e := en4 (nI m) (nI (bW b m)) (nI (a m)) (nI (vt b a m))) (many := 4) (at0 := 1949) (l := bG b) (b := false) (by omega) (by have := hw.2.2.2.2.2.2.2.1; omega) (en4_ok (kv_n (by omega)) (kv_n (by omega)) (kv_n (by omega)) (kv_n (by omega))) (lwG hw h4) e1 (by rw [e0]; exact hK.2.2.2.2.2.2.1) (by rw [e0]; exact hK.2.2.2.2.2.2.2.2.2)) ?_
    rintro r g2 ⟨q1, q2, q3⟩
    dsimp only at q1 q2
    have fr : fM [] [19, 20] g g2 := (f1.mono (by decide) (by decide)).trans (q3.mono (by decide) (by decide))
    have hK2 : KB b (g2.2.1 0) := by rw [fr.row 0 (by decide)]; exact hK
    rw [size_eq hK2, bndc_s]
    refine Ev.k (nz_n (by omega) (by omega)) ?_
    rw [bnd_e]
    obtain ⟨p1, p2⟩ := pace_v q2 hw.1 hw.2.1
    have e5 : paV b m (a m) (vt b a m) = r := q1.symm
    rw [e5, ← p1]
    by_cases h5 : 0 ≤ jrem r (nI (bN b))
    · rw [if_pos h5]
      exact ev_some.mpr ⟨by rw [if_pos h5], fr⟩
    · rw [if_neg h5, size_eq hK2, bndc_s]
      exact ev_some.mpr ⟨by rw [if_neg h5], fr⟩
theorem minute_lp2 (hw : wfB b) {u : Nat → Nat} (ha : lk (bN b) a) (hu : ∀ m, m < bN b → u m < bN b) : ∀ d k f (g : MS), k + d = bN b → d < f → KB b (g.2.1 0) → (∀ m, m < bN b → g.2.1 21 m = nI (if m < k then (a m + u m) % bN b else a m)) → (∀ m, m < bN b → g.2.1 23 m = nI (u m)) → Ev (fX12_minute_45 f g (nI k)) (fun g' => AR (bN b) (fun m => (a m + u m) % bN b) g' ∧ fM [] [21] g g') := by
  have hn := hw.2.1
  have hn2 := hw.1
  intro d
  induction d with
  | zero =>
    intro k f g hk hf hK h h2
    obtain ⟨f, rfl⟩ : ∃ f', f = f' + 1 := ⟨f - 1, by omega⟩
    rw [fX12_minute_45, size_eq hK, bndc_s, if_pos (nI_le (by omega) (by omega))]
    exact ev_some.mpr ⟨fun m hm => by rw [h m hm, if_pos (by omega)], fM.refl g⟩
  | succ d ih =>
    intro k f g hk hf hK h h2
    obtain ⟨f, rfl⟩ : ∃ f', f = f' + 1 := ⟨f - 1, by omega⟩
    have h3 := (ha k (by omega)).1
    have h4 := hu k (by omega)
    rw [fX12_minute_45, size_eq hK, bndc_s, if_neg (nI_ge (by omega) (by omega))]
    refine Ev.k (ib_n (by omega) (by omega)) (Ev.k (ib_n (by omega) (by omega)) ?_)
    rw [size_eq hK, bndc_s]
    refine Ev.k (nz_n (by omega) (by omega)) (Ev.k (ib_n (by omega) (by omega)) ?_)
    rw [bnd_e, nI_1, bnd_e, ix_n (by omega), h k (by omega), if_neg (Nat.lt_irrefl k), h2 k (by omega), nI_add, jr_n (by omega) (by omega) (by omega)]
    refine (ih (k + 1) f (sA g 21 k (nI ((a k + u k) % bN b))) (by omega) (by omega) hK (fun m hm => ?_) h2).mono ?_
    · show upd (g.2.1 21) k _ m = _
      rw [upd_j]
      by_cases e : m = k
      · rw [if_pos e, e, if_pos (by omega)]
      · rw [if_neg e, h m hm]
        by_cases e2 : m < k
        · rw [if_pos e2, if_pos (by omega)]
        · rw [if_neg e2, if_neg (by omega)]
    · rintro q ⟨q1, q2⟩
      exact ⟨q1, ((fM.refl g).sA (by decide)).trans q2⟩
theorem minute_lp1 (hw : wfB b) (ha : lk (bN b) a) : ∀ d k f (g : MS), k + d = bN b → d < f → KB b (g.2.1 0) → AR (bN b) a g → VR (bN b) (vt b a) g → (∀ m, m < k → g.2.1 23 m = nI (byA b a m)) → Ev (fX12_minute_6 f g (nI k)) (fun g' => AR (bN b) (mnA b a) g' ∧ fM [] [19, 20, 21, 22, 23] g g') := by
  have hn := hw.2.1
  intro d
  induction d with
  | zero =>
    intro k f g hk hf hK hA hV h
    obtain ⟨f, rfl⟩ : ∃ f', f = f' + 1 := ⟨f - 1, by omega⟩
    rw [fX12_minute_6, size_eq hK, bndc_s, if_pos (nI_le (by omega) (by omega))]
    refine (minute_lp2 hw (u := byA b a) ha (fun m _ => byA_lt hw m) (bN b) 0 fuel g (by omega) (by unfold fuel; omega) hK (fun m hm => by rw [if_neg (Nat.not_lt_zero m)]; exact hA m hm) (fun m hm => h m (by omega))).mono ?_
    rintro q ⟨q1, q2⟩
    exact ⟨q1, q2.mono (by decide) (by decide)⟩
  | succ d ih =>
    intro k f g hk hf hK hA hV h
    obtain ⟨f, rfl⟩ : ∃ f', f = f' + 1 := ⟨f - 1, by omega⟩
    rw [fX12_minute_6, size_eq hK, bndc_s, if_neg (nI_ge (by omega) (by omega)), isStuck_eq hw hK (by omega), bndc_s]
    have fin : ∀ (g1 : MS) (v : Int32), v = nI (byA b a k) → fM [] [19, 20, 21, 22, 23] g g1 → g1.2.1 21 = g.2.1 21 → g1.2.1 22 = g.2.1 22 → g1.2.1 23 = g.2.1 23 → Ev (fX12_minute_6 f (sA g1 23 k v) (nI (k + 1))) (fun g' => AR (bN b) (mnA b a) g' ∧ fM [] [19, 20, 21, 22, 23] g g') := by
      intro g1 v hv hfr h21 h22 h23
      refine (ih (k + 1) f (sA g1 23 k v) (by omega) (by omega) (by show KB b (g1.2.1 0); rw [hfr.row 0 (by decide)]; exact hK) (fun m hm => by show g1.2.1 21 m = _; rw [h21]; exact hA m hm) (fun m hm => by show g1.2.1 22 m = _; rw [h22]; exact hV m hm) (fun m hm => ?_)).mono ?_
      · show upd (g1.2.1 23) k v m = _
        rw [upd_j]
        by_cases e : m = k
        · rw [if_pos e, e, hv]
        · rw [if_neg e, h23]; exact h m (by omega)
      · rintro q ⟨q1, q2⟩
        exact ⟨q1, (hfr.sA (by decide)).trans q2⟩
    cases h1 : stk b k with
    | true =>
      rw [if_neg (by decide)]
      refine Ev.k (ib_n (by omega) (by omega)) ?_
      rw [bnd_e, nI_1, bnd_e, ix_n (by omega)]
      exact fin g _ (by unfold byA; rw [if_neg (by omega), h1, if_pos rfl]; rfl) (fM.refl g) rfl rfl rfl
    | false =>
      rw [if_pos (by decide)]
      refine Ev.c (goesBy_eq hw hK ha hA hV (show k < bN b by omega)) ?_
      rintro r g1 ⟨q1, q2⟩
      refine Ev.k (ib_n (by omega) (by omega)) ?_
      rw [bnd_e, nI_1, bnd_e, ix_n (by omega)]
      exact fin g1 r (by unfold byA; rw [if_neg (by omega), h1, if_neg (by decide)]; exact q1) (q2.mono (by decide) (by decide)) (q2.row 21 (by decide)) (q2.row 22 (by decide)) (q2.row 23 (by decide))
theorem minute_eq (hw : wfB b) (hK : KB b (g.2.1 0)) (ha : lk (bN b) a) (hA : AR (bN b) a g) : Ev (fX12_minute g) (fun g' => AR (bN b) (mnA b a) g' ∧ fM [] [19, 20, 21, 22, 23] g g') := by
  have hn := hw.2.1
  unfold fX12_minute
  refine Ev.v (laysVotes_eq hw hK ha hA) ?_
  rintro g1 ⟨h1, h2⟩
  refine (minute_lp1 hw ha (bN b) 0 fuel g1 (by omega) (by unfold fuel; omega) (by rw [h2.row 0 (by decide)]; exact hK) (fun m hm => by rw [h2.row 21 (by decide)]; exact hA m hm) h1 (fun m hm => absurd hm (Nat.not_lt_zero m))).mono ?_
  rintro q ⟨q1, q2⟩
  exact ⟨q1, (h2.mono (by decide) (by decide)).trans q2⟩
end
