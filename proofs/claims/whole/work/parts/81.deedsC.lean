/-! ===== the class does deeds ===== -/
theorem l6_mul (k : Nat) (f : Nat → Nat) : k * l6 f = l6 (fun m => k * f m) := by simp only [l6_x, Nat.mul_add, Nat.mul_assoc]
theorem o_ne {o : Nat} (h : okS o) : o ≠ 10 ∧ o + 10 ≠ 11 := by rcases h with q | q | q | q | q <;> omega
section
variable {b : AB} {P : PL} {g : CS} {o : Nat} {q : AQ}
theorem sbA {a' : Nat → Nat} {v : Int32} (h : SB b P g o) (hv : v = nI (l6 a')) : SB (setA b a') P (tI g o 3 v) o := ⟨by rw [tI_n (by omega)]; exact h.1, by rw [tI_s]; exact hv, by rw [tI_n (by omega)]; exact h.2.2.1, by rw [tI_n (by omega)]; exact h.2.2.2.1, h.2.2.2.2⟩
theorem sbW {w' : Nat → Nat} {v : Int32} (h : SB b P g o) (hv : v = nI (l6 w')) : SB (setW b w') P (tI g o 4 v) o := ⟨by rw [tI_n (by omega)]; exact h.1, by rw [tI_n (by omega)]; exact h.2.1, by rw [tI_s]; exact hv, by rw [tI_n (by omega)]; exact h.2.2.2.1, h.2.2.2.2⟩
theorem sbS {s' : Nat} {v : Int32} (h : SB b P g o) (hv : v = nI s') : SB (setS b s') P (tI g o 5 v) o := ⟨by rw [tI_n (by omega)]; exact h.1, by rw [tI_n (by omega)]; exact h.2.1, by rw [tI_n (by omega)]; exact h.2.2.1, by rw [tI_s]; exact hv, h.2.2.2.2⟩
/-- what a deed of the class leaves -/
abbrev dC (o : Nat) : List (Nat × Nat) := [(o, 3), (o, 4), (o, 5), (o, 6), (o, 7), (10, 1)]
def DS (q : AQ) (b' : AB) (P : PL) (g g' : CS) (o : Nat) : Prop := SQ (doA q b') P g' o ∧ g'.1 o 7 = g.1 o 7 + 1 ∧ fC (dC o) [11] [o + 10] g g'
def DR (q : AQ) (r : Nat × AB) (P : PL) (g : CS) (o : Nat) (z : Int32 × CS) : Prop := z.1 = nI r.1 ∧ (r.1 ≠ 0 → z.2 = g) ∧ (r.1 = 0 → DS q r.2 P g z.2 o)
theorem DR.no {r : Nat × AB} {c : Int32} (h1 : c = nI r.1) (h : r.1 ≠ 0) : DR q r P g o (c, g) := ⟨h1, fun _ => rfl, fun z => absurd z h⟩
theorem DS.of {b' : AB} {g1 g' : CS} (ho : okS o) (s1 : SQ (keepA q) P g1 o) (s2 : g1.1 o 7 = g.1 o 7 + 1) (s3 : fC [(o, 6), (o, 7)] [] [o + 10] g g1) (hf : fC [(10, 1), (o, 3), (o, 4), (o, 5)] [11] [] g1 g') (hb : SB b' P g' o) : DS q b' P g g' o := by
  have h10 := (o_ne ho).1
  refine ⟨⟨hb, ?_, ?_, fun j hj => ?_⟩, ?_, ?_⟩
  · rw [hf.i o 2 (by simp [h10])]; exact s1.2.1
  · rw [hf.i o 6 (by simp [h10])]; exact s1.2.2.1
  · rw [hf.2.2.1 _ (by simp)]; exact s1.2.2.2 j hj
  · rw [hf.i o 7 (by simp [h10])]; exact s2
  · refine (s3.mono ?_ ?_ ?_).trans (hf.mono ?_ ?_ ?_)
    · intro k hk
      simp only [List.mem_cons, List.not_mem_nil, or_false] at hk ⊢
      rcases hk with h | h <;> simp [h]
    · intro k hk; exact absurd hk (by simp)
    · exact fun k hk => hk
    · intro k hk
      simp only [List.mem_cons, List.not_mem_nil, or_false] at hk ⊢
      rcases hk with h | h | h | h <;> simp [h]
    · exact fun k hk => hk
    · intro k hk; exact absurd hk (by simp)
theorem remB {g1 : CS} (s1 : SQ (keepA q) P g1 o) : SB (qB q) P g1 o := by have := s1.1; rw [keepA_B] at this; exact this
theorem cHas_n (hw : wfB b) (hS : SB b P g o) {m : Nat} (hm : ¬ m < bN b) (h31 : m < 2 ^ 31) : fX6_has P g o (nI m) = some (0, g) := cHas_no hw hS (fun ⟨m', h, e⟩ => by
  have := (nI_eq h31 (by have := hw.2.1; omega)).mp e
  omega)
theorem cHas_neg {x : Int32} (hx : x < 0) : fX6_has P g o x = some (0, g) := by unfold fX6_has; rw [if_pos hx]
theorem cTurn_eq (ho : okS o) (hq : wfQ q) (hS : SQ q P g o) {m k : Nat} (hm : m < 2 ^ 31) (hk : k < 2 ^ 31) : Ev (fX6_turnBy P g o (nI m) (nI k)) (DR q (trN (qB q) m k) P g o) := by
  have hw := hq.1
  have hn := hw.2.1
  have hn2 := hw.1
  have h10 := (o_ne ho).1
  unfold fX6_turnBy trN
  by_cases hmn : m < bN (qB q)
  · rw [cHas_eq hw hS.1 hmn, bndc_s, if_neg (by decide)]
    by_cases h1 : 1 ≤ k
    · rw [if_neg (show ¬ nI k < (1 : Int32) from nI_nlt (b := 1) h1 hk), hS.1.1, iLT hk (by omega)]
      by_cases h2 : k < bN (qB q)
      · rw [if_pos h2, if_pos ⟨hmn, h1, h2⟩, cStuck_eq hw hS.1 (by omega), bndc_s]
        cases hs : stk (qB q) m with
        | true =>
          rw [if_neg (by decide), if_pos rfl]
          exact ev_some.mpr (DR.no rfl (by simp))
        | false =>
          rw [if_pos (by decide), if_neg (by decide)]
          refine Ev.v (remember_eq hq hS) ?_
          rintro g1 ⟨s1, s2, s3⟩
          have hB1 := remB s1
          refine Ev.c (turningWith_eq ho hw hB1 hmn) ?_
          rintro r g2 ⟨q1, q2⟩
          dsimp only at q1
          subst q1
          have hB2 := hB1.keep q2 (no10 ho)
          have hlt := bs_lt (alA (qB q) m) (bN (qB q))
          have hp : (2 : Nat) ^ bN (qB q) ≤ 2 ^ 6 := Nat.pow_le_pow_right (by omega) hn
          have e : k * l6 (fun j => ((bs (alA (qB q) m) (bN (qB q))).testBit j).toNat) = l6 (fun j => if j < bN (qB q) ∧ alA (qB q) m j = true then k else 0) := by
            rw [l6_mul]
            refine lnb_cong (fun j hj => ?_)
            rw [bs_tb]
            by_cases hj1 : j < bN (qB q)
            · cases alA (qB q) m j <;> simp [hj1]
            · simp [hj1]
          rw [ofBits_l6 (by omega), bndv_s, hB1.2.1, hB2.1, pk_mul, e, plus_l6 hn2 hn (fun j hj => by have := (hw.2.2.1 j hj).1; omega) (fun j hj => by split <;> omega) (fun j hj h => ⟨(hw.2.2.1 j hj).2 h, if_neg (by omega)⟩), bndv_s, bnd_e]
          refine ev_some.mpr ⟨rfl, fun z => absurd rfl z, fun _ => DS.of ho s1 s2 s3 ((q2.mono ?_ (fun k hk => hk) (fun k hk => hk)).tI (by simp)) (sbA hB2 rfl)⟩
          intro k hk
          simp only [List.mem_cons, List.not_mem_nil, or_false] at hk ⊢
          exact Or.inl hk
      · rw [if_neg h2, if_neg (fun z => h2 z.2.2)]
        exact ev_some.mpr (DR.no rfl (by simp))
    · rw [if_pos (show nI k < (1 : Int32) from nI_lt (b := 1) (by omega) (by omega)), if_neg (fun z => h1 z.2.1)]
      exact ev_some.mpr (DR.no rfl (by simp))
  · rw [cHas_n hw hS.1 hmn hm, bndc_s, if_pos rfl, if_neg (fun z => hmn z.1)]
    exact ev_some.mpr (DR.no rfl (by simp))
theorem cTurn_n1 {x y : Int32} (hx : x < 0) : fX6_turnBy P g o x y = some (1, g) := by
  unfold fX6_turnBy
  rw [cHas_neg hx, bndc_s, if_pos rfl]
theorem has_any (x : Int32) : fX6_has P g o x = some (0, g) ∨ fX6_has P g o x = some (1, g) := by
  unfold fX6_has
  repeat' split
  · exact Or.inl rfl
  · exact Or.inl rfl
  · exact Or.inr rfl
theorem cTurn_n2 {x y : Int32} (hy : y < 0) : fX6_turnBy P g o x y = some (1, g) := by
  have h1 : y < (1 : Int32) := by rw [fa_lt]; have := neg_of hy; have e : (1 : Int32).toInt = 1 := rfl; omega
  unfold fX6_turnBy
  rcases has_any (P := P) (g := g) (o := o) x with h | h
  · rw [h, bndc_s, if_pos rfl]
  · rw [h, bndc_s, if_neg (by decide), if_pos h1]
theorem cWeigh_eq (ho : okS o) (hq : wfQ q) (hS : SQ q P g o) {m k : Nat} (hm : m < 2 ^ 31) (hk : k < 2 ^ 31) : Ev (fX6_giveWeight P g o (nI m) (nI k)) (DR q (weN (qB q) m k) P g o) := by
  have hw := hq.1
  have hn := hw.2.1
  have h10 := (o_ne ho).1
  unfold fX6_giveWeight weN
  by_cases hmn : m < bN (qB q)
  · rw [cHas_eq hw hS.1 hmn, bndc_s, if_neg (by decide)]
    by_cases h1 : 1 ≤ k
    · rw [if_neg (show ¬ nI k < (1 : Int32) from nI_nlt (b := 1) h1 hk), l_9, iLE hk (by omega)]
      by_cases h2 : k ≤ 9
      · rw [if_pos h2, if_pos ⟨hmn, h1, h2⟩]
        refine Ev.v (remember_eq hq hS) ?_
        rintro g1 ⟨s1, s2, s3⟩
        have hB1 := remB s1
        rw [hB1.2.2.1, with_l6 (w16 hw) (by omega) (by omega), bndv_s, bnd_e]
        exact ev_some.mpr ⟨rfl, fun z => absurd rfl z, fun _ => DS.of ho s1 s2 s3 ((fC.refl g1).tI (by simp)) (sbW hB1 rfl)⟩
      · rw [if_neg h2, if_neg (fun z => h2 z.2.2)]
        exact ev_some.mpr (DR.no rfl (by simp))
    · rw [if_pos (show nI k < (1 : Int32) from nI_lt (b := 1) (by omega) (by omega)), if_neg (fun z => h1 z.2.1)]
      exact ev_some.mpr (DR.no rfl (by simp))
  · rw [cHas_n hw hS.1 hmn hm, bndc_s, if_pos rfl, if_neg (fun z => hmn z.1)]
    exact ev_some.mpr (DR.no rfl (by simp))
theorem cWeigh_n1 {x y : Int32} (hx : x < 0) : fX6_giveWeight P g o x y = some (1, g) := by
  unfold fX6_giveWeight
  rw [cHas_neg hx, bndc_s, if_pos rfl]
theorem cWeigh_n2 {x y : Int32} (hy : y < 0) : fX6_giveWeight P g o x y = some (1, g) := by
  have h1 : y < (1 : Int32) := by rw [fa_lt]; have := neg_of hy; have e : (1 : Int32).toInt = 1 := rfl; omega
  unfold fX6_giveWeight
  rcases has_any (P := P) (g := g) (o := o) x with h | h
  · rw [h, bndc_s, if_pos rfl]
  · rw [h, bndc_s, if_neg (by decide), if_pos h1]
theorem cStick_eq (ho : okS o) (hq : wfQ q) (hS : SQ q P g o) {m : Nat} (hm : m < 2 ^ 31) : Ev (fX6_toggleStuck P g o (nI m)) (DR q (stN (qB q) m) P g o) := by
  have hw := hq.1
  have hn := hw.2.1
  have h10 := (o_ne ho).1
  unfold fX6_toggleStuck stN
  by_cases hmn : m < bN (qB q)
  · rw [cHas_eq hw hS.1 hmn, bndc_s, if_neg (by decide), if_pos hmn]
    refine Ev.v (remember_eq hq hS) ?_
    rintro g1 ⟨s1, s2, s3⟩
    have hB1 := remB s1
    rw [bnd_e, hB1.2.2.2.1, shl1 (by omega), fb_xorI]
    exact ev_some.mpr ⟨rfl, fun z => absurd rfl z, fun _ => DS.of ho s1 s2 s3 ((fC.refl g1).tI (by simp)) (sbS hB1 rfl)⟩
  · rw [cHas_n hw hS.1 hmn hm, bndc_s, if_pos rfl, if_neg hmn]
    exact ev_some.mpr (DR.no rfl (by simp))
theorem cStick_n1 {x : Int32} (hx : x < 0) : fX6_toggleStuck P g o x = some (1, g) := by
  unfold fX6_toggleStuck
  rw [cHas_neg hx, bndc_s, if_pos rfl]
theorem bndc_id {α β : Type} (x : Option (α × β)) : bndc x (fun r s => some (r, s)) = x := by
  cases x with
  | none => rfl
  | some z => rfl
theorem cEnact_eq (ho : okS o) (hq : wfQ q) (hS : SQ q P g o) (v : Int64) : Ev (fX6_enact P g o v) (DR q (toldA (qB q) v) P g o) := by
  have hw := hq.1
  have hn := hw.2.1
  have h10 := (o_ne ho).1
  have em : (-1 : Int64).toInt = -1 := rfl
  have e299 : (299 : Int64).toInt = 299 := rfl
  unfold fX6_enact toldA
  simp only [lg_cmp_lt, lg_cmp_le, fa_lt64, fa_le64, em, e299, bndc_id]
  by_cases h1 : v.toInt < -1
  · rw [if_pos h1, if_neg (by omega), if_pos (by omega)]
    exact ev_some.mpr (DR.no rfl (by simp))
  · rw [if_neg h1]
    by_cases h2 : v.toInt ≤ 299
    · rw [if_pos h2, bnd_e]
      by_cases h3 : v.toInt = -1
      · have e : v = -1 := Int64.toInt_inj.mp h3
        subst e
        rw [if_pos (by decide), if_pos h3]
        refine Ev.v (remember_eq hq hS) ?_
        rintro g1 ⟨s1, s2, s3⟩
        have hB1 := remB s1
        refine Ev.v (passMinute_eq ho hw hB1) ?_
        rintro g2 ⟨q1, q2⟩
        refine ev_some.mpr ⟨rfl, fun z => absurd rfl z, fun _ => DS.of ho s1 s2 s3 (q2.mono ?_ (fun k hk => hk) (fun k hk => hk)) q1⟩
        intro k hk
        simp only [List.mem_cons, List.not_mem_nil, or_false] at hk ⊢
        rcases hk with h | h <;> simp [h]
      · rw [if_neg h3, if_neg (show ¬ v.toInt < 0 by omega), if_neg (show ¬ 299 < v.toInt by omega)]
        obtain ⟨n, hn3, hv⟩ : ∃ n : Nat, n < 300 ∧ v = lN n := ⟨v.toInt.toNat, by omega, Int64.toInt_inj.mp (by rw [lN_I (by omega)]; omega)⟩
        subst hv
        rw [lN_I (by omega), Int.toNat_natCast, lN_i, if_neg (nI_nm1 (by omega))]
        unfold toldN
        by_cases h5 : n < 100
        · rw [if_pos h5, if_neg (show ¬ (100 : Int32) ≤ nI n from nI_ge (b := 100) h5 (by omega)), l_10, jr_n (by omega) (by omega) (by omega), pk_div (by omega) (by omega) (by omega)]
          exact Ev.k (by decide) (Ev.k (by decide) (cTurn_eq ho hq hS (by omega) (by omega)))
        · rw [if_neg h5, if_pos (show (100 : Int32) ≤ nI n from nI_le (a := 100) (by omega) (by omega))]
          by_cases h6 : n < 200
          · rw [if_pos h6, if_neg (show ¬ (200 : Int32) ≤ nI n from nI_ge (b := 200) h6 (by omega)), l_10, l_100, pk_sub (by omega), jr_n (by omega) (by omega) (by omega), pk_div (by omega) (by omega) (by omega)]
            exact Ev.k (by decide) (Ev.k (by decide) (cWeigh_eq ho hq hS (by omega) (by omega)))
          · rw [if_neg h6, if_pos hn3, if_pos (show (200 : Int32) ≤ nI n from nI_le (a := 200) (by omega) (by omega)), l_200, pk_sub (by omega)]
            exact cStick_eq ho hq hS (by omega)
    · rw [if_neg h2, if_neg (by omega), if_neg (by omega), if_pos (by omega)]
      exact ev_some.mpr (DR.no rfl (by simp))
/-! ===== taking back ===== -/
def unA (q : AQ) (i : Nat) : AQ := if i = 0 then q else (setP (qB q) (qP q (qD q - i)), qL q, qD q - i, qP q)
theorem wfQ_un {i : Nat} (h : wfQ q) (hi : i ≤ qD q) : wfQ (unA q i) := by
  unfold unA
  split
  · exact h
  · exact ⟨wfB_setP h.1 (h.2.2.2 _ (by omega)), h.2.1, by show qD q - i ≤ 10; have := h.2.2.1; omega, fun j hj => h.2.2.2 j (by have : j < qD q - i := hj; omega)⟩
theorem unpack_a {s w a : Nat} (ha : a < 16777216) : ((lN (s * 281474976710656 + w * 16777216 + a)).toInt32 &&& (16777215 : Int32)) = nI a := by
  rw [lN_i, show (16777215 : Int32) = nI (2 ^ 24 - 1) from rfl, fa_mask]
  congr 1
  omega
theorem unpack_w {s w a : Nat} (hs : s < 64) (hw : w < 16777216) (ha : a < 16777216) : ((jushL (lN (s * 281474976710656 + w * 16777216 + a)) (24 : Int32)).toInt32 &&& (16777215 : Int32)) = nI w := by
  rw [show (24 : Int32) = nI 24 from rfl, ushL_n (by omega) (by omega), lN_i, show (16777215 : Int32) = nI (2 ^ 24 - 1) from rfl, fa_mask]
  congr 1
  omega
theorem unpack_s {s w a : Nat} (hs : s < 64) (hw : w < 16777216) (ha : a < 16777216) : (jushL (lN (s * 281474976710656 + w * 16777216 + a)) (48 : Int32)).toInt32 = nI s := by
  rw [show (48 : Int32) = nI 48 from rfl, ushL_n (by omega) (by omega), lN_i]
  congr 1
  omega
theorem cBack_eq (ho : okS o) (hq : wfQ q) (hS : SQ q P g o) (hD : 1 ≤ qD q) : Ev (fX6_takeBack P g o) (fun g' => SQ (unA q 1) P g' o ∧ g'.1 o 7 = g.1 o 7 + 1 ∧ fC (dC o) [11] [o + 10] g g') := by
  have hw := hq.1
  have hn := hw.2.1
  have h10 := (o_ne ho).1
  have hD10 := hq.2.2.1
  obtain ⟨d, hd⟩ : ∃ d, qD q = d + 1 := ⟨qD q - 1, by omega⟩
  have hp := hq.2.2.2 d (by omega)
  have hs : (qP q d).2.2 < 64 := Nat.lt_of_lt_of_le hp.2.2 (by have : 2 ^ bN (qB q) ≤ 2 ^ 6 := Nat.pow_le_pow_right (by omega) hn; omega)
  have hwl : l6 (qP q d).2.1 < 16777216 := l6_lt (fun j hj => by have := (hp.2.1 j hj).1; omega)
  have hal : l6 (qP q d).1 < 16777216 := l6_lt (fun j hj => by have := (hp.1 j hj).1; omega)
  unfold fX6_takeBack
  rw [hS.2.2.1, hd, if_pos (show (1 : Int32) ≤ nI (d + 1) from nI_le (a := 1) (by omega) (by omega)), nI_pred, bnd_e, tI_s]
  refine Ev.k (ib_n (by omega) (by omega)) ?_
  rw [ix_n (by omega), bnd_e]
  have e : (tI g o 6 (nI d)).2.2.1 (o + 10) d = lN (pkP (qP q d)) := hS.2.2.2 d (by omega)
  rw [e]
  unfold pkP
  rw [unpack_a hal, unpack_w hs hwl hal, unpack_s hs hwl hal, bnd_e, bnd_e, bnd_e, bnd_e]
  have eu : unA q 1 = (setP (qB q) (qP q d), qL q, d, qP q) := by unfold unA; rw [if_neg (by omega), hd]; rfl
  rw [eu]
  refine ev_some.mpr ⟨⟨⟨?_, ?_, ?_, ?_, hS.1.2.2.2.2⟩, ?_, ?_, fun j hj => hS.2.2.2 j (by have : j < d := hj; omega)⟩, ?_, ?_⟩
  · rw [tI_n (by omega), tI_n (by omega), tI_n (by omega), tI_n (by omega), tI_n (by omega)]; exact hS.1.1
  · rw [tI_n (by omega), tI_n (by omega), tI_n (by omega), tI_s]; rfl
  · rw [tI_n (by omega), tI_n (by omega), tI_s]; rfl
  · rw [tI_n (by omega), tI_s]; rfl
  · rw [tI_n (by omega), tI_n (by omega), tI_n (by omega), tI_n (by omega), tI_n (by omega)]; exact hS.2.1
  · rw [tI_n (by omega), tI_n (by omega), tI_n (by omega), tI_n (by omega), tI_s]
  · rw [tI_s, tI_n (by omega), tI_n (by omega), tI_n (by omega), tI_n (by omega)]
  · exact (((((fC.refl g).tI (by simp)).tI (by simp)).tI (by simp)).tI (by simp)).tI (by simp)
theorem unA_un {i : Nat} (hi : i + 1 ≤ qD q) : unA (unA q i) 1 = unA q (i + 1) := by
  unfold unA
  by_cases h : i = 0
  · subst h; rfl
  · rw [if_neg h, if_neg (by omega), if_neg (by omega)]
    show (setP (setP (qB q) _) (qP q (qD q - i - 1)), qL q, qD q - i - 1, qP q) = _
    rw [show qD q - i - 1 = qD q - (i + 1) by omega]
    rfl
end
