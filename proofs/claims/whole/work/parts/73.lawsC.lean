/-! ===== the class's cells ===== -/
theorem tI_1 (g : CS) (o k p j : Nat) (v : Int32) : (tI g o k v).1 p j = if p = o then (if j = k then v else g.1 o j) else g.1 p j := by
  show (if p = o then upd (g.1 o) k v else g.1 p) j = _
  split <;> rfl
theorem tI_s {g : CS} {o k : Nat} {v : Int32} : (tI g o k v).1 o k = v := by rw [tI_1, if_pos rfl, if_pos rfl]
theorem tI_n {g : CS} {o k j : Nat} {v : Int32} (h : j ≠ k) : (tI g o k v).1 o j = g.1 o j := by rw [tI_1, if_pos rfl, if_neg h]
theorem tI_o {g : CS} {o k p j : Nat} {v : Int32} (h : p ≠ o) : (tI g o k v).1 p j = g.1 p j := by rw [tI_1, if_neg h]
theorem tI_2 (g : CS) (o k : Nat) (v : Int32) : (tI g o k v).2 = g.2 := rfl
theorem tA_1 (g : CS) (a i : Nat) (v : Int32) : (tA g a i v).1 = g.1 := rfl
theorem tA_2 (g : CS) (a i b : Nat) (v : Int32) : (tA g a i v).2.1 b = if b = a then upd (g.2.1 a) i v else g.2.1 b := rfl
theorem tA_3 (g : CS) (a i : Nat) (v : Int32) : (tA g a i v).2.2 = g.2.2 := rfl
/-- only the ints oi, the rows la and the long rows ll have changed -/
def fC (oi : List (Nat × Nat)) (la ll : List Nat) (g g' : CS) : Prop := (∀ o k, (o, k) ∉ oi → g'.1 o k = g.1 o k) ∧ (∀ a, a ∉ la → g'.2.1 a = g.2.1 a) ∧ (∀ a, a ∉ ll → g'.2.2.1 a = g.2.2.1 a) ∧ g'.2.2.2 = g.2.2.2
theorem fC.refl {oi : List (Nat × Nat)} {la ll : List Nat} (g : CS) : fC oi la ll g g := ⟨fun _ _ _ => rfl, fun _ _ => rfl, fun _ _ => rfl, rfl⟩
theorem fC.trans {oi : List (Nat × Nat)} {la ll : List Nat} {g g' g'' : CS} (h : fC oi la ll g g') (h2 : fC oi la ll g' g'') : fC oi la ll g g'' := ⟨fun o k hk => (h2.1 o k hk).trans (h.1 o k hk), fun a ha => (h2.2.1 a ha).trans (h.2.1 a ha), fun a ha => (h2.2.2.1 a ha).trans (h.2.2.1 a ha), h2.2.2.2.trans h.2.2.2⟩
theorem fC.mono {oi oi2 : List (Nat × Nat)} {la la2 ll ll2 : List Nat} {g g' : CS} (h : fC oi la ll g g') (h1 : ∀ k ∈ oi, k ∈ oi2) (h2 : ∀ k ∈ la, k ∈ la2) (h3 : ∀ k ∈ ll, k ∈ ll2) : fC oi2 la2 ll2 g g' := ⟨fun o k hk => h.1 o k (fun z => hk (h1 _ z)), fun a ha => h.2.1 a (fun z => ha (h2 a z)), fun a ha => h.2.2.1 a (fun z => ha (h3 a z)), h.2.2.2⟩
theorem fC.tI {oi : List (Nat × Nat)} {la ll : List Nat} {g g' : CS} {o k : Nat} {v : Int32} (h : fC oi la ll g g') (ho : (o, k) ∈ oi) : fC oi la ll g (tI g' o k v) := ⟨fun p j hj => by
    rw [tI_1]
    by_cases e : p = o
    · by_cases e2 : j = k
      · exact absurd (by rw [e, e2]; exact ho) hj
      · rw [if_pos e, if_neg e2, ← e]; exact h.1 p j hj
    · rw [if_neg e]; exact h.1 p j hj, h.2.1, h.2.2.1, h.2.2.2⟩
theorem fC.tA {oi : List (Nat × Nat)} {la ll : List Nat} {g g' : CS} {a i : Nat} {v : Int32} (h : fC oi la ll g g') (ha : a ∈ la) : fC oi la ll g (tA g' a i v) := ⟨h.1, fun b hb => by rw [tA_2, if_neg (fun e : b = a => hb (by rw [e]; exact ha))]; exact h.2.1 b hb, h.2.2.1, h.2.2.2⟩
/-! ===== the class reckons a law ===== -/
def encC (op : Nat) : Int32 := if op = 10 then -5 else if op = 11 then -6 else if op = 12 then -7 else if op = 13 then -8 else if op = 14 then -9 else if op = 15 then -10 else if op = 16 then -12 else if op = 17 then -13 else if op = 18 then -11 else if op = 100 then -1 else if op = 101 then -2 else if op = 102 then -3 else if op = 103 then -4 else nI (op - 1000)
theorem bounded_eq (z : Int64) : fX4_bounded z = some ((jmaxL (-1000000 : Int64) (jminL (1000000 : Int64) z)).toInt32) := by
  have e1 : (-1000000 : Int64).toInt = -1000000 := rfl
  have e2 : (1000000 : Int64).toInt = 1000000 := rfl
  unfold fX4_bounded jmaxL jminL
  simp only [lg_cmp_le, lg_cmp_ge, fa_le64, fa_lt64, e1, e2]
  by_cases h1 : z.toInt ≤ 1000000
  · rw [if_pos h1]
    have h3 : (if z.toInt < 1000000 then z else (1000000 : Int64)) = z := by
      split
      · rfl
      · exact Int64.toInt_inj.mp (by rw [e2]; omega)
    rw [h3]
    by_cases h2 : -1000000 ≤ z.toInt
    · rw [if_pos h2, if_neg (by omega)]
    · rw [if_neg h2, if_pos (by omega)]
      rfl
  · rw [if_neg h1, if_neg (show ¬ z.toInt < 1000000 by omega), if_neg (by rw [e2]; omega)]
    rfl
theorem join_num {op : Nat} {x y : Int32} (h : 10 ≤ op) (h2 : op ≤ 15) (hx : kv false x) (hy : kv false y) : bndv (fX4_join (encC op) x y) (fun z => fX4_bounded z) = some (opd op x y) := by
  have hx1 : -1000000 ≤ x.toInt := hx.1
  have hx2 : x.toInt ≤ 1000000 := hx.2
  have hy1 : -1000000 ≤ y.toInt := hy.1
  have hy2 : y.toInt ≤ 1000000 := hy.2
  rcases (show op = 10 ∨ op = 11 ∨ op = 12 ∨ op = 13 ∨ op = 14 ∨ op = 15 by omega) with q | q | q | q | q | q <;> subst q
  · show fX4_bounded ((x + y).toInt64) = some (opd 10 x y)
    rw [bounded_eq, show (x + y).toInt64 = x.toInt64 + y.toInt64 from Int64.toInt_inj.mp (by rw [Int32.toInt_toInt64, fb_addI (by omega) (by omega), fb_addL (by rw [Int32.toInt_toInt64, Int32.toInt_toInt64]; omega) (by rw [Int32.toInt_toInt64, Int32.toInt_toInt64]; omega), Int32.toInt_toInt64, Int32.toInt_toInt64])]
    rfl
  · show fX4_bounded ((x - y).toInt64) = some (opd 11 x y)
    rw [bounded_eq, show (x - y).toInt64 = x.toInt64 - y.toInt64 from Int64.toInt_inj.mp (by rw [Int32.toInt_toInt64, fb_subI (by omega) (by omega), fb_subL (by rw [Int32.toInt_toInt64, Int32.toInt_toInt64]; omega) (by rw [Int32.toInt_toInt64, Int32.toInt_toInt64]; omega), Int32.toInt_toInt64, Int32.toInt_toInt64])]
    rfl
  · show fX4_bounded (x.toInt64 * y.toInt64) = some (opd 12 x y)
    rw [bounded_eq]
    rfl
  · show bndv (if x = y then some (1 : Int64) else some (0 : Int64)) (fun z => fX4_bounded z) = some (opd 13 x y)
    rw [← opd_eq]
    show _ = if lg_cmp x.toInt64 y.toInt64 = 0 then some (1 : Int32) else some (0 : Int32)
    simp only [lg_cmp_eq, fa_wide_eq]
    split <;> rfl
  · show bndv (if y ≤ x then some (0 : Int64) else some (1 : Int64)) (fun z => fX4_bounded z) = some (opd 14 x y)
    rw [← opd_eq]
    show _ = if 0 ≤ lg_cmp x.toInt64 y.toInt64 then some (0 : Int32) else some (1 : Int32)
    simp only [lg_cmp_ge, fa_wide_le]
    split <;> rfl
  · show bndv (if x ≤ y then some (0 : Int64) else some (1 : Int64)) (fun z => fX4_bounded z) = some (opd 15 x y)
    rw [← opd_eq]
    show _ = if lg_cmp x.toInt64 y.toInt64 ≤ 0 then some (0 : Int32) else some (1 : Int32)
    simp only [lg_cmp_le, fa_wide_le]
    split <;> rfl
theorem join_tru {op : Nat} {x y : Int32} (h : op = 16 ∨ op = 17) (hx : kv true x) (hy : kv true y) : bndv (fX4_join (encC op) x y) (fun z => fX4_bounded z) = some (opd op x y) := by
  rcases h with q | q <;> subst q <;> rcases hx with hx | hx <;> subst hx <;> rcases hy with hy | hy <;> subst hy <;> decide +kernel
section
variable {P : PL} {g : CS}
theorem pop_eq {d : Nat} (h : g.1 10 1 = nI (d + 1)) (hd : d < 64) : fX4_pop P g = some (g.2.1 11 d, tI g 10 1 (nI d)) := by
  unfold fX4_pop
  have e : (tI g 10 1 (g.1 10 1 - (1 : Int32))).1 10 1 = nI d := by rw [tI_1, if_pos rfl, if_pos rfl, h]; exact nI_pred d
  rw [if_pos (by rw [h]; exact nI_le (a := 1) (by omega) (by omega)), bnd_e, e, chk_tt (ib_n hd (by omega)), ix_n (by omega)]
  rw [h, nI_pred]
  rfl
theorem push_eq {d : Nat} {v : Int32} (h : g.1 10 1 = nI d) (hd : d < 64) : fX4_push P g v = some (tI (tA g 11 d v) 10 1 (nI (d + 1))) := by
  unfold fX4_push
  rw [if_neg (by rw [h]; exact nI_ge (b := 64) hd (by omega)), h, chk_tt (ib_n hd (by omega)), bnd_e, bnd_e, ix_n (by omega), tA_1, h, nI_1]
end
set_option maxHeartbeats 4000000 in
theorem reckon_lp (P : PL) (e : Nat → Int32) (y1 : Nat) (hy : y1 < P.1) (he : ∀ i, i < 4 → kv false (e i)) (b : Bool) : ∀ (l : Lw) (K : List Bool) (d : Nat) (st : Nat → Int32) (k f : Nat) (g : CS),
    tyS l K = some [b] → K.length ≤ 64 → okK K d st → g.1 10 1 = nI d → (∀ j, j < d → g.2.1 11 j = st j) → (P.2.2 y1).1 = k + l.length →
    (∀ i, i < l.length → (P.2.2 y1).2 (k + i) = encC (l.getD i 0)) → k + l.length ≤ 2000 → l.length < f →
    Ev (fX4_reckon_8 P f g y1 (e 0) (e 1) (e 2) (e 3) (nI k)) (fun q => q.1 = (rnL e l (d, st)).2 0 ∧ kv b q.1 ∧ fC [(10, 1)] [11] [] g q.2) := by
  intro l
  induction l with
  | nil =>
    intro K d st k f g hty hK hok htop hst hlen hrow hat hf
    obtain ⟨f, rfl⟩ : ∃ f', f = f' + 1 := ⟨f - 1, by omega⟩
    cases Option.some.inj hty
    obtain ⟨h1, h2, h3⟩ := hok
    have hd : d = 1 := by have : d - 1 = 0 := h3; omega
    subst hd
    simp only [List.length_nil, Nat.add_zero] at hlen hat
    rw [fX4_reckon_8]
    refine Ev.k (decide_eq_true hy) ?_
    rw [hlen, if_pos (nI_le (Nat.le_refl k) (by omega)), pop_eq (d := 0) htop (by omega), bndc_s]
    refine ev_some.mpr ⟨?_, ?_, (fC.refl g).tI (by decide)⟩
    · exact hst 0 (by omega)
    · show kv b (g.2.1 11 0)
      rw [hst 0 (by omega)]
      exact h2
  | cons op l ih =>
    intro K d st k f g hty hK hok htop hst hlen hrow hat hf
    simp only [List.length_cons] at hlen hat hf hrow
    obtain ⟨f, rfl⟩ : ∃ f', f = f' + 1 := ⟨f - 1, by omega⟩
    obtain ⟨K', h1, h2⟩ := tyS_cons hty
    obtain ⟨ok', hK'⟩ := stp_ok he h1 hok hK
    have hd := okK_len hok
    have hop : (P.2.2 y1).2 k = encC op := by have := hrow 0 (by omega); simpa using this
    have hrow' : ∀ i, i < l.length → (P.2.2 y1).2 (k + 1 + i) = encC (l.getD i 0) := fun i hi => by
      have := hrow (i + 1) (by omega)
      rw [show k + 1 + i = k + (i + 1) by omega, this]
      rfl
    have go : ∀ (g1 : CS) (d1 : Nat) (s1 : Nat → Int32), (d1, s1) = stp e (d, st) op → g1.1 10 1 = nI d1 → (∀ j, j < d1 → g1.2.1 11 j = s1 j) → fC [(10, 1)] [11] [] g g1 →
        Ev (fX4_reckon_8 P f g1 y1 (e 0) (e 1) (e 2) (e 3) (nI (k + 1))) (fun q => q.1 = (rnL e (op :: l) (d, st)).2 0 ∧ kv b q.1 ∧ fC [(10, 1)] [11] [] g q.2) := by
      intro g1 d1 s1 h3 h4 h5 h6
      have ok1 : okK K' d1 s1 := by rw [← h3] at ok'; exact ok'
      refine (ih K' d1 s1 (k + 1) f g1 h2 hK' ok1 h4 h5 (by omega) hrow' (by omega) (by omega)).mono ?_
      rintro ⟨r, g2⟩ ⟨q1, q2, q3⟩
      refine ⟨?_, q2, h6.trans q3⟩
      rw [q1, h3]
      rfl
    -- a number laid
    have psh : ∀ v : Int32, K.length < 64 → (stp e (d, st) op) = (d + 1, upd st d v) → Ev (bndv (fX4_push P g v) (fun g9 => bnd (nI k + (1 : Int32)) (fun x10 => fX4_reckon_8 P f g9 y1 (e 0) (e 1) (e 2) (e 3) x10))) (fun q => q.1 = (rnL e (op :: l) (d, st)).2 0 ∧ kv b q.1 ∧ fC [(10, 1)] [11] [] g q.2) := by
      intro v hl hv
      rw [push_eq htop (by omega), bndv_s, nI_1, bnd_e]
      refine go _ (d + 1) (upd st d v) hv.symm (by rw [tI_1, if_pos rfl, if_pos rfl]) (fun j hj => ?_) (((fC.refl g).tA (by decide)).tI (by decide))
      show upd (g.2.1 11) d v j = upd st d v j
      rw [upd_j, upd_j]
      by_cases hjd : j = d
      · rw [if_pos hjd, if_pos hjd]
      · rw [if_neg hjd, if_neg hjd, hst j (by omega)]
    -- two joined
    have two : ∀ (b1 b2 : Bool) (T : List Bool), K = b1 :: b2 :: T → 10 ≤ op → op ≤ 17 → op ≠ 18 → bndv (fX4_join (encC op) (st (d - 2)) (st (d - 1))) (fun z => fX4_bounded z) = some (opd op (st (d - 2)) (st (d - 1))) →
        Ev (bndc (fX4_pop P g) (fun x1 g2 => bndc (fX4_pop P g2) (fun x3 g4 => bndv (fX4_join (encC op) x3 x1) (fun x5 => bndv (fX4_bounded x5) (fun x6 => bndv (fX4_push P g4 x6) (fun g7 => bnd (nI k + (1 : Int32)) (fun x8 => fX4_reckon_8 P f g7 y1 (e 0) (e 1) (e 2) (e 3) x8))))))) (fun q => q.1 = (rnL e (op :: l) (d, st)).2 0 ∧ kv b q.1 ∧ fC [(10, 1)] [11] [] g q.2) := by
      intro b1 b2 T hKT hl hh h18 hj
      rw [hKT] at hK hd
      simp only [List.length_cons] at hK hd
      obtain ⟨dd, rfl⟩ : ∃ dd, d = dd + 2 := ⟨T.length, by omega⟩
      rw [pop_eq (d := dd + 1) htop (by omega), bndc_s, pop_eq (d := dd) (by rw [tI_1, if_pos rfl, if_pos rfl]) (by omega), bndc_s]
      have e1 : g.2.1 11 (dd + 1) = st (dd + 2 - 1) := hst _ (by omega)
      have e2 : (tI g 10 1 (nI (dd + 1))).2.1 11 dd = st (dd + 2 - 2) := hst _ (by omega)
      rw [e1, e2]
      cases hz : fX4_join (encC op) (st (dd + 2 - 2)) (st (dd + 2 - 1)) with
      | none => rw [hz] at hj; cases hj
      | some z =>
        rw [hz, bndv_s] at hj
        rw [bndv_s, hj, bndv_s, push_eq (d := dd) (by rw [tI_1, if_pos rfl, if_pos rfl]) (by omega), bndv_s, nI_1, bnd_e]
        refine go _ (dd + 1) (upd st dd (opd op (st dd) (st (dd + 1)))) (by unfold stp; rw [if_pos (by omega), if_neg h18]; rfl) (by rw [tI_1, if_pos rfl, if_pos rfl]) (fun j hj => ?_) (((((fC.refl g).tI (by decide)).tI (by decide)).tA (by decide)).tI (by decide))
        show upd (g.2.1 11) dd (opd op (st dd) (st (dd + 1))) j = upd st dd (opd op (st dd) (st (dd + 1))) j
        rw [upd_j, upd_j]
        by_cases hjd : j = dd
        · rw [if_pos hjd, if_pos hjd]
        · rw [if_neg hjd, if_neg hjd, hst j (by omega)]
    rw [fX4_reckon_8]
    refine Ev.k (decide_eq_true hy) ?_
    rw [hlen, if_neg (nI_ge (by omega) (by omega))]
    refine Ev.k (decide_eq_true hy) (Ev.k (ib_n (by omega) (by omega)) ?_)
    rw [bnd_e, ix_n (by omega), hop]
    rcases ty1_inv h1 with ⟨rfl, T, rfl, rfl⟩ | ⟨x1, x2, T, hKT, -⟩ | ⟨x1, x2, T, hKT, -⟩ | ⟨x1, T, hKT, -⟩ | ⟨x1, x2, x3, rfl⟩
    · rw [if_pos (by decide)]
      obtain ⟨a1, a2, a3⟩ := hok
      simp only [List.length_cons] at hK hd
      obtain ⟨dd, rfl⟩ : ∃ dd, d = dd + 1 := ⟨T.length, by omega⟩
      rw [pop_eq (d := dd) htop (by omega), bndc_s, push_eq (d := dd) (by rw [tI_1, if_pos rfl, if_pos rfl]) (by omega), bndv_s, nI_1, bnd_e]
      refine go _ (dd + 1) (upd st dd (1 - st dd)) rfl (by rw [tI_1, if_pos rfl, if_pos rfl]) (fun j hj => ?_) ((((fC.refl g).tI (by decide)).tA (by decide)).tI (by decide))
      show upd (g.2.1 11) dd (1 - g.2.1 11 dd) j = upd st dd (1 - st dd) j
      rw [upd_j, upd_j, hst dd (by omega), hst j hj]
    · have hj := join_num (op := op) (x := st (d - 2)) (y := st (d - 1)) x1 (by omega) (by rw [hKT] at hok; exact hok.2.2.2.1) (by rw [hKT] at hok; exact hok.2.1)
      have t := two _ _ T hKT x1 (by omega) (by omega) hj
      rcases (show op = 10 ∨ op = 11 ∨ op = 12 by omega) with q | q | q <;> subst q <;> exact t
    · have hj := join_num (op := op) (x := st (d - 2)) (y := st (d - 1)) (by omega) (by omega) (by rw [hKT] at hok; exact hok.2.2.2.1) (by rw [hKT] at hok; exact hok.2.1)
      have t := two _ _ T hKT (by omega) (by omega) (by omega) hj
      rcases (show op = 13 ∨ op = 14 ∨ op = 15 by omega) with q | q | q <;> subst q <;> exact t
    · have hj := join_tru (op := op) (x := st (d - 2)) (y := st (d - 1)) x1 (by rw [hKT] at hok; exact hok.2.2.2.1) (by rw [hKT] at hok; exact hok.2.1)
      have t := two _ _ T hKT (by omega) (by omega) (by omega) hj
      rcases x1 with q | q <;> subst q <;> exact t
    · by_cases h10 : op < 1000
      · have t := psh (e (op - 100)) x3 (by unfold stp; rw [if_neg (by omega), if_pos h10])
        rcases (show op = 100 ∨ op = 101 ∨ op = 102 ∨ op = 103 by omega) with q | q | q | q <;> subst q <;> exact t
      · have t := psh (nI (op - 1000)) x3 (by unfold stp; rw [if_neg (by omega), if_neg h10])
        have ee : encC op = nI (op - 1000) := by
          unfold encC
          repeat rw [if_neg (by omega)]
        have hne : ∀ z : Nat, z < 100 → nI (op - 1000) ≠ (Int32.ofInt (-(z + 1 : Nat))) := fun z hz e => by
          have := congrArg Int32.toInt e
          rw [nI_toInt (by omega), fb_ofI (by omega) (by omega)] at this
          omega
        rw [ee, if_neg (show ¬ nI (op - 1000) = (-11 : Int32) from hne 10 (by omega)), if_neg (show ¬ nI (op - 1000) = (-4 : Int32) from hne 3 (by omega)), if_neg (show ¬ nI (op - 1000) = (-3 : Int32) from hne 2 (by omega)), if_neg (show ¬ nI (op - 1000) = (-2 : Int32) from hne 1 (by omega)), if_neg (show ¬ nI (op - 1000) = (-1 : Int32) from hne 0 (by omega))]
        unfold fX4_reckon_127
        rw [if_neg (nI_pos (by omega))]
        exact t
theorem fC.i {oi : List (Nat × Nat)} {la ll : List Nat} {g g' : CS} (h : fC oi la ll g g') (o k : Nat) (hk : (o, k) ∉ oi) : g'.1 o k = g.1 o k := h.1 o k hk
/-- a law in the pool -/
def inP (P : PL) (w : Nat) (l : Lw) : Prop := w < P.1 ∧ (P.2.2 w).1 = l.length ∧ ∀ i, i < l.length → (P.2.2 w).2 i = encC (l.getD i 0)
theorem reckon_eq {P : PL} {e : Nat → Int32} {w : Nat} {l : Lw} {b : Bool} {g : CS} (hw : inP P w l) (he : ∀ i, i < 4 → kv false (e i)) (hty : tyS l [] = some [b]) (hl : l.length ≤ 900) : Ev (fX4_reckon P g w (e 0) (e 1) (e 2) (e 3)) (fun q => q.1 = lwV e l ∧ kv b q.1 ∧ fC [(10, 1)] [11] [] g q.2) := by
  unfold fX4_reckon
  rw [bnd_e]
  refine (reckon_lp P e w hw.1 he b l [] 0 (fun _ => 0) 0 fuel _ hty (by decide) rfl (by rw [tI_1, if_pos rfl, if_pos rfl]; rfl) (fun j hj => absurd hj (Nat.not_lt_zero j)) (by rw [hw.2.1]; omega) (fun i hi => by rw [Nat.zero_add]; exact hw.2.2 i hi) (by omega) (by unfold fuel; omega)).mono ?_
  rintro ⟨r, g2⟩ ⟨q1, q2, q3⟩
  exact ⟨q1, q2, ((fC.refl g).tI (by decide)).trans q3⟩
theorem lawOf_eq {e : Nat → Int32} {many at0 : Nat} {l : Lw} {b : Bool} {g : MS} (hm : many < 2850) (hat : at0 + l.length ≤ 2850) (he : ∀ i, i < 4 → kv false (e i)) (hty : tyS l [] = some [b]) (hen : ∀ i, i < 4 → g.2.1 20 i = e i) (hmany : g.2.1 0 many = nI l.length) (hrow : ∀ i, i < l.length → g.2.1 0 (at0 + i) = nI (l.getD i 0)) : Ev (fX12_lawOf g (nI many) (nI at0)) (fun q => q.1 = lwV e l ∧ kv b q.1 ∧ fM [] [19] g q.2) := by
  unfold fX12_lawOf
  exact lawOf_lp e many at0 hm he b l [] 0 (fun _ => 0) 0 fuel g hty (by decide) rfl (fun j hj => absurd hj (Nat.not_lt_zero j)) hen (by rw [hmany, Nat.zero_add]) (fun i hi => by rw [Nat.add_zero]; exact hrow i hi) (by omega) (by unfold fuel; omega)
