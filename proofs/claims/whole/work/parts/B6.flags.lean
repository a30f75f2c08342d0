/-! ===== a member's line on both sides ===== -/
section
variable {B : Nat → Nat} {N p ln : Nat} {P : PL} {h : CS} {g : MS} {b : AB}
theorem RB.set {i : Nat} {v : Int32} (k : RB B N p g) : RB B N p (sA g 1 i v) := k.row rfl rfl
theorem PJ.mv {p1 : Nat} {g1 : MS} {h1 : CS} (k : PJ B N p b ln P g h) (hp : p ≤ p1 ∧ p1 ≤ N) (R : RB B N p1 g1) (F : fM lxI [] g g1) (K : CK B N p1 h1) (F2 : fC lcI [] [] h h1) : PJ B N p1 b ln P g1 h1 := by
  obtain ⟨⟨hp0, hp1, hl⟩, wf, ⟨a1, a2, a3, a4, a5⟩, ⟨c1, c2, c3, c4, c5, c6⟩, d⟩ := k
  refine ⟨⟨hp.2, by omega, by omega⟩, wf, ⟨R, ?_, ?_, ?_, ?_⟩, ⟨K, ?_, ?_, ?_, ?_, ?_⟩, ?_⟩
  · rw [F.1 16 (by decide)]; exact a2
  · rw [F.row 1 (fun z => nomatch z)]; exact a3
  · rw [F.row 1 (fun z => nomatch z)]; exact a4
  · rw [F.row 1 (fun z => nomatch z)]; exact a5
  · rw [F2.i 4 4 (by decide)]; exact c2
  · rw [F2.i 4 5 (by decide)]; exact c3
  · rw [F2.i 4 6 (by decide)]; exact c4
  · rw [F2.i 4 7 (by decide)]; exact c5
  · rw [F2.i 4 8 (by decide)]; exact c6
  · rw [F2.2.2.2]
    exact ⟨d.1, d.2.1, d.2.2.1, d.2.2.2.1, wfL.of d.2.2.2.2 F2.2.2.2⟩
theorem CK.set {k : Nat} {v : Int32} (hk : k = 6 ∨ k = 7 ∨ k = 8) (c : CK B N p h) : CK B N p (tI h 4 k v) := by
  have F : fC [(4, k)] [] [] h (tI h 4 k v) := (fC.refl h).tI (List.mem_singleton.mpr rfl)
  refine c.keep F ?_ (by decide)
  rcases hk with q | q | q <;> subst q <;> decide
theorem PJ.aim {i v : Nat} (k : PJ B N p b ln P g h) (hi : i < bN b) (hv : v < bN b) : PJ B N p (setA b (fun j => if j = i then v else bA b j)) ln P (sA g 1 (6 + i) (nI v)) (tI h 4 6 (nI (l6 (fun j => if j = i then v else bA b j)))) := by
  obtain ⟨hp, wf, ⟨a1, a2, a3, a4, a5⟩, ⟨c1, c2, c3, c4, c5, c6⟩, d⟩ := k
  have hn := wf.2.1
  have row : ∀ j, (sA g 1 (6 + i) (nI v)).2.1 1 j = if j = 6 + i then nI v else g.2.1 1 j := fun j => by rw [sA_2, if_pos rfl, upd_j]
  refine ⟨hp, ⟨wf.1, wf.2.1, fun m hm => ?_, wf.2.2.2⟩, ⟨a1.set, a2, KB.mA wf a3 (fun m hm => ?_) (fun j hj => ?_), ?_, ?_⟩, ⟨c1.set (by omega), ?_, ?_, tI_s, ?_, ?_⟩, d⟩
  · show (if m = i then v else bA b m) < bN b ∧ (bN b ≤ m → (if m = i then v else bA b m) = 0)
    have := wf.2.2.1 m hm
    by_cases e : m = i
    · rw [if_pos e]; exact ⟨hv, fun z => by omega⟩
    · rw [if_neg e]; exact this
  · rw [row]
    by_cases e : m = i
    · rw [if_pos (by omega), if_pos e]
    · rw [if_neg (by omega), if_neg e]; exact a3.2.2.1 m hm
  · rw [row, if_neg (by omega)]
  · rw [row, if_neg (by omega)]; exact a4
  · rw [row, if_neg (by omega)]; exact a5
  · rw [tI_n (by omega)]; exact c2
  · rw [tI_n (by omega)]; exact c3
  · rw [tI_n (by omega)]; exact c5
  · rw [tI_n (by omega)]; exact c6
theorem PJ.wgt {i v : Nat} (k : PJ B N p b ln P g h) (hi : i < bN b) (hv : 1 ≤ v ∧ v ≤ 9) : PJ B N p (setW b (fun j => if j = i then v else bW b j)) ln P (sA g 1 (12 + i) (nI v)) (tI h 4 7 (nI (l6 (fun j => if j = i then v else bW b j)))) := by
  obtain ⟨hp, wf, ⟨a1, a2, a3, a4, a5⟩, ⟨c1, c2, c3, c4, c5, c6⟩, d⟩ := k
  have hn := wf.2.1
  have row : ∀ j, (sA g 1 (12 + i) (nI v)).2.1 1 j = if j = 12 + i then nI v else g.2.1 1 j := fun j => by rw [sA_2, if_pos rfl, upd_j]
  refine ⟨hp, ⟨wf.1, wf.2.1, wf.2.2.1, fun m hm => ?_, wf.2.2.2.2⟩, ⟨a1.set, a2, KB.mW wf a3 (fun m hm => ?_) (fun j hj => ?_), ?_, ?_⟩, ⟨c1.set (by omega), ?_, ?_, ?_, tI_s, ?_⟩, d⟩
  · show (if m = i then v else bW b m) ≤ 9 ∧ (m < bN b → 1 ≤ (if m = i then v else bW b m)) ∧ (bN b ≤ m → (if m = i then v else bW b m) = 0)
    have := wf.2.2.2.1 m hm
    by_cases e : m = i
    · rw [if_pos e]; exact ⟨hv.2, fun _ => hv.1, fun z => by omega⟩
    · rw [if_neg e]; exact this
  · rw [row]
    by_cases e : m = i
    · rw [if_pos (by omega), if_pos e]
    · rw [if_neg (by omega), if_neg e]; exact a3.2.2.2.1 m hm
  · rw [row, if_neg (by omega)]
  · rw [row, if_neg (by omega)]; exact a4
  · rw [row, if_neg (by omega)]; exact a5
  · rw [tI_n (by omega)]; exact c2
  · rw [tI_n (by omega)]; exact c3
  · rw [tI_n (by omega)]; exact c4
  · rw [tI_n (by omega)]; exact c6
theorem PJ.stk {i : Nat} (k : PJ B N p b ln P g h) (hi : i < bN b) : PJ B N p (setS b (bS b ||| 2 ^ i)) ln P (sA g 1 18 (nI (bS b ||| 2 ^ i))) (tI h 4 8 (nI (bS b ||| 2 ^ i))) := by
  obtain ⟨hp, wf, ⟨a1, a2, a3, a4, a5⟩, ⟨c1, c2, c3, c4, c5, c6⟩, d⟩ := k
  have hn := wf.2.1
  have row : ∀ j, (sA g 1 18 (nI (bS b ||| 2 ^ i))).2.1 1 j = if j = 18 then nI (bS b ||| 2 ^ i) else g.2.1 1 j := fun j => by rw [sA_2, if_pos rfl, upd_j]
  refine ⟨hp, ⟨wf.1, wf.2.1, wf.2.2.1, wf.2.2.2.1, ?_, wf.2.2.2.2.2⟩, ⟨a1.set, a2, KB.mS wf a3 (by rw [row, if_pos rfl]) (fun j hj => by rw [row, if_neg hj]), ?_, ?_⟩, ⟨c1.set (by omega), ?_, ?_, ?_, ?_, tI_s⟩, d⟩
  · show bS b ||| 2 ^ i < 2 ^ bN b
    exact Nat.or_lt_two_pow wf.2.2.2.2.1 (Nat.pow_lt_pow_right (by omega) hi)
  · rw [row, if_neg (by omega)]; exact a4
  · rw [row, if_neg (by omega)]; exact a5
  · rw [tI_n (by omega)]; exact c2
  · rw [tI_n (by omega)]; exact c3
  · rw [tI_n (by omega)]; exact c4
  · rw [tI_n (by omega)]; exact c5
theorem m16_bad {n : Nat} {y1 y2 : Int32} (hn : 1 ≤ n) (hb : ¬ g.1 12 = 0) : fX12_readMember_16 n g y1 y2 = some g := by
  obtain ⟨n, rfl⟩ : ∃ n', n = n' + 1 := ⟨n - 1, by omega⟩
  rw [fX12_readMember_16, if_neg hb]
theorem m21_bad {m : Nat} {y1 y2 : Int32} (hm : 1 ≤ m) (hb : ¬ h.1 4 2 = 0) : fX3_readMember_21 P m h y1 y2 = some h := by
  obtain ⟨m, rfl⟩ : ∃ n', m = n' + 1 := ⟨m - 1, by omega⟩
  rw [fX3_readMember_21, if_neg hb]
  split <;> rfl
theorem endOf_b {f l : Nat} (H : FH f l h) : fX3_endOf P h = some (P, h) := by
  unfold fX3_endOf
  rw [end_bad H.bad, bndv_s]
theorem i1 {α : Type} {a : Nat} {x y : α} (ha : a < 2 ^ 31) : (if nI a = (1 : Int32) then x else y) = if a = 1 then x else y := iEQ (b := 1) ha (by omega)
theorem isW_f {t : Tk} {w : List Int32} (h : ¬ isW B t w = true) : isW B t w = false := by
  cases q : isW B t w with
  | true => exact absurd q h
  | false => rfl
theorem mem_loop (hN : N ≤ 900) : ∀ (d p n m : Nat) (g : MS) (h : CS) (y : Nat) (b : AB) (i : Nat), N - p = d → d + 1 < n → d + 1 < m → y + d ≤ 899 → PJ B N p b ln P g h → i < bN b → Ev (bndv (fX12_readMember_16 n g (nI i) (nI 1)) (fun g1 => fX12_readLine_93 g1)) (fun g' => Ev (bndv (fX3_readMember_21 P m h (nI i) (nI y)) (fun h1 => fX3_endOf P h1)) (NJ B N p ln P g h g')) := by
  intro d
  induction d using Nat.strongRecOn with
  | ind d ih =>
    intro p n m g h y b i hd hn hm hy k hi
    have kk := k
    obtain ⟨w1, w2⟩ := kk.w6
    obtain ⟨⟨hp, hp1, hl⟩, wf, ⟨a1, a2, a3, a4, a5⟩, ⟨c1, c2, c3, c4, c5, c6⟩, dd⟩ := k
    have hn6 := wf.2.1
    have hn2 := wf.1
    obtain ⟨n, rfl⟩ : ∃ n', n = n' + 1 := ⟨n - 1, by omega⟩
    obtain ⟨m, rfl⟩ : ∃ n', m = n' + 1 := ⟨m - 1, by omega⟩
    obtain ⟨r1, r2, r3, r4, r5, r6, r7, r8⟩ := tok_rng B N p hp
    have W : ∀ i, (tx i).length < 100 → fX8_isWord P h i = some (nI (isW B (tok B N p) (tx i)).toNat, h) := fun i hi => cWord_eq hN hp c1.1 c1.2.1 i hi
    have t0 : nI false.toNat = (0 : Int32) := rfl
    have t1 : ¬ nI true.toNat = (0 : Int32) := by decide
    rw [fX12_readMember_16, if_pos a1.2.1, if_neg (show ¬ nI 1 = (0 : Int32) by decide), fX3_readMember_21, l_900, if_neg (nI_ge (by omega) (by omega)), if_pos c1.2.2.1, c1.2.1.2.2.1, i1 (by omega)]
    by_cases wF : isW B (tok B N p) (tx 3) = true
    · have k1 := isW_k wF
      have r5 := r5 (by omega)
      rw [if_pos k1]
      unfold fX3_readFlag
      rw [W 3 (by decide), bndc_s, wF, if_neg t1]
      rw [ev_bndv]
      refine Ev.c (a1.tookY hN hp 39 (by decide) wF) ?_
      rintro x1 g2 ⟨e1, R2, F2⟩
      have e1 : x1 = 1 := e1
      rw [e1, if_neg (by decide)]
      obtain ⟨h2, eh2, K2, G2⟩ := c1.on (P := P) hN hp
      rw [eh2, bndv_s]
      have k2 := kk.mv (p1 := tEn (tok B N p)) ⟨by omega, r3⟩ R2 F2 K2 G2
      obtain ⟨-, -, ⟨-, -, a3', -, -⟩, ⟨-, c2', -, c4', -, -⟩, -⟩ := k2
      rw [chk_tt (show ib 1 2850 = true by decide), show ix 1 = 1 from rfl, a3'.1, l_1, pk_sub (by omega), c2', pk_sub (by omega)]
      have hpp : tEn (tok B N p) ≤ N := r3
      generalize hpe : tEn (tok B N p) = p1 at *
      obtain ⟨u1, u2, u3, u4, u5, u6, u7, u8⟩ := tok_rng B N p1 hpp
      by_cases v : tKd (tok B N p1) = 2 ∧ 0 ≤ tVl (tok B N p1) ∧ tVl (tok B N p1) ≤ bN b - 1
      · have u5 := u5 (by omega)
        refine Ev.c (R2.numY hN hpp (a := 0) (b := bN b - 1) (by omega) v) ?_
        rintro x11 g12 ⟨e2, R3, F3⟩
        have e2 : x11 = nI (tVl (tok B N p1)) := e2
        obtain ⟨⟨x, h3⟩, eh3, e3, K3, G3⟩ := K2.numY (P := P) hN hpp (a := 0) (b := bN b - 1) (by omega) v
        have e3 : x = nI (tVl (tok B N p1)) := e3
        rw [l_0, eh3, bndc_s, c4', e3, with_l6 w1 (by omega) (by omega), bndv_s, bnd_e, bnd_e, bndv_s, nI_add, bnd_e, l_6, nI_add, chk_tt (ib_n (by omega) (by omega)), ix_n (by omega), e2]
        have k3 := (kk.mv (p1 := p1) ⟨by omega, hpp⟩ R2 F2 K2 G2).mv (p1 := tEn (tok B N p1)) ⟨by omega, u3⟩ R3 F3 K3 G3
        have k4 := k3.aim hi (v := tVl (tok B N p1)) (by omega)
        rw [← ev_bndv]
        refine (ih (N - tEn (tok B N p1)) (by omega) (tEn (tok B N p1)) n m _ _ (y + 1) _ i rfl (by omega) (by omega) (by omega) k4 hi).mono ?_
        intro g' hg'
        refine hg'.mono (fun q hq => NJ.pre ?_ ?_ ?_ (by omega) hq)
        · exact ((F2.trans F3).mono (li2 := liR) (la2 := [1]) (by decide) (fun z hz => nomatch hz)).sA (by decide)
        · exact fP.of (oi := (4, 6) :: lcI) (la := []) (((G2.trans G3).mono (by decide) (by decide) (by decide)).tI (by decide)) (by decide) (by decide)
        · show h3.2.2.2 = _
          rw [G3.2.2.2, G2.2.2.2]
      · refine Ev.c (R2.numN hpp (a := 0) (b := bN b - 1) (by omega) (by omega) v) ?_
        rintro x11 g12 ⟨e2, H3, F3⟩
        obtain ⟨⟨x, h3⟩, eh3, e3, H4, G3⟩ := K2.numN (P := P) hpp (a := 0) (b := bN b - 1) (by omega) (by omega) v
        have e3 : x = nI 0 := e3
        rw [l_0, eh3, bndc_s, c4', e3, with_l6 w1 (by omega) (by omega), bndv_s, bnd_e, bnd_e, bndv_s, nI_add, bnd_e, l_6, nI_add, chk_tt (ib_n (by omega) (by omega)), ix_n (by omega)]
        have H3' : FS (nf (tok B N p1)) (tSt (tok B N p1)) (sA g12 1 (6 + i) x11) := H3
        rw [m16_bad (by omega) H3'.bad]
        refine ev_some.mpr ?_
        rw [stop_bad H3'.bad]
        refine ev_some.mpr ?_
        have G4 : fC ((4, 2) :: (4, 3) :: (4, 6) :: lcI) [] [] h (tI h3 4 6 (nI (l6 (fun j => if j = i then 0 else bA b j)))) := ((G2.mono (by decide) (by decide) (by decide)).trans (G3.mono (by decide) (by decide) (by decide))).tI (by decide)
        have H4' : FH (nf (tok B N p1)) (tSt (tok B N p1)) (tI h3 4 6 (nI (l6 (fun j => if j = i then 0 else bA b j)))) := ⟨by rw [tI_n (by omega)]; exact H4.1, by rw [tI_n (by omega)]; exact H4.2.1, H4.2.2⟩
        rw [m21_bad (by omega) H4'.bad, bndv_s, endOf_b H4']
        refine ev_some.mpr (NJ.bad kk ?_ ⟨_, _, G4, by decide, by decide⟩ H3' H4')
        exact ((F2.mono (li2 := liR) (la2 := [1]) (by decide) (fun z hz => nomatch hz)).trans (F3.mono (by decide) (fun z hz => nomatch hz))).sA (by decide)
    by_cases wW : isW B (tok B N p) (tx 4) = true
    · have k1 := isW_k wW
      have r5 := r5 (by omega)
      rw [if_pos k1]
      unfold fX3_readFlag
      rw [W 3 (by decide), bndc_s, isW_f wF, if_pos t0, W 4 (by decide), bndc_s, wW, if_neg t1]
      rw [ev_bndv, a1.tookN hN hp 39 (by decide) wF, bndc_s, if_pos rfl]
      refine Ev.c (a1.tookY hN hp 40 (by decide) wW) ?_
      rintro x1 g2 ⟨e1, R2, F2⟩
      have e1 : x1 = 1 := e1
      rw [e1, if_neg (by decide)]
      obtain ⟨h2, eh2, K2, G2⟩ := c1.on (P := P) hN hp
      rw [eh2, bndv_s]
      have k2 := kk.mv (p1 := tEn (tok B N p)) ⟨by omega, r3⟩ R2 F2 K2 G2
      obtain ⟨-, -, ⟨-, -, a3', -, -⟩, ⟨-, c2', -, c4', c5', -⟩, -⟩ := k2
      have hpp : tEn (tok B N p) ≤ N := r3
      generalize hpe : tEn (tok B N p) = p1 at *
      obtain ⟨u1, u2, u3, u4, u5, u6, u7, u8⟩ := tok_rng B N p1 hpp
      by_cases v : tKd (tok B N p1) = 2 ∧ 1 ≤ tVl (tok B N p1) ∧ tVl (tok B N p1) ≤ 9
      · have u5 := u5 (by omega)
        refine Ev.c (R2.numY hN hpp (a := 1) (b := 9) (by omega) v) ?_
        rintro x11 g12 ⟨e2, R3, F3⟩
        have e2 : x11 = nI (tVl (tok B N p1)) := e2
        obtain ⟨⟨x, h3⟩, eh3, e3, K3, G3⟩ := K2.numY (P := P) hN hpp (a := 1) (b := 9) (by omega) v
        have e3 : x = nI (tVl (tok B N p1)) := e3
        rw [l_1, l_9, eh3, bndc_s, c5', e3, with_l6 w2 (by omega) (by omega), bndv_s, bnd_e, bnd_e, bndv_s, nI_add, bnd_e, l_12, nI_add, chk_tt (ib_n (by omega) (by omega)), ix_n (by omega), e2]
        have k3 := (kk.mv (p1 := p1) ⟨by omega, hpp⟩ R2 F2 K2 G2).mv (p1 := tEn (tok B N p1)) ⟨by omega, u3⟩ R3 F3 K3 G3
        have k4 := k3.wgt hi (v := tVl (tok B N p1)) (by omega)
        rw [← ev_bndv]
        refine (ih (N - tEn (tok B N p1)) (by omega) (tEn (tok B N p1)) n m _ _ (y + 1) _ i rfl (by omega) (by omega) (by omega) k4 hi).mono ?_
        intro g' hg'
        refine hg'.mono (fun q hq => NJ.pre ?_ ?_ ?_ (by omega) hq)
        · exact ((F2.trans F3).mono (li2 := liR) (la2 := [1]) (by decide) (fun z hz => nomatch hz)).sA (by decide)
        · exact fP.of (oi := (4, 7) :: lcI) (la := []) (((G2.trans G3).mono (by decide) (by decide) (by decide)).tI (by decide)) (by decide) (by decide)
        · show h3.2.2.2 = _
          rw [G3.2.2.2, G2.2.2.2]
      · refine Ev.c (R2.numN hpp (a := 1) (b := 9) (by omega) (by omega) v) ?_
        rintro x11 g12 ⟨e2, H3, F3⟩
        obtain ⟨⟨x, h3⟩, eh3, e3, H4, G3⟩ := K2.numN (P := P) hpp (a := 1) (b := 9) (by omega) (by omega) v
        have e3 : x = nI 1 := e3
        rw [l_1, l_9, eh3, bndc_s, c5', e3, with_l6 w2 (by omega) (by omega), bndv_s, bnd_e, bnd_e, bndv_s, nI_add, bnd_e, l_12, nI_add, chk_tt (ib_n (by omega) (by omega)), ix_n (by omega)]
        have H3' : FS (nf (tok B N p1)) (tSt (tok B N p1)) (sA g12 1 (12 + i) x11) := H3
        rw [m16_bad (by omega) H3'.bad]
        refine ev_some.mpr ?_
        rw [stop_bad H3'.bad]
        refine ev_some.mpr ?_
        have G4 : fC ((4, 2) :: (4, 3) :: (4, 7) :: lcI) [] [] h (tI h3 4 7 (nI (l6 (fun j => if j = i then 1 else bW b j)))) := ((G2.mono (by decide) (by decide) (by decide)).trans (G3.mono (by decide) (by decide) (by decide))).tI (by decide)
        have H4' : FH (nf (tok B N p1)) (tSt (tok B N p1)) (tI h3 4 7 (nI (l6 (fun j => if j = i then 1 else bW b j)))) := ⟨by rw [tI_n (by omega)]; exact H4.1, by rw [tI_n (by omega)]; exact H4.2.1, H4.2.2⟩
        rw [m21_bad (by omega) H4'.bad, bndv_s, endOf_b H4']
        refine ev_some.mpr (NJ.bad kk ?_ ⟨_, _, G4, by decide, by decide⟩ H3' H4')
        exact ((F2.mono (li2 := liR) (la2 := [1]) (by decide) (fun z hz => nomatch hz)).trans (F3.mono (by decide) (fun z hz => nomatch hz))).sA (by decide)
    rw [a1.tookN hN hp 39 (by decide) wF, bndc_s, if_pos rfl, a1.tookN hN hp 40 (by decide) wW, bndc_s, if_pos rfl]
    by_cases wS : isW B (tok B N p) (tx 5) = true
    · have k1 := isW_k wS
      have r5 := r5 (by omega)
      rw [if_pos k1]
      unfold fX3_readFlag
      rw [W 3 (by decide), bndc_s, isW_f wF, if_pos t0, W 4 (by decide), bndc_s, isW_f wW, if_pos t0, W 5 (by decide), bndc_s, wS, if_neg t1]
      rw [ev_bndv]
      refine Ev.c (a1.tookY hN hp 41 (by decide) wS) ?_
      rintro x1 g2 ⟨e1, R2, F2⟩
      have e1 : x1 = 1 := e1
      rw [e1, if_neg (by decide)]
      obtain ⟨h2, eh2, K2, G2⟩ := c1.on (P := P) hN hp
      rw [eh2, bndv_s]
      have k2 := kk.mv (p1 := tEn (tok B N p)) ⟨by omega, r3⟩ R2 F2 K2 G2
      have k3 := k2.stk hi
      obtain ⟨-, -, ⟨-, -, a3', -, -⟩, ⟨-, c2', -, c4', c5', c6'⟩, -⟩ := k2
      rw [chk_tt (show ib 18 2850 = true by decide), chk_tt (show ib 18 2850 = true by decide), show ix 18 = 18 from rfl, a3'.2.1, c6', show (nI 1 : Int32) = 1 from rfl, shl1 (by omega), fa_or, bnd_e, bnd_e, bndv_s]
      rw [l_1, nI_add, bnd_e, ← ev_bndv]
      refine (ih (N - tEn (tok B N p)) (by omega) (tEn (tok B N p)) n m _ _ (y + 1) _ i rfl (by omega) (by omega) (by omega) k3 hi).mono ?_
      intro g' hg'
      refine hg'.mono (fun q hq => NJ.pre ?_ ?_ ?_ (by omega) hq)
      · exact (F2.mono (li2 := liR) (la2 := [1]) (by decide) (fun z hz => nomatch hz)).sA (by decide)
      · exact fP.of (oi := (4, 8) :: lcI) (la := []) ((G2.mono (by decide) (by decide) (by decide)).tI (by decide)) (by decide) (by decide)
      · show h2.2.2.2 = _
        rw [G2.2.2.2]
    rw [a1.tookN hN hp 41 (by decide) wS, bndc_s, if_pos rfl]
    obtain ⟨n, rfl⟩ : ∃ n', n = n' + 1 := ⟨n - 1, by omega⟩
    rw [fX12_readMember_16, if_pos a1.2.1, if_pos rfl, bndv_s]
    by_cases k1 : tKd (tok B N p) = 1
    · rw [if_pos k1]
      unfold fX3_readFlag
      rw [W 3 (by decide), bndc_s, isW_f wF, if_pos t0, W 4 (by decide), bndc_s, isW_f wW, if_pos t0, W 5 (by decide), bndc_s, isW_f wS, if_pos t0]
      have ns : ¬ isS (tok B N p) 59 = true := fun z => by have := isS_k z; omega
      refine (a1.stopN hp ns).mono ?_
      rintro g' ⟨H, F⟩
      obtain ⟨h2, eh2, H2, G2⟩ := c1.ref (P := P) hp (j := 2) ⟨by decide, by decide⟩
      rw [show (2 : Int32) = nI 2 from rfl, eh2, bndv_s, bndv_s, bnd_e, m21_bad (by omega) H2.bad, bndv_s, endOf_b H2]
      exact ev_some.mpr (NJ.bad kk (F.mono (by decide) (fun z hz => nomatch hz)) ⟨_, _, G2, by decide, by decide⟩ H H2)
    · rw [if_neg k1, bndv_s]
      exact stop_both hN kk
end
