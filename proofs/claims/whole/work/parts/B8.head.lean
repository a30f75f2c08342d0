/-! ===== the start of a board's reading ===== -/
def headM (g : MS) : Option (Int32 × MS) := bndv (fX12_mustWord g 37) (fun g7 => bndc (fX12_number g7 (2 : Int32) (6 : Int32)) (fun x8 g9 => chk (ib (1 : Int32) 2850) (bnd (sA g9 1 (ix (1 : Int32)) x8) (fun g10 => bndv (fX12_readStop g10 ) (fun g11 => fX12_board_123 fuel g11)))))
theorem clr52 : ∀ (d y n : Nat) (g : MS), y + d = 2850 → d < n → ∃ g', fX12_board_52 n g (nI y) = fX12_board_74 fuel g' (0 : Int32) ∧ fM [] [1] g g' ∧ (∀ j, y ≤ j → j < 2850 → g'.2.1 1 j = 0) ∧ (∀ j, j < y → g'.2.1 1 j = g.2.1 1 j) := by
  intro d
  induction d with
  | zero =>
    intro y n g hy hn
    obtain ⟨n, rfl⟩ : ∃ n', n = n' + 1 := ⟨n - 1, by omega⟩
    rw [fX12_board_52, if_pos (show (2850 : Int32) ≤ nI y from nI_le (a := 2850) (by omega) (by omega))]
    exact ⟨g, rfl, fM.refl g, fun j h1 h2 => by omega, fun _ _ => rfl⟩
  | succ d ih =>
    intro y n g hy hn
    obtain ⟨n, rfl⟩ : ∃ n', n = n' + 1 := ⟨n - 1, by omega⟩
    rw [fX12_board_52, if_neg (show ¬ (2850 : Int32) ≤ nI y from nI_ge (b := 2850) (by omega) (by omega)), chk_tt (ib_n (by omega) (by omega)), ix_n (by omega), bnd_e, nI_1, bnd_e]
    obtain ⟨g', e1, e2, e3, e4⟩ := ih (y + 1) n (sA g 1 y 0) (by omega) (by omega)
    refine ⟨g', e1, ((fM.refl g).sA (by decide)).trans e2, fun j h1 h2 => ?_, fun j hj => ?_⟩
    · by_cases e : j = y
      · rw [e4 j (by omega), sA_2, if_pos rfl, upd_j, if_pos e]
      · exact e3 j (by omega) h2
    · rw [e4 j (by omega), sA_2, if_pos rfl, upd_j, if_neg (by omega)]
theorem clr74 : ∀ (d y n : Nat) (g : MS), y + d = 6 → d < n → ∃ g', fX12_board_74 n g (nI y) = bndv (fX12_readsOn g') (fun g6 => headM g6) ∧ fM [] [1] g g' ∧ (∀ j, y ≤ j → j < 6 → g'.2.1 1 (12 + j) = 1) ∧ (∀ j, (j < 12 + y ∨ 18 ≤ j) → g'.2.1 1 j = g.2.1 1 j) := by
  intro d
  induction d with
  | zero =>
    intro y n g hy hn
    obtain ⟨n, rfl⟩ : ∃ n', n = n' + 1 := ⟨n - 1, by omega⟩
    rw [fX12_board_74, if_pos (show (6 : Int32) ≤ nI y from nI_le (a := 6) (by omega) (by omega))]
    exact ⟨g, rfl, fM.refl g, fun j h1 h2 => by omega, fun _ _ => rfl⟩
  | succ d ih =>
    intro y n g hy hn
    obtain ⟨n, rfl⟩ : ∃ n', n = n' + 1 := ⟨n - 1, by omega⟩
    rw [fX12_board_74, if_neg (show ¬ (6 : Int32) ≤ nI y from nI_ge (b := 6) (by omega) (by omega)), l_12, nI_add, chk_tt (ib_n (by omega) (by omega)), ix_n (by omega), bnd_e, nI_1, bnd_e]
    obtain ⟨g', e1, e2, e3, e4⟩ := ih (y + 1) n (sA g 1 (12 + y) 1) (by omega) (by omega)
    refine ⟨g', e1, ((fM.refl g).sA (by decide)).trans e2, fun j h1 h2 => ?_, fun j hj => ?_⟩
    · by_cases e : j = y
      · rw [e4 _ (by omega), sA_2, if_pos rfl, upd_j, if_pos (by omega)]
      · exact e3 j (by omega) h2
    · rw [e4 j (by omega), sA_2, if_pos rfl, upd_j, if_neg (by omega)]
theorem cpy188 : ∀ (d y n : Nat) (g : MS), y + d = 2850 → d < n → ∃ g', fX12_board_188 n g (nI y) = some (g'.2.1 0 0, g') ∧ fM [] [0] g g' ∧ (∀ j, y ≤ j → j < 2850 → g'.2.1 0 j = g.2.1 1 j) ∧ (∀ j, j < y → g'.2.1 0 j = g.2.1 0 j) := by
  intro d
  induction d with
  | zero =>
    intro y n g hy hn
    obtain ⟨n, rfl⟩ : ∃ n', n = n' + 1 := ⟨n - 1, by omega⟩
    rw [fX12_board_188, if_pos (show (2850 : Int32) ≤ nI y from nI_le (a := 2850) (by omega) (by omega)), chk_tt (by decide), show ix 0 = 0 from rfl]
    exact ⟨g, rfl, fM.refl g, fun j h1 h2 => by omega, fun _ _ => rfl⟩
  | succ d ih =>
    intro y n g hy hn
    obtain ⟨n, rfl⟩ : ∃ n', n = n' + 1 := ⟨n - 1, by omega⟩
    rw [fX12_board_188, if_neg (show ¬ (2850 : Int32) ≤ nI y from nI_ge (b := 2850) (by omega) (by omega)), chk_tt (ib_n (by omega) (by omega)), chk_tt (ib_n (by omega) (by omega)), ix_n (by omega), bnd_e, nI_1, bnd_e]
    obtain ⟨g', e1, e2, e3, e4⟩ := ih (y + 1) n (sA g 0 y (g.2.1 1 y)) (by omega) (by omega)
    refine ⟨g', e1, ((fM.refl g).sA (by decide)).trans e2, fun j h1 h2 => ?_, fun j hj => ?_⟩
    · by_cases e : j = y
      · rw [e4 j (by omega), sA_2, if_pos rfl, upd_j, if_pos e, e]
      · rw [e3 j (by omega) h2, sA_2, if_neg (by decide)]
    · rw [e4 j (by omega), sA_2, if_pos rfl, upd_j, if_neg (by omega)]
def b0 (n : Nat) : AB := (n, (fun _ => 0), (fun m => if m < n then 1 else 0), 0, [], [], [])
theorem b0_wf {n : Nat} (h : 2 ≤ n ∧ n ≤ 6) : wfB (b0 n) := by
  refine ⟨h.1, h.2, fun m hm => ⟨by show 0 < n; omega, fun _ => rfl⟩, fun m hm => ?_, Nat.two_pow_pos _, ⟨by show 0 ≤ 899; omega, Or.inl rfl⟩, ⟨by show 0 ≤ 899; omega, Or.inl rfl⟩, ⟨by show 0 ≤ 899; omega, Or.inl rfl⟩⟩
  show (if m < n then 1 else 0) ≤ 9 ∧ (m < n → 1 ≤ (if m < n then 1 else 0)) ∧ (n ≤ m → (if m < n then 1 else 0) = 0)
  by_cases e : m < n
  · rw [if_pos e]; exact ⟨by omega, fun _ => by omega, fun z => by omega⟩
  · rw [if_neg e]; exact ⟨by omega, fun z => absurd z e, fun _ => rfl⟩
theorem bits_b0 {n : Nat} (h : 2 ≤ n ∧ n ≤ 6) : fX1_ofBits (jshl (1 : Int32) (nI n) - (1 : Int32)) = some (nI (l6 (bW (b0 n)))) := by
  rw [shl1 (by omega), l_1, pk_sub (Nat.one_le_two_pow)]
  rcases (show n = 2 ∨ n = 3 ∨ n = 4 ∨ n = 5 ∨ n = 6 by omega) with e | e | e | e | e <;> subst e <;> rw [ofBits_l6 (by decide)] <;> rfl
theorem line93 (g : MS) : fX12_readLine_93 g = fX12_readStop g := by
  unfold fX12_readLine_93
  cases fX12_readStop g with
  | none => rfl
  | some z => rfl
section
variable {B : Nat → Nat} {N : Nat} {P : PL} {h : CS} {g : MS}
/-- the line of the board itself -/
theorem head_both (hN : N ≤ 900) (R : RB B N 0 g) (hd : g.1 16 = 0) (hz : ∀ j, j < 12 ∨ 18 ≤ j ∧ j < 2850 → g.2.1 1 j = 0) (hw1 : ∀ j, j < 6 → g.2.1 1 (12 + j) = 1) (K : CK B N 0 h) (k5 : h.1 4 5 = 0) (k6 : h.1 4 6 = 0) (k8 : h.1 4 8 = 0) (hr : h.2.2.2 4 9 = h.2.2.2 4 12 ∧ h.2.2.2 4 10 = h.2.2.2 4 12 ∧ h.2.2.2 4 11 = h.2.2.2 4 12) (hu : inP P (h.2.2.2 4 12) []) (hw : wfL P h = true) :
    ∃ g' h', headM g = fX12_board_123 fuel g' ∧ fX3_readBoard P h = some h' ∧ fM liR [1] g g' ∧ fP h h' ∧ h'.2.2.2 = h.2.2.2 ∧ ((∃ p b ln, PJ B N p b ln P g' h') ∨ (∃ f l, FS f l g' ∧ FH f l h')) := by
  obtain ⟨r1, r2, r3, r4, r5, r6, r7, r8⟩ := tok_rng B N 0 (by omega)
  have W : fX8_isWord P h 1 = some (nI (isW B (tok B N 0) (tx 1)).toNat, h) := cWord_eq hN (by omega) K.1 K.2.1 1 (by decide)
  have badM : ∀ {g7 : MS} {f l : Nat}, FS f l g7 → bndc (fX12_number g7 (2 : Int32) (6 : Int32)) (fun x8 g9 => chk (ib (1 : Int32) 2850) (bnd (sA g9 1 (ix (1 : Int32)) x8) (fun g10 => bndv (fX12_readStop g10 ) (fun g11 => fX12_board_123 fuel g11)))) = fX12_board_123 fuel (sA g7 1 1 2) := fun {g7 f l} H => by
    rw [num_bad H.bad, bndc_s, chk_tt (by decide), bnd_e, show ix 1 = 1 from rfl, ← line93, stop_bad (show ¬ (sA g7 1 1 (2 : Int32)).1 12 = 0 from H.bad), bndv_s]
  unfold headM fX12_mustWord fX3_readBoard
  rw [W, bndc_s]
  by_cases w : isW B (tok B N 0) (tx 1) = true
  · have r5 := r5 (by rw [isW_k w]; decide)
    rw [w, if_neg (by decide)]
    obtain ⟨⟨x1, g2⟩, e1, e2, R2, F2⟩ := R.tookY hN (by omega) 37 (by decide) w
    have e2 : x1 = 1 := e2
    rw [e1, bndc_s, e2, if_neg (by decide), bndv_s]
    obtain ⟨h2, eh2, K2, G2⟩ := K.on (P := P) hN (by omega)
    rw [eh2, bndv_s]
    have R2 : RB B N (tEn (tok B N 0)) g2 := R2
    have F2 : fM lxI [] g g2 := F2
    have hpp : tEn (tok B N 0) ≤ N := r3
    generalize hpe : tEn (tok B N 0) = p1 at *
    obtain ⟨u1, u2, u3, u4, u5, u6, u7, u8⟩ := tok_rng B N p1 hpp
    by_cases v : tKd (tok B N p1) = 2 ∧ 2 ≤ tVl (tok B N p1) ∧ tVl (tok B N p1) ≤ 6
    · have u5 := u5 (by omega)
      obtain ⟨⟨x8, g9⟩, e3, e4, R3, F3⟩ := R2.numY hN hpp (a := 2) (b := 6) (by omega) v
      obtain ⟨⟨x, h3⟩, e5, e6, K3, G3⟩ := K2.numY (P := P) hN hpp (a := 2) (b := 6) (by omega) v
      have e4 : x8 = nI (tVl (tok B N p1)) := e4
      have e6 : x = nI (tVl (tok B N p1)) := e6
      have R3 : RB B N (tEn (tok B N p1)) g9 := R3
      have F3 : fM lxI [] g2 g9 := F3
      have K3 : CK B N (tEn (tok B N p1)) h3 := K3
      have G3 : fC lcI [] [] h2 h3 := G3
      generalize hne : tVl (tok B N p1) = n at *
      rw [l_2, l_6, e3, bndc_s, e5, bndc_s, chk_tt (by decide), bnd_e, bnd_e, tI_s, show ix 1 = 1 from rfl, e4, e6, bits_b0 v.2, bndv_s, bnd_e]
      have M9 : fM liR [1] g g9 := (F2.trans F3).mono (by decide) (fun z hz => nomatch hz)
      have row : ∀ j, (sA g9 1 1 (nI n)).2.1 1 j = if j = 1 then nI n else g.2.1 1 j := fun j => by rw [sA_2, if_pos rfl, upd_j, F3.row 1 (fun z => nomatch z), F2.row 1 (fun z => nomatch z)]
      have G9 : fC ((4, 4) :: (4, 7) :: lcI) [] [] h (tI (tI h3 4 4 (nI n)) 4 7 (nI (l6 (bW (b0 n))))) := (((G2.trans G3).mono (by decide) (by decide) (by decide)).tI (by decide)).tI (by decide)
      have G3' : fC [(4, 4), (4, 7)] [] [] h3 (tI (tI h3 4 4 (nI n)) 4 7 (nI (l6 (bW (b0 n))))) := ((fC.refl h3).tI (by decide)).tI (by decide)
      have hl0 : l6 (fun _ => 0) = 0 := by decide
      have pj : PJ B N (tEn (tok B N p1)) (b0 n) 0 P (sA g9 1 1 (nI n)) (tI (tI h3 4 4 (nI n)) 4 7 (nI (l6 (bW (b0 n))))) := by
        refine ⟨⟨u3, by omega, by omega⟩, b0_wf v.2, ⟨R3.set, ?_, ⟨?_, ?_, fun m hm => ?_, fun m hm => ?_, ?_, ?_, ?_, fun i hi => absurd hi (Nat.not_lt_zero i), fun i hi => absurd hi (Nat.not_lt_zero i), fun i hi => absurd hi (Nat.not_lt_zero i)⟩, ?_, ?_⟩, ⟨K3.keep G3' (by decide) (by decide), ?_, ?_, ?_, tI_s, ?_⟩, ?_, ?_, ?_, ?_, wfL.of hw G9.2.2.2⟩
        · show g9.1 16 = 0
          rw [F3.1 16 (by decide), F2.1 16 (by decide)]; exact hd
        · rw [row, if_pos rfl]; rfl
        · rw [row, if_neg (by decide), hz 18 (by omega)]; rfl
        · have hm : m < n := hm
          rw [row, if_neg (by omega), hz _ (by omega)]; rfl
        · have hm : m < n := hm
          rw [row, if_neg (by omega), hw1 m (by omega)]
          show _ = nI (if m < n then 1 else 0)
          rw [if_pos hm]; rfl
        · rw [row, if_neg (by decide), hz 2 (by omega)]; rfl
        · rw [row, if_neg (by decide), hz 3 (by omega)]; rfl
        · rw [row, if_neg (by decide), hz 4 (by omega)]; rfl
        · rw [row, if_neg (by decide), hz 0 (by omega)]; rfl
        · rw [row, if_neg (by decide), hz 5 (by omega)]
        · rw [tI_n (by omega)]; exact tI_s
        · rw [G9.i 4 5 (by decide), k5]; rfl
        · rw [G9.i 4 6 (by decide), k6]
          show _ = nI (l6 (fun _ => 0))
          rw [hl0]; rfl
        · rw [G9.i 4 8 (by decide), k8]; rfl
        · rw [G9.2.2.2, hr.1]; exact hu
        · rw [G9.2.2.2, hr.2.1]; exact hu
        · rw [G9.2.2.2, hr.2.2]; exact hu
        · rw [G9.2.2.2]; exact hu
      obtain ⟨g', e7, ⟨P1, h'⟩, e8, n1, n2, n3, n4⟩ := stop_both hN pj
      rw [line93] at e7
      unfold fX3_endOf at e8
      rw [e7, bndv_s]
      cases e9 : fX3_endLine P (tI (tI h3 4 4 (nI n)) 4 7 (nI (l6 (bW (b0 n))))) with
      | none => rw [e9] at e8; exact absurd e8 (by simp [bndv])
      | some z =>
        rw [e9, bndv_s] at e8
        obtain ⟨e10, e11⟩ := Prod.mk.inj (Option.some.inj e8)
        subst e10
        subst e11
        rw [bndv_s]
        have M' : fM liR [1] g (sA g9 1 1 (nI n)) := M9.sA (by decide)
        refine ⟨g', z, rfl, rfl, M'.trans n1, (fP.of G9 (by decide) (by decide)).trans n2, ?_, ?_⟩
        · have hq : z.2.2.2 = (tI (tI h3 4 4 (nI n)) 4 7 (nI (l6 (bW (b0 n))))).2.2.2 := by
            by_cases s59 : isS (tok B N (tEn (tok B N p1))) 59 = true
            · obtain ⟨y, y1, -, -, y2⟩ := pj.2.2.2.1.1.stop (P := P) hN u3 s59
              rw [e9] at y1
              cases Option.some.inj y1
              exact y2.2.2.2
            · obtain ⟨y, y1, -, y2⟩ := pj.2.2.2.1.1.stopN (P := P) u3 s59
              rw [e9] at y1
              cases Option.some.inj y1
              exact y2.2.2.2
          rw [hq, G9.2.2.2]
        · rcases n4 with ⟨p', b', x1, x2, x3⟩ | ⟨f, l, H, H', -⟩
          · exact Or.inl ⟨p', b', _, x2⟩
          · exact Or.inr ⟨f, l, H, H'⟩
    · obtain ⟨⟨x8, g9⟩, e3, e4, H3, F3⟩ := R2.numN hpp (a := 2) (b := 6) (by omega) (by omega) v
      obtain ⟨⟨x, h3⟩, e5, e6, H4, G3⟩ := K2.numN (P := P) hpp (a := 2) (b := 6) (by omega) (by omega) v
      have e4 : x8 = nI 2 := e4
      have e6 : x = nI 2 := e6
      have H3 : FS (nf (tok B N p1)) (tSt (tok B N p1)) g9 := H3
      have H4 : FH (nf (tok B N p1)) (tSt (tok B N p1)) h3 := H4
      have F3 : fM [12, 13] [] g2 g9 := F3
      have G3 : fC [(4, 2), (4, 3)] [] [] h2 h3 := G3
      have H4' : FH (nf (tok B N p1)) (tSt (tok B N p1)) (tI (tI h3 4 4 (nI 2)) 4 7 (nI (l6 (bW (b0 2))))) := ⟨by rw [tI_n (by omega), tI_n (by omega)]; exact H4.1, by rw [tI_n (by omega), tI_n (by omega)]; exact H4.2.1, H4.2.2⟩
      have H3' : FS (nf (tok B N p1)) (tSt (tok B N p1)) (sA g9 1 1 (nI 2)) := H3
      have G9 : fC ((4, 2) :: (4, 3) :: (4, 4) :: (4, 7) :: lcI) [] [] h (tI (tI h3 4 4 (nI 2)) 4 7 (nI (l6 (bW (b0 2))))) := (((G2.mono (by decide) (by decide) (by decide)).trans (G3.mono (by decide) (by decide) (by decide))).tI (by decide)).tI (by decide)
      rw [l_2, l_6, e3, bndc_s, e5, bndc_s, chk_tt (by decide), bnd_e, bnd_e, tI_s, show ix 1 = 1 from rfl, e4, e6, bits_b0 (n := 2) ⟨by omega, by omega⟩, bndv_s, bnd_e, ← line93, stop_bad H3'.bad, bndv_s, end_bad H4'.bad, bndv_s]
      refine ⟨_, _, rfl, rfl, ?_, fP.of G9 (by decide) (by decide), G9.2.2.2, Or.inr ⟨_, _, H3', H4'⟩⟩
      exact ((F2.mono (li2 := liR) (la2 := [1]) (by decide) (fun z hz => nomatch hz)).trans (F3.mono (by decide) (fun z hz => nomatch hz))).sA (by decide)
  · rw [isW_f w, if_pos (show nI false.toNat = 0 from rfl), R.tookN hN (by omega) 37 (by decide) w, bndc_s, if_pos rfl]
    obtain ⟨g2, e1, H, F⟩ := R.blame (by omega) (k := 2) ⟨by decide, by decide⟩
    obtain ⟨h2, e2, H2, G2⟩ := K.ref (P := P) (by omega) (j := 2) ⟨by decide, by decide⟩
    rw [show (2 : Int32) = nI 2 from rfl] at *
    rw [e1, e2, bndv_s, bndv_s, bndv_s]
    refine ⟨_, h2, badM H, rfl, ?_, fP.of G2 (by decide) (by decide), G2.2.2.2, Or.inr ⟨_, _, ?_, H2⟩⟩
    · exact (F.mono (li2 := liR) (la2 := [1]) (by decide) (fun z hz => nomatch hz)).sA (by decide)
    · exact H
end
