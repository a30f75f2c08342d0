/-! ===== the class's survey ===== -/
theorem rwA_0 (b : AB) : rwA b 0 = fun _ => 0 := by
  funext m
  unfold rwA
  split
  · rw [Nat.zero_div, Nat.zero_mod]
  · rfl
def cR (b : AB) (i : Nat) : Nat := csA b (rwA b i)
theorem cR_le {b : AB} (hw : wfB b) (i : Nat) : cR b i ≤ 2970 := csA_le hw (fun j _ => rwA_lt hw i j)
def cOf (b : AB) (x : Nat) : Int32 := if x = 0 then -1 else nI (cR b (x - 1))
def nOf (b : AB) (x : Nat) : Int32 := if x = 0 then 0 else nI (l6 (rwA b (x - 1)))
def pkB (b : AB) (y1 y2 : Int32) (i : Nat) : Bool := decide ((nI (l6 (bhA b (rwA b i))) &&& y1) = y2)
def TLa (b : AB) (p : Nat → Bool) (k : Nat) (g : CS) : Prop := g.1 17 7 = nI (fb_ct p k) ∧ g.1 17 8 = cOf b (bstF p (cR b) k) ∧ g.1 17 9 = nOf b (bstF p (cR b) k)
theorem TLa.keep {b : AB} {p : Nat → Bool} {k : Nat} {g g' : CS} {oi : List (Nat × Nat)} {la ll : List Nat} (h : TLa b p k g) (f : fC oi la ll g g') (h1 : (17, 7) ∉ oi ∧ (17, 8) ∉ oi ∧ (17, 9) ∉ oi) : TLa b p k g' := by
  unfold TLa
  rw [f.i _ _ h1.1, f.i _ _ h1.2.1, f.i _ _ h1.2.2]
  exact h
theorem bstF_y {p : Nat → Bool} {c : Nat → Nat} {k : Nat} (h : p k = true ∧ (bstF p c k = 0 ∨ c k < c (bstF p c k - 1))) : bstF p c (k + 1) = k + 1 := if_pos h
theorem bstF_n {p : Nat → Bool} {c : Nat → Nat} {k : Nat} (h : ¬ (p k = true ∧ (bstF p c k = 0 ∨ c k < c (bstF p c k - 1)))) : bstF p c (k + 1) = bstF p c k := if_neg h
theorem ct_y {p : Nat → Bool} {k : Nat} (h : p k = true) : fb_ct p (k + 1) = fb_ct p k + 1 := by rw [fb_ct_succ, h]; rfl
theorem ct_n {p : Nat → Bool} {k : Nat} (h : p k = false) : fb_ct p (k + 1) = fb_ct p k := by rw [fb_ct_succ, h]; rfl
abbrev tlI : List (Nat × Nat) := [(12, 9), (12, 10), (12, 11), (12, 12), (17, 7), (17, 8), (17, 9)]
section
variable {b : AB} {P : PL}
theorem tell_lp (hw : wfB b) (y1 y2 : Int32) : ∀ d k f (g : CS), k + d = nR b → d < f → TB b g → TV b (rwA b k) g → TLa b (pkB b y1 y2) k g → Ev (fX7_tell_83 P f g y1 y2 (nI k)) (fun g' => TLa b (pkB b y1 y2) (nR b) g' ∧ fC tlI [] [] g g') := by
  have hR := nR_le hw
  intro d
  induction d with
  | zero =>
    intro k f g hk hf hB hV hL
    obtain ⟨f, rfl⟩ : ∃ f', f = f' + 1 := ⟨f - 1, by omega⟩
    have hk : k = nR b := hk
    subst hk
    rw [fX7_tell_83, hB.2.2.1, if_pos (nI_le (by omega) (by omega))]
    exact ev_some.mpr ⟨hL, fC.refl g⟩
  | succ d ih =>
    intro k f g hk hf hB hV hL
    obtain ⟨f, rfl⟩ : ∃ f', f = f' + 1 := ⟨f - 1, by omega⟩
    have hcl := bstF_le (pkB b y1 y2) (cR b) k
    have go : ∀ g1 : CS, TLa b (pkB b y1 y2) (k + 1) g1 → fC [(17, 7), (17, 8), (17, 9)] [] [] g g1 → Ev (fX7_tell_161 P (fX7_tell_83 P f) g1 y1 y2 (nI k)) (fun g' => TLa b (pkB b y1 y2) (nR b) g' ∧ fC tlI [] [] g g') := by
      intro g1 hL1 hF
      unfold fX7_tell_161
      refine Ev.v (adv_eq hw (show k < nR b by omega) (hB.keep hF (by decide) (by decide)) (hV.keep hF (by decide))) ?_
      rintro g2 ⟨a1, a2, a3⟩
      rw [nI_1, bnd_e]
      refine (ih (k + 1) f g2 (by omega) (by omega) a1 a2 (hL1.keep a3 (by decide))).mono ?_
      rintro z ⟨z1, z2⟩
      exact ⟨z1, ((hF.mono (by decide) (by decide) (by decide)).trans (a3.mono (by decide) (by decide) (by decide))).trans z2⟩
    rw [fX7_tell_83, hB.2.2.1, if_neg (nI_ge (by omega) (by omega)), hV.1]
    by_cases hp : (nI (l6 (bhA b (rwA b k))) &&& y1) = y2
    · have hpk : pkB b y1 y2 k = true := decide_eq_true hp
      rw [if_pos hp, bnd_e, hL.1, nI_1]
      have F1 : fC [(17, 7), (17, 8), (17, 9)] [] [] g (tI g 17 7 (nI (fb_ct (pkB b y1 y2) k + 1))) := (fC.refl g).tI (by decide)
      have e8 : (tI g 17 7 (nI (fb_ct (pkB b y1 y2) k + 1))).1 17 8 = cOf b (bstF (pkB b y1 y2) (cR b) k) := hL.2.1
      have e10 : (tI g 17 7 (nI (fb_ct (pkB b y1 y2) k + 1))).1 12 10 = nI (cR b k) := hV.2.1
      have ck := cR_le hw k
      have up1 : (bstF (pkB b y1 y2) (cR b) k = 0 ∨ cR b k < cR b (bstF (pkB b y1 y2) (cR b) k - 1)) → Ev (fX7_tell_139 P (fX7_tell_83 P f) (tI g 17 7 (nI (fb_ct (pkB b y1 y2) k + 1))) y1 y2 (nI k)) (fun g' => TLa b (pkB b y1 y2) (nR b) g' ∧ fC tlI [] [] g g') := by
        intro hc
        unfold fX7_tell_139
        rw [bnd_e, bnd_e, e10]
        refine go _ ⟨?_, ?_, ?_⟩ ((F1.tI (by decide)).tI (by decide))
        · rw [tI_n (by omega), tI_n (by omega), tI_s, ct_y hpk]
        · rw [tI_n (by omega), tI_s, bstF_y ⟨hpk, hc⟩]; rfl
        · rw [tI_s, bstF_y ⟨hpk, hc⟩]
          show g.1 12 11 = _
          rw [hV.2.2.1]; rfl
      have same : ¬ (bstF (pkB b y1 y2) (cR b) k = 0 ∨ cR b k < cR b (bstF (pkB b y1 y2) (cR b) k - 1)) → Ev (fX7_tell_161 P (fX7_tell_83 P f) (tI g 17 7 (nI (fb_ct (pkB b y1 y2) k + 1))) y1 y2 (nI k)) (fun g' => TLa b (pkB b y1 y2) (nR b) g' ∧ fC tlI [] [] g g') := by
        intro hc
        refine go _ ⟨?_, ?_, ?_⟩ F1
        · rw [tI_s, ct_y hpk]
        · rw [bstF_n (fun z => hc z.2)]; exact e8
        · rw [bstF_n (fun z => hc z.2)]; exact hL.2.2
      rw [e8, e10]
      by_cases h0 : bstF (pkB b y1 y2) (cR b) k = 0
      · rw [if_pos (by rw [h0]; rfl)]
        exact up1 (Or.inl h0)
      · have ec : cOf b (bstF (pkB b y1 y2) (cR b) k) = nI (cR b (bstF (pkB b y1 y2) (cR b) k - 1)) := if_neg h0
        have cb := cR_le hw (bstF (pkB b y1 y2) (cR b) k - 1)
        rw [ec, if_neg (nI_nm1 (by omega)), iLE (by omega) (by omega)]
        by_cases h1 : cR b (bstF (pkB b y1 y2) (cR b) k - 1) ≤ cR b k
        · rw [if_pos h1]
          exact same (by omega)
        · rw [if_neg h1]
          exact up1 (Or.inr (by omega))
    · have hpk : pkB b y1 y2 k = false := decide_eq_false hp
      rw [if_neg hp]
      refine go g ⟨?_, ?_, ?_⟩ (fC.refl g)
      · rw [ct_n hpk]; exact hL.1
      · rw [bstF_n (fun z => by rw [hpk] at z; exact absurd z.1 (by decide))]; exact hL.2.1
      · rw [bstF_n (fun z => by rw [hpk] at z; exact absurd z.1 (by decide))]; exact hL.2.2
/-- all that the class keeps of turns and surveys, at the stamp T -/
def TLm (b : AB) (g : CS) : Prop := TLa b (pkB b (g.1 17 5) (g.1 17 6)) (nR b) g
def pC (b : AB) (m i : Nat) : Bool := decide (chA b (bhA b (rwA b i)) = m + 1)
def mR (b : AB) (i : Nat) : Nat := mvA b (rwA b i)
def SEa (b : AB) (k : Nat) (g : CS) : Prop := ∀ m, m < 6 → g.2.1 18 m = nI (fb_ct (pC b m) k) ∧ g.2.1 19 m = cOf b (bstF (pC b m) (cR b) k) ∧ g.2.1 20 m = nOf b (bstF (pC b m) (cR b) k) ∧ g.2.1 21 m = pm (hlpF (pC b m) (mR b) k)
def tR (b : AB) (i : Nat) : Nat := knA (bN b) (bhA b (rwA b i))
def PAa (b : AB) (k : Nat) (g : CS) : Prop := g.1 17 10 = (if k = 0 then -1 else nI (tR b (knF (tR b) (cR b) k - 1))) ∧ (0 < k → g.1 17 11 = nI (cR b (knF (tR b) (cR b) k - 1)) ∧ g.1 17 12 = nI (l6 (rwA b (knF (tR b) (cR b) k - 1))))
def SV (b : AB) (T : Nat) (g : CS) : Prop := memo T (g.1 12 1) (TM b g) ∧ memo T (g.1 17 4) (TLm b g) ∧ memo T (g.1 17 2) (SEa b (nR b) g) ∧ memo T (g.1 17 3) (PAa b (nR b) g)
/-- where turns are gone through, and what is found so kept -/
abbrev svI : List (Nat × Nat) := [(10, 1), (12, 1), (12, 6), (12, 7), (12, 8), (12, 9), (12, 10), (12, 11), (12, 12), (17, 2), (17, 3), (17, 4), (17, 5), (17, 6), (17, 7), (17, 8), (17, 9), (17, 10), (17, 11), (17, 12)]
abbrev svA : List Nat := [11, 13, 14, 15, 16, 18, 19, 20, 21]
theorem svno30 : ∀ k, k ≤ 5 → ((30 : Nat), k) ∉ svI := by
  intro k _ h
  simp at h
theorem TLm.keep {g g' : CS} {oi : List (Nat × Nat)} {la ll : List Nat} (h : TLm b g) (f : fC oi la ll g g') (h1 : (17, 5) ∉ oi ∧ (17, 6) ∉ oi ∧ (17, 7) ∉ oi ∧ (17, 8) ∉ oi ∧ (17, 9) ∉ oi) : TLm b g' := by
  unfold TLm TLa
  rw [f.i _ _ h1.1, f.i _ _ h1.2.1, f.i _ _ h1.2.2.1, f.i _ _ h1.2.2.2.1, f.i _ _ h1.2.2.2.2]
  exact h
theorem SEa.keep {k : Nat} {g g' : CS} {oi : List (Nat × Nat)} {la ll : List Nat} (h : SEa b k g) (f : fC oi la ll g g') (h1 : 18 ∉ la ∧ 19 ∉ la ∧ 20 ∉ la ∧ 21 ∉ la) : SEa b k g' := by
  unfold SEa
  rw [f.2.1 _ h1.1, f.2.1 _ h1.2.1, f.2.1 _ h1.2.2.1, f.2.1 _ h1.2.2.2]
  exact h
theorem PAa.keep {k : Nat} {g g' : CS} {oi : List (Nat × Nat)} {la ll : List Nat} (h : PAa b k g) (f : fC oi la ll g g') (h1 : (17, 10) ∉ oi ∧ (17, 11) ∉ oi ∧ (17, 12) ∉ oi) : PAa b k g' := by
  unfold PAa
  rw [f.i _ _ h1.1, f.i _ _ h1.2.1, f.i _ _ h1.2.2]
  exact h
theorem TM.keep {g g' : CS} {oi : List (Nat × Nat)} {la ll : List Nat} (h : TM b g) (f : fC oi la ll g g') (h1 : 13 ∉ la ∧ 14 ∉ la) : TM b g' := by
  unfold TM
  rw [f.2.1 _ h1.1, f.2.1 _ h1.2]
  exact h
theorem setS_id : setS b (bS b) = b := rfl
theorem tell_eq (hw : wfB b) {T : Nat} {g : CS} (hT : g.1 30 7 = nI T) (hS : SB b P g 30) (hV : SV b T g) (y1 y2 : Int32) : Ev (fX7_tell P g y1 y2) (fun g' => TLa b (pkB b y1 y2) (nR b) g' ∧ SV b T g' ∧ fC svI svA [] g g') := by
  have hR := nR_le hw
  obtain ⟨m1, m2, m3, m4⟩ := hV
  have fresh : Ev (fX7_tell_31 P g y1 y2) (fun g' => TLa b (pkB b y1 y2) (nR b) g' ∧ SV b T g' ∧ fC svI svA [] g g') := by
    unfold fX7_tell_31
    simp only [bnd_e]
    rw [hT]
    have F1 : fC [(17, 4), (17, 5), (17, 6), (17, 7), (17, 8), (17, 9)] [] [] g (tI (tI (tI (tI (tI (tI g 17 4 (nI T)) 17 5 y1) 17 6 y2) 17 7 0) 17 8 (-1)) 17 9 0) := ((((((fC.refl g).tI (by decide)).tI (by decide)).tI (by decide)).tI (by decide)).tI (by decide)).tI (by decide)
    have hS1 := hS.keep F1 (by intro k _ h; simp at h)
    rw [hS1.2.2.2.1]
    refine Ev.v (begin_eq hw hw.2.2.2.2.1 (by rw [F1.i 30 7 (by decide)]; exact hT) hS1 (by rw [F1.i 12 1 (by decide)]; exact m1.imp (fun h => h.keep F1 (by decide)))) ?_
    rintro g2 ⟨t1, t2, t3, t4, t5⟩
    rw [setS_id] at t1 t2
    rw [← rwA_0 b] at t2
    refine (tell_lp hw y1 y2 (nR b) 0 fuel g2 (by omega) (by unfold fuel; omega) t1 t2 ⟨?_, ?_, ?_⟩).mono ?_
    · rw [t5.i 17 7 (by decide)]; rfl
    · rw [t5.i 17 8 (by decide)]; rfl
    · rw [t5.i 17 9 (by decide)]; rfl
    · rintro z ⟨z1, z2⟩
      have F : fC svI svA [] g z := ((F1.mono (by decide) (by decide) (by decide)).trans (t5.mono (by decide) (by decide) (by decide))).trans (z2.mono (by decide) (by decide) (by decide))
      have G : fC [(10, 1), (12, 1), (12, 6), (12, 7), (12, 8), (12, 9), (12, 10), (12, 11), (12, 12), (17, 4), (17, 5), (17, 6), (17, 7), (17, 8), (17, 9)] [11, 13, 14, 15, 16] [] g z := ((F1.mono (by decide) (by decide) (by decide)).trans (t5.mono (by decide) (by decide) (by decide))).trans (z2.mono (by decide) (by decide) (by decide))
      refine ⟨z1, ⟨?_, ?_, ?_, ?_⟩, F⟩
      · rw [z2.i 12 1 (by decide), t4]; exact memo.new (t3.keep z2 (by decide))
      · rw [z2.i 17 4 (by decide), t5.i 17 4 (by decide)]
        refine memo.new ?_
        have e5 : z.1 17 5 = y1 := by rw [z2.i 17 5 (by decide), t5.i 17 5 (by decide)]; rfl
        have e6 : z.1 17 6 = y2 := by rw [z2.i 17 6 (by decide), t5.i 17 6 (by decide)]; rfl
        unfold TLm
        rw [e5, e6]
        exact z1
      · rw [G.i 17 2 (by decide)]; exact m3.imp (fun h => h.keep G (by decide))
      · rw [G.i 17 3 (by decide)]; exact m4.imp (fun h => h.keep G (by decide))
  unfold fX7_tell
  by_cases e1 : g.1 17 4 = g.1 30 7
  · rw [if_pos e1]
    by_cases e2 : g.1 17 5 = y1
    · rw [if_pos e2]
      by_cases e3 : g.1 17 6 = y2
      · rw [if_pos e3]
        have := m2.2 (e1.trans hT)
        unfold TLm at this
        rw [e2, e3] at this
        exact ev_some.mpr ⟨this, ⟨m1, m2, m3, m4⟩, fC.refl g⟩
      · rw [if_neg e3]; exact fresh
    · rw [if_neg e2]; exact fresh
  · rw [if_neg e1]; exact fresh
/-! who has the chair behind which turns -/
theorem bitC : ∀ s, s < 64 → fJ6_bitCount_0f7a4 (nI s) = some (nI (pcN s)) := by decide +kernel
theorem isLess_eq {s t : Nat} (hs : s < 64) (ht : t < 64) : fX7_isLess (nI s) (nI t) = some (nI (decide (pcN s < pcN t ∨ (pcN s = pcN t ∧ s < t))).toNat) := by
  have p1 := pcN_le s
  have p2 := pcN_le t
  have e0 : (0 : Int32).toInt = 0 := rfl
  unfold fX7_isLess fX7_isLess_23
  rw [bitC s hs, bndv_s, bitC t ht, bndv_s, bnd_e]
  by_cases h1 : pcN s < pcN t
  · rw [if_pos (by rw [fa_lt, pk_sub_toInt (by omega) (by omega), e0]; omega), decide_eq_true (Or.inl h1)]; rfl
  · rw [if_neg (by rw [fa_lt, pk_sub_toInt (by omega) (by omega), e0]; omega)]
    by_cases h2 : pcN s = pcN t
    · rw [if_pos (by rw [h2]; exact Int32.sub_self _), iLE (by omega) (by omega)]
      by_cases h3 : t ≤ s
      · rw [if_pos h3, decide_eq_false (by omega)]; rfl
      · rw [if_neg h3, decide_eq_true (Or.inr ⟨h2, by omega⟩)]; rfl
    · rw [if_neg (fun z => h2 ?_), decide_eq_false (by omega)]; rfl
      have := congrArg Int32.toInt z
      rw [pk_sub_toInt (by omega) (by omega), e0] at this
      omega
abbrev seI : List (Nat × Nat) := [(12, 9), (12, 10), (12, 11), (12, 12)]
abbrev seA : List Nat := [18, 19, 20, 21]
theorem hlpF_y {p : Nat → Bool} {s : Nat → Nat} {k : Nat} (h : p k = true ∧ (hlpF p s k = 0 ∨ pcN (s k) < pcN (hlpF p s k - 1) ∨ (pcN (s k) = pcN (hlpF p s k - 1) ∧ s k < hlpF p s k - 1))) : hlpF p s (k + 1) = s k + 1 := if_pos h
theorem hlpF_n {p : Nat → Bool} {s : Nat → Nat} {k : Nat} (h : ¬ (p k = true ∧ (hlpF p s k = 0 ∨ pcN (s k) < pcN (hlpF p s k - 1) ∨ (pcN (s k) = pcN (hlpF p s k - 1) ∧ s k < hlpF p s k - 1)))) : hlpF p s (k + 1) = hlpF p s k := if_neg h
theorem seat_eq (hw : wfB b) {k c : Nat} {g : CS} (hV : TV b (rwA b k) g) (hE : SEa b k g) (hc : c < 6) (hch : chA b (bhA b (rwA b k)) = c + 1) : Ev (fX7_seat P g (nI c)) (fun g' => SEa b (k + 1) g' ∧ fC [] seA [] g g') := by
  have hmk : mR b k < 64 := mvA_lt hw _
  have hpc : pC b c k = true := decide_eq_true hch
  have hpn : ∀ m, m ≠ c → pC b m k = false := fun m hm => decide_eq_false (by rw [hch]; omega)
  obtain ⟨x18, x19, x20, x21⟩ := hE c hc
  have ck := cR_le hw k
  have hh := hlpF_le (p := pC b c) (s := mR b) (B := 64) (fun k => mvA_lt hw _) k
  -- the rows of the others are as they were
  have fin : ∀ g' : CS, g'.2.1 18 c = nI (fb_ct (pC b c) (k + 1)) → g'.2.1 19 c = cOf b (bstF (pC b c) (cR b) (k + 1)) → g'.2.1 20 c = nOf b (bstF (pC b c) (cR b) (k + 1)) → g'.2.1 21 c = pm (hlpF (pC b c) (mR b) (k + 1)) → (∀ m a, m ≠ c → g'.2.1 a m = g.2.1 a m) → SEa b (k + 1) g' := by
    intro g' h1 h2 h3 h4 h5 m hm
    by_cases e : m = c
    · rw [e]; exact ⟨h1, h2, h3, h4⟩
    · rw [h5 m 18 e, h5 m 19 e, h5 m 20 e, h5 m 21 e, ct_n (hpn m e), bstF_n (fun z => by rw [hpn m e] at z; exact absurd z.1 (by decide)), hlpF_n (fun z => by rw [hpn m e] at z; exact absurd z.1 (by decide))]
      exact hE m hm
  have oth : ∀ (g1 : CS) (a i : Nat) (x : Int32), i = c → (∀ m a, m ≠ c → g1.2.1 a m = g.2.1 a m) → ∀ m a', m ≠ c → (tA g1 a i x).2.1 a' m = g.2.1 a' m := fun g1 a i x hi h m a' hm => by
    rw [tA_2]
    split
    · rename_i e
      rw [upd_j, if_neg (by omega), ← e]; exact h m a' hm
    · exact h m a' hm
  -- helpers, behind the cost
  have s62 : ∀ g2 : CS, g2.2.1 18 c = nI (fb_ct (pC b c) (k + 1)) → g2.2.1 19 c = cOf b (bstF (pC b c) (cR b) (k + 1)) → g2.2.1 20 c = nOf b (bstF (pC b c) (cR b) (k + 1)) → g2.2.1 21 c = g.2.1 21 c → g2.1 12 12 = nI (mR b k) → (∀ m a, m ≠ c → g2.2.1 a m = g.2.1 a m) → fC [] seA [] g g2 → Ev (fX7_seat_62 P g2 (nI c)) (fun g' => SEa b (k + 1) g' ∧ fC [] seA [] g g') := by
    intro g2 h1 h2 h3 h4 h5 h6 h7
    unfold fX7_seat_62
    refine Ev.k (ib_n hc (by omega)) ?_
    have up1 : (hlpF (pC b c) (mR b) k = 0 ∨ pcN (mR b k) < pcN (hlpF (pC b c) (mR b) k - 1) ∨ (pcN (mR b k) = pcN (hlpF (pC b c) (mR b) k - 1) ∧ mR b k < hlpF (pC b c) (mR b) k - 1)) → Ev (fX7_seat_91 P g2 (nI c)) (fun g' => SEa b (k + 1) g' ∧ fC [] seA [] g g') := by
      intro hcd
      unfold fX7_seat_91
      refine Ev.k (ib_n hc (by omega)) ?_
      rw [bnd_e, h5, ix_n (by omega)]
      refine ev_some.mpr ⟨fin _ h1 h2 h3 ?_ (oth g2 21 c _ rfl h6), h7.tA (by decide)⟩
      show upd (g2.2.1 21) c _ c = _
      rw [upd_j, if_pos rfl, hlpF_y ⟨hpc, hcd⟩, pm_s]
    rw [ix_n (by omega), h4, x21, h5]
    by_cases e0 : hlpF (pC b c) (mR b) k = 0
    · rw [if_pos (by rw [e0]; rfl)]
      exact up1 (Or.inl e0)
    · have ep : pm (hlpF (pC b c) (mR b) k) = nI (hlpF (pC b c) (mR b) k - 1) := by unfold pm; rw [if_neg e0]
      rw [ep, if_neg (nI_nm1 (by omega))]
      refine Ev.k (ib_n hc (by omega)) ?_
      rw [isLess_eq hmk (by omega), bndv_s]
      by_cases c2 : pcN (mR b k) < pcN (hlpF (pC b c) (mR b) k - 1) ∨ (pcN (mR b k) = pcN (hlpF (pC b c) (mR b) k - 1) ∧ mR b k < hlpF (pC b c) (mR b) k - 1)
      · rw [decide_eq_true c2, if_neg (show ¬ nI true.toNat = 0 by decide)]
        exact up1 (Or.inr c2)
      · rw [decide_eq_false c2, if_pos (show nI false.toNat = 0 from rfl)]
        exact ev_some.mpr ⟨fin g2 h1 h2 h3 (by rw [h4, x21, hlpF_n (fun z => z.2.elim e0 c2)]) h6, h7⟩
  unfold fX7_seat
  refine Ev.k (ib_n hc (by omega)) (Ev.k (ib_n hc (by omega)) ?_)
  rw [bnd_e, ix_n (by omega), x18, nI_1]
  have g5 : ∀ m a, m ≠ c → (tA g 18 c (nI (fb_ct (pC b c) k + 1))).2.1 a m = g.2.1 a m := oth g 18 c _ rfl (fun _ _ _ => rfl)
  have F1 : fC [] seA [] g (tA g 18 c (nI (fb_ct (pC b c) k + 1))) := (fC.refl g).tA (by decide)
  have y18 : (tA g 18 c (nI (fb_ct (pC b c) k + 1))).2.1 18 c = nI (fb_ct (pC b c) (k + 1)) := by
    show upd (g.2.1 18) c _ c = _
    rw [upd_j, if_pos rfl, ct_y hpc]
  have y10 : (tA g 18 c (nI (fb_ct (pC b c) k + 1))).1 12 10 = nI (cR b k) := hV.2.1
  refine Ev.k (ib_n hc (by omega)) ?_
  have y19 : (tA g 18 c (nI (fb_ct (pC b c) k + 1))).2.1 19 c = cOf b (bstF (pC b c) (cR b) k) := x19
  have up2 : (bstF (pC b c) (cR b) k = 0 ∨ cR b k < cR b (bstF (pC b c) (cR b) k - 1)) → Ev (fX7_seat_36 P (tA g 18 c (nI (fb_ct (pC b c) k + 1))) (nI c)) (fun g' => SEa b (k + 1) g' ∧ fC [] seA [] g g') := by
    intro hcd
    unfold fX7_seat_36
    refine Ev.k (ib_n hc (by omega)) ?_
    rw [bnd_e, y10, ix_n (by omega)]
    refine Ev.k (ib_n hc (by omega)) ?_
    rw [bnd_e]
    refine s62 _ y18 ?_ ?_ rfl hV.2.2.2 (oth _ 20 c _ rfl (oth _ 19 c _ rfl g5)) ((F1.tA (by decide)).tA (by decide))
    · show upd (g.2.1 19) c _ c = _
      rw [upd_j, if_pos rfl, bstF_y ⟨hpc, hcd⟩]; rfl
    · show upd (g.2.1 20) c _ c = _
      rw [upd_j, if_pos rfl, bstF_y ⟨hpc, hcd⟩]
      show g.1 12 11 = _
      rw [hV.2.2.1]; rfl
  rw [y19, y10]
  by_cases h0 : bstF (pC b c) (cR b) k = 0
  · rw [if_pos (by rw [h0]; rfl)]
    exact up2 (Or.inl h0)
  · have ec : cOf b (bstF (pC b c) (cR b) k) = nI (cR b (bstF (pC b c) (cR b) k - 1)) := if_neg h0
    have cb := cR_le hw (bstF (pC b c) (cR b) k - 1)
    rw [ec, if_neg (nI_nm1 (by omega))]
    refine Ev.k (ib_n hc (by omega)) ?_
    rw [iLE (by omega) (by omega)]
    by_cases h1 : cR b (bstF (pC b c) (cR b) k - 1) ≤ cR b k
    · rw [if_pos h1]
      refine s62 _ y18 ?_ ?_ rfl hV.2.2.2 g5 F1
      · rw [y19, bstF_n (by omega)]
      · show g.2.1 20 c = _
        rw [x20, bstF_n (by omega)]
    · rw [if_neg h1]
      exact up2 (Or.inr (by omega))
theorem seats_lp (hw : wfB b) : ∀ d k f (g : CS), k + d = nR b → d < f → SB b P g 30 → TB b g → TV b (rwA b k) g → SEa b k g → Ev (fX7_seatAll_74 P f g (nI k)) (fun g' => SEa b (nR b) g' ∧ fC seI seA [] g g') := by
  have hR := nR_le hw
  intro d
  induction d with
  | zero =>
    intro k f g hk hf hS hB hV hE
    obtain ⟨f, rfl⟩ : ∃ f', f = f' + 1 := ⟨f - 1, by omega⟩
    have hk : k = nR b := hk
    subst hk
    rw [fX7_seatAll_74, hB.2.2.1, if_pos (nI_le (by omega) (by omega))]
    exact ev_some.mpr ⟨hE, fC.refl g⟩
  | succ d ih =>
    intro k f g hk hf hS hB hV hE
    obtain ⟨f, rfl⟩ : ∃ f', f = f' + 1 := ⟨f - 1, by omega⟩
    have go : ∀ g1 : CS, SEa b (k + 1) g1 → fC [] seA [] g g1 → Ev (fX7_seatAll_110 P (fX7_seatAll_74 P f) g1 (nI k)) (fun g' => SEa b (nR b) g' ∧ fC seI seA [] g g') := by
      intro g1 hE1 hF
      unfold fX7_seatAll_110
      refine Ev.v (adv_eq hw (show k < nR b by omega) (hB.keep hF (by decide) (by decide)) (hV.keep hF (by decide))) ?_
      rintro g2 ⟨a1, a2, a3⟩
      rw [nI_1, bnd_e]
      refine (ih (k + 1) f g2 (by omega) (by omega) ((hS.keep hF (by intro k _ h; simp at h)).keep a3 (by intro k _ h; simp at h)) a1 a2 (hE1.keep a3 (by decide))).mono ?_
      rintro z ⟨z1, z2⟩
      exact ⟨z1, ((hF.mono (by decide) (by decide) (by decide)).trans (a3.mono (by decide) (by decide) (by decide))).trans z2⟩
    have hc := chA_le hw (bhA b (rwA b k))
    rw [fX7_seatAll_74, hB.2.2.1, if_neg (nI_ge (by omega) (by omega)), hV.1, chairOf_eq hw (bhA_lk hw _) hS, bndc_s]
    by_cases e : chA b (bhA b (rwA b k)) = 0
    · rw [if_pos (by rw [e]; rfl)]
      refine go g (fun m hm => ?_) (fC.refl g)
      have hpn : pC b m k = false := decide_eq_false (by omega)
      rw [ct_n hpn, bstF_n (fun z => by rw [hpn] at z; exact absurd z.1 (by decide)), hlpF_n (fun z => by rw [hpn] at z; exact absurd z.1 (by decide))]
      exact hE m hm
    · have ep : pm (chA b (bhA b (rwA b k))) = nI (chA b (bhA b (rwA b k)) - 1) := by unfold pm; rw [if_neg e]
      rw [ep, if_neg (nI_nm1 (by omega))]
      refine Ev.v (seat_eq hw hV hE (c := chA b (bhA b (rwA b k)) - 1) (by omega) (by omega)) ?_
      rintro g1 ⟨h1, h2⟩
      exact go g1 h1 h2
theorem fill6 {o : Nat} (x : Int32) : ∀ d k f (g : CS), k + d = 6 → d < f → (∀ j, j < k → g.2.1 o j = x) → Ev (fJ7_fill_53178_5 P f g o x (nI k) (6 : Int32)) (fun g' => (∀ j, j < 6 → g'.2.1 o j = x) ∧ fC [] [o] [] g g') := by
  intro d
  induction d with
  | zero =>
    intro k f g hk hf h
    obtain ⟨f, rfl⟩ : ∃ f', f = f' + 1 := ⟨f - 1, by omega⟩
    have hk : k = 6 := hk
    subst hk
    rw [fJ7_fill_53178_5, if_pos (by decide)]
    exact ev_some.mpr ⟨h, fC.refl g⟩
  | succ d ih =>
    intro k f g hk hf h
    obtain ⟨f, rfl⟩ : ∃ f', f = f' + 1 := ⟨f - 1, by omega⟩
    rw [fJ7_fill_53178_5, if_neg (show ¬ (6 : Int32) ≤ nI k from nI_ge (b := 6) (by omega) (by omega))]
    refine Ev.k (ib_n (by omega) (by omega)) ?_
    rw [bnd_e, nI_1, bnd_e, ix_n (by omega)]
    refine (ih (k + 1) f (tA g o k x) (by omega) (by omega) (fun j hj => ?_)).mono ?_
    · rw [tA_2, if_pos rfl, upd_j]
      by_cases e : j = k
      · rw [if_pos e]
      · rw [if_neg e]; exact h j (by omega)
    · rintro z ⟨z1, z2⟩
      exact ⟨z1, ((fC.refl g).tA (by simp)).trans z2⟩
theorem fill6_eq {o : Nat} (x : Int32) (g : CS) : Ev (fJ7_fill_53178 P g o x) (fun g' => (∀ j, j < 6 → g'.2.1 o j = x) ∧ fC [] [o] [] g g') := fill6 x 6 0 fuel g (by omega) (by unfold fuel; omega) (fun j hj => absurd hj (Nat.not_lt_zero j))
theorem seats_eq (hw : wfB b) {T : Nat} {g : CS} (hT : g.1 30 7 = nI T) (hS : SB b P g 30) (hV : SV b T g) : Ev (fX7_seatAll P g) (fun g' => SEa b (nR b) g' ∧ SV b T g' ∧ fC svI svA [] g g') := by
  have hR := nR_le hw
  obtain ⟨m1, m2, m3, m4⟩ := hV
  unfold fX7_seatAll
  by_cases e1 : g.1 17 2 = g.1 30 7
  · rw [if_pos e1]
    exact ev_some.mpr ⟨m3.2 (e1.trans hT), ⟨m1, m2, m3, m4⟩, fC.refl g⟩
  · rw [if_neg e1, bnd_e, hT]
    have F0 : fC [(17, 2)] seA [] g (tI g 17 2 (nI T)) := (fC.refl g).tI (by decide)
    refine Ev.v (fill6_eq (0 : Int32) _) ?_
    rintro g1 ⟨a1, f1⟩
    refine Ev.v (fill6_eq (-1 : Int32) _) ?_
    rintro g2 ⟨a2, f2⟩
    refine Ev.v (fill6_eq (0 : Int32) _) ?_
    rintro g3 ⟨a3, f3⟩
    refine Ev.v (fill6_eq (-1 : Int32) _) ?_
    rintro g4 ⟨a4, f4⟩
    have F1 : fC [(17, 2)] seA [] g g4 := (((F0.trans (f1.mono (by decide) (by decide) (by decide))).trans (f2.mono (by decide) (by decide) (by decide))).trans (f3.mono (by decide) (by decide) (by decide))).trans (f4.mono (by decide) (by decide) (by decide))
    have hE0 : SEa b 0 g4 := fun m hm => by
      refine ⟨?_, ?_, ?_, a4 m hm⟩
      · rw [f4.2.1 18 (by decide), f3.2.1 18 (by decide), f2.2.1 18 (by decide)]; exact a1 m hm
      · rw [f4.2.1 19 (by decide), f3.2.1 19 (by decide)]; exact a2 m hm
      · rw [f4.2.1 20 (by decide)]; exact a3 m hm
    have e2 : g4.1 17 2 = nI T := by rw [f4.i 17 2 (by decide), f3.i 17 2 (by decide), f2.i 17 2 (by decide), f1.i 17 2 (by decide)]; rfl
    have hS1 := hS.keep F1 (by intro k _ h; simp at h)
    rw [hS1.2.2.2.1]
    refine Ev.v (begin_eq hw hw.2.2.2.2.1 (by rw [F1.i 30 7 (by decide)]; exact hT) hS1 (by rw [F1.i 12 1 (by decide)]; exact m1.imp (fun h => h.keep F1 (by decide)))) ?_
    rintro g5 ⟨t1, t2, t3, t4, t5⟩
    rw [setS_id] at t1 t2
    rw [← rwA_0 b] at t2
    refine (seats_lp hw (nR b) 0 fuel g5 (by omega) (by unfold fuel; omega) (hS1.keep t5 no30) t1 t2 (hE0.keep t5 (by decide))).mono ?_
    rintro z ⟨z1, z2⟩
    have G : fC [(10, 1), (12, 1), (12, 6), (12, 7), (12, 8), (12, 9), (12, 10), (12, 11), (12, 12), (17, 2)] svA [] g z := ((F1.mono (by decide) (by decide) (by decide)).trans (t5.mono (by decide) (by decide) (by decide))).trans (z2.mono (by decide) (by decide) (by decide))
    refine ⟨z1, ⟨?_, ?_, ?_, ?_⟩, G.mono (by decide) (by decide) (by decide)⟩
    · rw [z2.i 12 1 (by decide), t4]; exact memo.new (t3.keep z2 (by decide))
    · rw [G.i 17 4 (by decide)]; exact m2.imp (fun h => h.keep G (by decide))
    · rw [z2.i 17 2 (by decide), t5.i 17 2 (by decide), e2]; exact memo.new z1
    · rw [G.i 17 3 (by decide)]; exact m4.imp (fun h => h.keep G (by decide))
/-! knees by turns -/
theorem knF_y {t c : Nat → Nat} {k : Nat} (h : knF t c k = 0 ∨ t (knF t c k - 1) < t k ∨ (t k = t (knF t c k - 1) ∧ c k < c (knF t c k - 1))) : knF t c (k + 1) = k + 1 := if_pos h
theorem knF_n {t c : Nat → Nat} {k : Nat} (h : ¬ (knF t c k = 0 ∨ t (knF t c k - 1) < t k ∨ (t k = t (knF t c k - 1) ∧ c k < c (knF t c k - 1)))) : knF t c (k + 1) = knF t c k := if_neg h
abbrev paI : List (Nat × Nat) := [(12, 9), (12, 10), (12, 11), (12, 12), (17, 10), (17, 11), (17, 12)]
theorem pairs_lp (hw : wfB b) : ∀ d k f (g : CS), k + d = nR b → d < f → g.1 30 1 = nI (bN b) → TB b g → TV b (rwA b k) g → PAa b k g → Ev (fX7_pairAll_47 P f g (nI k)) (fun g' => PAa b (nR b) g' ∧ fC paI [] [] g g') := by
  have hR := nR_le hw
  intro d
  induction d with
  | zero =>
    intro k f g hk hf hS hB hV hE
    obtain ⟨f, rfl⟩ : ∃ f', f = f' + 1 := ⟨f - 1, by omega⟩
    have hk : k = nR b := hk
    subst hk
    rw [fX7_pairAll_47, hB.2.2.1, if_pos (nI_le (by omega) (by omega))]
    exact ev_some.mpr ⟨hE, fC.refl g⟩
  | succ d ih =>
    intro k f g hk hf hS hB hV hE
    obtain ⟨f, rfl⟩ : ∃ f', f = f' + 1 := ⟨f - 1, by omega⟩
    have go : ∀ g1 : CS, PAa b (k + 1) g1 → fC [(17, 10), (17, 11), (17, 12)] [] [] g g1 → Ev (fX7_pairAll_133 P (fX7_pairAll_47 P f) g1 (nI k)) (fun g' => PAa b (nR b) g' ∧ fC paI [] [] g g') := by
      intro g1 hE1 hF
      unfold fX7_pairAll_133
      refine Ev.v (adv_eq hw (show k < nR b by omega) (hB.keep hF (by decide) (by decide)) (hV.keep hF (by decide))) ?_
      rintro g2 ⟨a1, a2, a3⟩
      rw [nI_1, bnd_e]
      refine (ih (k + 1) f g2 (by omega) (by omega) (by rw [a3.i 30 1 (by decide), hF.i 30 1 (by decide)]; exact hS) a1 a2 (hE1.keep a3 (by decide))).mono ?_
      rintro z ⟨z1, z2⟩
      exact ⟨z1, ((hF.mono (by decide) (by decide) (by decide)).trans (a3.mono (by decide) (by decide) (by decide))).trans z2⟩
    have tk : tR b k ≤ 6 := knA_le hw.1 hw.2.1 (bhA_lk hw _)
    have tb : tR b (knF (tR b) (cR b) k - 1) ≤ 6 := knA_le hw.1 hw.2.1 (bhA_lk hw _)
    have ck := cR_le hw k
    have cb := cR_le hw (knF (tR b) (cR b) k - 1)
    rw [fX7_pairAll_47, hB.2.2.1, if_neg (nI_ge (by omega) (by omega)), hV.1, hS, kneesIn_eq hw.1 hw.2.1 (bhA_lk hw _), bndv_s]
    have ek : knA (bN b) (bhA b (rwA b k)) = tR b k := rfl
    rw [ek]
    have up1 : (knF (tR b) (cR b) k = 0 ∨ tR b (knF (tR b) (cR b) k - 1) < tR b k ∨ (tR b k = tR b (knF (tR b) (cR b) k - 1) ∧ cR b k < cR b (knF (tR b) (cR b) k - 1))) → Ev (fX7_pairAll_106 P (fX7_pairAll_47 P f) g (nI k) (nI (tR b k))) (fun g' => PAa b (nR b) g' ∧ fC paI [] [] g g') := by
      intro hc
      unfold fX7_pairAll_106
      rw [bnd_e, bnd_e, bnd_e]
      refine go _ ⟨?_, fun _ => ⟨?_, ?_⟩⟩ ((((fC.refl g).tI (by decide)).tI (by decide)).tI (by decide))
      · rw [tI_n (by omega), tI_n (by omega), tI_s, if_neg (by omega), knF_y hc]; rfl
      · rw [tI_n (by omega), tI_s, knF_y hc]
        show g.1 12 10 = _
        rw [hV.2.1]; rfl
      · rw [tI_s, knF_y hc]
        show g.1 12 11 = _
        rw [hV.2.2.1]; rfl
    have same : ¬ (knF (tR b) (cR b) k = 0 ∨ tR b (knF (tR b) (cR b) k - 1) < tR b k ∨ (tR b k = tR b (knF (tR b) (cR b) k - 1) ∧ cR b k < cR b (knF (tR b) (cR b) k - 1))) → 0 < k → Ev (fX7_pairAll_133 P (fX7_pairAll_47 P f) g (nI k)) (fun g' => PAa b (nR b) g' ∧ fC paI [] [] g g') := by
      intro hc h0
      refine go g ⟨?_, fun _ => ?_⟩ (fC.refl g)
      · rw [hE.1, if_neg (by omega), if_neg (by omega), knF_n hc]
      · rw [knF_n hc]; exact hE.2 h0
    by_cases h0 : k = 0
    · rw [hE.1, if_pos h0, if_pos (by rw [fa_lt, n_toInt (by omega)]; have e : (-1 : Int32).toInt = -1 := rfl; omega)]
      exact up1 (Or.inl (by rw [h0]; rfl))
    · have kp := knF_pos (tR b) (cR b) k (by omega)
      rw [hE.1, if_neg h0, (hE.2 (by omega)).1, hV.2.1, iLT (by omega) (by omega)]
      have ec : csA b (rwA b k) = cR b k := rfl
      rw [ec, iEQ (by omega) (by omega), iLE (by omega) (by omega)]
      by_cases c1 : tR b (knF (tR b) (cR b) k - 1) < tR b k
      · rw [if_pos c1]
        exact up1 (Or.inr (Or.inl c1))
      · rw [if_neg c1]
        by_cases c2 : tR b k = tR b (knF (tR b) (cR b) k - 1)
        · rw [if_pos c2]
          by_cases c3 : cR b (knF (tR b) (cR b) k - 1) ≤ cR b k
          · rw [if_pos c3]
            exact same (by omega) (by omega)
          · rw [if_neg c3]
            exact up1 (Or.inr (Or.inr ⟨c2, by omega⟩))
        · rw [if_neg c2]
          exact same (by omega) (by omega)
theorem pairs_eq (hw : wfB b) {T : Nat} {g : CS} (hT : g.1 30 7 = nI T) (hS : SB b P g 30) (hV : SV b T g) : Ev (fX7_pairAll P g) (fun g' => PAa b (nR b) g' ∧ SV b T g' ∧ fC svI svA [] g g') := by
  have hR := nR_le hw
  obtain ⟨m1, m2, m3, m4⟩ := hV
  unfold fX7_pairAll
  by_cases e1 : g.1 17 3 = g.1 30 7
  · rw [if_pos e1]
    exact ev_some.mpr ⟨m4.2 (e1.trans hT), ⟨m1, m2, m3, m4⟩, fC.refl g⟩
  · rw [if_neg e1, bnd_e, bnd_e, hT]
    have F1 : fC [(17, 3), (17, 10)] [] [] g (tI (tI g 17 3 (nI T)) 17 10 (-1)) := ((fC.refl g).tI (by decide)).tI (by decide)
    have hS1 := hS.keep F1 (by intro k _ h; simp at h)
    rw [hS1.2.2.2.1]
    refine Ev.v (begin_eq hw hw.2.2.2.2.1 (by rw [F1.i 30 7 (by decide)]; exact hT) hS1 (by rw [F1.i 12 1 (by decide)]; exact m1.imp (fun h => h.keep F1 (by decide)))) ?_
    rintro g5 ⟨t1, t2, t3, t4, t5⟩
    rw [setS_id] at t1 t2
    rw [← rwA_0 b] at t2
    refine (pairs_lp hw (nR b) 0 fuel g5 (by omega) (by unfold fuel; omega) (hS1.keep t5 no30).1 t1 t2 ⟨?_, fun h => absurd h (by omega)⟩).mono ?_
    · rw [t5.i 17 10 (by decide)]; rfl
    · rintro z ⟨z1, z2⟩
      have G : fC [(10, 1), (12, 1), (12, 6), (12, 7), (12, 8), (12, 9), (12, 10), (12, 11), (12, 12), (17, 3), (17, 10), (17, 11), (17, 12)] [11, 13, 14, 15, 16] [] g z := ((F1.mono (by decide) (by decide) (by decide)).trans (t5.mono (by decide) (by decide) (by decide))).trans (z2.mono (by decide) (by decide) (by decide))
      refine ⟨z1, ⟨?_, ?_, ?_, ?_⟩, G.mono (by decide) (by decide) (by decide)⟩
      · rw [z2.i 12 1 (by decide), t4]; exact memo.new (t3.keep z2 (by decide))
      · rw [G.i 17 4 (by decide)]; exact m2.imp (fun h => h.keep G (by decide))
      · rw [G.i 17 2 (by decide)]; exact m3.imp (fun h => h.keep G (by decide))
      · rw [z2.i 17 3 (by decide), t5.i 17 3 (by decide)]; exact memo.new z1
/-! reached at all -/
theorem chA_S (S : Nat) (a : Nat → Nat) : chA (setS b S) a = chA b a := rfl
theorem reach_lp {b' : AB} (hw : wfB b') (hw0 : wfB b) (hn : bN b' = bN b) (hch : ∀ a, chA b' a = chA b a) {m : Nat} (hm : m < 6) : ∀ d k f (g : CS), k + d = nR b' → d < f → SB b P g 30 → TB b' g → TV b' (rwA b' k) g → fb_ct (pC b' m) k = 0 → Ev (fX7_reaches_10 P f g (nI m) (nI k)) (fun z => z.1 = nI (decide (0 < fb_ct (pC b' m) (nR b'))).toNat ∧ fC seI [] [] g z.2) := by
  have hR := nR_le hw
  intro d
  induction d with
  | zero =>
    intro k f g hk hf hS hB hV hE
    obtain ⟨f, rfl⟩ : ∃ f', f = f' + 1 := ⟨f - 1, by omega⟩
    have hk : k = nR b' := hk
    subst hk
    rw [fX7_reaches_10, hB.2.2.1, if_pos (nI_le (by omega) (by omega))]
    exact ev_some.mpr ⟨by rw [hE]; rfl, fC.refl g⟩
  | succ d ih =>
    intro k f g hk hf hS hB hV hE
    obtain ⟨f, rfl⟩ : ∃ f', f = f' + 1 := ⟨f - 1, by omega⟩
    have hlk := bhA_lk hw (rwA b' k)
    rw [hn] at hlk
    have hc := chA_le hw0 (bhA b' (rwA b' k))
    rw [fX7_reaches_10, hB.2.2.1, if_neg (nI_ge (by omega) (by omega)), hV.1, chairOf_eq hw0 hlk hS, bndc_s]
    by_cases e : chA b (bhA b' (rwA b' k)) = m + 1
    · rw [if_pos ((pm_eq (by omega) (by omega)).mpr e)]
      have hp : pC b' m k = true := decide_eq_true (by rw [hch]; exact e)
      have : 0 < fb_ct (pC b' m) (nR b') := fb_ct_pos.mpr ⟨k, by omega, hp⟩
      exact ev_some.mpr ⟨by rw [decide_eq_true this]; rfl, fC.refl g⟩
    · rw [if_neg (fun z => e ((pm_eq (by omega) (by omega)).mp z))]
      refine Ev.v (adv_eq hw (show k < nR b' by omega) hB hV) ?_
      rintro g2 ⟨a1, a2, a3⟩
      rw [nI_1, bnd_e]
      refine (ih (k + 1) f g2 (by omega) (by omega) (hS.keep a3 (by intro k _ h; simp at h)) a1 a2 (by rw [ct_n (decide_eq_false (by rw [hch]; exact e))]; exact hE)).mono ?_
      rintro z ⟨z1, z2⟩
      exact ⟨z1, a3.trans z2⟩
theorem reach_eq (hw : wfB b) {T S m : Nat} {g : CS} (hm : m < 6) (hSt : S < 2 ^ bN b) (hT : g.1 30 7 = nI T) (hS : SB b P g 30) (hV : SV b T g) : Ev (fX7_reaches P g (nI m) (nI S)) (fun z => z.1 = nI (decide (0 < fb_ct (pC (setS b S) m) (nR (setS b S)))).toNat ∧ SV b T z.2 ∧ fC tbI tbA [] g z.2) := by
  have hw' := wf_setS hw hSt
  obtain ⟨m1, m2, m3, m4⟩ := hV
  unfold fX7_reaches
  refine Ev.v (begin_eq hw hSt hT hS m1) ?_
  rintro g5 ⟨t1, t2, t3, t4, t5⟩
  rw [← rwA_0 (setS b S)] at t2
  have hR := nR_le hw'
  refine (reach_lp (b := b) hw' hw rfl (fun a => rfl) hm (nR (setS b S)) 0 fuel g5 (by omega) (by unfold fuel; omega) (hS.keep t5 no30) t1 t2 rfl).mono ?_
  rintro z ⟨z1, z2⟩
  have G : fC tbI tbA [] g z.2 := t5.trans (z2.mono (by decide) (by decide) (by decide))
  refine ⟨z1, ⟨?_, ?_, ?_, ?_⟩, G⟩
  · rw [z2.i 12 1 (by decide), t4]; exact memo.new (t3.keep z2 (by decide))
  · rw [G.i 17 4 (by decide)]; exact m2.imp (fun h => h.keep G (by decide))
  · rw [G.i 17 2 (by decide)]; exact m3.imp (fun h => h.keep G (by decide))
  · rw [G.i 17 3 (by decide)]; exact m4.imp (fun h => h.keep G (by decide))
end
