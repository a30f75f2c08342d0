/-! ===== the class runs the machine ===== -/
def encW (o : Nat) : Int32 := if o = 1 then -14 else if o = 2 then -15 else encC o
theorem encW_bd {o : Nat} (h : o = 1 ∨ o = 2 ∨ (10 ≤ o ∧ o ≤ 18)) : fX2_bondOf (encW o) = some (nI (bd o)) := (by decide +kernel : ∀ o, o < 19 → (o = 1 ∨ o = 2 ∨ (10 ≤ o ∧ o ≤ 18)) → fX2_bondOf (encW o) = some (nI (bd o))) o (by omega) h
theorem encW_not {o : Nat} (h : o = 1 ∨ o = 2 ∨ (10 ≤ o ∧ o ≤ 18)) : encW o = (-11 : Int32) ↔ o = 18 := (by decide +kernel : ∀ o, o < 19 → (o = 1 ∨ o = 2 ∨ (10 ≤ o ∧ o ≤ 18)) → (encW o = (-11 : Int32) ↔ o = 18)) o (by omega) h
theorem encW_sq {o : Nat} (h : o = 1 ∨ o = 2 ∨ (10 ≤ o ∧ o ≤ 18)) : encW o = (-15 : Int32) ↔ o = 2 := (by decide +kernel : ∀ o, o < 19 → (o = 1 ∨ o = 2 ∨ (10 ≤ o ∧ o ≤ 18)) → (encW o = (-15 : Int32) ↔ o = 2)) o (by omega) h
theorem encW_op {o : Nat} (h : 10 ≤ o) : encW o = encC o := by unfold encW; rw [if_neg (by omega), if_neg (by omega)]
def SR : WS → CS → Prop
  | [], _ => True
  | e :: W, g => g.2.1 8 W.length = encW e.1 ∧ g.2.1 9 W.length = nI e.2 ∧ SR W g
theorem SR.keep : ∀ {W : WS} {g g' : CS}, SR W g → (∀ i, i < W.length → g'.2.1 8 i = g.2.1 8 i ∧ g'.2.1 9 i = g.2.1 9 i) → SR W g'
  | [], _, _, _, _ => trivial
  | e :: W, g, g', h, hk => by
    obtain ⟨k1, k2⟩ := hk W.length (by simp)
    exact ⟨by rw [k1]; exact h.1, by rw [k2]; exact h.2.1, SR.keep h.2.2 (fun i hi => hk i (by simp; omega))⟩
def CR (c : List Nat) (g : CS) : Prop := ∀ i, i < c.length → g.2.1 7 i = encC (c.getD i 0)
def MK (c : List Nat) (W : WS) (g : CS) : Prop := g.1 6 1 = nI c.length ∧ CR c g ∧ g.1 6 4 = nI W.length ∧ SR W g ∧ g.1 6 7 = nI (wi W)
theorem MK.keep {c : List Nat} {W : WS} {g g' : CS} {oi : List (Nat × Nat)} {la ll : List Nat} (h : MK c W g) (f : fC oi la ll g g') (h1 : (6, 1) ∉ oi ∧ (6, 4) ∉ oi ∧ (6, 7) ∉ oi) (h2 : 7 ∉ la ∧ 8 ∉ la ∧ 9 ∉ la) : MK c W g' := ⟨by rw [f.i _ _ h1.1]; exact h.1, fun i hi => by rw [f.2.1 7 h2.1]; exact h.2.1 i hi, by rw [f.i _ _ h1.2.1]; exact h.2.2.1, h.2.2.2.1.keep (fun i _ => ⟨by rw [f.2.1 8 h2.2.1], by rw [f.2.1 9 h2.2.2]⟩), by rw [f.i _ _ h1.2.2]; exact h.2.2.2.2⟩
theorem getD_snoc {c : List Nat} {o i : Nat} (hi : i < c.length + 1) : (c ++ [o]).getD i 0 = if i = c.length then o else c.getD i 0 := by
  rw [List.getD_eq_getElem?_getD, List.getD_eq_getElem?_getD]
  by_cases e : i = c.length
  · rw [if_pos e, e, List.getElem?_append_right (Nat.le_refl _), Nat.sub_self]
    rfl
  · rw [if_neg e, List.getElem?_append_left (by omega)]
theorem CR.snoc {c : List Nat} {o : Nat} {g : CS} (h : CR c g) : CR (c ++ [o]) (tA g 7 c.length (encC o)) := by
  intro i hi
  rw [List.length_append] at hi
  simp only [List.length_cons, List.length_nil] at hi
  rw [getD_snoc (by omega)]
  show upd (g.2.1 7) c.length (encC o) i = _
  rw [upd_j]
  by_cases e : i = c.length
  · rw [if_pos e, if_pos e]
  · rw [if_neg e, if_neg e]; exact h i (by omega)
section
variable {P : PL} {g : CS}
theorem emit_eq {n : Nat} {v : Int32} (h : g.1 6 1 = nI n) (hn : n < 900) : fX2_emit P g v = some (tI (tA g 7 n v) 6 1 (nI (n + 1))) := by
  unfold fX2_emit
  have e : (tA g 7 n v).1 6 1 = nI n := h
  rw [h, if_neg (show ¬ (900 : Int32) ≤ nI n from nI_ge (b := 900) hn (by omega)), chk_tt (ib_n hn (by omega)), bnd_e, ix_n (by omega), bnd_e, e, nI_1]
theorem push2_eq {n : Nat} {v : Int32} (h : g.1 6 4 = nI n) (hn : n < 64) : fX2_push P g v = some (tI (tA (tA g 8 n v) 9 n (g.1 6 6)) 6 4 (nI (n + 1))) := by
  unfold fX2_push
  have e : (tA g 8 n v).1 6 4 = nI n := h
  have e2 : ∀ w : Int32, (tA (tA g 8 n v) 9 n w).1 6 4 = nI n := fun _ => h
  rw [h, if_neg (show ¬ (64 : Int32) ≤ nI n from nI_ge (b := 64) hn (by omega)), chk_tt (ib_n hn (by omega)), bnd_e, ix_n (by omega), e, chk_tt (ib_n hn (by omega)), bnd_e, ix_n (by omega), bnd_e, e2, nI_1]
  rfl
abbrev uwI : List (Nat × Nat) := [(6, 1), (6, 4), (6, 7)]
theorem unwind_lp {n : Nat} (hn : 1 ≤ n) (hn6 : n ≤ 6) : ∀ (W : WS) (c : List Nat) (f : Nat) (g : CS), W.length < f → MK c W g → c.length + W.length ≤ 900 → okW W → W.length ≤ 60 → wi W ≤ 60 → Ev (fX2_unwind_0 P f g (nI n)) (fun g' => MK (unw n W c).1 (unw n W c).2 g' ∧ fC uwI [7] [] g g') := by
  intro W
  induction W with
  | nil =>
    intro c f g hf hM hl hok h60 hwi
    obtain ⟨f, rfl⟩ : ∃ f', f = f' + 1 := ⟨f - 1, by omega⟩
    rw [fX2_unwind_0, hM.2.2.1, if_pos (show nI (List.length ([] : WS)) ≤ 0 by decide)]
    exact ev_some.mpr ⟨hM, fC.refl g⟩
  | cons e W ih =>
    intro c f g hf hM hl hok h60 hwi
    obtain ⟨f, rfl⟩ : ∃ f', f = f' + 1 := ⟨f - 1, by omega⟩
    simp only [List.length_cons] at hf hl h60
    obtain ⟨m1, m2, m3, ⟨s1, s2, s3⟩, m5⟩ := hM
    have hE := hok.head.1
    have hb6 := bd_le e.1
    rw [fX2_unwind_0, m3, List.length_cons, if_neg (show ¬ nI (W.length + 1) ≤ 0 from nI_ge (a := 0) (by omega) (by omega)), nI_pred]
    refine Ev.k (ib_n (by omega) (by omega)) ?_
    rw [ix_n (by omega), s1, encW_bd hE, bndv_s, iLT (by omega) (by omega)]
    unfold unw
    by_cases cb : n ≤ bd e.1
    · rw [if_neg (by omega), if_pos cb, bnd_e]
      have f1 : fC uwI [7] [] g (tI g 6 4 (nI W.length)) := (fC.refl g).tI (by decide)
      have x4 : (tI g 6 4 (nI W.length)).1 6 4 = nI W.length := tI_s
      rw [x4]
      refine Ev.k (ib_n (by omega) (by omega)) ?_
      have ho : 10 ≤ e.1 ∧ e.1 ≤ 18 := by
        rcases hE with q | q | q
        · rw [q] at cb; exact absurd cb (by have : bd 1 = 0 := rfl; omega)
        · rw [q] at cb; exact absurd cb (by have : bd 2 = 0 := rfl; omega)
        · exact q
      have s1' : g.2.1 8 W.length = encC e.1 := by rw [s1, encW_op ho.1]
      have x8 : (tI g 6 4 (nI W.length)).2.1 8 (ix (nI W.length)) = encC e.1 := by rw [ix_n (by omega)]; exact s1'
      rw [x8, emit_eq (n := c.length) (by rw [tI_n (by omega)]; exact m1) (by omega), bndv_s]
      have y4 : (tI (tA (tI g 6 4 (nI W.length)) 7 c.length (encC e.1)) 6 1 (nI (c.length + 1))).1 6 4 = nI W.length := by rw [tI_n (by omega), tA_1]; exact tI_s
      rw [y4]
      refine Ev.k (ib_n (by omega) (by omega)) ?_
      have y8 : (tI (tA (tI g 6 4 (nI W.length)) 7 c.length (encC e.1)) 6 1 (nI (c.length + 1))).2.1 8 (ix (nI W.length)) = encC e.1 := by rw [ix_n (by omega)]; exact s1'
      rw [y8]
      have f2 : fC uwI [7] [] g (tI (tA (tI g 6 4 (nI W.length)) 7 c.length (encC e.1)) 6 1 (nI (c.length + 1))) := (f1.tA (by decide)).tI (by decide)
      have base : ∀ g3 : CS, g3.1 6 1 = nI (c.length + 1) → g3.2.1 = (tA g 7 c.length (encC e.1)).2.1 → g3.1 6 4 = nI W.length → g3.1 6 7 = nI (wi W) → MK (c ++ [e.1]) W g3 := by
        intro g3 a1 a2 a3 a4
        refine ⟨by rw [List.length_append]; exact a1, fun i hi => ?_, a3, s3.keep (fun i hi => by rw [a2]; exact ⟨rfl, rfl⟩), a4⟩
        rw [a2]
        exact CR.snoc m2 i hi
      have hwe : wi (e :: W) = wi W + (opn? e.1).toNat := rfl
      have hl' : (c ++ [e.1]).length + W.length ≤ 900 := by rw [List.length_append]; simp only [List.length_cons, List.length_nil]; omega
      by_cases c18 : e.1 = 18
      · have hop : opn? e.1 = true := decide_eq_true (Or.inr (Or.inr c18))
        rw [hop, Bool.toNat_true] at hwe
        rw [if_pos (by rw [← encW_op ho.1]; exact (encW_not hE).mpr c18), bnd_e]
        have y7 : (tI (tA (tI g 6 4 (nI W.length)) 7 c.length (encC e.1)) 6 1 (nI (c.length + 1))).1 6 7 = nI (wi W + 1) := by rw [tI_n (by omega), tA_1, tI_n (by omega), m5, hwe]
        rw [y7, nI_pred]
        have f3 := f2.tI (o := 6) (k := 7) (v := nI (wi W)) (by decide)
        exact (ih (c ++ [e.1]) f (tI (tI (tA (tI g 6 4 (nI W.length)) 7 c.length (encC e.1)) 6 1 (nI (c.length + 1))) 6 7 (nI (wi W))) (by omega) (base _ (by rw [tI_n (by omega)]; exact tI_s) rfl (by rw [tI_n (by omega)]; exact y4) tI_s) hl' hok.tail (by omega) (by omega)).mono (fun z hz => ⟨hz.1, f3.trans hz.2⟩)
      · have hop : opn? e.1 = false := decide_eq_false (by omega)
        rw [hop, Bool.toNat_false, Nat.add_zero] at hwe
        rw [if_neg (by rw [← encW_op ho.1]; exact fun z => c18 ((encW_not hE).mp z))]
        exact (ih (c ++ [e.1]) f (tI (tA (tI g 6 4 (nI W.length)) 7 c.length (encC e.1)) 6 1 (nI (c.length + 1))) (by omega) (base _ tI_s rfl y4 (by rw [tI_n (by omega), tA_1, tI_n (by omega), m5, hwe])) hl' hok.tail (by omega) (by omega)).mono (fun z hz => ⟨hz.1, f2.trans hz.2⟩)
    · rw [if_pos (by omega), if_neg cb]
      exact ev_some.mpr ⟨⟨m1, m2, m3, ⟨s1, s2, s3⟩, m5⟩, fC.refl g⟩
theorem unwind_eq {n : Nat} (hn : 1 ≤ n) (hn6 : n ≤ 6) {W : WS} {c : List Nat} (hM : MK c W g) (hl : c.length + W.length ≤ 900) (hok : okW W) (hw : wi W ≤ 6) : Ev (fX2_unwind P g (nI n)) (fun g' => MK (unw n W c).1 (unw n W c).2 g' ∧ fC uwI [7] [] g g') := by
  have h := okW_64 hok hw
  exact unwind_lp hn hn6 W c fuel g (by unfold fuel; omega) hM hl hok (by omega) (by omega)
/-- the machine's cells, the token t looked at -/
def CMt (B : Nat → Nat) (N law : Nat) (t : Tk) (C : Cf) (g : CS) : Prop := CB B N g ∧ CTk t g ∧ g.1 6 5 = nI law ∧ MK (kC C) (kW C) g ∧ g.1 6 6 = nI (kS C) ∧ g.1 6 8 = nI (br (kW C)) ∧ g.1 6 9 = nI (kO C).toNat ∧ (kO C = true → g.1 6 10 = nI (kU C).toNat)
abbrev wrI : List (Nat × Nat) := [(6, 1), (6, 4), (6, 6), (6, 7), (6, 8), (6, 9), (6, 10)]
abbrev wrA : List Nat := [7, 8, 9]
def encN (x : Nat) : Int32 := if x = 0 then 0 else encC x
theorem br_le : ∀ W : WS, br W ≤ wi W
  | [] => Nat.le_refl _
  | e :: W => by
    have ih := br_le W
    show br W + (brk? e.1).toNat ≤ wi W + (opn? e.1).toNat
    cases c : brk? e.1 with
    | false => rw [Bool.toNat_false]; omega
    | true =>
      have : opn? e.1 = true := decide_eq_true (by have := of_decide_eq_true c; omega)
      rw [this]
      omega
variable {B : Nat → Nat} {N law : Nat} {C : Cf}
theorem name_eq (hN : N ≤ 900) (hlaw : law ≤ 2) {p : Nat} (hp : p ≤ N) (hB : CB B N g) (ht : CTk (tok B N p) g) (h5 : g.1 6 5 = nI law) : fX2_nameOf P g = some (encN (nmO B law (tok B N p)), g) := by
  have W : ∀ i, (tx i).length < 100 → fX8_isWord P g i = some (nI (isW B (tok B N p) (tx i)).toNat, g) := fun i hi => cWord_eq hN hp hB ht i hi
  have t1 : nI true.toNat ≠ (0 : Int32) := by decide
  have t0 : nI false.toNat = (0 : Int32) := rfl
  unfold fX2_nameOf fX2_nameOf_39 fX2_nameOf_59 fX2_nameOf_75 nmO
  rw [W 7 (by decide), bndc_s]
  cases c7 : isW B (tok B N p) (tx 7) with
  | true => rw [if_neg t1, if_pos rfl]; rfl
  | false =>
  rw [if_pos t0, if_neg (show ¬ false = true by decide), W 8 (by decide), bndc_s]
  cases c8 : isW B (tok B N p) (tx 8) with
  | true => rw [if_neg t1, if_pos rfl]; rfl
  | false =>
  rw [if_pos t0, if_neg (show ¬ false = true by decide)]
  simp only [W 9 (by decide), W 10 (by decide), W 11 (by decide), W 12 (by decide), bndc_s]
  rcases (show law = 0 ∨ law = 1 ∨ law = 2 by omega) with q | q | q <;> subst q
  · have e0 : (g.1 6 5 = 0) = True := eq_true h5
    have e2 : (g.1 6 5 = (2 : Int32)) = False := eq_false (by rw [h5]; decide)
    simp only [e0, e2, if_true, if_false]
    cases isW B (tok B N p) (tx 9) <;> cases isW B (tok B N p) (tx 10) <;> cases isW B (tok B N p) (tx 11) <;> cases isW B (tok B N p) (tx 12) <;> rfl
  · have e0 : (g.1 6 5 = 0) = False := eq_false (by rw [h5]; decide)
    have e2 : (g.1 6 5 = (2 : Int32)) = False := eq_false (by rw [h5]; decide)
    simp only [e0, e2, if_false]
    cases isW B (tok B N p) (tx 9) <;> cases isW B (tok B N p) (tx 10) <;> cases isW B (tok B N p) (tx 11) <;> cases isW B (tok B N p) (tx 12) <;> rfl
  · have e0 : (g.1 6 5 = 0) = False := eq_false (by rw [h5]; decide)
    have e2 : (g.1 6 5 = (2 : Int32)) = True := eq_true h5
    simp only [e0, e2, if_true, if_false]
    cases isW B (tok B N p) (tx 9) <;> cases isW B (tok B N p) (tx 10) <;> cases isW B (tok B N p) (tx 11) <;> cases isW B (tok B N p) (tx 12) <;> rfl
theorem CMt.keepB {t : Tk} {g' : CS} (h : CMt B N law t C g) (f : fC wrI wrA [] g g') : CB B N g' ∧ CTk t g' ∧ g'.1 6 5 = nI law := ⟨h.1.keep f (by decide) (by decide), h.2.1.keep f (by decide), by rw [f.i 6 5 (by decide)]; exact h.2.2.1⟩
/-- what taking a token leaves: k is 0, or the fault's kind -/
def Tkn (B : Nat → Nat) (N law : Nat) (t : Tk) (C C' : Cf) (g : CS) (z : Int32 × CS) : Prop := fC wrI wrA [] g z.2 ∧ ∃ k, k ≤ 4 ∧ z.1 = nI k ∧ (k = 0 → kF C' = 0 ∧ kP C' = tEn t ∧ CMt B N law t C' z.2) ∧ (k ≠ 0 → C' = fltC C t k ∧ z.2 = g)
theorem open_eq {t : Tk} {o : Nat} (ho : o = 1 ∨ o = 2 ∨ o = 18) (hO : kO C = true) (hC : IC N C) (hM : CMt B N law t C g) : Ev (fX2_open P g (encW o)) (Tkn B N law t C (opnC C t o) g) := by
  obtain ⟨m1, m2, m3, m4, m5, m6, m7, m8⟩ := hM
  have hw6 := hC.2.2.2.1
  have hbw := br_le (kW C)
  have h48 := okW_64 hC.2.2.1 hw6
  have hop : opn? o = true := decide_eq_true ho
  unfold fX2_open opnC
  rw [m4.2.2.2.2, l_6, iLT (by omega) (by omega)]
  by_cases c : 6 ≤ wi (kW C)
  · rw [if_neg (by omega), if_pos c]
    exact ev_some.mpr ⟨fC.refl g, 4, by omega, rfl, fun z => absurd z (by decide), fun _ => ⟨rfl, rfl⟩⟩
  · rw [if_pos (by omega), if_neg c, nI_1, bnd_e]
    have f1 : fC wrI wrA [] g (tI g 6 7 (nI (wi (kW C) + 1))) := (fC.refl g).tI (by decide)
    have y6 : (tI g 6 7 (nI (wi (kW C) + 1))).1 6 6 = nI (kS C) := by rw [tI_n (by omega)]; exact m5
    rw [push2_eq (n := (kW C).length) (by rw [tI_n (by omega)]; exact m4.2.2.1) (by omega), bndv_s, y6]
    have f2 : fC wrI wrA [] g (tI (tA (tA (tI g 6 7 (nI (wi (kW C) + 1))) 8 (kW C).length (encW o)) 9 (kW C).length (nI (kS C))) 6 4 (nI ((kW C).length + 1))) := ((f1.tA (by decide)).tA (by decide)).tI (by decide)
    -- the cells then
    have key : ∀ g3 : CS, fC [(6, 6), (6, 8), (6, 10)] [] [] (tI (tA (tA (tI g 6 7 (nI (wi (kW C) + 1))) 8 (kW C).length (encW o)) 9 (kW C).length (nI (kS C))) 6 4 (nI ((kW C).length + 1))) g3 → MK (kC C) ((o, kS C) :: kW C) g3 := by
      intro g3 f3
      refine MK.keep (g := tI (tA (tA (tI g 6 7 (nI (wi (kW C) + 1))) 8 (kW C).length (encW o)) 9 (kW C).length (nI (kS C))) 6 4 (nI ((kW C).length + 1))) ⟨?_, m4.2.1, tI_s, ⟨?_, ?_, m4.2.2.2.1.keep (fun i hi => ⟨?_, ?_⟩)⟩, ?_⟩ f3 (by decide) (by decide)
      · rw [tI_n (by omega), tA_1, tA_1, tI_n (by omega)]; exact m4.1
      · show upd (g.2.1 8) (kW C).length (encW o) (kW C).length = _
        rw [upd_j, if_pos rfl]
      · show upd (g.2.1 9) (kW C).length (nI (kS C)) (kW C).length = _
        rw [upd_j, if_pos rfl]
      · show upd (g.2.1 8) (kW C).length (encW o) i = _
        rw [upd_j, if_neg (by omega)]
      · show upd (g.2.1 9) (kW C).length (nI (kS C)) i = _
        rw [upd_j, if_neg (by omega)]
      · show _ = nI (wi (kW C) + (opn? o).toNat)
        rw [hop, tI_n (by omega), tA_1, tA_1]
        exact tI_s
    have z8 : (tI (tA (tA (tI g 6 7 (nI (wi (kW C) + 1))) 8 (kW C).length (encW o)) 9 (kW C).length (nI (kS C))) 6 4 (nI ((kW C).length + 1))).1 6 8 = nI (br (kW C)) := by rw [tI_n (by omega), tA_1, tA_1, tI_n (by omega)]; exact m6
    have z6 : (tI (tA (tA (tI g 6 7 (nI (wi (kW C) + 1))) 8 (kW C).length (encW o)) 9 (kW C).length (nI (kS C))) 6 4 (nI ((kW C).length + 1))).1 6 6 = nI (kS C) := by rw [tI_n (by omega), tA_1, tA_1]; exact y6
    have z9 : (tI (tA (tA (tI g 6 7 (nI (wi (kW C) + 1))) 8 (kW C).length (encW o)) 9 (kW C).length (nI (kS C))) 6 4 (nI ((kW C).length + 1))).1 6 9 = nI (kO C).toNat := by rw [tI_n (by omega), tA_1, tA_1, tI_n (by omega)]; exact m7
    have z10 : (tI (tA (tA (tI g 6 7 (nI (wi (kW C) + 1))) 8 (kW C).length (encW o)) 9 (kW C).length (nI (kS C))) 6 4 (nI ((kW C).length + 1))).1 6 10 = nI (kU C).toNat := by rw [tI_n (by omega), tA_1, tA_1, tI_n (by omega)]; exact m8 hO
    generalize hgg : tI (tA (tA (tI g 6 7 (nI (wi (kW C) + 1))) 8 (kW C).length (encW o)) 9 (kW C).length (nI (kS C))) 6 4 (nI ((kW C).length + 1)) = gg at f2 key z8 z6 z9 z10
    unfold fX2_open_42
    have done : ∀ g3 : CS, fC [(6, 6), (6, 8), (6, 10)] [] [] gg g3 → g3.1 6 6 = nI (if o = 1 then 0 else kS C) → g3.1 6 8 = nI (br ((o, kS C) :: kW C)) → g3.1 6 10 = nI (if o = 1 then false else kU C).toNat → Tkn B N law t C (tEn t, kC C, (o, kS C) :: kW C, (if o = 1 then 0 else kS C), true, (if o = 1 then false else kU C), 0, 0) g ((0 : Int32), g3) := by
      intro g3 f3 a1 a2 a3
      have F : fC wrI wrA [] g g3 := f2.trans (f3.mono (by decide) (by decide) (by decide))
      have kb := CMt.keepB (C := C) ⟨m1, m2, m3, m4, m5, m6, m7, m8⟩ F
      exact ⟨F, 0, by omega, rfl, fun _ => ⟨rfl, rfl, kb.1, kb.2.1, kb.2.2, key g3 f3, a1, a2, by rw [f3.i 6 9 (by decide), z9, hO], fun _ => a3⟩, fun z => absurd rfl z⟩
    rcases ho with q | q | q <;> subst q
    · rw [if_neg (show ¬ encW 1 = (-11 : Int32) by decide), z8, nI_1, bnd_e, if_pos (show encW 1 = (-14 : Int32) from rfl), bnd_e, bnd_e]
      exact ev_some.mpr (done _ ((((fC.refl gg).tI (by decide)).tI (by decide)).tI (by decide)) (by rw [tI_n (by omega)]; exact tI_s) (by rw [tI_n (by omega), tI_n (by omega)]; exact tI_s) tI_s)
    · rw [if_neg (show ¬ encW 2 = (-11 : Int32) by decide), z8, nI_1, bnd_e, if_neg (show ¬ encW 2 = (-14 : Int32) by decide)]
      exact ev_some.mpr (done _ ((fC.refl gg).tI (by decide)) (by rw [tI_n (by omega)]; exact z6) tI_s (by rw [tI_n (by omega)]; exact z10))
    · rw [if_pos (show encW 18 = (-11 : Int32) from rfl), if_neg (show ¬ encW 18 = (-14 : Int32) by decide)]
      exact ev_some.mpr (done gg (fC.refl gg) z6 z8 z10)
end
