/-! ===== the reference's descent against the machine ===== -/
abbrev lqI : List Nat := [8, 9, 10, 11, 12, 13, 16]
/-- only the reader's ints and the law's own cells have changed -/
def fL (law : Nat) (g g' : MS) : Prop := (∀ i, i ∉ lqI → g'.1 i = g.1 i) ∧ (∀ r k, (r = 1 → k ≠ law + 2 ∧ (k < 149 + 900 * law ∨ 1049 + 900 * law ≤ k)) → g'.2.1 r k = g.2.1 r k) ∧ g'.2.2 = g.2.2
theorem fL.refl {law : Nat} (g : MS) : fL law g g := ⟨fun _ _ => rfl, fun _ _ _ => rfl, rfl⟩
theorem fL.trans {law : Nat} {g g' g'' : MS} (h : fL law g g') (h2 : fL law g' g'') : fL law g g'' := ⟨fun i hi => (h2.1 i hi).trans (h.1 i hi), fun r k hk => (h2.2.1 r k hk).trans (h.2.1 r k hk), h2.2.2.trans h.2.2⟩
theorem fL.of {law : Nat} {g g' : MS} {li : List Nat} (h : fM li [] g g') (hl : ∀ k ∈ li, k ∈ lqI) : fL law g g' := ⟨fun i hi => h.1 i (fun z => hi (hl i z)), fun r k _ => by rw [h.row r (fun z => nomatch z)], h.2.2⟩
/-- the reference within a law: at place p, with the code c, dp deep -/
def RS (B : Nat → Nat) (N law p : Nat) (c : List Nat) (dp : Nat) (g : MS) : Prop :=
  MB B N g ∧ g.1 12 = 0 ∧ RTk (tok B N p) g ∧ g.1 16 = nI dp ∧ g.1 17 = nI (law + 2) ∧ g.1 18 = nI (149 + 900 * law) ∧ g.2.1 1 (law + 2) = nI c.length ∧ ∀ i, i < c.length → g.2.1 1 (149 + 900 * law + i) = nI (c.getD i 0)
/-- a fault stands -/
def FS (f l : Nat) (g : MS) : Prop := g.1 12 = nI f ∧ g.1 13 = nI l ∧ f ≠ 0 ∧ f ≤ 4
theorem FS.bad {f l : Nat} {g : MS} (h : FS f l g) : ¬ g.1 12 = 0 := by
  rw [h.1, l_0, nI_eq (by have := h.2.2.2; omega) (by omega)]
  exact h.2.2.1
section
variable {B : Nat → Nat} {N law p dp : Nat} {c : List Nat} {g : MS}
theorem RS.move {p' dp' : Nat} {li : List Nat} {g' : MS} (h : RS B N law p c dp g) (f : fM li [] g g') (hl : ∀ k ∈ li, k ∈ lqI) (h12 : g'.1 12 = 0) (ht : RTk (tok B N p') g') (hd : g'.1 16 = nI dp') : RS B N law p' c dp' g' := by
  obtain ⟨h1, h2, h3, h4, h5, h6, h7, h8⟩ := h
  have nl : ∀ k, k ∉ lqI → k ∉ li := fun k hk z => hk (hl k z)
  refine ⟨h1.keep f (nl 7 (by decide)) (fun e => nomatch e), h12, ht, hd, ?_, ?_, ?_, fun i hi => ?_⟩
  · rw [f.1 17 (nl 17 (by decide))]; exact h5
  · rw [f.1 18 (nl 18 (by decide))]; exact h6
  · rw [f.row 1 (fun e => nomatch e)]; exact h7
  · rw [f.row 1 (fun e => nomatch e)]; exact h8 i hi
theorem RS.on (hN : N ≤ 900) (hp : p ≤ N) (h : RS B N law p c dp g) : Ev (fX12_readsOn g) (fun g' => RS B N law (tEn (tok B N p)) c dp g' ∧ fL law g g') := by
  have r := (tok_rng B N p hp).2.2.1
  refine (reads_eq hN r h.1 h.2.2.1.1).mono ?_
  rintro z ⟨z1, z2⟩
  refine ⟨h.move z2 (by decide) ?_ z1 ?_, fL.of z2 (by decide)⟩
  · rw [z2.1 12 (by decide)]; exact h.2.1
  · rw [z2.1 16 (by decide)]; exact h.2.2.2.1
theorem RS.lay (hlaw : law ≤ 2) (hc : c.length < 900) (h : RS B N law p c dp g) (o : Nat) : Ev (fX12_laysStep g (nI o)) (fun g' => RS B N law p (c ++ [o]) dp g' ∧ fL law g g') := by
  obtain ⟨h1, h2, h3, h4, h5, h6, h7, h8⟩ := h
  unfold fX12_laysStep
  rw [if_pos h2, h5, h6, ix_n (by omega), h7, nI_add]
  refine Ev.k (ib_n (by omega) (by omega)) (Ev.k (ib_n (by omega) (by omega)) ?_)
  rw [ix_n (by omega), bnd_e]
  have e5 : (sA g 1 (149 + 900 * law + c.length) (nI o)).1 17 = nI (law + 2) := h5
  have e7 : (sA g 1 (149 + 900 * law + c.length) (nI o)).2.1 1 (law + 2) = nI c.length := by rw [sA_2, if_pos rfl, upd_j, if_neg (by omega)]; exact h7
  rw [e5, ix_n (by omega), e7, nI_1]
  refine Ev.k (ib_n (by omega) (by omega)) (Ev.k (ib_n (by omega) (by omega)) ?_)
  rw [bnd_e]
  have F : fM [] [1] g (sA (sA g 1 (149 + 900 * law + c.length) (nI o)) 1 (law + 2) (nI (c.length + 1))) := ((fM.refl g).sA (by decide)).sA (by decide)
  refine ev_some.mpr ⟨⟨h1.keep F (by decide) (by decide), h2, h3, h4, h5, h6, ?_, fun i hi => ?_⟩, fun i _ => rfl, fun r k hk => ?_, rfl⟩
  · rw [sA_2, if_pos rfl, upd_j, if_pos rfl, List.length_append]; rfl
  · rw [List.length_append] at hi
    have hi : i < c.length + 1 := hi
    rw [getD_snoc hi, sA_2, if_pos rfl, upd_j, if_neg (by omega), sA_2, if_pos rfl, upd_j]
    by_cases e : i = c.length
    · rw [if_pos (by omega), if_pos e]
    · rw [if_neg (by omega), if_neg e]; exact h8 i (by omega)
  · by_cases e : r = 1
    · have hk2 := hk e
      subst e
      rw [sA_2, if_pos rfl, upd_j, if_neg hk2.1, sA_2, if_pos rfl, upd_j, if_neg (by omega)]
    · rw [sA_2, if_neg e, sA_2, if_neg e]
theorem lay_bad {o : Int32} (h : ¬ g.1 12 = 0) : fX12_laysStep g o = some g := by
  unfold fX12_laysStep
  rw [if_neg h]
theorem blame_bad {o : Int32} (h : ¬ g.1 12 = 0) : fX12_blames g o = some g := by
  unfold fX12_blames
  rw [if_neg h]
def fk (t : Tk) (k : Nat) : Nat := if tKd t = 4 then 1 else k
theorem RS.blame (hp : p ≤ N) (h : RS B N law p c dp g) {k : Nat} (hk : k ≠ 0 ∧ k ≤ 4) : Ev (fX12_blames g (nI k)) (fun g' => FS (fk (tok B N p) k) (tSt (tok B N p)) g' ∧ fM [12, 13] [] g g') := by
  obtain ⟨h1, h2, h3, h4, h5, h6, h7, h8⟩ := h
  unfold fX12_blames fX12_blames_22 fk
  rw [if_pos h2, h3.2.2.1]
  have e9 : ∀ v, (sI g 12 v).1 9 = nI (tSt (tok B N p)) := fun v => h3.2.1
  by_cases e : tKd (tok B N p) = 4
  · rw [if_pos ((tkM_3 hp).mpr e), if_pos e, bnd_e, bnd_e, e9]
    exact ev_some.mpr ⟨⟨rfl, rfl, by decide, by decide⟩, ((fM.refl g).sI (by decide)).sI (by decide)⟩
  · rw [if_neg (fun z => e ((tkM_3 hp).mp z)), if_neg e, bnd_e, bnd_e, e9]
    exact ev_some.mpr ⟨⟨rfl, rfl, hk.1, hk.2⟩, ((fM.refl g).sI (by decide)).sI (by decide)⟩
theorem in_bad (hb : ¬ g.1 12 = 0) : fX12_goesIn_14 g = some (sI g 16 (g.1 16 + 1)) := by
  unfold fX12_goesIn_14
  rw [bnd_e, if_neg (show ¬ (sI g 16 (g.1 16 + 1)).1 12 = 0 from hb)]
theorem RS.inn (hN : N ≤ 900) (hp : p ≤ N) (h : RS B N law p c dp g) (hd : dp < 6) : Ev (fX12_goesIn g) (fun g' => RS B N law (tEn (tok B N p)) c (dp + 1) g' ∧ fL law g g') := by
  unfold fX12_goesIn fX12_goesIn_14
  rw [h.2.2.2.1, l_6, iEQ (by omega) (by omega), if_neg (show ¬ dp = 6 by omega), nI_1, bnd_e]
  have F : fM [16] [] g (sI g 16 (nI (dp + 1))) := (fM.refl g).sI (by decide)
  have h' : RS B N law p c (dp + 1) (sI g 16 (nI (dp + 1))) := h.move F (by decide) h.2.1 h.2.2.1 rfl
  rw [if_pos h'.2.1]
  refine Ev.v (h'.on hN hp) ?_
  rintro z ⟨z1, z2⟩
  exact ev_some.mpr ⟨z1, (fL.of F (by decide)).trans z2⟩
theorem RS.inn6 (hp : p ≤ N) (h : RS B N law p c 6 g) : Ev (fX12_goesIn g) (fun g' => FS (fk (tok B N p) 4) (tSt (tok B N p)) g' ∧ fL law g g') := by
  unfold fX12_goesIn
  rw [h.2.2.2.1, if_pos (show nI 6 = (6 : Int32) from rfl)]
  refine Ev.v (h.blame hp (k := 4) ⟨by decide, by decide⟩) ?_
  rintro z ⟨z1, z2⟩
  rw [in_bad z1.bad]
  exact ev_some.mpr ⟨⟨z1.1, z1.2.1, z1.2.2⟩, fL.of ((z2.mono (li2 := lqI) (by decide) (fun _ z => z)).sI (by decide)) (fun _ z => z)⟩
theorem RS.out (h : RS B N law p c (dp + 1) g) (hd : dp < 7) : RS B N law p c dp (sI g 16 (g.1 16 - 1)) ∧ fL law g (sI g 16 (g.1 16 - 1)) := by
  have F : fM [16] [] g (sI g 16 (g.1 16 - 1)) := (fM.refl g).sI (by decide)
  refine ⟨h.move F (by decide) h.2.1 h.2.2.1 ?_, fL.of F (by decide)⟩
  rw [sI_1, if_pos rfl, h.2.2.2.1, l_1, pk_sub (by omega)]
  rfl
theorem FS.out {f l : Nat} (h : FS f l g) : FS f l (sI g 16 (g.1 16 - 1)) ∧ fL law g (sI g 16 (g.1 16 - 1)) := ⟨h, fL.of (li := [16]) ((fM.refl g).sI (by decide)) (by decide)⟩
theorem must_bad {o : Int32} (h : ¬ g.1 12 = 0) : fX12_mustSign g o = some g := by
  unfold fX12_mustSign
  have e : fX12_mustSign_13 g = some g := by unfold fX12_mustSign_13; rw [if_neg h]
  rw [blame_bad h, bndv_s, e]
  split <;> rfl
theorem RS.must (hN : N ≤ 900) (hp : p ≤ N) (h : RS B N law p c dp g) {s : Nat} (hs : 5 ≤ s ∧ s < 256) (ht : isS (tok B N p) s = true) : Ev (fX12_mustSign g (nI s)) (fun g' => RS B N law (tEn (tok B N p)) c dp g' ∧ fL law g g') := by
  unfold fX12_mustSign fX12_mustSign_13
  rw [h.2.2.1.2.2.1, if_pos ((tkM_s hp hs).mpr ht), if_pos h.2.1]
  refine Ev.v (h.on hN hp) (fun z hz => ev_some.mpr hz)
theorem RS.mustN (hp : p ≤ N) (h : RS B N law p c dp g) {s : Nat} (hs : 5 ≤ s ∧ s < 256) (ht : ¬ isS (tok B N p) s = true) : Ev (fX12_mustSign g (nI s)) (fun g' => FS (fk (tok B N p) 2) (tSt (tok B N p)) g' ∧ fL law g g') := by
  unfold fX12_mustSign fX12_mustSign_13
  rw [h.2.2.1.2.2.1, if_neg (fun z => ht ((tkM_s hp hs).mp z))]
  refine Ev.v (h.blame hp (k := 2) ⟨by decide, by decide⟩) ?_
  rintro z ⟨z1, z2⟩
  rw [if_neg z1.bad]
  exact ev_some.mpr ⟨z1, fL.of z2 (by decide)⟩
theorem took_bad {i : Nat} (h : ¬ g.1 12 = 0) : fX12_took g i = some (0, g) := by
  unfold fX12_took
  rw [mWord_bad h, bndc_s, if_pos rfl, chk_tt (by decide)]
theorem RS.tookN (hN : N ≤ 900) (hp : p ≤ N) (h : RS B N law p c dp g) (i : Nat) (hi : (tx i).length < 100) (ht : ¬ isW B (tok B N p) (tx i) = true) : fX12_took g i = some (0, g) := by
  unfold fX12_took
  have e : isW B (tok B N p) (tx i) = false := by cases q : isW B (tok B N p) (tx i) with | true => exact absurd q ht | false => rfl
  rw [mWord_eq hN hp h.1 h.2.1 h.2.2.1 i hi, bndc_s, e, if_pos (by rfl), chk_tt (by decide)]
  rfl
theorem RS.tookY (hN : N ≤ 900) (hp : p ≤ N) (h : RS B N law p c dp g) (i : Nat) (hi : (tx i).length < 100) (ht : isW B (tok B N p) (tx i) = true) : Ev (fX12_took g i) (fun q => q.1 = 1 ∧ RS B N law (tEn (tok B N p)) c dp q.2 ∧ fL law g q.2) := by
  unfold fX12_took
  rw [mWord_eq hN hp h.1 h.2.1 h.2.2.1 i hi, bndc_s, ht, if_neg (by decide)]
  refine Ev.v (h.on hN hp) ?_
  rintro z ⟨z1, z2⟩
  exact Ev.k (by decide) (ev_some.mpr ⟨rfl, z1, z2⟩)
end
/-! words exclude each other -/
theorem isW_one {B : Nat → Nat} {t : Tk} {w w' : List Int32} (h : isW B t w = true) (h' : isW B t w' = true) : w = w' := by
  have a := of_decide_eq_true h
  have b := of_decide_eq_true h'
  have hl : w.length = w'.length := by rw [← a.2.1, ← b.2.1]
  refine List.ext_getElem hl (fun i h1 h2 => ?_)
  have e1 := a.2.2 i h1
  have e2 := b.2.2 i h2
  rw [e1, List.getD_eq_getElem?_getD, List.getD_eq_getElem?_getD, List.getElem?_eq_getElem h1, List.getElem?_eq_getElem h2] at e2
  exact e2
theorem isS_one {t : Tk} {a b : Nat} (h : isS t a = true) (h' : isS t b = true) : a = b := (of_decide_eq_true h).2.symm.trans (of_decide_eq_true h').2
theorem isW_S {B : Nat → Nat} {t : Tk} {w : List Int32} {a : Nat} (h : isW B t w = true) : ¬ isS t a = true := fun h' => by
  have := isW_k h
  have := isS_k h'
  omega
/-! the machine's waiting row -/
theorem unw_pend {n : Nat} : ∀ (pend W : WS) (c : List Nat), (∀ e ∈ pend, n ≤ bd e.1) → tb W < n → unw n (pend ++ W) c = (c ++ pend.map (fun e => e.1), W)
  | [], W, c, _, h => by
    cases W with
    | nil => show (c, []) = (c ++ [], []); rw [List.append_nil]
    | cons e W =>
      show (if n ≤ bd e.1 then unw n W (c ++ [e.1]) else (c, e :: W)) = (c ++ [], e :: W)
      have : bd e.1 < n := h
      rw [if_neg (by omega), List.append_nil]
  | e :: pend, W, c, hb, h => by
    show (if n ≤ bd e.1 then unw n (pend ++ W) (c ++ [e.1]) else (c, e :: (pend ++ W))) = _
    rw [if_pos (hb e (List.mem_cons_self ..)), unw_pend pend W _ (fun z hz => hb z (List.mem_cons_of_mem _ hz)) h, List.append_assoc]
    rfl
theorem br_app : ∀ (a b : WS), br b ≤ br (a ++ b)
  | [], _ => Nat.le_refl _
  | e :: a, b => by
    have := br_app a b
    show br b ≤ br (a ++ b) + _
    omega
section
variable (B : Nat → Nat) (N law : Nat)
/-- what a piece that was read well leaves -/
def OKR (β : Nat) (C : Cf) (g' : MS) (k : Nat) (pend : WS) (x : List Nat) : Prop :=
  k + kP C ≤ kP (itC B N law k C) ∧ kF (itC B N law k C) = 0 ∧ kO (itC B N law k C) = false ∧ kW (itC B N law k C) = pend ++ kW C ∧ (∀ e ∈ pend, β ≤ bd e.1) ∧ kC (itC B N law k C) ++ pend.map (fun e => e.1) = kC C ++ x ∧ RS B N law (kP (itC B N law k C)) (kC C ++ x) (wi (kW C)) g'
/-- a fault on both sides -/
def BD (C : Cf) (g' : MS) : Prop := ∃ k, FS (kF (itC B N law k C)) (kL (itC B N law k C)) g' ∧ k + kP C ≤ kP (itC B N law k C) + 1
def ZZ (E : Nat → Nat → Tk → Prop) (b : Nat) (kd : Bool) (C C' : Cf) (x : List Nat) : Prop := E (kS C) (kS C') (tok B N (kP C')) ∧ ∀ K : List Bool, K.length + b ≤ 64 + 2 * wi (kW C) → tyS x K = some (kd :: K)
def RR (β : Nat) (E : Nat → Nat → Tk → Prop) (b : Nat) (kd : Bool) (C : Cf) (g g' : MS) : Prop := fL law g g' ∧ ((∃ k pend x, OKR B N law β C g' k pend x ∧ ZZ B N E b kd C (itC B N law k C) x) ∨ BD B N law C g')
/-- what a reader of a piece does -/
def Sp (τ β : Nat) (Pre : Nat → Bool → Tk → Nat → Prop) (E : Nat → Nat → Tk → Prop) (b : Nat) (kd : Bool) (f : MS → Option MS) : Prop :=
  ∀ C g, IC N C → kF C = 0 → kO C = true → tb (kW C) < τ → Pre (kS C) (kU C) (tok B N (kP C)) (wi (kW C)) → RS B N law (kP C) (kC C) (wi (kW C)) g → Ev (f g) (RR B N law β E b kd C g)
end
section
variable {B : Nat → Nat} {N law : Nat}
theorem BD.pre {C : Cf} {g' : MS} {j : Nat} (hj : j + kP C ≤ kP (itC B N law j C)) (h : BD B N law (itC B N law j C) g') : BD B N law C g' := by
  obtain ⟨k, h1, h2⟩ := h
  rw [← itC_add] at h1 h2
  exact ⟨j + k, h1, by omega⟩
theorem BD.bad {C : Cf} {g' : MS} (h : BD B N law C g') : ¬ g'.1 12 = 0 := h.elim fun _ h => h.1.bad
theorem BD.st {C : Cf} {g' : MS} {t : Tk} {k : Nat} (h : stC B N law C = fltC C t k) (hf : FS (fk t k) (tSt t) g') : BD B N law C g' := by
  refine ⟨1, ?_, ?_⟩
  · show FS (kF (stC B N law C)) (kL (stC B N law C)) g'
    rw [h]; exact hf
  · show 1 + kP C ≤ kP (stC B N law C) + 1
    rw [h]
    show 1 + kP C ≤ kP C + 1
    omega
/-- a loop of links of one bond -/
theorem loop_run (hN : N ≤ 900) (hlaw : law ≤ 2) {τ βc β b : Nat} {kd u : Bool} {Pre : Nat → Bool → Tk → Nat → Prop} {Ec El : Nat → Nat → Tk → Prop} {ch : MS → Option MS} {lp : Nat → MS → Option MS} {ops : Tk → Nat} {σ : Nat → Nat}
    (h1 : ∀ n g p c dp, p ≤ N → RS B N law p c dp g → ops (tok B N p) ≠ 0 → lp (n + 1) g = bndv (fX12_readsOn g) (fun g3 => bndv (ch g3) (fun g4 => bndv (fX12_laysStep g4 (nI (ops (tok B N p)))) (fun g5 => lp n g5))))
    (h0 : ∀ n g p c dp, p ≤ N → RS B N law p c dp g → ops (tok B N p) = 0 → lp (n + 1) g = some g)
    (hb : ∀ n g, ¬ g.1 12 = 0 → lp (n + 1) g = some g)
    (hop : ∀ p, p ≤ N → ops (tok B N p) ≠ 0 → (10 ≤ ops (tok B N p) ∧ ops (tok B N p) ≤ 17) ∧ bd (ops (tok B N p)) = β ∧ tKd (tok B N p) ≠ 0 ∧ ∀ K, ty1 (ops (tok B N p)) (kd :: kd :: K) = some (kd :: K))
    (hst : ∀ C' s u0 t0 d, kF C' = 0 → kO C' = false → Pre s u0 t0 d → Ec s (kS C') (tok B N (kP C')) → ops (tok B N (kP C')) ≠ 0 → stC B N law C' = lnkC C' (tok B N (kP C')) (ops (tok B N (kP C'))) (σ (kS C')) u)
    (hE : ∀ s s' t s2 t2 u0 t0 d, Pre s u0 t0 d → Ec s s' t → Ec (σ s') s2 t2 → Ec s s2 t2)
    (hpre : ∀ s u0 t0 d s' t t1, Pre s u0 t0 d → Ec s s' t → Pre (σ s') u t1 d)
    (hend : ∀ s s' t, Ec s s' t → ops t = 0 → El s s' t)
    (hβ : β < τ ∧ β ≤ βc ∧ 1 ≤ β) (hch : Sp B N law τ βc Pre Ec b kd ch) {C0 : Cf} (hC : IC N C0) (ht0 : tb (kW C0) < β) (hP : Pre (kS C0) (kU C0) (tok B N (kP C0)) (wi (kW C0))) :
    ∀ m n g0 g k pend x, N - kP (itC B N law k C0) ≤ m → m < n → fL law g0 g → OKR B N law β C0 g k pend x → ZZ B N Ec (b + 1) kd C0 (itC B N law k C0) x → Ev (lp n g) (RR B N law β El (b + 1) kd C0 g0) := by
  intro m
  induction m with
  | zero =>
    intro n g0 g k pend x hm hn hF hO hZ
    obtain ⟨n, rfl⟩ : ∃ n', n = n' + 1 := ⟨n - 1, by omega⟩
    have hI := hC.it (B := B) (law := law) k
    have hp := hI.1
    have e0 : ops (tok B N (kP (itC B N law k C0))) = 0 := by
      refine Decidable.byContradiction fun z => ?_
      obtain ⟨r1, r2, r3, r4, r5, r6, r7, r8⟩ := tok_rng B N (kP (itC B N law k C0)) hp
      have := r5 (hop _ hp z).2.2.1
      omega
    rw [h0 n g _ _ _ hp hO.2.2.2.2.2.2 e0]
    exact ev_some.mpr ⟨hF, Or.inl ⟨k, pend, x, hO, hend _ _ _ hZ.1 e0, hZ.2⟩⟩
  | succ m ih =>
    intro n g0 g k pend x hm hn hF hO hZ
    obtain ⟨n, rfl⟩ : ∃ n', n = n' + 1 := ⟨n - 1, by omega⟩
    have hI := hC.it (B := B) (law := law) k
    have hp := hI.1
    by_cases e0 : ops (tok B N (kP (itC B N law k C0))) = 0
    · rw [h0 n g _ _ _ hp hO.2.2.2.2.2.2 e0]
      exact ev_some.mpr ⟨hF, Or.inl ⟨k, pend, x, hO, hend _ _ _ hZ.1 e0, hZ.2⟩⟩
    obtain ⟨⟨o1, o2⟩, o3, o4, o5⟩ := hop _ hp e0
    obtain ⟨r1, r2, r3, r4, r5, r6, r7, r8⟩ := tok_rng B N (kP (itC B N law k C0)) hp
    have r5 := r5 o4
    obtain ⟨q1, q2, q3, q4, q5, q6, q7⟩ := hO
    have hs := hst _ _ _ _ _ q2 q3 hP hZ.1 e0
    have hu := unw_pend (n := β) pend (kW C0) (kC (itC B N law k C0)) q5 ht0
    have hs' : itC B N law (k + 1) C0 = (tEn (tok B N (kP (itC B N law k C0))), kC C0 ++ x, (ops (tok B N (kP (itC B N law k C0))), kS (itC B N law k C0)) :: kW C0, σ (kS (itC B N law k C0)), true, u, 0, 0) := by
      rw [itC_1, hs]
      unfold lnkC
      rw [o3, q4, hu, q6]
    generalize hC1 : itC B N law (k + 1) C0 = C1 at hs'
    have hI1 : IC N C1 := by rw [← hC1]; exact hC.it _
    rw [h1 n g _ _ _ hp q7 e0]
    generalize ho : ops (tok B N (kP (itC B N law k C0))) = o at *
    have hwi : wi (kW C1) = wi (kW C0) := by
      rw [hs']
      show wi (kW C0) + (opn? o).toNat = wi (kW C0)
      rw [show opn? o = false from decide_eq_false (by omega)]
      rfl
    refine Ev.v (q7.on hN hp) ?_
    rintro g3 ⟨a1, a2⟩
    have pk1 : kP C1 = tEn (tok B N (kP (itC B N law k C0))) := by rw [hs']
    have ck1 : kC C1 = kC C0 ++ x := by rw [hs']
    have wk1 : kW C1 = (o, kS (itC B N law k C0)) :: kW C0 := by rw [hs']
    have sk1 : kS C1 = σ (kS (itC B N law k C0)) := by rw [hs']
    have uk1 : kU C1 = u := by rw [hs']
    refine Ev.v (hch C1 g3 hI1 (by rw [hs']) (by rw [hs']) (by rw [wk1]; show bd o < τ; omega) (by rw [sk1, uk1, hwi]; exact hpre _ _ _ _ _ _ _ hP hZ.1) (by rw [pk1, ck1, hwi]; exact a1)) ?_
    rintro g4 ⟨b1, b2⟩
    have F4 := (hF.trans a2).trans b1
    rcases b2 with ⟨k2, pend2, x2, ⟨c1, c2, c3, c4, c5, c6, c7⟩, z1, z2⟩ | b2
    · have hk2 : itC B N law (k + 1 + k2) C0 = itC B N law k2 C1 := by rw [itC_add, hC1]
      have hI2 := hI1.it (B := B) (law := law) k2
      rw [hwi, ck1] at c7
      have hlen : (kC C0 ++ x ++ x2).length < 900 := by
        rw [← ck1, ← c6, List.length_append, List.length_map]
        have := hI2.2.1
        have h3 := hI2.1
        rw [c4, wk1, List.length_append] at this
        simp only [List.length_cons] at this
        omega
      refine Ev.v (c7.lay hlaw hlen o) ?_
      rintro g5 ⟨d1, d2⟩
      have hO' : OKR B N law β C0 g5 (k + 1 + k2) (pend2 ++ [(o, kS (itC B N law k C0))]) (x ++ x2 ++ [o]) := by
        unfold OKR
        rw [hk2]
        refine ⟨by omega, c2, c3, ?_, ?_, ?_, ?_⟩
        · rw [c4, wk1, List.append_assoc]; rfl
        · intro e he
          rcases List.mem_append.mp he with he | he
          · exact Nat.le_trans hβ.2.1 (c5 e he)
          · rw [List.mem_singleton.mp he]; exact Nat.le_of_eq o3.symm
        · rw [List.map_append, ← List.append_assoc, c6, ck1, ← List.append_assoc, ← List.append_assoc]; rfl
        · rw [← List.append_assoc, ← List.append_assoc]; exact d1
      refine ih n g0 g5 (k + 1 + k2) _ _ ?_ (by omega) (F4.trans d2) hO' ⟨?_, fun K hK => ?_⟩
      · rw [hk2]
        omega
      · rw [hk2]
        rw [sk1] at z1
        exact hE _ _ _ _ _ _ _ _ hP hZ.1 z1
      · have t1 := hZ.2 K hK
        have t2 := z2 (kd :: K) (by rw [hwi]; simp only [List.length_cons]; omega)
        refine tyS_app (tyS_app t1 t2) ?_
        show (match ty1 o (kd :: kd :: K) with | some K' => tyS [] K' | none => none) = _
        rw [o5 K]
        rfl
    · rw [lay_bad b2.bad, bndv_s]
      obtain ⟨n, rfl⟩ : ∃ n', n = n' + 1 := ⟨n - 1, by omega⟩
      rw [hb n g4 b2.bad]
      refine ev_some.mpr ⟨F4, Or.inr (BD.pre (j := k + 1) ?_ (by rw [hC1]; exact b2))⟩
      rw [hC1]
      omega
theorem Sp.loop (hN : N ≤ 900) (hlaw : law ≤ 2) {τ βc β b : Nat} {kd u : Bool} {Pre : Nat → Bool → Tk → Nat → Prop} {Ec El : Nat → Nat → Tk → Prop} {ch : MS → Option MS} {lp : Nat → MS → Option MS} (ops : Tk → Nat) {σ : Nat → Nat}
    (h1 : ∀ n g p c dp, p ≤ N → RS B N law p c dp g → ops (tok B N p) ≠ 0 → lp (n + 1) g = bndv (fX12_readsOn g) (fun g3 => bndv (ch g3) (fun g4 => bndv (fX12_laysStep g4 (nI (ops (tok B N p)))) (fun g5 => lp n g5))))
    (h0 : ∀ n g p c dp, p ≤ N → RS B N law p c dp g → ops (tok B N p) = 0 → lp (n + 1) g = some g)
    (hb : ∀ n g, ¬ g.1 12 = 0 → lp (n + 1) g = some g)
    (hop : ∀ p, p ≤ N → ops (tok B N p) ≠ 0 → (10 ≤ ops (tok B N p) ∧ ops (tok B N p) ≤ 17) ∧ bd (ops (tok B N p)) = β ∧ tKd (tok B N p) ≠ 0 ∧ ∀ K, ty1 (ops (tok B N p)) (kd :: kd :: K) = some (kd :: K))
    (hst : ∀ C' s u0 t0 d, kF C' = 0 → kO C' = false → Pre s u0 t0 d → Ec s (kS C') (tok B N (kP C')) → ops (tok B N (kP C')) ≠ 0 → stC B N law C' = lnkC C' (tok B N (kP C')) (ops (tok B N (kP C'))) (σ (kS C')) u)
    (hE : ∀ s s' t s2 t2 u0 t0 d, Pre s u0 t0 d → Ec s s' t → Ec (σ s') s2 t2 → Ec s s2 t2)
    (hpre : ∀ s u0 t0 d s' t t1, Pre s u0 t0 d → Ec s s' t → Pre (σ s') u t1 d)
    (hend : ∀ s s' t, Ec s s' t → ops t = 0 → El s s' t)
    (hβ : β < τ ∧ β ≤ βc ∧ 1 ≤ β) (hch : Sp B N law τ βc Pre Ec b kd ch) : Sp B N law β β Pre El (b + 1) kd (fun g => bndv (ch g) (fun g5 => lp fuel g5)) := by
  intro C g hC hF hO ht hP hR
  refine Ev.v (hch C g hC hF hO (by omega) hP hR) ?_
  rintro g5 ⟨b1, b2⟩
  rcases b2 with ⟨k, pend, x, ⟨c1, c2, c3, c4, c5, c6, c7⟩, z1, z2⟩ | b2
  · exact loop_run hN hlaw h1 h0 hb hop hst hE hpre hend hβ hch hC ht hP (N - kP (itC B N law k C)) fuel g g5 k pend x (Nat.le_refl _) (by unfold fuel; omega) b1 ⟨c1, c2, c3, c4, fun e he => Nat.le_trans hβ.2.1 (c5 e he), c6, c7⟩ ⟨z1, fun K hK => z2 K (by omega)⟩
  · rw [show fuel = fuel - 1 + 1 by unfold fuel; omega, hb _ _ b2.bad]
    exact ev_some.mpr ⟨b1, Or.inr b2⟩
end
