/-! ===== numbers: literals and small naturals ===== -/
theorem l_0 : (0 : Int32) = nI 0 := rfl
theorem l_1 : (1 : Int32) = nI 1 := rfl
theorem l_2 : (2 : Int32) = nI 2 := rfl
theorem l_3 : (3 : Int32) = nI 3 := rfl
theorem l_4 : (4 : Int32) = nI 4 := rfl
theorem l_5 : (5 : Int32) = nI 5 := rfl
theorem l_6 : (6 : Int32) = nI 6 := rfl
theorem l_7 : (7 : Int32) = nI 7 := rfl
theorem l_8 : (8 : Int32) = nI 8 := rfl
theorem l_9 : (9 : Int32) = nI 9 := rfl
theorem l_10 : (10 : Int32) = nI 10 := rfl
theorem l_11 : (11 : Int32) = nI 11 := rfl
theorem l_12 : (12 : Int32) = nI 12 := rfl
theorem l_13 : (13 : Int32) = nI 13 := rfl
theorem l_14 : (14 : Int32) = nI 14 := rfl
theorem l_15 : (15 : Int32) = nI 15 := rfl
theorem l_16 : (16 : Int32) = nI 16 := rfl
theorem l_17 : (17 : Int32) = nI 17 := rfl
theorem l_18 : (18 : Int32) = nI 18 := rfl
theorem l_19 : (19 : Int32) = nI 19 := rfl
theorem l_20 : (20 : Int32) = nI 20 := rfl
theorem l_21 : (21 : Int32) = nI 21 := rfl
theorem l_22 : (22 : Int32) = nI 22 := rfl
theorem l_23 : (23 : Int32) = nI 23 := rfl
theorem l_24 : (24 : Int32) = nI 24 := rfl
theorem l_25 : (25 : Int32) = nI 25 := rfl
theorem l_26 : (26 : Int32) = nI 26 := rfl
theorem l_27 : (27 : Int32) = nI 27 := rfl
theorem l_28 : (28 : Int32) = nI 28 := rfl
theorem l_29 : (29 : Int32) = nI 29 := rfl
theorem l_30 : (30 : Int32) = nI 30 := rfl
theorem l_31 : (31 : Int32) = nI 31 := rfl
theorem l_32 : (32 : Int32) = nI 32 := rfl
theorem l_33 : (33 : Int32) = nI 33 := rfl
theorem l_34 : (34 : Int32) = nI 34 := rfl
theorem l_35 : (35 : Int32) = nI 35 := rfl
theorem l_36 : (36 : Int32) = nI 36 := rfl
theorem l_37 : (37 : Int32) = nI 37 := rfl
theorem l_38 : (38 : Int32) = nI 38 := rfl
theorem l_39 : (39 : Int32) = nI 39 := rfl
theorem l_40 : (40 : Int32) = nI 40 := rfl
theorem l_41 : (41 : Int32) = nI 41 := rfl
theorem l_42 : (42 : Int32) = nI 42 := rfl
theorem l_43 : (43 : Int32) = nI 43 := rfl
theorem l_44 : (44 : Int32) = nI 44 := rfl
theorem l_45 : (45 : Int32) = nI 45 := rfl
theorem l_46 : (46 : Int32) = nI 46 := rfl
theorem l_47 : (47 : Int32) = nI 47 := rfl
theorem l_48 : (48 : Int32) = nI 48 := rfl
theorem l_49 : (49 : Int32) = nI 49 := rfl
theorem l_50 : (50 : Int32) = nI 50 := rfl
theorem l_51 : (51 : Int32) = nI 51 := rfl
theorem l_52 : (52 : Int32) = nI 52 := rfl
theorem l_53 : (53 : Int32) = nI 53 := rfl
theorem l_54 : (54 : Int32) = nI 54 := rfl
theorem l_55 : (55 : Int32) = nI 55 := rfl
theorem l_56 : (56 : Int32) = nI 56 := rfl
theorem l_57 : (57 : Int32) = nI 57 := rfl
theorem l_58 : (58 : Int32) = nI 58 := rfl
theorem l_59 : (59 : Int32) = nI 59 := rfl
theorem l_60 : (60 : Int32) = nI 60 := rfl
theorem l_61 : (61 : Int32) = nI 61 := rfl
theorem l_62 : (62 : Int32) = nI 62 := rfl
theorem l_63 : (63 : Int32) = nI 63 := rfl
theorem l_64 : (64 : Int32) = nI 64 := rfl
theorem l_91 : (91 : Int32) = nI 91 := rfl
theorem l_93 : (93 : Int32) = nI 93 := rfl
theorem l_97 : (97 : Int32) = nI 97 := rfl
theorem l_99 : (99 : Int32) = nI 99 := rfl
theorem l_100 : (100 : Int32) = nI 100 := rfl
theorem l_101 : (101 : Int32) = nI 101 := rfl
theorem l_122 : (122 : Int32) = nI 122 := rfl
theorem l_136 : (136 : Int32) = nI 136 := rfl
theorem l_149 : (149 : Int32) = nI 149 := rfl
theorem l_200 : (200 : Int32) = nI 200 := rfl
theorem l_255 : (255 : Int32) = nI 255 := rfl
theorem l_900 : (900 : Int32) = nI 900 := rfl
theorem l_999 : (999 : Int32) = nI 999 := rfl
theorem l_1000 : (1000 : Int32) = nI 1000 := rfl
theorem l_1049 : (1049 : Int32) = nI 1049 := rfl
theorem l_1949 : (1949 : Int32) = nI 1949 := rfl
theorem l_2304 : (2304 : Int32) = nI 2304 := rfl
theorem l_2850 : (2850 : Int32) = nI 2850 := rfl
theorem l_9999 : (9999 : Int32) = nI 9999 := rfl
theorem l_12345 : (12345 : Int32) = nI 12345 := rfl
theorem l_46656 : (46656 : Int32) = nI 46656 := rfl
theorem l_99999 : (99999 : Int32) = nI 99999 := rfl
theorem l_200000 : (200000 : Int32) = nI 200000 := rfl
theorem l_1000000 : (1000000 : Int32) = nI 1000000 := rfl
theorem l_1118481 : (1118481 : Int32) = nI 1118481 := rfl
theorem l_8947848 : (8947848 : Int32) = nI 8947848 := rfl
theorem l_16777215 : (16777215 : Int32) = nI 16777215 := rfl
theorem l_252645135 : (252645135 : Int32) = nI 252645135 := rfl
theorem l_536870912 : (536870912 : Int32) = nI 536870912 := rfl
theorem l_858993459 : (858993459 : Int32) = nI 858993459 := rfl
theorem l_1103515245 : (1103515245 : Int32) = nI 1103515245 := rfl
theorem l_1431655765 : (1431655765 : Int32) = nI 1431655765 := rfl
theorem lL_0 : (0 : Int64) = lN 0 := rfl
theorem lL_1 : (1 : Int64) = lN 1 := rfl
theorem lL_2 : (2 : Int64) = lN 2 := rfl
theorem lL_3 : (3 : Int64) = lN 3 := rfl
theorem lL_5 : (5 : Int64) = lN 5 := rfl
theorem lL_6 : (6 : Int64) = lN 6 := rfl
theorem lL_9 : (9 : Int64) = lN 9 := rfl
theorem lL_10 : (10 : Int64) = lN 10 := rfl
theorem lL_15 : (15 : Int64) = lN 15 := rfl
theorem lL_30 : (30 : Int64) = lN 30 := rfl
theorem lL_99 : (99 : Int64) = lN 99 := rfl
theorem lL_100 : (100 : Int64) = lN 100 := rfl
theorem lL_199 : (199 : Int64) = lN 199 := rfl
theorem lL_200 : (200 : Int64) = lN 200 := rfl
theorem lL_299 : (299 : Int64) = lN 299 := rfl
theorem lL_9999 : (9999 : Int64) = lN 9999 := rfl
theorem lL_99999 : (99999 : Int64) = lN 99999 := rfl
theorem lL_1000000 : (1000000 : Int64) = lN 1000000 := rfl
theorem ix_n {k : Nat} (h : k < 2 ^ 31) : ix (nI k) = k := nI_clamp h
theorem ib_n {k n : Nat} (h : k < n) (hn : n < 2 ^ 31) : ib (nI k) n = true := decide_eq_true (nI_in h hn)
theorem nz_n {k : Nat} (h0 : 0 < k) (h : k < 2 ^ 31) : nz (nI k) = true := decide_eq_true (nI_ne0 h0 h)
theorem jr_n {a d : Nat} (ha : a < 2 ^ 31) (h0 : 0 < d) (hd : d < 2 ^ 31) : jrem (nI a) (nI d) = nI (a % d) := pk_rem ha h0 hd
theorem isB_0 : isB (nI 0) = true := by decide
theorem isB_1 : isB (nI 1) = true := by decide
theorem lm1 : (-1 : Int32) = Int32.ofInt (-1) := rfl
theorem nI_nm1 {k : Nat} (h : k < 2 ^ 31) : nI k ≠ (-1 : Int32) := by
  intro e
  have := congrArg Int32.toInt e
  rw [nI_toInt h] at this
  have e2 : (-1 : Int32).toInt = -1 := rfl
  omega
theorem nm1_nI {k : Nat} (h : k < 2 ^ 31) : ¬ (-1 : Int32) = nI k := fun e => nI_nm1 h e.symm
/-! ===== what a pure run gives ===== -/
section
variable {α β ρ σ : Type}
def Ev (x : Option α) (Q : α → Prop) : Prop := ∃ a, x = some a ∧ Q a
theorem Ev.mono {x : Option α} {Q R : α → Prop} (h : Ev x Q) (k : ∀ a, Q a → R a) : Ev x R := h.elim fun a h => ⟨a, h.1, k a h.2⟩
theorem Ev.of {x : Option α} {a : α} {Q : α → Prop} (h : x = some a) (hq : Q a) : Ev x Q := ⟨a, h, hq⟩
theorem ev_some {a : α} {Q : α → Prop} : Ev (some a) Q ↔ Q a := ⟨fun ⟨_, e, h⟩ => Option.some.inj e ▸ h, fun h => ⟨a, rfl, h⟩⟩
theorem ev_chk {b : Bool} {k : Option α} {Q : α → Prop} : Ev (chk b k) Q ↔ b = true ∧ Ev k Q := by
  cases b with
  | true => exact ⟨fun h => ⟨rfl, h⟩, fun h => h.2⟩
  | false => exact ⟨fun ⟨_, e, _⟩ => absurd e (by simp [chk]), fun h => absurd h.1 (by simp)⟩
theorem ev_bnd {e : β} {k : β → Option α} {Q : α → Prop} : Ev (bnd e k) Q ↔ Ev (k e) Q := Iff.rfl
theorem ev_bndc {f : Option (ρ × σ)} {k : ρ → σ → Option α} {Q : α → Prop} : Ev (bndc f k) Q ↔ Ev f (fun q => Ev (k q.1 q.2) Q) := by
  cases f with
  | none => exact ⟨fun ⟨_, e, _⟩ => absurd e (by simp [bndc]), fun ⟨_, e, _⟩ => absurd e (by simp)⟩
  | some q => exact ⟨fun h => ⟨q, rfl, h⟩, fun ⟨a, e, h⟩ => by cases Option.some.inj e; exact h⟩
theorem ev_bndv {f : Option σ} {k : σ → Option α} {Q : α → Prop} : Ev (bndv f k) Q ↔ Ev f (fun q => Ev (k q) Q) := by
  cases f with
  | none => exact ⟨fun ⟨_, e, _⟩ => absurd e (by simp [bndv]), fun ⟨_, e, _⟩ => absurd e (by simp)⟩
  | some q => exact ⟨fun h => ⟨q, rfl, h⟩, fun ⟨a, e, h⟩ => by cases Option.some.inj e; exact h⟩
theorem ev_ite {p : Prop} [Decidable p] {a b : Option α} {Q : α → Prop} (h1 : p → Ev a Q) (h2 : ¬ p → Ev b Q) : Ev (if p then a else b) Q := by
  by_cases h : p
  · rw [if_pos h]; exact h1 h
  · rw [if_neg h]; exact h2 h
theorem Ev.c {f : Option (ρ × σ)} {k : ρ → σ → Option α} {P : ρ × σ → Prop} {Q : α → Prop} (h : Ev f P) (hk : ∀ r s, P (r, s) → Ev (k r s) Q) : Ev (bndc f k) Q := ev_bndc.mpr (h.mono fun q hq => hk q.1 q.2 hq)
theorem Ev.v {f : Option σ} {k : σ → Option α} {P : σ → Prop} {Q : α → Prop} (h : Ev f P) (hk : ∀ s, P s → Ev (k s) Q) : Ev (bndv f k) Q := ev_bndv.mpr (h.mono fun q hq => hk q hq)
theorem Ev.k {b : Bool} {k : Option α} {Q : α → Prop} (hb : b = true) (h : Ev k Q) : Ev (chk b k) Q := ev_chk.mpr ⟨hb, h⟩
theorem chk_tt {b : Bool} {k : Option α} (hb : b = true) : chk b k = k := by subst hb; rfl
theorem bnd_e {e : β} {k : β → α} : bnd e k = k e := rfl
theorem bndc_s {r : ρ} {s : σ} {k : ρ → σ → Option α} : bndc (some (r, s)) k = k r s := rfl
theorem bndv_s {s : σ} {k : σ → Option α} : bndv (some s) k = k s := rfl
end
theorem iLE {α : Type} {a b : Nat} {x y : α} (ha : a < 2 ^ 31) (hb : b < 2 ^ 31) : (if nI a ≤ nI b then x else y) = if a ≤ b then x else y := by simp only [nI_leI ha hb]
theorem iLT {α : Type} {a b : Nat} {x y : α} (ha : a < 2 ^ 31) (hb : b < 2 ^ 31) : (if nI a < nI b then x else y) = if a < b then x else y := by simp only [nI_ltI ha hb]
theorem iEQ {α : Type} {a b : Nat} {x y : α} (ha : a < 2 ^ 31) (hb : b < 2 ^ 31) : (if nI a = nI b then x else y) = if a = b then x else y := by simp only [nI_eq ha hb]
theorem i0 {α : Type} {a : Nat} {x y : α} (ha : a < 2 ^ 31) : (if nI a = (0 : Int32) then x else y) = if a = 0 then x else y := iEQ (b := 0) ha (by omega)
/-! ===== the reference's cells ===== -/
theorem sA_1 (g : MS) (a i : Nat) (v : Int32) : (sA g a i v).1 = g.1 := rfl
theorem sA_3 (g : MS) (a i : Nat) (v : Int32) : (sA g a i v).2.2 = g.2.2 := rfl
theorem sA_2 (g : MS) (a i b : Nat) (v : Int32) : (sA g a i v).2.1 b = if b = a then upd (g.2.1 a) i v else g.2.1 b := rfl
theorem sI_1 (g : MS) (k j : Nat) (v : Int32) : (sI g k v).1 j = if j = k then v else g.1 j := rfl
theorem sI_2 (g : MS) (k : Nat) (v : Int32) : (sI g k v).2 = g.2 := rfl
theorem upd_j (f : Nat → Int32) (k j : Nat) (v : Int32) : upd f k v j = if j = k then v else f j := rfl
/-- only the ints li and the rows la have changed -/
def fM (li la : List Nat) (g g' : MS) : Prop := (∀ k, k ∉ li → g'.1 k = g.1 k) ∧ (∀ a, a ∉ la → g'.2.1 a = g.2.1 a) ∧ g'.2.2 = g.2.2
theorem fM.refl {li la : List Nat} (g : MS) : fM li la g g := ⟨fun _ _ => rfl, fun _ _ => rfl, rfl⟩
theorem fM.trans {li la : List Nat} {g g' g'' : MS} (h : fM li la g g') (h2 : fM li la g' g'') : fM li la g g'' := ⟨fun k hk => (h2.1 k hk).trans (h.1 k hk), fun a ha => (h2.2.1 a ha).trans (h.2.1 a ha), h2.2.2.trans h.2.2⟩
theorem fM.mono {li la li2 la2 : List Nat} {g g' : MS} (h : fM li la g g') (h1 : ∀ k ∈ li, k ∈ li2) (h2 : ∀ k ∈ la, k ∈ la2) : fM li2 la2 g g' := ⟨fun k hk => h.1 k (fun z => hk (h1 k z)), fun a ha => h.2.1 a (fun z => ha (h2 a z)), h.2.2⟩
theorem fM.sA {li la : List Nat} {g g' : MS} {a i : Nat} {v : Int32} (h : fM li la g g') (ha : a ∈ la) : fM li la g (sA g' a i v) := ⟨h.1, fun b hb => by rw [sA_2, if_neg (fun e : b = a => hb (by rw [e]; exact ha))]; exact h.2.1 b hb, h.2.2⟩
theorem fM.sI {li la : List Nat} {g g' : MS} {k : Nat} {v : Int32} (h : fM li la g g') (hk : k ∈ li) : fM li la g (sI g' k v) := ⟨fun j hj => by rw [sI_1, if_neg (fun e : j = k => hj (by rw [e]; exact hk))]; exact h.1 j hj, h.2.1, h.2.2⟩
theorem fM.row {li la : List Nat} {g g' : MS} (h : fM li la g g') (a : Nat) (ha : a ∉ la) : g'.2.1 a = g.2.1 a := h.2.1 a ha
/-! ===== folds ===== -/
/-- f over 0 .. n-1 -/
def lpf {α : Type} (f : Nat → α → α) : Nat → α → α
  | 0, x => x
  | k + 1, x => f k (lpf f k x)
