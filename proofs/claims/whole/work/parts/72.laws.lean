/-! ===== a law's code: what it gives ===== -/
abbrev Lw : Type := List Nat
theorem done_some (a : Int32) (x y : Int64) : ∃ v, fX12_done a x y = some v := by
  unfold fX12_done fX12_bound
  simp only [bndv_s]
  repeat' split
  all_goals exact ⟨_, rfl⟩
def opd (op : Nat) (x y : Int32) : Int32 := match fX12_done (nI op) x.toInt64 y.toInt64 with
  | some v => v
  | none => 0
theorem opd_eq (op : Nat) (x y : Int32) : fX12_done (nI op) x.toInt64 y.toInt64 = some (opd op x y) := by
  obtain ⟨v, h⟩ := done_some (nI op) x.toInt64 y.toInt64
  unfold opd
  rw [h]
def stp (e : Nat → Int32) (q : Nat × (Nat → Int32)) (op : Nat) : Nat × (Nat → Int32) :=
  if op < 100 then (if op = 18 then (q.1, upd q.2 (q.1 - 1) (1 - q.2 (q.1 - 1))) else (q.1 - 1, upd q.2 (q.1 - 2) (opd op (q.2 (q.1 - 2)) (q.2 (q.1 - 1)))))
  else (q.1 + 1, upd q.2 q.1 (if op < 1000 then e (op - 100) else nI (op - 1000)))
def rnL (e : Nat → Int32) (l : Lw) (q : Nat × (Nat → Int32)) : Nat × (Nat → Int32) := l.foldl (stp e) q
/-- a law's worth -/
def lwV (e : Nat → Int32) (l : Lw) : Int32 := (rnL e l (0, fun _ => 0)).2 0
/-- true: a truth; false: a number -/
def kv (b : Bool) (v : Int32) : Prop := match b with
  | true => v = 0 ∨ v = 1
  | false => -1000000 ≤ v.toInt ∧ v.toInt ≤ 1000000
def okK : List Bool → Nat → (Nat → Int32) → Prop
  | [], d, _ => d = 0
  | b :: K, d, st => 1 ≤ d ∧ kv b (st (d - 1)) ∧ okK K (d - 1) st
theorem okK_len : ∀ {K : List Bool} {d : Nat} {st : Nat → Int32}, okK K d st → d = K.length
  | [], _, _, h => h
  | _ :: K, d, st, ⟨h1, _, h3⟩ => by have := okK_len h3; simp only [List.length_cons]; omega
theorem okK_cong : ∀ {K : List Bool} {d : Nat} {st st' : Nat → Int32}, (∀ j, j < d → st' j = st j) → okK K d st → okK K d st'
  | [], _, _, _, _, h => h
  | _ :: K, d, st, st', hj, ⟨h1, h2, h3⟩ => ⟨h1, by rw [hj (d - 1) (by omega)]; exact h2, okK_cong (fun j h => hj j (by omega)) h3⟩
def ty1 (op : Nat) (K : List Bool) : Option (List Bool) :=
  if op < 100 then
    if op = 18 then match K with
      | true :: T => some (true :: T)
      | _ => none
    else if 10 ≤ op ∧ op ≤ 12 then match K with
      | false :: false :: T => some (false :: T)
      | _ => none
    else if 13 ≤ op ∧ op ≤ 15 then match K with
      | false :: false :: T => some (true :: T)
      | _ => none
    else if op = 16 ∨ op = 17 then match K with
      | true :: true :: T => some (true :: T)
      | _ => none
    else none
  else if op < 104 ∨ 1000 ≤ op ∧ op < 2000 then (if K.length < 64 then some (false :: K) else none) else none
def tyS : Lw → List Bool → Option (List Bool)
  | [], K => some K
  | op :: l, K => match ty1 op K with
    | some K' => tyS l K'
    | none => none
theorem tyS_cons {op : Nat} {l : Lw} {K R : List Bool} (h : tyS (op :: l) K = some R) : ∃ K', ty1 op K = some K' ∧ tyS l K' = some R := by
  unfold tyS at h
  cases h1 : ty1 op K with
  | none => rw [h1] at h; cases h
  | some K' => rw [h1] at h; exact ⟨K', rfl, h⟩
theorem tyS_app : ∀ {l m : Lw} {K K' R : List Bool}, tyS l K = some K' → tyS m K' = some R → tyS (l ++ m) K = some R
  | [], _, K, K', _, h, h2 => by cases Option.some.inj h; exact h2
  | op :: l, m, K, K', R, h, h2 => by
    obtain ⟨K1, h3, h4⟩ := tyS_cons h
    show (match ty1 op K with | some K' => tyS (l ++ m) K' | none => none) = some R
    rw [h3]
    exact tyS_app h4 h2
theorem ty1_inv {op : Nat} {K K' : List Bool} (h : ty1 op K = some K') :
    (op = 18 ∧ ∃ T, K = true :: T ∧ K' = true :: T) ∨ (10 ≤ op ∧ op ≤ 12 ∧ ∃ T, K = false :: false :: T ∧ K' = false :: T) ∨
    (13 ≤ op ∧ op ≤ 15 ∧ ∃ T, K = false :: false :: T ∧ K' = true :: T) ∨ ((op = 16 ∨ op = 17) ∧ ∃ T, K = true :: true :: T ∧ K' = true :: T) ∨
    (100 ≤ op ∧ (op < 104 ∨ 1000 ≤ op ∧ op < 2000) ∧ K.length < 64 ∧ K' = false :: K) := by
  unfold ty1 at h
  split at h
  · split at h
    · split at h
      · cases Option.some.inj h; exact Or.inl ⟨by assumption, _, rfl, rfl⟩
      · cases h
    · split at h
      · rename_i h1
        split at h
        · cases Option.some.inj h; exact Or.inr (Or.inl ⟨h1.1, h1.2, _, rfl, rfl⟩)
        · cases h
      · split at h
        · rename_i h1
          split at h
          · cases Option.some.inj h; exact Or.inr (Or.inr (Or.inl ⟨h1.1, h1.2, _, rfl, rfl⟩))
          · cases h
        · split at h
          · rename_i h1
            split at h
            · cases Option.some.inj h; exact Or.inr (Or.inr (Or.inr (Or.inl ⟨h1, _, rfl, rfl⟩)))
            · cases h
          · cases h
  · split at h
    · split at h
      · cases Option.some.inj h; exact Or.inr (Or.inr (Or.inr (Or.inr ⟨by omega, by assumption, by assumption, rfl⟩)))
      · cases h
    · cases h
theorem n_toInt {k : Nat} (h : k < 2 ^ 31) : (nI k).toInt = k := nI_toInt h
/-- what a step of two gives is of its kind -/
theorem bound_rng (z : Int64) : kv false ((jmaxL (-1000000 : Int64) (jminL (1000000 : Int64) z)).toInt32) := by
  have e1 : (-1000000 : Int64).toInt = -1000000 := rfl
  have e2 : (1000000 : Int64).toInt = 1000000 := rfl
  have key : ∀ w : Int64, -1000000 ≤ w.toInt → w.toInt ≤ 1000000 → kv false w.toInt32 := fun w h1 h2 => by
    have : w.toInt32.toInt = w.toInt := by
      rw [Int64.toInt_toInt32]
      exact fb_bmod (by omega) (by omega)
    show _ ∧ _
    rw [this]
    exact ⟨h1, h2⟩
  obtain ⟨w, hw, hw2⟩ : ∃ w, jminL (1000000 : Int64) z = w ∧ w.toInt ≤ 1000000 := by
    refine ⟨_, rfl, ?_⟩
    unfold jminL
    split
    · rename_i h
      rw [fa_lt64, e2] at h
      omega
    · rw [e2]; omega
  rw [hw]
  unfold jmaxL
  split
  · exact key _ (by rw [e1]; omega) (by rw [e1]; omega)
  · rename_i h
    rw [fa_lt64, e1] at h
    exact key _ (by omega) hw2
theorem opd_num {op : Nat} {x y : Int32} (h : 10 ≤ op) (h2 : op ≤ 12) : kv false (opd op x y) := by
  rcases (show op = 10 ∨ op = 11 ∨ op = 12 by omega) with q | q | q <;> subst q
  · exact bound_rng (x.toInt64 + y.toInt64)
  · exact bound_rng (x.toInt64 - y.toInt64)
  · exact bound_rng (x.toInt64 * y.toInt64)
theorem opd_tru {op : Nat} {x y : Int32} (h : 13 ≤ op) (h2 : op ≤ 17) : kv true (opd op x y) := by
  have key : ∀ (c : Prop) [Decidable c] (v : Int32), (if c then some (1 : Int32) else some (0 : Int32)) = some v → kv true v := by
    intro c _ v h
    split at h
    · exact Or.inr (Option.some.inj h).symm
    · exact Or.inl (Option.some.inj h).symm
  have key2 : ∀ (c : Prop) [Decidable c] (v : Int32), (if c then some (0 : Int32) else some (1 : Int32)) = some v → kv true v := by
    intro c _ v h
    split at h
    · exact Or.inl (Option.some.inj h).symm
    · exact Or.inr (Option.some.inj h).symm
  have e := opd_eq op x y
  rcases (show op = 13 ∨ op = 14 ∨ op = 15 ∨ op = 16 ∨ op = 17 by omega) with q | q | q | q | q <;> subst q
  · exact key _ _ e
  · exact key2 _ _ e
  · exact key2 _ _ e
  · exact key2 _ _ e
  · exact key2 _ _ e
/-- a step keeps the kinds -/
theorem stp_ok {e : Nat → Int32} {op : Nat} {K K' : List Bool} {d : Nat} {st : Nat → Int32} (he : ∀ i, i < 4 → kv false (e i)) (h : ty1 op K = some K') (hk : okK K d st) (hK : K.length ≤ 64) : okK K' (stp e (d, st) op).1 (stp e (d, st) op).2 ∧ K'.length ≤ 64 := by
  have hd := okK_len hk
  unfold stp
  rcases ty1_inv h with ⟨rfl, T, rfl, rfl⟩ | ⟨h1, h2, T, rfl, rfl⟩ | ⟨h1, h2, T, rfl, rfl⟩ | ⟨h1, T, rfl, rfl⟩ | ⟨h1, h2, h3, rfl⟩
  · obtain ⟨a1, a2, a3⟩ := hk
    rw [if_pos (by omega), if_pos rfl]
    refine ⟨⟨a1, ?_, okK_cong (fun j hj => ?_) a3⟩, hK⟩
    · show kv true (upd st (d - 1) _ (d - 1))
      rw [upd_j, if_pos rfl]
      rcases a2 with q | q
      · exact Or.inr (by show (1 : Int32) - st (d - 1) = 1; rw [q]; rfl)
      · exact Or.inl (by show (1 : Int32) - st (d - 1) = 0; rw [q]; rfl)
    · show upd st (d - 1) _ j = st j
      rw [upd_j, if_neg (by have : j < d - 1 := hj; omega)]
  · obtain ⟨a1, a2, a3, a4, a5⟩ := hk
    rw [if_pos (by omega), if_neg (by omega)]
    simp only [List.length_cons] at hK hd ⊢
    refine ⟨⟨a3, ?_, okK_cong (fun j hj => ?_) a5⟩, by omega⟩
    · show kv false (upd st (d - 2) _ (d - 1 - 1))
      rw [upd_j, if_pos (by omega)]
      exact opd_num h1 h2
    · show upd st (d - 2) _ j = st j
      rw [upd_j, if_neg (by omega)]
  · obtain ⟨a1, a2, a3, a4, a5⟩ := hk
    rw [if_pos (by omega), if_neg (by omega)]
    simp only [List.length_cons] at hK hd ⊢
    refine ⟨⟨a3, ?_, okK_cong (fun j hj => ?_) a5⟩, by omega⟩
    · show kv true (upd st (d - 2) _ (d - 1 - 1))
      rw [upd_j, if_pos (by omega)]
      exact opd_tru h1 (by omega)
    · show upd st (d - 2) _ j = st j
      rw [upd_j, if_neg (by omega)]
  · obtain ⟨a1, a2, a3, a4, a5⟩ := hk
    rw [if_pos (by omega), if_neg (by omega)]
    simp only [List.length_cons] at hK hd ⊢
    refine ⟨⟨a3, ?_, okK_cong (fun j hj => ?_) a5⟩, by omega⟩
    · show kv true (upd st (d - 2) _ (d - 1 - 1))
      rw [upd_j, if_pos (by omega)]
      exact opd_tru (by omega) (by omega)
    · show upd st (d - 2) _ j = st j
      rw [upd_j, if_neg (by omega)]
  · rw [if_neg (by omega)]
    refine ⟨⟨by show 1 ≤ d + 1; omega, ?_, okK_cong (fun j hj => ?_) (by show okK K (d + 1 - 1) st; exact hk)⟩, by simp only [List.length_cons]; omega⟩
    · show kv false (upd st d _ (d + 1 - 1))
      rw [upd_j, if_pos (by omega)]
      split
      · exact he _ (by omega)
      · show _ ∧ _
        rw [n_toInt (by omega)]
        omega
    · show upd st d _ j = st j
      rw [upd_j, if_neg (by have : j < d + 1 - 1 := hj; omega)]
/-! ===== the reference reckons a law ===== -/
set_option maxHeartbeats 4000000 in
theorem lawOf_lp (e : Nat → Int32) (many at0 : Nat) (hm : many < 2850) (he : ∀ i, i < 4 → kv false (e i)) (b : Bool) : ∀ (l : Lw) (K : List Bool) (d : Nat) (st : Nat → Int32) (k f : Nat) (g : MS),
    tyS l K = some [b] → K.length ≤ 64 → okK K d st → (∀ j, j < d → g.2.1 19 j = st j) → (∀ i, i < 4 → g.2.1 20 i = e i) → g.2.1 0 many = nI (k + l.length) →
    (∀ i, i < l.length → g.2.1 0 (at0 + k + i) = nI (l.getD i 0)) → at0 + k + l.length ≤ 2850 → l.length < f →
    Ev (fX12_lawOf_5 f g (nI many) (nI at0) (nI d) (nI k)) (fun q => q.1 = (rnL e l (d, st)).2 0 ∧ kv b q.1 ∧ fM [] [19] g q.2) := by
  intro l
  induction l with
  | nil =>
    intro K d st k f g hty hK hok hst hen hmany hrow hat hf
    obtain ⟨f, rfl⟩ : ∃ f', f = f' + 1 := ⟨f - 1, by omega⟩
    cases Option.some.inj hty
    obtain ⟨h1, h2, h3⟩ := hok
    have hd : d = 1 := by have : d - 1 = 0 := h3; omega
    subst hd
    rw [fX12_lawOf_5]
    refine Ev.k (ib_n hm (by omega)) ?_
    rw [ix_n (by omega), hmany, if_pos (nI_le (by simp) (by simp at hat ⊢; omega))]
    refine Ev.k (by decide) (ev_some.mpr ⟨?_, ?_, fM.refl g⟩)
    · exact hst 0 (by omega)
    · show kv b (g.2.1 19 0)
      rw [hst 0 (by omega)]
      exact h2
  | cons op l ih =>
    intro K d st k f g hty hK hok hst hen hmany hrow hat hf
    simp only [List.length_cons] at hmany hat hf hrow
    obtain ⟨f, rfl⟩ : ∃ f', f = f' + 1 := ⟨f - 1, by omega⟩
    obtain ⟨K', h1, h2⟩ := tyS_cons hty
    obtain ⟨ok', hK'⟩ := stp_ok he h1 hok hK
    have hd := okK_len hok
    have hop : g.2.1 0 (at0 + k) = nI op := by have := hrow 0 (by omega); simpa using this
    have ho : op < 2000 := by rcases ty1_inv h1 with q | q | q | q | q <;> omega
    have hmany' : g.2.1 0 many = nI (k + 1 + l.length) := by rw [hmany]; congr 1; omega
    have hrow' : ∀ i, i < l.length → g.2.1 0 (at0 + (k + 1) + i) = nI (l.getD i 0) := fun i hi => by
      have := hrow (i + 1) (by omega)
      rw [show at0 + (k + 1) + i = at0 + k + (i + 1) by omega, this]
      rfl
    -- one step, whatever it lays
    have go : ∀ (g1 : MS) (d1 : Nat) (s1 : Nat → Int32), (d1, s1) = stp e (d, st) op → (∀ j, j < d1 → g1.2.1 19 j = s1 j) → fM [] [19] g g1 →
        Ev (fX12_lawOf_5 f g1 (nI many) (nI at0) (nI d1) (nI (k + 1))) (fun q => q.1 = (rnL e (op :: l) (d, st)).2 0 ∧ kv b q.1 ∧ fM [] [19] g q.2) := by
      intro g1 d1 s1 h3 h4 h5
      have e0 := h5.row 0 (by decide)
      have e20 := h5.row 20 (by decide)
      have ok1 : okK K' d1 s1 := by rw [← h3] at ok'; exact ok'
      refine (ih K' d1 s1 (k + 1) f g1 h2 hK' ok1 h4 (by rw [e20]; exact hen) (by rw [e0]; exact hmany') (by rw [e0]; exact hrow') (by omega) (by omega)).mono ?_
      rintro ⟨r, g2⟩ ⟨q1, q2, q3⟩
      refine ⟨?_, q2, h5.trans q3⟩
      rw [q1, h3]
      rfl
    rw [fX12_lawOf_5]
    refine Ev.k (ib_n hm (by omega)) ?_
    rw [ix_n (by omega), hmany, if_neg (nI_ge (by omega) (by omega)), nI_add]
    refine Ev.k (ib_n (by omega) (by omega)) ?_
    rw [bnd_e, ix_n (by omega), hop]
    by_cases hbb : ∃ (b1 b2 : Bool) (T : List Bool), K = b1 :: b2 :: T ∧ 10 ≤ op ∧ op ≤ 17
    · obtain ⟨b1, b2, T, hKT, hl, hh⟩ := hbb
      rw [hKT] at hK hd
      simp only [List.length_cons] at hK hd
      rw [if_pos (show nI op < (100 : Int32) from nI_lt (b := 100) (by omega) (by omega)), if_neg (by rw [l_18, nI_eq (by omega) (by omega)]; omega)]
      rw [show nI d + (-1 : Int32) = nI (d - 1) from by obtain ⟨d, rfl⟩ : ∃ d', d = d' + 1 := ⟨d - 1, by omega⟩; exact pk_m1 d, bnd_e, l_1, pk_sub (show 1 ≤ d - 1 by omega), ix_n (by omega), ix_n (by omega)]
      refine Ev.k (ib_n (by omega) (by omega)) (Ev.k (ib_n (by omega) (by omega)) ?_)
      rw [opd_eq, bndv_s]
      refine Ev.k (ib_n (by omega) (by omega)) ?_
      rw [bnd_e, nI_add, bnd_e]
      refine go _ (d - 1) _ (by unfold stp; rw [if_pos (by omega), if_neg (by omega)]) (fun j hj => ?_) ((fM.refl g).sA (by decide))
      show upd (g.2.1 19) (d - 1 - 1) (opd op (g.2.1 19 (d - 1 - 1)) (g.2.1 19 (d - 1))) j = upd st (d - 2) (opd op (st (d - 2)) (st (d - 1))) j
      rw [upd_j, upd_j, hst (d - 1) (by omega), hst (d - 1 - 1) (by omega), hst j (by omega)]
      rfl
    · rcases ty1_inv h1 with ⟨rfl, T, rfl, rfl⟩ | ⟨x1, x2, T, x3, -⟩ | ⟨x1, x2, T, x3, -⟩ | ⟨x1, T, x3, -⟩ | q
      · rw [if_pos (by decide), if_pos (show nI 18 = (18 : Int32) from rfl)]
        obtain ⟨a1, a2, a3⟩ := hok
        simp only [List.length_cons] at hK hd
        rw [l_1, pk_sub a1, ix_n (by omega)]
        refine Ev.k (ib_n (by omega) (by omega)) (Ev.k (ib_n (by omega) (by omega)) ?_)
        rw [bnd_e, nI_add, bnd_e]
        refine go _ d _ rfl (fun j hj => ?_) ((fM.refl g).sA (by decide))
        show upd (g.2.1 19) (d - 1) (1 - g.2.1 19 (d - 1)) j = upd st (d - 1) (1 - st (d - 1)) j
        rw [upd_j, upd_j, hst (d - 1) (by omega), hst j hj]
      · exact absurd ⟨_, _, T, x3, by omega, by omega⟩ hbb
      · exact absurd ⟨_, _, T, x3, by omega, by omega⟩ hbb
      · exact absurd ⟨_, _, T, x3, by omega, by omega⟩ hbb
      · obtain ⟨a1, a2, a3, rfl⟩ := q
        have fin : ∀ v : Int32, v = (if op < 1000 then e (op - 100) else nI (op - 1000)) → Ev (fX12_lawOf_66 (fX12_lawOf_5 f) g (nI many) (nI at0) (nI d) (nI k) (nI d) v) (fun q => q.1 = (rnL e (op :: l) (d, st)).2 0 ∧ kv b q.1 ∧ fM [] [19] g q.2) := by
          intro v hv
          unfold fX12_lawOf_66
          refine Ev.k (ib_n (by omega) (by omega)) ?_
          rw [bnd_e, l_1, nI_add, bnd_e, nI_add, bnd_e, ix_n (by omega)]
          refine go _ (d + 1) _ (by unfold stp; rw [if_neg (by omega)]) (fun j hj => ?_) ((fM.refl g).sA (by decide))
          show upd (g.2.1 19) d v j = upd st d (if op < 1000 then e (op - 100) else nI (op - 1000)) j
          rw [upd_j, upd_j, hv]
          by_cases hjd : j = d
          · rw [if_pos hjd, if_pos hjd]
          · rw [if_neg hjd, if_neg hjd, hst j (by omega)]
        rw [if_neg (show ¬ nI op < (100 : Int32) from nI_nlt (b := 100) (by omega) (by omega))]
        by_cases h10 : op < 1000
        · rw [if_pos (show nI op < (1000 : Int32) from nI_lt (b := 1000) h10 (by omega)), l_100, pk_sub (by omega)]
          refine Ev.k (ib_n (by omega) (by omega)) (fin _ ?_)
          rw [ix_n (by omega), if_pos h10, hen _ (by omega)]
        · rw [if_neg (show ¬ nI op < (1000 : Int32) from nI_nlt (b := 1000) (by omega) (by omega)), l_1000, pk_sub (by omega)]
          exact fin _ (by rw [if_neg h10])
