/-! ===== the class's chances ===== -/
section
variable {b : AB} {P : PL} {g : CS} {T : Nat}
theorem share15 (hw : wfB b) {v c : Nat → Nat} {ord left : Nat} (hl : left ≤ 6) (hS : SB b P g 30) (h : ∀ w, w < 6 → g.2.1 26 w = nI (c w)) (r : CS → Int32 → Int32 → Int32 → Int32 → Option CS) : Ev (fX5_share_15 P r g (nI left) (nI (l6 (bhA b v))) (nI ord)) (fun g' => (∀ w, w < 6 → g'.2.1 26 w = nI (c w + ord * (if left = 0 then gsB b w v else 0))) ∧ fC [] [26] [] g g') := by
  have hc := chA_le hw (bhA b v)
  unfold fX5_share_15
  rw [chairOf_eq hw (bhA_lk hw v) hS, bndc_s, i0 (by omega)]
  by_cases c0 : left = 0
  · rw [if_pos c0]
    by_cases e : chA b (bhA b v) = 0
    · rw [if_pos (by rw [e]; rfl)]
      refine ev_some.mpr ⟨fun w hw6 => ?_, fC.refl g⟩
      rw [h w hw6, if_pos c0]
      unfold gsB
      rw [decide_eq_false (by omega)]
      rfl
    · have ep : pm (chA b (bhA b v)) = nI (chA b (bhA b v) - 1) := by unfold pm; rw [if_neg e]
      rw [ep, if_neg (nI_nm1 (by omega))]
      refine Ev.k (ib_n (by omega) (by omega)) (Ev.k (ib_n (by omega) (by omega)) ?_)
      rw [bnd_e, ix_n (by omega), h _ (show chA b (bhA b v) - 1 < 6 by omega), nI_add]
      refine ev_some.mpr ⟨fun w hw6 => ?_, (fC.refl g).tA (by decide)⟩
      show upd (g.2.1 26) _ _ w = _
      rw [upd_j, if_pos c0]
      unfold gsB
      by_cases e2 : w = chA b (bhA b v) - 1
      · rw [if_pos e2, decide_eq_true (by omega), e2, Bool.toNat_true, Nat.mul_one]
      · rw [if_neg e2, decide_eq_false (by omega), h w hw6]
        rfl
  · rw [if_neg c0]
    refine ev_some.mpr ⟨fun w hw6 => ?_, fC.refl g⟩
    rw [h w hw6, if_neg c0]
    rfl
theorem bh_add (hw : wfB b) {m : Nat} (hm : m < bN b) (v : Nat → Nat) (k j : Nat) : bhA b (addN v m (k + 1)) j = (bhA b (addN v m k) j + (if alA b m j = true ∧ j < bN b then 1 else 0)) % bN b := by
  have e : addN v m (k + 1) = upN (addN v m k) m (addN v m k m + 1) := by
    funext i
    unfold addN upN
    by_cases h : i = m
    · rw [if_pos h, if_pos h, if_pos rfl, h]; omega
    · rw [if_neg h, if_neg h]
      exact (if_neg h).symm
  rw [e]
  exact bhA_up hw hm (Or.inl rfl) j
theorem shr (hw : wfB b) : ∀ d m D (v c : Nat → Nat) (left ord : Nat) (g : CS), m + d = bN b → fD b (bN b - m) < D → left ≤ 6 → SB b P g 30 → TB b g → (∀ w, w < 6 → g.2.1 26 w = nI (c w)) → Ev (fX5_shareD P D g (nI (fD b (bN b) - fD b (bN b - m))) (nI left) (nI (l6 (bhA b v))) (nI ord)) (fun g' => (∀ w, w < 6 → g'.2.1 26 w = nI (c w + ord * shS b w m left v)) ∧ fC [] [26] [] g g') := by
  have hn := hw.2.1
  have hn1 := hw.1
  have hF := fD_le b (bN b)
  intro d
  induction d with
  | zero =>
    intro m D v c left ord g hm hD hl hS hB h
    obtain ⟨D, rfl⟩ : ∃ D', D = D' + 1 := ⟨D - 1, by omega⟩
    have hm : m = bN b := hm
    subst hm
    rw [fX5_shareD, fX5_shareB, hB.2.1, Nat.sub_self, show fD b 0 = 0 from rfl, if_pos (nI_le (by omega) (by omega))]
    refine (share15 hw hl hS h _).mono ?_
    rintro z ⟨z1, z2⟩
    refine ⟨fun w hw6 => ?_, z2⟩
    rw [z1 w hw6]
    by_cases c0 : left = 0
    · rw [if_pos c0, c0]
      rfl
    · obtain ⟨l, rfl⟩ : ∃ l, left = l + 1 := ⟨left - 1, by omega⟩
      rw [if_neg c0, shS_end]
  | succ d ih =>
    intro m D v c left ord g hm hD hl hS hB h
    have hs1 := fD_s (b := b) (show m < bN b by omega)
    have hsub : bN b - (m + 1) = bN b - 1 - m := by omega
    cases hs : stk b m with
    | true =>
      rw [hs, if_pos rfl, Nat.add_zero] at hs1
      have st := ih (m + 1) D v c left ord g (by omega) (by rw [hsub, ← hs1]; exact hD) hl hS hB h
      rw [hsub, ← hs1] at st
      refine st.mono ?_
      rintro z ⟨z1, z2⟩
      exact ⟨fun w hw6 => by rw [z1 w hw6, shS_stuck hs], z2⟩
    | false =>
      rw [hs, if_neg (by decide)] at hs1
      obtain ⟨D, rfl⟩ : ∃ D', D = D' + 1 := ⟨D - 1, by omega⟩
      have hfr := fD_free (show m < bN b by omega) hs
      have eix : fD b (bN b) - fD b (bN b - m) = fD b (bN b) - 1 - fD b (bN b - 1 - m) := by omega
      rw [fX5_shareD, fX5_shareB, hB.2.1, eix, if_neg (nI_ge (by omega) (by omega)), i0 (by omega)]
      by_cases c0 : left = 0
      · rw [if_pos c0]
        refine (share15 hw hl hS h _).mono ?_
        rintro z ⟨z1, z2⟩
        refine ⟨fun w hw6 => ?_, z2⟩
        rw [z1 w hw6, if_pos c0, c0]
        rfl
      · rw [if_neg c0]
        have lp : ∀ e own f (g1 : CS), own + e = left + 1 → e < f → SB b P g1 30 → TB b g1 → (∀ w, w < 6 → g1.2.1 26 w = nI (c w + ord * fb_sm (fun o => chB left o * shS b w (m + 1) (left - o) (addN v m o)) own)) → fC [] [26] [] g g1 → Ev (fX5_share_57 P (fX5_shareD P D) f g1 (nI (fD b (bN b) - 1 - fD b (bN b - 1 - m))) (nI left) (nI ord) (nI (l6 (bhA b (addN v m own)))) (nI (chB left own)) (nI own)) (fun g' => (∀ w, w < 6 → g'.2.1 26 w = nI (c w + ord * shS b w m left v)) ∧ fC [] [26] [] g g') := by
          intro e
          induction e with
          | zero =>
            intro own f g1 ho hf hS1 hB1 h1 F1
            obtain ⟨f, rfl⟩ : ∃ f', f = f' + 1 := ⟨f - 1, by omega⟩
            have ho : own = left + 1 := ho
            subst ho
            rw [fX5_share_57, if_pos (nI_lt (by omega) (by omega))]
            refine ev_some.mpr ⟨fun w hw6 => ?_, F1⟩
            rw [h1 w hw6, bino (by omega) hs]
          | succ e ih2 =>
            intro own f g1 ho hf hS1 hB1 h1 F1
            obtain ⟨f, rfl⟩ : ∃ f', f = f' + 1 := ⟨f - 1, by omega⟩
            obtain ⟨b1, b2⟩ := chB_next left hl own (by omega) (by omega)
            have hbm : chB left own * (left - own) ≤ 20 * 6 := Nat.mul_le_mul b2 (by omega)
            rw [fX5_share_57, if_neg (nI_nlt (by omega) (by omega)), nI_1, pk_sub (by omega), pk_mul]
            have st := ih (m + 1) D (addN v m own) (fun w => c w + ord * fb_sm (fun o => chB left o * shS b w (m + 1) (left - o) (addN v m o)) own) (left - own) (ord * chB left own) g1 (by omega) (by rw [hsub]; omega) (by omega) hS1 hB1 h1
            rw [hsub, show fD b (bN b) - fD b (bN b - 1 - m) = fD b (bN b) - 1 - fD b (bN b - 1 - m) + 1 by omega] at st
            refine Ev.v st ?_
            rintro g2 ⟨a1, a2⟩
            have hS2 := hS1.keep a2 (by intro k _ h; simp at h)
            have hB2 := hB1.keep a2 (by decide) (by decide)
            have ha := bhA_lk hw (addN v m own)
            rw [pullAt_eq hw hB2 (by omega) hs, bndc_s, hS2.1, plus_l6 hn1 hn (fun j hj => by have := (ha j hj).1; omega) (fun j hj => by split <;> omega) (fun j hj hj2 => ⟨(ha j hj).2 hj2, if_neg (by omega)⟩), bndv_s]
            have e6 : l6 (fun j => (bhA b (addN v m own) j + (if alA b m j = true ∧ j < bN b then 1 else 0)) % bN b) = l6 (bhA b (addN v m (own + 1))) := lnb_cong (fun j _ => (bh_add hw (by omega) v own j).symm)
            refine Ev.k (by rw [nI_1]; exact nz_n (by omega) (by omega)) ?_
            rw [e6, pk_mul, nI_1, pk_div (by omega) (by omega) (by omega), b1, bnd_e, bnd_e]
            refine ih2 (own + 1) f g2 (by omega) (by omega) hS2 hB2 (fun w hw6 => ?_) (F1.trans a2)
            rw [a1 w hw6, fb_sm_succ, Nat.mul_add, Nat.mul_assoc, Nat.add_assoc]
        have st := lp (left + 1) 0 fuel g (by omega) (by unfold fuel; omega) hS hB (fun w hw6 => by rw [h w hw6]; rfl) (fC.refl g)
        rw [addN_0, chB_0] at st
        exact st
theorem scat29 (hw : wfB b) {n : Nat} (hn6 : n ≤ 6) : ∀ d k f (g : CS), k + d = nC b n → d < f → SB b P g 30 → TB b g → (∀ w, w < 6 → g.2.1 26 w = nI 0) → g.1 22 7 = nI (fD b (bN b) ^ k) → Ev (fX5_scatter_29 P f g (nI n) (nI k)) (fun g' => (∀ w, w < 6 → g'.2.1 26 w = nI (pwC b n w)) ∧ g'.1 22 7 = nI (whC b n) ∧ fC [(22, 7)] [26] [] g g') := by
  have hn := hw.2.1
  have hF := fD_le b (bN b)
  have hnc := nC_le b n
  intro d
  induction d with
  | zero =>
    intro k f g hk hf hS hB h h7
    obtain ⟨f, rfl⟩ : ∃ f', f = f' + 1 := ⟨f - 1, by omega⟩
    have hk : k = nC b n := hk
    have fin : Ev (fX5_scatter_66 P g (nI n)) (fun g' => (∀ w, w < 6 → g'.2.1 26 w = nI (pwC b n w)) ∧ g'.1 22 7 = nI (whC b n) ∧ fC [(22, 7)] [26] [] g g') := by
      have go : Ev (fX5_scatter_83 P g (0 : Int32) (nI (nC b n))) (fun g' => (∀ w, w < 6 → g'.2.1 26 w = nI (pwC b n w)) ∧ g'.1 22 7 = nI (whC b n) ∧ fC [(22, 7)] [26] [] g g') := by
        unfold fX5_scatter_83 fX5_share
        have st := shr (P := P) hw (bN b) 0 10 (fun _ => 0) (fun _ => 0) (nC b n) 1 g (by omega) (by rw [Nat.sub_zero]; omega) (by omega) hS hB h
        rw [Nat.sub_zero, Nat.sub_self] at st
        have e0 : l6 (bA b) = l6 (bhA b (fun _ => 0)) := lnb_cong (fun j hj => by
          unfold bhA
          rw [fb_sm_cong (g := fun _ => 0) (fun m _ => by split <;> rfl), fb_sm_const, Nat.mul_zero, Nat.add_zero, Nat.mod_eq_of_lt (hw.2.2.1 j hj).1])
        rw [hS.2.1, e0]
        refine Ev.v st ?_
        rintro z ⟨z1, z2⟩
        refine ev_some.mpr ⟨fun w hw6 => ?_, ?_, z2.mono (by decide) (by decide) (by decide)⟩
        · rw [z1 w hw6, Nat.zero_add, Nat.one_mul]
          rfl
        · rw [z2.i 22 7 (by decide), h7, hk]
          rfl
      unfold fX5_scatter_66
      rw [hB.2.1]
      by_cases c : fD b (bN b) = 0
      · rw [c, if_pos (show nI 0 ≤ 0 by decide)]
        have e : nC b n = 0 := if_pos c
        rw [e] at go
        exact go
      · rw [if_neg (nI_nle0 (by omega) (by omega))]
        have e : nC b n = n := if_neg c
        rw [e] at go
        exact go
    rw [fX5_scatter_29, iLE (by omega) (by omega)]
    by_cases c : n ≤ k
    · rw [if_pos c]; exact fin
    · have h0 : fD b (bN b) = 0 := by
        unfold nC at hk
        by_cases e : fD b (bN b) = 0
        · exact e
        · rw [if_neg e] at hk; omega
      rw [if_neg c, hB.2.1, if_pos (by rw [h0]; decide)]
      exact fin
  | succ d ih =>
    intro k f g hk hf hS hB h h7
    obtain ⟨f, rfl⟩ : ∃ f', f = f' + 1 := ⟨f - 1, by omega⟩
    have h0 : ¬ fD b (bN b) = 0 := fun e => by
      have : nC b n = 0 := if_pos e
      omega
    rw [fX5_scatter_29, if_neg (nI_ge (by omega) (by omega)), hB.2.1, if_neg (nI_nle0 (by omega) (by omega)), h7, pk_mul, ← Nat.pow_succ, bnd_e, nI_1, bnd_e]
    have f1 : fC [(22, 7)] [26] [] g (tI g 22 7 (nI (fD b (bN b) ^ (k + 1)))) := (fC.refl g).tI (by decide)
    refine (ih (k + 1) f _ (by omega) (by omega) (hS.keep f1 (by intro k _ h; simp at h)) (hB.keep (oi := [(22, 7)]) (la := []) (ll := []) ((fC.refl g).tI (by decide)) (by decide) (by decide)) h tI_s).mono ?_
    rintro z ⟨z1, z2, z3⟩
    exact ⟨z1, z2, f1.trans z3⟩
theorem scatter_eq (hw : wfB b) (hT : g.1 30 7 = nI T) (hS : SB b P g 30) (hV : SV b T g) {n : Nat} (hn6 : n ≤ 6) : Ev (fX5_scatter P g (nI n)) (fun g' => (∀ w, w < 6 → g'.2.1 26 w = nI (pwC b n w)) ∧ g'.1 22 7 = nI (whC b n) ∧ CRs b T g g') := by
  have hn := hw.2.1
  have hnc := nC_le b n
  unfold fX5_scatter
  refine Ev.v (fill6_eq (0 : Int32) g) ?_
  rintro g1 ⟨h1, f1⟩
  have hS1 := hS.keep f1 (by intro k _ h; simp at h)
  rw [hS1.2.2.2.1]
  refine Ev.v (beg_eq hw (by rw [f1.i 30 7 (by decide)]; exact hT) hS1 (hV.keep f1 (by decide) (by decide))) ?_
  rintro g2 ⟨t1, t2, t3⟩
  rw [bnd_e]
  have f3 : fC [(22, 7)] [] [] g2 (tI g2 22 7 1) := (fC.refl g2).tI (by decide)
  have F : fC snI snA [] g (tI g2 22 7 1) := ((f1.mono (by decide) (by decide) (by decide)).trans (t3.mono (by decide) (by decide) (by decide))).trans (f3.mono (by decide) (by decide) (by decide))
  refine (scat29 hw hn6 (nC b n) 0 fuel (tI g2 22 7 1) (by omega) (by unfold fuel; omega) (hS.keep F snno30) (t1.keep f3 (by decide) (by decide)) (fun w hw6 => ?_) tI_s).mono ?_
  · show g2.2.1 26 w = _
    rw [t3.2.1 26 (by decide)]
    exact h1 w hw6
  · rintro z ⟨z1, z2, z3⟩
    exact ⟨z1, z2, (t2.keep f3 (by decide) (by decide)).keep z3 (by decide) (by decide), F.trans (z3.mono (by decide) (by decide) (by decide))⟩
theorem needCh_y {n : Nat} (h : n ≤ 6) : fX11_needChances P g (nI n) = some (Sum.inr (), g) := by
  unfold fX11_needChances
  rw [if_neg (show ¬ nI n < 0 from nI_nlt (b := 0) (by omega) (by omega)), if_pos (show nI n ≤ (6 : Int32) from nI_le (b := 6) h (by omega))]
theorem needCh_n {x : Int32} (h : ¬ upTo 6 x) : fX11_needChances P g x = some (Sum.inl 1, g) := by
  unfold fX11_needChances
  by_cases h0 : x < 0
  · rw [if_pos h0]
  · rw [if_neg h0]
    obtain ⟨m, hm, rfl⟩ := nI_of h0
    rw [if_neg (show ¬ nI m ≤ (6 : Int32) from fun z => h ⟨m, by rw [l_6, nI_leI hm (by omega)] at z; exact z, rfl⟩)]
theorem cChance_eq (hw : wfB b) (hTs : g.1 30 7 = nI T) (hS : SB b P g 30) (hV : SV b T g) {m n : Nat} (hm : m < bN b) (hn : n ≤ 6) {w : Int32} (hwh : w = 0 ∨ w = 1) : Ev (fX11_chance P g (nI m) (nI n) w) (fun z => z.1 = Sum.inr (chAns b n m w) ∧ CRs b T g z.2) := by
  have h6 := hw.2.1
  have p1 := pwC_le hw hn m
  obtain ⟨w1, w2⟩ := whC_rng hw hn
  have hg : 0 < Nat.gcd (whC b n) (pwC b n m) := Nat.gcd_pos_of_pos_left _ w1
  have hg2 : Nat.gcd (whC b n) (pwC b n m) ≤ whC b n := Nat.gcd_le_left _ w1
  have key : Ev (fX11_chance_30 P g (nI m) (nI n) w) (fun z => z.1 = Sum.inr (chAns b n m w) ∧ CRs b T g z.2) := by
    unfold fX11_chance_30 fX11_commonMeasure
    refine Ev.v (scatter_eq hw hTs hS hV hn) ?_
    rintro g1 ⟨a1, a2, a3⟩
    refine Ev.k (ib_n (by omega) (by omega)) ?_
    have ms : fX11_commonMeasure_7 fuel (nI (pwC b n m)) (nI (whC b n)) (0 : Int32) = some (nI (Nat.gcd (whC b n) (pwC b n m))) := measure_eq 17 0 (pwC b n m) (whC b n) fuel (by omega) (by omega) (by omega) (by unfold fuel; omega) (by omega) (by omega)
    rw [bnd_e, bnd_e, ix_n (by omega), a1 m (by omega), a2, ms, bndv_s, if_pos (show (1 : Int32) ≤ nI _ from nI_le (a := 1) hg (by omega))]
    unfold chAns
    rcases hwh with rfl | rfl
    · rw [if_pos rfl, if_pos rfl]
      refine Ev.k (nz_n hg (by omega)) ?_
      rw [pk_div (by omega) hg (by omega)]
      exact ev_some.mpr ⟨rfl, a3⟩
    · rw [if_neg (by decide), if_neg (by decide)]
      refine Ev.k (nz_n hg (by omega)) ?_
      rw [pk_div (by omega) hg (by omega)]
      exact ev_some.mpr ⟨rfl, a3⟩
  unfold fX11_chance
  rw [needM_y hw hS hm, bxr, needCh_y hn, bxr]
  rcases hwh with rfl | rfl
  · rw [if_pos rfl]; exact key
  · rw [if_neg (by decide), if_pos rfl]; exact key
theorem cChance_n1 (hw : wfB b) (hS : SB b P g 30) {x : Int32} (h : ¬ mem (bN b) x) (y w : Int32) : fX11_chance P g x y w = some (Sum.inl 2, g) := by
  unfold fX11_chance
  rw [needM_n hw hS h, bxl]
theorem cChance_n2 (hw : wfB b) (hS : SB b P g 30) {m : Nat} (hm : m < bN b) {y w : Int32} (h : ¬ upTo 6 y ∨ ¬ (w = 0 ∨ w = 1)) : fX11_chance P g (nI m) y w = some (Sum.inl 1, g) := by
  unfold fX11_chance
  rw [needM_y hw hS hm, bxr]
  by_cases c : upTo 6 y
  · obtain ⟨n, hn, rfl⟩ := c
    have h2 := h.resolve_left (fun z => z ⟨n, hn, rfl⟩)
    rw [needCh_y hn, bxr, if_neg (fun z => h2 (Or.inl z)), if_neg (fun z => h2 (Or.inr z))]
  · rw [needCh_n c, bxl]
theorem cLike_lp (hw : wfB b) (h1 : g.1 30 1 = nI (bN b)) {v : Nat → Nat} (hv : ∀ m, m < 6 → v m < 2 ^ 31) (h : ∀ m, m < 6 → g.2.1 26 m = nI (v m)) : ∀ d k f, k + d = bN b → d < f → fX11_likeliest_20 P f g (pm (chF v k).1) (nI (chF v k).2) (nI k) = some (Sum.inr (pm (chF v (bN b)).1), g) := by
  have hn := hw.2.1
  intro d
  induction d with
  | zero =>
    intro k f hk hf
    obtain ⟨f, rfl⟩ : ∃ f', f = f' + 1 := ⟨f - 1, by omega⟩
    have hk : k = bN b := hk
    subst hk
    rw [fX11_likeliest_20, h1, if_pos (nI_le (by omega) (by omega))]
  | succ d ih =>
    intro k f hk hf
    obtain ⟨f, rfl⟩ : ∃ f', f = f' + 1 := ⟨f - 1, by omega⟩
    obtain ⟨c1, c2⟩ := chF_ok v k
    have v1 := hv k (by omega)
    have st := ih (k + 1) f (by omega) (by omega)
    have h2 : (chF v k).2 < 2 ^ 31 := by
      rw [c2]
      split
      · omega
      · exact hv _ (by omega)
    rw [fX11_likeliest_20, h1, if_neg (nI_ge (by omega) (by omega)), chk_tt (ib_n (by omega) (by omega)), ix_n (by omega), h k (by omega), iLE v1 h2]
    by_cases h3 : v k ≤ (chF v k).2
    · rw [if_pos h3, nI_1, bnd_e]
      have e : chF v (k + 1) = chF v k := if_neg (by omega)
      rw [e] at st
      exact st
    · rw [if_neg h3, chk_tt (ib_n (by omega) (by omega)), bnd_e, nI_1, bnd_e]
      have e : chF v (k + 1) = (k + 1, v k) := if_pos (by omega)
      rw [e] at st
      exact st
theorem cLike_eq (hw : wfB b) (hTs : g.1 30 7 = nI T) (hS : SB b P g 30) (hV : SV b T g) {n : Nat} (hn : n ≤ 6) : Ev (fX11_likeliest P g (nI n)) (fun z => z.1 = Sum.inr (pm (chF (pwC b n) (bN b)).1) ∧ CRs b T g z.2) := by
  have h6 := hw.2.1
  unfold fX11_likeliest
  rw [needCh_y hn, bxr]
  refine Ev.v (scatter_eq hw hTs hS hV hn) ?_
  rintro g1 ⟨a1, a2, a3⟩
  have st := cLike_lp (P := P) (g := g1) hw (hS.keep a3.2 snno30).1 (v := pwC b n) (fun m _ => by have := pwC_le hw hn m; omega) a1 (bN b) 0 fuel (by omega) (by unfold fuel; omega)
  exact Ev.of st ⟨rfl, a3⟩
theorem cLike_no {y : Int32} (h : ¬ upTo 6 y) : fX11_likeliest P g y = some (Sum.inl 1, g) := by
  unfold fX11_likeliest
  rw [needCh_n h, bxl]
end
