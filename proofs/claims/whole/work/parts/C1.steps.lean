/-! ===== each call: both sides do the same ===== -/
/-- a call that may throw: l lists (the class's kind, the number told) -/
def StE (s : AS) (P : PL) (T : Nat) (l : List (Nat × Nat)) (m : Option (Int32 × MS)) (c : Option ((Nat ⊕ Int32) × CS)) : Prop := ∃ s' T' g' h', wfS s' ∧ T ≤ T' ∧ T' ≤ T + 31 ∧ MI s' g' ∧ CI s' P T' h' ∧ ((∃ r, m = some (r, g') ∧ g'.1 4 = nI 0 ∧ c = some (Sum.inr r, h')) ∨ (∃ x e w, m = some (x, g') ∧ (e, w) ∈ l ∧ g'.1 4 = nI w ∧ c = some (Sum.inl e, h')))
def StP (s : AS) (P : PL) (T : Nat) (m : Option (Int32 × MS)) (c : Option (Int32 × CS)) : Prop := ∃ s' T' g' h' r, wfS s' ∧ T ≤ T' ∧ T' ≤ T + 31 ∧ MI s' g' ∧ CI s' P T' h' ∧ m = some (r, g') ∧ g'.1 4 = nI 0 ∧ c = some (r, h')
section
variable {s : AS} {P : PL} {T : Nat} {g : MS} {h : CS} {l : List (Nat × Nat)}
theorem StE.ok {a : Int32} {q' : AQ} {T' : Nat} {m : Option (Int32 × MS)} {c : Option ((Nat ⊕ Int32) × CS)} (hs : wfS s) (hq : wfQ q') (hM : MI s g) (h1 : T ≤ T') (h2 : T' ≤ T + 31) (em : Ev m (fun z => z.1 = a ∧ MRes q' 0 g z.2)) (ec : Ev c (fun z => z.1 = Sum.inr a ∧ CI (stQ s q') P T' z.2)) : StE s P T l m c := by
  obtain ⟨⟨r, g'⟩, e1, e2, e3⟩ := em
  obtain ⟨⟨r2, h'⟩, e4, e5, e6⟩ := ec
  have e2 : r = a := e2
  have e5 : r2 = Sum.inr a := e5
  obtain ⟨k1, k2⟩ := hM.res e3
  exact ⟨stQ s q', T', g', h', ⟨hq, hs.2⟩, h1, h2, k1, e6, Or.inl ⟨r, e1, k2, by rw [e4, e5, e2]⟩⟩
theorem StE.ok0 {a : Int32} {m : Option (Int32 × MS)} {c : Option ((Nat ⊕ Int32) × CS)} (hs : wfS s) (hM : MI s g) (em : Ev m (fun z => z.1 = a ∧ MRes (zQ s) 0 g z.2)) (ec : Ev c (fun z => z.1 = Sum.inr a ∧ CI s P T z.2)) : StE s P T l m c := StE.ok (q' := zQ s) hs hs.1 hM (Nat.le_refl _) (by omega) em ec
theorem StE.no {w e : Nat} {m : Option (Int32 × MS)} {c : Option ((Nat ⊕ Int32) × CS)} (hs : wfS s) (hM : MI s g) (hC : CI s P T h) (hl : (e, w) ∈ l) (em : Ev m (fun z => MRes (zQ s) w g z.2)) (ec : c = some (Sum.inl e, h)) : StE s P T l m c := by
  obtain ⟨⟨r, g'⟩, e1, e3⟩ := em
  obtain ⟨k1, k2⟩ := hM.res e3
  exact ⟨s, T, g', h, hs, Nat.le_refl _, by omega, k1, hC, Or.inr ⟨r, e, w, e1, hl, k2, ec⟩⟩
theorem StP.ok {a : Int32} {q' : AQ} {T' : Nat} {m : Option (Int32 × MS)} {c : Option (Int32 × CS)} (hs : wfS s) (hq : wfQ q') (hM : MI s g) (h1 : T ≤ T') (h2 : T' ≤ T + 31) (em : Ev m (fun z => z.1 = a ∧ MRes q' 0 g z.2)) (ec : Ev c (fun z => z.1 = a ∧ CI (stQ s q') P T' z.2)) : StP s P T m c := by
  obtain ⟨⟨r, g'⟩, e1, e2, e3⟩ := em
  obtain ⟨⟨r2, h'⟩, e4, e5, e6⟩ := ec
  have e2 : r = a := e2
  have e5 : r2 = a := e5
  obtain ⟨k1, k2⟩ := hM.res e3
  exact ⟨stQ s q', T', g', h', r, ⟨hq, hs.2⟩, h1, h2, k1, e6, e1, k2, by rw [e4, e5, e2]⟩
theorem StP.ok0 {a : Int32} {m : Option (Int32 × MS)} {c : Option (Int32 × CS)} (hs : wfS s) (hM : MI s g) (em : Ev m (fun z => z.1 = a ∧ MRes (zQ s) 0 g z.2)) (ec : Ev c (fun z => z.1 = a ∧ CI s P T z.2)) : StP s P T m c := StP.ok (q' := zQ s) hs hs.1 hM (Nat.le_refl _) (by omega) em ec
theorem st_member (hs : wfS s) (hM : MI s g) (hC : CI s P T h) (x y : Int32) : StE s P T [(2, 1), (1, 2)] (fX12_member g x y) (fX11_member P h x y) := by
  by_cases hx : mem (bN (qB (zQ s))) x
  · obtain ⟨m, hm, rfl⟩ := hx
    by_cases hy : upTo 5 y
    · exact StE.ok0 hs hM (mMember_eq hs.1 hM.1 hm hy) ((cMember_eq hs.1.1 hC.1.1 hm hy).mono (fun z hz => ⟨hz.1, hC.res0 hz.2⟩))
    · exact StE.no hs hM hC (by decide) (mMember_n2 hs.1 hM.1 hm hy) (cMember_n2 hs.1.1 hC.1.1 hm hy)
  · exact StE.no hs hM hC (by decide) (mMember_n1 hs.1 hM.1 hx y) (cMember_n1 hs.1.1 hC.1.1 hx y)
theorem st_chair (hs : wfS s) (hM : MI s g) (hC : CI s P T h) : StP s P T (fX12_chair g) (fX11_chair P h) := StP.ok0 hs hM (mChairC_eq hs.1 hM.1) ⟨_, cChair_eq hs.1.1 hC.1.1, rfl, hC⟩
theorem st_drags (hs : wfS s) (hM : MI s g) (hC : CI s P T h) (x : Int32) : StE s P T [(2, 1)] (fX12_drags g x) (fX11_drags P h x) := by
  by_cases hx : mem (bN (qB (zQ s))) x
  · obtain ⟨m, hm, rfl⟩ := hx
    exact StE.ok0 hs hM (mDrags_eq hs.1 hM.1 hm) ((cDrags_eq hs.1.1 hC.1.1 hm).mono (fun z hz => ⟨hz.1, hC.res0 hz.2⟩))
  · exact StE.no hs hM hC (by decide) (mDrags_no hs.1 hM.1 hx) (cDrags_no hs.1.1 hC.1.1 hx)
theorem st_goes (hs : wfS s) (hM : MI s g) (hC : CI s P T h) (x : Int32) : StE s P T [(2, 1)] (fX12_goes g x) (fX11_goes P h x) := by
  by_cases hx : mem (bN (qB (zQ s))) x
  · obtain ⟨m, hm, rfl⟩ := hx
    exact StE.ok0 hs hM (mGoes_eq hs.1 hM.1 hm) ((cGoes_eq hs.1.1 hC.1.1 hm).mono (fun z hz => ⟨hz.1, hC.res0 hz.2⟩))
  · exact StE.no hs hM hC (by decide) (mGoes_no hs.1 hM.1 hx) (cGoes_no hs.1.1 hC.1.1 hx)
theorem st_count (hs : wfS s) (hM : MI s g) (hC : CI s P T h) (w : Int32) : StP s P T (fX12_count g w) (fX11_count P h w) := StP.ok0 hs hM (mCount_eq hs.1 hM.1 hM.2.2.2.1 w) ⟨_, cCount_eq hs.1 hC.1 hC.2.2.2.2.2.2.1.1 w, rfl, hC⟩
theorem st_fault (hs : wfS s) (hM : MI s g) (hC : CI s P T h) (w : Int32) : StP s P T (fX12_fault g w) (fX11_fault P h w) := by
  refine StP.ok0 hs hM (mFault_eq hM.1 w) ⟨_, cFault_eq w, ?_, hC⟩
  rw [hM.2.2.2.2.2.1, hM.2.2.2.2.2.2, hC.2.2.2.2.2.2.1.2.2.1, hC.2.2.2.2.2.2.1.2.2.2]
theorem st_throne (hs : wfS s) (hM : MI s g) (hC : CI s P T h) (x w : Int32) : StE s P T [(2, 1), (1, 2)] (fX12_throne g x w) (fX11_throne P h x w) := by
  by_cases hx : mem (bN (qB (zQ s))) x
  · obtain ⟨m, hm, rfl⟩ := hx
    by_cases hy : whOK w
    · exact StE.ok0 hs hM (mThrone_eq hs.1 hM.1 hm hy) ((cThrone_eq hs.1.1 hC.2.1 hC.1.1 hC.2.2.1 hm hy).mono (fun z hz => ⟨hz.1, hC.res1 hz.2⟩))
    · exact StE.no hs hM hC (by decide) (mThrone_n2 hs.1 hM.1 hm hy) (cThrone_n2 hs.1.1 hC.1.1 hm hy)
  · exact StE.no hs hM hC (by decide) (mThrone_n1 hs.1 hM.1 hx w) (cThrone_n1 hs.1.1 hC.1.1 hx w)
theorem st_idle (hs : wfS s) (hM : MI s g) (hC : CI s P T h) : StP s P T (fX12_idle g) (fX11_idle P h) := StP.ok0 hs hM (mIdle_eq hs.1 hM.1) ((cIdle_eq hs.1.1 hC.2.1 hC.1.1 hC.2.2.1).mono (fun z hz => ⟨hz.1, hC.res1 hz.2⟩))
theorem st_knees (hs : wfS s) (hM : MI s g) (hC : CI s P T h) (w : Int32) : StE s P T [(1, 1)] (fX12_knees g w) (fX11_knees P h w) := by
  by_cases hy : w = 1 ∨ whOK w
  · exact StE.ok0 hs hM (mKnees_eq hs.1 hM.1 hy) ((cKnees_eq hs.1.1 hC.2.1 hC.1.1 hC.2.2.1 hy).mono (fun z hz => ⟨hz.1, hC.res1 hz.2⟩))
  · exact StE.no hs hM hC (by decide) (mKnees_no hM.1 hy) (cKnees_no hy)
theorem st_helps (hs : wfS s) (hM : MI s g) (hC : CI s P T h) (x w : Int32) : StE s P T [(2, 1), (1, 2)] (fX12_helps g x w) (fX11_helps P h x w) := by
  by_cases hx : mem (bN (qB (zQ s))) x
  · obtain ⟨m, hm, rfl⟩ := hx
    by_cases hy : w = 0 ∨ w = 1
    · exact StE.ok0 hs hM (mHelps_eq hs.1 hM.1 hm hy) ((cHelps_eq hs.1.1 hC.2.1 hC.1.1 hC.2.2.1 hm hy).mono (fun z hz => ⟨hz.1, hC.res1 hz.2⟩))
    · exact StE.no hs hM hC (by decide) (mHelps_n2 hs.1 hM.1 hm hy) (cHelps_n2 hs.1.1 hC.1.1 hm hy)
  · exact StE.no hs hM hC (by decide) (mHelps_n1 hs.1 hM.1 hx w) (cHelps_n1 hs.1.1 hC.1.1 hx w)
theorem st_vetoes (hs : wfS s) (hM : MI s g) (hC : CI s P T h) (x : Int32) : StE s P T [(2, 1)] (fX12_vetoes g x) (fX11_vetoes P h x) := by
  by_cases hx : mem (bN (qB (zQ s))) x
  · obtain ⟨m, hm, rfl⟩ := hx
    exact StE.ok0 hs hM (mVetoes_eq hs.1 hM.1 hm) ((cVetoes_eq hs.1.1 hC.2.1 hC.1.1 hC.2.2.1 hm).mono (fun z hz => ⟨hz.1, hC.res1 hz.2⟩))
  · exact StE.no hs hM hC (by decide) (mVetoes_no hs.1 hM.1 hx) (cVetoes_no hs.1.1 hC.1.1 hx)
theorem st_looks (hs : wfS s) (hM : MI s g) (hC : CI s P T h) : StP s P T (fX12_looks g) (fX11_looks P h) := StP.ok0 hs hM (mLooks_eq hs.1 hM.1) ((cLooks_eq hs.1.1 hC.2.1 hC.1.1 hC.2.2.1).mono (fun z hz => ⟨hz.1, hC.res1 hz.2⟩))
theorem st_strong (hs : wfS s) (hM : MI s g) (hC : CI s P T h) : StP s P T (fX12_strongest g) (fX11_strongest P h) := StP.ok0 hs hM (mStrong_eq hs.1 hM.1) ((cStrong_eq hs.1.1 hC.2.1 hC.1.1 hC.2.2.1).mono (fun z hz => ⟨hz.1, hC.res1 hz.2⟩))
theorem st_power (hs : wfS s) (hM : MI s g) (hC : CI s P T h) (x : Int32) : StE s P T [(2, 1)] (fX12_power g x) (fX11_power P h x) := by
  by_cases hx : mem (bN (qB (zQ s))) x
  · obtain ⟨m, hm, rfl⟩ := hx
    exact StE.ok0 hs hM (mPower_eq hs.1 hM.1 hm) ((cPower_eq hs.1.1 hC.2.1 hC.1.1 hC.2.2.1 hm).mono (fun z hz => ⟨hz.1, hC.res1 hz.2⟩))
  · exact StE.no hs hM hC (by decide) (mPower_no hs.1 hM.1 hx) (cPower_no hs.1.1 hC.1.1 hx)
end
