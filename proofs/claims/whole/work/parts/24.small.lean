/-! calls that change a number, or nothing -/
def OpEq (cl mo : Sto → Option (Int32 × Sto)) : Prop := ∀ (A : Ab) (σ : Sto), Rel A σ → ∃ v σ1 σ2, cl σ = some (v, σ1) ∧ mo σ1 = some (v, σ2) ∧ ∃ A', Rel A' σ2
theorem RObj.num {A : Ab} {σ : Sto} (h : RObj A σ) {a0 k0 k : Nat} {v v' : Int32} (ha : a0 < 41) (hc : ∀ c, c < 7 → cN c ≠ k) : RObj (up2 A 81 k v) (wI σ a0 k0 v') := fun c hc' i hi => by
  have h0 := h c hc' i hi
  refine h0.keep rfl (Nat.le_refl _) rfl (fun k2 _ => ?_) (fun k2 hk2 => ?_)
  · have hr := h0.1
    rw [sI_wI, if_neg]
    intro q
    rw [q.1] at hr
    unfold reg at hr
    omega
  · have e1 : cT c (up2 A 81 k v) = cT c A := by
      unfold cT
      rw [up2_ne (fun q => hc c hc' q.2)]
    have e2 := cV_congr (A := A) (A' := up2 A 81 k v) (i := i) hc' (fun a ha2 => up2_ne (fun q => by
      have := q.1
      subst this
      rcases (show c = 0 ∨ c = 1 ∨ c = 2 ∨ c = 3 ∨ c = 4 ∨ c = 5 ∨ c = 6 by omega) with rfl | rfl | rfl | rfl | rfl | rfl | rfl <;> revert ha2 <;> decide)) k2 hk2
    rw [e1, e2]
theorem RCnt.num {A : Ab} {σ : Sto} (h : RCnt A σ) {j0 : Nat} {v : Int32} (hinj : ∀ j, j < 11 → j ≠ j0 → cntOf j ≠ cntOf j0 ∧ cntAt j ≠ cntAt j0) : RCnt (up2 A 81 (cntAt j0) v) (wI σ (cntOf j0).1 (cntOf j0).2 v) := fun j hj => by
  by_cases e : j = j0
  · subst e
    rw [sI_wI, if_pos ⟨rfl, rfl⟩, up2_eq, if_pos ⟨rfl, rfl⟩]
  · rw [sI_wI, if_neg (fun q => (hinj j hj e).1 (Prod.ext q.1 q.2)), up2_ne (fun q => (hinj j hj e).2 q.2)]
    exact h j hj
theorem Rel.num {A : Ab} {σ σ2 : Sto} (h : Rel A σ) (j0 : Nat) {v : Int32} (hj0 : j0 < 11) (hb : IB (up2 A 81 (cntAt j0) v)) (hc : ∀ c, c < 7 → cN c ≠ cntAt j0) (hg : Grow A (up2 A 81 (cntAt j0) v)) (hm : OnlyM (wI σ (cntOf j0).1 (cntOf j0).2 v) σ2) (hr : RM (up2 A 81 (cntAt j0) v) σ2) : Rel (up2 A 81 (cntAt j0) v) σ2 := by
  have hlow : (cntOf j0).1 < 41 := by
    rcases (show j0 = 0 ∨ j0 = 1 ∨ j0 = 2 ∨ j0 = 3 ∨ j0 = 4 ∨ j0 = 5 ∨ j0 = 6 ∨ j0 = 7 ∨ j0 = 8 ∨ j0 = 9 ∨ j0 = 10 by omega) with rfl | rfl | rfl | rfl | rfl | rfl | rfl | rfl | rfl | rfl | rfl <;> decide
  have hTT : ∀ c, c < 7 → cT c (up2 A 81 (cntAt j0) v) = cT c A := fun c hc2 => by unfold cT; rw [up2_ne (fun q => hc c hc2 q.2)]
  refine ⟨hb, by rw [hm.1]; exact h.2.1, hr, (h.2.2.2.1.num hlow hc).onM hm, RCnt.onM (h.2.2.2.2.1.num ?_) hm, RTape.onM (fun j hj => ?_) hm, h.x.keep h.1 h.2.1 (OnlyC.rf.w _ _ _ (Or.inl (by omega))) hm (Fr.rf.w _ _ _ (by unfold reg; omega)) (fun _ => rfl) (fun _ => rfl) rfl (hTT 1 (by decide)) (hTT 6 (by decide)) hg.1 hg.2.1 (fun a ha i => up2_ne (by omega)) (h.row.num hg hTT (fun a i ha => up2_ne (by omega))) (h.hr.same (hTT 4 (by decide)) (fun a i h1 h2 => up2_ne (by omega))) (h.sd.same (hTT 4 (by decide)) (hTT 1 (by decide)) (fun a i h1 h2 => up2_ne (by omega)) trivial) (h.cl.same (hTT 5 (by decide)) (fun a i h1 h2 => up2_ne (by omega))) (h.ap.same (fun _ _ _ _ => rfl) (fun c h1 h2 => hTT c (by omega))) ((up2_ne (fun q => by
    have q2 := q.2
    revert q2
    rcases (show j0 = 0 ∨ j0 = 1 ∨ j0 = 2 ∨ j0 = 3 ∨ j0 = 4 ∨ j0 = 5 ∨ j0 = 6 ∨ j0 = 7 ∨ j0 = 8 ∨ j0 = 9 ∨ j0 = 10 by omega) with rfl | rfl | rfl | rfl | rfl | rfl | rfl | rfl | rfl | rfl | rfl <;> decide)).trans h.z)⟩
  · have key : ∀ j, j < 11 → ∀ i, i < 11 → j ≠ i → cntOf j ≠ cntOf i ∧ cntAt j ≠ cntAt i := by decide
    exact fun j hj e => key j hj j0 hj0 e
  · rw [sI_wI, if_neg (by omega), up2_ne (by omega)]
    exact h.2.2.2.2.2.1 j hj
theorem oI_sub {m t : Nat} (h : t ≤ m) : Int32.ofNat m - Int32.ofNat t = Int32.ofNat (m - t) := by
  have e : Int32.ofNat m = Int32.ofNat (m - t) + Int32.ofNat t := by
    rw [← Int32.ofNat_add]
    congr 1
    omega
  rw [e, asc]
theorem op_land : OpEq mX11_land mX12_land := by
  intro A σ h
  obtain ⟨n, hn1, hn2⟩ := h.1.2.1
  have cl : sI σ 33 1 = Int32.ofNat n := (h.cnt 1 (by decide)).trans hn2
  by_cases c1 : n < 6
  · have h6 : Int32.ofNat n < 6 := (oI_lt (n := 6) (by omega) (by decide)).mpr c1
    have n6 : ¬ Int32.ofNat n = 6 := fun q => absurd ((oI_eq (n := 6) (by omega) (by decide)).mp q) (by omega)
    have e1 : mX11_land σ = some (Int32.ofNat n, wI σ 33 1 (Int32.ofNat n + 1)) := by
      simp only [mX11_land, stp, cl, h6, sI_wI, eq_self, and_self, if_true, asc]
    have hm : RM A (wI (wI σ 33 1 (Int32.ofNat n + 1)) 81 0 0) := (h.2.2.1.np 33 1 _ rfl).np 81 0 0 rfl
    have e2 : mX12_land (wI σ 33 1 (Int32.ofNat n + 1)) = some (Int32.ofNat n, wI (wI (wI σ 33 1 (Int32.ofNat n + 1)) 81 0 0) 81 2 (Int32.ofNat n + 1)) := by
      have e3 : sI (wI (wI σ 33 1 (Int32.ofNat n + 1)) 81 0 0) 81 2 = Int32.ofNat n := (hm 81 2 rfl).trans hn2
      simp only [mX12_land, stp, e3, n6, if_false]
      rw [sI_wI, if_pos ⟨rfl, rfl⟩, asc]
    refine ⟨_, _, _, e1, e2, up2 A 81 2 (Int32.ofNat n + 1), h.num 1 (by decide) ?_ (by decide) ⟨by show (A 81 2).toNatClampNeg ≤ (Int32.ofNat n + 1).toNatClampNeg; rw [hn2, oI_s, oI_cl (by omega), oI_cl (by omega)]; omega, Nat.le_refl _, Nat.le_refl _, Nat.le_refl _, Nat.le_refl _, Nat.le_refl _⟩ ((OnlyM.rf.w 81 0 0 (by decide)).w 81 2 _ (by decide)) (hm.w 81 2 _)⟩
    obtain ⟨b1, b2, b3, b4, b5, b6, b7, b8, b9, b10⟩ := h.1
    exact ⟨b1, ⟨n + 1, by omega, oI_s n⟩, b3, b4, b5, b6, b7, b8, b9, b10⟩
  · have hn6 : n = 6 := by omega
    subst hn6
    have e1 : mX11_land σ = some (-1, σ) := by
      simp only [mX11_land]
      rw [cl, if_neg (by decide)]
    have hm : RM A (wI σ 81 0 0) := h.2.2.1.np 81 0 0 rfl
    have e2 : mX12_land σ = some (-1, wI σ 81 0 0) := by
      have e3 : sI (wI σ 81 0 0) 81 2 = 6 := (hm 81 2 rfl).trans hn2
      simp only [mX12_land, stp, e3, if_true]
    exact ⟨_, _, _, e1, e2, A, h.thr (OnlyM.rf.w 81 0 0 (by decide)) hm⟩
theorem op_fault : OpEq (fun σ => some (mX11_fault σ, σ)) mX12_fault := by
  intro A σ h
  have hm : RM A (wI σ 81 0 0) := h.2.2.1.np 81 0 0 rfl
  have e : mX11_fault σ = A 81 41 := h.cnt 10 (by decide)
  have e2 : mX12_fault σ = some (A 81 41, wI σ 81 0 0) := by
    simp only [mX12_fault, stp]
    rw [hm 81 41 rfl]
  exact ⟨_, _, _, by show some (mX11_fault σ, σ) = _; rw [e], e2, A, h.thr (OnlyM.rf.w 81 0 0 (by decide)) hm⟩
theorem op_evenings (p0 : Int32) : OpOK (mL_evenings p0) (mX12_evenings p0) iJ := by
  intro A σ h
  obtain ⟨t, ht1, ht2⟩ := h.1.1
  have cl : sI σ 33 0 = Int32.ofNat t := (h.cnt 0 (by decide)).trans ht2
  have hs : (999 : Int32) - Int32.ofNat t = Int32.ofNat (999 - t) := oI_sub (m := 999) ht1
  have mt : ∀ σ', RM A σ' → sI (wI σ' 81 0 0) 81 1 = Int32.ofNat t := fun σ' hm => ((hm.np 81 0 0 rfl) 81 1 rfl).trans ht2
  have t0 : ∀ σ' : Sto, sI (wI σ' 81 0 0) 81 0 = 0 := fun _ => rfl
  by_cases c1 : ¬ p0 < 0 ∧ p0 < Int32.ofNat (1000 - t)
  · obtain ⟨j, hj1, rfl⟩ := oI_of (by omega) c1.1 c1.2
    have e1 : mX11_evenings (Int32.ofNat j) σ = some (.inr (Int32.ofNat t + Int32.ofNat j, wI σ 33 0 (Int32.ofNat t + Int32.ofNat j))) := by
      simp only [mX11_evenings, stp, cl]
      have g1 : Int32.ofNat j ≤ Int32.ofNat (999 - t) := (oI_le (by omega) (by omega)).mpr (by omega)
      rw [if_neg c1.1, hs, if_pos g1, sI_wI, if_pos ⟨rfl, rfl⟩]
    generalize hv : Int32.ofNat t + Int32.ofNat j = v at e1
    have hv2 : v = Int32.ofNat (t + j) := by rw [← hv, Int32.ofNat_add]
    have hm : RM A (wL (wI σ 33 0 v) 146 0 (iJ v)) := (h.2.2.1.np 33 0 _ rfl).wl _ _ _
    have e2 : mX12_evenings (Int32.ofNat j) (wL (wI σ 33 0 v) 146 0 (iJ v)) = some (v, wI (wI (wL (wI σ 33 0 v) 146 0 (iJ v)) 81 0 0) 81 1 v) := by
      have g1 : ¬ (999 : Int32) < Int32.ofNat j := fun q => absurd ((oI_lt (j := 999) (n := j) (by decide) (by omega)).mp q) (by omega)
      have g2 : ¬ Int32.ofNat (999 - t) < Int32.ofNat j := fun q => absurd ((oI_lt (j := 999 - t) (n := j) (by omega) (by omega)).mp q) (by omega)
      simp only [mX12_evenings, mX12_evenings_34, stp]
      rw [if_neg c1.1, if_neg g1, mt _ hm, hs, if_neg g2, M_right1 (t0 _)]
      simp only [bd2_some, i10, if_false, mt _ hm, hv]
      rw [sI_wI, if_pos ⟨rfl, rfl⟩]
    refine ⟨0, _, v, _, by show wr hI iJ σ (mX11_evenings _ σ) = _; rw [e1]; rfl, e2, rfl, fun _ => rfl, up2 A 81 1 v, ?_⟩
    refine Rel.num (σ := wL σ 146 0 (iJ v)) h 0 (by decide) ?_ (by decide) ⟨Nat.le_refl _, by show (A 81 1).toNatClampNeg ≤ v.toNatClampNeg; rw [ht2, hv2, oI_cl (by omega), oI_cl (by omega)]; omega, Nat.le_refl _, Nat.le_refl _, Nat.le_refl _, Nat.le_refl _⟩ ((OnlyM.rf.w 81 0 0 (by decide)).w 81 1 _ (by decide)) ((hm.np 81 0 0 rfl).w 81 1 _)
    obtain ⟨b1, b2, b3, b4, b5, b6, b7, b8, b9, b10⟩ := h.1
    exact ⟨⟨t + j, by omega, hv2⟩, b2, b3, b4, b5, b6, b7, b8, b9, b10⟩
  · have hcl : mX11_evenings p0 σ = some (.inl 1) := by
      simp only [mX11_evenings, mX11_evenings_19]
      by_cases q : p0 < 0
      · rw [if_pos q]
      · rw [if_neg q, cl, hs, if_neg]
        intro z
        refine c1 ⟨q, ?_⟩
        rw [Int32.le_iff_toInt_le, oI_toInt (by omega)] at z
        rw [Int32.lt_iff_toInt_lt, oI_toInt (by omega)]
        omega
    refine op_thr (k := 1) (b := 0) h (by decide) (by show wr hI iJ σ (mX11_evenings p0 σ) = _; rw [hcl]; rfl) ?_
    have fin : mX12_evenings_33 p0 (wI σ 81 0 0) = some (0, wI (wI σ 81 0 0) 81 0 1) := by
      unfold mX12_evenings_33 mX12_evenings_34
      rw [M_right0 (t0 σ) (by decide)]
      rfl
    simp only [mX12_evenings, stp]
    by_cases q : p0 < 0
    · rw [if_pos q, fin]
    · rw [if_neg q, fin]
      by_cases q2 : 999 < p0
      · rw [if_pos q2]
      · rw [if_neg q2, mt _ h.2.2.1, hs, if_pos]
        refine nle.mp fun z => c1 ⟨q, ?_⟩
        rw [Int32.le_iff_toInt_le, oI_toInt (by omega)] at z
        rw [Int32.lt_iff_toInt_lt, oI_toInt (by omega)]
        omega
