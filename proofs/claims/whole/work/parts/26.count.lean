theorem op_count (p0 : Int32) : OpOK (mL_count p0) (mX12_count p0) iJ := by
  intro A σ h
  have t0 : ∀ σ' : Sto, sI (wI σ' 81 0 0) 81 0 = 0 := fun _ => rfl
  by_cases c1 : p0 < 0 ∨ 8 < p0
  · have e1 : mX11_count p0 σ = some (.inl 0) := by
      have e0 : mX11_needWhat p0 8 σ = some (.inl 0) := by
        unfold mX11_needWhat
        rw [if_pos (C_isW.mpr c1)]
      simp only [mX11_count, e0, bdp_inl]
    refine op_thr (k := 1) (b := 0) h (by decide) (by show wr hN iJ σ ((mX11_count p0 σ).map (embS σ)) = _; rw [e1]; rfl) ?_
    have fin : mX12_count_20 p0 (wI σ 81 0 0) = some (0, wI (wI σ 81 0 0) 81 0 1) := by
      unfold mX12_count_20 mX12_count_21
      rw [M_right0 (t0 σ) (by decide)]
      rfl
    simp only [mX12_count, stp, fin]
    by_cases q : p0 < 0
    · rw [if_pos q]
    · rw [if_neg q, if_pos (Or.resolve_left c1 q)]
  · have e0 : mX11_needWhat p0 8 σ = some (.inr ()) := by
      unfold mX11_needWhat
      rw [if_neg (fun q => c1 (C_isW.mp q))]
    have q1 : ¬ p0 < 0 := fun q => c1 (Or.inl q)
    have q2 : ¬ 8 < p0 := fun q => c1 (Or.inr q)
    have n0 := h.cnt 0 (by decide)
    have n1 := h.cnt 1 (by decide)
    have n2 := h.cnt 2 (by decide)
    have n3 := h.cnt 3 (by decide)
    have n4 := h.cnt 4 (by decide)
    have n5 := h.cnt 6 (by decide)
    have n6 := h.cnt 8 (by decide)
    have n7 := h.cnt 7 (by decide)
    have n8 := h.cnt 9 (by decide)
    simp only [cntOf, cntAt] at n0 n1 n2 n3 n4 n5 n6 n7 n8
    have key : ∀ v : Int32, mX11_count p0 σ = some (.inr v) → (∀ σ', RM A σ' → mX12_count p0 σ' = some (v, wI σ' 81 0 0)) → ∃ k σ1 b σ2, mL_count p0 σ = some (k, σ1) ∧ mX12_count p0 σ1 = some (b, σ2) ∧ sI σ2 81 0 = k ∧ (k = 0 → sL σ2 146 0 = iJ b) ∧ ∃ A', Rel A' σ2 := by
      intro v h1 h2
      exact op_same (σ := σ) (v := iJ v) h (by show wr hN iJ σ ((mX11_count p0 σ).map (embS σ)) = _; rw [h1]; rfl) (h2 _ (h.2.2.1.wl _ _ _)) rfl
    have mm : ∀ σ', RM A σ' → mX12_count p0 σ' = mX12_count_21 p0 1 (wI σ' 81 0 0) := fun σ' _ => by
      simp only [mX12_count, stp]
      rw [if_neg q1, if_neg q2]
    have r0 : ∀ σ', RM A σ' → RM A (wI σ' 81 0 0) := fun σ' hm => hm.np 81 0 0 rfl
    refine key (if p0 = 0 then A 81 1 else if p0 = 1 then A 81 2 else if p0 = 2 then A 81 3 else if p0 = 3 then A 81 4 else if p0 = 4 then A 81 5 else if p0 = 5 then A 81 7 else if p0 = 6 then A 81 50 else if p0 = 7 then A 81 8 else A 81 39) ?_ (fun σ' hm => ?_)
    · simp only [mX11_count, e0, bdp_inr, n0, n1, n2, n3, n4, n5, n6, n7, n8]
      split
      · rfl
      split
      · rfl
      split
      · rfl
      split
      · rfl
      split
      · rfl
      split
      · rfl
      split
      · rfl
      split
      · rfl
      · rfl
    · rw [mm σ' hm]
      have hm2 := r0 σ' hm
      simp only [mX12_count_21, M_right1 (t0 σ'), bd2_some, i10, if_false, hm2 81 1 rfl, hm2 81 2 rfl, hm2 81 3 rfl, hm2 81 4 rfl, hm2 81 5 rfl, hm2 81 7 rfl, hm2 81 50 rfl, hm2 81 8 rfl, hm2 81 39 rfl]
      split
      · rfl
      split
      · rfl
      split
      · rfl
      split
      · rfl
      split
      · rfl
      split
      · rfl
      split
      · rfl
      split
      · rfl
      · rfl
