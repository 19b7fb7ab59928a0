/-! one more row -/
theorem RObj.add {A A' : Ab} {σ σ' : Sto} {c n z : Nat} (h : RObj A σ) (hc : c < 7) (hn : cT c A = n) (hnm : n < cM c) (hn' : cT c A' = n + 1) (hoth : ∀ c', c' < 7 → c' ≠ c → cT c' A' = cT c' A)
    (hV : ∀ c', c' < 7 → ∀ i, i < cT c' A → ∀ k ∈ cF c', cV c' A' i k = cV c' A i k)
    (hr : ∀ c', c' < 7 → ∀ i, ¬ (c' = c ∧ i = n) → sR σ' (cR c') i = sR σ (cR c') i) (hrz : sR σ' (cR c) n = z)
    (hz : sZ σ ≤ sZ σ') (hkeep : ∀ a, a < sZ σ → reg a → sK σ' a = sK σ a ∧ ∀ k, sI σ' a k = sI σ a k)
    (hnew : reg z ∧ z < sZ σ' ∧ sK σ' z = cK c ∧ ∀ k ∈ cF c, sI σ' z k = cV c A' n k) : RObj A' σ' := fun c' hc' i hi => by
  by_cases e : c' = c ∧ i = n
  · obtain ⟨rfl, rfl⟩ := e
    obtain ⟨g1, g2, g3, g4⟩ := hnew
    refine ⟨by rw [hrz]; exact g1, by rw [hrz]; exact g2, by rw [hrz]; exact g3, fun k hk => ?_⟩
    rw [hrz, g4 k hk, if_pos (by omega)]
  · have h0 := h c' hc' i hi
    obtain ⟨k1, k2⟩ := hkeep _ h0.2.1 h0.1
    refine h0.keep (hr c' hc' i e) hz k1 (fun k _ => k2 k) (fun k hk => ?_)
    by_cases e2 : c' = c
    · subst e2
      have hin : i ≠ n := fun q => e ⟨rfl, q⟩
      rw [hn', hn]
      by_cases hlt : i < n
      · rw [if_pos (by omega), if_pos hlt, hV c' hc' i (by omega) k hk]
      · rw [if_neg (by omega), if_neg hlt]
    · rw [hoth c' hc' e2]
      by_cases hlt : i < cT c' A
      · rw [if_pos hlt, if_pos hlt, hV c' hc' i hlt k hk]
      · rw [if_neg hlt, if_neg hlt]
/-- the whole relation -/
def Rel (A : Ab) (σ : Sto) : Prop := IB A ∧ 147 ≤ sZ σ ∧ RM A σ ∧ RObj A σ ∧ RCnt A σ ∧ RTape A σ ∧ RelX A σ
/-- a call of both: the wrapper and the reference agree -/
def OpOK {β : Type} (cl : Sto → Option (Int32 × Sto)) (mo : Sto → Option (β × Sto)) (val : β → Int64) : Prop :=
  ∀ (A : Ab) (σ : Sto), Rel A σ → ∃ k σ1 b σ2, cl σ = some (k, σ1) ∧ mo σ1 = some (b, σ2) ∧ sI σ2 81 0 = k ∧ (k = 0 → sL σ2 146 0 = val b) ∧ ∃ A', Rel A' σ2
/-! what the reference says of a number that there isn't -/
theorem M_right1 {σ : Sto} {w : Int32} (h : sI σ 81 0 = 0) : mX12_right 1 w σ = some (1, σ) := by
  rw [mX12_right, if_pos h, if_neg (by decide), mX12_right_16, if_pos h]
theorem M_right0 {σ : Sto} {w : Int32} (h : sI σ 81 0 = 0) (hw : w ≠ 0) : mX12_right 0 w σ = some (0, wI σ 81 0 w) := by
  rw [mX12_right, if_pos h, if_pos rfl]
  show mX12_right_16 (wI σ 81 0 w) = _
  have e : sI (wI σ 81 0 w) 81 0 = w := rfl
  rw [mX12_right_16, e, if_neg hw]
theorem M_isLand {σ : Sto} {p : Int32} (h : sI σ 81 0 = 0) : mX12_isLand p σ = if ¬ p < 0 ∧ p < sI σ 81 2 then some (1, σ) else some (0, wI σ 81 0 1) := by
  unfold mX12_isLand mX12_isLand_17 mX12_isLand_18
  by_cases h1 : p < 0
  · rw [if_pos h1, if_neg (fun q => q.1 h1), M_right0 h (by decide)]; rfl
  · by_cases h2 : sI σ 81 2 ≤ p
    · rw [if_neg h1, if_pos h2, if_neg (fun q => nle.mpr q.2 h2), M_right0 h (by decide)]; rfl
    · rw [if_neg h1, if_neg h2, if_pos ⟨h1, nle.mp h2⟩, M_right1 h]; rfl
theorem M_isPerson {σ : Sto} {p : Int32} (h : sI σ 81 0 = 0) : mX12_isPerson p σ = if ¬ p < 0 ∧ p < sI σ 81 3 then some (1, σ) else some (0, wI σ 81 0 1) := by
  unfold mX12_isPerson mX12_isPerson_17 mX12_isPerson_18
  by_cases h1 : p < 0
  · rw [if_pos h1, if_neg (fun q => q.1 h1), M_right0 h (by decide)]; rfl
  · by_cases h2 : sI σ 81 3 ≤ p
    · rw [if_neg h1, if_pos h2, if_neg (fun q => nle.mpr q.2 h2), M_right0 h (by decide)]; rfl
    · rw [if_neg h1, if_neg h2, if_pos ⟨h1, nle.mp h2⟩, M_right1 h]; rfl
/-- the class's test of a number against how many there are -/
theorem C_within {σ : Sto} {p c : Int32} {n : Nat} (hc : c = Int32.ofNat n) (hn : n < 2147483648) : (mX11_isWithin p 0 (c - 1) σ = 0) ↔ ¬ (¬ p < 0 ∧ p < c) := by
  unfold mX11_isWithin
  by_cases h1 : p < 0
  · rw [if_pos h1]; exact ⟨fun _ q => q.1 h1, fun _ => rfl⟩
  · rw [if_neg h1]
    subst hc
    by_cases h2 : Int32.ofNat n ≤ p
    · rw [if_pos ((oI_pred hn p).mpr h2)]; exact ⟨fun _ q => nle.mpr q.2 h2, fun _ => rfl⟩
    · rw [if_neg (fun q => h2 ((oI_pred hn p).mp q))]; exact ⟨(fun q => by cases q), fun q => absurd ⟨h1, nle.mp h2⟩ q⟩
theorem C_isW {σ : Sto} {p a b : Int32} : (mX11_isWithin p a b σ = 0) ↔ (p < a ∨ b < p) := by
  unfold mX11_isWithin
  by_cases h1 : p < a
  · rw [if_pos h1]; exact ⟨fun _ => Or.inl h1, fun _ => rfl⟩
  · rw [if_neg h1]
    by_cases h2 : b < p
    · rw [if_pos h2]; exact ⟨fun _ => Or.inr h2, fun _ => rfl⟩
    · rw [if_neg h2]; exact ⟨(fun q => by cases q), fun q => Or.elim q (fun z => absurd z h1) (fun z => absurd z h2)⟩
theorem Rel.cnt {A : Ab} {σ : Sto} (h : Rel A σ) (j : Nat) (hj : j < 11) : sI σ (cntOf j).1 (cntOf j).2 = A 81 (cntAt j) := h.2.2.2.2.1 j hj
/-- where a call throws, nothing of the class was written, and the reference says so -/
theorem Rel.x {A : Ab} {σ : Sto} (h : Rel A σ) : RelX A σ := h.2.2.2.2.2.2
theorem Rel.stat {A : Ab} {σ : Sto} (h : Rel A σ) : RStat σ := h.x.1
theorem Rel.gain {A : Ab} {σ : Sto} (h : Rel A σ) : RGain σ := h.x.2.1
theorem Rel.row {A : Ab} {σ : Sto} (h : Rel A σ) : IRow A := h.x.2.2.1
theorem Rel.wk {A : Ab} {σ : Sto} (h : Rel A σ) : RWork A σ := h.x.2.2.2.1
theorem Rel.lw {A : Ab} {σ : Sto} (h : Rel A σ) : RLaw A σ := h.x.2.2.2.2.1
theorem Rel.hr {A : Ab} {σ : Sto} (h : Rel A σ) : IHeir A := h.x.2.2.2.2.2.1
theorem Rel.sd {A : Ab} {σ : Sto} (h : Rel A σ) : ISold A := h.x.2.2.2.2.2.2.1
theorem Rel.cl {A : Ab} {σ : Sto} (h : Rel A σ) : IClaim A := h.x.2.2.2.2.2.2.2.1
theorem Rel.ap {A : Ab} {σ : Sto} (h : Rel A σ) : RAp A σ := h.x.2.2.2.2.2.2.2.2.1
theorem Rel.z {A : Ab} {σ : Sto} (h : Rel A σ) : A 81 73 = 0 := h.x.2.2.2.2.2.2.2.2.2
theorem Rel.thr {A : Ab} {σ σ2 : Sto} (h : Rel A σ) (hm : OnlyM σ σ2) (hr : RM A σ2) : Rel A σ2 := ⟨h.1, by rw [hm.1]; exact h.2.1, hr, h.2.2.2.1.onM hm, h.2.2.2.2.1.onM hm, h.2.2.2.2.2.1.onM hm, h.x.keep h.1 h.2.1 OnlyC.rf hm Fr.rf (fun _ => rfl) (fun _ => rfl) rfl rfl rfl (Nat.le_refl _) (Nat.le_refl _) (fun _ _ _ => rfl) h.row h.hr h.sd h.cl h.ap h.z⟩
theorem cast_wr {α : Type} {h : Nat → Option Int32} {f : α → Int64} {σ : Sto} {x : Nat} {k : Int32} (hk : h x = some k) : wr h f σ (some (.inl x)) = some (k, σ) := by
  show (h x).map (fun k => (k, σ)) = _
  rw [hk]; rfl
