theorem bdp_inr {α γ : Type} (u : α) (f : α → Option (Nat ⊕ γ)) : bdp (some (.inr u)) f = f u := rfl
theorem bdp_inl {α γ : Type} (x : Nat) (f : α → Option (Nat ⊕ γ)) : bdp (some (.inl x)) f = some (.inl x) := rfl
theorem bdx_inr {α β γ : Type} (u : α) (s : β) (f : α → β → Option (Nat ⊕ γ)) : bdx (some (.inr (u, s))) f = f u s := rfl
theorem bd2_some {α β γ : Type} (u : α) (s : β) (f : α → β → Option γ) : bd2 (some (u, s)) f = f u s := rfl
theorem bnd_some {α β : Type} (a : α) (f : α → Option β) : (some a).bind f = f a := rfl
theorem asc (a b : Int32) : a + b - b = a := Int32.add_sub_cancel a b
theorem up2_ne {A : Ab} {a k : Nat} {v : Int32} {b j : Nat} (h : ¬ (b = a ∧ j = k)) : up2 A a k v b j = A b j := if_neg h
/-- the reference alone writes: what a call of it leaves -/
def MStep (A' : Ab) (σ σ2 : Sto) : Prop := OnlyM σ σ2 ∧ RM A' σ2
theorem Rel.sz {A : Ab} {σ : Sto} (h : Rel A σ) {b : Nat} (hb : b < 147) : ¬ b = sZ σ := by
  have := h.2.1
  omega
set_option maxHeartbeats 1000000 in
theorem op_person (p0 p1 : Int32) : OpOK (mL_person p0 p1) (mX12_person p0 p1) iJ := by
  intro A σ h
  obtain ⟨nl, hl1, hl2⟩ := h.1.2.1
  obtain ⟨n, hn1, hn2⟩ := h.1.2.2.1
  have cl : sI σ 33 1 = Int32.ofNat nl := (h.cnt 1 (by decide)).trans hl2
  have cp : sI σ 33 3 = Int32.ofNat n := (h.cnt 2 (by decide)).trans hn2
  have ml : ∀ σ', RM A σ' → sI σ' 81 2 = Int32.ofNat nl := fun σ' hm => (hm 81 2 rfl).trans hl2
  have mp : ∀ σ', RM A σ' → sI σ' 81 3 = Int32.ofNat n := fun σ' hm => (hm 81 3 rfl).trans hn2
  have r0 : ∀ σ', RM A σ' → RM A (wI σ' 81 0 0) := fun σ' hm => hm.np 81 0 0 rfl
  have t0 : ∀ σ' : Sto, sI (wI σ' 81 0 0) 81 0 = 0 := fun _ => rfl
  by_cases c1 : ¬ p0 < 0 ∧ p0 < Int32.ofNat nl
  · have e1 : mX11_needLand p0 σ = some (.inr ()) := by
      unfold mX11_needLand
      rw [cl, if_neg (fun q => (C_within rfl (by omega)).mp q c1)]
    have m1 : ∀ σ', RM A σ' → mX12_isLand p0 (wI σ' 81 0 0) = some (1, wI σ' 81 0 0) := fun σ' hm => by
      rw [M_isLand (t0 σ'), ml _ (r0 _ hm), if_pos c1]
    by_cases c2 : n < 30 ∧ ¬ (p1 < 0 ∨ 2 < p1)
    · have h30 : ¬ (30 : Int32) ≤ Int32.ofNat n := fun q => absurd ((oI_le (j := 30) (by decide) (by omega)).mp q) (by omega)
      have hW : ¬ (mX11_isWithin p1 0 2 σ = 0) := fun q => c2.2 (C_isW.mp q)
      have hI : inb (Int32.ofNat n) 31 := oI_inb (by omega) (by decide)
      have hz := h.2.1
      have z33 : ¬ 33 = sZ σ := h.sz (by decide)
      have z34 : ¬ 34 = sZ σ := h.sz (by decide)
      have ncl : (Int32.ofNat n).toNatClampNeg = n := oI_cl (by omega)
      have e2 : mX11_person p0 p1 σ = some (.inr (Int32.ofNat n, wI (wR (wI (wI (nwK σ 6 0) (sZ σ) 0 p0) (sZ σ) 1 p1) 34 n (sZ σ)) 33 3 (Int32.ofNat n + 1))) := by
        simp only [mX11_person, e1, bdp_inr, stp, mX5_init, bnd_some, cp, h30, hW, hI, ncl, sK_wI, sI_wI, sI_wR, nwK_K, nwK_I, z33, eq_self, and_self, and_false, false_and, if_true, if_false, asc]
      exact absurd rfl (by trivial)
    · exact absurd rfl (by trivial)
  · exact absurd rfl (by trivial)
