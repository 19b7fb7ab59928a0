/-- the thrown end of a call: what the class and the reference leave -/
theorem op_thr {β : Type} {cl : Sto → Option (Int32 × Sto)} {mo : Sto → Option (β × Sto)} {val : β → Int64} {A : Ab} {σ : Sto} {b : β} (h : Rel A σ) {k : Int32} (hk : k ≠ 0) (h1 : cl σ = some (k, σ)) (h2 : mo σ = some (b, wI (wI σ 81 0 0) 81 0 k)) :
    ∃ k σ1 b σ2, cl σ = some (k, σ1) ∧ mo σ1 = some (b, σ2) ∧ sI σ2 81 0 = k ∧ (k = 0 → sL σ2 146 0 = val b) ∧ ∃ A', Rel A' σ2 :=
  ⟨k, σ, b, _, h1, h2, rfl, fun e => absurd e hk, A, h.thr ((OnlyM.rf.w 81 0 0 (by decide)).w 81 0 k (by decide)) ((h.2.2.1.np 81 0 0 rfl).np 81 0 k rfl)⟩
/-- nothing was told: the answer alone -/
theorem op_same {β : Type} {cl : Sto → Option (Int32 × Sto)} {mo : Sto → Option (β × Sto)} {val : β → Int64} {A : Ab} {σ : Sto} {b : β} {v : Int64} (h : Rel A σ) (h1 : cl σ = some (0, wL σ 146 0 v)) (h2 : mo (wL σ 146 0 v) = some (b, wI (wL σ 146 0 v) 81 0 0)) (hv : v = val b) :
    ∃ k σ1 b σ2, cl σ = some (k, σ1) ∧ mo σ1 = some (b, σ2) ∧ sI σ2 81 0 = k ∧ (k = 0 → sL σ2 146 0 = val b) ∧ ∃ A', Rel A' σ2 :=
  ⟨0, _, b, _, h1, h2, rfl, fun _ => hv, A, Rel.thr (σ := wL σ 146 0 v) h (OnlyM.rf.w 81 0 0 (by decide)) (RM.np (σ := wL σ 146 0 v) h.2.2.1 81 0 0 rfl)⟩
set_option maxHeartbeats 2000000 in
theorem op_person (p0 p1 : Int32) : OpOK (mL_person p0 p1) (mX12_person p0 p1) iJ := by
  intro A σ h
  obtain ⟨nl, hl1, hl2⟩ := h.1.2.1
  obtain ⟨n, hn1, hn2⟩ := h.1.2.2.1
  have cl : sI σ 33 1 = Int32.ofNat nl := (h.cnt 1 (by decide)).trans hl2
  have cp : sI σ 33 3 = Int32.ofNat n := (h.cnt 2 (by decide)).trans hn2
  have ml : ∀ σ', RM A σ' → sI σ' 81 2 = Int32.ofNat nl := fun σ' hm => (hm 81 2 rfl).trans hl2
  have mp : ∀ σ', RM A σ' → sI σ' 81 3 = Int32.ofNat n := fun σ' hm => (hm 81 3 rfl).trans hn2
  have r0 : ∀ σ', RM A σ' → RM A (wI σ' 81 0 0) := fun σ' hm => hm.np 81 0 0 rfl
  have t0 : ∀ σ' : Sto, sI (wI σ' 81 0 0) 81 0 = 0 := fun _ => rfl
  by_cases c1 : ¬ p0 < 0 ∧ p0 < Int32.ofNat nl
  · have e1 : mX11_needLand p0 σ = some (.inr ()) := by
      unfold mX11_needLand
      rw [cl, if_neg (fun q => (C_within rfl (by omega)).mp q c1)]
    have m1 : ∀ σ', RM A σ' → mX12_isLand p0 (wI σ' 81 0 0) = some (1, wI σ' 81 0 0) := fun σ' hm => by
      rw [M_isLand (t0 σ'), ml _ (r0 _ hm), if_pos c1]
    by_cases c2 : n < 30 ∧ ¬ (p1 < 0 ∨ 2 < p1)
    · have h30 : ¬ (30 : Int32) ≤ Int32.ofNat n := fun q => absurd ((oI_le (j := 30) (by decide) (by omega)).mp q) (by omega)
      have hW : ¬ (mX11_isWithin p1 0 2 σ = 0) := fun q => c2.2 (C_isW.mp q)
      have hz := h.2.1
      have z33 : ¬ 33 = sZ σ := h.sz (by decide)
      have ncl : (Int32.ofNat n).toNatClampNeg = n := oI_cl (by omega)
      have hI2 := eq_true (oI_inb (j := n) (n := 31) (by omega) (by decide))
      have hI3 := eq_true (oI_inb (j := n) (n := 30) (by omega) (by decide))
      have e2 : mX11_person p0 p1 σ = some (.inr (Int32.ofNat n, wI (wR (wI (wI (nwK σ 6 0) (sZ σ) 0 p0) (sZ σ) 1 p1) 34 n (sZ σ)) 33 3 (Int32.ofNat n + 1))) := by
        simp only [mX11_person, e1, bdp_inr, stp, mX5_init, bnd_some, cp, h30, hW, hI2, ncl, sK_wI, sI_wI, sI_wR, nwK_K, nwK_I, z33, eq_self, and_self, and_false, false_and, if_true, if_false, asc, Nat.reduceAdd]
      have hNw := ((NewC.nw σ 6).w 0 p0).w 1 p1
      generalize wI (wI (nwK σ 6 0) (sZ σ) 0 p0) (sZ σ) 1 p1 = σ1 at hNw e2
      have oc : OnlyC σ (wI (wR σ1 34 n (sZ σ)) 33 3 (Int32.ofNat n + 1)) := ((hNw.onC hz).wr 34 n _).w 33 3 _ (Or.inl (by decide))
      generalize hF : wI (wR σ1 34 n (sZ σ)) 33 3 (Int32.ofNat n + 1) = σF at e2 oc
      have hm1 : RM A (wL σF 146 0 (iJ (Int32.ofNat n))) := (h.2.2.1.onC oc).wl _ _ _
      have hm2 := r0 _ hm1
      have n30 : ¬ Int32.ofNat n = 30 := fun q => absurd ((oI_eq (n := 30) (by omega) (by decide)).mp q) (by omega)
      have p1a : ¬ p1 < 0 := fun q => c2.2 (Or.inl q)
      have p1b : p1 ≤ 2 := nlt.mp fun q => c2.2 (Or.inr q)
      have e3 : mX12_person p0 p1 (wL σF 146 0 (iJ (Int32.ofNat n))) = some (Int32.ofNat n, wI (wI (wI (wI (wL σF 146 0 (iJ (Int32.ofNat n))) 81 0 0) 82 n p0) 83 n p1) 81 3 (Int32.ofNat n + 1)) := by
        simp only [mX12_person, stp, m1 _ hm1, bd2_some, mp _ hm2, n30, p1a, p1b, hI3, ncl, sI_wI, eq_self, and_self, and_false, false_and, if_true, if_false, asc, Nat.reduceEqDiff, mp _ hm1, i10]
      have om : OnlyM (wL σF 146 0 (iJ (Int32.ofNat n))) (wI (wI (wI (wI (wL σF 146 0 (iJ (Int32.ofNat n))) 81 0 0) 82 n p0) 83 n p1) 81 3 (Int32.ofNat n + 1)) := (((OnlyM.rf.w 81 0 0 (by decide)).w 82 n p0 (by decide)).w 83 n p1 (by decide)).w 81 3 _ (by decide)
      refine ⟨0, wL σF 146 0 (iJ (Int32.ofNat n)), Int32.ofNat n, _, by show wr hN iJ σ (mX11_person p0 p1 σ) = _; rw [e2]; rfl, e3, rfl, fun _ => rfl, (up2 (up2 (up2 A 82 n p0) 83 n p1) 81 3 (Int32.ofNat n + 1)), Rel.tellx (c := 0) (n := n) (σ1 := σ1) h (by decide) (by decide) (by decide) (by decide) hNw hn2 c2.1 rfl (fun k hk => ?_) (fun a i ha e => ?_) (fun k hk => ?_) ?_ (by rw [show wI (wR σ1 (cR 0) n (sZ σ)) 33 (2 * 0 + 3) (Int32.ofNat n + 1) = σF from hF]; exact om) ((((hm2).w 82 n p0).w 83 n p1).w 81 3 _)⟩
      · rw [up2_ne (fun q : 81 = 81 ∧ k = 3 => hk q.2), up2_ne (by omega), up2_ne (by omega)]
      · rw [up2_ne (by omega), up2_ne (fun q => e ⟨by rw [q.1]; decide, q.2⟩), up2_ne (fun q => e ⟨by rw [q.1]; decide, q.2⟩)]
      · simp only [cF, List.mem_cons, List.not_mem_nil, or_false] at hk
        rcases hk with rfl | rfl
        · show p0 = (up2 (up2 (up2 A 82 n p0) 83 n p1) 81 3 (Int32.ofNat n + 1)) 82 n
          rw [up2_ne (by omega), up2_ne (by omega), up2_eq, if_pos ⟨rfl, rfl⟩]
        · show p1 = (up2 (up2 (up2 A 82 n p0) 83 n p1) 81 3 (Int32.ofNat n + 1)) 83 n
          rw [up2_ne (by omega), up2_eq, if_pos ⟨rfl, rfl⟩]
      · have hnl : nLs (up2 (up2 (up2 A 82 n p0) 83 n p1) 81 3 (Int32.ofNat n + 1)) = nl := ooN hl2 (by omega)
        refine ⟨?_, ?_⟩
        · show inR ((up2 (up2 (up2 A 82 n p0) 83 n p1) 81 3 (Int32.ofNat n + 1)) 82 n) (nLs (up2 (up2 (up2 A 82 n p0) 83 n p1) 81 3 (Int32.ofNat n + 1)))
          rw [hnl, up2_ne (by omega), up2_ne (by omega), up2_eq, if_pos ⟨rfl, rfl⟩]
          exact inR.of (by omega) c1.1 c1.2
        · show inR ((up2 (up2 (up2 A 82 n p0) 83 n p1) 81 3 (Int32.ofNat n + 1)) 83 n) 3
          rw [up2_ne (by omega), up2_eq, if_pos ⟨rfl, rfl⟩]
          exact inR.le (m := 2) (by decide) (fun q => c2.2 (Or.inl q)) (fun q => c2.2 (Or.inr q))
    · -- not as told
      have hz := h.2.1
      have e2 : mX11_person p0 p1 σ = some (.inr (-1, σ)) := by
        simp only [mX11_person, e1, bdp_inr, cp]
        by_cases c3 : (30 : Int32) ≤ Int32.ofNat n
        · rw [if_pos c3]
        · rw [if_neg c3, if_pos (C_isW.mpr (Classical.not_not.mp fun q => c2 ⟨Nat.not_le.mp fun z => c3 ((oI_le (j := 30) (by decide) (by omega)).mpr z), q⟩))]
      have e3 : mX12_person p0 p1 (wL σ 146 0 (iJ (-1))) = some (-1, wI (wL σ 146 0 (iJ (-1))) 81 0 0) := by
        have hm1 : RM A (wL σ 146 0 (iJ (-1))) := h.2.2.1.wl _ _ _
        have hm2 := r0 _ hm1
        simp only [mX12_person, stp, m1 _ hm1, bd2_some, mp _ hm2, i10, if_false]
        by_cases c3 : Int32.ofNat n = 30
        · rw [if_pos c3]
        · rw [if_neg c3]
          by_cases c4 : p1 < 0
          · rw [if_pos c4]
          · rw [if_neg c4, if_neg (fun c5 => c2 ⟨by
              have := (not_congr (oI_eq (j := n) (n := 30) (by omega) (by decide))).mp c3
              omega, fun q => q.elim c4 (fun z => nlt.mpr c5 z)⟩)]
      exact op_same (σ := σ) h (by show wr hN iJ σ (mX11_person p0 p1 σ) = _; rw [e2]; rfl) e3 rfl
  · have e1 : mX11_needLand p0 σ = some (.inl 0) := by
      unfold mX11_needLand
      rw [cl, if_pos ((C_within rfl (by omega)).mpr c1)]
    have e2 : mX11_person p0 p1 σ = some (.inl 0) := by
      simp only [mX11_person, e1, bdp_inl]
    refine op_thr (k := 1) (b := 0) h (by decide) (by show wr hN iJ σ (mX11_person p0 p1 σ) = _; rw [e2]; rfl) ?_
    simp only [mX12_person, stp]
    rw [M_isLand (t0 σ), ml _ (r0 _ h.2.2.1), if_neg c1]
    rfl
