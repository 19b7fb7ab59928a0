theorem tA_ne {A : Ab} {t : Nat} {x : Int32} {a k : Nat} (h1 : a ≠ 111) (h2 : ¬ (a = 81 ∧ k = 39)) : tA A t x a k = A a k := by
  unfold tA
  rw [up2_ne h2, up2_ne (fun q => h1 q.1)]
theorem cU_rng {c a : Nat} (hc : c < 7) (ha : a ∈ cU c) : a ≠ 81 ∧ a ≠ 111 := by
  rcases (show c = 0 ∨ c = 1 ∨ c = 2 ∨ c = 3 ∨ c = 4 ∨ c = 5 ∨ c = 6 by omega) with rfl | rfl | rfl | rfl | rfl | rfl | rfl <;> simp only [cU, List.mem_cons, List.not_mem_nil, or_false] at ha <;> omega
theorem IRow.byte {A : Ab} (h : IRow A) (t : Nat) (x : Int32) : IRow (tA A t x) := fun c hc i hi => by
  have e1 : cT c (tA A t x) = cT c A := by
    unfold cT
    rw [tA_ne (by decide)]
    intro q
    rcases (show c = 0 ∨ c = 1 ∨ c = 2 ∨ c = 3 ∨ c = 4 ∨ c = 5 ∨ c = 6 by omega) with rfl | rfl | rfl | rfl | rfl | rfl | rfl <;> exact absurd q.2 (by decide)
  rw [e1] at hi
  exact rowOK.mono hc (h c hc i hi) ⟨Nat.le_refl _, Nat.le_refl _, Nat.le_refl _, Nat.le_refl _, Nat.le_refl _, Nat.le_refl _⟩ (fun a ha => tA_ne (cU_rng hc ha).2 (fun q => (cU_rng hc ha).1 q.1)) (fun _ j _ => ⟨tA_ne (by decide) (by omega), tA_ne (by decide) (by omega)⟩) (fun _ s _ => tA_ne (by decide) (by omega))
theorem IB.byte {A : Ab} (h : IB A) {t : Nat} (x : Int32) (ht : t < 500) : IB (tA A t x) := by
  obtain ⟨b1, b2, b3, b4, b5, b6, b7, b8, b9, b10⟩ := h
  exact ⟨b1, b2, b3, b4, b5, b6, b7, b8, b9, ⟨t + 1, by omega, rfl⟩⟩
/-- the class's side and the reference's side of a run of bytes -/
def TP (A0 A : Ab) (σ0 σ : Sto) (ρ0 ρ : Sto) (t : Nat) : Prop := RObj A σ ∧ RCnt A σ ∧ RTape A σ ∧ OnlyC σ0 σ ∧ RM A ρ ∧ OnlyM ρ0 ρ ∧ IRow A ∧ IB A ∧ A 81 39 = Int32.ofNat t ∧ sI σ 32 5 = Int32.ofNat t ∧ sI ρ 81 39 = Int32.ofNat t ∧ (∀ k, sI ρ 81 0 = k → sI ρ 81 0 = k)
theorem TP.byte {A0 A : Ab} {σ0 σ ρ0 ρ : Sto} {t : Nat} (h : TP A0 A σ0 σ ρ0 ρ t) (ht : t < 500) (x : Int32) : TP A0 (tA A t x) σ0 (tC σ t x) ρ0 (tM ρ t x) (t + 1) := by
  obtain ⟨h1, h2, h3, h4, h5, h6, h7, h8, h9, h10, h11, h12⟩ := h
  exact ⟨h1.byte t x, h2.byte t x, h3.byte t x, h4.byte t x, h5.byte t x, h6.byte t x, h7.byte t x, h8.byte x ht, rfl, rfl, rfl, fun _ q => q⟩
theorem TP.b4 {A0 A : Ab} {σ0 σ ρ0 ρ : Sto} {t : Nat} (h : TP A0 A σ0 σ ρ0 ρ t) (ht : t + 4 ≤ 500) (v : Int32) : TP A0 (tA4 A t v) σ0 (tC4 σ t v) ρ0 (tM4 ρ t v) (t + 4) ∧ mX11_putBytes v σ = some (tC4 σ t v) ∧ mX12_lays v ρ = some (tM4 ρ t v) :=
  ⟨(((h.byte (by omega) _).byte (by omega) _).byte (by omega) _).byte (by omega) _, C_put h.2.2.2.2.2.2.2.2.2.1 ht, M_lays h.2.2.2.2.2.2.2.2.2.2.1 ht⟩
theorem tM_thr (σ : Sto) (t : Nat) (v : Int32) : sI (tM4 σ t v) 81 0 = sI σ 81 0 := rfl
set_option maxHeartbeats 1000000 in
theorem op_feed (p0 p1 p2 p3 p4 : Int32) : OpEq (mX11_feed p0 p1 p2 p3 p4) (mX12_feed p0 p1 p2 p3 p4) := by
  intro A σ h
  obtain ⟨t, ht1, ht2⟩ := h.1.2.2.2.2.2.2.2.2.2
  have cl : sI σ 32 5 = Int32.ofNat t := (h.cnt 9 (by decide)).trans ht2
  have h20 : Int32.ofNat t + 20 = Int32.ofNat (t + 20) := (Int32.ofNat_add t 20).symm
  by_cases c1 : t ≤ 480
  · -- the reference runs behind the class: its cells are as they were
    have go : ∀ ρ0, OnlyC σ ρ0 → ∃ σF ρF A', TP A A' σ σF (wI ρ0 81 0 0) ρF (t + 4 + 4 + 4 + 4 + 4) ∧ mX11_feed p0 p1 p2 p3 p4 σ = some (Int32.ofNat (t + 20), σF) ∧ mX12_feed p0 p1 p2 p3 p4 ρ0 = some (Int32.ofNat (t + 20), ρF) ∧ sI ρF 81 0 = 0 := by
      intro ρ0 hρ
      have hm0 : RM A (wI ρ0 81 0 0) := (h.2.2.1.onC hρ).np 81 0 0 rfl
      have m39 : sI (wI ρ0 81 0 0) 81 39 = Int32.ofNat t := (hm0 81 39 rfl).trans ht2
      have s0 : TP A A σ σ (wI ρ0 81 0 0) (wI ρ0 81 0 0) t := ⟨h.2.2.2.1, h.2.2.2.2.1, h.2.2.2.2.2.1, OnlyC.rf, hm0, OnlyM.rf, h.2.2.2.2.2.2.2.2, h.1, ht2, cl, m39, fun _ q => q⟩
      obtain ⟨s1, a1, b1⟩ := s0.b4 (by omega) p0
      obtain ⟨s2, a2, b2⟩ := s1.b4 (by omega) p1
      obtain ⟨s3, a3, b3⟩ := s2.b4 (by omega) p2
      obtain ⟨s4, a4, b4⟩ := s3.b4 (by omega) p3
      obtain ⟨s5, a5, b5⟩ := s4.b4 (by omega) p4
      have g1 : Int32.ofNat t ≤ 480 := (oI_le (n := 480) (by omega) (by decide)).mpr c1
      have g2 : Int32.ofNat (t + 20) ≤ 500 := (oI_le (n := 500) (by omega) (by decide)).mpr (by omega)
      refine ⟨_, _, _, s5, ?_, ?_, rfl⟩
      · simp only [mX11_feed, cl, g1, if_true, a1, a2, a3, a4, a5, bnd_some]
        rw [s5.2.2.2.2.2.2.2.2.2.1]
      · simp only [mX12_feed, stp, m39, h20, g2, if_true, b1, b2, b3, b4, b5, bnd_some]
        rw [s5.2.2.2.2.2.2.2.2.2.2.1]
    obtain ⟨σF, -, -, s, e1, -, -⟩ := go σ OnlyC.rf
    obtain ⟨σF2, ρF, A', s', e1', e2, e3⟩ := go σF s.2.2.2.1
    have eσ : σF2 = σF := (some2 (e1'.symm.trans e1)).2
    subst eσ
    obtain ⟨h1, h2, h3, h4, h5, h6, h7, h8, -⟩ := s'
    have hz := h.2.1
    have om : OnlyM σF2 ρF := (OnlyM.rf.w 81 0 0 (by decide)).tr h6
    exact ⟨_, _, _, e1, e2, A', h8, by rw [om.1]; exact Nat.le_trans hz h4.1, h5, h1.onM om, h2.onM om, h3.onM om, h.2.2.2.2.2.2.keep hz h4 om h7⟩
  · have hm : RM A (wI σ 81 0 0) := h.2.2.1.np 81 0 0 rfl
    have m39 : sI (wI σ 81 0 0) 81 39 = Int32.ofNat t := (hm 81 39 rfl).trans ht2
    have g1 : ¬ Int32.ofNat t ≤ 480 := fun q => c1 ((oI_le (n := 480) (by omega) (by decide)).mp q)
    have g2 : ¬ Int32.ofNat (t + 20) ≤ 500 := fun q => absurd ((oI_le (n := 500) (by omega) (by decide)).mp q) (by omega)
    have e1 : mX11_feed p0 p1 p2 p3 p4 σ = some (-1, σ) := by simp only [mX11_feed, cl, g1, if_false]
    have e2 : mX12_feed p0 p1 p2 p3 p4 σ = some (-1, wI σ 81 0 0) := by simp only [mX12_feed, stp, m39, h20, g2, if_false]
    exact ⟨_, _, _, e1, e2, A, h.thr (OnlyM.rf.w 81 0 0 (by decide)) hm⟩
