theorem tA_ne {A : Ab} {t : Nat} {x : Int32} {a k : Nat} (h1 : a ≠ 111) (h2 : ¬ (a = 81 ∧ k = 39)) : tA A t x a k = A a k := by
  unfold tA
  rw [up2_ne h2, up2_ne (fun q => h1 q.1)]
theorem cU_rng {c a : Nat} (hc : c < 7) (ha : a ∈ cU c) : a ≠ 81 ∧ a ≠ 111 := by
  have u := tl_U c hc a ha
  omega
theorem tA_T {A : Ab} {t : Nat} {x : Int32} {c : Nat} (hc : c < 7) : cT c (tA A t x) = cT c A := by
  unfold cT
  rw [tA_ne (by decide)]
  intro q
  rcases (show c = 0 ∨ c = 1 ∨ c = 2 ∨ c = 3 ∨ c = 4 ∨ c = 5 ∨ c = 6 by omega) with rfl | rfl | rfl | rfl | rfl | rfl | rfl <;> exact absurd q.2 (by decide)
theorem IRow.byte {A : Ab} (h : IRow A) (t : Nat) (x : Int32) : IRow (tA A t x) := fun c hc i hi => by
  rw [tA_T hc] at hi
  exact rowOK.mono hc (h c hc i hi) ⟨Nat.le_refl _, Nat.le_refl _, Nat.le_refl _, Nat.le_refl _, Nat.le_refl _, Nat.le_refl _⟩ (fun a ha => tA_ne (cU_rng hc ha).2 (fun q => (cU_rng hc ha).1 q.1)) (fun _ j _ => ⟨tA_ne (by decide) (by omega), tA_ne (by decide) (by omega)⟩) (fun _ s _ => tA_ne (by decide) (by omega))
theorem IB.byte {A : Ab} (h : IB A) {t : Nat} (x : Int32) (ht : t < 500) : IB (tA A t x) := by
  obtain ⟨b1, b2, b3, b4, b5, b6, b7, b8, b9, b10⟩ := h
  exact ⟨b1, b2, b3, b4, b5, b6, b7, b8, b9, ⟨t + 1, by omega, rfl⟩, b10.2⟩
/-- the class's side of a run of bytes -/
def CP (σ0 : Sto) (A0 A : Ab) (σ : Sto) (t : Nat) : Prop := RObj A σ ∧ RCnt A σ ∧ RTape A σ ∧ OnlyC σ0 σ ∧ Fr σ0 σ ∧ (∀ b k, sR σ b k = sR σ0 b k) ∧ IRow A ∧ IB A ∧ (∀ a k, a ≠ 111 → ¬ (a = 81 ∧ k = 39) → A a k = A0 a k) ∧ sI σ 32 5 = Int32.ofNat t
def MP (ρ0 : Sto) (A : Ab) (ρ : Sto) (t : Nat) : Prop := RM A ρ ∧ OnlyM ρ0 ρ ∧ sI ρ 81 39 = Int32.ofNat t ∧ sI ρ 81 0 = 0
theorem CP.byte {σ0 : Sto} {A0 A : Ab} {σ : Sto} {t : Nat} (h : CP σ0 A0 A σ t) (ht : t < 500) (x : Int32) (hx : inR x 256) : CP σ0 A0 (tA A t x) (tC σ t x) (t + 1) := by
  obtain ⟨h1, h2, h3, h4, h5, h6, h7, h8, h9, h10⟩ := h
  exact ⟨h1.byte t x, h2.byte t x, h3.byte t x hx, h4.byte t x, (h5.w 74 t x (by unfold reg; omega)).w 32 5 _ (by unfold reg; omega), h6, h7.byte t x, h8.byte x ht, fun a k q1 q2 => (tA_ne q1 q2).trans (h9 a k q1 q2), rfl⟩
theorem MP.byte {ρ0 : Sto} {A : Ab} {ρ : Sto} {t : Nat} (h : MP ρ0 A ρ t) (x : Int32) : MP ρ0 (tA A t x) (tM ρ t x) (t + 1) := by
  obtain ⟨h1, h2, h3, h4⟩ := h
  exact ⟨h1.byte t x, h2.byte t x, rfl, h4⟩
theorem CP.b4 {σ0 : Sto} {A0 A : Ab} {σ : Sto} {t : Nat} (h : CP σ0 A0 A σ t) (ht : t + 4 ≤ 500) (v : Int32) : ∃ σ', mX11_putBytes v σ = some σ' ∧ CP σ0 A0 (tA4 A t v) σ' (t + 4) :=
  ⟨_, C_put h.2.2.2.2.2.2.2.2.2 ht, (((h.byte (by omega) _ (bt_in _ _)).byte (by omega) _ (bt_in _ _)).byte (by omega) _ (bt_in _ _)).byte (by omega) _ (bt_in _ _)⟩
theorem MP.b4 {ρ0 : Sto} {A : Ab} {ρ : Sto} {t : Nat} (h : MP ρ0 A ρ t) (ht : t + 4 ≤ 500) (v : Int32) : ∃ ρ', mX12_lays v ρ = some ρ' ∧ MP ρ0 (tA4 A t v) ρ' (t + 4) :=
  ⟨_, M_lays h.2.2.1 ht, (((h.byte _).byte _).byte _).byte _⟩
theorem op_feed (p0 p1 p2 p3 p4 : Int32) : OpEq (mX11_feed p0 p1 p2 p3 p4) (mX12_feed p0 p1 p2 p3 p4) := by
  intro A σ h
  obtain ⟨t, ht1, ht2⟩ := h.1.2.2.2.2.2.2.2.2.2.1
  have cl : sI σ 32 5 = Int32.ofNat t := (h.cnt 9 (by decide)).trans ht2
  have h20 : Int32.ofNat t + 20 = Int32.ofNat (t + 20) := (Int32.ofNat_add t 20).symm
  by_cases c1 : t ≤ 480
  · have s0 : CP σ A A σ t := ⟨h.2.2.2.1, h.2.2.2.2.1, h.2.2.2.2.2.1, OnlyC.rf, Fr.rf, fun _ _ => rfl, h.row, h.1, fun _ _ _ _ => rfl, cl⟩
    obtain ⟨σ1, a1, s1⟩ := s0.b4 (by omega) p0
    obtain ⟨σ2, a2, s2⟩ := s1.b4 (by omega) p1
    obtain ⟨σ3, a3, s3⟩ := s2.b4 (by omega) p2
    obtain ⟨σ4, a4, s4⟩ := s3.b4 (by omega) p3
    obtain ⟨σ5, a5, s5⟩ := s4.b4 (by omega) p4
    have hm0 : RM A (wI σ5 81 0 0) := (h.2.2.1.onC s5.2.2.2.1).np 81 0 0 rfl
    have m39 : sI (wI σ5 81 0 0) 81 39 = Int32.ofNat t := (hm0 81 39 rfl).trans ht2
    have r0 : MP (wI σ5 81 0 0) A (wI σ5 81 0 0) t := ⟨hm0, OnlyM.rf, m39, rfl⟩
    obtain ⟨ρ1, b1, r1⟩ := r0.b4 (by omega) p0
    obtain ⟨ρ2, b2, r2⟩ := r1.b4 (by omega) p1
    obtain ⟨ρ3, b3, r3⟩ := r2.b4 (by omega) p2
    obtain ⟨ρ4, b4, r4⟩ := r3.b4 (by omega) p3
    obtain ⟨ρ5, b5, r5⟩ := r4.b4 (by omega) p4
    have g1 : Int32.ofNat t ≤ 480 := (oI_le (n := 480) (by omega) (by decide)).mpr c1
    have g2 : Int32.ofNat (t + 20) ≤ 500 := (oI_le (n := 500) (by omega) (by decide)).mpr (by omega)
    have e1 : mX11_feed p0 p1 p2 p3 p4 σ = some (Int32.ofNat (t + 20), σ5) := by
      have e5 := s5.2.2.2.2.2.2.2.2.2
      simp only [mX11_feed, cl, g1, if_true, a1, a2, a3, a4, a5, bnd_some, e5]
    have e2 : mX12_feed p0 p1 p2 p3 p4 σ5 = some (Int32.ofNat (t + 20), ρ5) := by
      have e5 := r5.2.2.1
      simp only [mX12_feed, stp, m39, h20, g2, if_true, b1, b2, b3, b4, b5, bnd_some, e5]
    have om : OnlyM σ5 ρ5 := (OnlyM.rf.w 81 0 0 (by decide)).tr r5.2.1
    obtain ⟨h1, h2, h3, h4, h5, h6, h7, h8, h9, -⟩ := s5
    generalize tA4 (tA4 (tA4 (tA4 (tA4 A t p0) (t + 4) p1) (t + 4 + 4) p2) (t + 4 + 4 + 4) p3) (t + 4 + 4 + 4 + 4) p4 = A' at *
    have hT : ∀ c, c < 7 → cT c A' = cT c A := fun c hc => by
      unfold cT
      rw [h9 81 _ (by decide)]
      intro q
      rcases (show c = 0 ∨ c = 1 ∨ c = 2 ∨ c = 3 ∨ c = 4 ∨ c = 5 ∨ c = 6 by omega) with rfl | rfl | rfl | rfl | rfl | rfl | rfl <;> exact absurd q.2 (by decide)
    have hA : ∀ a, 82 ≤ a → a ≠ 111 → ∀ i, A' a i = A a i := fun a q1 q2 i => h9 a i q2 (by omega)
    refine ⟨_, _, _, e1, e2, A', h8, by rw [om.1]; exact Nat.le_trans h.2.1 h4.1, r5.1, h1.onM om, h2.onM om, h3.onM om, h.x.keep h.1 h.2.1 h4 om h5 (h6 35) (h6 40) (h6 32 7) (hT 1 (by decide)) (hT 6 (by decide)) ?_ ?_ (fun a ha => hA a (by omega) (by omega)) h7 (h.hr.same (hT 4 (by decide)) (fun a i q1 q2 => hA a (by omega) (by omega) i)) (h.sd.same (hT 4 (by decide)) (hT 1 (by decide)) (fun a i q1 q2 => hA a (by omega) (by omega) i) trivial) (h.cl.same (hT 5 (by decide)) (fun a i q1 q2 => hA a (by omega) (by omega) i)) (h.ap.same (fun _ _ _ _ => h6 _ _) (fun c h1 h2 => hT c (by omega))) ((h9 81 73 (by decide) (by omega)).trans h.z)⟩
    · unfold nLs; rw [h9 81 2 (by decide) (by decide)]; exact Nat.le_refl _
    · unfold nTn; rw [h9 81 1 (by decide) (by decide)]; exact Nat.le_refl _
  · have hm : RM A (wI σ 81 0 0) := h.2.2.1.np 81 0 0 rfl
    have m39 : sI (wI σ 81 0 0) 81 39 = Int32.ofNat t := (hm 81 39 rfl).trans ht2
    have g1 : ¬ Int32.ofNat t ≤ 480 := fun q => c1 ((oI_le (n := 480) (by omega) (by decide)).mp q)
    have g2 : ¬ Int32.ofNat (t + 20) ≤ 500 := fun q => absurd ((oI_le (n := 500) (by omega) (by decide)).mp q) (by omega)
    have e1 : mX11_feed p0 p1 p2 p3 p4 σ = some (-1, σ) := by simp only [mX11_feed, cl, g1, if_false]
    have e2 : mX12_feed p0 p1 p2 p3 p4 σ = some (-1, wI σ 81 0 0) := by simp only [mX12_feed, stp, m39, h20, g2, if_false]
    exact ⟨_, _, _, e1, e2, A, h.thr (OnlyM.rf.w 81 0 0 (by decide)) hm⟩
