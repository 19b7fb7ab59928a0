/-! what a person gets of a year -/
def yrB (A : Ab) (s : Nat) (yr : Int32) : Bool := A 97 s == 2 && decide (A 101 s / 365 = yr)
theorem yrB_iff {A : Ab} {s : Nat} {yr : Int32} : yrB A s yr = true ↔ A 97 s = 2 ∧ A 101 s / 365 = yr := by
  unfold yrB
  rw [Bool.and_eq_true, beq_iff_eq, decide_eq_true_eq]
theorem C_of {A : Ab} {σ : Sto} (h : CB A σ) {s : Nat} (hs : s < cT 4 A) {yr : Int32} : mX3_isSaleOf (sR σ 38 s) yr σ = some (if yrB A s yr then 1 else 0) := by
  obtain ⟨k0, f0, f2, f3, f4, f5, f6, -⟩ := h.fa hs
  unfold mX3_isSaleOf
  rw [f2]
  by_cases c1 : A 97 s = 2
  · rw [if_neg (by rw [c1]; decide)] at f6
    rw [if_pos c1, f6]
    by_cases c2 : A 101 s / 365 = yr
    · rw [if_pos c2, if_pos (yrB_iff.mpr ⟨c1, c2⟩)]
    · rw [if_neg c2, if_neg (fun z => c2 (yrB_iff.mp z).2)]
  · rw [if_neg c1, if_neg (fun z => c1 (yrB_iff.mp z).1)]
theorem M_of {A : Ab} (hB : IB A) (hr : IRow A) {ρ : Sto} (hm : RM A ρ) {s k : Nat} (hs : s < cT 4 A) (hk : k ≤ 999) {yr : Int32} : mX12_isOf (Int32.ofNat s) yr (Int32.ofNat k) ρ = some (if (yrB A s yr && knB A s k) = true then 1 else 0) := by
  have hl4 : cT 4 A ≤ 200 := (hB.le (c := 4) (by decide)).1
  unfold mX12_isOf
  rw [if_pos (oI_inb (j := s) (n := 200) (by omega) (by decide)), oI_cl (j := s) (by omega), hm 97 s rfl, hm 101 s rfl]
  by_cases c1 : A 97 s = 2
  · rw [if_pos c1]
    by_cases c2 : A 101 s / 365 = yr
    · rw [if_pos c2, M_known hB hr hm hs hk, bnd_some, yrB_iff.mpr ⟨c1, c2⟩]
      cases knB A s k <;> rfl
    · rw [if_neg c2]
      cases e : yrB A s yr with
      | false => rfl
      | true => exact absurd (yrB_iff.mp e).2 c2
  · rw [if_neg c1]
    cases e : yrB A s yr with
    | false => rfl
    | true => exact absurd (yrB_iff.mp e).1 c1
theorem gets_l {A : Ab} {k p : Nat} {yr : Int32} (hk : k ≤ 999) (hp : p < 30) (hh : IHeir A) (hcl : IClaim A) : ∀ m i fuel fuel' σ ρ (v : Int64), JJ A k σ ρ → i + m = cT 4 A → m < fuel → m < fuel' → ∃ v' σ' ρ', mX11_gets_29 fuel (Int32.ofNat p) yr (Int32.ofNat k) v (Int32.ofNat i) σ = some (.inr (v', σ')) ∧ mX12_gets_42 fuel' (Int32.ofNat p) yr (Int32.ofNat k) v (Int32.ofNat i) ρ = some (v', ρ') ∧ Sc σ σ' ∧ Ex SX ρ ρ' ∧ JJ A k σ' ρ' := by
  intro m
  induction m with
  | zero =>
    intro i fuel fuel' σ ρ v hJ hi hf hf'
    obtain ⟨n, rfl⟩ : ∃ n, fuel = n + 1 := ⟨fuel - 1, by omega⟩
    obtain ⟨n', rfl⟩ : ∃ n, fuel' = n + 1 := ⟨fuel' - 1, by omega⟩
    have h := hJ.1
    have hl4 : cT 4 A ≤ 200 := (h.1.le (c := 4) (by decide)).1
    have hn : sI σ 33 11 = Int32.ofNat (cT 4 A) := h.num (c := 4) (by decide)
    have hn2 : sI ρ 81 7 = Int32.ofNat (cT 4 A) := (hJ.2.2.1 81 7 rfl).trans (h.1.le (c := 4) (by decide)).2
    refine ⟨v, σ, ρ, ?_, ?_, Sc.rf, Ex.rf, hJ⟩
    · show mX11_gets_29B (mX11_gets_29 n) _ _ _ _ _ σ = _
      unfold mX11_gets_29B
      rw [hn, if_pos ((oI_le (by omega) (by omega)).mpr (by omega))]
    · show mX12_gets_42B (mX12_gets_42 n') _ _ _ _ _ ρ = _
      unfold mX12_gets_42B
      rw [hn2, if_pos ((oI_le (by omega) (by omega)).mpr (by omega))]
  | succ m ih =>
    intro i fuel fuel' σ ρ v hJ hi hf hf'
    obtain ⟨n, rfl⟩ : ∃ n, fuel = n + 1 := ⟨fuel - 1, by omega⟩
    obtain ⟨n', rfl⟩ : ∃ n, fuel' = n + 1 := ⟨fuel' - 1, by omega⟩
    have h := hJ.1
    have hr := h.2.2.2.2.2.1
    have hi2 : i < cT 4 A := by omega
    have hl4 : cT 4 A ≤ 200 := (h.1.le (c := 4) (by decide)).1
    have hn : sI σ 33 11 = Int32.ofNat (cT 4 A) := h.num (c := 4) (by decide)
    have hn2 : sI ρ 81 7 = Int32.ofNat (cT 4 A) := (hJ.2.2.1 81 7 rfl).trans (h.1.le (c := 4) (by decide)).2
    have lt : ¬ Int32.ofNat (cT 4 A) ≤ Int32.ofNat i := fun q => absurd ((oI_le (by omega) (by omega)).mp q) (by omega)
    have p30 := oI_inb (j := p) (n := 30) hp (by decide)
    obtain ⟨k0, -⟩ := h.fa hi2
    have stepC : mX11_gets_29 (n + 1) (Int32.ofNat p) yr (Int32.ofNat k) v (Int32.ofNat i) σ = if (yrB A i yr && knB A i k) = true then ((mX0_settle (sR σ 38 i) (Int32.ofNat i) σ).bind fun σ12 => mX11_gets_29 n (Int32.ofNat p) yr (Int32.ofNat k) (v + (sI σ12 62 p).toInt64) (Int32.ofNat (i + 1)) σ12) else mX11_gets_29 n (Int32.ofNat p) yr (Int32.ofNat k) v (Int32.ofNat (i + 1)) σ := by
      refine Eq.trans (b := mX11_gets_29B (mX11_gets_29 n) (Int32.ofNat p) yr (Int32.ofNat k) v (Int32.ofNat i) σ) rfl ?_
      unfold mX11_gets_29B
      rw [hn, if_neg lt, h.at4 hi2, bnd_some, if_pos k0, C_of h hi2, bnd_some, h.known hi2 hk, bnd_some, oI_s]
      simp only [eq_true p30, if_true, oI_cl (show p < 2147483648 by omega)]
      cases yrB A i yr <;> cases knB A i k <;> rfl
    have stepM : mX12_gets_42 (n' + 1) (Int32.ofNat p) yr (Int32.ofNat k) v (Int32.ofNat i) ρ = if (yrB A i yr && knB A i k) = true then ((mX12_sells (Int32.ofNat i) ρ).bind fun σ12 => mX12_gets_42 n' (Int32.ofNat p) yr (Int32.ofNat k) (v + (sI σ12 138 p).toInt64) (Int32.ofNat (i + 1)) σ12) else mX12_gets_42 n' (Int32.ofNat p) yr (Int32.ofNat k) v (Int32.ofNat (i + 1)) ρ := by
      refine Eq.trans (b := mX12_gets_42B (mX12_gets_42 n') (Int32.ofNat p) yr (Int32.ofNat k) v (Int32.ofNat i) ρ) rfl ?_
      unfold mX12_gets_42B
      rw [hn2, if_neg lt, M_of h.1 hr hJ.2.2.1 hi2 hk, bnd_some, oI_s]
      simp only [eq_true p30, if_true, oI_cl (show p < 2147483648 by omega)]
      cases (yrB A i yr && knB A i k) <;> rfl
    rw [stepC, stepM]
    by_cases c : (yrB A i yr && knB A i k) = true
    · rw [if_pos c, if_pos c]
      rw [Bool.and_eq_true] at c
      obtain ⟨i', w, y, mm, σ1, ρ1, y01, -, -, -, q1, q2, q3, q4, q5, q6, q7, -⟩ := settle_eq hk hi2 (yrB_iff.mp c.1).1 hh hcl hJ
      rw [q1, bnd_some, q2, bnd_some, (q6.2.2.2.2.2.2 p hp).2.2.2.1, (q7.2.2.2.2.2.2.2.2 p hp).2.2.2.1]
      obtain ⟨v', σ', ρ', z1, z2, z3, z4, z5⟩ := ih (i + 1) n n' σ1 ρ1 _ q5 (by omega) (by omega) (by omega)
      exact ⟨v', σ', ρ', z1, z2, q3.tr z3, q4.tr z4, z5⟩
    · rw [if_neg c, if_neg c]
      exact ih (i + 1) n n' σ ρ v hJ (by omega) (by omega) (by omega)
set_option maxHeartbeats 1000000 in
theorem op_gets (p0 p1 p2 : Int32) : OpOK (mL_gets p0 p1 p2) (mX12_gets p0 p1 p2) jJ := by
  intro A σ h
  obtain ⟨nt, nl, np, nw, ns, nr, nf, nc, nL, ⟨b1, b2, b3, b4, b5, b6, b7, b8, b9⟩, ⟨a1, a2, a3, a4, a5, a6, a7, a8, a9⟩, ⟨c0, c1, c2, c3, c4, c5, c6, c7, c8⟩, ⟨d1, d2, d3, d4, d5, d6, d7, d8, d9⟩⟩ := h.nums
  have t0 : ∀ σ' : Sto, sI (wI σ' 81 0 0) 81 0 = 0 := fun _ => rfl
  have r0 : ∀ σ', RM A σ' → RM A (wI σ' 81 0 0) := fun σ' hm => hm.np 81 0 0 rfl
  have me : ∀ σ', RM A σ' → mX12_isEvening p2 (wI σ' 81 0 0) = if ¬ p2 < 0 ∧ p2 ≤ Int32.ofNat nt then some (1, wI σ' 81 0 0) else some (0, wI (wI σ' 81 0 0) 81 0 2) := fun σ' hm => by
    rw [M_isEvening (t0 σ'), (r0 _ hm) 81 1 rfl, a1]
  have mp : ∀ σ', RM A σ' → mX12_isPerson p0 (wI σ' 81 0 0) = if nu p0 np then some (1, wI σ' 81 0 0) else some (0, wI (wI σ' 81 0 0) 81 0 1) := fun σ' hm => by
    rw [M_isPerson (t0 σ'), (r0 _ hm) 81 3 rfl, a3]
  by_cases gp : nu p0 np
  · obtain ⟨p, pp1, pp2⟩ := nu_of (by omega) gp
    by_cases gy : ¬ p1 < 0 ∧ ¬ 99 < p1
    · by_cases g3 : ¬ p2 < 0 ∧ p2 ≤ Int32.ofNat nt
      · obtain ⟨k, k1, k2⟩ := inR.le (m := nt) (v := p2) (by omega) g3.1 (fun q => nle.mpr q g3.2)
        have hk : k ≤ 999 := by omega
        obtain ⟨σo, o1, o2, o3, o4⟩ := C_open hk h.cb
        have ho := h.cb.sc o2
        have hf : nf < FU := show nf < 5000 by omega
        -- first over the class's own store
        obtain ⟨ρd, e1, e2, e3, e4, e5, e6⟩ := M_gath h.1 h.row hk h.2.2.1
        obtain ⟨v, σ', -, z1, -, z3, -, -⟩ := gets_l (yr := p1) hk (show p < 30 by omega) h.hr h.cl nf 0 FU FU σo ρd 0 (JJ.of h.z ho o3 e3 e6) (by omega) hf hf
        have eC : mX11_gets p0 p1 p2 σ = some (.inr (v, σ')) := by
          unfold mX11_gets
          rw [C_needP c2 (by omega), if_pos gp, bdp_inr, C_needY, if_pos gy, bdp_inr, C_needE, c0, if_pos g3, bdp_inr, k2, o1, bnd_some, pp2]
          exact z1
        have s3 := o2.tr z3
        have hm1 : RM A (wL σ' 146 0 (jJ v)) := (h.2.2.1.onC (s3.onC h.stat)).wl _ _ _
        obtain ⟨ρ1, g1', g2', g3', g4', g5', g6'⟩ := M_gath h.1 h.row hk (r0 _ hm1)
        obtain ⟨v2, σ2, ρ2, y1, y2, y3, y4, y5⟩ := gets_l (yr := p1) hk (show p < 30 by omega) h.hr h.cl nf 0 FU FU σo ρ1 0 (JJ.of h.z ho o3 g3' g6') (by omega) hf hf
        have ev : v2 = v := by
          rw [z1] at y1
          exact ((Prod.mk.inj (Sum.inr.inj (Option.some.inj y1))).1).symm
        rw [ev] at y2
        refine op_askS (v := jJ v) (b := v) h s3 (by show wr hB jJ σ _ = _; rw [eC]; rfl) (ρ := ρ2) ?_ (((OnlyM.rf.w 81 0 0 (by decide)).tr g2').tr (y4.onM SX_rng)) y5.2.2.1 ((y4.2.2.2.2.2 81 0 (by unfold SX; omega)).trans g4') rfl
        simp only [mX12_gets, stp]
        rw [mp _ hm1, if_pos gp, bd2_some, if_neg i10, M_isYear (t0 _), if_pos gy, bd2_some, if_neg i10, me _ hm1, if_pos g3, bd2_some, if_neg i10, k2, g1', bnd_some, pp2]
        exact y2
      · have e2 : mX11_gets p0 p1 p2 σ = some (.inl 1) := by
          unfold mX11_gets
          rw [C_needP c2 (by omega), if_pos gp, bdp_inr, C_needY, if_pos gy, bdp_inr, C_needE, c0, if_neg g3]
          rfl
        refine op_thr (k := 2) (b := 0) h (by decide) (by show wr hB jJ σ _ = _; rw [e2]; rfl) ?_
        simp only [mX12_gets, stp]
        rw [mp _ h.2.2.1, if_pos gp, bd2_some, if_neg i10, M_isYear (t0 _), if_pos gy, bd2_some, if_neg i10, me _ h.2.2.1, if_neg g3]
        rfl
    · have e2 : mX11_gets p0 p1 p2 σ = some (.inl 0) := by
        unfold mX11_gets
        rw [C_needP c2 (by omega), if_pos gp, bdp_inr, C_needY, if_neg gy]
        rfl
      refine op_thr (k := 1) (b := 0) h (by decide) (by show wr hB jJ σ _ = _; rw [e2]; rfl) ?_
      simp only [mX12_gets, stp]
      rw [mp _ h.2.2.1, if_pos gp, bd2_some, if_neg i10, M_isYear (t0 _), if_neg gy]
      rfl
  · have e2 : mX11_gets p0 p1 p2 σ = some (.inl 0) := by
      unfold mX11_gets
      rw [C_needP c2 (by omega), if_neg gp]
      rfl
    refine op_thr (k := 1) (b := 0) h (by decide) (by show wr hB jJ σ _ = _; rw [e2]; rfl) ?_
    simp only [mX12_gets, stp]
    rw [mp _ h.2.2.1, if_neg gp]
    rfl
