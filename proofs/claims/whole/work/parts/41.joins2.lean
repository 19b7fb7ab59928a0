set_option maxHeartbeats 4000000 in
theorem op_joins (p0 p1 p2 : Int32) : OpOK (mL_joins p0 p1 p2) (mX12_joins p0 p1 p2) iJ := by
  intro A σ h
  obtain ⟨nt, nl, np, nw, ns, nr, nf, nc, nL, ⟨b1, b2, b3, b4, b5, b6, b7, b8, b9⟩, ⟨a1, a2, a3, a4, a5, a6, a7, a8, a9⟩, ⟨c0, c1, c2, c3, c4, c5, c6, c7, c8⟩, ⟨d1, d2, d3, d4, d5, d6, d7, d8, d9⟩⟩ := h.nums
  have hz := h.2.1
  have t0 : ∀ σ' : Sto, sI (wI σ' 81 0 0) 81 0 = 0 := fun _ => rfl
  have r0 : ∀ σ', RM A σ' → RM A (wI σ' 81 0 0) := fun σ' hm => hm.np 81 0 0 rfl
  have mw : ∀ p σ', RM A σ' → mX12_isWork p (wI σ' 81 0 0) = if nu p nw then some (1, wI σ' 81 0 0) else some (0, wI (wI σ' 81 0 0) 81 0 1) := fun p σ' hm => by
    rw [M_isWork (t0 σ'), (r0 _ hm) 81 4 rfl, a4]
  have mi : ∀ p σ', RM A σ' → mX12_isPerson p (wI σ' 81 0 0) = if nu p np then some (1, wI σ' 81 0 0) else some (0, wI (wI σ' 81 0 0) 81 0 1) := fun p σ' hm => by
    rw [M_isPerson (t0 σ'), (r0 _ hm) 81 3 rfl, a3]
  by_cases g : nu p0 nw ∧ nu p1 np
  · obtain ⟨g1, g2⟩ := g
    obtain ⟨w, w1, w2⟩ := nu_of (by omega) g1
    obtain ⟨jp, jp1, jp2⟩ := nu_of (by omega) g2
    have hw : w < cT 1 A := by omega
    obtain ⟨wm1, wm2, wm3, wm4, wm5⟩ := work_m h.row hw
    obtain ⟨k0, f0, f1, f2, f3, f6⟩ := h.cb.wa hw
    have C53 : mX11_joins_53 p1 p2 (sR σ 35 w) σ = some (.inr (-1, σ)) := by
      unfold mX11_joins_53 mX11_joins_54
      rw [if_pos rfl]
    have e3le : ((3 : Int32) ≤ A 84 w) ↔ 3 ≤ aM A w := by rw [wm3]; exact oI_le (j := 3) (by decide) (by omega)
    have e3eq : (A 84 w = 3) ↔ aM A w = 3 := by rw [wm3]; exact oI_eq (n := 3) (by omega) (by decide)
    have eC : mX11_joins p0 p1 p2 σ = if 3 ≤ aM A w then some (.inr (-1, σ)) else if byR A w p1 (aM A w) 0 = true then some (.inr (-1, σ)) else if A 91 w = 0 then mX11_joins_54 p1 p2 (sR σ 35 w) 1 σ else some (.inr (-1, σ)) := by
      unfold mX11_joins
      rw [C_needW c3 (by omega), if_pos g1, bdp_inr, C_needP c2 (by omega), if_pos g2, bdp_inr, w2, h.cb.at1 hw, bnd_some, if_pos k0, f6]
      by_cases q1 : 3 ≤ aM A w
      · rw [if_pos (e3le.mpr q1), if_pos q1, C53]
      · rw [if_neg (fun q => q1 (e3le.mp q)), if_neg q1, C_isBy h.cb hw, bnd_some]
        cases q2 : byR A w p1 (aM A w) 0 with
        | true => rw [if_pos rfl, if_neg i10, if_pos rfl, C53]
        | false =>
          rw [if_pos (show (if false = true then (1 : Int32) else 0) = 0 from rfl), if_neg (show ¬ false = true by decide), C_ever h.cb h.sd hw, bnd_some]
          by_cases q3 : A 91 w = 0
          · rw [if_pos q3, if_pos q3]
          · rw [if_neg q3, if_neg q3, C53]
    have eM : ∀ ρ, RM A ρ → mX12_joins p0 p1 p2 ρ = if 3 ≤ aM A w then some (-1, wI ρ 81 0 0) else if byR A w p1 (aM A w) 0 = true then some (-1, wI ρ 81 0 0) else if p2 < 1 then some (-1, wI ρ 81 0 0) else if 9 < p2 then some (-1, wI ρ 81 0 0) else if A 91 w = 0 then some (Int32.ofNat (aM A w) + 1, wI (wI (wI (wI ρ 81 0 0) 85 (3 * w + aM A w) p1) 86 (3 * w + aM A w) p2) 84 w (Int32.ofNat (aM A w) + 1)) else some (-1, wI ρ 81 0 0) := fun ρ hm => by
      have hm2 := r0 _ hm
      simp only [mX12_joins, stp]
      rw [mw p0 _ hm, if_pos g1, bd2_some, if_neg i10, mi p1 _ hm, if_pos g2, bd2_some, if_neg i10]
      have y84 := hm2 84 w rfl
      have y91 := hm2 91 w rfl
      generalize wI ρ 81 0 0 = ρ' at hm2 y84 y91 ⊢
      rw [w2, if_pos (oI_inb (by omega) (by decide)), oI_cl (by omega), y84]
      by_cases q1 : 3 ≤ aM A w
      · rw [if_pos (e3eq.mpr (by omega)), if_pos q1]
      · rw [if_neg (fun q => q1 (by have := e3eq.mp q; omega)), if_neg q1, M_isBy h.1 h.row hm2 hw, bnd_some]
        cases q2 : byR A w p1 (aM A w) 0 with
        | true => rw [if_pos rfl, if_neg i10, if_pos rfl]
        | false =>
          rw [if_pos (show (if false = true then (1 : Int32) else 0) = 0 from rfl), if_neg (show ¬ false = true by decide)]
          by_cases q3 : p2 < 1
          · rw [if_pos q3, if_pos q3]
          · rw [if_neg q3, if_neg q3]
            by_cases q4 : 9 < p2
            · rw [if_pos q4, if_pos q4]
            · rw [if_neg q4, if_neg q4, y91]
              by_cases q5 : A 91 w = 0
              · have e3 : (3 : Int32) * Int32.ofNat w + Int32.ofNat (aM A w) = Int32.ofNat (3 * w + aM A w) := by
                  show Int32.ofNat 3 * Int32.ofNat w + Int32.ofNat (aM A w) = _
                  rw [oI_mul, oI_add]
                have gg := eq_true (oI_inb (j := 3 * w + aM A w) (n := 90) (by omega) (by decide))
                have g3 : (Int32.ofNat (3 * w + aM A w)).toNatClampNeg = 3 * w + aM A w := oI_cl (by omega)
                rw [if_pos q5, if_pos q5]
                rw [wm3] at y84
                simp only [wm3, sI_wI, y84, e3, gg, g3, if_true, if_false, eq_self, and_self, Nat.reduceEqDiff, false_and]
              · rw [if_neg q5, if_neg q5]
    by_cases G : aM A w < 3 ∧ byR A w p1 (aM A w) 0 = false ∧ ¬ (p2 < 1 ∨ 9 < p2) ∧ A 91 w = 0
    · obtain ⟨G1, G2, G3, G4⟩ := G
      obtain ⟨u1, u2, u3, u4, u5, u6, u7, u8, u9, u10, u11⟩ := h.wk.1 w (by omega)
      obtain ⟨⟨g5, g6⟩, g7⟩ := h.wk.2.1 w hw
      have e2 : mX11_joins p0 p1 p2 σ = some (.inr (Int32.ofNat (aM A w) + 1, wI (wI (wI (wI σ (sR σ 35 w + 1) (aM A w) p1) (sR σ 35 w + 2) (aM A w) p2) (sR σ 35 w) 6 (Int32.ofNat (aM A w) + 1)) (sR σ 35 w) 7 (Int32.ofNat (wsum A w (aM A w)) + p2))) := by
        rw [eC, if_neg (by omega), if_neg (by rw [G2]; decide), if_pos G4]
        unfold mX11_joins_54
        rw [if_neg i10, if_neg (fun q => G3 (C_isW.mp q)), if_pos k0, C_addA u6 u7 u8 u9 u10 u11 (f6.trans wm3) g6 G1, bnd_some]
        rw [if_pos (show sK (wI (wI (wI (wI σ (sR σ 35 w + 1) (aM A w) p1) (sR σ 35 w + 2) (aM A w) p2) (sR σ 35 w) 6 (Int32.ofNat (aM A w) + 1)) (sR σ 35 w) 7 (Int32.ofNat (wsum A w (A 84 w).toNatClampNeg) + p2)) (sR σ 35 w) = 10 from k0)]
        rw [sI_wI, if_neg (by omega), sI_wI, if_pos ⟨rfl, rfl⟩]
        rfl
      have rg : ∀ j, j ≤ 2 → ((sR σ 35 w + j < 81 ∧ sR σ 35 w + j ≠ 66) ∨ 145 < sR σ 35 w + j) := fun j hj => by omega
      have oc : OnlyC σ (wI (wI (wI (wI σ (sR σ 35 w + 1) (aM A w) p1) (sR σ 35 w + 2) (aM A w) p2) (sR σ 35 w) 6 (Int32.ofNat (aM A w) + 1)) (sR σ 35 w) 7 (Int32.ofNat (wsum A w (aM A w)) + p2)) := (((OnlyC.rf.w _ _ _ (rg 1 (by decide))).w _ _ _ (rg 2 (by decide))).w _ _ _ (rg 0 (by decide))).w _ _ _ (rg 0 (by decide))
      have hm1 : RM A (wL (wI (wI (wI (wI σ (sR σ 35 w + 1) (aM A w) p1) (sR σ 35 w + 2) (aM A w) p2) (sR σ 35 w) 6 (Int32.ofNat (aM A w) + 1)) (sR σ 35 w) 7 (Int32.ofNat (wsum A w (aM A w)) + p2)) 146 0 (iJ (Int32.ofNat (aM A w) + 1))) := (h.2.2.1.onC oc).wl _ _ _
      obtain ⟨x, x1, x2⟩ := inR.le (m := 9) (v := p2) (by decide) (fun q => G3 (Or.inl (lt_trans1 q))) (fun q => G3 (Or.inr q))
      have x3 : 1 ≤ x := Nat.pos_of_ne_zero fun q => G3 (Or.inl (by rw [x2, q]; decide))
      refine ⟨0, _, Int32.ofNat (aM A w) + 1, _, by show wr hN iJ σ (mX11_joins p0 p1 p2 σ) = _; rw [e2]; rfl, by rw [eM _ hm1, if_neg (by omega), if_neg (by rw [G2]; decide), if_neg (fun q => G3 (Or.inl q)), if_neg (fun q => G3 (Or.inr q)), if_pos G4], rfl, fun _ => rfl, _, h.joinW hw wm3 G1 rfl ⟨jp, by omega, jp2⟩ x2 x3 (by omega) G2 (vv := iJ (Int32.ofNat (aM A w) + 1)) ?_ ?_⟩
      · exact (((OnlyM.rf.w 81 0 0 (by decide)).w 85 _ p1 (by decide)).w 86 _ p2 (by decide)).w 84 w _ (by decide)
      · exact (((r0 _ hm1).w 85 _ p1).w 86 _ p2).w 84 w _
    · have e2 : mX11_joins p0 p1 p2 σ = some (.inr (-1, σ)) := by
        rw [eC]
        by_cases q1 : 3 ≤ aM A w
        · rw [if_pos q1]
        · rw [if_neg q1]
          cases q2 : byR A w p1 (aM A w) 0 with
          | true => rw [if_pos rfl]
          | false =>
            rw [if_neg (by decide)]
            by_cases q3 : A 91 w = 0
            · rw [if_pos q3]
              unfold mX11_joins_54
              rw [if_neg i10, if_pos (C_isW.mpr (Classical.not_not.mp fun z => G ⟨by omega, q2, z, q3⟩))]
            · rw [if_neg q3]
      have hm1 : RM A (wL σ 146 0 (iJ (-1))) := h.2.2.1.wl _ _ _
      have e3 : mX12_joins p0 p1 p2 (wL σ 146 0 (iJ (-1))) = some (-1, wI (wL σ 146 0 (iJ (-1))) 81 0 0) := by
        rw [eM _ hm1]
        by_cases q1 : 3 ≤ aM A w
        · rw [if_pos q1]
        · rw [if_neg q1]
          cases q2 : byR A w p1 (aM A w) 0 with
          | true => rw [if_pos rfl]
          | false =>
            rw [if_neg (by decide)]
            by_cases q3 : p2 < 1
            · rw [if_pos q3]
            · rw [if_neg q3]
              by_cases q4 : 9 < p2
              · rw [if_pos q4]
              · rw [if_neg q4, if_neg (fun q5 => G ⟨by omega, q2, fun z => z.elim q3 q4, q5⟩)]
      exact op_same (σ := σ) h (by show wr hN iJ σ (mX11_joins p0 p1 p2 σ) = _; rw [e2]; rfl) e3 rfl
  · have e2 : mX11_joins p0 p1 p2 σ = some (.inl 0) := by
      unfold mX11_joins
      rw [C_needW c3 (by omega)]
      by_cases g1 : nu p0 nw
      · rw [if_pos g1, bdp_inr, C_needP c2 (by omega), if_neg (fun g2 => g ⟨g1, g2⟩)]; rfl
      · rw [if_neg g1]; rfl
    refine op_thr (k := 1) (b := 0) h (by decide) (by show wr hN iJ σ (mX11_joins p0 p1 p2 σ) = _; rw [e2]; rfl) ?_
    simp only [mX12_joins, stp]
    rw [mw p0 _ h.2.2.1]
    by_cases g1 : nu p0 nw
    · rw [if_pos g1, bd2_some, if_neg i10, mi p1 _ h.2.2.1, if_neg (fun g2 => g ⟨g1, g2⟩)]; rfl
    · rw [if_neg g1]; rfl
