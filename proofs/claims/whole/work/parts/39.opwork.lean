set_option maxHeartbeats 4000000 in
theorem op_work (p0 p1 p2 p3 p4 p5 : Int32) : OpOK (mL_work p0 p1 p2 p3 p4 p5) (mX12_work p0 p1 p2 p3 p4 p5) iJ := by
  intro A σ h
  obtain ⟨nt, nl, np, nw, ns, nr, nf, nc, nL, ⟨b1, b2, b3, b4, b5, b6, b7, b8, b9⟩, ⟨a1, a2, a3, a4, a5, a6, a7, a8, a9⟩, ⟨c0, c1, c2, c3, c4, c5, c6, c7, c8⟩, ⟨d1, d2, d3, d4, d5, d6, d7, d8, d9⟩⟩ := h.nums
  have hz := h.2.1
  have t0 : ∀ σ' : Sto, sI (wI σ' 81 0 0) 81 0 = 0 := fun _ => rfl
  have r0 : ∀ σ', RM A σ' → RM A (wI σ' 81 0 0) := fun σ' hm => hm.np 81 0 0 rfl
  have mi : ∀ σ', RM A σ' → mX12_isPerson p0 (wI σ' 81 0 0) = if nu p0 np then some (1, wI σ' 81 0 0) else some (0, wI (wI σ' 81 0 0) 81 0 1) := fun σ' hm => by
    rw [M_isPerson (t0 σ'), (r0 _ hm) 81 3 rfl, a3]
  have m4 : ∀ σ', RM A σ' → sI (wI σ' 81 0 0) 81 4 = Int32.ofNat nw := fun σ' hm => ((r0 _ hm) 81 4 rfl).trans a4
  by_cases g1 : nu p0 np
  · have C64 : mX11_work_64 p0 p1 p2 p3 p4 p5 σ = some (.inr (-1, σ)) := by
      unfold mX11_work_64 mX11_work_65
      rw [if_pos rfl, ite_self]
    have M53 : ∀ ρ, mX12_work_53 p0 p1 p2 p3 p4 p5 ρ = some (-1, ρ) := fun ρ => by
      unfold mX12_work_53 mX12_work_54
      rw [if_pos rfl, ite_self]
    by_cases G : nw < 30 ∧ ¬ (p1 < 1 ∨ 9 < p1) ∧ ¬ (p2 < 1 ∨ 99 < p2) ∧ ¬ (p3 < 0 ∨ 65535 < p3) ∧ ¬ (p4 < 1 ∨ 999 < p4) ∧ ¬ (p5 < 1 ∨ 999 < p5)
    · obtain ⟨G1, G2, G3, G4, G5, G6⟩ := G
      obtain ⟨σ8, σ1, i1, i2, i3, i4, i5⟩ := C_mkW (σ := σ) p0 p1 p2 p3 p4 p5
      have q30 : ¬ (30 : Int32) ≤ Int32.ofNat nw := fun q => absurd ((oI_le (j := 30) (by decide) (by omega)).mp q) (by omega)
      have e33 : sI σ1 33 5 = Int32.ofNat nw := ((i5.2.1 33 (by omega)).2.2.1 5).trans c3
      have e2 : mX11_work p0 p1 p2 p3 p4 p5 σ = some (.inr (Int32.ofNat nw, wI (wR σ1 35 nw (sZ σ)) 33 5 (Int32.ofNat nw + 1))) := by
        unfold mX11_work
        rw [C_needP c2 (by omega), if_pos g1, bdp_inr, if_neg (fun q => G2 (C_isW.mp q)), if_neg (fun q => G3 (C_isW.mp q)), if_neg (fun q => G4 (C_isW.mp q)), if_neg (fun q => G5 (C_isW.mp q)), if_neg (fun q => G6 (C_isW.mp q))]
        unfold mX11_work_65
        rw [c3, if_neg q30, if_neg i10]
        simp only [stp, Nat.reduceAdd]
        rw [i1, bnd_some, if_pos i2, i3, bnd_some, e33, if_pos (oI_inb (j := nw) (n := 31) (by omega) (by decide)), if_pos i4, oI_cl (by omega)]
        simp only [sI_wI, sI_wR, e33, eq_self, and_self, if_true, asc]
      generalize hF : wI (wR σ1 35 nw (sZ σ)) 33 5 (Int32.ofNat nw + 1) = σF at e2
      have oc : OnlyC σ σF := by rw [← hF]; exact ((i5.onC hz).wr 35 nw _).w 33 _ _ (Or.inl (by decide))
      have hm1 : RM A (wL σF 146 0 (iJ (Int32.ofNat nw))) := (h.2.2.1.onC oc).wl _ _ _
      have hm2 := r0 _ hm1
      have m4' := m4 _ hm1
      have q30' : ¬ Int32.ofNat nw = 30 := fun q => absurd ((oI_eq (n := 30) (by omega) (by decide)).mp q) (by omega)
      have e3w : (3 : Int32) * Int32.ofNat nw = Int32.ofNat (3 * nw) := by
        show Int32.ofNat 3 * Int32.ofNat nw = _
        rw [oI_mul]
      have e3 : mX12_work p0 p1 p2 p3 p4 p5 (wL σF 146 0 (iJ (Int32.ofNat nw))) = some (Int32.ofNat nw, wI (wI (wI (wI (wI (wI (wI (wI (wI (wI (wL σF 146 0 (iJ (Int32.ofNat nw))) 81 0 0) 84 nw 1) 85 (3 * nw) p0) 86 (3 * nw) p1) 87 nw p2) 88 nw p3) 89 nw p4) 90 nw p5) 91 nw 0) 81 4 (Int32.ofNat nw + 1)) := by
        simp only [mX12_work, stp]
        rw [mi _ hm1, if_pos g1, bd2_some, if_neg i10, if_neg (fun q => G2 (Or.inl q)), if_neg (fun q => G2 (Or.inr q)), if_neg (fun q => G3 (Or.inl q)), if_neg (fun q => G3 (Or.inr q)), if_neg (fun q => G4 (Or.inl q)), if_neg (fun q => G4 (Or.inr q))]
        unfold mX12_work_54
        generalize wI (wL σF 146 0 (iJ (Int32.ofNat nw))) 81 0 0 = ρ at m4' ⊢
        rw [m4', if_neg q30', if_neg i10, if_neg (fun q => G5 (Or.inl q)), if_neg (fun q => G5 (Or.inr q)), if_neg (fun q => G6 (Or.inl q)), if_pos (nlt.mp fun q => G6 (Or.inr q))]
        have gg := eq_true (oI_inb (j := nw) (n := 30) (by omega) (by decide))
        have gh := eq_true (oI_inb (j := 3 * nw) (n := 90) (by omega) (by decide))
        have g3 : (Int32.ofNat nw).toNatClampNeg = nw := oI_cl (by omega)
        have g4 : (Int32.ofNat (3 * nw)).toNatClampNeg = 3 * nw := oI_cl (by omega)
        simp only [stp, sI_wI, m4', e3w, gg, gh, g3, g4, if_true, if_false, eq_self, and_self, Nat.reduceEqDiff, false_and, asc]
      have N : ∀ a i, ¬ ((a = 84 ∨ (87 ≤ a ∧ a ≤ 91)) ∧ i = nw) → ¬ ((a = 85 ∨ a = 86) ∧ i = 3 * nw) → ¬ (a = 81 ∧ i = 4) → up2 (up2 (up2 (up2 (up2 (up2 (up2 (up2 (up2 A 84 nw 1) 85 (3 * nw) p0) 86 (3 * nw) p1) 87 nw p2) 88 nw p3) 89 nw p4) 90 nw p5) 91 nw 0) 81 4 (Int32.ofNat nw + 1) a i = A a i := fun a i z1 z2 z3 => by
        rw [up2_ne z3, up2_ne (fun z => z1 ⟨by omega, z.2⟩), up2_ne (fun z => z1 ⟨by omega, z.2⟩), up2_ne (fun z => z1 ⟨by omega, z.2⟩), up2_ne (fun z => z1 ⟨by omega, z.2⟩), up2_ne (fun z => z1 ⟨by omega, z.2⟩), up2_ne (fun z => z2 ⟨by omega, z.2⟩), up2_ne (fun z => z2 ⟨by omega, z.2⟩), up2_ne (fun z => z1 ⟨by omega, z.2⟩)]
      have om := ((((((((((OnlyM.rf (σ := wL σF 146 0 (iJ (Int32.ofNat nw)))).w 81 0 0 (by decide)).w 84 nw 1 (by decide)).w 85 (3 * nw) p0 (by decide)).w 86 (3 * nw) p1 (by decide)).w 87 nw p2 (by decide)).w 88 nw p3 (by decide)).w 89 nw p4 (by decide)).w 90 nw p5 (by decide)).w 91 nw 0 (by decide)).w 81 4 (Int32.ofNat nw + 1) (by decide)
      have hm3 := ((((((((hm2.w 84 nw 1).w 85 (3 * nw) p0).w 86 (3 * nw) p1).w 87 nw p2).w 88 nw p3).w 89 nw p4).w 90 nw p5).w 91 nw 0).w 81 4 (Int32.ofNat nw + 1)
      obtain ⟨x, x1, x2⟩ := inR.le (m := 9) (v := p1) (by decide) (fun q => G2 (Or.inl (lt_trans1 q))) (fun q => G2 (Or.inr q))
      have x3 : 1 ≤ x := Nat.pos_of_ne_zero fun q => G2 (Or.inl (by rw [x2, q]; decide))
      obtain ⟨jp, jp1, jp2⟩ := nu_of (by omega) g1
      refine ⟨0, _, Int32.ofNat nw, _, by show wr hN iJ σ (mX11_work p0 p1 p2 p3 p4 p5 σ) = _; rw [e2]; rfl, e3, rfl, fun _ => rfl, _, h.tellW (x := x) i5 a4 G1 ?_ (fun k hk => N 81 k (by omega) (by omega) (by omega)) ?_ ?_ ?_ ?_ ?_ ?_ ?_ ?_ (fun a i z1 z2 z3 => N a i z2 z3 (by omega)) ⟨jp, by omega, jp2⟩ x2 x3 (by omega) (by rw [hF]; exact om) hm3⟩
      all_goals simp only [up2_eq, eq_self, and_self, if_true, if_false, Nat.reduceEqDiff, false_and]
    · have e2 : mX11_work p0 p1 p2 p3 p4 p5 σ = some (.inr (-1, σ)) := by
        unfold mX11_work
        rw [C_needP c2 (by omega), if_pos g1, bdp_inr, C64]
        by_cases G2 : mX11_isWithin p1 1 9 σ = 0
        · rw [if_pos G2]
        · rw [if_neg G2]
          by_cases G3 : mX11_isWithin p2 1 99 σ = 0
          · rw [if_pos G3]
          · rw [if_neg G3]
            by_cases G4 : mX11_isWithin p3 0 65535 σ = 0
            · rw [if_pos G4]
            · rw [if_neg G4]
              by_cases G5 : mX11_isWithin p4 1 999 σ = 0
              · rw [if_pos G5]
              · rw [if_neg G5]
                by_cases G6 : mX11_isWithin p5 1 999 σ = 0
                · rw [if_pos G6]
                · rw [if_neg G6]
                  unfold mX11_work_65
                  by_cases G1 : nw < 30
                  · exact absurd ⟨G1, fun z => G2 (C_isW.mpr z), fun z => G3 (C_isW.mpr z), fun z => G4 (C_isW.mpr z), fun z => G5 (C_isW.mpr z), fun z => G6 (C_isW.mpr z)⟩ G
                  · have q30 : (30 : Int32) ≤ Int32.ofNat nw := (oI_le (j := 30) (by decide) (by omega)).mpr (by omega)
                    rw [c3, if_pos q30]
      have hm1 : RM A (wL σ 146 0 (iJ (-1))) := h.2.2.1.wl _ _ _
      have e3 : mX12_work p0 p1 p2 p3 p4 p5 (wL σ 146 0 (iJ (-1))) = some (-1, wI (wL σ 146 0 (iJ (-1))) 81 0 0) := by
        simp only [mX12_work, stp]
        rw [mi _ hm1, if_pos g1, bd2_some, if_neg i10, M53]
        by_cases G2 : p1 < 1
        · rw [if_pos G2]
        · rw [if_neg G2]
          by_cases G3 : 9 < p1
          · rw [if_pos G3]
          · rw [if_neg G3]
            by_cases G4 : p2 < 1
            · rw [if_pos G4]
            · rw [if_neg G4]
              by_cases G5 : 99 < p2
              · rw [if_pos G5]
              · rw [if_neg G5]
                by_cases G6 : p3 < 0
                · rw [if_pos G6]
                · rw [if_neg G6]
                  by_cases G7 : 65535 < p3
                  · rw [if_pos G7]
                  · rw [if_neg G7]
                    unfold mX12_work_54
                    by_cases G1 : nw < 30
                    · have q30' : ¬ Int32.ofNat nw = 30 := fun q => absurd ((oI_eq (n := 30) (by omega) (by decide)).mp q) (by omega)
                      rw [m4 _ hm1, if_neg q30', if_neg i10]
                      by_cases G8 : p4 < 1
                      · rw [if_pos G8]
                      · rw [if_neg G8]
                        by_cases G9 : 999 < p4
                        · rw [if_pos G9]
                        · rw [if_neg G9]
                          by_cases Ga : p5 < 1
                          · rw [if_pos Ga]
                          · rw [if_neg Ga, if_neg (fun Gb => G ⟨G1, fun z => z.elim G2 G3, fun z => z.elim G4 G5, fun z => z.elim G6 G7, fun z => z.elim G8 G9, fun z => z.elim Ga (fun y => nlt.mpr Gb y)⟩)]
                    · have q30 : Int32.ofNat nw = 30 := by rw [show nw = 30 by omega]; rfl
                      rw [m4 _ hm1, if_pos q30]
      exact op_same (σ := σ) h (by show wr hN iJ σ (mX11_work p0 p1 p2 p3 p4 p5 σ) = _; rw [e2]; rfl) e3 rfl
  · have e2 : mX11_work p0 p1 p2 p3 p4 p5 σ = some (.inl 0) := by
      unfold mX11_work
      rw [C_needP c2 (by omega), if_neg g1]; rfl
    refine op_thr (k := 1) (b := 0) h (by decide) (by show wr hN iJ σ (mX11_work p0 p1 p2 p3 p4 p5 σ) = _; rw [e2]; rfl) ?_
    simp only [mX12_work, stp]
    rw [mi _ h.2.2.1, if_neg g1]
    rfl
