set_option maxHeartbeats 4000000 in
theorem op_fact3 (p1 p2 p3 p4 : Int32) : OpOK (mL_fact 3 p1 p2 p3 p4) (mX12_fact 3 p1 p2 p3 p4) iJ := by
  intro A σ h
  obtain ⟨nt, nl, np, nw, ns, nr, nf, nc, nL, ⟨b1, b2, b3, b4, b5, b6, b7, b8, b9⟩, ⟨a1, a2, a3, a4, a5, a6, a7, a8, a9⟩, ⟨c0, c1, c2, c3, c4, c5, c6, c7, c8⟩, ⟨d1, d2, d3, d4, d5, d6, d7, d8, d9⟩⟩ := h.nums
  have hz := h.2.1
  have t0 : ∀ σ' : Sto, sI (wI σ' 81 0 0) 81 0 = 0 := fun _ => rfl
  have r0 : ∀ σ', RM A σ' → RM A (wI σ' 81 0 0) := fun σ' hm => hm.np 81 0 0 rfl
  have mw : ∀ p σ', RM A σ' → mX12_isWork p (wI σ' 81 0 0) = if nu p nw then some (1, wI σ' 81 0 0) else some (0, wI (wI σ' 81 0 0) 81 0 1) := fun p σ' hm => by
    rw [M_isWork (t0 σ'), (r0 _ hm) 81 4 rfl, a4]
  have mi : ∀ p σ', RM A σ' → mX12_isPerson p (wI σ' 81 0 0) = if nu p np then some (1, wI σ' 81 0 0) else some (0, wI (wI σ' 81 0 0) 81 0 1) := fun p σ' hm => by
    rw [M_isPerson (t0 σ'), (r0 _ hm) 81 3 rfl, a3]
  have ms : ∀ p σ', RM A σ' → mX12_isSociety p (wI σ' 81 0 0) = if nu p ns then some (1, wI σ' 81 0 0) else some (0, wI (wI σ' 81 0 0) 81 0 1) := fun p σ' hm => by
    rw [M_isSociety (t0 σ'), (r0 _ hm) 81 5 rfl, a5]
  have m7 : ∀ σ', RM A σ' → sI (wI σ' 81 0 0) 81 7 = Int32.ofNat nf := fun σ' hm => ((r0 _ hm) 81 7 rfl).trans a7
  have m1 : ∀ σ', RM A σ' → sI (wI σ' 81 0 0) 81 1 = Int32.ofNat nt := fun σ' hm => ((r0 _ hm) 81 1 rfl).trans a1
  have q0 : ¬ mX11_isWithin 3 3 5 σ = 0 := by unfold mX11_isWithin; decide
  have m0 : ∀ σ', mX12_right 1 1 (wI σ' 81 0 0) = some (1, wI σ' 81 0 0) := fun σ' => M_right1 (t0 σ')
  by_cases g : nu p2 np ∧ nu p1 nw ∧ nu p3 np
  · obtain ⟨g1, g2, g3⟩ := g
    have eC : mX11_fact 3 p1 p2 p3 p4 σ = mX11_fact_54 3 p1 p2 p3 p4 σ := by
      unfold mX11_fact
      rw [if_neg q0, C_needP c2 (by omega), if_pos g1, bdp_inr, if_neg (by decide), C_needW c3 (by omega), if_pos g2, bdp_inr]
      unfold mX11_fact_43
      rw [if_pos rfl, C_needP c2 (by omega), if_pos g3, bdp_inr]
    have eM : ∀ σ', RM A σ' → mX12_fact 3 p1 p2 p3 p4 σ' = mX12_fact_87 3 p1 p2 p3 p4 (wI σ' 81 0 0) := fun σ' hm => by
      simp only [mX12_fact, stp]
      rw [if_neg (by decide), if_neg (by decide)]
      unfold mX12_fact_21
      rw [m0 σ', bd2_some, if_neg i10, if_neg (by decide), mw p1 _ hm, if_pos g2, bd2_some, if_neg i10]
      unfold mX12_fact_45
      rw [mi p2 _ hm, if_pos g1, bd2_some, if_neg i10, if_pos (by decide), mi p3 _ hm, if_pos g3, bd2_some, if_neg i10]
      unfold mX12_fact_71
      rw [if_neg (by decide)]
    by_cases G : nf < 200 ∧ ¬ (p4 < 0 ∨ 36499 < p4) ∧ ¬ p2 = p3
    · obtain ⟨G1, G2, G3⟩ := G
      obtain ⟨σ1, f, i1, i4, i3⟩ := C_init (σ := σ) 3 (p1) p2 p3 p4 (Int32.ofNat nt)
      have hT : sI (nwK σ 4 0) 33 0 = Int32.ofNat nt := by rw [nwK_I, if_neg (h.sz (by decide)), c0]
      have q4 := i4.2.2.1
      have q5 := C_add hz i4 c6 G1
      have e2 : mX11_fact 3 p1 p2 p3 p4 σ = some (.inr (Int32.ofNat nf, wI (wR σ1 38 nf (sZ σ)) 33 11 (Int32.ofNat nf + 1))) := by
        rw [eC]
        unfold mX11_fact_54
        rw [if_pos ((C_all c6 b7).mpr G1), if_neg (fun q => G2 (C_isDay.mp q)), if_pos (by decide), if_neg G3]
        unfold mX11_fact_85
        rw [if_neg (by decide)]
        unfold mX11_fact_96
        rw [if_neg (by decide)]
        unfold mX11_fact_108
        simp only [stp, Nat.reduceAdd]
        rw [hT, i1, bnd_some, q5]
        rfl
      generalize hF : wI (wR σ1 38 nf (sZ σ)) 33 11 (Int32.ofNat nf + 1) = σF at e2
      have oc : OnlyC σ σF := by rw [← hF]; exact ((i4.onC hz).wr 38 nf _).w 33 _ _ (Or.inl (by decide))
      have hm1 : RM A (wL σF 146 0 (iJ (Int32.ofNat nf))) := (h.2.2.1.onC oc).wl _ _ _
      have hm2 := r0 _ hm1
      have e3 : mX12_fact 3 p1 p2 p3 p4 (wL σF 146 0 (iJ (Int32.ofNat nf))) = some (Int32.ofNat nf, wI (tlM (wI (wL σF 146 0 (iJ (Int32.ofNat nf))) 81 0 0) nf (Int32.ofNat nt) 3 p2 p3 p4) 98 nf (p1)) := by
        rw [eM _ hm1]
        unfold mX12_fact_87
        rw [if_neg (fun q => (M_all (m7 _ hm1) b7).mp q G1), if_neg (fun q => G2 (M_isDay.mp q)), if_pos (by decide), if_neg G3]
        unfold mX12_fact_118
        rw [M_tells 3 p2 p3 p4 (m7 _ hm1) (m1 _ hm1) G1, bd2_some, if_neg (by decide)]
        unfold mX12_fact_146
        simp only [stp]
        rw [if_pos (oI_inb (by omega) (by decide)), oI_cl (by omega)]
      obtain ⟨x1, x2, x3, x4, x5, x6, x7, x8⟩ := tlA_at (A := A) (n := nf) (t := Int32.ofNat nt) (k := 3) (p := p2) (q := p3) (d := p4)
      generalize hT0' : tlA A nf (Int32.ofNat nt) 3 p2 p3 p4 = A0 at x1 x2 x3 x4 x5 x6 x7 x8
      have N : ∀ a i, ¬ (a = 98 ∧ i = nf) → up2 A0 98 nf (p1) a i = A0 a i := fun a i q => up2_ne q
      have y98 : up2 A0 98 nf (p1) 98 nf = p1 := by rw [up2_eq, if_pos ⟨rfl, rfl⟩]
      have hm3 : RM (up2 A0 98 nf (p1)) (wI (tlM (wI (wL σF 146 0 (iJ (Int32.ofNat nf))) 81 0 0) nf (Int32.ofNat nt) 3 p2 p3 p4) 98 nf (p1)) := by
        rw [← hT0']
        exact (hm2.tl nf (Int32.ofNat nt) 3 p2 p3 p4).w 98 nf (p1)
      generalize up2 A0 98 nf (p1) = A' at N y98 hm3
      have y97 : A' 97 nf = 3 := (N 97 nf (by omega)).trans x1
      have y99 : A' 99 nf = p2 := (N 99 nf (by omega)).trans x3
      have y100 : A' 100 nf = p3 := (N 100 nf (by omega)).trans x4
      have y101 : A' 101 nf = p4 := (N 101 nf (by omega)).trans x5
      have y106 : A' 106 nf = Int32.ofNat nt := (N 106 nf (by omega)).trans x6
      have y107 : A' 107 nf = -1 := (N 107 nf (by omega)).trans x7
      have y81 : A' 81 7 = Int32.ofNat nf + 1 := (N 81 7 (by omega)).trans x8
      have hk81 : ∀ k, k ≠ 7 → A' 81 k = A 81 k := fun k hk => by rw [N 81 k (by omega), ← hT0', tlA_ne (by omega) (by omega)]
      have hV : ∀ a i, 82 ≤ a → a ≠ 91 → ¬ ((97 ≤ a ∧ a ≤ 107) ∧ i = nf) → A' a i = A a i := fun a i u1 u2 u3 => by rw [N a i (by omega), ← hT0', tlA_ne (by omega) (by omega)]
      have om : OnlyM (wL σF 146 0 (iJ (Int32.ofNat nf))) (wI (tlM (wI (wL σF 146 0 (iJ (Int32.ofNat nf))) 81 0 0) nf (Int32.ofNat nt) 3 p2 p3 p4) 98 nf (p1)) := ((OnlyM.rf.w 81 0 0 (by decide)).tl nf _ 3 p2 p3 p4).w 98 nf (p1) (by decide)
      have hT4 : cT 4 A' = nf + 1 := by show (A' 81 7).toNatClampNeg = _; rw [y81, oI_s, oI_cl (by omega)]
      have hT0 : cT 0 A' = np := by show (A' 81 3).toNatClampNeg = _; rw [hk81 3 (by decide)]; exact d3
      have hT1 : cT 1 A' = nw := by show (A' 81 4).toNatClampNeg = _; rw [hk81 4 (by decide)]; exact d4
      have hT2 : cT 2 A' = ns := by show (A' 81 5).toNatClampNeg = _; rw [hk81 5 (by decide)]; exact d5
      have htn : nTn A' = nt := by show (A' 81 1).toNatClampNeg = _; rw [hk81 1 (by decide)]; exact d1
      refine ⟨0, _, Int32.ofNat nf, _, by show wr hN iJ σ (mX11_fact 3 p1 p2 p3 p4 σ) = _; rw [e2]; rfl, e3, rfl, fun _ => rfl, A', h.tellF i4 a7 G1 y81 hk81 hV ?_ ?_ (h.hr.tell d7 hT4 (fun a i u1 u2 u3 => hV a i (by omega) (by omega) (by omega)) (by rw [y97]; decide)) (h.sd.tell d7 hT4 (hT1.trans d4.symm) (fun a i u1 u2 u3 => hV a i (by omega) (by omega) (by omega)) (fun w => by rw [N 91 w (by omega), ← hT0', tlA_ne (by omega) (by omega)]) (by rw [y97]; decide)) (by rw [hF]; exact om) hm3⟩
      · have k1 := fcv_of y106 y107 y97 y98 y99 y100 y101 (x102 := A' 102 nf) rfl (x103 := A' 103 nf) rfl (x104 := A' 104 nf) rfl (x105 := A' 105 nf) rfl (q := p3) (d := p4) rfl rfl
        intro k hk
        rw [k1 k hk]
        have k2 := i3 k hk
        revert k hk
        refine cF4 ⟨?_, ?_, ?_, ?_, ?_, ?_, ?_, ?_, ?_, ?_, ?_, ?_, ?_⟩
        all_goals first | (intro z; exact z) | (intro _; rfl)
      · refine ⟨?_, ?_, ⟨nt, by omega, y106, Or.inl y107⟩, Or.inr (Or.inr (Or.inr (Or.inl ⟨y97, ?_, ?_⟩)))⟩
        · rw [y99, hT0]; obtain ⟨j, j1, j2⟩ := nu_of (by omega) g1; exact ⟨j, j1, j2⟩
        · rw [y101]; exact day_in G2
        · rw [y98, hT1]; obtain ⟨j, j1, j2⟩ := nu_of (by omega) g2; exact ⟨j, j1, j2⟩
        · rw [y100, hT0]; obtain ⟨j, j1, j2⟩ := nu_of (by omega) g3; exact ⟨j, j1, j2⟩
    · have e2 : mX11_fact 3 p1 p2 p3 p4 σ = some (.inr (-1, σ)) := by
        rw [eC]
        unfold mX11_fact_54
        by_cases G1 : nf < 200
        · rw [if_pos ((C_all c6 b7).mpr G1)]
          by_cases G2 : mX11_isDay p4 σ = 0
          · rw [if_pos G2]
          · rw [if_neg G2]
            rw [if_pos rfl]
            by_cases G3 : p2 = p3
            · rw [if_pos G3]
            · exact absurd ⟨G1, fun z => G2 (C_isDay.mpr z), G3⟩ G
        · rw [if_neg (fun q => G1 ((C_all c6 b7).mp q))]
      have hm1 : RM A (wL σ 146 0 (iJ (-1))) := h.2.2.1.wl _ _ _
      have e3 : mX12_fact 3 p1 p2 p3 p4 (wL σ 146 0 (iJ (-1))) = some (-1, wI (wL σ 146 0 (iJ (-1))) 81 0 0) := by
        rw [eM _ hm1]
        unfold mX12_fact_87
        by_cases G1 : nf < 200
        · rw [if_neg (fun q => (M_all (m7 _ hm1) b7).mp q G1)]
          by_cases G2 : mX12_isDay p4 (wI (wL σ 146 0 (iJ (-1))) 81 0 0) = 0
          · rw [if_pos G2]
          · rw [if_neg G2]
            rw [if_pos rfl]
            by_cases G3 : p2 = p3
            · rw [if_pos G3]
            · exact absurd ⟨G1, fun z => G2 (M_isDay.mpr z), G3⟩ G
        · rw [if_pos ((M_all (m7 _ hm1) b7).mpr G1)]
      exact op_same (σ := σ) h (by show wr hN iJ σ (mX11_fact 3 p1 p2 p3 p4 σ) = _; rw [e2]; rfl) e3 rfl
  · have e2 : mX11_fact 3 p1 p2 p3 p4 σ = some (.inl 0) := by
      unfold mX11_fact
      rw [if_neg q0, C_needP c2 (by omega)]
      by_cases g1 : nu p2 np
      · rw [if_pos g1, bdp_inr, if_neg (by decide), C_needW c3 (by omega)]
        by_cases g2 : nu p1 nw
        · rw [if_pos g2, bdp_inr]
          unfold mX11_fact_43
          rw [if_pos rfl, C_needP c2 (by omega), if_neg (fun g3 => g ⟨g1, g2, g3⟩)]; rfl
        · rw [if_neg g2]; rfl
      · rw [if_neg g1]; rfl
    refine op_thr (k := 1) (b := 0) h (by decide) (by show wr hN iJ σ (mX11_fact 3 p1 p2 p3 p4 σ) = _; rw [e2]; rfl) ?_
    simp only [mX12_fact, stp]
    rw [if_neg (by decide), if_neg (by decide)]
    unfold mX12_fact_21
    rw [m0 σ, bd2_some, if_neg i10, if_neg (by decide), mw p1 _ h.2.2.1]
    by_cases g2 : nu p1 nw
    · rw [if_pos g2, bd2_some, if_neg i10]
      unfold mX12_fact_45
      rw [mi p2 _ h.2.2.1]
      by_cases g1 : nu p2 np
      · rw [if_pos g1, bd2_some, if_neg i10, if_pos rfl, mi p3 _ h.2.2.1, if_neg (fun g3 => g ⟨g1, g2, g3⟩)]; rfl
      · rw [if_neg g1]; rfl
    · rw [if_neg g2]; rfl

set_option maxHeartbeats 4000000 in
theorem op_fact4 (p1 p2 p3 p4 : Int32) : OpOK (mL_fact 4 p1 p2 p3 p4) (mX12_fact 4 p1 p2 p3 p4) iJ := by
  intro A σ h
  obtain ⟨nt, nl, np, nw, ns, nr, nf, nc, nL, ⟨b1, b2, b3, b4, b5, b6, b7, b8, b9⟩, ⟨a1, a2, a3, a4, a5, a6, a7, a8, a9⟩, ⟨c0, c1, c2, c3, c4, c5, c6, c7, c8⟩, ⟨d1, d2, d3, d4, d5, d6, d7, d8, d9⟩⟩ := h.nums
  have hz := h.2.1
  have t0 : ∀ σ' : Sto, sI (wI σ' 81 0 0) 81 0 = 0 := fun _ => rfl
  have r0 : ∀ σ', RM A σ' → RM A (wI σ' 81 0 0) := fun σ' hm => hm.np 81 0 0 rfl
  have mw : ∀ p σ', RM A σ' → mX12_isWork p (wI σ' 81 0 0) = if nu p nw then some (1, wI σ' 81 0 0) else some (0, wI (wI σ' 81 0 0) 81 0 1) := fun p σ' hm => by
    rw [M_isWork (t0 σ'), (r0 _ hm) 81 4 rfl, a4]
  have mi : ∀ p σ', RM A σ' → mX12_isPerson p (wI σ' 81 0 0) = if nu p np then some (1, wI σ' 81 0 0) else some (0, wI (wI σ' 81 0 0) 81 0 1) := fun p σ' hm => by
    rw [M_isPerson (t0 σ'), (r0 _ hm) 81 3 rfl, a3]
  have ms : ∀ p σ', RM A σ' → mX12_isSociety p (wI σ' 81 0 0) = if nu p ns then some (1, wI σ' 81 0 0) else some (0, wI (wI σ' 81 0 0) 81 0 1) := fun p σ' hm => by
    rw [M_isSociety (t0 σ'), (r0 _ hm) 81 5 rfl, a5]
  have m7 : ∀ σ', RM A σ' → sI (wI σ' 81 0 0) 81 7 = Int32.ofNat nf := fun σ' hm => ((r0 _ hm) 81 7 rfl).trans a7
  have m1 : ∀ σ', RM A σ' → sI (wI σ' 81 0 0) 81 1 = Int32.ofNat nt := fun σ' hm => ((r0 _ hm) 81 1 rfl).trans a1
  have q0 : ¬ mX11_isWithin 4 3 5 σ = 0 := by unfold mX11_isWithin; decide
  have m0 : ∀ σ', mX12_right 1 1 (wI σ' 81 0 0) = some (1, wI σ' 81 0 0) := fun σ' => M_right1 (t0 σ')
  by_cases g : nu p2 np ∧ nu p1 nw
  · obtain ⟨g1, g2⟩ := g
    have eC : mX11_fact 4 p1 p2 p3 p4 σ = mX11_fact_54 4 p1 p2 p3 p4 σ := by
      unfold mX11_fact
      rw [if_neg q0, C_needP c2 (by omega), if_pos g1, bdp_inr, if_neg (by decide), C_needW c3 (by omega), if_pos g2, bdp_inr]
      unfold mX11_fact_43
      rw [if_neg (by decide)]
    have eM : ∀ σ', RM A σ' → mX12_fact 4 p1 p2 p3 p4 σ' = mX12_fact_87 4 p1 p2 p3 p4 (wI σ' 81 0 0) := fun σ' hm => by
      simp only [mX12_fact, stp]
      rw [if_neg (by decide), if_neg (by decide)]
      unfold mX12_fact_21
      rw [m0 σ', bd2_some, if_neg i10, if_neg (by decide), mw p1 _ hm, if_pos g2, bd2_some, if_neg i10]
      unfold mX12_fact_45
      rw [mi p2 _ hm, if_pos g1, bd2_some, if_neg i10, if_neg (by decide)]
      unfold mX12_fact_71
      rw [if_neg (by decide)]
    by_cases G : nf < 200 ∧ ¬ (p4 < 0 ∨ 36499 < p4)
    · obtain ⟨G1, G2⟩ := G
      obtain ⟨σ1, f, i1, i4, i3⟩ := C_init (σ := σ) 4 (p1) p2 p2 p4 (Int32.ofNat nt)
      have hT : sI (nwK σ 4 0) 33 0 = Int32.ofNat nt := by rw [nwK_I, if_neg (h.sz (by decide)), c0]
      have q4 := i4.2.2.1
      have q5 := C_add hz i4 c6 G1
      have e2 : mX11_fact 4 p1 p2 p3 p4 σ = some (.inr (Int32.ofNat nf, wI (wR σ1 38 nf (sZ σ)) 33 11 (Int32.ofNat nf + 1))) := by
        rw [eC]
        unfold mX11_fact_54
        rw [if_pos ((C_all c6 b7).mpr G1), if_neg (fun q => G2 (C_isDay.mp q)), if_neg (by decide)]
        unfold mX11_fact_85
        rw [if_pos (by decide)]
        unfold mX11_fact_96
        rw [if_neg (by decide)]
        unfold mX11_fact_108
        simp only [stp, Nat.reduceAdd]
        rw [hT, i1, bnd_some, q5]
        rfl
      generalize hF : wI (wR σ1 38 nf (sZ σ)) 33 11 (Int32.ofNat nf + 1) = σF at e2
      have oc : OnlyC σ σF := by rw [← hF]; exact ((i4.onC hz).wr 38 nf _).w 33 _ _ (Or.inl (by decide))
      have hm1 : RM A (wL σF 146 0 (iJ (Int32.ofNat nf))) := (h.2.2.1.onC oc).wl _ _ _
      have hm2 := r0 _ hm1
      have e3 : mX12_fact 4 p1 p2 p3 p4 (wL σF 146 0 (iJ (Int32.ofNat nf))) = some (Int32.ofNat nf, wI (tlM (wI (wL σF 146 0 (iJ (Int32.ofNat nf))) 81 0 0) nf (Int32.ofNat nt) 4 p2 p3 p4) 98 nf (p1)) := by
        rw [eM _ hm1]
        unfold mX12_fact_87
        rw [if_neg (fun q => (M_all (m7 _ hm1) b7).mp q G1), if_neg (fun q => G2 (M_isDay.mp q)), if_neg (by decide)]
        unfold mX12_fact_118
        rw [M_tells 4 p2 p3 p4 (m7 _ hm1) (m1 _ hm1) G1, bd2_some, if_neg (by decide)]
        unfold mX12_fact_146
        simp only [stp]
        rw [if_pos (oI_inb (by omega) (by decide)), oI_cl (by omega)]
      obtain ⟨x1, x2, x3, x4, x5, x6, x7, x8⟩ := tlA_at (A := A) (n := nf) (t := Int32.ofNat nt) (k := 4) (p := p2) (q := p3) (d := p4)
      generalize hT0' : tlA A nf (Int32.ofNat nt) 4 p2 p3 p4 = A0 at x1 x2 x3 x4 x5 x6 x7 x8
      have N : ∀ a i, ¬ (a = 98 ∧ i = nf) → up2 A0 98 nf (p1) a i = A0 a i := fun a i q => up2_ne q
      have y98 : up2 A0 98 nf (p1) 98 nf = p1 := by rw [up2_eq, if_pos ⟨rfl, rfl⟩]
      have hm3 : RM (up2 A0 98 nf (p1)) (wI (tlM (wI (wL σF 146 0 (iJ (Int32.ofNat nf))) 81 0 0) nf (Int32.ofNat nt) 4 p2 p3 p4) 98 nf (p1)) := by
        rw [← hT0']
        exact (hm2.tl nf (Int32.ofNat nt) 4 p2 p3 p4).w 98 nf (p1)
      generalize up2 A0 98 nf (p1) = A' at N y98 hm3
      have y97 : A' 97 nf = 4 := (N 97 nf (by omega)).trans x1
      have y99 : A' 99 nf = p2 := (N 99 nf (by omega)).trans x3
      have y100 : A' 100 nf = p3 := (N 100 nf (by omega)).trans x4
      have y101 : A' 101 nf = p4 := (N 101 nf (by omega)).trans x5
      have y106 : A' 106 nf = Int32.ofNat nt := (N 106 nf (by omega)).trans x6
      have y107 : A' 107 nf = -1 := (N 107 nf (by omega)).trans x7
      have y81 : A' 81 7 = Int32.ofNat nf + 1 := (N 81 7 (by omega)).trans x8
      have hk81 : ∀ k, k ≠ 7 → A' 81 k = A 81 k := fun k hk => by rw [N 81 k (by omega), ← hT0', tlA_ne (by omega) (by omega)]
      have hV : ∀ a i, 82 ≤ a → a ≠ 91 → ¬ ((97 ≤ a ∧ a ≤ 107) ∧ i = nf) → A' a i = A a i := fun a i u1 u2 u3 => by rw [N a i (by omega), ← hT0', tlA_ne (by omega) (by omega)]
      have om : OnlyM (wL σF 146 0 (iJ (Int32.ofNat nf))) (wI (tlM (wI (wL σF 146 0 (iJ (Int32.ofNat nf))) 81 0 0) nf (Int32.ofNat nt) 4 p2 p3 p4) 98 nf (p1)) := ((OnlyM.rf.w 81 0 0 (by decide)).tl nf _ 4 p2 p3 p4).w 98 nf (p1) (by decide)
      have hT4 : cT 4 A' = nf + 1 := by show (A' 81 7).toNatClampNeg = _; rw [y81, oI_s, oI_cl (by omega)]
      have hT0 : cT 0 A' = np := by show (A' 81 3).toNatClampNeg = _; rw [hk81 3 (by decide)]; exact d3
      have hT1 : cT 1 A' = nw := by show (A' 81 4).toNatClampNeg = _; rw [hk81 4 (by decide)]; exact d4
      have hT2 : cT 2 A' = ns := by show (A' 81 5).toNatClampNeg = _; rw [hk81 5 (by decide)]; exact d5
      have htn : nTn A' = nt := by show (A' 81 1).toNatClampNeg = _; rw [hk81 1 (by decide)]; exact d1
      refine ⟨0, _, Int32.ofNat nf, _, by show wr hN iJ σ (mX11_fact 4 p1 p2 p3 p4 σ) = _; rw [e2]; rfl, e3, rfl, fun _ => rfl, A', h.tellF i4 a7 G1 y81 hk81 hV ?_ ?_ (h.hr.tell d7 hT4 (fun a i u1 u2 u3 => hV a i (by omega) (by omega) (by omega)) (by rw [y97]; decide)) (h.sd.tell d7 hT4 (hT1.trans d4.symm) (fun a i u1 u2 u3 => hV a i (by omega) (by omega) (by omega)) (fun w => by rw [N 91 w (by omega), ← hT0', tlA_ne (by omega) (by omega)]) (by rw [y97]; decide)) (by rw [hF]; exact om) hm3⟩
      · have k1 := fcv_of y106 y107 y97 y98 y99 y100 y101 (x102 := A' 102 nf) rfl (x103 := A' 103 nf) rfl (x104 := A' 104 nf) rfl (x105 := A' 105 nf) rfl (q := p2) (d := p4) rfl rfl
        intro k hk
        rw [k1 k hk]
        have k2 := i3 k hk
        revert k hk
        refine cF4 ⟨?_, ?_, ?_, ?_, ?_, ?_, ?_, ?_, ?_, ?_, ?_, ?_, ?_⟩
        all_goals first | (intro z; exact z) | (intro _; rfl)
      · refine ⟨?_, ?_, ⟨nt, by omega, y106, Or.inl y107⟩, Or.inr (Or.inr (Or.inr (Or.inr (Or.inl ⟨y97, ?_⟩))))⟩
        · rw [y99, hT0]; obtain ⟨j, j1, j2⟩ := nu_of (by omega) g1; exact ⟨j, j1, j2⟩
        · rw [y101]; exact day_in G2
        · rw [y98, hT1]; obtain ⟨j, j1, j2⟩ := nu_of (by omega) g2; exact ⟨j, j1, j2⟩
    · have e2 : mX11_fact 4 p1 p2 p3 p4 σ = some (.inr (-1, σ)) := by
        rw [eC]
        unfold mX11_fact_54
        by_cases G1 : nf < 200
        · rw [if_pos ((C_all c6 b7).mpr G1)]
          by_cases G2 : mX11_isDay p4 σ = 0
          · rw [if_pos G2]
          · rw [if_neg G2]
            exact absurd ⟨G1, fun z => G2 (C_isDay.mpr z)⟩ G
        · rw [if_neg (fun q => G1 ((C_all c6 b7).mp q))]
      have hm1 : RM A (wL σ 146 0 (iJ (-1))) := h.2.2.1.wl _ _ _
      have e3 : mX12_fact 4 p1 p2 p3 p4 (wL σ 146 0 (iJ (-1))) = some (-1, wI (wL σ 146 0 (iJ (-1))) 81 0 0) := by
        rw [eM _ hm1]
        unfold mX12_fact_87
        by_cases G1 : nf < 200
        · rw [if_neg (fun q => (M_all (m7 _ hm1) b7).mp q G1)]
          by_cases G2 : mX12_isDay p4 (wI (wL σ 146 0 (iJ (-1))) 81 0 0) = 0
          · rw [if_pos G2]
          · rw [if_neg G2]
            exact absurd ⟨G1, fun z => G2 (M_isDay.mpr z)⟩ G
        · rw [if_pos ((M_all (m7 _ hm1) b7).mpr G1)]
      exact op_same (σ := σ) h (by show wr hN iJ σ (mX11_fact 4 p1 p2 p3 p4 σ) = _; rw [e2]; rfl) e3 rfl
  · have e2 : mX11_fact 4 p1 p2 p3 p4 σ = some (.inl 0) := by
      unfold mX11_fact
      rw [if_neg q0, C_needP c2 (by omega)]
      by_cases g1 : nu p2 np
      · rw [if_pos g1, bdp_inr, if_neg (by decide), C_needW c3 (by omega)]
        rw [if_neg (fun g2 => g ⟨g1, g2⟩)]; rfl
      · rw [if_neg g1]; rfl
    refine op_thr (k := 1) (b := 0) h (by decide) (by show wr hN iJ σ (mX11_fact 4 p1 p2 p3 p4 σ) = _; rw [e2]; rfl) ?_
    simp only [mX12_fact, stp]
    rw [if_neg (by decide), if_neg (by decide)]
    unfold mX12_fact_21
    rw [m0 σ, bd2_some, if_neg i10, if_neg (by decide), mw p1 _ h.2.2.1]
    by_cases g2 : nu p1 nw
    · rw [if_pos g2, bd2_some, if_neg i10]
      unfold mX12_fact_45
      rw [mi p2 _ h.2.2.1]
      rw [if_neg (fun g1 => g ⟨g1, g2⟩)]; rfl
    · rw [if_neg g2]; rfl

set_option maxHeartbeats 4000000 in
theorem op_fact5 (p1 p2 p3 p4 : Int32) : OpOK (mL_fact 5 p1 p2 p3 p4) (mX12_fact 5 p1 p2 p3 p4) iJ := by
  intro A σ h
  obtain ⟨nt, nl, np, nw, ns, nr, nf, nc, nL, ⟨b1, b2, b3, b4, b5, b6, b7, b8, b9⟩, ⟨a1, a2, a3, a4, a5, a6, a7, a8, a9⟩, ⟨c0, c1, c2, c3, c4, c5, c6, c7, c8⟩, ⟨d1, d2, d3, d4, d5, d6, d7, d8, d9⟩⟩ := h.nums
  have hz := h.2.1
  have t0 : ∀ σ' : Sto, sI (wI σ' 81 0 0) 81 0 = 0 := fun _ => rfl
  have r0 : ∀ σ', RM A σ' → RM A (wI σ' 81 0 0) := fun σ' hm => hm.np 81 0 0 rfl
  have mw : ∀ p σ', RM A σ' → mX12_isWork p (wI σ' 81 0 0) = if nu p nw then some (1, wI σ' 81 0 0) else some (0, wI (wI σ' 81 0 0) 81 0 1) := fun p σ' hm => by
    rw [M_isWork (t0 σ'), (r0 _ hm) 81 4 rfl, a4]
  have mi : ∀ p σ', RM A σ' → mX12_isPerson p (wI σ' 81 0 0) = if nu p np then some (1, wI σ' 81 0 0) else some (0, wI (wI σ' 81 0 0) 81 0 1) := fun p σ' hm => by
    rw [M_isPerson (t0 σ'), (r0 _ hm) 81 3 rfl, a3]
  have ms : ∀ p σ', RM A σ' → mX12_isSociety p (wI σ' 81 0 0) = if nu p ns then some (1, wI σ' 81 0 0) else some (0, wI (wI σ' 81 0 0) 81 0 1) := fun p σ' hm => by
    rw [M_isSociety (t0 σ'), (r0 _ hm) 81 5 rfl, a5]
  have m7 : ∀ σ', RM A σ' → sI (wI σ' 81 0 0) 81 7 = Int32.ofNat nf := fun σ' hm => ((r0 _ hm) 81 7 rfl).trans a7
  have m1 : ∀ σ', RM A σ' → sI (wI σ' 81 0 0) 81 1 = Int32.ofNat nt := fun σ' hm => ((r0 _ hm) 81 1 rfl).trans a1
  have q0 : ¬ mX11_isWithin 5 3 5 σ = 0 := by unfold mX11_isWithin; decide
  have m0 : ∀ σ', mX12_right 1 1 (wI σ' 81 0 0) = some (1, wI σ' 81 0 0) := fun σ' => M_right1 (t0 σ')
  by_cases g : nu p2 np ∧ nu p3 ns
  · obtain ⟨g1, g2⟩ := g
    have eC : mX11_fact 5 p1 p2 p3 p4 σ = mX11_fact_54 5 p1 p2 p3 p4 σ := by
      unfold mX11_fact
      rw [if_neg q0, C_needP c2 (by omega), if_pos g1, bdp_inr, if_pos (by decide), C_needS c4 (by omega), if_pos g2, bdp_inr]
      unfold mX11_fact_43
      rw [if_neg (by decide)]
    have eM : ∀ σ', RM A σ' → mX12_fact 5 p1 p2 p3 p4 σ' = mX12_fact_87 5 p1 p2 p3 p4 (wI σ' 81 0 0) := fun σ' hm => by
      simp only [mX12_fact, stp]
      rw [if_neg (by decide), if_neg (by decide)]
      unfold mX12_fact_21
      rw [m0 σ', bd2_some, if_neg i10, if_pos (by decide)]
      unfold mX12_fact_45
      rw [mi p2 _ hm, if_pos g1, bd2_some, if_neg i10, if_neg (by decide)]
      unfold mX12_fact_71
      rw [if_pos (by decide), ms p3 _ hm, if_pos g2, bd2_some, if_neg i10]
    by_cases G : nf < 200 ∧ ¬ (p4 < 0 ∨ 36499 < p4)
    · obtain ⟨G1, G2⟩ := G
      obtain ⟨σ1, f, i1, i4, i3⟩ := C_init (σ := σ) 5 (-1) p2 p3 p4 (Int32.ofNat nt)
      have hT : sI (nwK σ 4 0) 33 0 = Int32.ofNat nt := by rw [nwK_I, if_neg (h.sz (by decide)), c0]
      have q4 := i4.2.2.1
      have q5 := C_add hz i4 c6 G1
      have e2 : mX11_fact 5 p1 p2 p3 p4 σ = some (.inr (Int32.ofNat nf, wI (wR σ1 38 nf (sZ σ)) 33 11 (Int32.ofNat nf + 1))) := by
        rw [eC]
        unfold mX11_fact_54
        rw [if_pos ((C_all c6 b7).mpr G1), if_neg (fun q => G2 (C_isDay.mp q)), if_neg (by decide)]
        unfold mX11_fact_85
        rw [if_neg (by decide)]
        unfold mX11_fact_96
        rw [if_pos (by decide)]
        unfold mX11_fact_108
        simp only [stp, Nat.reduceAdd]
        rw [hT, i1, bnd_some, q5]
        rfl
      generalize hF : wI (wR σ1 38 nf (sZ σ)) 33 11 (Int32.ofNat nf + 1) = σF at e2
      have oc : OnlyC σ σF := by rw [← hF]; exact ((i4.onC hz).wr 38 nf _).w 33 _ _ (Or.inl (by decide))
      have hm1 : RM A (wL σF 146 0 (iJ (Int32.ofNat nf))) := (h.2.2.1.onC oc).wl _ _ _
      have hm2 := r0 _ hm1
      have e3 : mX12_fact 5 p1 p2 p3 p4 (wL σF 146 0 (iJ (Int32.ofNat nf))) = some (Int32.ofNat nf, wI (tlM (wI (wL σF 146 0 (iJ (Int32.ofNat nf))) 81 0 0) nf (Int32.ofNat nt) 5 p2 p3 p4) 98 nf (-1)) := by
        rw [eM _ hm1]
        unfold mX12_fact_87
        rw [if_neg (fun q => (M_all (m7 _ hm1) b7).mp q G1), if_neg (fun q => G2 (M_isDay.mp q)), if_neg (by decide)]
        unfold mX12_fact_118
        rw [M_tells 5 p2 p3 p4 (m7 _ hm1) (m1 _ hm1) G1, bd2_some, if_pos (by decide)]
        unfold mX12_fact_146
        simp only [stp]
        rw [if_pos (oI_inb (by omega) (by decide)), oI_cl (by omega)]
      obtain ⟨x1, x2, x3, x4, x5, x6, x7, x8⟩ := tlA_at (A := A) (n := nf) (t := Int32.ofNat nt) (k := 5) (p := p2) (q := p3) (d := p4)
      generalize hT0' : tlA A nf (Int32.ofNat nt) 5 p2 p3 p4 = A0 at x1 x2 x3 x4 x5 x6 x7 x8
      have N : ∀ a i, ¬ (a = 98 ∧ i = nf) → up2 A0 98 nf (-1) a i = A0 a i := fun a i q => up2_ne q
      have y98 : up2 A0 98 nf (-1) 98 nf = -1 := by rw [up2_eq, if_pos ⟨rfl, rfl⟩]
      have hm3 : RM (up2 A0 98 nf (-1)) (wI (tlM (wI (wL σF 146 0 (iJ (Int32.ofNat nf))) 81 0 0) nf (Int32.ofNat nt) 5 p2 p3 p4) 98 nf (-1)) := by
        rw [← hT0']
        exact (hm2.tl nf (Int32.ofNat nt) 5 p2 p3 p4).w 98 nf (-1)
      generalize up2 A0 98 nf (-1) = A' at N y98 hm3
      have y97 : A' 97 nf = 5 := (N 97 nf (by omega)).trans x1
      have y99 : A' 99 nf = p2 := (N 99 nf (by omega)).trans x3
      have y100 : A' 100 nf = p3 := (N 100 nf (by omega)).trans x4
      have y101 : A' 101 nf = p4 := (N 101 nf (by omega)).trans x5
      have y106 : A' 106 nf = Int32.ofNat nt := (N 106 nf (by omega)).trans x6
      have y107 : A' 107 nf = -1 := (N 107 nf (by omega)).trans x7
      have y81 : A' 81 7 = Int32.ofNat nf + 1 := (N 81 7 (by omega)).trans x8
      have hk81 : ∀ k, k ≠ 7 → A' 81 k = A 81 k := fun k hk => by rw [N 81 k (by omega), ← hT0', tlA_ne (by omega) (by omega)]
      have hV : ∀ a i, 82 ≤ a → a ≠ 91 → ¬ ((97 ≤ a ∧ a ≤ 107) ∧ i = nf) → A' a i = A a i := fun a i u1 u2 u3 => by rw [N a i (by omega), ← hT0', tlA_ne (by omega) (by omega)]
      have om : OnlyM (wL σF 146 0 (iJ (Int32.ofNat nf))) (wI (tlM (wI (wL σF 146 0 (iJ (Int32.ofNat nf))) 81 0 0) nf (Int32.ofNat nt) 5 p2 p3 p4) 98 nf (-1)) := ((OnlyM.rf.w 81 0 0 (by decide)).tl nf _ 5 p2 p3 p4).w 98 nf (-1) (by decide)
      have hT4 : cT 4 A' = nf + 1 := by show (A' 81 7).toNatClampNeg = _; rw [y81, oI_s, oI_cl (by omega)]
      have hT0 : cT 0 A' = np := by show (A' 81 3).toNatClampNeg = _; rw [hk81 3 (by decide)]; exact d3
      have hT1 : cT 1 A' = nw := by show (A' 81 4).toNatClampNeg = _; rw [hk81 4 (by decide)]; exact d4
      have hT2 : cT 2 A' = ns := by show (A' 81 5).toNatClampNeg = _; rw [hk81 5 (by decide)]; exact d5
      have htn : nTn A' = nt := by show (A' 81 1).toNatClampNeg = _; rw [hk81 1 (by decide)]; exact d1
      refine ⟨0, _, Int32.ofNat nf, _, by show wr hN iJ σ (mX11_fact 5 p1 p2 p3 p4 σ) = _; rw [e2]; rfl, e3, rfl, fun _ => rfl, A', h.tellF i4 a7 G1 y81 hk81 hV ?_ ?_ (h.hr.tell d7 hT4 (fun a i u1 u2 u3 => hV a i (by omega) (by omega) (by omega)) (by rw [y97]; decide)) (h.sd.tell d7 hT4 (hT1.trans d4.symm) (fun a i u1 u2 u3 => hV a i (by omega) (by omega) (by omega)) (fun w => by rw [N 91 w (by omega), ← hT0', tlA_ne (by omega) (by omega)]) (by rw [y97]; decide)) (by rw [hF]; exact om) hm3⟩
      · have k1 := fcv_of y106 y107 y97 y98 y99 y100 y101 (x102 := A' 102 nf) rfl (x103 := A' 103 nf) rfl (x104 := A' 104 nf) rfl (x105 := A' 105 nf) rfl (q := p3) (d := p4) rfl rfl
        intro k hk
        rw [k1 k hk]
        have k2 := i3 k hk
        revert k hk
        refine cF4 ⟨?_, ?_, ?_, ?_, ?_, ?_, ?_, ?_, ?_, ?_, ?_, ?_, ?_⟩
        all_goals first | (intro z; exact z) | (intro _; rfl)
      · refine ⟨?_, ?_, ⟨nt, by omega, y106, Or.inl y107⟩, Or.inr (Or.inr (Or.inr (Or.inr (Or.inr ⟨y97, y98, ?_⟩))))⟩
        · rw [y99, hT0]; obtain ⟨j, j1, j2⟩ := nu_of (by omega) g1; exact ⟨j, j1, j2⟩
        · rw [y101]; exact day_in G2
        · rw [y100, hT2]; obtain ⟨j, j1, j2⟩ := nu_of (by omega) g2; exact ⟨j, j1, j2⟩
    · have e2 : mX11_fact 5 p1 p2 p3 p4 σ = some (.inr (-1, σ)) := by
        rw [eC]
        unfold mX11_fact_54
        by_cases G1 : nf < 200
        · rw [if_pos ((C_all c6 b7).mpr G1)]
          by_cases G2 : mX11_isDay p4 σ = 0
          · rw [if_pos G2]
          · rw [if_neg G2]
            exact absurd ⟨G1, fun z => G2 (C_isDay.mpr z)⟩ G
        · rw [if_neg (fun q => G1 ((C_all c6 b7).mp q))]
      have hm1 : RM A (wL σ 146 0 (iJ (-1))) := h.2.2.1.wl _ _ _
      have e3 : mX12_fact 5 p1 p2 p3 p4 (wL σ 146 0 (iJ (-1))) = some (-1, wI (wL σ 146 0 (iJ (-1))) 81 0 0) := by
        rw [eM _ hm1]
        unfold mX12_fact_87
        by_cases G1 : nf < 200
        · rw [if_neg (fun q => (M_all (m7 _ hm1) b7).mp q G1)]
          by_cases G2 : mX12_isDay p4 (wI (wL σ 146 0 (iJ (-1))) 81 0 0) = 0
          · rw [if_pos G2]
          · rw [if_neg G2]
            exact absurd ⟨G1, fun z => G2 (M_isDay.mpr z)⟩ G
        · rw [if_pos ((M_all (m7 _ hm1) b7).mpr G1)]
      exact op_same (σ := σ) h (by show wr hN iJ σ (mX11_fact 5 p1 p2 p3 p4 σ) = _; rw [e2]; rfl) e3 rfl
  · have e2 : mX11_fact 5 p1 p2 p3 p4 σ = some (.inl 0) := by
      unfold mX11_fact
      rw [if_neg q0, C_needP c2 (by omega)]
      by_cases g1 : nu p2 np
      · rw [if_pos g1, bdp_inr, if_pos (by decide), C_needS c4 (by omega)]
        rw [if_neg (fun g2 => g ⟨g1, g2⟩)]; rfl
      · rw [if_neg g1]; rfl
    refine op_thr (k := 1) (b := 0) h (by decide) (by show wr hN iJ σ (mX11_fact 5 p1 p2 p3 p4 σ) = _; rw [e2]; rfl) ?_
    simp only [mX12_fact, stp]
    rw [if_neg (by decide), if_neg (by decide)]
    unfold mX12_fact_21
    rw [m0 σ, bd2_some, if_neg i10, if_pos (by decide)]
    unfold mX12_fact_45
    rw [mi p2 _ h.2.2.1]
    by_cases g1 : nu p2 np
    · rw [if_pos g1, bd2_some, if_neg i10, if_neg (by decide)]
      unfold mX12_fact_71
      rw [if_pos rfl, ms p3 _ h.2.2.1, if_neg (fun g2 => g ⟨g1, g2⟩)]; rfl
    · rw [if_neg g1]; rfl

theorem op_fact (p0 p1 p2 p3 p4 : Int32) : OpOK (mL_fact p0 p1 p2 p3 p4) (mX12_fact p0 p1 p2 p3 p4) iJ := by
  by_cases k : p0 < 3 ∨ 5 < p0
  · intro A σ h
    have e2 : mX11_fact p0 p1 p2 p3 p4 σ = some (.inl 0) := by
      unfold mX11_fact
      rw [if_pos (C_isW.mpr k)]
    have t0 : ∀ σ' : Sto, sI (wI σ' 81 0 0) 81 0 = 0 := fun _ => rfl
    refine op_thr (k := 1) (b := 0) h (by decide) (by show wr hN iJ σ (mX11_fact p0 p1 p2 p3 p4 σ) = _; rw [e2]; rfl) ?_
    have e20 : mX12_fact_20 p0 p1 p2 p3 p4 (wI σ 81 0 0) = some (0, wI (wI σ 81 0 0) 81 0 1) := by
      unfold mX12_fact_20 mX12_fact_21
      rw [M_right0 (t0 σ) (by decide), bd2_some, if_pos rfl]
    simp only [mX12_fact, stp]
    by_cases k1 : p0 < 3
    · rw [if_pos k1, e20]
    · rw [if_neg k1, if_pos (k.resolve_left k1), e20]
  · have k1 : ¬ p0 < 0 := fun q => k (Or.inl (by
      rw [Int32.lt_iff_toInt_lt] at q ⊢
      have e0 : (0 : Int32).toInt = 0 := rfl
      have e3 : (3 : Int32).toInt = 3 := rfl
      omega))
    obtain ⟨j, j1, rfl⟩ := inR.le (m := 5) (by decide) k1 (fun q => k (Or.inr q))
    have j2 : ¬ j < 3 := fun q => k (Or.inl ((oI_lt (n := 3) (by omega) (by decide)).mpr q))
    rcases (show j = 3 ∨ j = 4 ∨ j = 5 by omega) with rfl | rfl | rfl
    · exact op_fact3 p1 p2 p3 p4
    · exact op_fact4 p1 p2 p3 p4
    · exact op_fact5 p1 p2 p3 p4
