theorem ISold.sale {A A' : Ab} {n w : Nat} (h : ISold A) (hT : cT 4 A = n) (hT' : cT 4 A' = n + 1) (hT1 : cT 1 A' = cT 1 A) (hA : ∀ a i, 97 ≤ a → a ≤ 107 → i < n → A' a i = A a i) (h91 : ∀ v, v ≠ w → A' 91 v = A 91 v) (hw : A' 91 w = 1) (hlt : w ≤ 30) (hk : A' 97 n = 2) (hk2 : A' 98 n = Int32.ofNat w) (hT30 : cT 1 A ≤ 30) : ISold A' := fun v hv => by
  rw [hT1] at hv
  have h0 := h v hv
  have hA2 : ∀ f, f < n → (A' 97 f = 2 ∧ A' 98 f = Int32.ofNat v ↔ A 97 f = 2 ∧ A 98 f = Int32.ofNat v) := fun f hf => by
    rw [hA 97 f (by decide) (by decide) hf, hA 98 f (by decide) (by decide) hf]
  by_cases e : v = w
  · subst e
    rw [hw]
    exact ⟨Or.inr rfl, fun _ => ⟨n, by omega, hk, hk2⟩, fun _ => rfl⟩
  · rw [h91 v e]
    refine ⟨h0.1, h0.2.trans ?_⟩
    rw [hT, hT']
    constructor
    · rintro ⟨f, h1, h2⟩
      exact ⟨f, by omega, (hA2 f h1).mpr h2⟩
    · rintro ⟨f, h1, h2⟩
      have hf : f < n := by
        rcases Nat.lt_succ_iff_lt_or_eq.mp h1 with q | q
        · exact q
        · subst q
          refine absurd ?_ e
          have := hk2.symm.trans h2.2
          exact ((oI_eq (by omega) (by omega)).mp this).symm
      exact ⟨f, hf, (hA2 f hf).mp h2⟩
set_option maxHeartbeats 4000000 in
theorem op_sale (p0 p1 p2 p3 p4 p5 p6 : Int32) : OpOK (mL_sale p0 p1 p2 p3 p4 p5 p6) (mX12_sale p0 p1 p2 p3 p4 p5 p6) iJ := by
  intro A σ h
  obtain ⟨nt, nl, np, nw, ns, nr, nf, nc, nL, ⟨b1, b2, b3, b4, b5, b6, b7, b8, b9⟩, ⟨a1, a2, a3, a4, a5, a6, a7, a8, a9⟩, ⟨c0, c1, c2, c3, c4, c5, c6, c7, c8⟩, ⟨d1, d2, d3, d4, d5, d6, d7, d8, d9⟩⟩ := h.nums
  have hz := h.2.1
  have t0 : ∀ σ' : Sto, sI (wI σ' 81 0 0) 81 0 = 0 := fun _ => rfl
  have r0 : ∀ σ', RM A σ' → RM A (wI σ' 81 0 0) := fun σ' hm => hm.np 81 0 0 rfl
  have mw : ∀ σ', RM A σ' → mX12_isWork p0 (wI σ' 81 0 0) = if nu p0 nw then some (1, wI σ' 81 0 0) else some (0, wI (wI σ' 81 0 0) 81 0 1) := fun σ' hm => by
    rw [M_isWork (t0 σ'), (r0 _ hm) 81 4 rfl, a4]
  have mi : ∀ p σ', RM A σ' → mX12_isPerson p (wI σ' 81 0 0) = if nu p np then some (1, wI σ' 81 0 0) else some (0, wI (wI σ' 81 0 0) 81 0 1) := fun p σ' hm => by
    rw [M_isPerson (t0 σ'), (r0 _ hm) 81 3 rfl, a3]
  have ml : ∀ σ', RM A σ' → mX12_isLand p4 (wI σ' 81 0 0) = if nu p4 nl then some (1, wI σ' 81 0 0) else some (0, wI (wI σ' 81 0 0) 81 0 1) := fun σ' hm => by
    rw [M_isLand (t0 σ'), (r0 _ hm) 81 2 rfl, a2]
  have m7 : ∀ σ', RM A σ' → sI (wI σ' 81 0 0) 81 7 = Int32.ofNat nf := fun σ' hm => ((r0 _ hm) 81 7 rfl).trans a7
  have m1 : ∀ σ', RM A σ' → sI (wI σ' 81 0 0) 81 1 = Int32.ofNat nt := fun σ' hm => ((r0 _ hm) 81 1 rfl).trans a1
  by_cases g : nu p0 nw ∧ nu p1 np ∧ nu p2 np ∧ nu p4 nl
  · obtain ⟨g1, g2, g3, g4⟩ := g
    have eC : mX11_sale p0 p1 p2 p3 p4 p5 p6 σ = if p1 = p2 then mX11_sale_59 p0 p1 p2 p3 p4 p5 p6 σ else if mX11_isDay p3 σ = 0 then mX11_sale_59 p0 p1 p2 p3 p4 p5 p6 σ else if mX11_isWithin p5 1 20000000 σ = 0 then mX11_sale_59 p0 p1 p2 p3 p4 p5 p6 σ else if mX11_isWithin p6 0 3 σ = 0 then mX11_sale_59 p0 p1 p2 p3 p4 p5 p6 σ else mX11_sale_60 p0 p1 p2 p3 p4 p5 p6 1 σ := by
      unfold mX11_sale
      rw [C_needW c3 (by omega), if_pos g1, bdp_inr, C_needP c2 (by omega), if_pos g2, bdp_inr, C_needP c2 (by omega), if_pos g3, bdp_inr, C_needL c1 (by omega), if_pos g4, bdp_inr]
    by_cases G : nf < 200 ∧ ¬ p1 = p2 ∧ ¬ (p3 < 0 ∨ 36499 < p3) ∧ ¬ (p5 < 1 ∨ 20000000 < p5) ∧ ¬ (p6 < 0 ∨ 3 < p6)
    · obtain ⟨G1, G2, G3, G4, G5⟩ := G
      obtain ⟨σ1, f, i1, i2, i3⟩ := C_init (σ := σ) 2 p0 p1 p2 p3 (Int32.ofNat nt)
      have hT : sI (nwK σ 4 0) 33 0 = Int32.ofNat nt := by rw [nwK_I, if_neg (h.sz (by decide)), c0]
      have i4 := ((i2.w 10 p4).w 11 p5).w 12 p6
      have q4 := i2.2.2.1
      have q5 := C_add hz i4 c6 G1
      have e2 : mX11_sale p0 p1 p2 p3 p4 p5 p6 σ = some (.inr (Int32.ofNat nf, wI (wR (wI (wI (wI σ1 (sZ σ) 10 p4) (sZ σ) 11 p5) (sZ σ) 12 p6) 38 nf (sZ σ)) 33 11 (Int32.ofNat nf + 1))) := by
        rw [eC, if_neg G2, if_neg (fun q => G3 (C_isDay.mp q)), if_neg (fun q => G4 (C_isW.mp q)), if_neg (fun q => G5 (C_isW.mp q))]
        unfold mX11_sale_60
        rw [if_pos ((C_all c6 b7).mpr G1), if_neg i10]
        simp only [stp, Nat.reduceAdd]
        rw [hT, i1, bnd_some, if_pos q4, q5]
        rfl
      generalize hF : wI (wR (wI (wI (wI σ1 (sZ σ) 10 p4) (sZ σ) 11 p5) (sZ σ) 12 p6) 38 nf (sZ σ)) 33 11 (Int32.ofNat nf + 1) = σF at e2
      have oc : OnlyC σ σF := by rw [← hF]; exact ((i4.onC hz).wr 38 nf _).w 33 _ _ (Or.inl (by decide))
      have hm1 : RM A (wL σF 146 0 (iJ (Int32.ofNat nf))) := (h.2.2.1.onC oc).wl _ _ _
      have hm2 := r0 _ hm1
      obtain ⟨jw, jw1, jw2⟩ := nu_of (by omega) g1
      have e3 : mX12_sale p0 p1 p2 p3 p4 p5 p6 (wL σF 146 0 (iJ (Int32.ofNat nf))) = some (Int32.ofNat nf, wI (wI (wI (wI (wI (tlM (wI (wL σF 146 0 (iJ (Int32.ofNat nf))) 81 0 0) nf (Int32.ofNat nt) 2 p1 p2 p3) 98 nf p0) 103 nf p4) 104 nf p5) 105 nf p6) 91 jw 1) := by
        simp only [mX12_sale, stp]
        rw [mw _ hm1, if_pos g1, bd2_some, if_neg i10, mi p1 _ hm1, if_pos g2, bd2_some, if_neg i10, mi p2 _ hm1, if_pos g3, bd2_some, if_neg i10, ml _ hm1, if_pos g4, bd2_some, if_neg i10, if_neg (fun q => (M_all (m7 _ hm1) b7).mp q G1), if_neg G2, if_neg (fun q => G3 (M_isDay.mp q)), if_neg (fun q => G4 (Or.inl q)), if_neg (fun q => G4 (Or.inr q)), if_neg (fun q => G5 (Or.inl q)), if_pos (nlt.mp fun q => G5 (Or.inr q)), M_tells 2 p1 p2 p3 (m7 _ hm1) (m1 _ hm1) G1, bd2_some, if_pos (oI_inb (by omega) (by decide)), oI_cl (by omega), jw2, if_pos (oI_inb (by omega) (by decide)), oI_cl (by omega)]
      obtain ⟨x1, x2, x3, x4, x5, x6, x7, x8⟩ := tlA_at (A := A) (n := nf) (t := Int32.ofNat nt) (k := 2) (p := p1) (q := p2) (d := p3)
      generalize hT0' : tlA A nf (Int32.ofNat nt) 2 p1 p2 p3 = A0 at x1 x2 x3 x4 x5 x6 x7 x8
      have N : ∀ a i, ¬ ((a = 98 ∨ a = 103 ∨ a = 104 ∨ a = 105) ∧ i = nf) → ¬ (a = 91 ∧ i = jw) → up2 (up2 (up2 (up2 (up2 A0 98 nf p0) 103 nf p4) 104 nf p5) 105 nf p6) 91 jw 1 a i = A0 a i := fun a i q q2 => by
        rw [up2_ne q2, up2_ne (fun z => q ⟨by omega, z.2⟩), up2_ne (fun z => q ⟨by omega, z.2⟩), up2_ne (fun z => q ⟨by omega, z.2⟩), up2_ne (fun z => q ⟨by omega, z.2⟩)]
      have y98 : up2 (up2 (up2 (up2 (up2 A0 98 nf p0) 103 nf p4) 104 nf p5) 105 nf p6) 91 jw 1 98 nf = p0 := by rw [up2_ne (by omega), up2_ne (by omega), up2_ne (by omega), up2_ne (by omega), up2_eq, if_pos ⟨rfl, rfl⟩]
      have y103 : up2 (up2 (up2 (up2 (up2 A0 98 nf p0) 103 nf p4) 104 nf p5) 105 nf p6) 91 jw 1 103 nf = p4 := by rw [up2_ne (by omega), up2_ne (by omega), up2_ne (by omega), up2_eq, if_pos ⟨rfl, rfl⟩]
      have y104 : up2 (up2 (up2 (up2 (up2 A0 98 nf p0) 103 nf p4) 104 nf p5) 105 nf p6) 91 jw 1 104 nf = p5 := by rw [up2_ne (by omega), up2_ne (by omega), up2_eq, if_pos ⟨rfl, rfl⟩]
      have y105 : up2 (up2 (up2 (up2 (up2 A0 98 nf p0) 103 nf p4) 104 nf p5) 105 nf p6) 91 jw 1 105 nf = p6 := by rw [up2_ne (by omega), up2_eq, if_pos ⟨rfl, rfl⟩]
      have y91 : up2 (up2 (up2 (up2 (up2 A0 98 nf p0) 103 nf p4) 104 nf p5) 105 nf p6) 91 jw 1 91 jw = 1 := by rw [up2_eq, if_pos ⟨rfl, rfl⟩]
      have hm3 : RM (up2 (up2 (up2 (up2 (up2 A0 98 nf p0) 103 nf p4) 104 nf p5) 105 nf p6) 91 jw 1) (wI (wI (wI (wI (wI (tlM (wI (wL σF 146 0 (iJ (Int32.ofNat nf))) 81 0 0) nf (Int32.ofNat nt) 2 p1 p2 p3) 98 nf p0) 103 nf p4) 104 nf p5) 105 nf p6) 91 jw 1) := by
        rw [← hT0']
        exact (((((hm2.tl nf (Int32.ofNat nt) 2 p1 p2 p3).w 98 nf p0).w 103 nf p4).w 104 nf p5).w 105 nf p6).w 91 jw 1
      generalize up2 (up2 (up2 (up2 (up2 A0 98 nf p0) 103 nf p4) 104 nf p5) 105 nf p6) 91 jw 1 = A' at N y98 y103 y104 y105 y91 hm3
      have y97 : A' 97 nf = 2 := (N 97 nf (by omega) (by omega)).trans x1
      have y99 : A' 99 nf = p1 := (N 99 nf (by omega) (by omega)).trans x3
      have y100 : A' 100 nf = p2 := (N 100 nf (by omega) (by omega)).trans x4
      have y101 : A' 101 nf = p3 := (N 101 nf (by omega) (by omega)).trans x5
      have y106 : A' 106 nf = Int32.ofNat nt := (N 106 nf (by omega) (by omega)).trans x6
      have y107 : A' 107 nf = -1 := (N 107 nf (by omega) (by omega)).trans x7
      have y81 : A' 81 7 = Int32.ofNat nf + 1 := (N 81 7 (by omega) (by omega)).trans x8
      have hk81 : ∀ k, k ≠ 7 → A' 81 k = A 81 k := fun k hk => by rw [N 81 k (by omega) (by omega), ← hT0', tlA_ne (by omega) (by omega)]
      have hV : ∀ a i, 82 ≤ a → a ≠ 91 → ¬ ((97 ≤ a ∧ a ≤ 107) ∧ i = nf) → A' a i = A a i := fun a i u1 u2 u3 => by rw [N a i (by omega) (by omega), ← hT0', tlA_ne (by omega) (by omega)]
      have om : OnlyM (wL σF 146 0 (iJ (Int32.ofNat nf))) (wI (wI (wI (wI (wI (tlM (wI (wL σF 146 0 (iJ (Int32.ofNat nf))) 81 0 0) nf (Int32.ofNat nt) 2 p1 p2 p3) 98 nf p0) 103 nf p4) 104 nf p5) 105 nf p6) 91 jw 1) := ((((((OnlyM.rf.w 81 0 0 (by decide)).tl nf _ 2 p1 p2 p3).w 98 nf p0 (by decide)).w 103 nf p4 (by decide)).w 104 nf p5 (by decide)).w 105 nf p6 (by decide)).w 91 jw 1 (by decide)
      have hT4 : cT 4 A' = nf + 1 := by show (A' 81 7).toNatClampNeg = _; rw [y81, oI_s, oI_cl (by omega)]
      have hT0 : cT 0 A' = np := by show (A' 81 3).toNatClampNeg = _; rw [hk81 3 (by decide)]; exact d3
      have hT1 : cT 1 A' = nw := by show (A' 81 4).toNatClampNeg = _; rw [hk81 4 (by decide)]; exact d4
      have hln : nLs A' = nl := by show (A' 81 2).toNatClampNeg = _; rw [hk81 2 (by decide)]; exact d2
      have htn : nTn A' = nt := by show (A' 81 1).toNatClampNeg = _; rw [hk81 1 (by decide)]; exact d1
      refine ⟨0, _, Int32.ofNat nf, _, by show wr hN iJ σ (mX11_sale p0 p1 p2 p3 p4 p5 p6 σ) = _; rw [e2]; rfl, e3, rfl, fun _ => rfl, A', h.tellF i4 a7 G1 y81 hk81 hV ?_ ?_ (h.hr.tell d7 hT4 (fun a i u1 u2 u3 => hV a i (by omega) (by omega) (by omega)) (by rw [y97]; decide)) (h.sd.sale (w := jw) d7 hT4 (hT1.trans d4.symm) (fun a i u1 u2 u3 => hV a i (by omega) (by omega) (by omega)) (fun v hv => by rw [N 91 v (by omega) (by omega), ← hT0', tlA_ne (by omega) (by omega)]) y91 (by omega) y97 (y98.trans jw2) (by omega)) (by rw [hF]; exact om) hm3⟩
      · have k1 := fcv_of y106 y107 y97 y98 y99 y100 y101 (x102 := A' 102 nf) rfl y103 y104 y105 (q := p2) (d := p3) rfl rfl
        intro k hk
        rw [k1 k hk]
        have k2 := i3 k hk
        revert k hk
        refine cF4 ⟨?_, ?_, ?_, ?_, ?_, ?_, ?_, ?_, ?_, ?_, ?_, ?_, ?_⟩
        all_goals first | (intro z; exact z) | (intro _; rfl)
      · refine ⟨?_, ?_, ⟨nt, by omega, y106, Or.inl y107⟩, Or.inr (Or.inr (Or.inl ⟨y97, ?_, ?_, ?_, ?_, ?_⟩))⟩
        · rw [y99, hT0]; obtain ⟨j, j1, j2⟩ := nu_of (by omega) g2; exact ⟨j, j1, j2⟩
        · rw [y101]; exact day_in G3
        · rw [y98, hT1]; exact ⟨jw, jw1, jw2⟩
        · rw [y100, hT0]; obtain ⟨j, j1, j2⟩ := nu_of (by omega) g3; exact ⟨j, j1, j2⟩
        · rw [y103, hln]; obtain ⟨j, j1, j2⟩ := nu_of (by omega) g4; exact ⟨j, j1, j2⟩
        · obtain ⟨v, v1, v2⟩ := inR.le (m := 20000000) (v := p5) (by decide) (fun q => G4 (Or.inl (lt_trans1 q))) (fun q => G4 (Or.inr q))
          refine ⟨v, ?_, by omega, y104.trans v2⟩
          refine Nat.pos_of_ne_zero fun q => G4 (Or.inl ?_)
          rw [v2, q]; decide
        · rw [y105]; exact inR.le (m := 3) (by decide) (fun q => G5 (Or.inl q)) (fun q => G5 (Or.inr q))
    · have e2 : mX11_sale p0 p1 p2 p3 p4 p5 p6 σ = some (.inr (-1, σ)) := by
        have e59 : mX11_sale_59 p0 p1 p2 p3 p4 p5 p6 σ = some (.inr (-1, σ)) := by
          unfold mX11_sale_59 mX11_sale_60
          rw [if_pos rfl, ite_self]
        rw [eC, e59]
        by_cases G2 : p1 = p2
        · rw [if_pos G2]
        · rw [if_neg G2]
          by_cases G3 : mX11_isDay p3 σ = 0
          · rw [if_pos G3]
          · rw [if_neg G3]
            by_cases G4 : mX11_isWithin p5 1 20000000 σ = 0
            · rw [if_pos G4]
            · rw [if_neg G4]
              by_cases G5 : mX11_isWithin p6 0 3 σ = 0
              · rw [if_pos G5]
              · rw [if_neg G5]
                unfold mX11_sale_60
                rw [if_neg (fun q => G ⟨(C_all c6 b7).mp q, G2, fun z => G3 (C_isDay.mpr z), fun z => G4 (C_isW.mpr z), fun z => G5 (C_isW.mpr z)⟩)]
      have hm1 : RM A (wL σ 146 0 (iJ (-1))) := h.2.2.1.wl _ _ _
      have e3 : mX12_sale p0 p1 p2 p3 p4 p5 p6 (wL σ 146 0 (iJ (-1))) = some (-1, wI (wL σ 146 0 (iJ (-1))) 81 0 0) := by
        simp only [mX12_sale, stp]
        rw [mw _ hm1, if_pos g1, bd2_some, if_neg i10, mi p1 _ hm1, if_pos g2, bd2_some, if_neg i10, mi p2 _ hm1, if_pos g3, bd2_some, if_neg i10, ml _ hm1, if_pos g4, bd2_some, if_neg i10]
        by_cases G1 : nf < 200
        · rw [if_neg (fun q => (M_all (m7 _ hm1) b7).mp q G1)]
          by_cases G2 : p1 = p2
          · rw [if_pos G2]
          · rw [if_neg G2]
            by_cases G3 : mX12_isDay p3 (wI (wL σ 146 0 (iJ (-1))) 81 0 0) = 0
            · rw [if_pos G3]
            · rw [if_neg G3]
              by_cases G4 : p5 < 1
              · rw [if_pos G4]
              · rw [if_neg G4]
                by_cases G5 : 20000000 < p5
                · rw [if_pos G5]
                · rw [if_neg G5]
                  by_cases G6 : p6 < 0
                  · rw [if_pos G6]
                  · rw [if_neg G6, if_neg (fun G7 => G ⟨G1, G2, fun z => G3 (M_isDay.mpr z), fun z => z.elim G4 G5, fun z => z.elim G6 (fun y => nlt.mpr G7 y)⟩)]
        · rw [if_pos ((M_all (m7 _ hm1) b7).mpr G1)]
      exact op_same (σ := σ) h (by show wr hN iJ σ (mX11_sale p0 p1 p2 p3 p4 p5 p6 σ) = _; rw [e2]; rfl) e3 rfl
  · have e2 : mX11_sale p0 p1 p2 p3 p4 p5 p6 σ = some (.inl 0) := by
      unfold mX11_sale
      rw [C_needW c3 (by omega)]
      by_cases g1 : nu p0 nw
      · rw [if_pos g1, bdp_inr, C_needP c2 (by omega)]
        by_cases g2 : nu p1 np
        · rw [if_pos g2, bdp_inr, C_needP c2 (by omega)]
          by_cases g3 : nu p2 np
          · rw [if_pos g3, bdp_inr, C_needL c1 (by omega), if_neg (fun g4 => g ⟨g1, g2, g3, g4⟩)]; rfl
          · rw [if_neg g3]; rfl
        · rw [if_neg g2]; rfl
      · rw [if_neg g1]; rfl
    refine op_thr (k := 1) (b := 0) h (by decide) (by show wr hN iJ σ (mX11_sale p0 p1 p2 p3 p4 p5 p6 σ) = _; rw [e2]; rfl) ?_
    simp only [mX12_sale, stp]
    rw [mw _ h.2.2.1]
    by_cases g1 : nu p0 nw
    · rw [if_pos g1, bd2_some, if_neg i10, mi p1 _ h.2.2.1]
      by_cases g2 : nu p1 np
      · rw [if_pos g2, bd2_some, if_neg i10, mi p2 _ h.2.2.1]
        by_cases g3 : nu p2 np
        · rw [if_pos g3, bd2_some, if_neg i10, ml _ h.2.2.1, if_neg (fun g4 => g ⟨g1, g2, g3, g4⟩)]; rfl
        · rw [if_neg g3]; rfl
      · rw [if_neg g2]; rfl
    · rw [if_neg g1]; rfl
