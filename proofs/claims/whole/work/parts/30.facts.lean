/-! death, sale, fact, heir -/
theorem notmost {n m : Nat} (hn : n < m) (hm : m < 2147483648) : ¬ Int32.ofNat n = Int32.ofNat m := fun q => absurd ((oI_eq (by omega) hm).mp q) (by omega)
theorem C_all {σ : Sto} {n : Nat} (hc : sI σ 33 11 = Int32.ofNat n) (hn : n ≤ 200) : (mX1_hasAllFacts σ = 0) ↔ n < 200 := by
  unfold mX1_hasAllFacts
  have key : Int32.ofNat n < 200 ↔ n < 200 := oI_lt (n := 200) (by omega) (by decide)
  rw [hc]
  by_cases c : n < 200
  · rw [if_pos (key.mpr c)]; exact ⟨fun _ => c, fun _ => rfl⟩
  · rw [if_neg (fun q => c (key.mp q))]; exact ⟨(fun q => by cases q), fun q => absurd q c⟩
theorem M_all {v : Int32} {n : Nat} (hv : v = Int32.ofNat n) (hn : n ≤ 200) : (v = 200) ↔ ¬ n < 200 := by
  rw [hv]
  constructor
  · intro q r; exact notmost (m := 200) r (by decide) q
  · intro q; rw [show n = 200 by omega]; rfl
theorem day_in {p : Int32} (h : ¬ (p < 0 ∨ 36499 < p)) : inR p 36500 := inR.le (m := 36499) (by decide) (fun q => h (Or.inl q)) (fun q => h (Or.inr q))
theorem inR.nat {v : Int32} {n : Nat} (h : inR v n) (hn : n < 2147483648) : v.toNatClampNeg < n ∧ v = Int32.ofNat v.toNatClampNeg := by
  obtain ⟨j, j1, j2⟩ := h
  rw [j2, oI_cl (by omega)]
  exact ⟨j1, rfl⟩
set_option maxHeartbeats 4000000 in
theorem op_death (p0 p1 p2 : Int32) : OpOK (mL_death p0 p1 p2) (mX12_death p0 p1 p2) iJ := by
  intro A σ h
  obtain ⟨nt, nl, np, nw, ns, nr, nf, nc, nL, ⟨b1, b2, b3, b4, b5, b6, b7, b8, b9⟩, ⟨a1, a2, a3, a4, a5, a6, a7, a8, a9⟩, ⟨c0, c1, c2, c3, c4, c5, c6, c7, c8⟩, ⟨d1, d2, d3, d4, d5, d6, d7, d8, d9⟩⟩ := h.nums
  have hz := h.2.1
  have t0 : ∀ σ' : Sto, sI (wI σ' 81 0 0) 81 0 = 0 := fun _ => rfl
  have r0 : ∀ σ', RM A σ' → RM A (wI σ' 81 0 0) := fun σ' hm => hm.np 81 0 0 rfl
  have mi : ∀ σ', RM A σ' → mX12_isPerson p0 (wI σ' 81 0 0) = if nu p0 np then some (1, wI σ' 81 0 0) else some (0, wI (wI σ' 81 0 0) 81 0 1) := fun σ' hm => by
    rw [M_isPerson (t0 σ'), (r0 _ hm) 81 3 rfl, a3]
  have m7 : ∀ σ', RM A σ' → sI (wI σ' 81 0 0) 81 7 = Int32.ofNat nf := fun σ' hm => ((r0 _ hm) 81 7 rfl).trans a7
  have m1 : ∀ σ', RM A σ' → sI (wI σ' 81 0 0) 81 1 = Int32.ofNat nt := fun σ' hm => ((r0 _ hm) 81 1 rfl).trans a1
  by_cases g1 : nu p0 np
  · by_cases G : nf < 200 ∧ ¬ (p1 < 0 ∨ 36499 < p1) ∧ ¬ (p2 < 0 ∨ 36499 < p2) ∧ p1 ≤ p2
    · obtain ⟨G1, G2, G3, G4⟩ := G
      obtain ⟨σ1, f, i1, i2, i3⟩ := C_init (σ := σ) 0 (-1) p0 (-1) p1 (Int32.ofNat nt)
      have hT : sI (nwK σ 4 0) 33 0 = Int32.ofNat nt := by rw [nwK_I, if_neg (h.sz (by decide)), c0]
      have q1 := (C_all c6 b7).mpr G1
      have q2 : ¬ mX11_isDay p1 σ = 0 := fun q => G2 (C_isDay.mp q)
      have q3 : ¬ mX11_isDay p2 σ = 0 := fun q => G3 (C_isDay.mp q)
      have i4 := i2.w 7 p2
      have q4 := i2.2.2.1
      have q5 := C_add hz i4 c6 G1
      have e2 : mX11_death p0 p1 p2 σ = some (.inr (Int32.ofNat nf, wI (wR (wI σ1 (sZ σ) 7 p2) 38 nf (sZ σ)) 33 11 (Int32.ofNat nf + 1))) := by
        unfold mX11_death
        rw [C_needP c2 (by omega), if_pos g1, bdp_inr, if_pos q1, if_neg q2, if_neg q3, if_pos G4]
        simp only [stp, Nat.reduceAdd]
        rw [hT, i1, bnd_some, if_pos q4, q5]
        rfl
      generalize hF : wI (wR (wI σ1 (sZ σ) 7 p2) 38 nf (sZ σ)) 33 11 (Int32.ofNat nf + 1) = σF at e2
      have oc : OnlyC σ σF := by rw [← hF]; exact ((i4.onC hz).wr 38 nf _).w 33 _ _ (Or.inl (by decide))
      have hm1 : RM A (wL σF 146 0 (iJ (Int32.ofNat nf))) := (h.2.2.1.onC oc).wl _ _ _
      have hm2 := r0 _ hm1
      have q6 : ¬ sI (wI (wL σF 146 0 (iJ (Int32.ofNat nf))) 81 0 0) 81 7 = 200 := fun q => (M_all (m7 _ hm1) b7).mp q G1
      have q7 : ¬ mX12_isDay p1 (wI (wL σF 146 0 (iJ (Int32.ofNat nf))) 81 0 0) = 0 := fun q => G2 (M_isDay.mp q)
      have q8 : ¬ mX12_isDay p2 (wI (wL σF 146 0 (iJ (Int32.ofNat nf))) 81 0 0) = 0 := fun q => G3 (M_isDay.mp q)
      have e3 : mX12_death p0 p1 p2 (wL σF 146 0 (iJ (Int32.ofNat nf))) = some (Int32.ofNat nf, wI (tlM (wI (wL σF 146 0 (iJ (Int32.ofNat nf))) 81 0 0) nf (Int32.ofNat nt) 0 p0 (-1) p1) 102 nf p2) := by
        simp only [mX12_death, stp]
        rw [mi _ hm1, if_pos g1, bd2_some, if_neg i10, if_neg q6, if_neg q7, if_neg q8, if_pos G4, M_tells 0 p0 (-1) p1 (m7 _ hm1) (m1 _ hm1) G1, bd2_some, if_pos (oI_inb (by omega) (by decide)), oI_cl (by omega)]
      obtain ⟨x1, x2, x3, x4, x5, x6, x7, x8⟩ := tlA_at (A := A) (n := nf) (t := Int32.ofNat nt) (k := 0) (p := p0) (q := -1) (d := p1)
      have N : ∀ a i, ¬ (a = 102 ∧ i = nf) → up2 (tlA A nf (Int32.ofNat nt) 0 p0 (-1) p1) 102 nf p2 a i = tlA A nf (Int32.ofNat nt) 0 p0 (-1) p1 a i := fun a i q => up2_ne q
      generalize hA' : up2 (tlA A nf (Int32.ofNat nt) 0 p0 (-1) p1) 102 nf p2 = A' at N
      have y97 : A' 97 nf = 0 := (N 97 nf (by omega)).trans x1
      have y98 : A' 98 nf = -1 := (N 98 nf (by omega)).trans x2
      have y99 : A' 99 nf = p0 := (N 99 nf (by omega)).trans x3
      have y100 : A' 100 nf = -1 := (N 100 nf (by omega)).trans x4
      have y101 : A' 101 nf = p1 := (N 101 nf (by omega)).trans x5
      have y106 : A' 106 nf = Int32.ofNat nt := (N 106 nf (by omega)).trans x6
      have y107 : A' 107 nf = -1 := (N 107 nf (by omega)).trans x7
      have y102 : A' 102 nf = p2 := by rw [← hA', up2_eq, if_pos ⟨rfl, rfl⟩]
      have y81 : A' 81 7 = Int32.ofNat nf + 1 := (N 81 7 (by omega)).trans x8
      have hk81 : ∀ k, k ≠ 7 → A' 81 k = A 81 k := fun k hk => by rw [N 81 k (by omega), tlA_ne (by omega) (by omega)]
      have hV : ∀ a i, 82 ≤ a → a ≠ 91 → ¬ ((97 ≤ a ∧ a ≤ 107) ∧ i = nf) → A' a i = A a i := fun a i u1 u2 u3 => by rw [N a i (by omega), tlA_ne (by omega) (by omega)]
      have hm3 : RM A' (wI (tlM (wI (wL σF 146 0 (iJ (Int32.ofNat nf))) 81 0 0) nf (Int32.ofNat nt) 0 p0 (-1) p1) 102 nf p2) := by rw [← hA']; exact (hm2.tl nf (Int32.ofNat nt) 0 p0 (-1) p1).w 102 nf p2
      have om : OnlyM (wL σF 146 0 (iJ (Int32.ofNat nf))) (wI (tlM (wI (wL σF 146 0 (iJ (Int32.ofNat nf))) 81 0 0) nf (Int32.ofNat nt) 0 p0 (-1) p1) 102 nf p2) := ((OnlyM.rf.w 81 0 0 (by decide)).tl nf _ 0 p0 (-1) p1).w 102 nf p2 (by decide)
      have hT4 : cT 4 A' = nf + 1 := by show (A' 81 7).toNatClampNeg = _; rw [y81, oI_s, oI_cl (by omega)]
      have hT0 : cT 0 A' = np := by show (A' 81 3).toNatClampNeg = _; rw [hk81 3 (by decide)]; exact d3
      have htn : nTn A' = nt := by show (A' 81 1).toNatClampNeg = _; rw [hk81 1 (by decide)]; exact d1
      refine ⟨0, _, Int32.ofNat nf, _, by show wr hN iJ σ (mX11_death p0 p1 p2 σ) = _; rw [e2]; rfl, e3, rfl, fun _ => rfl, A', h.tellF i4 a7 G1 y81 hk81 hV ?_ ?_ (h.hr.tell d7 hT4 (fun a i u1 u2 u3 => hV a i (by omega) (by omega) (by omega)) (by rw [y97]; decide)) (h.sd.tell d7 hT4 (by unfold cT; rw [hk81 _ (by decide)]) (fun a i u1 u2 u3 => hV a i (by omega) (by omega) (by omega)) (fun w => by rw [N 91 w (by omega), tlA_ne (by omega) (by omega)]) (by rw [y97]; decide)) (by rw [hF]; exact om) hm3⟩
      · have k1 := fcv_of y106 y107 y97 y98 y99 y100 y101 y102 (x103 := A' 103 nf) (x104 := A' 104 nf) (x105 := A' 105 nf) rfl rfl rfl (q := -1) (d := p1) rfl rfl
        intro k hk
        rw [k1 k hk]
        have k2 := i3 k hk
        revert k hk
        refine cF4 ⟨?_, ?_, ?_, ?_, ?_, ?_, ?_, ?_, ?_, ?_, ?_, ?_, ?_⟩
        all_goals first | (intro z; exact z) | (intro _; rfl)
      · refine ⟨?_, ?_, ⟨nt, by omega, y106, Or.inl y107⟩, Or.inl ⟨y97, y98, y100, ?_⟩⟩
        · rw [y99, hT0]; obtain ⟨j, j1, j2⟩ := nu_of (by omega) g1; exact ⟨j, j1, j2⟩
        · rw [y101]; exact day_in G2
        · obtain ⟨d, e1', e2'⟩ := day_in G2
          obtain ⟨e, f1, f2⟩ := day_in G3
          refine ⟨d, e, ?_, f1, y101.trans e2', y102.trans f2⟩
          rw [e2', f2] at G4
          exact (oI_le (by omega) (by omega)).mp G4
    · have e2 : mX11_death p0 p1 p2 σ = some (.inr (-1, σ)) := by
        unfold mX11_death
        rw [C_needP c2 (by omega), if_pos g1, bdp_inr]
        by_cases G1 : nf < 200
        · rw [if_pos ((C_all c6 b7).mpr G1)]
          by_cases G2 : mX11_isDay p1 σ = 0
          · rw [if_pos G2]
          · rw [if_neg G2]
            by_cases G3 : mX11_isDay p2 σ = 0
            · rw [if_pos G3]
            · rw [if_neg G3, if_neg (fun G4 => G ⟨G1, fun z => G2 (C_isDay.mpr z), fun z => G3 (C_isDay.mpr z), G4⟩)]
        · rw [if_neg (fun q => G1 ((C_all c6 b7).mp q))]
      have hm1 : RM A (wL σ 146 0 (iJ (-1))) := h.2.2.1.wl _ _ _
      have e3 : mX12_death p0 p1 p2 (wL σ 146 0 (iJ (-1))) = some (-1, wI (wL σ 146 0 (iJ (-1))) 81 0 0) := by
        simp only [mX12_death, stp]
        rw [mi _ hm1, if_pos g1, bd2_some, if_neg i10]
        by_cases G1 : nf < 200
        · rw [if_neg (fun q => (M_all (m7 _ hm1) b7).mp q G1)]
          by_cases G2 : mX12_isDay p1 (wI (wL σ 146 0 (iJ (-1))) 81 0 0) = 0
          · rw [if_pos G2]
          · rw [if_neg G2]
            by_cases G3 : mX12_isDay p2 (wI (wL σ 146 0 (iJ (-1))) 81 0 0) = 0
            · rw [if_pos G3]
            · rw [if_neg G3, if_neg (fun G4 => G ⟨G1, fun z => G2 (M_isDay.mpr z), fun z => G3 (M_isDay.mpr z), G4⟩)]
        · rw [if_pos ((M_all (m7 _ hm1) b7).mpr G1)]
      exact op_same (σ := σ) h (by show wr hN iJ σ (mX11_death p0 p1 p2 σ) = _; rw [e2]; rfl) e3 rfl
  · have e2 : mX11_death p0 p1 p2 σ = some (.inl 0) := by
      unfold mX11_death
      rw [C_needP c2 (by omega), if_neg g1]; rfl
    refine op_thr (k := 1) (b := 0) h (by decide) (by show wr hN iJ σ (mX11_death p0 p1 p2 σ) = _; rw [e2]; rfl) ?_
    simp only [mX12_death, stp]
    rw [mi _ h.2.2.1, if_neg g1]
    rfl
