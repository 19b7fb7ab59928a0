theorem heir_kind {A : Ab} (hr : IRow A) {i : Nat} (hi : i < cT 4 A) (hk : A 97 i = 1) : inR (A 100 i) (cT 0 A) ∧ A 99 i ≠ A 100 i ∧ ∃ p q, 1 ≤ p ∧ p ≤ q ∧ q ≤ 12 ∧ A 104 i = Int32.ofNat p ∧ A 105 i = Int32.ofNat q := by
  have h := (hr 4 (by decide) i hi).2.2.2
  rw [hk] at h
  rcases h with h | h | h | h | h | h
  · exact absurd h.1 (by decide)
  · exact ⟨h.2.2.1, h.2.2.2.1, h.2.2.2.2⟩
  · exact absurd h.1 (by decide)
  · exact absurd h.1 (by decide)
  · exact absurd h.1 (by decide)
  · exact absurd h.1 (by decide)
theorem heir_term {p q : Nat} (hp : p ≤ q) (hq1 : 1 ≤ q) (hq : q ≤ 12) : (27720 : Int32) / Int32.ofNat q * Int32.ofNat p = Int32.ofNat (27720 / q * p) := by
  show Int32.ofNat 27720 / Int32.ofNat q * Int32.ofNat p = _
  rw [oI_div (by decide) (by omega), oI_mul]
theorem isHeir_iff {A : Ab} {p k i : Nat} : isHeir A p k i = true ↔ A 97 i = 1 ∧ A 99 i = Int32.ofNat p ∧ knB A i k = true := by
  unfold isHeir
  rw [Bool.and_eq_true, Bool.and_eq_true, beq_iff_eq, beq_iff_eq, and_assoc]
theorem heirS_s {A : Ab} {p k n : Nat} : heirS A p k (n + 1) = heirS A p k n + if isHeir A p k n then heirQ A n else 0 := rfl
theorem C_inh {A : Ab} {σ : Sto} (h : CB A σ) {p : Nat} {acc : Int32} : ∀ m i fuel, i + m = cT 4 A → m < fuel → mX1_inheritedOf_4 fuel (Int32.ofNat p) (acc + Int32.ofNat (heirS A p (nTn A) i)) (Int32.ofNat i) σ = some (acc + Int32.ofNat (heirS A p (nTn A) (cT 4 A))) := by
  have hl : cT 4 A ≤ 200 := (h.1.le (c := 4) (by decide)).1
  have hn : sI σ 33 11 = Int32.ofNat (cT 4 A) := h.num (c := 4) (by decide)
  intro m
  induction m with
  | zero =>
    intro i fuel hi hf
    obtain ⟨n, rfl⟩ : ∃ n, fuel = n + 1 := ⟨fuel - 1, by omega⟩
    have e : i = cT 4 A := by omega
    subst e
    show mX1_inheritedOf_4B (mX1_inheritedOf_4 n) _ _ _ σ = _
    unfold mX1_inheritedOf_4B
    rw [hn, if_pos ((oI_le (by omega) (by omega)).mpr (Nat.le_refl _))]
  | succ m ih =>
    intro i fuel hi hf
    obtain ⟨n, rfl⟩ : ∃ n, fuel = n + 1 := ⟨fuel - 1, by omega⟩
    have hi2 : i < cT 4 A := by omega
    show mX1_inheritedOf_4B (mX1_inheritedOf_4 n) _ _ _ σ = _
    unfold mX1_inheritedOf_4B
    obtain ⟨k0, f0, f2, f3, f4, f5, f6, f7, f8, f9, -⟩ := h.fa hi2
    rw [hn, if_neg (fun q => absurd ((oI_le (by omega) (by omega)).mp q) (by omega)), h.at4 hi2, bnd_some, if_pos k0, f2]
    have nxt : isHeir A p (nTn A) i = false → mX1_inheritedOf_4 n (Int32.ofNat p) (acc + Int32.ofNat (heirS A p (nTn A) i)) (Int32.ofNat i + 1) σ = some (acc + Int32.ofNat (heirS A p (nTn A) (cT 4 A))) := fun hf => by
      have g := ih (i + 1) n (by omega) (by omega)
      rw [heirS_s, hf] at g
      rw [oI_s]
      exact g
    by_cases c1 : A 97 i = 1
    · rw [if_pos c1, f4]
      by_cases c2 : A 99 i = Int32.ofNat p
      · rw [if_pos c2, h.tn, h.known hi2 h.1.tn.1, bnd_some]
        cases c3 : knB A i (nTn A) with
        | false =>
          rw [if_pos (by decide)]
          exact nxt (by cases e : isHeir A p (nTn A) i with | false => rfl | true => rw [(isHeir_iff.mp e).2.2] at c3; cases c3)
        | true =>
          obtain ⟨-, -, pp, qq, u1, u2, u3, u4, u5⟩ := heir_kind h.2.2.2.2.2.1 hi2 c1
          have hq : ¬ Int32.ofNat qq = 0 := fun q => absurd ((oI_eq (n := 0) (by omega) (by decide)).mp q) (by omega)
          have e8 : mX11_twelfths (sI σ (sR σ 38 i) 8) (sI σ (sR σ 38 i) 9) σ = some (Int32.ofNat (heirQ A i)) := by
            have hq1 : (1 : Int32) ≤ Int32.ofNat qq := (oI_le (j := 1) (by decide) (by omega)).mpr (by omega)
            unfold mX11_twelfths
            rw [f8, f9, if_pos c1, if_pos c1, u4, u5, if_pos hq1, if_pos hq, heir_term u2 (by omega) u3]
            unfold heirQ
            rw [u4, u5, oI_cl (by omega), oI_cl (by omega)]
          rw [if_pos rfl, if_neg (by decide), e8, bnd_some]
          have e : isHeir A p (nTn A) i = true := isHeir_iff.mpr ⟨c1, c2, c3⟩
          have g := ih (i + 1) n (by omega) (by omega)
          rw [heirS_s, e, if_pos rfl, ← oI_add, ← Int32.add_assoc] at g
          rw [oI_s]
          exact g
      · rw [if_neg c2]
        exact nxt (by cases e : isHeir A p (nTn A) i with | false => rfl | true => exact absurd (isHeir_iff.mp e).2.1 c2)
    · rw [if_neg c1]
      exact nxt (by cases e : isHeir A p (nTn A) i with | false => rfl | true => exact absurd (isHeir_iff.mp e).1 c1)
theorem M_inh {A : Ab} {σ : Sto} (hB : IB A) (hr : IRow A) (hm : RM A σ) {p : Nat} {p1 p2 p3 acc : Int32} : ∀ m i fuel, i + m = cT 4 A → m < fuel → mX12_heir_77 fuel (Int32.ofNat p) p1 p2 p3 (acc + Int32.ofNat (heirS A p (nTn A) i)) (Int32.ofNat i) σ = mX12_heir_77 1 (Int32.ofNat p) p1 p2 p3 (acc + Int32.ofNat (heirS A p (nTn A) (cT 4 A))) (Int32.ofNat (cT 4 A)) σ := by
  have hl : cT 4 A ≤ 200 := (hB.le (c := 4) (by decide)).1
  have hn : sI σ 81 7 = Int32.ofNat (cT 4 A) := (hm 81 7 rfl).trans (hB.le (c := 4) (by decide)).2
  have ht : sI σ 81 1 = Int32.ofNat (nTn A) := (hm 81 1 rfl).trans hB.tn.2
  intro m
  induction m with
  | zero =>
    intro i fuel hi hf
    obtain ⟨n, rfl⟩ : ∃ n, fuel = n + 1 := ⟨fuel - 1, by omega⟩
    have e : i = cT 4 A := by omega
    subst e
    show mX12_heir_77B (mX12_heir_77 n) _ _ _ _ _ _ σ = mX12_heir_77B (mX12_heir_77 0) _ _ _ _ _ _ σ
    unfold mX12_heir_77B
    have g : sI σ 81 7 ≤ Int32.ofNat (cT 4 A) := by rw [hn]; exact (oI_le (by omega) (by omega)).mpr (Nat.le_refl _)
    rw [if_pos g, if_pos g]
  | succ m ih =>
    intro i fuel hi hf
    obtain ⟨n, rfl⟩ : ∃ n, fuel = n + 1 := ⟨fuel - 1, by omega⟩
    have hi2 : i < cT 4 A := by omega
    refine Eq.trans (b := mX12_heir_77B (mX12_heir_77 n) (Int32.ofNat p) p1 p2 p3 (acc + Int32.ofNat (heirS A p (nTn A) i)) (Int32.ofNat i) σ) rfl ?_
    unfold mX12_heir_77B
    have f97 := hm 97 i rfl
    have f99 := hm 99 i rfl
    have f104 := hm 104 i rfl
    have f105 := hm 105 i rfl
    rw [hn, if_neg (fun q => absurd ((oI_le (by omega) (by omega)).mp q) (by omega)), if_pos (oI_inb (by omega) (by decide)), oI_cl (by omega), f97, f99, f104, f105]
    have nxt : isHeir A p (nTn A) i = false → mX12_heir_77 n (Int32.ofNat p) p1 p2 p3 (acc + Int32.ofNat (heirS A p (nTn A) i)) (Int32.ofNat i + 1) σ = mX12_heir_77 1 (Int32.ofNat p) p1 p2 p3 (acc + Int32.ofNat (heirS A p (nTn A) (cT 4 A))) (Int32.ofNat (cT 4 A)) σ := fun hf => by
      have g := ih (i + 1) n (by omega) (by omega)
      rw [heirS_s, hf] at g
      rw [oI_s]
      exact g
    by_cases c1 : A 97 i = 1
    · rw [if_pos c1]
      by_cases c2 : A 99 i = Int32.ofNat p
      · rw [if_pos c2, ht, M_known hB hr hm hi2 hB.tn.1, bnd_some]
        cases c3 : knB A i (nTn A) with
        | false =>
          rw [if_pos (by decide)]
          exact nxt (by cases e : isHeir A p (nTn A) i with | false => rfl | true => rw [(isHeir_iff.mp e).2.2] at c3; cases c3)
        | true =>
          obtain ⟨-, -, pp, qq, u1, u2, u3, u4, u5⟩ := heir_kind hr hi2 c1
          have hq : ¬ Int32.ofNat qq = 0 := fun q => absurd ((oI_eq (n := 0) (by omega) (by decide)).mp q) (by omega)
          have eQ : (27720 : Int32) / A 105 i * A 104 i = Int32.ofNat (heirQ A i) := by
            unfold heirQ
            rw [u4, u5, oI_cl (by omega), oI_cl (by omega), heir_term u2 (by omega) u3]
          rw [if_pos rfl, if_neg (by decide), if_pos (by rw [u5]; exact hq), eQ]
          have e : isHeir A p (nTn A) i = true := isHeir_iff.mpr ⟨c1, c2, c3⟩
          have g := ih (i + 1) n (by omega) (by omega)
          rw [heirS_s, e, if_pos rfl, ← oI_add, ← Int32.add_assoc] at g
          rw [oI_s]
          exact g
      · rw [if_neg c2]
        exact nxt (by cases e : isHeir A p (nTn A) i with | false => rfl | true => exact absurd (isHeir_iff.mp e).2.1 c2)
    · rw [if_neg c1]
      exact nxt (by cases e : isHeir A p (nTn A) i with | false => rfl | true => exact absurd (isHeir_iff.mp e).1 c1)
/-- what is known later of what was told is known tonight -/
theorem heirS_le {A : Ab} (hB : IB A) (hr : IRow A) {p k : Nat} (hk : nTn A ≤ k) : ∀ n, n ≤ cT 4 A → heirS A p k n ≤ heirS A p (nTn A) n
  | 0, _ => Nat.le_refl _
  | n + 1, hn => by
    have h0 := heirS_le hB hr (p := p) hk n (by omega)
    rw [heirS_s, heirS_s]
    by_cases e : isHeir A p k n = true
    · have e2 : isHeir A p (nTn A) n = true := by
        obtain ⟨e3, e4, e5⟩ := isHeir_iff.mp e
        refine isHeir_iff.mpr ⟨e3, e4, ?_⟩
        obtain ⟨t, t1, t2, t3⟩ := told_of hr (show n < cT 4 A by omega)
        have h9 := hB.tn.1
        unfold knB at e5 ⊢
        rw [Bool.and_eq_true, Bool.or_eq_true, decide_eq_true_eq, decide_eq_true_eq, beq_iff_eq] at e5 ⊢
        refine ⟨by rw [t2, oI_cl (by omega)]; exact t1, e5.2.imp id fun z => by omega⟩
      rw [if_pos e, if_pos e2]
      omega
    · rw [if_neg e]
      omega
theorem heirS_p {A : Ab} {p p' k : Nat} (h : Int32.ofNat p = Int32.ofNat p') : ∀ n, heirS A p k n = heirS A p' k n
  | 0 => rfl
  | n + 1 => by
    have e : isHeir A p k n = isHeir A p' k n := by unfold isHeir; rw [h]
    rw [heirS_s, heirS_s, heirS_p h n, e]
theorem IHeir.add {A A' : Ab} {n j : Nat} (h : IHeir A) (hB : IB A) (hr : IRow A) (hT : cT 4 A = n) (hT' : cT 4 A' = n + 1) (hA : ∀ a i, 97 ≤ a → a ≤ 107 → i < n → A' a i = A a i) (h99 : A' 99 n = Int32.ofNat j) (h106 : A' 106 n = Int32.ofNat (nTn A)) (hs : heirS A j (nTn A) n + heirQ A' n ≤ 27720) : IHeir A' := fun p k => by
  have hp := h p k
  rw [hT'] 
  show heirS A' p k n + (if isHeir A' p k n then heirQ A' n else 0) ≤ _
  rw [heirS_congr n hA]
  rw [hT] at hp
  by_cases e : isHeir A' p k n = true
  · obtain ⟨e1, e2, e3⟩ := isHeir_iff.mp e
    rw [if_pos e]
    have h9 := hB.tn.1
    have hk : nTn A ≤ k := by
      unfold knB at e3
      rw [Bool.and_eq_true, decide_eq_true_eq, h106, oI_cl (by omega)] at e3
      exact e3.1
    have l1 := heirS_le hB hr (p := p) hk n (by omega)
    have l2 := heirS_p (A := A) (k := nTn A) (e2.symm.trans h99) n
    omega
  · rw [if_neg e]
    omega
set_option maxHeartbeats 4000000 in
theorem op_heir (p0 p1 p2 p3 : Int32) : OpOK (mL_heir p0 p1 p2 p3) (mX12_heir p0 p1 p2 p3) iJ := by
  intro A σ h
  obtain ⟨nt, nl, np, nw, ns, nr, nf, nc, nL, ⟨b1, b2, b3, b4, b5, b6, b7, b8, b9⟩, ⟨a1, a2, a3, a4, a5, a6, a7, a8, a9⟩, ⟨c0, c1, c2, c3, c4, c5, c6, c7, c8⟩, ⟨d1, d2, d3, d4, d5, d6, d7, d8, d9⟩⟩ := h.nums
  have hz := h.2.1
  have t0 : ∀ σ' : Sto, sI (wI σ' 81 0 0) 81 0 = 0 := fun _ => rfl
  have r0 : ∀ σ', RM A σ' → RM A (wI σ' 81 0 0) := fun σ' hm => hm.np 81 0 0 rfl
  have mi : ∀ p σ', RM A σ' → mX12_isPerson p (wI σ' 81 0 0) = if nu p np then some (1, wI σ' 81 0 0) else some (0, wI (wI σ' 81 0 0) 81 0 1) := fun p σ' hm => by
    rw [M_isPerson (t0 σ'), (r0 _ hm) 81 3 rfl, a3]
  have m7 : ∀ σ', RM A σ' → sI (wI σ' 81 0 0) 81 7 = Int32.ofNat nf := fun σ' hm => ((r0 _ hm) 81 7 rfl).trans a7
  have m1 : ∀ σ', RM A σ' → sI (wI σ' 81 0 0) 81 1 = Int32.ofNat nt := fun σ' hm => ((r0 _ hm) 81 1 rfl).trans a1
  by_cases g : nu p0 np ∧ nu p1 np
  · obtain ⟨g1, g2⟩ := g
    obtain ⟨jp, jp1, jp2⟩ := nu_of (by omega) g1
    by_cases G : nf < 200 ∧ ¬ p0 = p1 ∧ ¬ (p3 < 1 ∨ 12 < p3) ∧ ¬ (p2 < 1 ∨ p3 < p2)
    · obtain ⟨G1, G2, G3, G4⟩ := G
      obtain ⟨qq, qq1, qq2⟩ := inR.le (m := 12) (v := p3) (by decide) (fun q => G3 (Or.inl (lt_trans1 q))) (fun q => G3 (Or.inr q))
      have qq3 : 1 ≤ qq := Nat.pos_of_ne_zero fun q => G3 (Or.inl (by rw [qq2, q]; decide))
      obtain ⟨pp, pp1, pp2⟩ := inR.le (m := qq) (v := p2) (by omega) (fun q => G4 (Or.inl (lt_trans1 q))) (fun q => G4 (Or.inr (by rw [qq2]; exact q)))
      have pp3 : 1 ≤ pp := Nat.pos_of_ne_zero fun q => G4 (Or.inl (by rw [pp2, q]; decide))
      have hterm : (27720 : Int32) / p3 * p2 = Int32.ofNat (27720 / qq * pp) := by rw [qq2, pp2]; exact heir_term (by omega) qq3 (by omega)
      have hQ : 27720 / qq * pp ≤ 27720 := Nat.le_trans (Nat.mul_le_mul_left _ (show pp ≤ qq by omega)) (Nat.div_mul_le_self _ _)
      have hH := h.hr jp nt
      rw [d7] at hH
      have hq0 : ¬ p3 = 0 := fun q => G3 (Or.inl (by rw [q]; decide))
      have q3a : (1 : Int32) ≤ p3 := nlt.mp fun q => G3 (Or.inl q)
      have I1 : mX1_inheritedOf p0 σ = some (Int32.ofNat (heirS A jp nt nf)) := by
        have g := C_inh h.cb (p := jp) (acc := 0) nf 0 FU (by omega) (show nf < 5000 by omega)
        rw [d7, d1, Int32.zero_add, Int32.zero_add] at g
        rw [jp2]
        exact g
      have I2 : mX11_twelfths p2 p3 σ = some (Int32.ofNat (27720 / qq * pp)) := by
        unfold mX11_twelfths
        rw [if_pos q3a, if_pos hq0, hterm]
      have eC : mX11_heir p0 p1 p2 p3 σ = if Int32.ofNat (heirS A jp nt nf) + Int32.ofNat (27720 / qq * pp) ≤ 27720 then (
            stp (nwK σ 4 0) fun σ13 =>
            (mX3_init (sZ σ) (1 : Int32) (-1 : Int32) p0 p1 (-1 : Int32) (sI σ13 33 0) σ13).bind fun σ15 =>
            if sK σ15 (sZ σ) = 4 then
            stp (wI σ15 (sZ σ) 8 p2) fun σ17 =>
            stp (wI σ17 (sZ σ) 9 p3) fun σ19 =>
            bd2 (mX1_addFact (sZ σ) σ19) fun v21 σ21 =>
            some (.inr (v21, σ21))
            else none) else some (.inr (-1, σ)) := by
        unfold mX11_heir
        rw [C_needP c2 (by omega), if_pos g1, bdp_inr, C_needP c2 (by omega), if_pos g2, bdp_inr, if_pos ((C_all c6 b7).mpr G1), if_neg G2, if_neg (fun q => G3 (C_isW.mp q)), if_neg (fun q => G4 (C_isW.mp q)), I1, bnd_some, I2, bnd_some]
      have eM : ∀ σ', RM A σ' → mX12_heir p0 p1 p2 p3 σ' = mX12_heir_77 1 p0 p1 p2 p3 (Int32.ofNat (27720 / qq * pp) + Int32.ofNat (heirS A jp nt nf)) (Int32.ofNat nf) (wI σ' 81 0 0) := fun σ' hm => by
        have g := M_inh h.1 h.row (r0 _ hm) (p := jp) (p1 := p1) (p2 := p2) (p3 := p3) (acc := Int32.ofNat (27720 / qq * pp)) nf 0 FU (by omega) (show nf < 5000 by omega)
        rw [d7, d1, ← jp2] at g
        simp only [mX12_heir, stp]
        rw [mi p0 _ hm, if_pos g1, bd2_some, if_neg i10, mi p1 _ hm, if_pos g2, bd2_some, if_neg i10, if_neg (fun q => (M_all (m7 _ hm) b7).mp q G1), if_neg (fun q => G3 (Or.inl q)), if_neg (fun q => G3 (Or.inr q)), if_neg (fun q => G4 (Or.inl q)), if_neg (fun q => G4 (Or.inr q)), if_neg G2, if_pos hq0, hterm, ← g]
        rw [show heirS A jp nt 0 = 0 from rfl, show Int32.ofNat 0 = 0 from rfl, Int32.add_zero]
      have le1 : (Int32.ofNat (heirS A jp nt nf) + Int32.ofNat (27720 / qq * pp) ≤ 27720) ↔ heirS A jp nt nf + 27720 / qq * pp ≤ 27720 := by
        rw [oI_add]; exact oI_le (n := 27720) (by omega) (by decide)
      have le2 : (Int32.ofNat (27720 / qq * pp) + Int32.ofNat (heirS A jp nt nf) ≤ 27720) ↔ heirS A jp nt nf + 27720 / qq * pp ≤ 27720 := by
        rw [Int32.add_comm]; exact le1
      have hfin : ∀ σ', RM A σ' → ¬ sI (wI σ' 81 0 0) 81 7 ≤ Int32.ofNat nf → False := fun σ' hm q => q (by rw [m7 _ hm]; exact (oI_le (by omega) (by omega)).mpr (Nat.le_refl _))
      have eM2 : ∀ σ', RM A σ' → mX12_heir p0 p1 p2 p3 σ' = if heirS A jp nt nf + 27720 / qq * pp ≤ 27720 then (
            bd2 (mX12_tells (1 : Int32) p0 p1 (0 : Int32) (wI σ' 81 0 0)) fun v15 σ15 =>
            if inb v15 200 then
            stp (wI σ15 104 (v15).toNatClampNeg p2) fun σ17 =>
            stp (wI σ17 105 (v15).toNatClampNeg p3) fun σ18 =>
            some (v15, σ18)
            else none) else some (-1, wI σ' 81 0 0) := fun σ' hm => by
        rw [eM _ hm]
        refine Eq.trans (b := mX12_heir_77B (mX12_heir_77 0) p0 p1 p2 p3 (Int32.ofNat (27720 / qq * pp) + Int32.ofNat (heirS A jp nt nf)) (Int32.ofNat nf) (wI σ' 81 0 0)) rfl ?_
        unfold mX12_heir_77B
        rw [if_pos (Classical.not_not.mp fun q => hfin _ hm q)]
        by_cases e : heirS A jp nt nf + 27720 / qq * pp ≤ 27720
        · rw [if_pos (le2.mpr e), if_pos e]
        · rw [if_neg (fun q => e (le2.mp q)), if_neg e]
      by_cases G5 : heirS A jp nt nf + 27720 / qq * pp ≤ 27720
      · obtain ⟨σ1, f, i1, i2, i3⟩ := C_init (σ := σ) 1 (-1) p0 p1 (-1) (Int32.ofNat nt)
        have hT : sI (nwK σ 4 0) 33 0 = Int32.ofNat nt := by rw [nwK_I, if_neg (h.sz (by decide)), c0]
        have i4 := (i2.w 8 p2).w 9 p3
        have q4 := i2.2.2.1
        have q5 := C_add hz i4 c6 G1
        have e2 : mX11_heir p0 p1 p2 p3 σ = some (.inr (Int32.ofNat nf, wI (wR (wI (wI σ1 (sZ σ) 8 p2) (sZ σ) 9 p3) 38 nf (sZ σ)) 33 11 (Int32.ofNat nf + 1))) := by
          rw [eC, if_pos (le1.mpr G5)]
          simp only [stp]
          rw [hT, i1, bnd_some, if_pos q4, q5]
          rfl
        generalize hF : wI (wR (wI (wI σ1 (sZ σ) 8 p2) (sZ σ) 9 p3) 38 nf (sZ σ)) 33 11 (Int32.ofNat nf + 1) = σF at e2
        have oc : OnlyC σ σF := by rw [← hF]; exact ((i4.onC hz).wr 38 nf _).w 33 _ _ (Or.inl (by decide))
        have hm1 : RM A (wL σF 146 0 (iJ (Int32.ofNat nf))) := (h.2.2.1.onC oc).wl _ _ _
        have hm2 := r0 _ hm1
        have e3 : mX12_heir p0 p1 p2 p3 (wL σF 146 0 (iJ (Int32.ofNat nf))) = some (Int32.ofNat nf, wI (wI (tlM (wI (wL σF 146 0 (iJ (Int32.ofNat nf))) 81 0 0) nf (Int32.ofNat nt) 1 p0 p1 0) 104 nf p2) 105 nf p3) := by
          rw [eM2 _ hm1, if_pos G5, M_tells 1 p0 p1 0 (m7 _ hm1) (m1 _ hm1) G1, bd2_some, if_pos (oI_inb (by omega) (by decide))]
          simp only [stp]
          rw [oI_cl (by omega)]
        obtain ⟨x1, x2, x3, x4, x5, x6, x7, x8⟩ := tlA_at (A := A) (n := nf) (t := Int32.ofNat nt) (k := 1) (p := p0) (q := p1) (d := 0)
        generalize hT0' : tlA A nf (Int32.ofNat nt) 1 p0 p1 0 = A0 at x1 x2 x3 x4 x5 x6 x7 x8
        have N : ∀ a i, ¬ ((a = 104 ∨ a = 105) ∧ i = nf) → up2 (up2 A0 104 nf p2) 105 nf p3 a i = A0 a i := fun a i q => by rw [up2_ne (fun z => q ⟨by omega, z.2⟩), up2_ne (fun z => q ⟨by omega, z.2⟩)]
        have y104 : up2 (up2 A0 104 nf p2) 105 nf p3 104 nf = p2 := by rw [up2_ne (by omega), up2_eq, if_pos ⟨rfl, rfl⟩]
        have y105 : up2 (up2 A0 104 nf p2) 105 nf p3 105 nf = p3 := by rw [up2_eq, if_pos ⟨rfl, rfl⟩]
        have hm3 : RM (up2 (up2 A0 104 nf p2) 105 nf p3) (wI (wI (tlM (wI (wL σF 146 0 (iJ (Int32.ofNat nf))) 81 0 0) nf (Int32.ofNat nt) 1 p0 p1 0) 104 nf p2) 105 nf p3) := by
          rw [← hT0']
          exact ((hm2.tl nf (Int32.ofNat nt) 1 p0 p1 0).w 104 nf p2).w 105 nf p3
        generalize up2 (up2 A0 104 nf p2) 105 nf p3 = A' at N y104 y105 hm3
        have y97 : A' 97 nf = 1 := (N 97 nf (by omega)).trans x1
        have y98 : A' 98 nf = -1 := (N 98 nf (by omega)).trans x2
        have y99 : A' 99 nf = p0 := (N 99 nf (by omega)).trans x3
        have y100 : A' 100 nf = p1 := (N 100 nf (by omega)).trans x4
        have y101 : A' 101 nf = 0 := (N 101 nf (by omega)).trans x5
        have y106 : A' 106 nf = Int32.ofNat nt := (N 106 nf (by omega)).trans x6
        have y107 : A' 107 nf = -1 := (N 107 nf (by omega)).trans x7
        have y81 : A' 81 7 = Int32.ofNat nf + 1 := (N 81 7 (by omega)).trans x8
        have hk81 : ∀ k, k ≠ 7 → A' 81 k = A 81 k := fun k hk => by rw [N 81 k (by omega), ← hT0', tlA_ne (by omega) (by omega)]
        have hV : ∀ a i, 82 ≤ a → a ≠ 91 → ¬ ((97 ≤ a ∧ a ≤ 107) ∧ i = nf) → A' a i = A a i := fun a i u1 u2 u3 => by rw [N a i (by omega), ← hT0', tlA_ne (by omega) (by omega)]
        have om : OnlyM (wL σF 146 0 (iJ (Int32.ofNat nf))) (wI (wI (tlM (wI (wL σF 146 0 (iJ (Int32.ofNat nf))) 81 0 0) nf (Int32.ofNat nt) 1 p0 p1 0) 104 nf p2) 105 nf p3) := (((OnlyM.rf.w 81 0 0 (by decide)).tl nf _ 1 p0 p1 0).w 104 nf p2 (by decide)).w 105 nf p3 (by decide)
        have hT4 : cT 4 A' = nf + 1 := by show (A' 81 7).toNatClampNeg = _; rw [y81, oI_s, oI_cl (by omega)]
        have hT0 : cT 0 A' = np := by show (A' 81 3).toNatClampNeg = _; rw [hk81 3 (by decide)]; exact d3
        have hT1 : cT 1 A' = nw := by show (A' 81 4).toNatClampNeg = _; rw [hk81 4 (by decide)]; exact d4
        have htn : nTn A' = nt := by show (A' 81 1).toNatClampNeg = _; rw [hk81 1 (by decide)]; exact d1
        have hQ' : heirQ A' nf = 27720 / qq * pp := by unfold heirQ; rw [y104, y105, qq2, pp2, oI_cl (by omega), oI_cl (by omega)]
        refine ⟨0, _, Int32.ofNat nf, _, by show wr hN iJ σ (mX11_heir p0 p1 p2 p3 σ) = _; rw [e2]; rfl, e3, rfl, fun _ => rfl, A', h.tellF i4 a7 G1 y81 hk81 hV ?_ ?_ (h.hr.add h.1 h.row (j := jp) d7 hT4 (fun a i u1 u2 u3 => hV a i (by omega) (by omega) (by omega)) (y99.trans jp2) (by rw [y106, d1]) (by rw [d1, hQ']; exact G5)) (h.sd.tell d7 hT4 (hT1.trans d4.symm) (fun a i u1 u2 u3 => hV a i (by omega) (by omega) (by omega)) (fun w => by rw [N 91 w (by omega), ← hT0', tlA_ne (by omega) (by omega)]) (by rw [y97]; decide)) (by rw [hF]; exact om) hm3⟩
        · have k1 := fcv_of y106 y107 y97 y98 y99 y100 y101 (x102 := A' 102 nf) rfl (x103 := A' 103 nf) rfl y104 y105 (q := p1) (d := -1) rfl rfl
          intro k hk
          rw [k1 k hk]
          have k2 := i3 k hk
          revert k hk
          refine cF4 ⟨?_, ?_, ?_, ?_, ?_, ?_, ?_, ?_, ?_, ?_, ?_, ?_, ?_⟩
          all_goals first | (intro z; exact z) | (intro _; rfl)
        · refine ⟨?_, ⟨0, by decide, y101⟩, ⟨nt, by omega, y106, Or.inl y107⟩, Or.inr (Or.inl ⟨y97, y98, ?_, ?_, pp, qq, pp3, by omega, by omega, y104.trans pp2, y105.trans qq2⟩)⟩
          · rw [y99, hT0]; exact ⟨jp, jp1, jp2⟩
          · rw [y100, hT0]; obtain ⟨j, j1, j2⟩ := nu_of (by omega) g2; exact ⟨j, j1, j2⟩
          · rw [y99, y100]; exact G2
      · have e2 : mX11_heir p0 p1 p2 p3 σ = some (.inr (-1, σ)) := by rw [eC, if_neg (fun q => G5 (le1.mp q))]
        have hm1 : RM A (wL σ 146 0 (iJ (-1))) := h.2.2.1.wl _ _ _
        exact op_same (σ := σ) h (by show wr hN iJ σ (mX11_heir p0 p1 p2 p3 σ) = _; rw [e2]; rfl) (by rw [eM2 _ hm1, if_neg G5]) rfl
    · have e2 : mX11_heir p0 p1 p2 p3 σ = some (.inr (-1, σ)) := by
        unfold mX11_heir
        rw [C_needP c2 (by omega), if_pos g1, bdp_inr, C_needP c2 (by omega), if_pos g2, bdp_inr]
        by_cases G1 : nf < 200
        · rw [if_pos ((C_all c6 b7).mpr G1)]
          by_cases G2 : p0 = p1
          · rw [if_pos G2]
          · rw [if_neg G2]
            by_cases G3 : mX11_isWithin p3 1 12 σ = 0
            · rw [if_pos G3]
            · rw [if_neg G3, if_pos (C_isW.mpr (Classical.not_not.mp fun q => G ⟨G1, G2, fun z => G3 (C_isW.mpr z), q⟩))]
        · rw [if_neg (fun q => G1 ((C_all c6 b7).mp q))]
      have hm1 : RM A (wL σ 146 0 (iJ (-1))) := h.2.2.1.wl _ _ _
      have e3 : mX12_heir p0 p1 p2 p3 (wL σ 146 0 (iJ (-1))) = some (-1, wI (wL σ 146 0 (iJ (-1))) 81 0 0) := by
        simp only [mX12_heir, stp]
        rw [mi p0 _ hm1, if_pos g1, bd2_some, if_neg i10, mi p1 _ hm1, if_pos g2, bd2_some, if_neg i10]
        by_cases G1 : nf < 200
        · rw [if_neg (fun q => (M_all (m7 _ hm1) b7).mp q G1)]
          by_cases G2 : p3 < 1
          · rw [if_pos G2]
          · rw [if_neg G2]
            by_cases G3 : 12 < p3
            · rw [if_pos G3]
            · rw [if_neg G3]
              by_cases G4 : p2 < 1
              · rw [if_pos G4]
              · rw [if_neg G4]
                by_cases G5 : p3 < p2
                · rw [if_pos G5]
                · rw [if_neg G5, if_pos (Classical.not_not.mp fun q => G ⟨G1, q, fun z => z.elim G2 G3, fun z => z.elim G4 G5⟩)]
        · rw [if_pos ((M_all (m7 _ hm1) b7).mpr G1)]
      exact op_same (σ := σ) h (by show wr hN iJ σ (mX11_heir p0 p1 p2 p3 σ) = _; rw [e2]; rfl) e3 rfl
  · have e2 : mX11_heir p0 p1 p2 p3 σ = some (.inl 0) := by
      unfold mX11_heir
      rw [C_needP c2 (by omega)]
      by_cases g1 : nu p0 np
      · rw [if_pos g1, bdp_inr, C_needP c2 (by omega), if_neg (fun g2 => g ⟨g1, g2⟩)]; rfl
      · rw [if_neg g1]; rfl
    refine op_thr (k := 1) (b := 0) h (by decide) (by show wr hN iJ σ (mX11_heir p0 p1 p2 p3 σ) = _; rw [e2]; rfl) ?_
    simp only [mX12_heir, stp]
    rw [mi p0 _ h.2.2.1]
    by_cases g1 : nu p0 np
    · rw [if_pos g1, bd2_some, if_neg i10, mi p1 _ h.2.2.1, if_neg (fun g2 => g ⟨g1, g2⟩)]; rfl
    · rw [if_neg g1]; rfl
