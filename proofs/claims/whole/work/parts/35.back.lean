/-! taken back -/
theorem RWork.wK {A A' : Ab} {σ : Sto} {a k : Nat} {v : Int32} (h : RWork A σ) (h1 : sK σ a ≠ 10) (h2 : sK σ a ≠ 100) (hT : cT 1 A' = cT 1 A) (hA : ∀ c, 84 ≤ c → c ≤ 86 → ∀ j, A' c j = A c j) (hle : cT 1 A ≤ 30) : RWork A' (wI σ a k v) := by
  refine ⟨h.1, fun i hi => ?_, fun i j hij hj => h.2.2 i j hij (by rw [← hT]; exact hj)⟩
  rw [hT] at hi
  have w := h.1 i (by omega)
  obtain ⟨u1, u2, u3, u4, u5, u6, u7, u8, u9, u10, u11⟩ := w
  obtain ⟨⟨g1, g2⟩, g3⟩ := h.2.1 i hi
  have n0 : ∀ k', sI (wI σ a k v) (sR σ 35 i) k' = sI σ (sR σ 35 i) k' := fun k' => by rw [sI_wI, if_neg (fun q => h1 (by rw [← q.1]; exact u5))]
  have n1 : ∀ k', sI (wI σ a k v) (sR σ 35 i + 1) k' = sI σ (sR σ 35 i + 1) k' := fun k' => by rw [sI_wI, if_neg (fun q => h2 (by rw [← q.1]; exact u8))]
  have n2 : ∀ k', sI (wI σ a k v) (sR σ 35 i + 2) k' = sI σ (sR σ 35 i + 2) k' := fun k' => by rw [sI_wI, if_neg (fun q => h2 (by rw [← q.1]; exact u10))]
  have e84 := hA 84 (by decide) (by decide) i
  refine ⟨⟨fun j hj => ?_, ?_⟩, g3⟩
  · rw [e84] at hj
    rw [sR_wI, n1, n2, hA 85 (by decide) (by decide), hA 86 (by decide) (by decide)]
    exact g1 j hj
  · rw [sR_wI, n0, e84, wsum_congr _ (fun j _ => hA 86 (by decide) (by decide) _)]
    exact g2
theorem RLaw.wK {A A' : Ab} {σ : Sto} {a k : Nat} {v : Int32} (h : RLaw A σ) (h1 : sK σ a ≠ 5) (h2 : sK σ a ≠ 100) (hT : cT 6 A' = cT 6 A) (hle : cT 6 A ≤ 12) (hg : nLs A ≤ nLs A') (hg2 : nTn A ≤ nTn A') (hA : ∀ c, 112 ≤ c → c ≤ 126 → ∀ j, A' c j = A c j) : RLaw A' (wI σ a k v) := by
  obtain ⟨⟨d1, d2, d3⟩, q2, q3, q4, q5⟩ := h
  have n0 : ∀ x, LwAt σ x → ∀ k', sI (wI σ a k v) x k' = sI σ x k' := fun x hx k' => by rw [sI_wI, if_neg (fun q => h1 (by rw [← q.1]; exact hx.2.2.1))]
  have n1 : ∀ x, LwAt σ x → ∀ k', sI (wI σ a k v) (x + 1) k' = sI σ (x + 1) k' := fun x hx k' => by rw [sI_wI, if_neg (fun q => h2 (by rw [← q.1]; exact hx.2.2.2.2.1.1))]
  have n2 : ∀ x, LwAt σ x → ∀ k', sI (wI σ a k v) (x + 2) k' = sI σ (x + 2) k' := fun x hx k' => by rw [sI_wI, if_neg (fun q => h2 (by rw [← q.1]; exact hx.2.2.2.2.2.1.1))]
  have n3 : ∀ x, LwAt σ x → ∀ k', sI (wI σ a k v) (x + 3) k' = sI σ (x + 3) k' := fun x hx k' => by rw [sI_wI, if_neg (fun q => h2 (by rw [← q.1]; exact hx.2.2.2.2.2.2.1.1))]
  refine ⟨⟨d1, d2, by rw [sR_wI, n0 _ d1]; exact d3⟩, q2, fun i hi => ?_, fun i j hij hj => q4 i j hij (by rw [← hT]; exact hj), fun i hi hi2 => ?_⟩
  · rw [hT] at hi
    obtain ⟨g1, g2, g3, g4⟩ := q3 i hi
    have w := q2 i (by omega)
    exact ⟨g1, g2, g3.keep (fun k _ => n0 _ w k) (n1 _ w) (n2 _ w) (n3 _ w) hg (fun c c1 c2 _ _ => hA c c1 (by omega) i) (fun c c1 c2 j _ => hA c (by omega) (by omega) _) (fun q _ => hA 126 (by decide) (by decide) q), g4.keep (n0 _ w 0) (n0 _ w 1) hg2 (hA 114 (by decide) (by decide) i) (hA 115 (by decide) (by decide) i)⟩
  · rw [hT] at hi
    have w := q2 i hi2
    have n := n0 _ w
    rw [sR_wI, n, n, n, n]
    exact q5 i hi hi2
theorem ISold.same2 {A A' : Ab} (h : ISold A) (hT : cT 4 A' = cT 4 A) (hT1 : cT 1 A' = cT 1 A) (h91 : ∀ i, A' 91 i = A 91 i) (h97 : ∀ i, A' 97 i = A 97 i) (h98 : ∀ i, A' 98 i = A 98 i) : ISold A' := fun w hw => by
  rw [hT1] at hw
  have h0 := h w hw
  rw [h91, hT]
  simp only [h97, h98]
  exact h0
theorem heirS_sub {A A' : Ab} {p k : Nat} : ∀ n, (∀ i, i < n → (isHeir A' p k i = true → isHeir A p k i = true) ∧ heirQ A' i = heirQ A i) → heirS A' p k n ≤ heirS A p k n
  | 0, _ => Nat.le_refl _
  | n + 1, h => by
    have h0 := heirS_sub (A := A) (A' := A') (p := p) (k := k) n (fun i hi => h i (by omega))
    obtain ⟨h1, h2⟩ := h n (by omega)
    rw [heirS_s, heirS_s]
    by_cases e : isHeir A' p k n = true
    · rw [if_pos e, if_pos (h1 e), h2]; omega
    · rw [if_neg e]; omega
theorem IB.of81 {A A' : Ab} (h : IB A) (h81 : ∀ k, A' 81 k = A 81 k) : IB A' := by
  unfold IB Bnd at h ⊢
  simp only [h81]
  exact h
theorem Rel.backF {A A' : Ab} {σ σ2 : Sto} {i : Nat} {vv : Int64} (h : Rel A σ) (hi : i < cT 4 A) (hb : A 107 i = -1) (hA' : up2 A 107 i (Int32.ofNat (nTn A)) = A') (hm : OnlyM (wL (wI σ (sR σ 38 i) 1 (Int32.ofNat (nTn A))) 146 0 vv) σ2) (hr : RM A' σ2) : Rel A' σ2 := by
  have hl : cT 4 A ≤ 200 := (h.1.le (c := 4) (by decide)).1
  have hB := h.1
  have N : ∀ a k, ¬ (a = 107 ∧ k = i) → A' a k = A a k := fun a k q => by rw [← hA', up2_ne q]
  have N1 : A' 107 i = Int32.ofNat (nTn A) := by rw [← hA', up2_eq, if_pos ⟨rfl, rfl⟩]
  have h81 : ∀ k, A' 81 k = A 81 k := fun k => N 81 k (by omega)
  have hT : ∀ c, cT c A' = cT c A := fun c => by unfold cT; rw [h81]
  have hln : nLs A' = nLs A := by unfold nLs; rw [h81]
  have htn : nTn A' = nTn A := by unfold nTn; rw [h81]
  have ht9 := hB.tn.1
  obtain ⟨k0, f0, -⟩ := h.cb.fa hi
  have ha := h.cb.rg (c := 4) (i := i) (by decide) (show i ≤ 200 by omega)
  have ha2 : 147 ≤ sR σ 38 i := (h.ap.1 4 (by decide) (by decide) i (by omega)).mpr hi
  have ne : ∀ c, c < 7 → ∀ j, j ≤ cM c → ¬ (c = 4 ∧ j = i) → sR σ (cR c) j ≠ sR σ 38 i := fun c hc j hj e q => by
    have g := h.2.2.2.1 c hc j hj
    by_cases e4 : c = 4 ∨ c = 5
    · have hc1 : 4 ≤ c := by omega
      have hc2 : c ≤ 5 := by omega
      have hj2 : j ≤ 200 := by rcases e4 with rfl | rfl <;> exact hj
      have hj3 : j < cT c A := (h.ap.1 c hc1 hc2 j hj2).mp (by rw [show sR σ (34 + c) j = sR σ 38 i from q]; exact ha2)
      have := h.ap.2 c 4 hc1 hc2 (by decide) (by decide) j i hj3 hi q
      exact e this
    · have g3 := g.2.2.1
      rw [q, k0] at g3
      rcases (show c = 0 ∨ c = 1 ∨ c = 2 ∨ c = 3 ∨ c = 6 by omega) with rfl | rfl | rfl | rfl | rfl <;> exact absurd g3 (by decide)
  have hro : RObj A' (wI σ (sR σ 38 i) 1 (Int32.ofNat (nTn A))) := fun c hc j hj => by
    have h0 := h.2.2.2.1 c hc j hj
    by_cases e : c = 4 ∧ j = i
    · obtain ⟨rfl, rfl⟩ := e
      refine ⟨h0.1, h0.2.1, h0.2.2.1, fun k hk => ?_⟩
      have g := h0.2.2.2 k hk
      rw [if_pos hi] at g
      rw [hT 4, if_pos hi, sI_wI]
      by_cases e1 : k = 1
      · subst e1
        rw [if_pos ⟨rfl, rfl⟩]
        show _ = nev (A' 107 j)
        rw [N1]
        exact (if_neg (ne_neg1 (by omega))).symm
      · rw [if_neg (fun q => e1 q.2)]
        refine g.trans ?_
        have e97 := N 97 j (by omega)
        have e98 := N 98 j (by omega)
        have e99 := N 99 j (by omega)
        have e100 := N 100 j (by omega)
        have e101 := N 101 j (by omega)
        have e102 := N 102 j (by omega)
        have e103 := N 103 j (by omega)
        have e104 := N 104 j (by omega)
        have e105 := N 105 j (by omega)
        have e106 := N 106 j (by omega)
        show fcv A j k = fcv A' j k
        revert e1 k
        have key : ∀ k ∈ cF 4, k ≠ 1 → fcv A j k = fcv A' j k := cF4 (P := fun k => k ≠ 1 → fcv A j k = fcv A' j k) ⟨fun _ => e106.symm, fun q => absurd rfl q, fun _ => e97.symm, fun _ => e98.symm, fun _ => e99.symm,
          fun _ => by show (if A 97 j = 4 then A 99 j else A 100 j) = if A' 97 j = 4 then A' 99 j else A' 100 j; rw [e97, e99, e100],
          fun _ => by show (if A 97 j = 1 then -1 else A 101 j) = if A' 97 j = 1 then -1 else A' 101 j; rw [e97, e101],
          fun _ => by show (if A 97 j = 0 then A 102 j else -1) = if A' 97 j = 0 then A' 102 j else -1; rw [e97, e102],
          fun _ => by show (if A 97 j = 1 then A 104 j else 0) = if A' 97 j = 1 then A' 104 j else 0; rw [e97, e104],
          fun _ => by show (if A 97 j = 1 then A 105 j else 1) = if A' 97 j = 1 then A' 105 j else 1; rw [e97, e105],
          fun _ => by show (if A 97 j = 2 then A 103 j else -1) = if A' 97 j = 2 then A' 103 j else -1; rw [e97, e103],
          fun _ => by show (if A 97 j = 2 then A 104 j else 0) = if A' 97 j = 2 then A' 104 j else 0; rw [e97, e104],
          fun _ => by show (if A 97 j = 2 then A 105 j else 0) = if A' 97 j = 2 then A' 105 j else 0; rw [e97, e105]⟩
        exact fun k hk _ e1 => key k hk e1
    · refine h0.keep rfl (Nat.le_refl _) rfl (fun k _ => by rw [sI_wI, if_neg (fun q => ne c hc j hj e q.1)]) (fun k hk => ?_)
      rw [hT c, cV_congr hc (fun a ha => N a j (fun q => e ⟨?_, q.2⟩)) k hk]
      have u := (tl_U c hc a ha).2.2.2.2.2.2
      exact Classical.byContradiction fun z => u z (by omega)
  have hrc : RCnt A' (wI σ (sR σ 38 i) 1 (Int32.ofNat (nTn A))) := fun j hj => by
    rw [h81, sI_wI, if_neg, h.cnt j hj]
    intro q
    have q1 := q.1
    rcases (show j = 0 ∨ j = 1 ∨ j = 2 ∨ j = 3 ∨ j = 4 ∨ j = 5 ∨ j = 6 ∨ j = 7 ∨ j = 8 ∨ j = 9 ∨ j = 10 by omega) with rfl | rfl | rfl | rfl | rfl | rfl | rfl | rfl | rfl | rfl | rfl <;> simp only [cntOf] at q1 <;> omega
  have hrt : RTape A' (wI σ (sR σ 38 i) 1 (Int32.ofNat (nTn A))) := fun j hj => by
    rw [N 111 j (by omega), sI_wI, if_neg (by omega)]
    exact h.2.2.2.2.2.1 j hj
  have hrow : IRow A' := fun c hc j hj => by
    rw [hT c] at hj
    by_cases e : c = 4 ∧ j = i
    · obtain ⟨rfl, rfl⟩ := e
      have g := h.row 4 (by decide) j hj
      obtain ⟨g1, g2, ⟨t, t1, t2, t3⟩, g4⟩ := g
      show factOK A' j
      unfold factOK
      rw [N 97 j (by omega), N 98 j (by omega), N 99 j (by omega), N 100 j (by omega), N 101 j (by omega), N 102 j (by omega), N 103 j (by omega), N 104 j (by omega), N 105 j (by omega), N 106 j (by omega), N1, hT 0, hT 1, hT 2, hln, htn]
      exact ⟨g1, g2, ⟨t, t1, t2, Or.inr ⟨nTn A, t1, Nat.le_refl _, rfl⟩⟩, g4⟩
    · refine rowOK.mono hc (h.row c hc j hj) ⟨Nat.le_of_eq hln.symm, Nat.le_of_eq htn.symm, Nat.le_of_eq (hT 0).symm, Nat.le_of_eq (hT 1).symm, Nat.le_of_eq (hT 2).symm, Nat.le_of_eq (hT 4).symm⟩ (fun a ha => N a j (fun q => e ⟨?_, q.2⟩)) (fun _ j' _ => ⟨N _ _ (by omega), N _ _ (by omega)⟩) (fun _ s _ => N _ _ (by omega))
      have u := (tl_U c hc a ha).2.2.2.2.2.2
      exact Classical.byContradiction fun z => u z (by omega)
  have hh : IHeir A' := fun p k => by
    rw [hT 4]
    refine Nat.le_trans (heirS_sub _ fun j hj => ⟨fun e => ?_, ?_⟩) (h.hr p k)
    · obtain ⟨e1, e2, e3⟩ := isHeir_iff.mp e
      refine isHeir_iff.mpr ⟨by rw [← N 97 j (by omega)]; exact e1, by rw [← N 99 j (by omega)]; exact e2, ?_⟩
      by_cases ej : j = i
      · subst ej
        obtain ⟨t, t1, t2, t3⟩ := told_of h.row hj
        unfold knB at e3 ⊢
        rw [N 106 j (by omega), N1, beq_false_of_ne (ne_neg1 (by omega)), oI_cl (by omega), Bool.and_eq_true, Bool.false_or, decide_eq_true_eq, decide_eq_true_eq] at e3
        rw [Bool.and_eq_true, decide_eq_true_eq, Bool.or_eq_true, beq_iff_eq, decide_eq_true_eq]
        exact ⟨e3.1, Or.inl hb⟩
      · unfold knB at e3 ⊢
        rw [← N 106 j (by omega), ← N 107 j (by omega)]
        exact e3
    · unfold heirQ
      rw [N 104 j (by omega), N 105 j (by omega)]
  refine ⟨hB.of81 h81, by rw [hm.1]; exact h.2.1, hr, RObj.onM (σ := wL (wI σ (sR σ 38 i) 1 (Int32.ofNat (nTn A))) 146 0 vv) hro hm, RCnt.onM (σ := wL (wI σ (sR σ 38 i) 1 (Int32.ofNat (nTn A))) 146 0 vv) hrc hm, RTape.onM (σ := wL (wI σ (sR σ 38 i) 1 (Int32.ofNat (nTn A))) 146 0 vv) hrt hm, ?_⟩
  have ff := hm.fr
  have w1 : RWork A' (wL (wI σ (sR σ 38 i) 1 (Int32.ofNat (nTn A))) 146 0 vv) := RWork.wK (σ := σ) h.wk (by rw [k0]; decide) (by rw [k0]; decide) (hT 1) (fun c c1 c2 j => N c j (by omega)) (h.1.le (c := 1) (by decide)).1
  have w2 : RLaw A' (wL (wI σ (sR σ 38 i) 1 (Int32.ofNat (nTn A))) 146 0 vv) := RLaw.wK (σ := σ) h.lw (by rw [k0]; decide) (by rw [k0]; decide) (hT 6) (h.1.le (c := 6) (by decide)).1 (Nat.le_of_eq hln.symm) (Nat.le_of_eq htn.symm) (fun c c1 c2 j => N c j (by omega))
  have l1 : cT 1 A' ≤ 30 := by rw [hT]; exact (h.1.le (c := 1) (by decide)).1
  have l6 : cT 6 A' ≤ 12 := by rw [hT]; exact (h.1.le (c := 6) (by decide)).1
  exact ⟨RStat.onM (σ := wL (wI σ (sR σ 38 i) 1 (Int32.ofNat (nTn A))) 146 0 vv) h.stat hm, RGain.onM (σ := wL (wI σ (sR σ 38 i) 1 (Int32.ofNat (nTn A))) 146 0 vv) ⟨fun p hp => by
      show sL (wL (wI σ (sR σ 38 i) 1 (Int32.ofNat (nTn A))) 146 0 vv) 80 p = sL (wL (wI σ (sR σ 38 i) 1 (Int32.ofNat (nTn A))) 146 0 vv) 145 p
      rw [sL_wL, if_neg (by omega), sL_wL, if_neg (by omega)]
      exact h.gain.1 p hp, by rw [sI_wL, sI_wI, if_neg (by omega)]; exact h.gain.2⟩ hm, hrow, w1.fr ff (fun i => hm.2.2.2.1 _ _) rfl (fun _ _ _ _ => rfl) l1, w2.fr ff (fun i => hm.2.2.2.1 _ _) (hm.2.2.2.1 _ _) rfl l6 (Nat.le_refl _) (Nat.le_refl _) (fun _ _ _ _ => rfl), hh, h.sd.same2 (hT 4) (hT 1) (fun j => N 91 j (by omega)) (fun j => N 97 j (by omega)) (fun j => N 98 j (by omega)), h.cl.same (hT 5) (fun a j u1 u2 => N a j (by omega)), (h.ap.same (σ' := σ2) (fun _ _ _ _ => hm.2.2.2.1 _ _) (fun c _ _ => hT c)), (h81 73).trans h.z⟩
