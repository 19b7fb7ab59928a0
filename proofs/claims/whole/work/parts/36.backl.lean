theorem Rel.backL {A A' : Ab} {σ σ2 : Sto} {i : Nat} {vv : Int64} (h : Rel A σ) (hi : i < cT 6 A) (hb : A 115 i = -1) (hA' : up2 A 115 i (Int32.ofNat (nTn A)) = A') (hm : OnlyM (wL (wI σ (sR σ 40 i) 1 (Int32.ofNat (nTn A))) 146 0 vv) σ2) (hr : RM A' σ2) : Rel A' σ2 := by
  have hl : cT 6 A ≤ 12 := (h.1.le (c := 6) (by decide)).1
  have hB := h.1
  have N : ∀ a k, ¬ (a = 115 ∧ k = i) → A' a k = A a k := fun a k q => by rw [← hA', up2_ne q]
  have N1 : A' 115 i = Int32.ofNat (nTn A) := by rw [← hA', up2_eq, if_pos ⟨rfl, rfl⟩]
  have h81 : ∀ k, A' 81 k = A 81 k := fun k => N 81 k (by omega)
  have hT : ∀ c, cT c A' = cT c A := fun c => by unfold cT; rw [h81]
  have hln : nLs A' = nLs A := by unfold nLs; rw [h81]
  have htn : nTn A' = nTn A := by unfold nTn; rw [h81]
  have ht9 := hB.tn.1
  obtain ⟨⟨D1, D2, D3⟩, L2, L3, L4, L5⟩ := h.lw
  have LA := L2 i (by omega)
  have k0 : sK σ (sR σ 40 i) = 5 := LA.2.2.1
  obtain ⟨o1, o2, o3, o4⟩ := L3 i hi
  have ha : reg (sR σ 40 i) := LA.1.1
  have hro : RObj A' (wI σ (sR σ 40 i) 1 (Int32.ofNat (nTn A))) := fun c hc j hj => by
    have h0 := h.2.2.2.1 c hc j hj
    by_cases e : c = 6
    · subst e
      exact ⟨h0.1, h0.2.1, h0.2.2.1, fun k hk => by cases hk⟩
    · refine h0.keep rfl (Nat.le_refl _) rfl (fun k _ => ?_) (fun k hk => ?_)
      · rw [sI_wI, if_neg]
        intro q
        have g3 := h0.2.2.1
        rw [q.1, k0] at g3
        rcases (show c = 0 ∨ c = 1 ∨ c = 2 ∨ c = 3 ∨ c = 4 ∨ c = 5 by omega) with rfl | rfl | rfl | rfl | rfl | rfl <;> exact absurd g3 (by decide)
      · rw [hT c, cV_congr hc (fun a ha => N a j (fun q => by have := (tl_U c hc a ha).2.2.2.2.1; omega)) k hk]
  have hrc : RCnt A' (wI σ (sR σ 40 i) 1 (Int32.ofNat (nTn A))) := fun j hj => by
    rw [h81, sI_wI, if_neg, h.cnt j hj]
    intro q
    have q1 := q.1
    rcases (show j = 0 ∨ j = 1 ∨ j = 2 ∨ j = 3 ∨ j = 4 ∨ j = 5 ∨ j = 6 ∨ j = 7 ∨ j = 8 ∨ j = 9 ∨ j = 10 by omega) with rfl | rfl | rfl | rfl | rfl | rfl | rfl | rfl | rfl | rfl | rfl <;> simp only [cntOf] at q1 <;> omega
  have hrt : RTape A' (wI σ (sR σ 40 i) 1 (Int32.ofNat (nTn A))) := fun j hj => by
    rw [N 111 j (by omega), sI_wI, if_neg (by omega)]
    exact h.2.2.2.2.2.1 j hj
  have hrow : IRow A' := fun c hc j hj => by
    rw [hT c] at hj
    exact rowOK.mono hc (h.row c hc j hj) ⟨Nat.le_of_eq hln.symm, Nat.le_of_eq htn.symm, Nat.le_of_eq (hT 0).symm, Nat.le_of_eq (hT 1).symm, Nat.le_of_eq (hT 2).symm, Nat.le_of_eq (hT 4).symm⟩ (fun a ha => N a j (fun q => by have := (tl_U c hc a ha).2.2.2.2.1; omega)) (fun _ j' _ => ⟨N _ _ (by omega), N _ _ (by omega)⟩) (fun _ s _ => N _ _ (by omega))
  have w2 : RLaw A' (wL (wI σ (sR σ 40 i) 1 (Int32.ofNat (nTn A))) 146 0 vv) := by
    have nk : ∀ x, x ≠ sR σ 40 i → ∀ k', sI (wI σ (sR σ 40 i) 1 (Int32.ofNat (nTn A))) x k' = sI σ x k' := fun x hx k' => by rw [sI_wI, if_neg (fun q => hx q.1)]
    have n1 : ∀ x, LwAt σ x → x + 1 ≠ sR σ 40 i := fun x hx q => by have := hx.2.2.2.2.1.1; rw [q, k0] at this; exact absurd this (by decide)
    have n2 : ∀ x, LwAt σ x → x + 2 ≠ sR σ 40 i := fun x hx q => by have := hx.2.2.2.2.2.1.1; rw [q, k0] at this; exact absurd this (by decide)
    have n3 : ∀ x, LwAt σ x → x + 3 ≠ sR σ 40 i := fun x hx q => by have := hx.2.2.2.2.2.2.1.1; rw [q, k0] at this; exact absurd this (by decide)
    refine ⟨⟨D1, D2, ?_⟩, L2, fun j hj => ?_, fun x y hxy hy => L4 x y hxy (by rw [← hT 6]; exact hy), fun j hj hj2 => ?_⟩
    · show sI (wI σ (sR σ 40 i) 1 (Int32.ofNat (nTn A))) (sR σ 32 7) 1 = _
      rw [nk _ (by omega)]; exact D3
    · rw [hT 6] at hj
      obtain ⟨g1, g2, g3, g4⟩ := L3 j hj
      have w := L2 j (by omega)
      refine ⟨g1, g2, ?_, ?_⟩
      · refine g3.keep (σ' := wI σ (sR σ 40 i) 1 (Int32.ofNat (nTn A))) (fun k hk => by rw [sI_wI, if_neg (by omega)]) (nk _ (n1 _ w)) (nk _ (n2 _ w)) (nk _ (n3 _ w)) (Nat.le_of_eq hln.symm) (fun c c1 c2 c3 c4 => N c j (by omega)) (fun c c1 c2 j' _ => N c _ (by omega)) (fun q _ => N 126 q (by omega))
      · by_cases e : j = i
        · subst e
          obtain ⟨q1, q2, t, t1, t2, t3⟩ := g4
          refine ⟨?_, ?_, t, by rw [htn]; exact t1, (N 114 j (by omega)).trans t2, Or.inr ⟨nTn A, t1, by rw [htn]; exact Nat.le_refl _, N1⟩⟩
          · show sI (wI σ (sR σ 40 j) 1 (Int32.ofNat (nTn A))) (sR σ 40 j) 0 = _
            rw [sI_wI, if_neg (by omega), N 114 j (by omega)]; exact q1
          · show sI (wI σ (sR σ 40 j) 1 (Int32.ofNat (nTn A))) (sR σ 40 j) 1 = nev (A' 115 j)
            rw [sI_wI, if_pos ⟨rfl, rfl⟩, N1]
            exact (if_neg (ne_neg1 (by omega))).symm
        · have ne : sR σ 40 j ≠ sR σ 40 i := fun q => by
            rcases Nat.lt_or_gt_of_ne e with z | z
            · have := L4 j i z hi; omega
            · have := L4 i j z hj; omega
          exact g4.keep (σ' := wI σ (sR σ 40 i) 1 (Int32.ofNat (nTn A))) (nk _ ne 0) (nk _ ne 1) (Nat.le_of_eq htn.symm) (N 114 j (by omega)) (N 115 j (by omega))
    · rw [hT 6] at hj
      obtain ⟨z0, z1, z2, z3⟩ := L5 j hj hj2
      have ne : sR σ 40 j ≠ sR σ 40 i := fun q => by
        rw [q] at z0
        obtain ⟨q1, q2, t, t1, t2, t3⟩ := o4
        have := (q1.symm.trans z0).symm.trans t2
        exact absurd ((oI_eq (j := 1000000) (n := t) (by decide) (by omega)).mp this) (by omega)
      have nn := nk _ ne
      show sI (wI σ (sR σ 40 i) 1 (Int32.ofNat (nTn A))) (sR σ 40 j) 0 = _ ∧ sI (wI σ (sR σ 40 i) 1 (Int32.ofNat (nTn A))) (sR σ 40 j) 1 = _ ∧ sI (wI σ (sR σ 40 i) 1 (Int32.ofNat (nTn A))) (sR σ 40 j) 2 = _ ∧ sI (wI σ (sR σ 40 i) 1 (Int32.ofNat (nTn A))) (sR σ 40 j) 3 = _ ∧ _
      rw [nn, nn, nn, nn]
      exact ⟨z0, z1, z2, z3⟩
  refine ⟨hB.of81 h81, by rw [hm.1]; exact h.2.1, hr, RObj.onM (σ := wL (wI σ (sR σ 40 i) 1 (Int32.ofNat (nTn A))) 146 0 vv) hro hm, RCnt.onM (σ := wL (wI σ (sR σ 40 i) 1 (Int32.ofNat (nTn A))) 146 0 vv) hrc hm, RTape.onM (σ := wL (wI σ (sR σ 40 i) 1 (Int32.ofNat (nTn A))) 146 0 vv) hrt hm, ?_⟩
  have ff := hm.fr
  have l1 : cT 1 A' ≤ 30 := by rw [hT]; exact (h.1.le (c := 1) (by decide)).1
  have l6 : cT 6 A' ≤ 12 := by rw [hT]; exact hl
  have w1 : RWork A' (wL (wI σ (sR σ 40 i) 1 (Int32.ofNat (nTn A))) 146 0 vv) := RWork.wK (σ := σ) h.wk (by rw [k0]; decide) (by rw [k0]; decide) (hT 1) (fun c c1 c2 j => N c j (by omega)) (h.1.le (c := 1) (by decide)).1
  exact ⟨RStat.onM (σ := wL (wI σ (sR σ 40 i) 1 (Int32.ofNat (nTn A))) 146 0 vv) h.stat hm, RGain.onM (σ := wL (wI σ (sR σ 40 i) 1 (Int32.ofNat (nTn A))) 146 0 vv) ⟨fun p hp => by
      show sL (wL (wI σ (sR σ 40 i) 1 (Int32.ofNat (nTn A))) 146 0 vv) 80 p = sL (wL (wI σ (sR σ 40 i) 1 (Int32.ofNat (nTn A))) 146 0 vv) 145 p
      rw [sL_wL, if_neg (by omega), sL_wL, if_neg (by omega)]
      exact h.gain.1 p hp, by rw [sI_wL, sI_wI, if_neg (by omega)]; exact h.gain.2⟩ hm, hrow, w1.fr ff (fun i => hm.2.2.2.1 _ _) rfl (fun _ _ _ _ => rfl) l1, w2.fr ff (fun i => hm.2.2.2.1 _ _) (hm.2.2.2.1 _ _) rfl l6 (Nat.le_refl _) (Nat.le_refl _) (fun _ _ _ _ => rfl), h.hr.same (hT 4) (fun a j u1 u2 => N a j (by omega)), h.sd.same (hT 4) (hT 1) (fun a j u1 u2 => N a j (by omega)) trivial, h.cl.same (hT 5) (fun a j u1 u2 => N a j (by omega)), (h.ap.same (σ' := σ2) (fun _ _ _ _ => hm.2.2.2.1 _ _) (fun c _ _ => hT c)), (h81 73).trans h.z⟩
theorem nev_iff {A : Ab} {a i : Nat} (h : A a i = -1 ∨ ∃ b, b ≤ 999 ∧ A a i = Int32.ofNat b) : (nev (A a i) = 1000000) ↔ A a i = -1 := by
  rcases h with h | ⟨b, hb, h⟩
  · rw [h]; exact ⟨fun _ => rfl, fun _ => rfl⟩
  · have n := ne_neg1 (b := b) (by omega)
    rw [h]
    refine ⟨fun q => ?_, fun q => absurd q n⟩
    rw [show nev (Int32.ofNat b) = Int32.ofNat b from if_neg n] at q
    exact absurd ((oI_eq (n := 1000000) (by omega) (by decide)).mp q) (by omega)
theorem op_back (p0 p1 : Int32) : OpOK (mL_back p0 p1) (mX12_back p0 p1) bZ := by
  intro A σ h
  obtain ⟨nt, nl, np, nw, ns, nr, nf, nc, nL, ⟨b1, b2, b3, b4, b5, b6, b7, b8, b9⟩, ⟨a1, a2, a3, a4, a5, a6, a7, a8, a9⟩, ⟨c0, c1, c2, c3, c4, c5, c6, c7, c8⟩, ⟨d1, d2, d3, d4, d5, d6, d7, d8, d9⟩⟩ := h.nums
  have hz := h.2.1
  have t0 : ∀ σ' : Sto, sI (wI σ' 81 0 0) 81 0 = 0 := fun _ => rfl
  have r0 : ∀ σ', RM A σ' → RM A (wI σ' 81 0 0) := fun σ' hm => hm.np 81 0 0 rfl
  have m7 : ∀ σ', RM A σ' → sI (wI σ' 81 0 0) 81 7 = Int32.ofNat nf := fun σ' hm => ((r0 _ hm) 81 7 rfl).trans a7
  have m50 : ∀ σ', RM A σ' → sI (wI σ' 81 0 0) 81 50 = Int32.ofNat nL := fun σ' hm => ((r0 _ hm) 81 50 rfl).trans a9
  have m1 : ∀ σ', RM A σ' → sI (wI σ' 81 0 0) 81 1 = Int32.ofNat nt := fun σ' hm => ((r0 _ hm) 81 1 rfl).trans a1
  have thr : ∀ ρ, sI ρ 81 0 = 0 → mX12_back_33 p0 p1 ρ = some (0, wI ρ 81 0 1) := fun ρ hρ => by
    unfold mX12_back_33 mX12_back_34
    rw [M_right0 hρ (by decide), bd2_some, if_pos rfl]
  by_cases hk : p0 = 0
  · by_cases g : nu p1 nf
    · obtain ⟨i, i1, i2⟩ := nu_of (by omega) g
      have hi : i < cT 4 A := by omega
      obtain ⟨k0, f0, -⟩ := h.cb.fa hi
      have f1 : sI σ (sR σ 38 i) 1 = nev (A 107 i) := h.cb.fld (c := 4) (by decide) (h.1.le (by decide)).1 hi (by decide)
      obtain ⟨t, t1, t2, t3⟩ := told_b h.1 h.row hi
      have eC : mX11_back p0 p1 σ = mX11_back_64 (sR σ 38 i) σ := by
        unfold mX11_back
        rw [if_pos hk]
        unfold mX11_back_23
        rw [c6, if_neg (fun q => (C_within rfl (by omega)).mp q g), if_pos hk, i2, h.cb.at4 hi, bnd_some]
      have eM : ∀ ρ, RM A ρ → mX12_back p0 p1 ρ = mX12_back_62 p0 (Int32.ofNat i) (A 107 i) (wI ρ 81 0 0) := fun ρ hm => by
        simp only [mX12_back, stp]
        rw [if_neg g.1, if_pos hk]
        unfold mX12_back_26
        rw [m7 _ hm, if_neg (fun q => nle.mpr g.2 q)]
        unfold mX12_back_34
        rw [M_right1 (t0 _), bd2_some, if_neg i10, if_pos hk, i2, if_pos (oI_inb (by omega) (by decide)), oI_cl (by omega), (r0 _ hm) 107 i rfl]
      by_cases hb : A 107 i = -1
      · have e2 : mX11_back p0 p1 σ = some (.inr (1, wI σ (sR σ 38 i) 1 (Int32.ofNat nt))) := by
          rw [eC]
          unfold mX11_back_64
          rw [if_pos k0, f1, if_pos ((nev_iff t3).mpr hb), c0]
        have rg : (sR σ 38 i < 81 ∧ sR σ 38 i ≠ 66) ∨ 145 < sR σ 38 i := by
          have : reg (sR σ 38 i) := h.cb.rg (c := 4) (i := i) (by decide) (show i ≤ 200 by omega)
          unfold reg at this
          omega
        have hm1 : RM A (wL (wI σ (sR σ 38 i) 1 (Int32.ofNat nt)) 146 0 (bZ 1)) := (h.2.2.1.onC (OnlyC.rf.w _ 1 _ rg)).wl _ _ _
        have e3 : mX12_back p0 p1 (wL (wI σ (sR σ 38 i) 1 (Int32.ofNat nt)) 146 0 (bZ 1)) = some (1, wI (wI (wL (wI σ (sR σ 38 i) 1 (Int32.ofNat nt)) 146 0 (bZ 1)) 81 0 0) 107 i (Int32.ofNat nt)) := by
          rw [eM _ hm1]
          unfold mX12_back_62
          rw [if_pos hb, if_pos hk, if_pos (oI_inb (by omega) (by decide)), oI_cl (by omega), m1 _ hm1]
        refine ⟨0, _, 1, _, by show wr hN bZ σ (mX11_back p0 p1 σ) = _; rw [e2]; rfl, e3, rfl, fun _ => rfl, _, h.backF hi hb rfl (vv := bZ 1) ?_ ?_⟩
        · rw [d1]; exact (OnlyM.rf.w 81 0 0 (by decide)).w 107 i _ (by decide)
        · rw [d1]; exact (r0 _ hm1).w 107 i _
      · have e2 : mX11_back p0 p1 σ = some (.inr (0, σ)) := by
          rw [eC]
          unfold mX11_back_64
          rw [if_pos k0, f1, if_neg (fun q => hb ((nev_iff t3).mp q))]
        exact op_same (σ := σ) h (by show wr hN bZ σ (mX11_back p0 p1 σ) = _; rw [e2]; rfl) (by rw [eM _ (h.2.2.1.wl _ _ _)]; unfold mX12_back_62; rw [if_neg hb]) rfl
    · have e2 : mX11_back p0 p1 σ = some (.inl 0) := by
        unfold mX11_back
        rw [if_pos hk]
        unfold mX11_back_23
        rw [c6, if_pos ((C_within rfl (by omega)).mpr g)]
      refine op_thr (k := 1) (b := 0) h (by decide) (by show wr hN bZ σ (mX11_back p0 p1 σ) = _; rw [e2]; rfl) ?_
      simp only [mX12_back, stp]
      by_cases q : p1 < 0
      · rw [if_pos q, thr _ (t0 _)]
      · rw [if_neg q, if_pos hk]
        unfold mX12_back_26
        rw [m7 _ h.2.2.1, if_pos (nlt.mp fun z => g ⟨q, z⟩), thr _ (t0 _)]
  · by_cases g : nu p1 nL
    · obtain ⟨i, i1, i2⟩ := nu_of (by omega) g
      have hi : i < cT 6 A := by omega
      obtain ⟨-, L2, L3, -, -⟩ := h.lw
      have k0 : sK σ (sR σ 40 i) = 5 := (L2 i (by omega)).2.2.1
      obtain ⟨-, -, -, f0, f1, t, t1, t2, t3⟩ := L3 i hi
      have ht9 := h.1.tn.1
      have t3' : A 115 i = -1 ∨ ∃ b, b ≤ 999 ∧ A 115 i = Int32.ofNat b := t3.imp id fun ⟨b, _, u2, u3⟩ => ⟨b, by omega, u3⟩
      have eC : mX11_back p0 p1 σ = mX11_back_64 (sR σ 40 i) σ := by
        unfold mX11_back
        rw [if_neg hk]
        unfold mX11_back_23
        rw [c8, if_neg (fun q => (C_within rfl (by omega)).mp q g), if_neg hk, i2, h.cb.at6 hi, bnd_some]
      have eM : ∀ ρ, RM A ρ → mX12_back p0 p1 ρ = mX12_back_62 p0 (Int32.ofNat i) (A 115 i) (wI ρ 81 0 0) := fun ρ hm => by
        simp only [mX12_back, stp]
        rw [if_neg g.1, if_neg hk]
        unfold mX12_back_26
        rw [m50 _ hm, if_neg (fun q => nle.mpr g.2 q)]
        unfold mX12_back_34
        rw [M_right1 (t0 _), bd2_some, if_neg i10, if_neg hk, i2, if_pos (oI_inb (by omega) (by decide)), oI_cl (by omega), (r0 _ hm) 115 i rfl]
      by_cases hb : A 115 i = -1
      · have e2 : mX11_back p0 p1 σ = some (.inr (1, wI σ (sR σ 40 i) 1 (Int32.ofNat nt))) := by
          rw [eC]
          unfold mX11_back_64
          rw [if_neg (by rw [k0]; decide), if_pos k0, f1, if_pos ((nev_iff t3').mpr hb), c0]
        have rg : (sR σ 40 i < 81 ∧ sR σ 40 i ≠ 66) ∨ 145 < sR σ 40 i := by
          have := (L2 i (by omega)).1.1
          unfold reg at this
          omega
        have hm1 : RM A (wL (wI σ (sR σ 40 i) 1 (Int32.ofNat nt)) 146 0 (bZ 1)) := (h.2.2.1.onC (OnlyC.rf.w _ 1 _ rg)).wl _ _ _
        have e3 : mX12_back p0 p1 (wL (wI σ (sR σ 40 i) 1 (Int32.ofNat nt)) 146 0 (bZ 1)) = some (1, wI (wI (wL (wI σ (sR σ 40 i) 1 (Int32.ofNat nt)) 146 0 (bZ 1)) 81 0 0) 115 i (Int32.ofNat nt)) := by
          rw [eM _ hm1]
          unfold mX12_back_62
          rw [if_pos hb, if_neg hk, if_pos (oI_inb (by omega) (by decide)), oI_cl (by omega), m1 _ hm1]
        refine ⟨0, _, 1, _, by show wr hN bZ σ (mX11_back p0 p1 σ) = _; rw [e2]; rfl, e3, rfl, fun _ => rfl, _, h.backL hi hb rfl (vv := bZ 1) ?_ ?_⟩
        · rw [d1]; exact (OnlyM.rf.w 81 0 0 (by decide)).w 115 i _ (by decide)
        · rw [d1]; exact (r0 _ hm1).w 115 i _
      · have e2 : mX11_back p0 p1 σ = some (.inr (0, σ)) := by
          rw [eC]
          unfold mX11_back_64
          rw [if_neg (by rw [k0]; decide), if_pos k0, f1, if_neg (fun q => hb ((nev_iff t3').mp q))]
        exact op_same (σ := σ) h (by show wr hN bZ σ (mX11_back p0 p1 σ) = _; rw [e2]; rfl) (by rw [eM _ (h.2.2.1.wl _ _ _)]; unfold mX12_back_62; rw [if_neg hb]) rfl
    · have e2 : mX11_back p0 p1 σ = some (.inl 0) := by
        unfold mX11_back
        rw [if_neg hk]
        unfold mX11_back_23
        rw [c8, if_pos ((C_within rfl (by omega)).mpr g)]
      refine op_thr (k := 1) (b := 0) h (by decide) (by show wr hN bZ σ (mX11_back p0 p1 σ) = _; rw [e2]; rfl) ?_
      simp only [mX12_back, stp]
      by_cases q : p1 < 0
      · rw [if_pos q, thr _ (t0 _)]
      · rw [if_neg q, if_neg hk]
        unfold mX12_back_26
        rw [m50 _ h.2.2.1, if_pos (nlt.mp fun z => g ⟨q, z⟩), thr _ (t0 _)]
