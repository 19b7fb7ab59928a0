/-! a law is told: the next draft -/
def RowN (z f len : Nat) (σ σ' : Sto) : Prop := sZ σ' = sZ σ + 1 ∧ (∀ b, b < sZ σ → sK σ' b = sK σ b ∧ sN σ' b = sN σ b ∧ (∀ k, sI σ' b k = sI σ b k) ∧ (∀ k, ¬ (b = z ∧ k = f) → sR σ' b k = sR σ b k) ∧ ∀ k, sL σ' b k = sL σ b k) ∧ (sK σ' (sZ σ) = 100 ∧ sN σ' (sZ σ) = len) ∧ sR σ' z f = sZ σ
theorem rowN (z f len : Nat) (σ : Sto) : RowN z f len σ (wR (nwK σ 100 len) z f (sZ σ)) := by
  refine ⟨rfl, fun b hb => ⟨?_, ?_, fun k => ?_, fun k hk => ?_, fun k => ?_⟩, ⟨?_, ?_⟩, ?_⟩
  · rw [sK_wR, nwK_K, if_neg (by omega)]
  · rw [sN_wR, nwK_N, if_neg (by omega)]
  · rw [sI_wR, nwK_I, if_neg (by omega)]
  · rw [sR_wR, if_neg hk, nwK_R, if_neg (by omega)]
  · rw [sL_wR, nwK_L, if_neg (by omega)]
  · rw [sK_wR, nwK_K, if_pos rfl]
  · rw [sN_wR, nwK_N, if_pos rfl]
  · rw [sR_wR, if_pos ⟨rfl, rfl⟩]
/-- the class makes a law -/
theorem C_mkL {σ : Sto} {z : Nat} (hz : sZ σ = z) : ∃ σ', mX4_init z (nwK σ 5 0) = some σ' ∧ sZ σ' = z + 5 ∧ (∀ b, b < z → sK σ' b = sK σ b ∧ sN σ' b = sN σ b ∧ (∀ k, sI σ' b k = sI σ b k) ∧ (∀ k, sR σ' b k = sR σ b k) ∧ ∀ k, sL σ' b k = sL σ b k) ∧ (147 ≤ z → LwAt σ' z) ∧ sI σ' z 1 = 1000000 := by
  have k0 : ∀ b, sK (nwK σ 5 0) b = if b = z then 5 else sK σ b := fun b => by rw [nwK_K, hz]
  have n0 : ∀ b, sN (nwK σ 5 0) b = if b = z then 0 else sN σ b := fun b => by rw [nwK_N, hz]
  have z0 : sZ (nwK σ 5 0) = z + 1 := by rw [nwK_Z, hz]
  generalize hτ : wI (wI (wI (wI (nwK σ 5 0) z 0 1000000) z 1 1000000) z 2 (-1)) z 3 (-1) = τ
  have tz : sZ τ = z + 1 := by rw [← hτ]; exact z0
  have tk : ∀ b, sK τ b = if b = z then 5 else sK σ b := fun b => by rw [← hτ]; exact k0 b
  have tn : ∀ b, sN τ b = if b = z then 0 else sN σ b := fun b => by rw [← hτ]; exact n0 b
  have tb : ∀ b, b < z → (∀ k, sI τ b k = sI σ b k) ∧ (∀ k, sR τ b k = sR σ b k) ∧ ∀ k, sL τ b k = sL σ b k := fun b hb => by
    rw [← hτ]
    refine ⟨fun k => ?_, fun k => ?_, fun k => ?_⟩
    · rw [sI_wI, if_neg (by omega), sI_wI, if_neg (by omega), sI_wI, if_neg (by omega), sI_wI, if_neg (by omega), nwK_I, if_neg (by omega)]
    · rw [sR_wI, sR_wI, sR_wI, sR_wI, nwK_R, if_neg (by omega)]
    · rw [sL_wI, sL_wI, sL_wI, sL_wI, nwK_L, if_neg (by omega)]
  have t1 : sI τ z 1 = 1000000 := by
    rw [← hτ, sI_wI, if_neg (by omega), sI_wI, if_neg (by omega), sI_wI, if_pos ⟨rfl, rfl⟩]
  have tk5 : sK τ z = 5 := by rw [tk, if_pos rfl]
  have q1 := rowN z 4 16 τ
  generalize h1 : wR (nwK τ 100 16) z 4 (sZ τ) = τ1 at q1
  have q2 := rowN z 5 16 τ1
  generalize h2 : wR (nwK τ1 100 16) z 5 (sZ τ1) = τ2 at q2
  have q3 := rowN z 13 500 τ2
  generalize h3 : wR (nwK τ2 100 500) z 13 (sZ τ2) = τ3 at q3
  have q4 := rowN z 15 64 τ3
  generalize h4 : wR (nwK τ3 100 64) z 15 (sZ τ3) = τ4 at q4
  obtain ⟨a1, a2, ⟨a3, a4⟩, a5⟩ := q1
  obtain ⟨b1, b2, ⟨b3, b4⟩, b5⟩ := q2
  obtain ⟨c1, c2, ⟨c3, c4⟩, c5⟩ := q3
  obtain ⟨d1, d2, ⟨d3, d4⟩, d5⟩ := q4
  have k1 : sK τ1 z = 5 := (a2 z (by omega)).1.trans tk5
  have k2 : sK τ2 z = 5 := (b2 z (by omega)).1.trans k1
  have k3 : sK τ3 z = 5 := (c2 z (by omega)).1.trans k2
  have k4 : sK τ4 z = 5 := (d2 z (by omega)).1.trans k3
  have m1 : sK (nwK τ 100 16) z = 5 := by rw [nwK_K, if_neg (by omega)]; exact tk5
  have m2 : sK (nwK τ1 100 16) z = 5 := by rw [nwK_K, if_neg (by omega)]; exact k1
  have m3 : sK (nwK τ2 100 500) z = 5 := by rw [nwK_K, if_neg (by omega)]; exact k2
  have m4 : sK (nwK τ3 100 64) z = 5 := by rw [nwK_K, if_neg (by omega)]; exact k3
  have mB : sK (wI (wI (nwK σ 5 0) z 0 1000000) z 1 1000000) z = 5 := by rw [sK_wI, sK_wI, k0, if_pos rfl]
  have e : mX4_init z (nwK σ 5 0) = some (wI (wI (wI (wI (wI (wI (wI (wI τ4 z 6 0) z 7 0) z 8 0) z 9 (-1)) z 10 70) z 11 300) z 12 0) z 14 0) := by
    unfold mX4_init mX9_init4 mX4_blank
    simp only [stp, bnd_some, Nat.add_zero]
    rw [if_pos mB, hτ, if_pos m1, h1, if_pos m2, h2, if_pos m3, h3, if_pos m4, h4]
  have hw : ∀ b k, ¬ (b = z ∧ 6 ≤ k) → sI (wI (wI (wI (wI (wI (wI (wI (wI τ4 z 6 0) z 7 0) z 8 0) z 9 (-1)) z 10 70) z 11 300) z 12 0) z 14 0) b k = sI τ4 b k := fun b k hb => by
    rw [sI_wI, if_neg (by omega), sI_wI, if_neg (by omega), sI_wI, if_neg (by omega), sI_wI, if_neg (by omega), sI_wI, if_neg (by omega), sI_wI, if_neg (by omega), sI_wI, if_neg (by omega), sI_wI, if_neg (by omega)]
  have kk : ∀ b, sK (wI (wI (wI (wI (wI (wI (wI (wI τ4 z 6 0) z 7 0) z 8 0) z 9 (-1)) z 10 70) z 11 300) z 12 0) z 14 0) b = sK τ4 b := fun _ => rfl
  have nn : ∀ b, sN (wI (wI (wI (wI (wI (wI (wI (wI τ4 z 6 0) z 7 0) z 8 0) z 9 (-1)) z 10 70) z 11 300) z 12 0) z 14 0) b = sN τ4 b := fun _ => rfl
  have rr : ∀ b k, sR (wI (wI (wI (wI (wI (wI (wI (wI τ4 z 6 0) z 7 0) z 8 0) z 9 (-1)) z 10 70) z 11 300) z 12 0) z 14 0) b k = sR τ4 b k := fun _ _ => rfl
  have ll : ∀ b k, sL (wI (wI (wI (wI (wI (wI (wI (wI τ4 z 6 0) z 7 0) z 8 0) z 9 (-1)) z 10 70) z 11 300) z 12 0) z 14 0) b k = sL τ4 b k := fun _ _ => rfl
  have zz : sZ (wI (wI (wI (wI (wI (wI (wI (wI τ4 z 6 0) z 7 0) z 8 0) z 9 (-1)) z 10 70) z 11 300) z 12 0) z 14 0) = z + 5 := by
    show sZ τ4 = _
    omega
  refine ⟨_, e, zz, fun b hb => ?_, fun h147 => ?_, ?_⟩
  · obtain ⟨g1, g2, g3⟩ := tb b hb
    obtain ⟨x1, x2, x3, x4, x5⟩ := a2 b (by omega)
    obtain ⟨y1, y2, y3, y4, y5⟩ := b2 b (by omega)
    obtain ⟨u1, u2, u3, u4, u5⟩ := c2 b (by omega)
    obtain ⟨v1, v2, v3, v4, v5⟩ := d2 b (by omega)
    refine ⟨?_, ?_, fun k => ?_, fun k => ?_, fun k => ?_⟩
    · rw [kk, v1, u1, y1, x1, tk, if_neg (by omega)]
    · rw [nn, v2, u2, y2, x2, tn, if_neg (by omega)]
    · rw [hw b k (by omega), v3, u3, y3, x3, g1]
    · rw [rr, v4 k (by omega), u4 k (by omega), y4 k (by omega), x4 k (by omega), g2]
    · rw [ll, v5, u5, y5, x5, g3]
  · have s1 : sZ τ1 = z + 2 := by omega
    have s2 : sZ τ2 = z + 3 := by omega
    have s3 : sZ τ3 = z + 4 := by omega
    rw [tz] at a3 a4 a5
    rw [s1] at b3 b4 b5
    rw [s2] at c3 c4 c5
    rw [s3] at d3 d4 d5
    refine ⟨⟨Or.inr (Or.inr (Or.inr h147)), Or.inr (Or.inr (Or.inr (by omega))), Or.inr (Or.inr (Or.inr (by omega))), Or.inr (Or.inr (Or.inr (by omega))), Or.inr (Or.inr (Or.inr (by omega)))⟩, by rw [zz]; omega, k4, ⟨?_, ?_, ?_, ?_⟩, ⟨?_, ?_⟩, ⟨?_, ?_⟩, ⟨?_, ?_⟩, ?_, ?_⟩
    · rw [rr, (d2 z (by omega)).2.2.2.1 4 (by omega), (c2 z (by omega)).2.2.2.1 4 (by omega), (b2 z (by omega)).2.2.2.1 4 (by omega)]; exact a5
    · rw [rr, (d2 z (by omega)).2.2.2.1 5 (by omega), (c2 z (by omega)).2.2.2.1 5 (by omega)]; exact b5
    · rw [rr, (d2 z (by omega)).2.2.2.1 13 (by omega)]; exact c5
    · rw [rr]; exact d5
    · rw [kk, (d2 _ (by omega)).1, (c2 _ (by omega)).1, (b2 _ (by omega)).1]; exact a3
    · rw [nn, (d2 _ (by omega)).2.1, (c2 _ (by omega)).2.1, (b2 _ (by omega)).2.1]; exact a4
    · rw [kk, (d2 _ (by omega)).1, (c2 _ (by omega)).1]; exact b3
    · rw [nn, (d2 _ (by omega)).2.1, (c2 _ (by omega)).2.1]; exact b4
    · rw [kk, (d2 _ (by omega)).1]; exact c3
    · rw [nn, (d2 _ (by omega)).2.1]; exact c4
    · rw [kk]; exact d3
    · rw [nn]; exact d4
  · rw [hw z 1 (by omega), (d2 z (by omega)).2.2.1, (c2 z (by omega)).2.2.1, (b2 z (by omega)).2.2.1, (a2 z (by omega)).2.2.1]; exact t1
/-- one law more -/
theorem RelP.newlaw {A A' : Ab} {σ σ' : Sto} {d n z : Nat} (h : RelP A σ) (hd : sR σ 32 7 = d) (hn : cT 6 A = n) (hn12 : n < 12) (hzz : sZ σ = z) (hA' : up2 A 81 50 (Int32.ofNat (n + 1)) = A') (hC : LawC A σ n d) (h114 : A 114 n = A 81 1) (h115 : A 115 n = -1)
    (fz : sZ σ' = z + 5) (fk : ∀ b, b < z → sK σ' b = sK σ b ∧ sN σ' b = sN σ b ∧ (∀ k, sL σ' b k = sL σ b k)) (fi : ∀ b k, b < z → ¬ (b = d ∧ k = 0) → ¬ (b = 33 ∧ k = 15) → sI σ' b k = sI σ b k) (fr : ∀ b k, b < z → ¬ (b = 40 ∧ k = n) → ¬ (b = 32 ∧ k = 7) → sR σ' b k = sR σ b k)
    (f40 : sR σ' 40 n = d) (f32 : sR σ' 32 7 = z) (fd : sI σ' d 0 = A 81 1) (f33 : sI σ' 33 15 = Int32.ofNat (n + 1)) (fL : LwAt σ' z) (f1 : sI σ' z 1 = 1000000) : RelP A' σ' := by
  obtain ⟨hB, hz, ho, hc, ht, hst, hgn, hrow, hwk, hlw, hhr, hsd, hcl, hap, h73⟩ := h
  obtain ⟨⟨D1, D2, D3⟩, L2, L3, L4, L5⟩ := hlw
  rw [hd] at D1 D2 D3 L3
  have dz := D1.2.1
  have N : ∀ a k, ¬ (a = 81 ∧ k = 50) → A' a k = A a k := fun a k q => by rw [← hA', up2_ne q]
  have hT : ∀ c, c < 6 → cT c A' = cT c A := fun c hc => by
    unfold cT
    rw [N]
    rcases (show c = 0 ∨ c = 1 ∨ c = 2 ∨ c = 3 ∨ c = 4 ∨ c = 5 by omega) with rfl | rfl | rfl | rfl | rfl | rfl <;> decide
  have hT6 : cT 6 A' = n + 1 := by
    show (A' 81 50).toNatClampNeg = _
    rw [← hA', up2_eq, if_pos ⟨rfl, rfl⟩, oI_cl (by omega)]
  have hls : nLs A' = nLs A := by unfold nLs; rw [N 81 2 (by omega)]
  have htn : nTn A' = nTn A := by unfold nTn; rw [N 81 1 (by omega)]
  have hg : Grow A A' := ⟨Nat.le_of_eq hls.symm, Nat.le_of_eq htn.symm, Nat.le_of_eq (hT 0 (by decide)).symm, Nat.le_of_eq (hT 1 (by decide)).symm, Nat.le_of_eq (hT 2 (by decide)).symm, Nat.le_of_eq (hT 4 (by decide)).symm⟩
  have dk := D1.2.2.1
  have hdreg : 75 ≤ d := D2
  have hB' : IB A' := by
    obtain ⟨b1, b2, b3, b4, b5, b6, b7, b8, b9, b10, b11⟩ := hB
    have e : ∀ {k m : Nat}, k ≠ 50 → Bnd A k m → Bnd A' k m := fun k1 hb => by
      obtain ⟨j, j1, j2⟩ := hb
      exact ⟨j, j1, by rw [N _ _ (fun q => k1 q.2)]; exact j2⟩
    exact ⟨e (by decide) b1, e (by decide) b2, e (by decide) b3, e (by decide) b4, e (by decide) b5, e (by decide) b6, e (by decide) b7, e (by decide) b8, ⟨n + 1, by omega, by rw [← hA', up2_eq, if_pos ⟨rfl, rfl⟩]⟩, e (by decide) b10, by rw [N _ _ (by omega)]; exact b11⟩
  -- a cell of another kind stays whole
  have keep : ∀ a, a < z → reg a → sK σ a ≠ 5 → ∀ k, sI σ' a k = sI σ a k := fun a h1 h2 h5 k => fi a k h1 (fun q => h5 (by rw [q.1]; exact dk)) (fun q => by unfold reg at h2; omega)
  have lw' : ∀ a, LwAt σ a → LwAt σ' a := fun a ha => by
    obtain ⟨⟨r0, r1, r2, r3, r4⟩, hz1, hk, ⟨p1, p2, p3, p4⟩, ⟨a1, b1⟩, ⟨a2, b2⟩, ⟨a3, b3⟩, a4, b4⟩ := ha
    have rg : ∀ k, sR σ' a k = sR σ a k := fun k => fr a k (by omega) (fun q => by unfold reg at r0; omega) (fun q => by unfold reg at r0; omega)
    have f0 := fk a (by omega)
    have f1 := fk (a + 1) (by omega)
    have f2 := fk (a + 2) (by omega)
    have f3 := fk (a + 3) (by omega)
    have f4 := fk (a + 4) (by omega)
    exact ⟨⟨r0, r1, r2, r3, r4⟩, by omega, f0.1.trans hk, ⟨(rg _).trans p1, (rg _).trans p2, (rg _).trans p3, (rg _).trans p4⟩, ⟨f1.1.trans a1, f1.2.1.trans b1⟩, ⟨f2.1.trans a2, f2.2.1.trans b2⟩, ⟨f3.1.trans a3, f3.2.1.trans b3⟩, f4.1.trans a4, f4.2.1.trans b4⟩
  refine ⟨hB', by omega, fun c hc' i hi => ?_, fun j hj => ?_, fun j hj => ?_, fun q hq' => ?_, ⟨fun p hp => ?_, ?_⟩, fun c hc' i hi => ?_, ⟨fun i hi => ?_, fun i hi => ?_, fun i j hij hj => ?_⟩, ⟨⟨?_, ?_, ?_⟩, fun i hi => ?_, fun i hi => ?_, fun i j hij hj => ?_, fun i hi hi2 => ?_⟩, hhr.same (hT 4 (by decide)) (fun a i q1 q2 => N a i (by omega)), hsd.same (hT 4 (by decide)) (hT 1 (by decide)) (fun a i q1 q2 => N a i (by omega)) trivial, hcl.same (hT 5 (by decide)) (fun a i q1 q2 => N a i (by omega)), hap.same (fun c h1 h2 i => fr _ _ (by omega) (by omega) (by omega)) (fun c h1 h2 => hT c (by omega)), (N 81 73 (by omega)).trans h73⟩
  · have h0 := ho c hc' i hi
    obtain ⟨r1, r2, r3, r4⟩ := h0
    by_cases c6 : c = 6
    · subst c6
      by_cases ei : i = n
      · subst ei
        have eR : sR σ' (cR 6) i = d := f40
        exact ⟨by rw [eR]; exact D1.1.1, by rw [eR]; omega, by rw [eR, (fk d (by omega)).1]; exact dk, fun k hk => nomatch hk⟩
      · have eR : sR σ' (cR 6) i = sR σ (cR 6) i := fr 40 i (by omega) (by omega) (by omega)
        exact ⟨by rw [eR]; exact r1, by rw [eR]; omega, by rw [eR, (fk _ (by omega)).1]; exact r3, fun k hk => nomatch hk⟩
    · have eR : sR σ' (cR c) i = sR σ (cR c) i := fr _ i (by unfold cR; omega) (by unfold cR; omega) (by unfold cR; omega)
      have hk5 : cK c ≠ 5 := by rcases (show c = 0 ∨ c = 1 ∨ c = 2 ∨ c = 3 ∨ c = 4 ∨ c = 5 by omega) with rfl | rfl | rfl | rfl | rfl | rfl <;> decide
      refine ⟨by rw [eR]; exact r1, by rw [eR]; omega, by rw [eR, (fk _ (by omega)).1]; exact r3, fun k hk => ?_⟩
      rw [eR, keep _ (by omega) r1 (by rw [r3]; exact hk5) k, r4 k hk, hT c (by omega), cV_congr hc' (fun a ha => N a i (by have := tl_U c hc' a ha; omega)) k hk]
  · have h0 := hc j hj
    by_cases e8 : j = 8
    · subst e8
      show sI σ' 33 15 = A' 81 50
      rw [f33, ← hA', up2_eq, if_pos ⟨rfl, rfl⟩]
    · rw [N 81 (cntAt j) (fun q => e8 (by
        have q2 := q.2
        rcases (show j = 0 ∨ j = 1 ∨ j = 2 ∨ j = 3 ∨ j = 4 ∨ j = 5 ∨ j = 6 ∨ j = 7 ∨ j = 8 ∨ j = 9 ∨ j = 10 by omega) with rfl | rfl | rfl | rfl | rfl | rfl | rfl | rfl | rfl | rfl | rfl <;> first | rfl | exact absurd q2 (by decide))), ← h0]
      rcases (show j = 0 ∨ j = 1 ∨ j = 2 ∨ j = 3 ∨ j = 4 ∨ j = 5 ∨ j = 6 ∨ j = 7 ∨ j = 9 ∨ j = 10 by omega) with rfl | rfl | rfl | rfl | rfl | rfl | rfl | rfl | rfl | rfl
      · exact fi 33 0 (by omega) (by omega) (by omega)
      · exact fi 33 1 (by omega) (by omega) (by omega)
      · exact fi 33 3 (by omega) (by omega) (by omega)
      · exact fi 33 5 (by omega) (by omega) (by omega)
      · exact fi 33 7 (by omega) (by omega) (by omega)
      · exact fi 33 9 (by omega) (by omega) (by omega)
      · exact fi 33 11 (by omega) (by omega) (by omega)
      · exact fi 33 13 (by omega) (by omega) (by omega)
      · exact fi 32 5 (by omega) (by omega) (by omega)
      · exact fi 32 6 (by omega) (by omega) (by omega)
  · rw [fi 74 j (by omega) (by omega) (by omega), N 111 j (by omega)]
    exact ht j hj
  · have := stat_lt q hq'
    obtain ⟨g1, g2, -⟩ := fk q.1 (by omega)
    exact ⟨g1.trans (hst q hq').1, g2.trans (hst q hq').2⟩
  · rw [(fk 80 (by omega)).2.2, (fk 145 (by omega)).2.2]; exact hgn.1 p hp
  · rw [fi 66 0 (by omega) (by omega) (by omega)]; exact hgn.2
  · by_cases c6 : c = 6
    · subst c6; trivial
    · rw [hT c (by omega)] at hi
      exact rowOK.mono hc' (hrow c hc' i hi) hg (fun a ha => N a i (by have := tl_U c hc' a ha; omega)) (fun _ j _ => ⟨N 85 _ (by omega), N 86 _ (by omega)⟩) (fun _ s _ => N 97 s (by omega))
  · obtain ⟨h1, h2, h3, h4, h5, h6, h7, h8, h9, h10, h11⟩ := hwk.1 i hi
    have rg : ∀ k, sR σ' (sR σ 35 i) k = sR σ (sR σ 35 i) k := fun k => fr _ k (by omega) (fun q => by unfold reg at h1; omega) (fun q => by unfold reg at h1; omega)
    rw [fr 35 i (by omega) (by omega) (by omega)]
    have f0 := fk (sR σ 35 i) (by omega)
    have f1 := fk (sR σ 35 i + 1) (by omega)
    have f2 := fk (sR σ 35 i + 2) (by omega)
    exact ⟨h1, h2, h3, by omega, f0.1.trans h5, (rg _).trans h6, (rg _).trans h7, f1.1.trans h8, f1.2.1.trans h9, f2.1.trans h10, f2.2.1.trans h11⟩
  · rw [hT 1 (by decide)] at hi
    have hle := (hB.le (c := 1) (by decide)).1
    have hM1 : cM 1 = 30 := rfl
    obtain ⟨u1, u2, u3, u4, u5, u6, u7, u8, u9, u10, u11⟩ := hwk.1 i (by omega)
    obtain ⟨⟨g1, g2⟩, g3⟩ := hwk.2.1 i hi
    rw [fr 35 i (by omega) (by omega) (by omega)]
    have e84 : A' 84 i = A 84 i := N 84 i (by omega)
    refine ⟨⟨fun j hj => ?_, ?_⟩, g3⟩
    · rw [e84] at hj
      rw [keep _ (by omega) u2 (by rw [u8]; decide), keep _ (by omega) u3 (by rw [u10]; decide), N 85 _ (by omega), N 86 _ (by omega)]
      exact g1 j hj
    · rw [keep _ (by omega) u1 (by rw [u5]; decide), e84, wsum_congr _ (fun j _ => N 86 _ (by omega))]
      exact g2
  · rw [hT 1 (by decide)] at hj
    rw [fr 35 i (by omega) (by omega) (by omega), fr 35 j (by omega) (by omega) (by omega)]
    exact hwk.2.2 i j hij hj
  · rw [f32]; exact fL
  · rw [f32]; omega
  · rw [f32]; exact f1
  · by_cases ei : i = n
    · rw [ei, f40]; exact lw' d D1
    · rw [fr 40 i (by omega) (by omega) (by omega)]; exact lw' _ (L2 i hi)
  · rw [hT6] at hi
    rw [f32]
    by_cases ei : i = n
    · rw [ei, f40]
      refine ⟨D2, by omega, hC.keep (fun k k2 => fi d k (by omega) (by omega) (by omega)) (fun k => fi _ k (by omega) (by omega) (by omega)) (fun k => fi _ k (by omega) (by omega) (by omega)) (fun k => fi _ k (by omega) (by omega) (by omega)) hg.1 (fun c c1 c2 _ _ => N c n (by omega)) (fun c c1 c2 j _ => N c _ (by omega)) (fun q _ => N 126 q (by omega)), ?_, ?_, nTn A, by rw [htn]; exact Nat.le_refl _, ?_, Or.inl (by rw [N 115 n (by omega)]; exact h115)⟩
      · rw [fd, N 114 n (by omega), h114]
      · rw [fi d 1 (by omega) (by omega) (by omega), D3, N 115 n (by omega), h115]; rfl
      · rw [N 114 n (by omega), h114]; exact hB.tn.2
    · obtain ⟨g1, g2, g3, g4⟩ := L3 i (by omega)
      rw [fr 40 i (by omega) (by omega) (by omega)]
      have kk : ∀ e k, e ≤ 4 → sI σ' (sR σ 40 i + e) k = sI σ (sR σ 40 i + e) k := fun e k he => fi _ k (by omega) (by omega) (by omega)
      exact ⟨g1, by omega, g3.keep (fun k _ => kk 0 k (by decide)) (fun k => kk 1 k (by decide)) (fun k => kk 2 k (by decide)) (fun k => kk 3 k (by decide)) hg.1 (fun c c1 c2 _ _ => N c i (by omega)) (fun c c1 c2 j _ => N c _ (by omega)) (fun q _ => N 126 q (by omega)), g4.keep (kk 0 0 (by decide)) (kk 0 1 (by decide)) hg.2.1 (N 114 i (by omega)) (N 115 i (by omega))⟩
  · rw [hT6] at hj
    rw [fr 40 i (by omega) (by omega) (by omega)]
    by_cases ej : j = n
    · rw [ej, f40]; exact (L3 i (by omega)).2.1
    · rw [fr 40 j (by omega) (by omega) (by omega)]; exact L4 i j hij (by omega)
  · rw [hT6] at hi
    obtain ⟨g1, g2, g3, g4, g5⟩ := L5 i (by omega) hi2
    have hreg := (L2 i hi2).1.1
    have hlt := (L2 i hi2).2.1
    have kk : ∀ k, sI σ' (sR σ 40 i) k = sI σ (sR σ 40 i) k := fun k => fi _ k (by omega) (by omega) (by unfold reg at hreg; omega)
    rw [fr 40 i (by omega) (by omega) (by omega), kk, kk, kk, kk]
    exact ⟨g1, g2, g3, g4, g5⟩
/-- the two sides of a law read, as one -/
theorem LawC.of {A : Ab} {σ ρ : Sto} {d li t : Nat} {R : Zl} (hD : DR d R σ) (hM : MR li R t ρ) (hL : LOK R) (hN : R.2.1.1 ≤ 16) (hlen : R.2.2.length ≤ 500) (ht : t ≤ 1210 * li + 1100) (hli : li ≤ 12) (hA : ∀ a j, 116 ≤ a → a ≤ 126 → A a j = sI ρ a j) (h2 : sI σ d 2 = A 112 li) (h3 : sI σ d 3 = A 113 li) (i2 : inR (A 112 li) (nLs A)) (i3 : inR (A 113 li) 36500) : LawC A σ li d := by
  obtain ⟨⟨r1, r2, r3⟩, d1, d2⟩ := hD
  obtain ⟨m1, m2, m3, m4⟩ := hM
  obtain ⟨⟨l7, l8, l9, l10, l11⟩, l2, l3, l4⟩ := hL
  have e : ∀ k, 7 ≤ k → k ≤ 12 → A (110 + k) li = R.1 k := fun k k1 k2 => (hA _ li (by omega) (by omega)).trans (m1 k k1 k2)
  have e7 : A 117 li = R.1 7 := e 7 (by decide) (by decide)
  have e8 : A 118 li = R.1 8 := e 8 (by decide) (by decide)
  have e9 : A 119 li = R.1 9 := e 9 (by decide) (by decide)
  have e10 : A 120 li = R.1 10 := e 10 (by decide) (by decide)
  have e11 : A 121 li = R.1 11 := e 11 (by decide) (by decide)
  have e12 : A 122 li = R.1 12 := e 12 (by decide) (by decide)
  have e116 : A 116 li = Int32.ofNat R.2.1.1 := (hA 116 li (by decide) (by decide)).trans m2
  have e124 : ∀ j, j < R.2.1.1 → A 124 (16 * li + j) = Int32.ofNat (R.2.1.2.1 j) := fun j hj => (hA 124 _ (by decide) (by decide)).trans (m3 j hj).1
  have e125 : ∀ j, j < R.2.1.1 → A 125 (16 * li + j) = Int32.ofNat (R.2.1.2.2 j) := fun j hj => (hA 125 _ (by decide) (by decide)).trans (m3 j hj).2
  unfold LawC
  rw [e7, e8, e9, e10, e11, e12, e116, r1 7 (by decide) (by decide), r1 8 (by decide) (by decide), r1 9 (by decide) (by decide), r1 10 (by decide) (by decide), r1 11 (by decide) (by decide), r1 12 (by decide) (by decide)]
  refine ⟨⟨h2, h3, rfl, rfl, rfl, rfl, rfl, rfl⟩, ⟨i2, i3, l7, l8, l9, l10, l11⟩, ⟨R.2.1.1, hN, r2, rfl, fun j hj => ?_, fun j hj => ?_⟩, R.2.2.length, hlen, d1, ?_⟩
  · rw [e124 j hj, e125 j hj]
    exact ⟨(r3 j hj).1, (r3 j hj).2, ⟨_, (l2 j hj).1, rfl⟩, ⟨_, (l2 j hj).2, rfl⟩⟩
  · rw [e124 j (by omega), show 16 * li + j + 1 = 16 * li + (j + 1) from rfl, e124 (j + 1) hj]
    have := (l2 (j + 1) hj).1
    have := l3 j hj
    exact (oI_lt (by omega) (by omega)).mpr this
  · rw [hA 123 li (by decide) (by decide)]
    rcases m4 with ⟨q1, q2⟩ | ⟨q, q1, q2, q3, q4⟩
    · exact Or.inl ⟨by rw [q1]; rfl, q2⟩
    · rcases l4 with l4 | ⟨l4, l5⟩
      · exact absurd l4 q1.1
      · have hpos : 0 < R.2.2.length := Nat.pos_of_ne_zero fun z => l5 (List.eq_nil_of_length_eq_zero z)
        refine Or.inr ⟨hpos, q, by omega, q3, ?_⟩
        have q4' : LG (fun j => A 126 j) q (mc R.2.2 ++ [0]) := q4.congr fun i _ _ => hA 126 i (by decide) (by decide)
        exact code_ok R.2.2 0 q 0 d2 q4' l4 (by omega)
