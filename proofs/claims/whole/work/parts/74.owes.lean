/-! what is owed, nets -/
def nV (f : Nat → Int64) (a : Nat) : Nat → Int64
  | 0 => 0
  | n + 1 => nV f a n + (f (5 * n + a) - f (5 * a + n))
theorem nV_congr {f g : Nat → Int64} {a : Nat} (ha : a < 5) (h : ∀ j, j < 25 → f j = g j) : ∀ n, n ≤ 5 → nV f a n = nV g a n
  | 0, _ => rfl
  | n + 1, hn => by
    unfold nV
    rw [nV_congr ha h n (by omega), h _ (by omega), h _ (by omega)]
theorem nV_zero {f : Nat → Int64} {a : Nat} (h : ∀ n, n < 5 → f (5 * n + a) = 0 ∧ f (5 * a + n) = 0) : ∀ n, n ≤ 5 → nV f a n = 0
  | 0, _ => rfl
  | n + 1, hn => by
    unfold nV
    rw [nV_zero h n (by omega), (h n (by omega)).1, (h n (by omega)).2]
    rfl
theorem C_owed {σ : Sto} {a b : Nat} (ha : a < 5) (hb : b < 5) : mX2_owed (Int32.ofNat a) (Int32.ofNat b) σ = some (sL σ 64 (5 * a + b)) := by
  unfold mX2_owed
  rw [(C_pair ha).2 b hb, if_neg (ne_neg1 (by omega)), if_pos (oI_inb (j := 5 * a + b) (n := 25) (by omega) (by decide)), oI_cl (j := 5 * a + b) (by omega)]
theorem C_net_l {σ : Sto} {a : Nat} (ha : a < 5) : ∀ m n fuel, n + m = 5 → m < fuel → mX2_netOf_5 fuel (Int32.ofNat a) (nV (sL σ 64) a n) (Int32.ofNat n) σ = some (nV (sL σ 64) a 5) := by
  intro m
  induction m with
  | zero =>
    intro n fuel hn hf
    obtain ⟨x, rfl⟩ : ∃ n, fuel = n + 1 := ⟨fuel - 1, by omega⟩
    have e : n = 5 := by omega
    subst e
    refine Eq.trans (b := mX2_netOf_5B (mX2_netOf_5 x) (Int32.ofNat a) (nV (sL σ 64) a 5) (Int32.ofNat 5) σ) rfl ?_
    unfold mX2_netOf_5B
    rw [if_pos (by decide)]
  | succ m ih =>
    intro n fuel hn hf
    obtain ⟨x, rfl⟩ : ∃ n, fuel = n + 1 := ⟨fuel - 1, by omega⟩
    refine Eq.trans (b := mX2_netOf_5B (mX2_netOf_5 x) (Int32.ofNat a) (nV (sL σ 64) a n) (Int32.ofNat n) σ) rfl ?_
    unfold mX2_netOf_5B
    rw [if_neg (q_5 (p := n) (by omega)), C_owed (by omega) ha, bnd_some, C_owed ha (by omega), bnd_some, oI_s]
    exact ih (n + 1) x (by omega) (by omega)
theorem C_net {σ : Sto} {a : Nat} (ha : a < 5) : mX2_netOf (Int32.ofNat a) σ = some (nV (sL σ 64) a 5) := C_net_l ha 5 0 FU rfl (show 5 < 5000 by omega)
theorem M_net_l {ρ : Sto} {a : Nat} (ha : a < 5) : ∀ m n fuel, n + m = 5 → m < fuel → mX12_netOf_5 fuel (Int32.ofNat a) (nV (sL ρ 142) a n) (Int32.ofNat n) ρ = some (nV (sL ρ 142) a 5) := by
  intro m
  induction m with
  | zero =>
    intro n fuel hn hf
    obtain ⟨x, rfl⟩ : ∃ n, fuel = n + 1 := ⟨fuel - 1, by omega⟩
    have e : n = 5 := by omega
    subst e
    refine Eq.trans (b := mX12_netOf_5B (mX12_netOf_5 x) (Int32.ofNat a) (nV (sL ρ 142) a 5) (Int32.ofNat 5) ρ) rfl ?_
    unfold mX12_netOf_5B
    rw [if_pos (by decide)]
  | succ m ih =>
    intro n fuel hn hf
    obtain ⟨x, rfl⟩ : ∃ n, fuel = n + 1 := ⟨fuel - 1, by omega⟩
    have e5 : ∀ x y : Nat, (5 : Int32) * Int32.ofNat x + Int32.ofNat y = Int32.ofNat (5 * x + y) := fun x y => by
      show Int32.ofNat 5 * Int32.ofNat x + Int32.ofNat y = _
      rw [oI_mul, oI_add]
    refine Eq.trans (b := mX12_netOf_5B (mX12_netOf_5 x) (Int32.ofNat a) (nV (sL ρ 142) a n) (Int32.ofNat n) ρ) rfl ?_
    unfold mX12_netOf_5B
    rw [if_neg (q_5 (p := n) (by omega)), e5, e5, if_pos (oI_inb (j := 5 * n + a) (n := 25) (by omega) (by decide)), if_pos (oI_inb (j := 5 * a + n) (n := 25) (by omega) (by decide)), oI_cl (j := 5 * n + a) (by omega), oI_cl (j := 5 * a + n) (by omega), oI_s]
    exact ih (n + 1) x (by omega) (by omega)
theorem M_net {ρ : Sto} {a : Nat} (ha : a < 5) : mX12_netOf (Int32.ofNat a) ρ = some (nV (sL ρ 142) a 5) := M_net_l ha 5 0 FU rfl (show 5 < 5000 by omega)
set_option maxHeartbeats 1000000 in
theorem op_owes (p0 p1 p2 p3 : Int32) : OpOK (mL_owes p0 p1 p2 p3) (mX12_owes p0 p1 p2 p3) jJ := by
  intro A σ h
  obtain ⟨nt, nl, np, nw, ns, nr, nf, nc, nL, ⟨b1, b2, b3, b4, b5, b6, b7, b8, b9⟩, ⟨a1, a2, a3, a4, a5, a6, a7, a8, a9⟩, ⟨c0, c1, c2, c3, c4, c5, c6, c7, c8⟩, ⟨d1, d2, d3, d4, d5, d6, d7, d8, d9⟩⟩ := h.nums
  have t0 : ∀ σ' : Sto, sI (wI σ' 81 0 0) 81 0 = 0 := fun _ => rfl
  have r0 : ∀ σ', RM A σ' → RM A (wI σ' 81 0 0) := fun σ' hm => hm.np 81 0 0 rfl
  have me : ∀ σ', RM A σ' → mX12_isEvening p3 (wI σ' 81 0 0) = if ¬ p3 < 0 ∧ p3 ≤ Int32.ofNat nt then some (1, wI σ' 81 0 0) else some (0, wI (wI σ' 81 0 0) 81 0 2) := fun σ' hm => by
    rw [M_isEvening (t0 σ'), (r0 _ hm) 81 1 rfl, a1]
  have ms : ∀ p σ', RM A σ' → mX12_isSociety p (wI σ' 81 0 0) = if nu p ns then some (1, wI σ' 81 0 0) else some (0, wI (wI σ' 81 0 0) 81 0 1) := fun p σ' hm => by
    rw [M_isSociety (t0 σ'), (r0 _ hm) 81 5 rfl, a5]
  by_cases g1 : nu p0 ns
  · obtain ⟨a, aa1, aa2⟩ := nu_of (by omega) g1
    by_cases g2 : nu p1 ns
    · obtain ⟨b, bb1, bb2⟩ := nu_of (by omega) g2
      by_cases gy : ¬ p2 < 0 ∧ ¬ 99 < p2
      · by_cases g3 : ¬ p3 < 0 ∧ p3 ≤ Int32.ofNat nt
        · obtain ⟨k, k1, k2⟩ := inR.le (m := nt) (v := p3) (by omega) g3.1 (fun q => nle.mpr q g3.2)
          obtain ⟨σ', z1, z2, z3⟩ := clear_all (yr := p2) h (show k ≤ 999 by omega)
          have eC : mX11_owes p0 p1 p2 p3 σ = some (.inr (sL σ' 64 (5 * a + b), σ')) := by
            unfold mX11_owes
            rw [C_needS c4 (by omega), if_pos g1, bdp_inr, C_needS c4 (by omega), if_pos g2, bdp_inr, C_needY, if_pos gy, bdp_inr, C_needE, c0, if_pos g3, bdp_inr, k2, z1, bnd_some, aa2, bb2, C_owed (by omega) (by omega), bnd_some]
          generalize hv : sL σ' 64 (5 * a + b) = v at eC
          have hm1 : RM A (wL σ' 146 0 (jJ v)) := (h.2.2.1.onC (z2.onC h.stat)).wl _ _ _
          obtain ⟨ρ', e1, e2, e3, e4, e5⟩ := z3 _ (r0 _ hm1)
          refine op_askS (v := jJ v) (b := v) h z2 (by show wr hB jJ σ _ = _; rw [eC]; rfl) (ρ := ρ') ?_ ((OnlyM.rf.w 81 0 0 (by decide)).tr e2) e3 e4 rfl
          have e5' : (5 : Int32) * Int32.ofNat a + Int32.ofNat b = Int32.ofNat (5 * a + b) := by
            show Int32.ofNat 5 * Int32.ofNat a + Int32.ofNat b = _
            rw [oI_mul, oI_add]
          simp only [mX12_owes, stp]
          rw [ms _ _ hm1, if_pos g1, bd2_some, if_neg i10, ms _ _ hm1, if_pos g2, bd2_some, if_neg i10, M_isYear (t0 _), if_pos gy, bd2_some, if_neg i10, me _ hm1, if_pos g3, bd2_some, if_neg i10, k2, e1, bnd_some, aa2, bb2, e5', if_pos (oI_inb (j := 5 * a + b) (n := 25) (by omega) (by decide)), oI_cl (j := 5 * a + b) (by omega), ← e5.1 (5 * a + b) (by omega), hv]
        · have e2 : mX11_owes p0 p1 p2 p3 σ = some (.inl 1) := by
            unfold mX11_owes
            rw [C_needS c4 (by omega), if_pos g1, bdp_inr, C_needS c4 (by omega), if_pos g2, bdp_inr, C_needY, if_pos gy, bdp_inr, C_needE, c0, if_neg g3]
            rfl
          refine op_thr (k := 2) (b := 0) h (by decide) (by show wr hB jJ σ _ = _; rw [e2]; rfl) ?_
          simp only [mX12_owes, stp]
          rw [ms _ _ h.2.2.1, if_pos g1, bd2_some, if_neg i10, ms _ _ h.2.2.1, if_pos g2, bd2_some, if_neg i10, M_isYear (t0 _), if_pos gy, bd2_some, if_neg i10, me _ h.2.2.1, if_neg g3]
          rfl
      · have e2 : mX11_owes p0 p1 p2 p3 σ = some (.inl 0) := by
          unfold mX11_owes
          rw [C_needS c4 (by omega), if_pos g1, bdp_inr, C_needS c4 (by omega), if_pos g2, bdp_inr, C_needY, if_neg gy]
          rfl
        refine op_thr (k := 1) (b := 0) h (by decide) (by show wr hB jJ σ _ = _; rw [e2]; rfl) ?_
        simp only [mX12_owes, stp]
        rw [ms _ _ h.2.2.1, if_pos g1, bd2_some, if_neg i10, ms _ _ h.2.2.1, if_pos g2, bd2_some, if_neg i10, M_isYear (t0 _), if_neg gy]
        rfl
    · have e2 : mX11_owes p0 p1 p2 p3 σ = some (.inl 0) := by
        unfold mX11_owes
        rw [C_needS c4 (by omega), if_pos g1, bdp_inr, C_needS c4 (by omega), if_neg g2]
        rfl
      refine op_thr (k := 1) (b := 0) h (by decide) (by show wr hB jJ σ _ = _; rw [e2]; rfl) ?_
      simp only [mX12_owes, stp]
      rw [ms _ _ h.2.2.1, if_pos g1, bd2_some, if_neg i10, ms _ _ h.2.2.1, if_neg g2]
      rfl
  · have e2 : mX11_owes p0 p1 p2 p3 σ = some (.inl 0) := by
      unfold mX11_owes
      rw [C_needS c4 (by omega), if_neg g1]
      rfl
    refine op_thr (k := 1) (b := 0) h (by decide) (by show wr hB jJ σ _ = _; rw [e2]; rfl) ?_
    simp only [mX12_owes, stp]
    rw [ms _ _ h.2.2.1, if_neg g1]
    rfl
set_option maxHeartbeats 1000000 in
theorem op_net (p0 p1 p2 : Int32) : OpOK (mL_net p0 p1 p2) (mX12_net p0 p1 p2) jJ := by
  intro A σ h
  obtain ⟨nt, nl, np, nw, ns, nr, nf, nc, nL, ⟨b1, b2, b3, b4, b5, b6, b7, b8, b9⟩, ⟨a1, a2, a3, a4, a5, a6, a7, a8, a9⟩, ⟨c0, c1, c2, c3, c4, c5, c6, c7, c8⟩, ⟨d1, d2, d3, d4, d5, d6, d7, d8, d9⟩⟩ := h.nums
  have t0 : ∀ σ' : Sto, sI (wI σ' 81 0 0) 81 0 = 0 := fun _ => rfl
  have r0 : ∀ σ', RM A σ' → RM A (wI σ' 81 0 0) := fun σ' hm => hm.np 81 0 0 rfl
  have me : ∀ σ', RM A σ' → mX12_isEvening p2 (wI σ' 81 0 0) = if ¬ p2 < 0 ∧ p2 ≤ Int32.ofNat nt then some (1, wI σ' 81 0 0) else some (0, wI (wI σ' 81 0 0) 81 0 2) := fun σ' hm => by
    rw [M_isEvening (t0 σ'), (r0 _ hm) 81 1 rfl, a1]
  have ms : ∀ p σ', RM A σ' → mX12_isSociety p (wI σ' 81 0 0) = if nu p ns then some (1, wI σ' 81 0 0) else some (0, wI (wI σ' 81 0 0) 81 0 1) := fun p σ' hm => by
    rw [M_isSociety (t0 σ'), (r0 _ hm) 81 5 rfl, a5]
  by_cases g1 : nu p0 ns
  · obtain ⟨a, aa1, aa2⟩ := nu_of (by omega) g1
    by_cases gy : ¬ p1 < 0 ∧ ¬ 99 < p1
    · by_cases g3 : ¬ p2 < 0 ∧ p2 ≤ Int32.ofNat nt
      · obtain ⟨k, k1, k2⟩ := inR.le (m := nt) (v := p2) (by omega) g3.1 (fun q => nle.mpr q g3.2)
        obtain ⟨σ', z1, z2, z3⟩ := clear_all (yr := p1) h (show k ≤ 999 by omega)
        have eC : mX11_net p0 p1 p2 σ = some (.inr (nV (sL σ' 64) a 5, σ')) := by
          unfold mX11_net
          rw [C_needS c4 (by omega), if_pos g1, bdp_inr, C_needY, if_pos gy, bdp_inr, C_needE, c0, if_pos g3, bdp_inr, k2, z1, bnd_some, aa2, C_net (by omega), bnd_some]
        generalize hv : nV (sL σ' 64) a 5 = v at eC
        have hm1 : RM A (wL σ' 146 0 (jJ v)) := (h.2.2.1.onC (z2.onC h.stat)).wl _ _ _
        obtain ⟨ρ', e1, e2, e3, e4, e5⟩ := z3 _ (r0 _ hm1)
        refine op_askS (v := jJ v) (b := v) h z2 (by show wr hB jJ σ _ = _; rw [eC]; rfl) (ρ := ρ') ?_ ((OnlyM.rf.w 81 0 0 (by decide)).tr e2) e3 e4 rfl
        simp only [mX12_net, stp]
        rw [ms _ _ hm1, if_pos g1, bd2_some, if_neg i10, M_isYear (t0 _), if_pos gy, bd2_some, if_neg i10, me _ hm1, if_pos g3, bd2_some, if_neg i10, k2, e1, bnd_some, aa2, M_net (by omega), bnd_some, ← nV_congr (f := sL σ' 64) (by omega) e5.1 5 (Nat.le_refl _), hv]
      · have e2 : mX11_net p0 p1 p2 σ = some (.inl 1) := by
          unfold mX11_net
          rw [C_needS c4 (by omega), if_pos g1, bdp_inr, C_needY, if_pos gy, bdp_inr, C_needE, c0, if_neg g3]
          rfl
        refine op_thr (k := 2) (b := 0) h (by decide) (by show wr hB jJ σ _ = _; rw [e2]; rfl) ?_
        simp only [mX12_net, stp]
        rw [ms _ _ h.2.2.1, if_pos g1, bd2_some, if_neg i10, M_isYear (t0 _), if_pos gy, bd2_some, if_neg i10, me _ h.2.2.1, if_neg g3]
        rfl
    · have e2 : mX11_net p0 p1 p2 σ = some (.inl 0) := by
        unfold mX11_net
        rw [C_needS c4 (by omega), if_pos g1, bdp_inr, C_needY, if_neg gy]
        rfl
      refine op_thr (k := 1) (b := 0) h (by decide) (by show wr hB jJ σ _ = _; rw [e2]; rfl) ?_
      simp only [mX12_net, stp]
      rw [ms _ _ h.2.2.1, if_pos g1, bd2_some, if_neg i10, M_isYear (t0 _), if_neg gy]
      rfl
  · have e2 : mX11_net p0 p1 p2 σ = some (.inl 0) := by
      unfold mX11_net
      rw [C_needS c4 (by omega), if_neg g1]
      rfl
    refine op_thr (k := 1) (b := 0) h (by decide) (by show wr hB jJ σ _ = _; rw [e2]; rfl) ?_
    simp only [mX12_net, stp]
    rw [ms _ _ h.2.2.1, if_neg g1]
    rfl
