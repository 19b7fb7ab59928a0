/-! questions of a sale -/
theorem JJ.of {A : Ab} {k : Nat} {σ ρ : Sto} (hz : A 81 73 = 0) (h : CB A σ) (hO : OP A k σ) (hm : RM A ρ) (hG : GA A k ρ) : JJ A k σ ρ := ⟨h, hO, hm, hG, (hm 81 73 rfl).trans hz⟩
theorem open_settle {A : Ab} {σ : Sto} {s k : Nat} (h : Rel A σ) (hk : k ≤ 999) (hs : s < cT 4 A) (hks : A 97 s = 2) :
    ∃ σo σ', mX0_open (Int32.ofNat k) σ = some σo ∧ mX0_settle (sR σ 38 s) (Int32.ofNat s) σo = some σ' ∧ Sc σ σ' ∧ ∀ ρ0, RM A ρ0 → ∃ i w y m ρ1 ρ', (y = 0 ∨ y = 1) ∧ mX12_gathers (Int32.ofNat k) ρ0 = some ρ1 ∧ mX12_sells (Int32.ofNat s) ρ1 = some ρ' ∧ OnlyM ρ0 ρ' ∧ RM A ρ' ∧ sI ρ' 81 0 = sI ρ0 81 0 ∧ SVC A i s w k y m σ' ∧ SV A i s w k (lawV A (A 103 s) (A 101 s) k) y m ρ' := by
  obtain ⟨σo, o1, o2, o3, o4⟩ := C_open hk h.cb
  have ho := h.cb.sc o2
  have e38 : sR σo 38 s = sR σ 38 s := o2.2.2.2.1 38 s (by decide)
  obtain ⟨ρd, d1, d2, d3, d4, d5, d6⟩ := M_gath h.1 h.row hk h.2.2.1
  obtain ⟨-, -, -, -, σ', -, -, -, -, -, z1, -, z2, -, -, -, -⟩ := settle_eq hk hs hks h.hr h.cl (JJ.of h.z ho o3 d3 d6)
  refine ⟨σo, σ', o1, by rw [← e38]; exact z1, o2.tr z2, fun ρ0 hm => ?_⟩
  obtain ⟨ρ1, g1, g2, g3, g4, g5, g6⟩ := M_gath h.1 h.row hk hm
  obtain ⟨i, w, y, m, σ'', ρ', y01, -, -, -, q1, q2, q3, q4, q5, q6, q7, -⟩ := settle_eq hk hs hks h.hr h.cl (JJ.of h.z ho o3 g3 g6)
  have e : σ'' = σ' := by
    rw [z1] at q1
    exact (Option.some.inj q1).symm
  rw [e] at q6
  exact ⟨i, w, y, m, ρ1, ρ', y01, g1, q2, g2.tr (q4.onM SX_rng), q5.2.2.1, (q4.2.2.2.2.2 81 0 (by unfold SX; omega)).trans g4, q6, q7⟩
def ansV (p1 v0 v1 v2 v3 v4 v5 v6 v7 : Int32) : Int32 := if p1 = 0 then v0 else if p1 = 1 then v1 else if p1 = 2 then v2 else if p1 = 3 then v3 else if p1 = 4 then v4 else if p1 = 5 then v5 else if p1 = 6 then v6 else v7
set_option maxHeartbeats 1000000 in
theorem op_sold (p0 p1 p2 : Int32) : OpOK (mL_sold p0 p1 p2) (mX12_sold p0 p1 p2) iJ := by
  intro A σ h
  obtain ⟨nt, nl, np, nw, ns, nr, nf, nc, nL, ⟨b1, b2, b3, b4, b5, b6, b7, b8, b9⟩, ⟨a1, a2, a3, a4, a5, a6, a7, a8, a9⟩, ⟨c0, c1, c2, c3, c4, c5, c6, c7, c8⟩, ⟨d1, d2, d3, d4, d5, d6, d7, d8, d9⟩⟩ := h.nums
  have t0 : ∀ σ' : Sto, sI (wI σ' 81 0 0) 81 0 = 0 := fun _ => rfl
  have r0 : ∀ σ', RM A σ' → RM A (wI σ' 81 0 0) := fun σ' hm => hm.np 81 0 0 rfl
  have me : ∀ σ', RM A σ' → mX12_isEvening p2 (wI σ' 81 0 0) = if ¬ p2 < 0 ∧ p2 ≤ Int32.ofNat nt then some (1, wI σ' 81 0 0) else some (0, wI (wI σ' 81 0 0) 81 0 2) := fun σ' hm => by
    rw [M_isEvening (t0 σ'), (r0 _ hm) 81 1 rfl, a1]
  have mh : ∀ ρ, mX12_sold p0 p1 p2 ρ = bd2 (mX12_isSale p0 (wI ρ 81 0 0)) fun v2 σ2 => if v2 = 0 then some (0, σ2) else mX12_sold_29 p0 p1 p2 (if ¬ p1 < 0 ∧ ¬ 7 < p1 then 1 else 0) σ2 := fun ρ => by
    simp only [mX12_sold, mX12_sold_28, stp]
    congr 1
    funext v s
    by_cases z0 : v = 0
    · rw [if_pos z0, if_pos z0]
    · rw [if_neg z0, if_neg z0]
      by_cases z1 : p1 < 0
      · rw [if_pos z1, if_neg (fun q => q.1 z1)]
      · rw [if_neg z1]
        by_cases z2 : 7 < p1
        · rw [if_pos z2, if_neg (fun q => q.2 z2)]
        · rw [if_neg z2, if_pos ⟨z1, z2⟩]
  by_cases g1 : sl A p0
  · obtain ⟨s, s1, s2, s3⟩ := sl_of h.1 g1
    by_cases g2 : ¬ p1 < 0 ∧ ¬ 7 < p1
    · by_cases g3 : ¬ p2 < 0 ∧ p2 ≤ Int32.ofNat nt
      · obtain ⟨k, k1, k2⟩ := inR.le (m := nt) (v := p2) (by omega) g3.1 (fun q => nle.mpr q g3.2)
        have hk : k ≤ 999 := by omega
        obtain ⟨k0, f0, f2, f3, f4, f5, f6, f7, f8, f9, f10, -⟩ := h.cb.fa s1
        rw [if_neg (by rw [s3]; decide)] at f6
        rw [if_pos s3] at f10
        have eM : ∀ ρ, RM A ρ → mX12_sold p0 p1 p2 ρ = (mX12_isKnown p0 p2 (wI ρ 81 0 0)).bind fun v9 => if v9 = 0 then some (-1, wI ρ 81 0 0) else (mX12_gathers p2 (wI ρ 81 0 0)).bind fun σ11 => (mX12_sells p0 σ11).bind fun σ12 => some (ansV p1 (sI σ12 81 78) (sI σ12 81 83) (sI σ12 81 84) (sI σ12 81 85) (sI σ12 81 86) (sI σ12 81 79) (sI σ12 81 80) (sI σ12 81 82), σ12) := fun ρ hm => by
          rw [mh, M_sale1 h.1 (r0 _ hm) (t0 _) g1, bd2_some, if_neg i10, if_pos g2]
          unfold mX12_sold_29
          rw [M_right1 (t0 _), bd2_some, if_neg i10, me _ hm, if_pos g3, bd2_some, if_neg i10]
          congr 1
          funext v9
          by_cases z0 : v9 = 0
          · rw [if_pos z0, if_pos z0]
          · rw [if_neg z0, if_neg z0]
            congr 1
            funext σ11
            congr 1
            funext σ12
            unfold ansV
            by_cases q0 : p1 = 0
            · rw [if_pos q0, if_pos q0]
            rw [if_neg q0, if_neg q0]
            by_cases q1 : p1 = 1
            · rw [if_pos q1, if_pos q1]
            rw [if_neg q1, if_neg q1]
            by_cases q2 : p1 = 2
            · rw [if_pos q2, if_pos q2]
            rw [if_neg q2, if_neg q2]
            by_cases q3 : p1 = 3
            · rw [if_pos q3, if_pos q3]
            rw [if_neg q3, if_neg q3]
            by_cases q4 : p1 = 4
            · rw [if_pos q4, if_pos q4]
            rw [if_neg q4, if_neg q4]
            by_cases q5 : p1 = 5
            · rw [if_pos q5, if_pos q5]
            rw [if_neg q5, if_neg q5]
            by_cases q6 : p1 = 6
            · rw [if_pos q6, if_pos q6]
            rw [if_neg q6, if_neg q6]
        have eK : ∀ ρ, RM A ρ → mX12_isKnown p0 p2 ρ = some (if knB A s k then 1 else 0) := fun ρ hm => by
          rw [s2, k2]; exact M_known h.1 h.row hm s1 hk
        have eC0 : mX11_sold p0 p1 p2 σ = if (if knB A s k then (1 : Int32) else 0) = 0 then some (.inr (-1, σ)) else (mX0_open p2 σ).bind fun σ8 => (mX0_settle (sR σ 38 s) p0 σ8).bind fun σ9 =>
            if p1 = 0 then some (.inr (sI σ9 53 7, σ9)) else if p1 = 1 then (if sI σ9 53 10 = 0 then some (.inr (0, σ9)) else some (.inr (1, σ9))) else if p1 = 2 then some (.inr (sI σ9 53 11, σ9)) else if p1 = 3 then some (.inr (sI σ9 53 12, σ9)) else
            if p1 = 4 then (if sK σ9 (sR σ 38 s) = 4 then (mX1_collectorIn (sI σ9 (sR σ 38 s) 10) σ9).bind fun v17 => some (.inr (v17, σ9)) else none) else
            if p1 = 5 then (if sK σ9 (sR σ 38 s) = 4 then (mX1_lawFor (sI σ9 (sR σ 38 s) 10) (sI σ9 (sR σ 38 s) 6) p2 σ9).bind fun v20 => some (.inr (v20, σ9)) else none) else
            if p1 = 6 then some (.inr (sI σ9 53 8, σ9)) else some (.inr (sI σ9 53 9, σ9)) := by
          unfold mX11_sold
          rw [C_sale1 h.cb g1, bdp_inr, C_needWh, if_pos g2, bdp_inr, C_needE, c0, if_pos g3, bdp_inr, s2, h.cb.at4 s1, bnd_some, if_pos k0, k2, h.cb.known s1 hk, bnd_some]
        cases kn : knB A s k with
        | false =>
          rw [kn] at eC0
          have eC : mX11_sold p0 p1 p2 σ = some (.inr (-1, σ)) := eC0
          refine op_same (v := iJ (-1)) (b := -1) h (by show wr hB iJ σ _ = _; rw [eC]; rfl) ?_ rfl
          rw [eM _ (h.2.2.1.wl _ _ _), eK _ (r0 _ (h.2.2.1.wl _ _ _)), kn]
          rfl
        | true =>
          rw [kn, if_neg (show ¬ (if true = true then (1 : Int32) else 0) = 0 from i10), k2, s2] at eC0
          obtain ⟨σo, σ', o1, o2, o3, o4⟩ := open_settle h hk s1 s3
          have h' := h.cb.sc o3
          have e38 : sR σ' 38 s = sR σ 38 s := o3.2.2.2.1 38 s (by decide)
          obtain ⟨k0', -, -, -, -, -, f6', -, -, -, f10', -⟩ := h'.fa s1
          rw [if_neg (by rw [s3]; decide)] at f6'
          rw [if_pos s3] at f10'
          rw [e38] at k0' f6' f10'
          rw [o1, bnd_some, o2, bnd_some, if_pos k0', f10', f6', C_col h', bnd_some, C_law h' _ _ hk, bnd_some, if_pos k0'] at eC0
          -- the class's answer
          have eC : mX11_sold p0 p1 p2 σ = some (.inr (ansV p1 (sI σ' 53 7) (if sI σ' 53 10 = 0 then 0 else 1) (sI σ' 53 11) (sI σ' 53 12) (oB (colV A (A 103 s))) (oB (lawV A (A 103 s) (A 101 s) k)) (sI σ' 53 8) (sI σ' 53 9), σ')) := by
            rw [s2, k2, eC0]
            unfold ansV
            by_cases q0 : p1 = 0
            · rw [if_pos q0, if_pos q0]
            rw [if_neg q0, if_neg q0]
            by_cases q1 : p1 = 1
            · rw [if_pos q1, if_pos q1]
              by_cases z : sI σ' 53 10 = 0
              · rw [if_pos z, if_pos z]
              · rw [if_neg z, if_neg z]
            rw [if_neg q1, if_neg q1]
            by_cases q2 : p1 = 2
            · rw [if_pos q2, if_pos q2]
            rw [if_neg q2, if_neg q2]
            by_cases q3 : p1 = 3
            · rw [if_pos q3, if_pos q3]
            rw [if_neg q3, if_neg q3]
            by_cases q4 : p1 = 4
            · rw [if_pos q4, if_pos q4]
            rw [if_neg q4, if_neg q4]
            by_cases q5 : p1 = 5
            · rw [if_pos q5, if_pos q5]
            rw [if_neg q5, if_neg q5]
            by_cases q6 : p1 = 6
            · rw [if_pos q6, if_pos q6]
            rw [if_neg q6, if_neg q6]
          generalize hv : ansV p1 (sI σ' 53 7) (if sI σ' 53 10 = 0 then 0 else 1) (sI σ' 53 11) (sI σ' 53 12) (oB (colV A (A 103 s))) (oB (lawV A (A 103 s) (A 101 s) k)) (sI σ' 53 8) (sI σ' 53 9) = v at eC
          have hm1 : RM A (wL σ' 146 0 (iJ v)) := (h.2.2.1.onC (o3.onC h.stat)).wl _ _ _
          obtain ⟨i, w, y, m, ρ1, ρ', y01, m1, m2, m3, m4, m5, ⟨u7, u8, u9, u10, u11, u12, -⟩, ⟨v78, v79, v80, v82, v83, v84, v86, v85, -⟩⟩ := o4 _ (r0 _ hm1)
          refine op_askS (v := iJ v) (b := v) h o3 (by show wr hB iJ σ _ = _; rw [eC]; rfl) ?_ ((OnlyM.rf.w 81 0 0 (by decide)).tr m3) m4 m5 rfl
          rw [eM _ hm1, eK _ (r0 _ hm1), kn, bnd_some, if_neg (show ¬ (if true = true then (1 : Int32) else 0) = 0 from i10), k2, m1, bnd_some, s2, m2, bnd_some, v78, v79, v80, v82, v83, v84, v86, v85, ← hv, u7, u8, u9, u10, u11, u12]
          rcases y01 with rfl | rfl <;> rfl
      · have e2 : mX11_sold p0 p1 p2 σ = some (.inl 1) := by
          unfold mX11_sold
          rw [C_sale1 h.cb g1, bdp_inr, C_needWh, if_pos g2, bdp_inr, C_needE, c0, if_neg g3]
          rfl
        refine op_thr (k := 2) (b := 0) h (by decide) (by show wr hB iJ σ _ = _; rw [e2]; rfl) ?_
        rw [mh, M_sale1 h.1 (r0 _ h.2.2.1) (t0 _) g1, bd2_some, if_neg i10, if_pos g2]
        unfold mX12_sold_29
        rw [M_right1 (t0 _), bd2_some, if_neg i10, me _ h.2.2.1, if_neg g3]
        rfl
    · have e2 : mX11_sold p0 p1 p2 σ = some (.inl 0) := by
        unfold mX11_sold
        rw [C_sale1 h.cb g1, bdp_inr, C_needWh, if_neg g2]
        rfl
      refine op_thr (k := 1) (b := 0) h (by decide) (by show wr hB iJ σ _ = _; rw [e2]; rfl) ?_
      rw [mh, M_sale1 h.1 (r0 _ h.2.2.1) (t0 _) g1, bd2_some, if_neg i10, if_neg g2]
      unfold mX12_sold_29
      rw [M_right0 (t0 _) (by decide)]
      rfl
  · have e2 : mX11_sold p0 p1 p2 σ = some (.inl 0) := by
      unfold mX11_sold
      rw [C_sale0 h.cb g1]
      rfl
    refine op_thr (k := 1) (b := 0) h (by decide) (by show wr hB iJ σ _ = _; rw [e2]; rfl) ?_
    rw [mh, M_sale0 h.1 (r0 _ h.2.2.1) (t0 _) g1]
    rfl
