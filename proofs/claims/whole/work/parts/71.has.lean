/-! what is a person's of a sale -/
def anhV (p2 v0 v1 v2 v3 : Int32) : Int32 := if p2 = 0 then v0 else if p2 = 1 then v1 else if p2 = 2 then v2 else v3
set_option maxHeartbeats 1000000 in
theorem op_has (p0 p1 p2 p3 : Int32) : OpOK (mL_has p0 p1 p2 p3) (mX12_has p0 p1 p2 p3) iJ := by
  intro A σ h
  obtain ⟨nt, nl, np, nw, ns, nr, nf, nc, nL, ⟨b1, b2, b3, b4, b5, b6, b7, b8, b9⟩, ⟨a1, a2, a3, a4, a5, a6, a7, a8, a9⟩, ⟨c0, c1, c2, c3, c4, c5, c6, c7, c8⟩, ⟨d1, d2, d3, d4, d5, d6, d7, d8, d9⟩⟩ := h.nums
  have t0 : ∀ σ' : Sto, sI (wI σ' 81 0 0) 81 0 = 0 := fun _ => rfl
  have r0 : ∀ σ', RM A σ' → RM A (wI σ' 81 0 0) := fun σ' hm => hm.np 81 0 0 rfl
  have me : ∀ σ', RM A σ' → mX12_isEvening p3 (wI σ' 81 0 0) = if ¬ p3 < 0 ∧ p3 ≤ Int32.ofNat nt then some (1, wI σ' 81 0 0) else some (0, wI (wI σ' 81 0 0) 81 0 2) := fun σ' hm => by
    rw [M_isEvening (t0 σ'), (r0 _ hm) 81 1 rfl, a1]
  have mp : ∀ σ', RM A σ' → mX12_isPerson p1 (wI σ' 81 0 0) = if nu p1 np then some (1, wI σ' 81 0 0) else some (0, wI (wI σ' 81 0 0) 81 0 1) := fun σ' hm => by
    rw [M_isPerson (t0 σ'), (r0 _ hm) 81 3 rfl, a3]
  have mh : ∀ ρ, mX12_has p0 p1 p2 p3 ρ = bd2 (mX12_isSale p0 (wI ρ 81 0 0)) fun v2 σ2 => if v2 = 0 then some (0, σ2) else bd2 (mX12_isPerson p1 σ2) fun v4 σ4 => if v4 = 0 then some (0, σ4) else mX12_has_36 p0 p1 p2 p3 (if ¬ p2 < 0 ∧ ¬ 3 < p2 then 1 else 0) σ4 := fun ρ => by
    simp only [mX12_has, mX12_has_35, stp]
    congr 1
    funext v s
    by_cases z0 : v = 0
    · rw [if_pos z0, if_pos z0]
    · rw [if_neg z0, if_neg z0]
      congr 1
      funext v4 s4
      by_cases z4 : v4 = 0
      · rw [if_pos z4, if_pos z4]
      rw [if_neg z4, if_neg z4]
      by_cases z1 : p2 < 0
      · rw [if_pos z1, if_neg (fun q => q.1 z1)]
      · rw [if_neg z1]
        by_cases z2 : 3 < p2
        · rw [if_pos z2, if_neg (fun q => q.2 z2)]
        · rw [if_neg z2, if_pos ⟨z1, z2⟩]
  by_cases g1 : sl A p0
  · obtain ⟨s, s1, s2, s3⟩ := sl_of h.1 g1
    by_cases gp : nu p1 np
    · obtain ⟨p, pp1, pp2⟩ := nu_of (by omega) gp
      have p30 := oI_inb (j := p) (n := 30) (by omega) (by decide)
      by_cases g2 : ¬ p2 < 0 ∧ ¬ 3 < p2
      · by_cases g3 : ¬ p3 < 0 ∧ p3 ≤ Int32.ofNat nt
        · obtain ⟨k, k1, k2⟩ := inR.le (m := nt) (v := p3) (by omega) g3.1 (fun q => nle.mpr q g3.2)
          have hk : k ≤ 999 := by omega
          obtain ⟨k0, -⟩ := h.cb.fa s1
          have eM : ∀ ρ, RM A ρ → mX12_has p0 p1 p2 p3 ρ = (mX12_isKnown p0 p3 (wI ρ 81 0 0)).bind fun v9 => if v9 = 0 then some (0, wI ρ 81 0 0) else (mX12_gathers p3 (wI ρ 81 0 0)).bind fun σ11 => (mX12_sells p0 σ11).bind fun σ12 => some (anhV p2 (sI σ12 135 p) (sI σ12 136 p) (sI σ12 137 p) (sI σ12 138 p), σ12) := fun ρ hm => by
            rw [mh, M_sale1 h.1 (r0 _ hm) (t0 _) g1, bd2_some, if_neg i10, mp _ hm, if_pos gp, bd2_some, if_neg i10, if_pos g2]
            unfold mX12_has_36
            rw [M_right1 (t0 _), bd2_some, if_neg i10, me _ hm, if_pos g3, bd2_some, if_neg i10]
            congr 1
            funext v9
            by_cases z0 : v9 = 0
            · rw [if_pos z0, if_pos z0]
            · rw [if_neg z0, if_neg z0]
              congr 1
              funext σ11
              congr 1
              funext σ12
              rw [pp2, if_pos p30, if_pos p30, if_pos p30, if_pos p30, oI_cl (j := p) (by omega)]
              unfold anhV
              by_cases q0 : p2 = 0
              · rw [if_pos q0, if_pos q0]
              rw [if_neg q0, if_neg q0]
              by_cases q1 : p2 = 1
              · rw [if_pos q1, if_pos q1]
              rw [if_neg q1, if_neg q1]
              by_cases q2 : p2 = 2
              · rw [if_pos q2, if_pos q2]
              rw [if_neg q2, if_neg q2]
          have eK : ∀ ρ, RM A ρ → mX12_isKnown p0 p3 ρ = some (if knB A s k then 1 else 0) := fun ρ hm => by
            rw [s2, k2]; exact M_known h.1 h.row hm s1 hk
          have eC0 : mX11_has p0 p1 p2 p3 σ = if (if knB A s k then (1 : Int32) else 0) = 0 then some (.inr (0, σ)) else (mX0_open p3 σ).bind fun σ8 => (mX0_settle (sR σ 38 s) p0 σ8).bind fun σ9 => some (.inr (anhV p2 (sI σ9 57 p) (sI σ9 58 p) (sI σ9 59 p) (sI σ9 62 p), σ9)) := by
            unfold mX11_has
            rw [C_sale1 h.cb g1, bdp_inr, C_needP c2 (by omega), if_pos gp, bdp_inr, C_needWh, if_pos g2, bdp_inr, C_needE, c0, if_pos g3, bdp_inr, s2, h.cb.at4 s1, bnd_some, if_pos k0, k2, h.cb.known s1 hk, bnd_some]
            by_cases z0 : (if knB A s k then (1 : Int32) else 0) = 0
            · rw [if_pos z0, if_pos z0]
            · rw [if_neg z0, if_neg z0]
              congr 1
              funext σ11
              congr 1
              funext σ12
              rw [pp2, if_pos p30, if_pos p30, if_pos p30, if_pos p30, oI_cl (j := p) (by omega)]
              unfold anhV
              by_cases q0 : p2 = 0
              · rw [if_pos q0, if_pos q0]
              rw [if_neg q0, if_neg q0]
              by_cases q1 : p2 = 1
              · rw [if_pos q1, if_pos q1]
              rw [if_neg q1, if_neg q1]
              by_cases q2 : p2 = 2
              · rw [if_pos q2, if_pos q2]
              rw [if_neg q2, if_neg q2]
          cases kn : knB A s k with
          | false =>
            rw [kn] at eC0
            have eC : mX11_has p0 p1 p2 p3 σ = some (.inr (0, σ)) := eC0
            refine op_same (v := iJ 0) (b := 0) h (by show wr hB iJ σ _ = _; rw [eC]; rfl) ?_ rfl
            rw [eM _ (h.2.2.1.wl _ _ _), eK _ (r0 _ (h.2.2.1.wl _ _ _)), kn]
            rfl
          | true =>
            rw [kn, if_neg (show ¬ (if true = true then (1 : Int32) else 0) = 0 from i10), k2, s2] at eC0
            obtain ⟨σo, σ', o1, o2, o3, o4⟩ := open_settle h hk s1 s3
            rw [o1, bnd_some, o2, bnd_some] at eC0
            have eC : mX11_has p0 p1 p2 p3 σ = some (.inr (anhV p2 (sI σ' 57 p) (sI σ' 58 p) (sI σ' 59 p) (sI σ' 62 p), σ')) := by
              rw [s2, k2, eC0]
            generalize hv : anhV p2 (sI σ' 57 p) (sI σ' 58 p) (sI σ' 59 p) (sI σ' 62 p) = v at eC
            have hm1 : RM A (wL σ' 146 0 (iJ v)) := (h.2.2.1.onC (o3.onC h.stat)).wl _ _ _
            obtain ⟨i, w, y, m, ρ1, ρ', y01, m1, m2, m3, m4, m5, ⟨-, -, -, -, -, -, u⟩, ⟨-, -, -, -, -, -, -, -, v'⟩⟩ := o4 _ (r0 _ hm1)
            refine op_askS (v := iJ v) (b := v) h o3 (by show wr hB iJ σ _ = _; rw [eC]; rfl) ?_ ((OnlyM.rf.w 81 0 0 (by decide)).tr m3) m4 m5 rfl
            obtain ⟨u1, u2, u3, u4, -⟩ := u p (by omega)
            obtain ⟨w1, w2, w3, w4, -⟩ := v' p (by omega)
            rw [eM _ hm1, eK _ (r0 _ hm1), kn, bnd_some, if_neg (show ¬ (if true = true then (1 : Int32) else 0) = 0 from i10), k2, m1, bnd_some, s2, m2, bnd_some, w1, w2, w3, w4, ← hv, u1, u2, u3, u4]
        · have e2 : mX11_has p0 p1 p2 p3 σ = some (.inl 1) := by
            unfold mX11_has
            rw [C_sale1 h.cb g1, bdp_inr, C_needP c2 (by omega), if_pos gp, bdp_inr, C_needWh, if_pos g2, bdp_inr, C_needE, c0, if_neg g3]
            rfl
          refine op_thr (k := 2) (b := 0) h (by decide) (by show wr hB iJ σ _ = _; rw [e2]; rfl) ?_
          rw [mh, M_sale1 h.1 (r0 _ h.2.2.1) (t0 _) g1, bd2_some, if_neg i10, mp _ h.2.2.1, if_pos gp, bd2_some, if_neg i10, if_pos g2]
          unfold mX12_has_36
          rw [M_right1 (t0 _), bd2_some, if_neg i10, me _ h.2.2.1, if_neg g3]
          rfl
      · have e2 : mX11_has p0 p1 p2 p3 σ = some (.inl 0) := by
          unfold mX11_has
          rw [C_sale1 h.cb g1, bdp_inr, C_needP c2 (by omega), if_pos gp, bdp_inr, C_needWh, if_neg g2]
          rfl
        refine op_thr (k := 1) (b := 0) h (by decide) (by show wr hB iJ σ _ = _; rw [e2]; rfl) ?_
        rw [mh, M_sale1 h.1 (r0 _ h.2.2.1) (t0 _) g1, bd2_some, if_neg i10, mp _ h.2.2.1, if_pos gp, bd2_some, if_neg i10, if_neg g2]
        unfold mX12_has_36
        rw [M_right0 (t0 _) (by decide)]
        rfl
    · have e2 : mX11_has p0 p1 p2 p3 σ = some (.inl 0) := by
        unfold mX11_has
        rw [C_sale1 h.cb g1, bdp_inr, C_needP c2 (by omega), if_neg gp]
        rfl
      refine op_thr (k := 1) (b := 0) h (by decide) (by show wr hB iJ σ _ = _; rw [e2]; rfl) ?_
      rw [mh, M_sale1 h.1 (r0 _ h.2.2.1) (t0 _) g1, bd2_some, if_neg i10, mp _ h.2.2.1, if_neg gp]
      rfl
  · have e2 : mX11_has p0 p1 p2 p3 σ = some (.inl 0) := by
      unfold mX11_has
      rw [C_sale0 h.cb g1]
      rfl
    refine op_thr (k := 1) (b := 0) h (by decide) (by show wr hB iJ σ _ = _; rw [e2]; rfl) ?_
    rw [mh, M_sale0 h.1 (r0 _ h.2.2.1) (t0 _) g1]
    rfl
