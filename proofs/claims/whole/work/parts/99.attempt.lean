/-! attempt: both tell it -/
set_option maxHeartbeats 4000000 in
theorem op_attempt (p0 p1 p2 : Int32) : OpOK (mL_attempt p0 p1 p2) (mX12_attempt p0 p1 p2) iJ := by
  intro A σ h
  obtain ⟨nt, nl, np, nw, ns, nr, nf, nc, nL, ⟨b1, b2, b3, b4, b5, b6, b7, b8, b9⟩, ⟨a1, a2, a3, a4, a5, a6, a7, a8, a9⟩, ⟨c0, c1, c2, c3, c4, c5, c6, c7, c8⟩, ⟨d1, d2, d3, d4, d5, d6, d7, d8, d9⟩⟩ := h.nums
  obtain ⟨tl, tl1, tl2⟩ := h.1.2.2.2.2.2.2.2.2.2.1
  have c5t : sI σ 32 5 = Int32.ofNat tl := (h.cnt 9 (by decide)).trans tl2
  have t0 : ∀ σ' : Sto, sI (wI σ' 81 0 0) 81 0 = 0 := fun _ => rfl
  have r0 : ∀ σ', RM A σ' → RM A (wI σ' 81 0 0) := fun σ' hm => hm.np 81 0 0 rfl
  have mi : ∀ σ', RM A σ' → mX12_isLand p0 (wI σ' 81 0 0) = if nu p0 nl then some (1, wI σ' 81 0 0) else some (0, wI (wI σ' 81 0 0) 81 0 1) := fun σ' hm => by
    rw [M_isLand (t0 σ'), (r0 _ hm) 81 2 rfl, a2]
  have m39 : ∀ σ', RM A σ' → sI (wI σ' 81 0 0) 81 39 = Int32.ofNat tl := fun σ' hm => ((r0 _ hm) 81 39 rfl).trans tl2
  by_cases g1 : nu p0 nl
  · by_cases g2 : ¬ p1 < 0 ∧ p1 ≤ Int32.ofNat tl
    · obtain ⟨n, hn, hp1⟩ := inR.le (m := tl) (v := p1) (by omega) g2.1 (fun q => nle.mpr q g2.2)
      have hn' : n ≤ tl := by omega
      obtain ⟨⟨D1, D2, D3⟩, -⟩ := h.lw
      have cn : Int32.ofNat n ≤ sI σ 32 5 := by rw [c5t]; exact (oI_le (by omega) (by omega)).mpr hn'
      have pre : ∀ ρ0, RM A ρ0 → mX12_attempt p0 (Int32.ofNat n) p2 ρ0 = (fun σ8 => if (mX12_isDay p2 σ8) = 0 then (
      stp (wI σ8 81 39 (0 : Int32)) fun σ36 =>
      some ((9 : Int32), σ36)
    ) else (
      (mX12_reads (12 : Int32) (Int32.ofNat n) σ8).bind fun σ11 =>
      if (mX12_isGood σ11) = 0 then (
        some ((sI σ11 81 40), σ11)
      ) else (
        stp (wI σ11 112 ((12 : Int32)).toNatClampNeg p0) fun σ14 =>
        stp (wI σ14 113 ((12 : Int32)).toNatClampNeg p2) fun σ15 =>
        (mX12_gathers (sI σ15 81 1) σ15).bind fun σ16 =>
        mX12_attempt_111 FU p0 (0 : Int32) σ16
      )
    )) (wI (wI (wI ρ0 81 0 0) 81 41 (-1)) 81 40 0) := fun ρ0 hm => by
        unfold mX12_attempt mX12_attempt_31
        simp only [stp]
        rw [mi _ hm, if_pos g1, bd2_some, if_neg i10, if_neg (oI_nn (by omega)), m39 _ hm, if_neg (fun q => absurd ((oI_lt (by omega) (by omega)).mp q) (by omega)), M_right1 (t0 _), bd2_some, if_neg i10]
      subst hp1
      by_cases g4 : ¬ (p2 < 0 ∨ 36499 < p2)
      · obtain ⟨v, σF, e1, x1, f5, fd2, fd3, cs⟩ := C_tape (d := sR σ 32 7) h rfl b2 c1 g1 cn (by omega) g4
        have hmF : RM A σF := h.2.2.1.cz D1 D2 x1
        have nday : ∀ ρ, ¬ mX12_isDay p2 ρ = 0 := fun ρ q => g4 (M_isDay.mp q)
        have ht := h.2.2.2.2.2.1
        obtain ⟨j0, j1, j2⟩ := nu_of (by omega) g1
        -- the reference reads
        have mr : ∀ ρ0, RM A ρ0 → ∃ ρ' cnt, mX12_reads 12 (Int32.ofNat n) (wI (wI (wI ρ0 81 0 0) 81 41 (-1)) 81 40 0) = some ρ' ∧ Ey (SRd 12) (wI (wI (wI ρ0 81 0 0) 81 41 (-1)) 81 40 0) ρ' ∧ cnt ≤ 17 ∧ MZ (tbN A) n nl 12 cnt (zLaw (tbN A) n nl) ρ' ∧ sI ρ' 81 39 = 0 := fun ρ0 hm =>
          M_read (li := 12) (by omega) (tbN_b ht) ⟨by omega, b2⟩ (by omega) (fun j hj => (hm 111 j rfl).trans (tbN_e ht hj)) rfl rfl ((hm 81 2 rfl).trans a2)
        have same8 : ∀ ρ0, RM A ρ0 → ∀ ρ', Ey (SRd 12) (wI (wI (wI ρ0 81 0 0) 81 41 (-1)) 81 40 0) ρ' → ∀ a k, pr a k = true → ¬ SRd 12 a k → ¬ (a = 81 ∧ k = 41) → sI ρ' a k = A a k := fun ρ0 hm ρ' y a k hp q1 q2 => by
          have n0 : ¬ (a = 81 ∧ k = 0) := fun z => by have := pr_81 (by rw [← z.1]; exact hp); omega
          have n40 : ¬ (a = 81 ∧ k = 40) := fun z => by have := pr_81 (by rw [← z.1]; exact hp); omega
          rw [y.2.2.2.2.2 a k q1, sI_wI, if_neg n40, sI_wI, if_neg q2, sI_wI, if_neg n0]
          exact hm a k hp
        have om8 : ∀ ρ0 : Sto, OnlyM ρ0 (wI (wI (wI ρ0 81 0 0) 81 41 (-1)) 81 40 0) := fun ρ0 => ((OnlyM.rf.w 81 0 0 (by decide)).w 81 41 (-1) (by decide)).w 81 40 0 (by decide)
        rcases cs with ⟨e, z1, z2, z3⟩ | ⟨s, R, z1, z2, z3, z4⟩
        · -- a fault
          have he := zLaw_ok.1 e z1
          have hm1 : RM A (wL σF 146 0 (iJ (Int32.ofNat e.1))) := hmF.wl _ _ _
          obtain ⟨ρ', cnt, y1, y2, -, y4, y5⟩ := mr _ hm1
          rw [z1] at y4
          obtain ⟨w1, w2, w3⟩ := y4
          have n0 : ¬ Int32.ofNat e.1 = 0 := fun q => absurd ((eq_lit (v := 0) (m := 0) rfl (by omega) (by decide)).mp q) (by omega)
          have e2 : mX11_attempt p0 (Int32.ofNat n) p2 σ = some (.inr (Int32.ofNat e.1, σF)) := by
            unfold mX11_attempt
            rw [e1, bdx_inr, z2, if_neg n0]
          have e3 : mX12_attempt p0 (Int32.ofNat n) p2 (wL σF 146 0 (iJ (Int32.ofNat e.1))) = some (Int32.ofNat e.1, ρ') := by
            rw [pre _ hm1]
            show (if mX12_isDay p2 _ = 0 then _ else _) = _
            rw [if_neg (nday _), y1, bnd_some, good_l w1 w2, if_pos rfl, w2]
          have om : OnlyM (wL σF 146 0 (iJ (Int32.ofNat e.1))) ρ' := (om8 _).tr (y2.onM SRd_rng)
          have rp := h.tape rfl x1 f5 (li := 12) (ρ := ρ') (by omega) (fun a k hp q1 q2 _ => same8 _ hm1 ρ' y2 a k hp q1 q2) y5 (by rw [w3, z3])
          refine ⟨0, _, _, ρ', by show wr hB iJ σ (mX11_attempt p0 (Int32.ofNat n) p2 σ) = _; rw [e2]; rfl, e3, ?_, fun _ => ?_, RA A ρ', rp.fin om (RA_rm A ρ')⟩
          · rw [y2.2.2.2.2.2 81 0 (by unfold SRd; omega)]; rfl
          · rw [(om.2.2.2.2.2 146 (Or.inr (by decide))).2 0]; rfl
        · -- a draft
          obtain ⟨q1, q2, q3, q4⟩ := zLaw_ok.2 s R z1
          have i33 : ∀ k, sI σF 33 k = sI σ 33 k := fun k => x1.2.2.2.2.2 33 k (by unfold Cz; omega)
          have r7 : sR σF 32 7 = sR σ 32 7 := x1.2.2.2.1 32 7 (by decide)
          have big : ∀ ρ0, RM A ρ0 → ∃ A' σE ρE, mX12_attempt p0 (Int32.ofNat n) p2 ρ0 = some (0, ρE) ∧ mX11_tryDraft σF = some σE ∧ RelP A' σF ∧ ScL σF σE ∧ OnlyM ρ0 (rL ρE ρ0.2.1) ∧ (∀ b, b ≠ 145 → (b < 81 ∨ 145 < b) → ∀ q, sL ρE b q = sL ρ0 b q) ∧ RM A' ρE ∧ sI ρE 81 0 = 0 ∧ ∀ q, q < 30 → sL σE 80 q = sL ρE 145 q := fun ρ0 hm1 => by
            obtain ⟨ρ', cnt, y1, y2, y3, y4, y5⟩ := mr _ hm1
            rw [z1] at y4
            obtain ⟨t, ⟨g0, -, gM, gt, -⟩⟩ := y4
            have gg : mX12_isGood ρ' = 1 := good_r g0.2.2.2.1
            have s8 := same8 _ hm1 ρ' y2
            generalize hρ4 : wI (wI ρ' 112 12 p0) 113 12 p2 = ρ4
            have v4 : ∀ a k, ¬ (112 ≤ a ∧ a ≤ 115 ∧ k = 12) → sI ρ4 a k = sI ρ' a k := fun a k q => by
              rw [← hρ4, sI_wI, if_neg (by omega), sI_wI, if_neg (by omega)]
            have v112 : sI ρ4 112 12 = p0 := by rw [← hρ4, sI_wI, if_neg (by omega), sI_wI, if_pos ⟨rfl, rfl⟩]
            have v113 : sI ρ4 113 12 = p2 := by rw [← hρ4, sI_wI, if_pos ⟨rfl, rfl⟩]
            have rp := h.tape rfl x1 f5 (li := 12) (ρ := ρ4) (by omega) (fun a k hp q1 q2 q3 => (v4 a k q3).trans (s8 a k hp q1 q2)) ((v4 81 39 (by omega)).trans y5) (by rw [v4 81 41 (by omega), g0.2.2.2.2.1, z3])
            have om4 : OnlyM ρ' ρ4 := by
              rw [← hρ4]
              exact (OnlyM.rf.w 112 12 p0 (by decide)).w 113 12 p2 (by decide)
            have h81 : ∀ k, k ≠ 39 → k ≠ 41 → RA A ρ4 81 k = A 81 k := fun k k1 k2 => RA_eq fun hp => (v4 81 k (by omega)).trans (s8 81 k hp (by have := pr_81 hp; unfold SRd; omega) (by omega))
            have hls : nLs (RA A ρ4) = nl := by unfold nLs; rw [h81 2 (by decide) (by decide)]; exact d2
            have e112 : RA A ρ4 112 12 = p0 := (RA_at (pr_hi (by decide) (by decide))).trans v112
            have e113 : RA A ρ4 113 12 = p2 := (RA_at (pr_hi (by decide) (by decide))).trans v113
            have hC : LawC (RA A ρ4) σF 12 (sR σ 32 7) := LawC.of z4 (ρ := ρ') (t := t) gM q2 q3 (by omega) (by have := gt.2; omega) (by omega) (fun a j h1 h2 => (RA_at (pr_hi (by omega) h2)).trans (v4 a j (by omega))) (by rw [e112]; exact fd2) (by rw [e113]; exact fd3) (by rw [e112, hls]; exact ⟨j0, j1, j2⟩) (by rw [e113]; exact day_in g4)
            have rm4 : RM (RA A ρ4) ρ4 := RA_rm A ρ4
            obtain ⟨σE, ρE, t1, t2, t3, t4, t5, t6, t7, t8⟩ := try_all (A := RA A ρ4) rp.2.2.2.2.2.2.2.2.2.2.1 rp.2.2.2.2.2.2.2.2.2.2.2.2.2.2 rp.cb r7 hC rm4
            have om := (om8 ρ0).tr ((y2.onM SRd_rng).tr om4)
            refine ⟨RA A ρ4, σE, ρE, ?_, t1, rp, t3, ?_, fun b hb hb2 q => (t5 b hb hb2 q).trans ((om.2.2.2.2.2 b hb2).2 q), t6, ?_, t8⟩
            · rw [pre _ hm1]
              show (if mX12_isDay p2 _ = 0 then _ else _) = _
              rw [if_neg (nday _), y1, bnd_some, gg, if_neg i10]
              simp only [stp]
              rw [show ((12 : Int32)).toNatClampNeg = 12 from rfl, hρ4, show sI ρ4 81 1 = RA A ρ4 81 1 from (rm4 81 1 rfl)]
              rw [e112] at t2
              exact t2
            · exact ⟨t4.1.trans om.1, fun b => (t4.2.1 b).trans (om.2.1 b), fun b => (t4.2.2.1 b).trans (om.2.2.1 b), fun b k => (t4.2.2.2.1 b k).trans (om.2.2.2.1 b k), fun _ => rfl, fun b hb => ⟨fun k => ((t4.2.2.2.2.2 b hb).1 k).trans ((om.2.2.2.2.2 b hb).1 k), fun _ => rfl⟩⟩
            · rw [t7, v4 81 0 (by omega), y2.2.2.2.2.2 81 0 (by unfold SRd; omega)]; rfl
          obtain ⟨A0, σE, ρE0, -, u2, u3, u4, -⟩ := big _ hmF
          have hmE : RM A (wL σE 146 0 (iJ 0)) := (RM.onC (σ' := rL σE σF.2.1) hmF (Sc.onC (σ' := rL σE σF.2.1) u4 u3.2.2.2.2.2.1) : RM A σE)
          obtain ⟨A', σE', ρE, w1, w2, w3, w4, w5, w6, w7, w8, w9⟩ := big _ hmE
          have eE : σE' = σE := by rw [u2] at w2; exact (Option.some.inj w2).symm
          rw [eE] at w4 w9
          have e2 : mX11_attempt p0 (Int32.ofNat n) p2 σ = some (.inr (0, σE)) := by
            unfold mX11_attempt
            rw [e1, bdx_inr, z2, if_pos rfl, u2, bnd_some]
          refine ⟨0, _, _, ρE, by show wr hB iJ σ (mX11_attempt p0 (Int32.ofNat n) p2 σ) = _; rw [e2]; rfl, w1, w8, fun _ => ?_, A', w3.tried w4 w5 w7 (fun q hq => ?_)⟩
          · rw [w6 146 (by decide) (Or.inr (by decide)) 0]; rfl
          · rw [w6 80 (by decide) (Or.inl (by decide)) q]
            exact w9 q hq
      · -- not read
        have hy : p2 < 0 ∨ 36499 < p2 := Classical.byContradiction g4
        have e2 : mX11_attempt p0 (Int32.ofNat n) p2 σ = some (.inr (9, wI (wI σ 32 5 0) 32 6 (-1))) := by
          unfold mX11_attempt mX11_readTape
          rw [C_needL c1 (by omega), if_pos g1, bdp_inr, if_neg (oI_nn (by omega)), if_pos cn]
          simp only [stp]
          rw [if_neg i10, if_pos (C_isDay.mpr hy), bdx_inr, if_neg (by decide)]
        have x1 : Ez (Cz (sR σ 32 7)) σ (wI (wI σ 32 5 0) 32 6 (-1)) := ⟨rfl, fun _ => rfl, fun _ => rfl, fun _ _ _ => rfl, fun _ _ => rfl, fun a j hj => by rw [sI_wI, if_neg (fun z => hj (Or.inl ⟨z.1, Or.inr z.2⟩)), sI_wI, if_neg (fun z => hj (Or.inl ⟨z.1, Or.inl z.2⟩))]⟩
        have hm1 : RM A (wL (wI (wI σ 32 5 0) 32 6 (-1)) 146 0 (iJ 9)) := (h.2.2.1.cz D1 D2 x1).wl _ _ _
        have e3 : mX12_attempt p0 (Int32.ofNat n) p2 (wL (wI (wI σ 32 5 0) 32 6 (-1)) 146 0 (iJ 9)) = some (9, wI (wI (wI (wI (wL (wI (wI σ 32 5 0) 32 6 (-1)) 146 0 (iJ 9)) 81 0 0) 81 41 (-1)) 81 40 0) 81 39 0) := by
          rw [pre _ hm1]
          show (if mX12_isDay p2 _ = 0 then _ else _) = _
          rw [if_pos (M_isDay.mpr hy)]
        generalize hρ : wI (wI (wI (wI (wL (wI (wI σ 32 5 0) 32 6 (-1)) 146 0 (iJ 9)) 81 0 0) 81 41 (-1)) 81 40 0) 81 39 0 = ρ at e3
        have om : OnlyM (wL (wI (wI σ 32 5 0) 32 6 (-1)) 146 0 (iJ 9)) ρ := by
          rw [← hρ]
          exact (((OnlyM.rf.w 81 0 0 (by decide)).w 81 41 (-1) (by decide)).w 81 40 0 (by decide)).w 81 39 0 (by decide)
        have rp := h.tape rfl x1 rfl (li := 12) (ρ := ρ) (by omega) (fun a k hp q1 q2 _ => by
          have n0 : ¬ (a = 81 ∧ k = 0) := fun z => by have := pr_81 (by rw [← z.1]; exact hp); omega
          have n40 : ¬ (a = 81 ∧ k = 40) := fun z => by have := pr_81 (by rw [← z.1]; exact hp); omega
          have n39 : ¬ (a = 81 ∧ k = 39) := fun z => q1 (Or.inl ⟨z.1, Or.inl (by omega)⟩)
          rw [← hρ, sI_wI, if_neg n39, sI_wI, if_neg n40, sI_wI, if_neg q2, sI_wI, if_neg n0]
          exact hm1 a k hp) (by rw [← hρ]; rfl) (by rw [← hρ]; rfl)
        refine ⟨0, _, _, ρ, by show wr hB iJ σ (mX11_attempt p0 (Int32.ofNat n) p2 σ) = _; rw [e2]; rfl, e3, by rw [← hρ]; rfl, fun _ => by rw [← hρ]; rfl, RA A ρ, rp.fin om (RA_rm A ρ)⟩
    · have e2 : mX11_attempt p0 p1 p2 σ = some (.inl 1) := by
        unfold mX11_attempt mX11_readTape
        rw [C_needL c1 (by omega), if_pos g1, bdp_inr]
        by_cases q : p1 < 0
        · rw [if_pos q]; rfl
        · rw [if_neg q, if_neg (fun q2 => g2 ⟨q, by rw [← c5t]; exact q2⟩)]; rfl
      refine op_thr2 (k := 2) (b := 0) h (by decide) (by show wr hB iJ σ (mX11_attempt p0 p1 p2 σ) = _; rw [e2]; rfl) ?_
      have e30 : mX12_attempt_30 p0 p1 p2 (wI σ 81 0 0) = some (0, wI (wI σ 81 0 0) 81 0 2) := by
        unfold mX12_attempt_30 mX12_attempt_31
        rw [M_right0 (t0 _) (by decide), bd2_some, if_pos rfl]
      unfold mX12_attempt
      simp only [stp]
      rw [mi _ h.2.2.1, if_pos g1, bd2_some, if_neg i10, e30, m39 _ h.2.2.1]
      by_cases q : p1 < 0
      · rw [if_pos q]
      · rw [if_neg q, if_pos (nle.mp fun q2 => g2 ⟨q, q2⟩)]
  · have e2 : mX11_attempt p0 p1 p2 σ = some (.inl 0) := by
      unfold mX11_attempt mX11_readTape
      rw [C_needL c1 (by omega), if_neg g1]; rfl
    refine op_thr (k := 1) (b := 0) h (by decide) (by show wr hB iJ σ (mX11_attempt p0 p1 p2 σ) = _; rw [e2]; rfl) ?_
    unfold mX12_attempt
    simp only [stp]
    rw [mi _ h.2.2.1, if_neg g1]
    rfl
