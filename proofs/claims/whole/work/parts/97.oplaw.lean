/-! law: both tell it -/
def RA (A : Ab) (ρ : Sto) : Ab := fun a k => if pr a k = true then sI ρ a k else A a k
theorem RA_rm (A : Ab) (ρ : Sto) : RM (RA A ρ) ρ := fun a k hp => (if_pos hp).symm
theorem RA_at {A : Ab} {ρ : Sto} {a k : Nat} (h : pr a k = true) : RA A ρ a k = sI ρ a k := if_pos h
theorem RA_eq {A : Ab} {ρ : Sto} {a k : Nat} (h : pr a k = true → sI ρ a k = A a k) : RA A ρ a k = A a k := by
  unfold RA
  by_cases c : pr a k = true
  · rw [if_pos c]; exact h c
  · rw [if_neg c]
theorem pr_81 {k : Nat} (h : pr 81 k = true) : k = 1 ∨ k = 2 ∨ k = 3 ∨ k = 4 ∨ k = 5 ∨ k = 6 ∨ k = 7 ∨ k = 8 ∨ k = 39 ∨ k = 41 ∨ k = 50 ∨ k = 73 := by
  unfold pr at h
  simp only [Bool.or_eq_true, Bool.and_eq_true, beq_iff_eq, decide_eq_true_eq] at h
  omega
theorem pr_hi {a k : Nat} (h1 : 82 ≤ a) (h2 : a ≤ 126) : pr a k = true := by
  unfold pr
  simp only [Bool.or_eq_true, Bool.and_eq_true, beq_iff_eq, decide_eq_true_eq]
  omega
theorem Rel.tape {A : Ab} {σ σ' ρ : Sto} {d li : Nat} (h : Rel A σ) (hd : sR σ 32 7 = d) (x : Ez (Cz d) σ σ') (t5 : sI σ' 32 5 = 0) (hli : cT 6 A ≤ li) (hsame : ∀ a k, pr a k = true → ¬ SRd li a k → ¬ (a = 81 ∧ k = 41) → ¬ (112 ≤ a ∧ a ≤ 115 ∧ k = li) → sI ρ a k = A a k) (h39 : sI ρ 81 39 = 0) (h41 : sI ρ 81 41 = sI σ' 32 6) : RelP (RA A ρ) σ' := by
  refine h.p.tape hd x t5 (fun k k1 k2 => RA_eq fun hp => ?_) ((RA_at rfl).trans h39) ((RA_at rfl).trans h41) (fun a a1 a2 i => RA_eq fun hp => hsame a i hp (by unfold SRd; omega) (by omega) (by omega)) (fun c c1 c2 i hi => RA_eq fun hp => hsame c i hp (by unfold SRd; omega) (by omega) (by omega)) (fun c c1 c2 j hj => RA_eq fun hp => hsame c j hp (by unfold SRd; omega) (by omega) (by omega)) (fun q hq => RA_eq fun hp => hsame 126 q hp (by unfold SRd; omega) (by omega) (by omega))
  have := pr_81 hp
  exact hsame 81 k hp (by unfold SRd; omega) (by omega) (by omega)
theorem SRd_rng {li : Nat} : ∀ b k, SRd li b k → 81 ≤ b ∧ b ≤ 145 := fun b k h => by unfold SRd at h; omega
theorem RM.cz {A : Ab} {σ σ' : Sto} {d : Nat} (h : RM A σ) (hd : LwAt σ d) (hd2 : 75 ≤ d) (x : Ez (Cz d) σ σ') : RM A σ' := fun a k hp => by
  obtain ⟨⟨r0, r1, r2, r3, r4⟩, -⟩ := hd
  have hr := pr_rng hp
  rw [x.2.2.2.2.2 a k (by unfold reg at *; unfold Cz; omega)]
  exact h a k hp
theorem LwAt.wr32 {σ : Sto} {a v : Nat} (h : LwAt σ a) : LwAt (wR σ 32 7 v) a := by
  obtain ⟨⟨r0, r1, r2, r3, r4⟩, hz, hk, ⟨p1, p2, p3, p4⟩, q⟩ := h
  have r : ∀ k, sR (wR σ 32 7 v) a k = sR σ a k := fun k => by rw [sR_wR, if_neg (by unfold reg at r0; omega)]
  exact ⟨⟨r0, r1, r2, r3, r4⟩, hz, hk, ⟨(r _).trans p1, (r _).trans p2, (r _).trans p3, (r _).trans p4⟩, q⟩
set_option maxHeartbeats 4000000 in
theorem op_law (p0 p1 p2 : Int32) : OpOK (mL_law p0 p1 p2) (mX12_law p0 p1 p2) iJ := by
  intro A σ h
  obtain ⟨nt, nl, np, nw, ns, nr, nf, nc, nL, ⟨b1, b2, b3, b4, b5, b6, b7, b8, b9⟩, ⟨a1, a2, a3, a4, a5, a6, a7, a8, a9⟩, ⟨c0, c1, c2, c3, c4, c5, c6, c7, c8⟩, ⟨d1, d2, d3, d4, d5, d6, d7, d8, d9⟩⟩ := h.nums
  obtain ⟨tl, tl1, tl2⟩ := h.1.2.2.2.2.2.2.2.2.2.1
  have c5t : sI σ 32 5 = Int32.ofNat tl := (h.cnt 9 (by decide)).trans tl2
  have t0 : ∀ σ' : Sto, sI (wI σ' 81 0 0) 81 0 = 0 := fun _ => rfl
  have r0 : ∀ σ', RM A σ' → RM A (wI σ' 81 0 0) := fun σ' hm => hm.np 81 0 0 rfl
  have mi : ∀ σ', RM A σ' → mX12_isLand p0 (wI σ' 81 0 0) = if nu p0 nl then some (1, wI σ' 81 0 0) else some (0, wI (wI σ' 81 0 0) 81 0 1) := fun σ' hm => by
    rw [M_isLand (t0 σ'), (r0 _ hm) 81 2 rfl, a2]
  have m39 : ∀ σ', RM A σ' → sI (wI σ' 81 0 0) 81 39 = Int32.ofNat tl := fun σ' hm => ((r0 _ hm) 81 39 rfl).trans tl2
  by_cases g1 : nu p0 nl
  · by_cases g2 : ¬ p1 < 0 ∧ p1 ≤ Int32.ofNat tl
    · obtain ⟨n, hn, hp1⟩ := inR.le (m := tl) (v := p1) (by omega) g2.1 (fun q => nle.mpr q g2.2)
      have hn' : n ≤ tl := by omega
      obtain ⟨⟨D1, D2, D3⟩, -⟩ := h.lw
      have cn : Int32.ofNat n ≤ sI σ 32 5 := by rw [c5t]; exact (oI_le (by omega) (by omega)).mpr hn'
      have pre : ∀ ρ0, RM A ρ0 → mX12_law p0 (Int32.ofNat n) p2 ρ0 = (fun σ8 => if (sI σ8 81 50) = (12 : Int32) then (
      mX12_law_66 σ8
    ) else (
      if (mX12_isDay p2 σ8) = 0 then (
        mX12_law_66 σ8
      ) else (
        (mX12_reads (sI σ8 81 50) (Int32.ofNat n) σ8).bind fun σ13 =>
        if (mX12_isGood σ13) = 0 then (
          some (((-1 : Int32) - (sI σ13 81 40)), σ13)
        ) else (
          if inb (sI σ13 81 50) 13 then
          stp (wI σ13 112 ((sI σ13 81 50)).toNatClampNeg p0) fun σ17 =>
          if inb (sI σ17 81 50) 13 then
          stp (wI σ17 113 ((sI σ17 81 50)).toNatClampNeg p2) fun σ19 =>
          if inb (sI σ19 81 50) 13 then
          stp (wI σ19 114 ((sI σ19 81 50)).toNatClampNeg (sI σ19 81 1)) fun σ21 =>
          if inb (sI σ21 81 50) 13 then
          stp (wI σ21 115 ((sI σ21 81 50)).toNatClampNeg (-1 : Int32)) fun σ23 =>
          stp (wI σ23 81 50 ((sI σ23 81 50) + (1 : Int32))) fun σ24 =>
          some (((sI σ24 81 50) - (1 : Int32)), σ24)
          else none
          else none
          else none
          else none
        )
      )
    )) (wI (wI (wI ρ0 81 0 0) 81 41 (-1)) 81 40 0) := fun ρ0 hm => by
        unfold mX12_law mX12_law_31
        simp only [stp]
        rw [mi _ hm, if_pos g1, bd2_some, if_neg i10, if_neg (oI_nn (by omega)), m39 _ hm, if_neg (fun q => absurd ((oI_lt (by omega) (by omega)).mp q) (by omega)), M_right1 (t0 _), bd2_some, if_neg i10]
      have m50 : ∀ ρ0, RM A ρ0 → sI (wI (wI (wI ρ0 81 0 0) 81 41 (-1)) 81 40 0) 81 50 = Int32.ofNat nL := fun ρ0 hm => (hm 81 50 rfl).trans a9
      subst hp1
      by_cases g3 : nL < 12 ∧ ¬ (p2 < 0 ∨ 36499 < p2)
      · obtain ⟨g3, g4⟩ := g3
        obtain ⟨v, σF, e1, x1, f5, fd2, fd3, cs⟩ := C_tape (d := sR σ 32 7) h rfl b2 c1 g1 cn (by omega) g4
        have hmF : RM A σF := h.2.2.1.cz D1 D2 x1
        have q12 : ¬ (12 : Int32) ≤ sI σ 33 15 := by rw [c8]; exact fun q => absurd ((lit_le (v := 12) (m := 12) rfl (by decide) (by omega)).mp q) (by omega)
        have n12 : ¬ Int32.ofNat nL = 12 := fun q => absurd ((eq_lit (v := 12) (m := 12) rfl (by omega) (by decide)).mp q) (by omega)
        have nday : ∀ ρ, ¬ mX12_isDay p2 ρ = 0 := fun ρ q => g4 (M_isDay.mp q)
        have ht := h.2.2.2.2.2.1
        obtain ⟨j0, j1, j2⟩ := nu_of (by omega) g1
        -- the reference reads
        have mr : ∀ ρ0, RM A ρ0 → ∃ ρ' cnt, mX12_reads (sI (wI (wI (wI ρ0 81 0 0) 81 41 (-1)) 81 40 0) 81 50) (Int32.ofNat n) (wI (wI (wI ρ0 81 0 0) 81 41 (-1)) 81 40 0) = some ρ' ∧ Ey (SRd nL) (wI (wI (wI ρ0 81 0 0) 81 41 (-1)) 81 40 0) ρ' ∧ cnt ≤ 17 ∧ MZ (tbN A) n nl nL cnt (zLaw (tbN A) n nl) ρ' ∧ sI ρ' 81 39 = 0 := fun ρ0 hm => by
          rw [m50 ρ0 hm]
          exact M_read (by omega) (tbN_b ht) ⟨by omega, b2⟩ (by omega) (fun j hj => (hm 111 j rfl).trans (tbN_e ht hj)) rfl rfl ((hm 81 2 rfl).trans a2)
        have same8 : ∀ ρ0, RM A ρ0 → ∀ ρ', Ey (SRd nL) (wI (wI (wI ρ0 81 0 0) 81 41 (-1)) 81 40 0) ρ' → ∀ a k, pr a k = true → ¬ SRd nL a k → ¬ (a = 81 ∧ k = 41) → sI ρ' a k = A a k := fun ρ0 hm ρ' y a k hp q1 q2 => by
          have n0 : ¬ (a = 81 ∧ k = 0) := fun z => by have := pr_81 (by rw [← z.1]; exact hp); omega
          have n40 : ¬ (a = 81 ∧ k = 40) := fun z => by have := pr_81 (by rw [← z.1]; exact hp); omega
          rw [y.2.2.2.2.2 a k q1, sI_wI, if_neg n40, sI_wI, if_neg q2, sI_wI, if_neg n0]
          exact hm a k hp
        have om8 : ∀ ρ0 : Sto, OnlyM ρ0 (wI (wI (wI ρ0 81 0 0) 81 41 (-1)) 81 40 0) := fun ρ0 => ((OnlyM.rf.w 81 0 0 (by decide)).w 81 41 (-1) (by decide)).w 81 40 0 (by decide)
        rcases cs with ⟨e, z1, z2, z3⟩ | ⟨s, R, z1, z2, z3, z4⟩
        · -- a fault
          have he := zLaw_ok.1 e z1
          have hm1 : RM A (wL σF 146 0 (iJ (-1 - Int32.ofNat e.1))) := hmF.wl _ _ _
          obtain ⟨ρ', cnt, y1, y2, -, y4, y5⟩ := mr _ hm1
          rw [z1] at y4
          obtain ⟨w1, w2, w3⟩ := y4
          have n9 : ¬ Int32.ofNat e.1 = 9 := fun q => absurd ((eq_lit (v := 9) (m := 9) rfl (by omega) (by decide)).mp q) (by omega)
          have n0 : ¬ Int32.ofNat e.1 = 0 := fun q => absurd ((eq_lit (v := 0) (m := 0) rfl (by omega) (by decide)).mp q) (by omega)
          have e2 : mX11_law p0 (Int32.ofNat n) p2 σ = some (.inr (-1 - Int32.ofNat e.1, σF)) := by
            unfold mX11_law mX11_law_21
            rw [if_neg q12, e1, bdx_inr, z2, if_neg n9, if_neg n0]
          have e3 : mX12_law p0 (Int32.ofNat n) p2 (wL σF 146 0 (iJ (-1 - Int32.ofNat e.1))) = some (-1 - Int32.ofNat e.1, ρ') := by
            rw [pre _ hm1]
            show (if sI (wI (wI (wI (wL σF 146 0 (iJ (-1 - Int32.ofNat e.1))) 81 0 0) 81 41 (-1)) 81 40 0) 81 50 = 12 then _ else _) = _
            rw [if_neg (by rw [m50 _ hm1]; exact n12), if_neg (nday _), y1, bnd_some, good_l w1 w2, if_pos rfl, w2]
          have om : OnlyM (wL σF 146 0 (iJ (-1 - Int32.ofNat e.1))) ρ' := (om8 _).tr (y2.onM SRd_rng)
          have rp := h.tape rfl x1 f5 (li := nL) (ρ := ρ') (by omega) (fun a k hp q1 q2 _ => same8 _ hm1 ρ' y2 a k hp q1 q2) y5 (by rw [w3, z3])
          refine ⟨0, _, _, ρ', by show wr hB iJ σ (mX11_law p0 (Int32.ofNat n) p2 σ) = _; rw [e2]; rfl, e3, ?_, fun _ => ?_, RA A ρ', rp.fin om (RA_rm A ρ')⟩
          · rw [y2.2.2.2.2.2 81 0 (by unfold SRd; omega)]; rfl
          · rw [(om.2.2.2.2.2 146 (Or.inr (by decide))).2 0]; rfl
        · -- a law
          obtain ⟨q1, q2, q3, q4⟩ := zLaw_ok.2 s R z1
          have k5 : sK σF (sR σ 32 7) = 5 := (x1.2.1 _).trans D1.2.2.1
          have r7 : sR σF 32 7 = sR σ 32 7 := x1.2.2.2.1 32 7 (by decide)
          have i33 : ∀ k, sI σF 33 k = sI σ 33 k := fun k => x1.2.2.2.2.2 33 k (by unfold Cz; omega)
          have zF : sZ σF = sZ σ := x1.1
          have dz := D1.2.1
          have hz := h.2.1
          obtain ⟨σ8, l1, l2, l3, l4, l5⟩ := C_mkL (σ := wI (wR (wI σF (sR σ 32 7) 0 (Int32.ofNat nt)) 40 nL (sR σ 32 7)) 33 15 (Int32.ofNat (nL + 1))) (z := sZ σF) rfl
          have i15 : sI (wI σF (sR σ 32 7) 0 (Int32.ofNat nt)) 33 15 = Int32.ofNat nL := by rw [sI_wI, if_neg (by omega), i33]; exact c8
          have s15 : sI σ8 33 15 = Int32.ofNat (nL + 1) := by rw [(l3 33 (by omega)).2.2.1 15, sI_wI, if_pos ⟨rfl, rfl⟩]
          have e2 : mX11_law p0 (Int32.ofNat n) p2 σ = some (.inr (Int32.ofNat nL, wR σ8 32 7 (sZ σF))) := by
            unfold mX11_law mX11_law_21
            rw [if_neg q12, e1, bdx_inr, z2, if_neg (by decide), if_pos rfl, r7, if_pos k5]
            simp only [stp]
            rw [show sI σF 33 0 = Int32.ofNat nt from (i33 0).trans c0, i15, if_pos (oI_inb (j := nL) (n := 13) (by omega) (by decide)), oI_cl (j := nL) (by omega), show sR (wI σF (sR σ 32 7) 0 (Int32.ofNat nt)) 32 7 = sR σ 32 7 from r7, if_pos (show sK (wI σF (sR σ 32 7) 0 (Int32.ofNat nt)) (sR σ 32 7) = 5 from k5)]
            rw [show sI (wR (wI σF (sR σ 32 7) 0 (Int32.ofNat nt)) 40 nL (sR σ 32 7)) 33 15 = Int32.ofNat nL from i15, oI_s]
            rw [show sZ (wI (wR (wI σF (sR σ 32 7) 0 (Int32.ofNat nt)) 40 nL (sR σ 32 7)) 33 15 (Int32.ofNat (nL + 1))) = sZ σF from rfl, l1, bnd_some]
            rw [show sI (wR σ8 32 7 (sZ σF)) 33 15 = Int32.ofNat (nL + 1) from s15, oI_p]
          have hmG : RM A (wR σ8 32 7 (sZ σF)) := fun a k hp => by
            have hr := pr_rng hp
            have hreg := D1.1.1
            rw [sI_wR, (l3 a (by omega)).2.2.1 k, sI_wI, if_neg (by omega), sI_wR, sI_wI, if_neg (by unfold reg at hreg; omega)]
            exact hmF a k hp
          have hm1 : RM A (wL (wR σ8 32 7 (sZ σF)) 146 0 (iJ (Int32.ofNat nL))) := hmG.wl _ _ _
          obtain ⟨ρ', cnt, y1, y2, y3, y4, y5⟩ := mr _ hm1
          rw [z1] at y4
          obtain ⟨t, ⟨g0, -, gM, gt, -⟩⟩ := y4
          have gg : mX12_isGood ρ' = 1 := good_r g0.2.2.2.1
          have s8 := same8 _ hm1 ρ' y2
          have i50 : sI ρ' 81 50 = Int32.ofNat nL := (s8 81 50 rfl (by unfold SRd; omega) (by omega)).trans a9
          have i1 : sI ρ' 81 1 = A 81 1 := s8 81 1 rfl (by unfold SRd; omega) (by omega)
          generalize hρ4 : wI (wI (wI (wI ρ' 112 nL p0) 113 nL p2) 114 nL (A 81 1)) 115 nL (-1) = ρ4
          have v4 : ∀ a k, ¬ (112 ≤ a ∧ a ≤ 115 ∧ k = nL) → sI ρ4 a k = sI ρ' a k := fun a k q => by
            rw [← hρ4, sI_wI, if_neg (by omega), sI_wI, if_neg (by omega), sI_wI, if_neg (by omega), sI_wI, if_neg (by omega)]
          have v112 : sI ρ4 112 nL = p0 := by rw [← hρ4, sI_wI, if_neg (by omega), sI_wI, if_neg (by omega), sI_wI, if_neg (by omega), sI_wI, if_pos ⟨rfl, rfl⟩]
          have v113 : sI ρ4 113 nL = p2 := by rw [← hρ4, sI_wI, if_neg (by omega), sI_wI, if_neg (by omega), sI_wI, if_pos ⟨rfl, rfl⟩]
          have v114 : sI ρ4 114 nL = A 81 1 := by rw [← hρ4, sI_wI, if_neg (by omega), sI_wI, if_pos ⟨rfl, rfl⟩]
          have v115 : sI ρ4 115 nL = -1 := by rw [← hρ4, sI_wI, if_pos ⟨rfl, rfl⟩]
          have rp := h.tape rfl x1 f5 (li := nL) (ρ := ρ4) (by omega) (fun a k hp q1 q2 q3 => (v4 a k q3).trans (s8 a k hp q1 q2)) ((v4 81 39 (by omega)).trans y5) (by rw [v4 81 41 (by omega), g0.2.2.2.2.1, z3])
          have om4 : OnlyM ρ' ρ4 := by
            rw [← hρ4]
            exact (((OnlyM.rf.w 112 nL p0 (by decide)).w 113 nL p2 (by decide)).w 114 nL _ (by decide)).w 115 nL (-1) (by decide)
          have e3 : mX12_law p0 (Int32.ofNat n) p2 (wL (wR σ8 32 7 (sZ σF)) 146 0 (iJ (Int32.ofNat nL))) = some (Int32.ofNat nL, wI ρ4 81 50 (Int32.ofNat (nL + 1))) := by
            rw [pre _ hm1]
            show (if sI (wI (wI (wI (wL (wR σ8 32 7 (sZ σF)) 146 0 (iJ (Int32.ofNat nL))) 81 0 0) 81 41 (-1)) 81 40 0) 81 50 = 12 then _ else _) = _
            rw [if_neg (by rw [m50 _ hm1]; exact n12), if_neg (nday _), y1, bnd_some, gg, if_neg i10]
            have hin := oI_inb (j := nL) (n := 13) (by omega) (by decide)
            have hcl : (Int32.ofNat nL).toNatClampNeg = nL := oI_cl (by omega)
            simp only [stp]
            rw [i50, if_pos hin, hcl]
            rw [show sI (wI ρ' 112 nL p0) 81 50 = Int32.ofNat nL by rw [sI_wI, if_neg (by omega)]; exact i50, if_pos hin, hcl]
            rw [show sI (wI (wI ρ' 112 nL p0) 113 nL p2) 81 50 = Int32.ofNat nL by rw [sI_wI, if_neg (by omega), sI_wI, if_neg (by omega)]; exact i50, if_pos hin, hcl, show sI (wI (wI ρ' 112 nL p0) 113 nL p2) 81 1 = A 81 1 by rw [sI_wI, if_neg (by omega), sI_wI, if_neg (by omega)]; exact i1]
            rw [show sI (wI (wI (wI ρ' 112 nL p0) 113 nL p2) 114 nL (A 81 1)) 81 50 = Int32.ofNat nL by rw [sI_wI, if_neg (by omega), sI_wI, if_neg (by omega), sI_wI, if_neg (by omega)]; exact i50, if_pos hin, hcl, hρ4]
            rw [show sI ρ4 81 50 = Int32.ofNat nL from (v4 81 50 (by omega)).trans i50, oI_s, show sI (wI ρ4 81 50 (Int32.ofNat (nL + 1))) 81 50 = Int32.ofNat (nL + 1) by rw [sI_wI, if_pos ⟨rfl, rfl⟩], oI_p]
          have h50 : RA A ρ4 81 50 = Int32.ofNat nL := (RA_at rfl).trans ((v4 81 50 (by omega)).trans i50)
          have hT6 : cT 6 (RA A ρ4) = nL := by show (RA A ρ4 81 50).toNatClampNeg = _; rw [h50, oI_cl (by omega)]
          have h81 : ∀ k, k ≠ 39 → k ≠ 41 → RA A ρ4 81 k = A 81 k := fun k k1 k2 => RA_eq fun hp => (v4 81 k (by omega)).trans (s8 81 k hp (by have := pr_81 hp; unfold SRd; omega) (by omega))
          have hls : nLs (RA A ρ4) = nl := by unfold nLs; rw [h81 2 (by decide) (by decide)]; exact d2
          have hC : LawC (RA A ρ4) σF nL (sR σ 32 7) := LawC.of z4 (ρ := ρ') (t := t) gM q2 q3 (by omega) (by have := gt.2; omega) (by omega) (fun a j h1 h2 => (RA_at (pr_hi (by omega) h2)).trans (v4 a j (by omega))) (by rw [RA_at (pr_hi (by decide) (by decide)), v112]; exact fd2) (by rw [RA_at (pr_hi (by decide) (by decide)), v113]; exact fd3) (by rw [RA_at (pr_hi (by decide) (by decide)), v112, hls]; exact ⟨j0, j1, j2⟩) (by rw [RA_at (pr_hi (by decide) (by decide)), v113]; exact day_in g4)
          have rq := rp.newlaw (A' := up2 (RA A ρ4) 81 50 (Int32.ofNat (nL + 1))) (σ' := wR σ8 32 7 (sZ σF)) (d := sR σ 32 7) (n := nL) (z := sZ σF) r7 hT6 g3 rfl rfl hC ((RA_at (pr_hi (by decide) (by decide))).trans (v114.trans (h81 1 (by decide) (by decide)).symm)) ((RA_at (pr_hi (by decide) (by decide))).trans v115)
            l2 (fun b hb => ⟨(l3 b hb).1, (l3 b hb).2.1, (l3 b hb).2.2.2.2⟩) (fun b k hb u1 u2 => by rw [sI_wR, (l3 b hb).2.2.1 k, sI_wI, if_neg u2, sI_wR, sI_wI, if_neg u1]) (fun b k hb u1 u2 => by rw [sR_wR, if_neg u2, (l3 b hb).2.2.2.1 k, sR_wI, sR_wR, if_neg u1, sR_wI]) (by rw [sR_wR, if_neg (by omega), (l3 40 (by omega)).2.2.2.1 nL, sR_wI, sR_wR, if_pos ⟨rfl, rfl⟩]) (by rw [sR_wR, if_pos ⟨rfl, rfl⟩]) (by rw [sI_wR, (l3 (sR σ 32 7) (by omega)).2.2.1 0, sI_wI, if_neg (by omega), sI_wR, sI_wI, if_pos ⟨rfl, rfl⟩, h81 1 (by decide) (by decide), a1]) s15 (by
              exact (l4 (by omega)).wr32) l5
          have om : OnlyM (wL (wR σ8 32 7 (sZ σF)) 146 0 (iJ (Int32.ofNat nL))) (wI ρ4 81 50 (Int32.ofNat (nL + 1))) := (((om8 _).tr (y2.onM SRd_rng)).tr om4).w 81 50 _ (by decide)
          refine ⟨0, _, _, _, by show wr hB iJ σ (mX11_law p0 (Int32.ofNat n) p2 σ) = _; rw [e2]; rfl, e3, ?_, fun _ => ?_, _, rq.fin om ((RA_rm A ρ4).w 81 50 _)⟩
          · rw [sI_wI, if_neg (by omega), v4 81 0 (by omega), y2.2.2.2.2.2 81 0 (by unfold SRd; omega)]; rfl
          · rw [(om.2.2.2.2.2 146 (Or.inr (by decide))).2 0]; rfl
      · -- not read
        have eT : ∀ y4, (y4 = 0 ∨ (y4 = 1 ∧ (p2 < 0 ∨ 36499 < p2))) → mX11_readTape p0 (Int32.ofNat n) p2 y4 σ = some (.inr (9, wI (wI σ 32 5 0) 32 6 (-1))) := fun y4 hy => by
          unfold mX11_readTape
          rw [C_needL c1 (by omega), if_pos g1, bdp_inr, if_neg (oI_nn (by omega)), if_pos cn]
          simp only [stp]
          rcases hy with rfl | ⟨rfl, hy⟩
          · rw [if_pos rfl]
          · rw [if_neg i10, if_pos (C_isDay.mpr hy)]
        have e2 : mX11_law p0 (Int32.ofNat n) p2 σ = some (.inr (-9, wI (wI σ 32 5 0) 32 6 (-1))) := by
          unfold mX11_law mX11_law_21
          rw [c8]
          by_cases g4 : nL < 12
          · rw [if_neg (fun q => absurd ((lit_le (v := 12) (m := 12) rfl (by decide) (by omega)).mp q) (by omega)), eT 1 (Or.inr ⟨rfl, Classical.byContradiction fun q => g3 ⟨g4, q⟩⟩), bdx_inr, if_pos rfl]
          · rw [if_pos ((lit_le (v := 12) (m := 12) rfl (by decide) (by omega)).mpr (by omega)), eT 0 (Or.inl rfl), bdx_inr, if_pos rfl]
        have x1 : Ez (Cz (sR σ 32 7)) σ (wI (wI σ 32 5 0) 32 6 (-1)) := ⟨rfl, fun _ => rfl, fun _ => rfl, fun _ _ _ => rfl, fun _ _ => rfl, fun a j hj => by rw [sI_wI, if_neg (fun z => hj (Or.inl ⟨z.1, Or.inr z.2⟩)), sI_wI, if_neg (fun z => hj (Or.inl ⟨z.1, Or.inl z.2⟩))]⟩
        have hm1 : RM A (wL (wI (wI σ 32 5 0) 32 6 (-1)) 146 0 (iJ (-9))) := (h.2.2.1.cz D1 D2 x1).wl _ _ _
        have e3 : mX12_law p0 (Int32.ofNat n) p2 (wL (wI (wI σ 32 5 0) 32 6 (-1)) 146 0 (iJ (-9))) = some (-9, wI (wI (wI (wI (wL (wI (wI σ 32 5 0) 32 6 (-1)) 146 0 (iJ (-9))) 81 0 0) 81 41 (-1)) 81 40 0) 81 39 0) := by
          rw [pre _ hm1]
          show (if sI (wI (wI (wI (wL (wI (wI σ 32 5 0) 32 6 (-1)) 146 0 (iJ (-9))) 81 0 0) 81 41 (-1)) 81 40 0) 81 50 = 12 then _ else _) = _
          rw [m50 _ hm1]
          by_cases g4 : nL < 12
          · rw [if_neg (fun q => absurd ((eq_lit (v := 12) (m := 12) rfl (by omega) (by decide)).mp q) (by omega)), if_pos (M_isDay.mpr (Classical.byContradiction fun q => g3 ⟨g4, q⟩))]
            rfl
          · rw [if_pos (show Int32.ofNat nL = 12 by rw [show nL = 12 by omega]; rfl)]
            rfl
        generalize hρ : wI (wI (wI (wI (wL (wI (wI σ 32 5 0) 32 6 (-1)) 146 0 (iJ (-9))) 81 0 0) 81 41 (-1)) 81 40 0) 81 39 0 = ρ at e3
        have om : OnlyM (wL (wI (wI σ 32 5 0) 32 6 (-1)) 146 0 (iJ (-9))) ρ := by
          rw [← hρ]
          exact (((OnlyM.rf.w 81 0 0 (by decide)).w 81 41 (-1) (by decide)).w 81 40 0 (by decide)).w 81 39 0 (by decide)
        have rp := h.tape rfl x1 rfl (li := 12) (ρ := ρ) (by omega) (fun a k hp q1 q2 _ => by
          have n0 : ¬ (a = 81 ∧ k = 0) := fun z => by have := pr_81 (by rw [← z.1]; exact hp); omega
          have n40 : ¬ (a = 81 ∧ k = 40) := fun z => by have := pr_81 (by rw [← z.1]; exact hp); omega
          have n39 : ¬ (a = 81 ∧ k = 39) := fun z => q1 (Or.inl ⟨z.1, Or.inl (by omega)⟩)
          rw [← hρ, sI_wI, if_neg n39, sI_wI, if_neg n40, sI_wI, if_neg q2, sI_wI, if_neg n0]
          exact hm1 a k hp) (by rw [← hρ]; rfl) (by rw [← hρ]; rfl)
        refine ⟨0, _, _, ρ, by show wr hB iJ σ (mX11_law p0 (Int32.ofNat n) p2 σ) = _; rw [e2]; rfl, e3, by rw [← hρ]; rfl, fun _ => by rw [← hρ]; rfl, RA A ρ, rp.fin om (RA_rm A ρ)⟩
    · have e2 : mX11_law p0 p1 p2 σ = some (.inl 1) := by
        have eT : ∀ y4, mX11_readTape p0 p1 p2 y4 σ = some (.inl 1) := fun y4 => by
          unfold mX11_readTape
          rw [C_needL c1 (by omega), if_pos g1, bdp_inr]
          by_cases q : p1 < 0
          · rw [if_pos q]; rfl
          · rw [if_neg q, if_neg (fun q2 => g2 ⟨q, by rw [← c5t]; exact q2⟩)]; rfl
        unfold mX11_law mX11_law_21
        rw [eT, eT, ite_self]
        rfl
      refine op_thr2 (k := 2) (b := 0) h (by decide) (by show wr hB iJ σ (mX11_law p0 p1 p2 σ) = _; rw [e2]; rfl) ?_
      have e30 : mX12_law_30 p0 p1 p2 (wI σ 81 0 0) = some (0, wI (wI σ 81 0 0) 81 0 2) := by
        unfold mX12_law_30 mX12_law_31
        rw [M_right0 (t0 _) (by decide), bd2_some, if_pos rfl]
      unfold mX12_law
      simp only [stp]
      rw [mi _ h.2.2.1, if_pos g1, bd2_some, if_neg i10, e30, m39 _ h.2.2.1]
      by_cases q : p1 < 0
      · rw [if_pos q]
      · rw [if_neg q, if_pos (nle.mp fun q2 => g2 ⟨q, q2⟩)]
  · have e2 : mX11_law p0 p1 p2 σ = some (.inl 0) := by
      have eT : ∀ y4, mX11_readTape p0 p1 p2 y4 σ = some (.inl 0) := fun y4 => by
        unfold mX11_readTape
        rw [C_needL c1 (by omega), if_neg g1]; rfl
      unfold mX11_law mX11_law_21
      rw [eT, eT, ite_self]
      rfl
    refine op_thr (k := 1) (b := 0) h (by decide) (by show wr hB iJ σ (mX11_law p0 p1 p2 σ) = _; rw [e2]; rfl) ?_
    unfold mX12_law
    simp only [stp]
    rw [mi _ h.2.2.1, if_neg g1]
    rfl
