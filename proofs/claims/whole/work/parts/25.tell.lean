theorem lt_trans1 {x : Int32} (h : x < 0) : x < 1 := by
  rw [Int32.lt_iff_toInt_lt] at h ⊢
  have e0 : (0 : Int32).toInt = 0 := rfl
  have e1 : (1 : Int32).toInt = 1 := rfl
  omega
theorem M_isDay {p : Int32} {σ : Sto} : (mX12_isDay p σ = 0) ↔ (p < 0 ∨ 36499 < p) := by
  unfold mX12_isDay
  by_cases h1 : p < 0
  · rw [if_pos h1]; exact ⟨fun _ => Or.inl h1, fun _ => rfl⟩
  · rw [if_neg h1]
    by_cases h2 : 36499 < p
    · rw [if_pos h2]; exact ⟨fun _ => Or.inr h2, fun _ => rfl⟩
    · rw [if_neg h2]; exact ⟨(fun q => by cases q), fun q => Or.elim q (fun z => absurd z h1) (fun z => absurd z h2)⟩
set_option maxHeartbeats 2000000 in
theorem op_society (p0 : Int32) (p1 : Int32) : OpOK (mL_society p0 p1) (mX12_society p0 p1) iJ := by
  intro A σ h
  obtain ⟨nl, hl1, hl2⟩ := h.1.2.1
  obtain ⟨n, hn1, hn2⟩ := h.1.2.2.2.2.1
  have cl : sI σ 33 1 = Int32.ofNat nl := (h.cnt 1 (by decide)).trans hl2
  have cp : sI σ 33 7 = Int32.ofNat n := (h.cnt 4 (by decide)).trans hn2
  have ml : ∀ σ', RM A σ' → sI σ' 81 2 = Int32.ofNat nl := fun σ' hm => (hm 81 2 rfl).trans hl2
  have mp : ∀ σ', RM A σ' → sI σ' 81 5 = Int32.ofNat n := fun σ' hm => (hm 81 5 rfl).trans hn2
  have r0 : ∀ σ', RM A σ' → RM A (wI σ' 81 0 0) := fun σ' hm => hm.np 81 0 0 rfl
  have t0 : ∀ σ' : Sto, sI (wI σ' 81 0 0) 81 0 = 0 := fun _ => rfl
  by_cases c1 : ¬ p0 < 0 ∧ p0 < Int32.ofNat nl
  · have e1 : mX11_needLand p0 σ = some (.inr ()) := by
      unfold mX11_needLand
      rw [cl, if_neg (fun q => (C_within rfl (by omega)).mp q c1)]
    have m1 : ∀ σ', RM A σ' → mX12_isLand p0 (wI σ' 81 0 0) = some (1, wI σ' 81 0 0) := fun σ' hm => by
      rw [M_isLand (t0 σ'), ml _ (r0 _ hm), if_pos c1]
    by_cases c2 : n < 5 ∧ ¬ (p1 < 0 ∨ 300 < p1)
    · have hlim : ¬ (5 : Int32) ≤ Int32.ofNat n := fun q => absurd ((oI_le (j := 5) (by decide) (by omega)).mp q) (by omega)
      have hW : ¬ (mX11_isWithin p1 0 300 σ = 0) := fun q => c2.2 (C_isW.mp q)
      have hz := h.2.1
      have z33 : ¬ 33 = sZ σ := h.sz (by decide)
      have ncl : (Int32.ofNat n).toNatClampNeg = n := oI_cl (by omega)
      have hI2 := eq_true (oI_inb (j := n) (n := 6) (by omega) (by decide))
      have hI3 := eq_true (oI_inb (j := n) (n := 5) (by omega) (by decide))
      have e2 : mX11_society p0 p1 σ = some (.inr (Int32.ofNat n, wI (wR (wI (wI (nwK σ 9 0) (sZ σ) 0 p0) (sZ σ) 1 p1) 36 n (sZ σ)) 33 7 (Int32.ofNat n + 1))) := by
        simp only [mX11_society, e1, bdp_inr, stp, mX8_init, bnd_some, cp, hlim, hW, hI2, ncl, sK_wI, sI_wI, sI_wR, nwK_K, nwK_I, z33, eq_self, and_self, and_false, false_and, if_true, if_false, asc, Nat.reduceAdd]
      have hNw := (((NewC.nw σ 9).w 0 p0).w 1 p1)
      generalize wI (wI (nwK σ 9 0) (sZ σ) 0 p0) (sZ σ) 1 p1 = σ1 at hNw e2
      have oc : OnlyC σ (wI (wR σ1 36 n (sZ σ)) 33 7 (Int32.ofNat n + 1)) := ((hNw.onC hz).wr 36 n _).w 33 7 _ (Or.inl (by decide))
      generalize hF : wI (wR σ1 36 n (sZ σ)) 33 7 (Int32.ofNat n + 1) = σF at e2 oc
      have hm1 : RM A (wL σF 146 0 (iJ (Int32.ofNat n))) := (h.2.2.1.onC oc).wl _ _ _
      have hm2 := r0 _ hm1
      have nlim : ¬ Int32.ofNat n = 5 := fun q => absurd ((oI_eq (n := 5) (by omega) (by decide)).mp q) (by omega)
      have p1a : ¬ p1 < 0 := fun q => c2.2 (Or.inl q)
      have p1b : p1 ≤ 300 := nlt.mp fun q => c2.2 (Or.inr q)
      have e3 : mX12_society p0 p1 (wL σF 146 0 (iJ (Int32.ofNat n))) = some (Int32.ofNat n, wI (wI (wI (wI (wL σF 146 0 (iJ (Int32.ofNat n))) 81 0 0) 92 n p0) 93 n p1) 81 5 (Int32.ofNat n + 1)) := by
        simp only [mX12_society, stp, m1 _ hm1, bd2_some, mp _ hm2, nlim, p1a, p1b, hI3, ncl, sI_wI, eq_self, and_self, and_false, false_and, if_true, if_false, asc, Nat.reduceEqDiff, mp _ hm1, i10]
      have om : OnlyM (wL σF 146 0 (iJ (Int32.ofNat n))) (wI (wI (wI (wI (wL σF 146 0 (iJ (Int32.ofNat n))) 81 0 0) 92 n p0) 93 n p1) 81 5 (Int32.ofNat n + 1)) := (((OnlyM.rf.w 81 0 0 (by decide)).w 92 n p0 (by decide)).w 93 n p1 (by decide)).w 81 5 _ (by decide)
      refine ⟨0, (wL σF 146 0 (iJ (Int32.ofNat n))), Int32.ofNat n, _, by show wr hN iJ σ (mX11_society p0 p1 σ) = _; rw [e2]; rfl, e3, rfl, fun _ => rfl, (up2 (up2 (up2 A 92 n p0) 93 n p1) 81 5 (Int32.ofNat n + 1)), Rel.tellx (c := 2) (n := n) (σ1 := σ1) h (by decide) (by decide) (by decide) (by decide) hNw hn2 c2.1 rfl (fun k hk => ?_) (fun a i ha e => ?_) (fun k hk => ?_) ?_ (by rw [show wI (wR σ1 (cR 2) n (sZ σ)) 33 (2 * 2 + 3) (Int32.ofNat n + 1) = σF from hF]; exact om) ((((hm2).w 92 n p0).w 93 n p1).w 81 5 _)⟩
      · rw [up2_ne (fun q : 81 = 81 ∧ k = 5 => hk q.2), up2_ne (by omega), up2_ne (by omega)]
      · rw [up2_ne (by omega), up2_ne (fun q => e ⟨by rw [q.1]; decide, q.2⟩), up2_ne (fun q => e ⟨by rw [q.1]; decide, q.2⟩)]
      · simp only [cF, List.mem_cons, List.not_mem_nil, or_false] at hk
        rcases hk with rfl | rfl
        · show p0 = (up2 (up2 (up2 A 92 n p0) 93 n p1) 81 5 (Int32.ofNat n + 1)) 92 n
          rw [up2_ne (by omega), up2_ne (by omega), up2_eq, if_pos ⟨rfl, rfl⟩]
        · show p1 = (up2 (up2 (up2 A 92 n p0) 93 n p1) 81 5 (Int32.ofNat n + 1)) 93 n
          rw [up2_ne (by omega), up2_eq, if_pos ⟨rfl, rfl⟩]
      · have hnl : nLs (up2 (up2 (up2 A 92 n p0) 93 n p1) 81 5 (Int32.ofNat n + 1)) = nl := ooN hl2 (by omega)
        refine ⟨?_, ?_⟩
        · show inR ((up2 (up2 (up2 A 92 n p0) 93 n p1) 81 5 (Int32.ofNat n + 1)) 92 n) (nLs (up2 (up2 (up2 A 92 n p0) 93 n p1) 81 5 (Int32.ofNat n + 1)))
          rw [hnl, up2_ne (by omega), up2_ne (by omega), up2_eq, if_pos ⟨rfl, rfl⟩]
          exact inR.of (by omega) c1.1 c1.2
        · show inR ((up2 (up2 (up2 A 92 n p0) 93 n p1) 81 5 (Int32.ofNat n + 1)) 93 n) 301
          rw [up2_ne (by omega), up2_eq, if_pos ⟨rfl, rfl⟩]
          exact inR.le (m := 300) (by decide) (fun q => c2.2 (Or.inl q)) (fun q => c2.2 (Or.inr q))
    · -- not as told
      have hz := h.2.1
      have e2 : mX11_society p0 p1 σ = some (.inr (-1, σ)) := by
        simp only [mX11_society, e1, bdp_inr, cp]
        by_cases c3 : (5 : Int32) ≤ Int32.ofNat n
        · rw [if_pos c3]
        · rw [if_neg c3, if_pos (C_isW.mpr (Classical.not_not.mp fun q => c2 ⟨Nat.not_le.mp fun z => c3 ((oI_le (j := 5) (by decide) (by omega)).mpr z), q⟩))]
      have e3 : mX12_society p0 p1 (wL σ 146 0 (iJ (-1))) = some (-1, wI (wL σ 146 0 (iJ (-1))) 81 0 0) := by
        have hm1 : RM A (wL σ 146 0 (iJ (-1))) := h.2.2.1.wl _ _ _
        have hm2 := r0 _ hm1
        simp only [mX12_society, stp, m1 _ hm1, bd2_some, mp _ hm2, i10, if_false]
        by_cases c3 : Int32.ofNat n = 5
        · rw [if_pos c3]
        · rw [if_neg c3]
          by_cases c4 : p1 < 0
          · rw [if_pos c4]
          · rw [if_neg c4, if_neg (fun c5 => c2 ⟨by
              have := (not_congr (oI_eq (j := n) (n := 5) (by omega) (by decide))).mp c3
              omega, fun q => q.elim c4 (fun z => nlt.mpr c5 z)⟩)]
      exact op_same (σ := σ) h (by show wr hN iJ σ (mX11_society p0 p1 σ) = _; rw [e2]; rfl) e3 rfl
  · have e1 : mX11_needLand p0 σ = some (.inl 0) := by
      unfold mX11_needLand
      rw [cl, if_pos ((C_within rfl (by omega)).mpr c1)]
    have e2 : mX11_society p0 p1 σ = some (.inl 0) := by
      simp only [mX11_society, e1, bdp_inl]
    refine op_thr (k := 1) (b := 0) h (by decide) (by show wr hN iJ σ (mX11_society p0 p1 σ) = _; rw [e2]; rfl) ?_
    simp only [mX12_society, stp]
    rw [M_isLand (t0 σ), ml _ (r0 _ h.2.2.1), if_neg c1]
    rfl
set_option maxHeartbeats 2000000 in
theorem op_rate (p0 : Int32) (p1 : Int32) (p2 : Int32) : OpOK (mL_rate p0 p1 p2) (mX12_rate p0 p1 p2) bZ := by
  intro A σ h
  obtain ⟨nl, hl1, hl2⟩ := h.1.2.1
  obtain ⟨n, hn1, hn2⟩ := h.1.2.2.2.2.2.1
  have cl : sI σ 33 1 = Int32.ofNat nl := (h.cnt 1 (by decide)).trans hl2
  have cp : sI σ 33 9 = Int32.ofNat n := (h.cnt 5 (by decide)).trans hn2
  have ml : ∀ σ', RM A σ' → sI σ' 81 2 = Int32.ofNat nl := fun σ' hm => (hm 81 2 rfl).trans hl2
  have mp : ∀ σ', RM A σ' → sI σ' 81 6 = Int32.ofNat n := fun σ' hm => (hm 81 6 rfl).trans hn2
  have r0 : ∀ σ', RM A σ' → RM A (wI σ' 81 0 0) := fun σ' hm => hm.np 81 0 0 rfl
  have t0 : ∀ σ' : Sto, sI (wI σ' 81 0 0) 81 0 = 0 := fun _ => rfl
  by_cases c1 : ¬ p0 < 0 ∧ p0 < Int32.ofNat nl
  · have e1 : mX11_needLand p0 σ = some (.inr ()) := by
      unfold mX11_needLand
      rw [cl, if_neg (fun q => (C_within rfl (by omega)).mp q c1)]
    have m1 : ∀ σ', RM A σ' → mX12_isLand p0 (wI σ' 81 0 0) = some (1, wI σ' 81 0 0) := fun σ' hm => by
      rw [M_isLand (t0 σ'), ml _ (r0 _ hm), if_pos c1]
    by_cases c2 : n < 60 ∧ ¬ (p1 < 0 ∨ 36499 < p1) ∧ ¬ (p2 < 1 ∨ 99999 < p2)
    · have hlim : ¬ (60 : Int32) ≤ Int32.ofNat n := fun q => absurd ((oI_le (j := 60) (by decide) (by omega)).mp q) (by omega)
      have hD : ¬ (mX11_isDay p1 σ = 0) := fun q => c2.2.1 (C_isW.mp q)
      have hW : ¬ (mX11_isWithin p2 1 99999 σ = 0) := fun q => c2.2.2 (C_isW.mp q)
      have hz := h.2.1
      have z33 : ¬ 33 = sZ σ := h.sz (by decide)
      have ncl : (Int32.ofNat n).toNatClampNeg = n := oI_cl (by omega)
      have hI2 := eq_true (oI_inb (j := n) (n := 61) (by omega) (by decide))
      have hI3 := eq_true (oI_inb (j := n) (n := 60) (by omega) (by decide))
      have e2 : mX11_rate p0 p1 p2 σ = some (.inr ((1 : Int32), wI (wR (wI (wI (wI (nwK σ 7 0) (sZ σ) 0 p0) (sZ σ) 1 p1) (sZ σ) 2 p2) 37 n (sZ σ)) 33 9 (Int32.ofNat n + 1))) := by
        simp only [mX11_rate, e1, bdp_inr, stp, mX6_init, bnd_some, cp, hlim, hD, hW, hI2, ncl, sK_wI, sI_wI, sI_wR, nwK_K, nwK_I, z33, eq_self, and_self, and_false, false_and, if_true, if_false, asc, Nat.reduceAdd]
      have hNw := ((((NewC.nw σ 7).w 0 p0).w 1 p1).w 2 p2)
      generalize wI (wI (wI (nwK σ 7 0) (sZ σ) 0 p0) (sZ σ) 1 p1) (sZ σ) 2 p2 = σ1 at hNw e2
      have oc : OnlyC σ (wI (wR σ1 37 n (sZ σ)) 33 9 (Int32.ofNat n + 1)) := ((hNw.onC hz).wr 37 n _).w 33 9 _ (Or.inl (by decide))
      generalize hF : wI (wR σ1 37 n (sZ σ)) 33 9 (Int32.ofNat n + 1) = σF at e2 oc
      have hm1 : RM A (wL σF 146 0 (bZ ((1 : Int32)))) := (h.2.2.1.onC oc).wl _ _ _
      have hm2 := r0 _ hm1
      have nlim : ¬ Int32.ofNat n = 60 := fun q => absurd ((oI_eq (n := 60) (by omega) (by decide)).mp q) (by omega)
      have hMD : ∀ σ', ¬ (mX12_isDay p1 σ' = 0) := fun σ' q => c2.2.1 (M_isDay.mp q)
      have p2a : ¬ p2 < 1 := fun q => c2.2.2 (Or.inl q)
      have p2b : p2 ≤ 99999 := nlt.mp fun q => c2.2.2 (Or.inr q)
      have e3 : mX12_rate p0 p1 p2 (wL σF 146 0 (bZ ((1 : Int32)))) = some ((1 : Int32), wI (wI (wI (wI (wI (wL σF 146 0 (bZ ((1 : Int32)))) 81 0 0) 94 n p0) 95 n p1) 96 n p2) 81 6 (Int32.ofNat n + 1)) := by
        simp only [mX12_rate, stp, m1 _ hm1, bd2_some, mp _ hm2, nlim, hMD, p2a, p2b, hI3, ncl, sI_wI, eq_self, and_self, and_false, false_and, if_true, if_false, asc, Nat.reduceEqDiff, mp _ hm1, i10]
      have om : OnlyM (wL σF 146 0 (bZ ((1 : Int32)))) (wI (wI (wI (wI (wI (wL σF 146 0 (bZ ((1 : Int32)))) 81 0 0) 94 n p0) 95 n p1) 96 n p2) 81 6 (Int32.ofNat n + 1)) := ((((OnlyM.rf.w 81 0 0 (by decide)).w 94 n p0 (by decide)).w 95 n p1 (by decide)).w 96 n p2 (by decide)).w 81 6 _ (by decide)
      refine ⟨0, (wL σF 146 0 (bZ ((1 : Int32)))), (1 : Int32), _, by show wr hN bZ σ (mX11_rate p0 p1 p2 σ) = _; rw [e2]; rfl, e3, rfl, fun _ => rfl, (up2 (up2 (up2 (up2 A 94 n p0) 95 n p1) 96 n p2) 81 6 (Int32.ofNat n + 1)), Rel.tellx (c := 3) (n := n) (σ1 := σ1) h (by decide) (by decide) (by decide) (by decide) hNw hn2 c2.1 rfl (fun k hk => ?_) (fun a i ha e => ?_) (fun k hk => ?_) ?_ (by rw [show wI (wR σ1 (cR 3) n (sZ σ)) 33 (2 * 3 + 3) (Int32.ofNat n + 1) = σF from hF]; exact om) (((((hm2).w 94 n p0).w 95 n p1).w 96 n p2).w 81 6 _)⟩
      · rw [up2_ne (fun q : 81 = 81 ∧ k = 6 => hk q.2), up2_ne (by omega), up2_ne (by omega), up2_ne (by omega)]
      · rw [up2_ne (by omega), up2_ne (fun q => e ⟨by rw [q.1]; decide, q.2⟩), up2_ne (fun q => e ⟨by rw [q.1]; decide, q.2⟩), up2_ne (fun q => e ⟨by rw [q.1]; decide, q.2⟩)]
      · simp only [cF, List.mem_cons, List.not_mem_nil, or_false] at hk
        rcases hk with rfl | rfl | rfl
        · show p0 = (up2 (up2 (up2 (up2 A 94 n p0) 95 n p1) 96 n p2) 81 6 (Int32.ofNat n + 1)) 94 n
          rw [up2_ne (by omega), up2_ne (by omega), up2_ne (by omega), up2_eq, if_pos ⟨rfl, rfl⟩]
        · show p1 = (up2 (up2 (up2 (up2 A 94 n p0) 95 n p1) 96 n p2) 81 6 (Int32.ofNat n + 1)) 95 n
          rw [up2_ne (by omega), up2_ne (by omega), up2_eq, if_pos ⟨rfl, rfl⟩]
        · show p2 = (up2 (up2 (up2 (up2 A 94 n p0) 95 n p1) 96 n p2) 81 6 (Int32.ofNat n + 1)) 96 n
          rw [up2_ne (by omega), up2_eq, if_pos ⟨rfl, rfl⟩]
      · have hnl : nLs (up2 (up2 (up2 (up2 A 94 n p0) 95 n p1) 96 n p2) 81 6 (Int32.ofNat n + 1)) = nl := ooN hl2 (by omega)
        refine ⟨?_, ?_, ?_⟩
        · show inR ((up2 (up2 (up2 (up2 A 94 n p0) 95 n p1) 96 n p2) 81 6 (Int32.ofNat n + 1)) 94 n) (nLs (up2 (up2 (up2 (up2 A 94 n p0) 95 n p1) 96 n p2) 81 6 (Int32.ofNat n + 1)))
          rw [hnl, up2_ne (by omega), up2_ne (by omega), up2_ne (by omega), up2_eq, if_pos ⟨rfl, rfl⟩]
          exact inR.of (by omega) c1.1 c1.2
        · show inR ((up2 (up2 (up2 (up2 A 94 n p0) 95 n p1) 96 n p2) 81 6 (Int32.ofNat n + 1)) 95 n) 36500
          rw [up2_ne (by omega), up2_ne (by omega), up2_eq, if_pos ⟨rfl, rfl⟩]
          exact inR.le (m := 36499) (by decide) (fun q => c2.2.1 (Or.inl q)) (fun q => c2.2.1 (Or.inr q))
        · show inR ((up2 (up2 (up2 (up2 A 94 n p0) 95 n p1) 96 n p2) 81 6 (Int32.ofNat n + 1)) 96 n) 100000
          rw [up2_ne (by omega), up2_eq, if_pos ⟨rfl, rfl⟩]
          exact inR.le (m := 99999) (by decide) (fun q => c2.2.2 (Or.inl (lt_trans1 q))) (fun q => c2.2.2 (Or.inr q))
    · -- not as told
      have hz := h.2.1
      have e2 : mX11_rate p0 p1 p2 σ = some (.inr (0, σ)) := by
        simp only [mX11_rate, e1, bdp_inr, cp]
        by_cases c3 : (60 : Int32) ≤ Int32.ofNat n
        · rw [if_pos c3]
        · rw [if_neg c3]
          by_cases c4 : mX11_isDay p1 σ = 0
          · rw [if_pos c4]
          · rw [if_neg c4, if_pos (C_isW.mpr (Classical.not_not.mp fun q => c2 ⟨Nat.not_le.mp fun z => c3 ((oI_le (j := 60) (by decide) (by omega)).mpr z), fun z => c4 (C_isW.mpr z), q⟩))]
      have e3 : mX12_rate p0 p1 p2 (wL σ 146 0 (bZ 0)) = some (0, wI (wL σ 146 0 (bZ 0)) 81 0 0) := by
        have hm1 : RM A (wL σ 146 0 (bZ 0)) := h.2.2.1.wl _ _ _
        have hm2 := r0 _ hm1
        simp only [mX12_rate, stp, m1 _ hm1, bd2_some, mp _ hm2, i10, if_false]
        by_cases c3 : Int32.ofNat n = 60
        · rw [if_pos c3]
        · rw [if_neg c3]
          by_cases c6 : mX12_isDay p1 (wI (wL σ 146 0 (bZ 0)) 81 0 0) = 0
          · rw [if_pos c6]
          · rw [if_neg c6]
            by_cases c4 : p2 < 1
            · rw [if_pos c4]
            · rw [if_neg c4, if_neg (fun c5 => c2 ⟨by
                have := (not_congr (oI_eq (j := n) (n := 60) (by omega) (by decide))).mp c3
                omega, fun z => c6 (M_isDay.mpr z), fun q => q.elim c4 (fun z => nlt.mpr c5 z)⟩)]
      exact op_same (σ := σ) h (by show wr hN bZ σ (mX11_rate p0 p1 p2 σ) = _; rw [e2]; rfl) e3 rfl
  · have e1 : mX11_needLand p0 σ = some (.inl 0) := by
      unfold mX11_needLand
      rw [cl, if_pos ((C_within rfl (by omega)).mpr c1)]
    have e2 : mX11_rate p0 p1 p2 σ = some (.inl 0) := by
      simp only [mX11_rate, e1, bdp_inl]
    refine op_thr (k := 1) (b := 0) h (by decide) (by show wr hN bZ σ (mX11_rate p0 p1 p2 σ) = _; rw [e2]; rfl) ?_
    simp only [mX12_rate, stp]
    rw [M_isLand (t0 σ), ml _ (r0 _ h.2.2.1), if_neg c1]
    rfl
