theorem RLaw.eqv {A A' : Ab} {σ σ' : Sto} (h : RLaw A σ) (hZ : sZ σ' = sZ σ) (hK : ∀ b, sK σ' b = sK σ b) (hN : ∀ b, sN σ' b = sN σ b) (hR : ∀ b k, sR σ' b k = sR σ b k) (hI : ∀ x, LwAt σ x → (∀ k, sI σ' x k = sI σ x k) ∧ (∀ k, sI σ' (x + 1) k = sI σ (x + 1) k) ∧ (∀ k, sI σ' (x + 2) k = sI σ (x + 2) k) ∧ ∀ k, sI σ' (x + 3) k = sI σ (x + 3) k)
    (hT : cT 6 A' = cT 6 A) (hle : cT 6 A ≤ 12) (hg : nLs A ≤ nLs A') (hg2 : nTn A ≤ nTn A') (hA : ∀ c, 112 ≤ c → c ≤ 126 → ∀ j, A' c j = A c j) : RLaw A' σ' := by
  have at' : ∀ x, LwAt σ x → LwAt σ' x := fun x hx => by
    unfold LwAt at hx ⊢
    simp only [hZ, hK, hN, hR]
    exact hx
  obtain ⟨⟨d1, d2, d3⟩, q2, q3, q4, q5⟩ := h
  refine ⟨⟨by rw [hR]; exact at' _ d1, by rw [hR]; exact d2, by rw [hR, (hI _ d1).1]; exact d3⟩, fun i hi => by rw [hR]; exact at' _ (q2 i hi), fun i hi => ?_, fun i j hij hj => by rw [hR, hR]; exact q4 i j hij (by rw [← hT]; exact hj), fun i hi hi2 => ?_⟩
  · rw [hT] at hi
    obtain ⟨g1, g2, g3, g4⟩ := q3 i hi
    obtain ⟨n0, n1, n2, n3⟩ := hI _ (q2 i (by omega))
    rw [hR, hR]
    exact ⟨g1, g2, g3.keep (fun k _ => n0 k) n1 n2 n3 hg (fun c c1 c2 _ _ => hA c c1 (by omega) i) (fun c c1 c2 j _ => hA c (by omega) (by omega) _) (fun q _ => hA 126 (by decide) (by decide) q), g4.keep (n0 0) (n0 1) hg2 (hA 114 (by decide) (by decide) i) (hA 115 (by decide) (by decide) i)⟩
  · rw [hT] at hi
    have n := (hI _ (q2 i hi2)).1
    rw [hR, n, n, n, n]
    exact q5 i hi hi2
theorem by_none {A : Ab} {w : Nat} {p : Int32} : ∀ m i, byR A w p m i = false → ∀ j, i ≤ j → j < i + m → A 85 (3 * w + j) ≠ p
  | 0, _, _, _, h1, h2 => by omega
  | m + 1, i, h, j, h1, h2 => by
    unfold byR at h
    by_cases c : A 85 (3 * w + i) = p
    · rw [if_pos c] at h; cases h
    · rw [if_neg c] at h
      by_cases e : j = i
      · subst e; exact c
      · exact by_none m (i + 1) h j (by omega) (by omega)
set_option maxHeartbeats 4000000 in
theorem Rel.joinW {A A' : Ab} {σ σ2 : Sto} {w m x : Nat} {p q : Int32} {vv : Int64} (h : Rel A σ) (hw : w < cT 1 A) (hm84 : A 84 w = Int32.ofNat m) (hm3 : m < 3) (hA' : up2 (up2 (up2 A 85 (3 * w + m) p) 86 (3 * w + m) q) 84 w (Int32.ofNat m + 1) = A') (hp : inR p (cT 0 A)) (hq : q = Int32.ofNat x) (hx1 : 1 ≤ x) (hx2 : x ≤ 9) (hby : byR A w p m 0 = false)
    (hm : OnlyM (wL (wI (wI (wI (wI σ (sR σ 35 w + 1) m p) (sR σ 35 w + 2) m q) (sR σ 35 w) 6 (Int32.ofNat m + 1)) (sR σ 35 w) 7 (Int32.ofNat (wsum A w m) + q)) 146 0 vv) σ2) (hr : RM A' σ2) : Rel A' σ2 := by
  have hz := h.2.1
  have hle := (h.1.le (c := 1) (by decide)).1
  have hM1 : cM 1 = 30 := rfl
  obtain ⟨w1, w2, w3⟩ := h.wk
  have hat := w1 w (by omega)
  obtain ⟨u1, u2, u3, u4, u5, u6, u7, u8, u9, u10, u11⟩ := id hat
  obtain ⟨-, h147⟩ := w2 w hw
  have wm := work_m h.row hw
  have eaM : aM A w = m := by unfold aM; rw [hm84, oI_cl (by omega)]
  rw [eaM] at wm
  obtain ⟨wm1, wm2, wm3, wm4, wm5⟩ := wm
  generalize ha : sR σ 35 w = a at *
  have N : ∀ c k, ¬ ((c = 85 ∨ c = 86) ∧ k = 3 * w + m) → ¬ (c = 84 ∧ k = w) → A' c k = A c k := fun c k z1 z2 => by
    rw [← hA', up2_ne z2, up2_ne (fun z => z1 ⟨by omega, z.2⟩), up2_ne (fun z => z1 ⟨by omega, z.2⟩)]
  have N84 : A' 84 w = Int32.ofNat m + 1 := by rw [← hA', up2_eq, if_pos ⟨rfl, rfl⟩]
  have N85 : A' 85 (3 * w + m) = p := by rw [← hA', up2_ne (by omega), up2_ne (by omega), up2_eq, if_pos ⟨rfl, rfl⟩]
  have N86 : A' 86 (3 * w + m) = q := by rw [← hA', up2_ne (by omega), up2_eq, if_pos ⟨rfl, rfl⟩]
  have h81 : ∀ k, A' 81 k = A 81 k := fun k => N 81 k (by omega) (by omega)
  have hT : ∀ c, cT c A' = cT c A := fun c => by unfold cT; rw [h81]
  have hln : nLs A' = nLs A := by unfold nLs; rw [h81]
  have htn : nTn A' = nTn A := by unfold nTn; rw [h81]
  have aM' : (A' 84 w).toNatClampNeg = m + 1 := by rw [N84, oI_s, oI_cl (by omega)]
  -- the store behind
  have hS : ∃ σF, σF = wI (wI (wI (wI σ (a + 1) m p) (a + 2) m q) a 6 (Int32.ofNat m + 1)) a 7 (Int32.ofNat (wsum A w m) + q) := ⟨_, rfl⟩
  obtain ⟨σF, hF⟩ := hS
  rw [← hF] at hm
  have sZF : sZ σF = sZ σ := by rw [hF]; rfl
  have sKF : ∀ b, sK σF b = sK σ b := fun b => by rw [hF]; rfl
  have sNF : ∀ b, sN σF b = sN σ b := fun b => by rw [hF]; rfl
  have sRF : ∀ b k, sR σF b k = sR σ b k := fun b k => by rw [hF]; rfl
  have sLF : ∀ b k, sL σF b k = sL σ b k := fun b k => by rw [hF]; rfl
  have sIo : ∀ b k, b ≠ a → b ≠ a + 1 → b ≠ a + 2 → sI σF b k = sI σ b k := fun b k z1 z2 z3 => by
    rw [hF, sI_wI, if_neg (fun z => z1 z.1), sI_wI, if_neg (fun z => z1 z.1), sI_wI, if_neg (fun z => z3 z.1), sI_wI, if_neg (fun z => z2 z.1)]
  have sIa : ∀ k, sI σF a k = if k = 7 then Int32.ofNat (wsum A w m) + q else if k = 6 then Int32.ofNat m + 1 else sI σ a k := fun k => by
    rw [hF, sI_wI, sI_wI, sI_wI, if_neg (show ¬ (a = a + 2 ∧ k = m) by omega), sI_wI, if_neg (show ¬ (a = a + 1 ∧ k = m) by omega)]
    by_cases e7 : k = 7
    · rw [if_pos ⟨rfl, e7⟩, if_pos e7]
    · rw [if_neg (fun z => e7 z.2), if_neg e7]
      by_cases e6 : k = 6
      · rw [if_pos ⟨rfl, e6⟩, if_pos e6]
      · rw [if_neg (fun z => e6 z.2), if_neg e6]
  have sI1 : ∀ k, sI σF (a + 1) k = if k = m then p else sI σ (a + 1) k := fun k => by
    rw [hF, sI_wI, if_neg (by omega), sI_wI, if_neg (by omega), sI_wI, if_neg (by omega), sI_wI]
    by_cases e : k = m
    · rw [if_pos ⟨rfl, e⟩, if_pos e]
    · rw [if_neg (fun z => e z.2), if_neg e]
  have sI2 : ∀ k, sI σF (a + 2) k = if k = m then q else sI σ (a + 2) k := fun k => by
    rw [hF, sI_wI, if_neg (by omega), sI_wI, if_neg (by omega), sI_wI]
    by_cases e : k = m
    · rw [if_pos ⟨rfl, e⟩, if_pos e]
    · rw [if_neg (fun z => e z.2), if_neg e, sI_wI, if_neg (by omega)]
  clear hF
  obtain ⟨k0, f0, f1, f2, f3, f6⟩ := h.cb.wa hw
  rw [ha] at k0 f0 f1 f2 f3 f6
  have nrow : ∀ c, c < 7 → ∀ j, j ≤ cM c → ¬ (c = 1 ∧ j = w) → sR σ (cR c) j ≠ a ∧ sR σ (cR c) j ≠ a + 1 ∧ sR σ (cR c) j ≠ a + 2 := fun c hc j hj e => by
    have g := h.2.2.2.1 c hc j hj
    refine ⟨fun z => ?_, fun z => ?_, fun z => ?_⟩
    · by_cases e1 : c = 1
      · subst e1
        have jw : j ≠ w := fun y => e ⟨rfl, y⟩
        by_cases jl : j < cT 1 A
        · rcases Nat.lt_or_gt_of_ne jw with y | y
          · have := w3 j w y hw
            have z' : sR σ 35 j = a := z
            omega
          · have := w3 w j y jl
            have z' : sR σ 35 j = a := z
            omega
        · have b6 := h.cb.bld (c := 1) (i := j) (k := 6) (by decide) (by omega) hj (by decide)
          rw [show sR σ (34 + 1) j = a from z, f6, hm84] at b6
          exact absurd ((oI_eq (n := 0) (by omega) (by decide)).mp b6) (by omega)
      · have g3 := g.2.2.1
        rw [z, u5] at g3
        rcases (show c = 0 ∨ c = 2 ∨ c = 3 ∨ c = 4 ∨ c = 5 ∨ c = 6 by omega) with rfl | rfl | rfl | rfl | rfl | rfl <;> exact absurd g3 (by decide)
    · have g3 := g.2.2.1
      rw [z, u8] at g3
      rcases (show c = 0 ∨ c = 1 ∨ c = 2 ∨ c = 3 ∨ c = 4 ∨ c = 5 ∨ c = 6 by omega) with rfl | rfl | rfl | rfl | rfl | rfl | rfl <;> exact absurd g3 (by decide)
    · have g3 := g.2.2.1
      rw [z, u10] at g3
      rcases (show c = 0 ∨ c = 1 ∨ c = 2 ∨ c = 3 ∨ c = 4 ∨ c = 5 ∨ c = 6 by omega) with rfl | rfl | rfl | rfl | rfl | rfl | rfl <;> exact absurd g3 (by decide)
  have cU85 : ∀ c, c < 7 → ∀ a ∈ cU c, a ≠ 85 ∧ a ≠ 86 ∧ (c ≠ 1 → a ≠ 84) := fun c hc a ha => by
    have t := tl_U c hc a ha
    exact ⟨t.2.2.1, t.2.2.2.1, fun z => by have := t.2.2.2.2.2.1 z; omega⟩
  have hro : RObj A' σF := fun c hc j hj => by
    have h0 := h.2.2.2.1 c hc j hj
    by_cases e : c = 1 ∧ j = w
    · obtain ⟨rfl, rfl⟩ := e
      refine ⟨by rw [sRF]; exact h0.1, by rw [sRF, sZF]; exact h0.2.1, by rw [sRF, sKF]; exact h0.2.2.1, fun k hk => ?_⟩
      rw [sRF, hT 1, if_pos hw, show sR σ (cR 1) j = a from ha, sIa]
      simp only [cF, List.mem_cons, List.not_mem_nil, or_false] at hk
      rcases hk with rfl | rfl | rfl | rfl | rfl
      · exact f0.trans (N 87 j (by omega) (by omega)).symm
      · exact f1.trans (N 88 j (by omega) (by omega)).symm
      · exact f2.trans (N 89 j (by omega) (by omega)).symm
      · exact f3.trans (N 90 j (by omega) (by omega)).symm
      · exact N84.symm
    · obtain ⟨n1, n2, n3⟩ := nrow c hc j hj e
      refine h0.keep (sRF _ _) (Nat.le_of_eq sZF.symm) (sKF _) (fun k _ => sIo _ k n1 n2 n3) (fun k hk => ?_)
      rw [hT c, cV_congr hc (fun b hb => N b j (fun z => ?_) (fun z => ?_)) k hk]
      · have := cU85 c hc b hb; omega
      · have := (cU85 c hc b hb).2.2
        exact e ⟨Classical.byContradiction fun y => this y z.1, z.2⟩
  have hrc : RCnt A' σF := fun j hj => by
    have l : (cntOf j).1 < 41 := by
      rcases (show j = 0 ∨ j = 1 ∨ j = 2 ∨ j = 3 ∨ j = 4 ∨ j = 5 ∨ j = 6 ∨ j = 7 ∨ j = 8 ∨ j = 9 ∨ j = 10 by omega) with rfl | rfl | rfl | rfl | rfl | rfl | rfl | rfl | rfl | rfl | rfl <;> decide
    rw [h81, sIo _ _ (by omega) (by omega) (by omega), h.cnt j hj]
  have hrt : RTape A' σF := fun j hj => by
    rw [N 111 j (by omega) (by omega), sIo _ _ (by omega) (by omega) (by omega)]
    exact h.2.2.2.2.2.1 j hj
  have hrow : IRow A' := fun c hc j hj => by
    rw [hT c] at hj
    by_cases e : c = 1 ∧ j = w
    · obtain ⟨rfl, rfl⟩ := e
      refine ⟨m + 1, by omega, by omega, by rw [N84, oI_s], fun t ht => ?_, fun t ht t' ht' et => ?_⟩
      · rw [hT 0]
        by_cases et : t = m
        · subst et
          rw [N85, N86]
          exact ⟨hp, x, hx1, hx2, hq⟩
        · rw [N 85 _ (by omega) (by omega), N 86 _ (by omega) (by omega)]
          exact wm4 t (by omega)
      · have nb := by_none m 0 hby
        by_cases e1 : t = m
        · by_cases e2 : t' = m
          · omega
          · subst e1
            rw [N85, N 85 _ (by omega) (by omega)] at et
            exact absurd et.symm (nb t' (by omega) (by omega))
        · by_cases e2 : t' = m
          · subst e2
            rw [N85, N 85 _ (by omega) (by omega)] at et
            exact absurd et (nb t (by omega) (by omega))
          · rw [N 85 _ (by omega) (by omega), N 85 _ (by omega) (by omega)] at et
            exact wm5 t (by omega) t' (by omega) et
    · refine rowOK.mono hc (h.row c hc j hj) ⟨Nat.le_of_eq hln.symm, Nat.le_of_eq htn.symm, Nat.le_of_eq (hT 0).symm, Nat.le_of_eq (hT 1).symm, Nat.le_of_eq (hT 2).symm, Nat.le_of_eq (hT 4).symm⟩ (fun b hb => N b j (fun z => ?_) (fun z => ?_)) (fun ec t ht => ?_) (fun _ s _ => N _ _ (by omega) (by omega))
      · have := cU85 c hc b hb; omega
      · have := (cU85 c hc b hb).2.2
        exact e ⟨Classical.byContradiction fun y => this y z.1, z.2⟩
      · have : j ≠ w := fun y => e ⟨ec, y⟩
        exact ⟨N _ _ (by omega) (by omega), N _ _ (by omega) (by omega)⟩
  have hwk : RWork A' σF := by
    refine ⟨fun i hi => ?_, fun i hi => ?_, fun i j hij hj => ?_⟩
    · have g := w1 i hi
      unfold WkAt at g ⊢
      simp only [sZF, sKF, sNF, sRF]
      exact g
    · rw [hT 1] at hi
      rw [sRF]
      obtain ⟨⟨g1, g2⟩, g3⟩ := w2 i hi
      by_cases e : i = w
      · subst e
        rw [ha] at g1 g2 ⊢
        rw [hm84, oI_cl (by omega)] at g1 g2
        refine ⟨⟨fun j hj => ?_, ?_⟩, h147⟩
        · rw [aM'] at hj
          rw [sI1, sI2]
          by_cases ej : j = m
          · subst ej
            rw [if_pos rfl, if_pos rfl, N85, N86]
            exact ⟨rfl, rfl⟩
          · rw [if_neg ej, if_neg ej, N 85 _ (by omega) (by omega), N 86 _ (by omega) (by omega)]
            exact g1 j (by omega)
        · rw [sIa, if_pos rfl, aM']
          show _ = Int32.ofNat (wsum A' i m + (A' 86 (3 * i + m)).toNatClampNeg)
          rw [wsum_congr m (fun j hj => N 86 _ (by omega) (by omega)), N86, hq, oI_cl (by omega), oI_add]
      · have far : sR σ 35 i + 2 < a ∨ a + 2 < sR σ 35 i := by
          rcases Nat.lt_or_gt_of_ne e with y | y
          · have := w3 i w y hw; rw [ha] at this; exact Or.inl this
          · have := w3 w i y hi; rw [ha] at this; exact Or.inr this
        have e84 : A' 84 i = A 84 i := N 84 i (by omega) (by omega)
        have eaM : (A 84 i).toNatClampNeg ≤ 3 := (work_m h.row hi).2.1
        refine ⟨⟨fun j hj => ?_, ?_⟩, g3⟩
        · rw [e84] at hj
          rw [sIo _ _ (by omega) (by omega) (by omega), sIo _ _ (by omega) (by omega) (by omega), N 85 _ (by omega) (by omega), N 86 _ (by omega) (by omega)]
          exact g1 j hj
        · rw [sIo _ _ (by omega) (by omega) (by omega), e84, wsum_congr _ (fun j hj => N 86 _ (by omega) (by omega))]
          exact g2
    · rw [sRF, sRF]
      exact w3 i j hij (by rw [← hT 1]; exact hj)
  have hlw : RLaw A' σF := by
    refine h.lw.eqv sZF sKF sNF sRF (fun x hx => ?_) (hT 6) (h.1.le (c := 6) (by decide)).1 (Nat.le_of_eq hln.symm) (Nat.le_of_eq htn.symm) (fun c c1 c2 j => N c j (by omega) (by omega))
    obtain ⟨-, -, hk, -, ⟨a1, b1⟩, ⟨a2, b2⟩, ⟨a3, b3⟩, a4, b4⟩ := hx
    have dif : ∀ y, (sK σ y ≠ 10 ∧ ¬ (sK σ y = 100 ∧ sN σ y = 3)) → ∀ k, sI σF y k = sI σ y k := fun y hy k => sIo y k (fun z => hy.1 (by rw [z]; exact u5)) (fun z => hy.2 (by rw [z]; exact ⟨u8, u9⟩)) (fun z => hy.2 (by rw [z]; exact ⟨u10, u11⟩))
    exact ⟨dif _ ⟨by rw [hk]; decide, by rw [hk]; rintro ⟨z, _⟩; cases z⟩, dif _ ⟨by rw [a1]; decide, by rw [b1]; rintro ⟨_, z⟩; cases z⟩, dif _ ⟨by rw [a2]; decide, by rw [b2]; rintro ⟨_, z⟩; cases z⟩, dif _ ⟨by rw [a3]; decide, by rw [b3]; rintro ⟨_, z⟩; cases z⟩⟩
  have ff := hm.fr
  have l1 : cT 1 A' ≤ 30 := by rw [hT]; exact hle
  have l6 : cT 6 A' ≤ 12 := by rw [hT]; exact (h.1.le (c := 6) (by decide)).1
  have hst : RStat σF := fun y hy => ⟨(sKF _).trans (h.stat y hy).1, (sNF _).trans (h.stat y hy).2⟩
  have hgn : RGain (wL σF 146 0 vv) := ⟨fun t ht => by
    rw [sL_wL, if_neg (by omega), sL_wL, if_neg (by omega), sLF, sLF]
    exact h.gain.1 t ht, by rw [sI_wL, sIo 66 0 (by omega) (by omega) (by omega)]; exact h.gain.2⟩
  refine ⟨h.1.of81 h81, ?_, hr, RObj.onM (σ := wL σF 146 0 vv) hro hm, RCnt.onM (σ := wL σF 146 0 vv) hrc hm, RTape.onM (σ := wL σF 146 0 vv) hrt hm, RStat.onM (σ := wL σF 146 0 vv) hst hm, hgn.onM hm, hrow, RWork.fr (σ := wL σF 146 0 vv) hwk ff (fun i => hm.2.2.2.1 _ _) rfl (fun _ _ _ _ => rfl) l1, RLaw.fr (σ := wL σF 146 0 vv) hlw ff (fun i => hm.2.2.2.1 _ _) (hm.2.2.2.1 _ _) rfl l6 (Nat.le_refl _) (Nat.le_refl _) (fun _ _ _ _ => rfl), h.hr.same (hT 4) (fun c i z1 z2 => N c i (by omega) (by omega)), h.sd.same (hT 4) (hT 1) (fun c i z1 z2 => N c i (by omega) (by omega)) trivial, h.cl.same (hT 5) (fun c i z1 z2 => N c i (by omega) (by omega)), h.ap.same (fun _ _ _ _ => (hm.2.2.2.1 _ _).trans (sRF _ _)) (fun c _ _ => hT c), (h81 73).trans h.z⟩
  rw [hm.1]
  show 147 ≤ sZ σF
  omega
