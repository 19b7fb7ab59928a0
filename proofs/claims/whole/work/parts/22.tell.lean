theorem up2_ne {A : Ab} {a k : Nat} {v : Int32} {b j : Nat} (h : ¬ (b = a ∧ j = k)) : up2 A a k v b j = A b j := if_neg h
theorem Bnd.lt {A : Ab} {k n : Nat} (h : Bnd A k n) : ∃ j, j ≤ n ∧ A 81 k = Int32.ofNat j := h
theorem ooN {A : Ab} {k n : Nat} (h : A 81 k = Int32.ofNat n) (hn : n < 2147483648) : (A 81 k).toNatClampNeg = n := by rw [h, oI_cl hn]
theorem NewC.fr {σ σ' : Sto} {kd : Nat} {f : Nat → Int32} (h : NewC σ σ' kd f) : Fr σ σ' := ⟨by rw [h.1]; omega, fun b hb => ⟨(h.2.1 b (by omega)).1, (h.2.1 b (by omega)).2.1⟩, fun b hb _ _ => (h.2.1 b (by omega)).2.2.1, fun b hb _ => (h.2.1 b (by omega)).2.2.2.2⟩
theorem tl_M : ∀ c, c < 6 → cM c ≤ 200 ∧ cN c ≠ 1 ∧ cN c ≠ 2 ∧ cN c ≠ 50 ∧ cntOf (c + 2) = (33, 2 * c + 3) ∧ cntAt (c + 2) = cN c ∧ ∀ j, j < 11 → j ≠ c + 2 → cntAt j ≠ cN c ∧ cntOf j ≠ (33, 2 * c + 3) := by decide +kernel
theorem tl_N : ∀ c, c < 6 → ∀ c', c' < 7 → c' ≠ c → cN c' ≠ cN c := by decide +kernel
theorem tl_U : ∀ c', c' < 7 → ∀ a ∈ cU c', 82 ≤ a ∧ a ≠ 91 ∧ a ≠ 85 ∧ a ≠ 86 ∧ a < 111 ∧ (c' ≠ 1 → ¬ (84 ≤ a ∧ a ≤ 86)) ∧ (c' ≠ 4 → ¬ (97 ≤ a ∧ a ≤ 107)) := by decide +kernel
theorem tl_D : ∀ c, c < 6 → ∀ c', c' < 7 → ∀ a ∈ cU c', a ∈ cU c → c' = c := by decide +kernel
theorem tl_8 : ∀ c, c < 7 → ∀ a ∈ cU c, 108 ≤ a → a ≤ 109 → c = 5 := by decide +kernel
set_option maxHeartbeats 1000000 in
/-- one row more, but for works and laws -/
theorem Rel.tell {A A' : Ab} {σ σ1 σ2 : Sto} {c n : Nat} {f : Nat → Int32} {vv : Int64} (h : Rel A σ) (hc : c < 6) (hc1 : c ≠ 1) (hN : NewC σ σ1 (cK c) f) (hn : A 81 (cN c) = Int32.ofNat n) (hnm : n < cM c) (hn' : A' 81 (cN c) = Int32.ofNat n + 1) (h81 : ∀ k, k ≠ cN c → A' 81 k = A 81 k)
    (hV : ∀ a i, 82 ≤ a → a ≠ 91 → ¬ (a ∈ cU c ∧ i = n) → A' a i = A a i) (hf : ∀ k ∈ cF c, f k = cV c A' n k) (hrow : rowOK c A' n) (hh : IHeir A') (hs : ISold A') (hcl : IClaim A') (hm : OnlyM (wL (wI (wR σ1 (cR c) n (sZ σ)) 33 (2 * c + 3) (Int32.ofNat n + 1)) 146 0 vv) σ2) (hr : RM A' σ2) : Rel A' σ2 := by
  obtain ⟨hcM, kn1, kn2, kn50, kc1, kc2, kc3⟩ := tl_M c hc
  have hz := h.2.1
  have hTn : cT c A = n := by unfold cT; rw [hn, oI_cl (by omega)]
  have hTn' : cT c A' = n + 1 := by unfold cT; rw [hn', oI_s, oI_cl (by omega)]
  have hoth : ∀ c', c' < 7 → c' ≠ c → cT c' A' = cT c' A := fun c' h1 h2 => by unfold cT; rw [h81 _ (tl_N c hc c' h1 h2)]
  have hTle : ∀ c', c' < 7 → cT c' A ≤ cT c' A' := fun c' h1 => by
    by_cases e : c' = c
    · subst e; rw [hTn, hTn']; omega
    · rw [hoth c' h1 e]; exact Nat.le_refl _
  have hls : nLs A ≤ nLs A' := by unfold nLs; rw [h81 2 (Ne.symm kn2)]; exact Nat.le_refl _
  have htn : nTn A ≤ nTn A' := by unfold nTn; rw [h81 1 (Ne.symm kn1)]; exact Nat.le_refl _
  have hg : Grow A A' := ⟨hls, htn, hTle 0 (by decide), hTle 1 (by decide), hTle 2 (by decide), hTle 4 (by decide)⟩
  have hVV : ∀ c', c' < 7 → ∀ i, ¬ (c' = c ∧ i = n) → ∀ a ∈ cU c', A' a i = A a i := fun c' h1 i e a ha =>
    hV a i (tl_U c' h1 a ha).1 (tl_U c' h1 a ha).2.1 (fun q => e ⟨tl_D c hc c' h1 a ha q.1, q.2⟩)
  have hX : ∀ a, (84 ≤ a ∧ a ≤ 86) ∨ (111 ≤ a ∧ a ≤ 126) → ∀ j, A' a j = A a j := fun a ha j => hV a j (by omega) (by omega) (fun q => by
    have u := tl_U c (by omega) a q.1
    have u2 := u.2.2.2.2.2.1 hc1
    omega)
  have hB : IB A' := by
    obtain ⟨b1, b2, b3, b4, b5, b6, b7, b8, b9, b10⟩ := h.1
    have kp : ∀ k m, k ≠ cN c → Bnd A k m → Bnd A' k m := fun k m hk hb => by
      obtain ⟨j, j1, j2⟩ := hb
      exact ⟨j, j1, by rw [h81 k hk]; exact j2⟩
    have kn : ∀ m, n < m → Bnd A' (cN c) m := fun m hm => ⟨n + 1, hm, by rw [hn', oI_s]⟩
    rcases (show c = 0 ∨ c = 2 ∨ c = 3 ∨ c = 4 ∨ c = 5 by omega) with rfl | rfl | rfl | rfl | rfl
    · exact ⟨kp 1 _ (by decide) b1, kp 2 _ (by decide) b2, kn 30 hnm, kp 4 _ (by decide) b4, kp 5 _ (by decide) b5, kp 6 _ (by decide) b6, kp 7 _ (by decide) b7, kp 8 _ (by decide) b8, kp 50 _ (by decide) b9, kp 39 _ (by decide) b10.1, by rw [h81 73 (by decide)]; exact b10.2⟩
    · exact ⟨kp 1 _ (by decide) b1, kp 2 _ (by decide) b2, kp 3 _ (by decide) b3, kp 4 _ (by decide) b4, kn 5 hnm, kp 6 _ (by decide) b6, kp 7 _ (by decide) b7, kp 8 _ (by decide) b8, kp 50 _ (by decide) b9, kp 39 _ (by decide) b10.1, by rw [h81 73 (by decide)]; exact b10.2⟩
    · exact ⟨kp 1 _ (by decide) b1, kp 2 _ (by decide) b2, kp 3 _ (by decide) b3, kp 4 _ (by decide) b4, kp 5 _ (by decide) b5, kn 60 hnm, kp 7 _ (by decide) b7, kp 8 _ (by decide) b8, kp 50 _ (by decide) b9, kp 39 _ (by decide) b10.1, by rw [h81 73 (by decide)]; exact b10.2⟩
    · exact ⟨kp 1 _ (by decide) b1, kp 2 _ (by decide) b2, kp 3 _ (by decide) b3, kp 4 _ (by decide) b4, kp 5 _ (by decide) b5, kp 6 _ (by decide) b6, kn 200 hnm, kp 8 _ (by decide) b8, kp 50 _ (by decide) b9, kp 39 _ (by decide) b10.1, by rw [h81 73 (by decide)]; exact b10.2⟩
    · exact ⟨kp 1 _ (by decide) b1, kp 2 _ (by decide) b2, kp 3 _ (by decide) b3, kp 4 _ (by decide) b4, kp 5 _ (by decide) b5, kp 6 _ (by decide) b6, kp 7 _ (by decide) b7, kn 200 hnm, kp 50 _ (by decide) b9, kp 39 _ (by decide) b10.1, by rw [h81 73 (by decide)]; exact b10.2⟩
  have hia : IRow A' := IRow.tell (c := c) (n := n) h.row hg hTn hTn' hoth hVV (fun i _ j _ => ⟨hX 85 (Or.inl (by decide)) _, hX 86 (Or.inl (by decide)) _⟩) hrow
  have hro : RObj A' (wI (wR σ1 (cR c) n (sZ σ)) 33 (2 * c + 3) (Int32.ofNat n + 1)) := RObj.tell (c := c) (n := n) h.2.2.2.1 hz (by omega) hN hTn hnm hTn' hoth hVV hf
  have hrc : RCnt A' (wI (wR σ1 (cR c) n (sZ σ)) 33 (2 * c + 3) (Int32.ofNat n + 1)) := RCnt.tell (c := c) (j0 := c + 2) (kf0 := 2 * c + 3) h.2.2.2.2.1 hz hN kc1 (by rw [kc2]; exact hn') (fun j hj e => h81 _ (kc3 j hj e).1) (fun j hj e => (kc3 j hj e).2)
  have hrt : RTape A' (wI (wR σ1 (cR c) n (sZ σ)) 33 (2 * c + 3) (Int32.ofNat n + 1)) := fun j hj => by
    rw [sI_wI, if_neg (by omega), sI_wR, (hN.2.1 74 (by omega)).2.2.1, hX 111 (Or.inr (by decide))]
    exact h.2.2.2.2.2.1 j hj
  have oc : OnlyC σ (wI (wR σ1 (cR c) n (sZ σ)) 33 (2 * c + 3) (Int32.ofNat n + 1)) := ((hN.onC hz).wr (cR c) n _).w 33 _ _ (Or.inl (by decide))
  have fr : Fr σ (wI (wR σ1 (cR c) n (sZ σ)) 33 (2 * c + 3) (Int32.ofNat n + 1)) := (hN.fr.wr (cR c) n _ (by unfold reg cR; omega)).w 33 _ _ (by unfold reg; omega)
  have rw35 : ∀ i, sR (wI (wR σ1 (cR c) n (sZ σ)) 33 (2 * c + 3) (Int32.ofNat n + 1)) 35 i = sR σ 35 i := fun i => by
    rw [sR_wI, sR_wR, if_neg (fun q => by have := q.1; unfold cR at this; omega)]
    exact (hN.2.1 35 (by omega)).2.2.2.2 i
  have rw40 : ∀ i, sR (wI (wR σ1 (cR c) n (sZ σ)) 33 (2 * c + 3) (Int32.ofNat n + 1)) 40 i = sR σ 40 i := fun i => by
    rw [sR_wI, sR_wR, if_neg (fun q => by have := q.1; unfold cR at this; omega)]
    exact (hN.2.1 40 (by omega)).2.2.2.2 i
  have rw32 : sR (wI (wR σ1 (cR c) n (sZ σ)) 33 (2 * c + 3) (Int32.ofNat n + 1)) 32 7 = sR σ 32 7 := by
    rw [sR_wI, sR_wR, if_neg (fun q => by have := q.1; unfold cR at this; omega)]
    exact (hN.2.1 32 (by omega)).2.2.2.2 7
  have rwX : ∀ c', c' < 7 → ∀ i, sR (wI (wR σ1 (cR c) n (sZ σ)) 33 (2 * c + 3) (Int32.ofNat n + 1)) (34 + c') i = if c' = c ∧ i = n then sZ σ else sR σ (34 + c') i := fun c' h1 i => by
    rw [sR_wI, sR_wR]
    by_cases e : c' = c ∧ i = n
    · rw [if_pos e, if_pos ⟨by unfold cR; rw [e.1], e.2⟩]
    · rw [if_neg e, if_neg (fun q => e ⟨by have := q.1; unfold cR at this; omega, q.2⟩)]
      exact (hN.2.1 _ (by omega)).2.2.2.2 i
  have hap : RAp A' (wI (wR σ1 (cR c) n (sZ σ)) 33 (2 * c + 3) (Int32.ofNat n + 1)) := by
    have hlt : ∀ c', 4 ≤ c' → c' ≤ 5 → ∀ i, i ≤ 200 → sR σ (34 + c') i < sZ σ := fun c' h1 h2 i hi => (h.2.2.2.1 c' (by omega) i (by rcases (show c' = 4 ∨ c' = 5 by omega) with rfl | rfl <;> exact hi)).2.1
    refine ⟨fun c' h1 h2 i hi => ?_, fun c1 c2 h1 h2 h3 h4 i i' hi hi' => ?_⟩
    · rw [rwX c' (by omega)]
      by_cases e : c' = c ∧ i = n
      · rw [if_pos e]
        obtain ⟨rfl, rfl⟩ := e
        exact ⟨fun _ => by omega, fun _ => hz⟩
      · rw [if_neg e, h.ap.1 c' h1 h2 i hi]
        by_cases e2 : c' = c
        · subst e2
          have : i ≠ n := fun q => e ⟨rfl, q⟩
          omega
        · rw [hoth c' (by omega) e2]
    · have l2 : ∀ c', 4 ≤ c' → c' ≤ 5 → ∀ i, i < cT c' A' → i ≤ 200 ∧ (¬ (c' = c ∧ i = n) → i < cT c' A) := fun c' g1 g2 i gi => by
        have hle : cT c' A ≤ 200 := by
          obtain ⟨u1, u2, u3, u4, u5, u6, u7, u8, u9, u10⟩ := h.1
          rcases (show c' = 4 ∨ c' = 5 by omega) with rfl | rfl
          · exact (u7.cl (by decide)).1
          · exact (u8.cl (by decide)).1
        by_cases e2 : c' = c
        · subst e2
          exact ⟨by omega, fun q => by have : i ≠ n := fun z => q ⟨rfl, z⟩; omega⟩
        · rw [hoth c' (by omega) e2] at gi
          exact ⟨by omega, fun _ => gi⟩
      obtain ⟨x1, x2⟩ := l2 c1 h1 h2 i hi
      obtain ⟨y1, y2⟩ := l2 c2 h3 h4 i' hi'
      have z1 := hlt c1 h1 h2 i x1
      have z2 := hlt c2 h3 h4 i' y1
      rw [rwX c1 (by omega), rwX c2 (by omega)]
      by_cases e : c1 = c ∧ i = n
      · by_cases e' : c2 = c ∧ i' = n
        · exact fun _ => ⟨e.1.trans e'.1.symm, e.2.trans e'.2.symm⟩
        · rw [if_pos e, if_neg e']; exact fun q => by omega
      · by_cases e' : c2 = c ∧ i' = n
        · rw [if_neg e, if_pos e']; exact fun q => by omega
        · rw [if_neg e, if_neg e']; exact h.ap.2 c1 c2 h1 h2 h3 h4 i i' (x2 e) (y2 e')
  generalize wI (wR σ1 (cR c) n (sZ σ)) 33 (2 * c + 3) (Int32.ofNat n + 1) = σF at *
  refine ⟨hB, ?_, hr, RObj.onM (σ := wL σF 146 0 vv) hro hm, RCnt.onM (σ := wL σF 146 0 vv) hrc hm, RTape.onM (σ := wL σF 146 0 vv) hrt hm, ?_⟩
  · rw [hm.1]; exact Nat.le_trans hz oc.1
  · exact h.x.keep h.1 hz (oc.wl 146 0 vv (Or.inr (by decide))) hm (fr.wl 146 0 vv) rw35 rw40 rw32 (hoth 1 (by decide) (Ne.symm hc1)) (hoth 6 (by decide) (by omega)) hls htn (fun a ha => hX a (by omega)) hia hh hs hcl (hap.same (fun _ _ _ _ => rfl) (fun _ _ _ => rfl)) ((h81 73 (by rcases (show c = 0 ∨ c = 1 ∨ c = 2 ∨ c = 3 ∨ c = 4 ∨ c = 5 by omega) with rfl | rfl | rfl | rfl | rfl | rfl <;> decide)).trans h.z)
/-- one row more of what is no work, fact or law -/
theorem Rel.tellx {A A' : Ab} {σ σ1 σ2 : Sto} {c n : Nat} {f : Nat → Int32} {vv : Int64} (h : Rel A σ) (hc : c < 6) (hc1 : c ≠ 1) (hc4 : c ≠ 4) (hc5 : c ≠ 5) (hN : NewC σ σ1 (cK c) f) (hn : A 81 (cN c) = Int32.ofNat n) (hnm : n < cM c) (hn' : A' 81 (cN c) = Int32.ofNat n + 1) (h81 : ∀ k, k ≠ cN c → A' 81 k = A 81 k)
    (hV : ∀ a i, 82 ≤ a → ¬ (a ∈ cU c ∧ i = n) → A' a i = A a i) (hf : ∀ k ∈ cF c, f k = cV c A' n k) (hrow : rowOK c A' n) (hm : OnlyM (wL (wI (wR σ1 (cR c) n (sZ σ)) 33 (2 * c + 3) (Int32.ofNat n + 1)) 146 0 vv) σ2) (hr : RM A' σ2) : Rel A' σ2 := by
  have hoth : ∀ c', c' < 7 → c' ≠ c → cT c' A' = cT c' A := fun c' h1 h2 => by unfold cT; rw [h81 _ (tl_N c hc c' h1 h2)]
  have hK : ∀ a i, 97 ≤ a → a ≤ 107 → A' a i = A a i := fun a i h1 h2 => hV a i (by omega) (fun q => by
    have u := (tl_U c (by omega) a q.1).2.2.2.2.2.2 hc4
    omega)
  refine h.tell hc hc1 hN hn hnm hn' h81 (fun a i h1 _ h2 => hV a i h1 h2) hf hrow (h.hr.same (hoth 4 (by decide) (Ne.symm hc4)) hK) ?_ (h.cl.same (hoth 5 (by decide) (Ne.symm hc5)) (fun a i h1 h2 => hV a i (by omega) (fun q => hc5 (tl_8 c (by omega) a q.1 h1 h2)))) hm hr
  intro w hw
  rw [hoth 1 (by decide) (Ne.symm hc1)] at hw
  have h0 := h.sd w hw
  have e91 : A' 91 w = A 91 w := hV 91 w (by decide) (fun q => (tl_U c (by omega) 91 q.1).2.1 rfl)
  rw [e91, hoth 4 (by decide) (Ne.symm hc4)]
  refine ⟨h0.1, h0.2.trans ?_⟩
  constructor
  · rintro ⟨g, h1, h2, h3⟩
    exact ⟨g, h1, by rw [hK 97 g (by decide) (by decide)]; exact h2, by rw [hK 98 g (by decide) (by decide)]; exact h3⟩
  · rintro ⟨g, h1, h2, h3⟩
    exact ⟨g, h1, by rw [← hK 97 g (by decide) (by decide)]; exact h2, by rw [← hK 98 g (by decide) (by decide)]; exact h3⟩
