/-! a work told -/
def NewW (σ σ9 : Sto) (p q e mk wd hg : Int32) : Prop := sZ σ9 = sZ σ + 3 ∧ (∀ b, b < sZ σ → sK σ9 b = sK σ b ∧ sN σ9 b = sN σ b ∧ (∀ k, sI σ9 b k = sI σ b k) ∧ (∀ k, sL σ9 b k = sL σ b k) ∧ ∀ k, sR σ9 b k = sR σ b k) ∧ sK σ9 (sZ σ) = 10 ∧ sR σ9 (sZ σ) 4 = sZ σ + 1 ∧ sR σ9 (sZ σ) 5 = sZ σ + 2 ∧ (sK σ9 (sZ σ + 1) = 100 ∧ sN σ9 (sZ σ + 1) = 3) ∧ (sK σ9 (sZ σ + 2) = 100 ∧ sN σ9 (sZ σ + 2) = 3) ∧ (sI σ9 (sZ σ) 0 = e ∧ sI σ9 (sZ σ) 1 = mk ∧ sI σ9 (sZ σ) 2 = wd ∧ sI σ9 (sZ σ) 3 = hg ∧ sI σ9 (sZ σ) 6 = 1 ∧ sI σ9 (sZ σ) 7 = q) ∧ sI σ9 (sZ σ + 1) 0 = p ∧ sI σ9 (sZ σ + 2) 0 = q
def mkW (σ : Sto) (z : Nat) (e mk wd hg : Int32) : Sto := wI (wI (wI (wI (wI (wI (wR (nwK (wR (nwK (nwK σ 10 0) 100 3) z 4 (z + 1)) 100 3) z 5 (z + 2)) z 6 0) z 7 0) z 0 e) z 1 mk) z 2 wd) z 3 hg
theorem C_addA {σ : Sto} {a m : Nat} {p q s : Int32} (h1 : sR σ a 4 = a + 1) (h2 : sR σ a 5 = a + 2) (h3 : sK σ (a + 1) = 100) (h4 : sN σ (a + 1) = 3) (h5 : sK σ (a + 2) = 100) (h6 : sN σ (a + 2) = 3) (h7 : sI σ a 6 = Int32.ofNat m) (h8 : sI σ a 7 = s) (hm : m < 3) :
    mX10_addArtist a p q σ = some (wI (wI (wI (wI σ (a + 1) m p) (a + 2) m q) a 6 (Int32.ofNat m + 1)) a 7 (s + q)) := by
  have g1 : ¬ Int32.ofNat 3 ≤ Int32.ofNat m := fun q => absurd ((oI_le (by decide) (by omega)).mp q) (by omega)
  have g2 := eq_true (oI_inb (j := m) (n := 3) (by omega) (by decide))
  have g3 : (Int32.ofNat m).toNatClampNeg = m := oI_cl (by omega)
  have f1 : (a = a + 1) = False := eq_false (by omega)
  have f2 : (a = a + 2) = False := eq_false (by omega)
  simp only [mX10_addArtist, stp, h1, h2, h3, h4, h5, h6, h7, h8, g1, g2, g3, f1, f2, sI_wI, sK_wI, sN_wI, sR_wI, if_true, if_false, false_and, and_false, Nat.reduceEqDiff]
theorem C_mkW {σ : Sto} (p q e mk wd hg : Int32) : ∃ σ8 σ9, mX10_init (sZ σ) e mk wd hg (nwK σ 10 0) = some σ8 ∧ sK σ8 (sZ σ) = 10 ∧ mX10_addArtist (sZ σ) p q σ8 = some σ9 ∧ sK σ9 (sZ σ) = 10 ∧ NewW σ σ9 p q e mk wd hg := by
  generalize hz : sZ σ = z
  have f1 : (z = z + 1) = False := eq_false (by omega)
  have f2 : (z = z + 2) = False := eq_false (by omega)
  have f3 : (z = z + 1 + 1) = False := eq_false (by omega)
  have f4 : (z + 1 = z) = False := eq_false (by omega)
  have f5 : (z + 1 = z + 1 + 1) = False := eq_false (by omega)
  have f6 : (z + 2 = z) = False := eq_false (by omega)
  have f7 : (z + 2 = z + 1) = False := eq_false (by omega)
  have f8 : (z + 2 = z + 1 + 1) = True := eq_true rfl
  have f9 : (z + 1 = z + 2) = False := eq_false (by omega)
  have i1 : mX10_init z e mk wd hg (nwK σ 10 0) = some (mkW σ z e mk wd hg) := by
    simp only [mX10_init, mkW, stp, sK_wI, sK_wR, nwK_K, nwK_Z, sZ_wR, hz, f1, f2, f3, if_true, if_false, Nat.reduceAdd]
  have k0 : sK (mkW σ z e mk wd hg) z = 10 := by
    simp only [mkW, sK_wI, sK_wR, nwK_K, nwK_Z, sZ_wR, hz, f1, f2, f3, if_true, if_false]
  have k1 : sK (mkW σ z e mk wd hg) (z + 1) = 100 := by
    simp only [mkW, sK_wI, sK_wR, nwK_K, nwK_Z, sZ_wR, hz, f4, f5, if_true, if_false]
  have k2 : sK (mkW σ z e mk wd hg) (z + 2) = 100 := by
    simp only [mkW, sK_wI, sK_wR, nwK_K, nwK_Z, sZ_wR, hz, f8, if_true, if_false]
  have n1 : sN (mkW σ z e mk wd hg) (z + 1) = 3 := by
    simp only [mkW, sN_wI, sN_wR, nwK_N, nwK_Z, sZ_wR, hz, f4, f5, if_true, if_false]
  have n2 : sN (mkW σ z e mk wd hg) (z + 2) = 3 := by
    simp only [mkW, sN_wI, sN_wR, nwK_N, nwK_Z, sZ_wR, hz, f8, if_true, if_false]
  have r4 : sR (mkW σ z e mk wd hg) z 4 = z + 1 := by
    simp only [mkW, sR_wI, sR_wR, nwK_R, nwK_Z, sZ_wR, hz, f1, f2, f3, if_true, if_false, eq_self, and_self, and_false, Nat.reduceEqDiff]
  have r5 : sR (mkW σ z e mk wd hg) z 5 = z + 2 := by
    simp only [mkW, sR_wI, sR_wR, eq_self, and_self, if_true]
  have I : ∀ k, sI (mkW σ z e mk wd hg) z k = if k = 3 then hg else if k = 2 then wd else if k = 1 then mk else if k = 0 then e else if k = 7 then 0 else if k = 6 then 0 else 0 := fun k => by
    simp only [mkW, sI_wI, sI_wR, nwK_I, nwK_Z, sZ_wR, hz, f1, f2, f3, if_true, if_false, eq_self, true_and]
  have old : ∀ b, b < z → sK (mkW σ z e mk wd hg) b = sK σ b ∧ sN (mkW σ z e mk wd hg) b = sN σ b ∧ (∀ k, sI (mkW σ z e mk wd hg) b k = sI σ b k) ∧ (∀ k, sL (mkW σ z e mk wd hg) b k = sL σ b k) ∧ ∀ k, sR (mkW σ z e mk wd hg) b k = sR σ b k := fun b hb => by
    have g1 : (b = z) = False := eq_false (by omega)
    have g2 : (b = z + 1) = False := eq_false (by omega)
    have g3 : (b = z + 1 + 1) = False := eq_false (by omega)
    refine ⟨?_, ?_, fun k => ?_, fun k => ?_, fun k => ?_⟩ <;>
    simp only [mkW, sI_wI, sI_wR, nwK_I, sK_wI, sK_wR, nwK_K, sN_wI, sN_wR, nwK_N, sL_wI, sL_wR, nwK_L, sR_wI, sR_wR, nwK_R, nwK_Z, sZ_wR, hz, g1, g2, g3, if_false, false_and]
  have Z : sZ (mkW σ z e mk wd hg) = z + 3 := by
    simp only [mkW, sZ_wI, sZ_wR, nwK_Z, hz]
  generalize mkW σ z e mk wd hg = τ at *
  have a1 := C_addA (σ := τ) (a := z) (m := 0) (p := p) (q := q) (s := 0) r4 r5 k1 n1 k2 n2 (I 6) (I 7) (by decide)
  refine ⟨τ, _, i1, k0, a1, k0, ?_, fun b hb => ?_, (by rw [hz]; exact k0), ?_, ?_, ?_, ?_, ⟨?_, ?_, ?_, ?_, ?_, ?_⟩, ?_, ?_⟩
  · rw [hz]; exact Z
  · rw [hz] at hb
    obtain ⟨o1, o2, o3, o4, o5⟩ := old b hb
    refine ⟨o1, o2, fun k => ?_, o4, o5⟩
    rw [sI_wI, if_neg (by omega), sI_wI, if_neg (by omega), sI_wI, if_neg (by omega), sI_wI, if_neg (by omega)]
    exact o3 k
  · rw [hz]; exact r4
  · rw [hz]; exact r5
  · rw [hz]; exact ⟨k1, n1⟩
  · rw [hz]; exact ⟨k2, n2⟩
  · rw [hz, sI_wI, if_neg (by omega), sI_wI, if_neg (by omega), sI_wI, if_neg (by omega), sI_wI, if_neg (by omega)]; exact I 0
  · rw [hz, sI_wI, if_neg (by omega), sI_wI, if_neg (by omega), sI_wI, if_neg (by omega), sI_wI, if_neg (by omega)]; exact I 1
  · rw [hz, sI_wI, if_neg (by omega), sI_wI, if_neg (by omega), sI_wI, if_neg (by omega), sI_wI, if_neg (by omega)]; exact I 2
  · rw [hz, sI_wI, if_neg (by omega), sI_wI, if_neg (by omega), sI_wI, if_neg (by omega), sI_wI, if_neg (by omega)]; exact I 3
  · rw [hz, sI_wI, if_neg (by omega), sI_wI, if_pos ⟨rfl, rfl⟩]; rfl
  · rw [hz, sI_wI, if_pos ⟨rfl, rfl⟩, Int32.zero_add]
  · rw [hz, sI_wI, if_neg (by omega), sI_wI, if_neg (by omega), sI_wI, if_neg (by omega), sI_wI, if_pos ⟨rfl, rfl⟩]
  · rw [hz, sI_wI, if_neg (by omega), sI_wI, if_neg (by omega), sI_wI, if_pos ⟨rfl, rfl⟩]
theorem NewW.fr {σ σ' : Sto} {p q e mk wd hg : Int32} (h : NewW σ σ' p q e mk wd hg) : Fr σ σ' := ⟨by rw [h.1]; omega, fun b hb => ⟨(h.2.1 b hb).1, (h.2.1 b hb).2.1⟩, fun b hb _ _ => (h.2.1 b hb).2.2.1, fun b hb _ => (h.2.1 b hb).2.2.2.2⟩
theorem NewW.onC {σ σ' : Sto} {p q e mk wd hg : Int32} (h : NewW σ σ' p q e mk wd hg) (hz : 147 ≤ sZ σ) : OnlyC σ σ' := ⟨by rw [h.1]; omega, fun b hb => ⟨(h.2.1 b hb).1, (h.2.1 b hb).2.1⟩, ⟨(h.2.1 80 (by omega)).2.2.2.1, (h.2.1 66 (by omega)).2.2.1 0⟩, fun b h1 h2 => ⟨(h.2.1 b (by omega)).2.2.1, (h.2.1 b (by omega)).2.2.2.1⟩⟩
set_option maxHeartbeats 4000000 in
theorem Rel.tellW {A A' : Ab} {σ σ1 σ2 : Sto} {n x : Nat} {p q e mk wd hg : Int32} {vv : Int64} (h : Rel A σ) (hN : NewW σ σ1 p q e mk wd hg) (hn : A 81 4 = Int32.ofNat n) (hnm : n < 30) (hn' : A' 81 4 = Int32.ofNat n + 1) (h81 : ∀ k, k ≠ 4 → A' 81 k = A 81 k)
    (h84 : A' 84 n = 1) (h85 : A' 85 (3 * n) = p) (h86 : A' 86 (3 * n) = q) (h87 : A' 87 n = e) (h88 : A' 88 n = mk) (h89 : A' 89 n = wd) (h90 : A' 90 n = hg) (h91 : A' 91 n = 0)
    (hV : ∀ a i, 82 ≤ a → ¬ ((a = 84 ∨ (87 ≤ a ∧ a ≤ 91)) ∧ i = n) → ¬ ((a = 85 ∨ a = 86) ∧ i = 3 * n) → A' a i = A a i) (hp : inR p (cT 0 A)) (hq : q = Int32.ofNat x) (hx1 : 1 ≤ x) (hx2 : x ≤ 9) (hm : OnlyM (wL (wI (wR σ1 35 n (sZ σ)) 33 5 (Int32.ofNat n + 1)) 146 0 vv) σ2) (hr : RM A' σ2) : Rel A' σ2 := by
  have hz := h.2.1
  have hTn : cT 1 A = n := by show (A 81 4).toNatClampNeg = n; rw [hn, oI_cl (by omega)]
  have hTn' : cT 1 A' = n + 1 := by show (A' 81 4).toNatClampNeg = n + 1; rw [hn', oI_s, oI_cl (by omega)]
  have hoth : ∀ c', c' < 7 → c' ≠ 1 → cT c' A' = cT c' A := fun c' h1 h2 => by unfold cT; rw [h81 _ (tl_N 1 (by decide) c' h1 h2)]
  have hls : nLs A' = nLs A := by unfold nLs; rw [h81 2 (by decide)]
  have htn : nTn A' = nTn A := by unfold nTn; rw [h81 1 (by decide)]
  have hVV : ∀ c', c' < 7 → ∀ i, ¬ (c' = 1 ∧ i = n) → ∀ a ∈ cU c', A' a i = A a i := fun c' h1 i e a ha => by
    have u := tl_U c' h1 a ha
    refine hV a i u.1 (fun z => e ⟨Classical.byContradiction fun y => ?_, z.2⟩) (fun z => ?_)
    · have := u.2.2.2.2.2.1 y
      have y2 : a = 87 ∨ a = 88 ∨ a = 89 ∨ a = 90 := by omega
      have key : ∀ c', c' < 7 → c' ≠ 1 → ∀ a ∈ cU c', a ≠ 87 ∧ a ≠ 88 ∧ a ≠ 89 ∧ a ≠ 90 := by decide +kernel
      have := key c' h1 y a ha
      omega
    · omega
  have hg : Grow A A' := ⟨Nat.le_of_eq hls.symm, Nat.le_of_eq htn.symm, Nat.le_of_eq (hoth 0 (by decide) (by decide)).symm, by rw [hTn, hTn']; omega, Nat.le_of_eq (hoth 2 (by decide) (by decide)).symm, Nat.le_of_eq (hoth 4 (by decide) (by decide)).symm⟩
  have hB : IB A' := by
    obtain ⟨b1, b2, b3, b4, b5, b6, b7, b8, b9, b10⟩ := h.1
    have kp : ∀ k m, k ≠ 4 → Bnd A k m → Bnd A' k m := fun k m hk hb => by
      obtain ⟨j, j1, j2⟩ := hb
      exact ⟨j, j1, by rw [h81 k hk]; exact j2⟩
    exact ⟨kp 1 _ (by decide) b1, kp 2 _ (by decide) b2, kp 3 _ (by decide) b3, ⟨n + 1, hnm, by rw [hn', oI_s]⟩, kp 5 _ (by decide) b5, kp 6 _ (by decide) b6, kp 7 _ (by decide) b7, kp 8 _ (by decide) b8, kp 50 _ (by decide) b9, kp 39 _ (by decide) b10.1, by rw [h81 73 (by decide)]; exact b10.2⟩
  have haM : (A' 84 n).toNatClampNeg = 1 := by rw [h84]; rfl
  have hrow : workOK A' n := ⟨1, by decide, by decide, h84, fun j hj => by
    have : j = 0 := by omega
    subst this
    rw [Nat.add_zero, h85, h86, hoth 0 (by decide) (by decide)]
    exact ⟨hp, x, hx1, hx2, hq⟩, fun j hj j' hj' _ => by omega⟩
  have hia : IRow A' := IRow.tell (c := 1) (n := n) h.row hg hTn hTn' hoth hVV (fun i hi j hj => ⟨hV 85 _ (by decide) (by omega) (by omega), hV 86 _ (by decide) (by omega) (by omega)⟩) hrow
  obtain ⟨N1, N2, N3, N4, N5, N6, N7, ⟨e0, e1, e2, e3, e6, e7⟩, N8, N9⟩ := id hN
  have rgz : ∀ j, reg (sZ σ + j) := fun j => Or.inr (Or.inr (Or.inr (by omega)))
  have oc : OnlyC σ (wI (wR σ1 35 n (sZ σ)) 33 5 (Int32.ofNat n + 1)) := ((hN.onC hz).wr 35 n _).w 33 _ _ (Or.inl (by decide))
  have fr : Fr σ (wI (wR σ1 35 n (sZ σ)) 33 5 (Int32.ofNat n + 1)) := (hN.fr.wr 35 n _ (by unfold reg; omega)).w 33 _ _ (by unfold reg; omega)
  have rwX : ∀ b i, b < sZ σ → ¬ (b = 35 ∧ i = n) → sR (wI (wR σ1 35 n (sZ σ)) 33 5 (Int32.ofNat n + 1)) b i = sR σ b i := fun b i hb hne => by
    rw [sR_wI, sR_wR, if_neg hne]
    exact (N2 b hb).2.2.2.2 i
  have rwn : sR (wI (wR σ1 35 n (sZ σ)) 33 5 (Int32.ofNat n + 1)) 35 n = sZ σ := by rw [sR_wI, sR_wR, if_pos ⟨rfl, rfl⟩]
  have iX : ∀ b k, 147 ≤ b → sI (wI (wR σ1 35 n (sZ σ)) 33 5 (Int32.ofNat n + 1)) b k = sI σ1 b k := fun b k hb => by rw [sI_wI, if_neg (by omega), sI_wR]
  have hro : RObj A' (wI (wR σ1 35 n (sZ σ)) 33 5 (Int32.ofNat n + 1)) := by
    refine RObj.add (c := 1) (n := n) (z := sZ σ) h.2.2.2.1 (by decide) hTn hnm hTn' hoth (fun c' hc' i hi => cV_congr hc' (hVV c' hc' i (fun z => by obtain ⟨rfl, rfl⟩ := z; omega))) (fun c' hc' i ne => rwX _ _ (by unfold cR; omega) (cR_ne ne)) rwn ?_ (fun a ha hra => ?_) ⟨rgz 0, ?_, N3, fun k hk => ?_⟩
    · show sZ σ ≤ sZ σ1
      omega
    · refine ⟨(N2 a ha).1, fun k => ?_⟩
      rw [sI_wI, if_neg (fun z => by have := z.1; subst this; revert hra; unfold reg; omega), sI_wR]
      exact (N2 a ha).2.2.1 k
    · show sZ σ < sZ σ1
      omega
    · rw [iX _ _ hz]
      simp only [cF, List.mem_cons, List.not_mem_nil, or_false] at hk
      rcases hk with rfl | rfl | rfl | rfl | rfl
      · exact e0.trans h87.symm
      · exact e1.trans h88.symm
      · exact e2.trans h89.symm
      · exact e3.trans h90.symm
      · exact e6.trans h84.symm
  have hrc : RCnt A' (wI (wR σ1 35 n (sZ σ)) 33 5 (Int32.ofNat n + 1)) := fun j hj => by
    by_cases ej : j = 3
    · subst ej
      show sI (wI (wR σ1 35 n (sZ σ)) 33 5 (Int32.ofNat n + 1)) 33 5 = A' 81 4
      rw [hn', sI_wI, if_pos ⟨rfl, rfl⟩]
    · have k3 := (tl_M 1 (by decide)).2.2.2.2.2.2 j hj ej
      rw [sI_wI, if_neg (fun z => k3.2 (Prod.ext z.1 z.2)), sI_wR, h81 _ k3.1, ← h.cnt j hj]
      refine (N2 _ ?_).2.2.1 _
      rcases (show j = 0 ∨ j = 1 ∨ j = 2 ∨ j = 4 ∨ j = 5 ∨ j = 6 ∨ j = 7 ∨ j = 8 ∨ j = 9 ∨ j = 10 by omega) with rfl | rfl | rfl | rfl | rfl | rfl | rfl | rfl | rfl | rfl <;> simp only [cntOf] <;> omega
  have hrt : RTape A' (wI (wR σ1 35 n (sZ σ)) 33 5 (Int32.ofNat n + 1)) := fun j hj => by
    rw [sI_wI, if_neg (by omega), sI_wR, (N2 74 (by omega)).2.2.1, hV 111 _ (by decide) (by omega) (by omega)]
    exact h.2.2.2.2.2.1 j hj
  have hwk : RWork A' (wI (wR σ1 35 n (sZ σ)) 33 5 (Int32.ofNat n + 1)) := by
    obtain ⟨w1, w2, w3⟩ := h.wk
    have hle := (h.1.le (c := 1) (by decide)).1
    have lt : ∀ i, i ≤ 30 → sR σ 35 i + 2 < sZ σ := fun i hi => (w1 i hi).2.2.2.1
    refine ⟨fun i hi => ?_, fun i hi => ?_, fun i j hij hj => ?_⟩
    · by_cases ei : i = n
      · subst ei
        rw [rwn]
        exact ⟨rgz 0, rgz 1, rgz 2, by show sZ σ + 2 < sZ σ1; omega, N3, by rw [sR_wI, sR_wR, if_neg (by omega)]; exact N4, by rw [sR_wI, sR_wR, if_neg (by omega)]; exact N5, N6.1, N6.2, N7.1, N7.2⟩
      · rw [rwX 35 i (by omega) (by omega)]
        exact (w1 i hi).fr fr
    · by_cases ei : i = n
      · subst ei
        rw [rwn]
        refine ⟨⟨fun j hj => ?_, ?_⟩, hz⟩
        · have : j = 0 := by omega
          subst this
          rw [iX _ _ (by omega), iX _ _ (by omega), N8, N9, Nat.add_zero, h85, h86]
          exact ⟨rfl, rfl⟩
        · rw [iX _ _ hz, haM, e7]
          show q = Int32.ofNat (0 + (A' 86 (3 * i + 0)).toNatClampNeg)
          rw [Nat.add_zero, h86, hq, oI_cl (by omega), Nat.zero_add]
      · have hi2 : i < n := by omega
        rw [rwX 35 i (by omega) (by omega)]
        obtain ⟨⟨g1, g2⟩, g3⟩ := w2 i (by omega)
        obtain ⟨k0, k1, k2⟩ := (w1 i (by omega)).keepI fr
        have wm := work_m h.row (show i < cT 1 A by omega)
        have e84 : A' 84 i = A 84 i := hV 84 i (by decide) (by omega) (by omega)
        have eaM : (A 84 i).toNatClampNeg ≤ 3 := wm.2.1
        refine ⟨⟨fun j hj => ?_, ?_⟩, g3⟩
        · rw [e84] at hj
          rw [k1, k2, hV 85 _ (by decide) (by omega) (by omega), hV 86 _ (by decide) (by omega) (by omega)]
          exact g1 j hj
        · rw [k0, e84, wsum_congr _ (fun j hj => hV 86 _ (by decide) (by omega) (by omega))]
          exact g2
    · rw [hTn'] at hj
      by_cases ej : j = n
      · subst ej
        rw [rwn, rwX 35 i (by omega) (by omega)]
        exact lt i (by omega)
      · rw [rwX 35 i (by omega) (by omega), rwX 35 j (by omega) (by omega)]
        exact w3 i j hij (by omega)
  have hlw : RLaw A' (wI (wR σ1 35 n (sZ σ)) 33 5 (Int32.ofNat n + 1)) := h.lw.fr fr (fun i => rwX 40 i (by omega) (by omega)) (rwX 32 7 (by omega) (by omega)) (hoth 6 (by decide) (by decide)) (h.1.le (c := 6) (by decide)).1 (Nat.le_of_eq hls.symm) (Nat.le_of_eq htn.symm) (fun c c1 c2 j => hV c j (by omega) (by omega) (by omega))
  have hsd : ISold A' := fun w hw => by
    rw [hTn'] at hw
    have eF : ∀ f, A' 97 f = A 97 f ∧ A' 98 f = A 98 f := fun f => ⟨hV 97 f (by decide) (by omega) (by omega), hV 98 f (by decide) (by omega) (by omega)⟩
    rw [hoth 4 (by decide) (by decide)]
    simp only [(eF _).1, (eF _).2]
    by_cases ew : w = n
    · subst ew
      rw [h91]
      refine ⟨Or.inl rfl, fun z => absurd z (by decide), ?_⟩
      rintro ⟨f, f1, f2, f3⟩
      exfalso
      have g := (h.row 4 (by decide) f f1).2.2.2
      rw [f2] at g
      rcases g with g | g | g | g | g | g
      · exact absurd g.1 (by decide)
      · exact absurd g.1 (by decide)
      · obtain ⟨j, j1, j2⟩ := g.2.1
        have := (oI_eq (by omega) (by omega)).mp (f3.symm.trans j2)
        omega
      · exact absurd g.1 (by decide)
      · exact absurd g.1 (by decide)
      · exact absurd g.1 (by decide)
    · rw [hV 91 w (by decide) (by omega) (by omega)]
      exact h.sd w (by omega)
  have hap : RAp A' (wI (wR σ1 35 n (sZ σ)) 33 5 (Int32.ofNat n + 1)) := h.ap.same (fun c h1 h2 i => rwX _ _ (by omega) (by omega)) (fun c h1 h2 => hoth c (by omega) (by omega))
  generalize wI (wR σ1 35 n (sZ σ)) 33 5 (Int32.ofNat n + 1) = σF at *
  have ff := hm.fr
  have l1 : cT 1 A' ≤ 30 := by omega
  have l6 : cT 6 A' ≤ 12 := by rw [hoth 6 (by decide) (by decide)]; exact (h.1.le (c := 6) (by decide)).1
  have oc2 : OnlyC σ (wL σF 146 0 vv) := oc.wl 146 0 vv (Or.inr (by decide))
  refine ⟨hB, ?_, hr, RObj.onM (σ := wL σF 146 0 vv) hro hm, RCnt.onM (σ := wL σF 146 0 vv) hrc hm, RTape.onM (σ := wL σF 146 0 vv) hrt hm, (h.stat.onC hz oc2).onM hm, (h.gain.onC oc2).onM hm, hia, RWork.fr (σ := wL σF 146 0 vv) hwk ff (fun i => hm.2.2.2.1 _ _) rfl (fun _ _ _ _ => rfl) l1, RLaw.fr (σ := wL σF 146 0 vv) hlw ff (fun i => hm.2.2.2.1 _ _) (hm.2.2.2.1 _ _) rfl l6 (Nat.le_refl _) (Nat.le_refl _) (fun _ _ _ _ => rfl), h.hr.same (hoth 4 (by decide) (by decide)) (fun a i u1 u2 => hV a i (by omega) (by omega) (by omega)), hsd, h.cl.same (hoth 5 (by decide) (by decide)) (fun a i u1 u2 => hV a i (by omega) (by omega) (by omega)), RAp.same (σ := wL σF 146 0 vv) hap (fun _ _ _ _ => hm.2.2.2.1 _ _) (fun _ _ _ => rfl), (h81 73 (by decide)).trans h.z⟩
  rw [hm.1]; exact Nat.le_trans hz oc.1
