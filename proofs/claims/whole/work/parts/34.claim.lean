/-! sales, claims -/
def sl (A : Ab) (p : Int32) : Prop := nu p (cT 4 A) ∧ A 97 p.toNatClampNeg = 2
theorem sl_of {A : Ab} {p : Int32} (hB : IB A) (h : sl A p) : ∃ j, j < cT 4 A ∧ p = Int32.ofNat j ∧ A 97 j = 2 := by
  have hl : cT 4 A ≤ 200 := (hB.le (c := 4) (by decide)).1
  obtain ⟨j, j1, j2⟩ := nu_of (by omega) h.1
  have h2 := h.2
  rw [j2, oI_cl (by omega)] at h2
  exact ⟨j, j1, j2, h2⟩
theorem C_sale1 {A : Ab} {σ : Sto} (h : CB A σ) {p : Int32} (c : sl A p) : mX11_needSale p σ = some (.inr ()) := by
  obtain ⟨j, j1, j2, j3⟩ := sl_of h.1 c
  obtain ⟨k0, f0, f2, -⟩ := h.fa j1
  unfold mX11_needSale
  rw [j2, h.at4 j1, bnd_some, if_pos k0, f2, if_pos j3]
theorem C_sale0 {A : Ab} {σ : Sto} (h : CB A σ) {p : Int32} (c : ¬ sl A p) : mX11_needSale p σ = some (.inl 0) := by
  have hl : cT 4 A ≤ 200 := (h.1.le (c := 4) (by decide)).1
  unfold mX11_needSale
  by_cases q : nu p (cT 4 A)
  · obtain ⟨j, j1, j2⟩ := nu_of (by omega) q
    obtain ⟨k0, f0, f2, -⟩ := h.fa j1
    rw [j2, h.at4 j1, bnd_some, if_pos k0, f2, if_neg]
    intro z
    refine c ⟨q, ?_⟩
    rw [j2, oI_cl (by omega)]
    exact z
  · obtain ⟨k0, f0, f1, f2⟩ := h.fn
    rw [h.no4 q, bnd_some, if_pos k0, f2 2 (by decide) (by decide), if_neg (by decide)]
theorem M_sale1 {A : Ab} {σ : Sto} (hB : IB A) (hm : RM A σ) (h0 : sI σ 81 0 = 0) {p : Int32} (c : sl A p) : mX12_isSale p σ = some (1, σ) := by
  have hl : cT 4 A ≤ 200 := (hB.le (c := 4) (by decide)).1
  obtain ⟨j, j1, j2, j3⟩ := sl_of hB c
  have hn : sI σ 81 7 = Int32.ofNat (cT 4 A) := (hm 81 7 rfl).trans (hB.le (c := 4) (by decide)).2
  unfold mX12_isSale mX12_isSale_28
  rw [j2, if_neg (oI_nn (by omega)), hn, if_neg (fun q => absurd ((oI_le (by omega) (by omega)).mp q) (by omega)), if_pos (oI_inb (by omega) (by decide)), oI_cl (by omega), hm 97 j rfl, if_pos j3, M_right1 h0]
  rfl
theorem M_sale0 {A : Ab} {σ : Sto} (hB : IB A) (hm : RM A σ) (h0 : sI σ 81 0 = 0) {p : Int32} (c : ¬ sl A p) : mX12_isSale p σ = some (0, wI σ 81 0 1) := by
  have hl : cT 4 A ≤ 200 := (hB.le (c := 4) (by decide)).1
  have hn : sI σ 81 7 = Int32.ofNat (cT 4 A) := (hm 81 7 rfl).trans (hB.le (c := 4) (by decide)).2
  have e : mX12_isSale_27 σ = some (0, wI σ 81 0 1) := by
    unfold mX12_isSale_27 mX12_isSale_28
    rw [M_right0 h0 (by decide)]
    rfl
  unfold mX12_isSale
  by_cases q1 : p < 0
  · rw [if_pos q1, e]
  · rw [if_neg q1, hn]
    by_cases q2 : Int32.ofNat (cT 4 A) ≤ p
    · rw [if_pos q2, e]
    · have q : nu p (cT 4 A) := ⟨q1, nle.mp q2⟩
      obtain ⟨j, j1, j2⟩ := nu_of (by omega) q
      rw [if_neg q2]
      rw [j2, if_pos (oI_inb (by omega) (by decide)), oI_cl (by omega), hm 97 j rfl, if_neg, e]
      intro z
      refine c ⟨q, ?_⟩
      rw [j2, oI_cl (by omega)]
      exact z
/-- the first claim of a person on a sale -/
def firstC (A : Ab) (p s : Int32) : Nat → Nat → Option Nat
  | 0, _ => none
  | m + 1, i => if A 108 i = p ∧ A 109 i = s then some i else firstC A p s m (i + 1)
def oB : Option Nat → Int32
  | none => -1
  | some j => Int32.ofNat j
theorem firstC_some {A : Ab} {p s : Int32} : ∀ m i j, firstC A p s m i = some j → i ≤ j ∧ j < i + m ∧ A 108 j = p ∧ A 109 j = s
  | 0, _, _, h => by cases h
  | m + 1, i, j, h => by
    unfold firstC at h
    by_cases c : A 108 i = p ∧ A 109 i = s
    · rw [if_pos c] at h
      cases h
      exact ⟨Nat.le_refl _, by omega, c⟩
    · rw [if_neg c] at h
      have g := firstC_some m (i + 1) j h
      exact ⟨by omega, by omega, g.2.2⟩
theorem firstC_none {A : Ab} {p s : Int32} : ∀ m i, firstC A p s m i = none → ∀ j, i ≤ j → j < i + m → ¬ (A 108 j = p ∧ A 109 j = s)
  | 0, _, _, _, h1, h2 => by omega
  | m + 1, i, h, j, h1, h2 => by
    unfold firstC at h
    by_cases c : A 108 i = p ∧ A 109 i = s
    · rw [if_pos c] at h; cases h
    · rw [if_neg c] at h
      by_cases e : j = i
      · subst e; exact c
      · exact firstC_none m (i + 1) h j (by omega) (by omega)
theorem CB.ca {A : Ab} {σ : Sto} (h : CB A σ) {i : Nat} (hi : i < cT 5 A) : sK σ (sR σ 39 i) = 4 ∧ sI σ (sR σ 39 i) 0 = A 110 i ∧ sI σ (sR σ 39 i) 1 = 1000000 ∧ sI σ (sR σ 39 i) 3 = A 109 i ∧ sI σ (sR σ 39 i) 4 = A 108 i := by
  have hl := (h.1.le (c := 5) (by decide)).1
  have hm : cM 5 = 200 := rfl
  have F : ∀ k ∈ cF 5, sI σ (sR σ 39 i) k = ccv A i k := fun k hk => h.fld (c := 5) (by decide) hl hi hk
  exact ⟨h.kind (c := 5) (by decide) (by omega), F 0 (by decide), F 1 (by decide), F 3 (by decide), F 4 (by decide)⟩
theorem C_claimOf {A : Ab} {σ : Sto} (h : CB A σ) {p s : Int32} : ∀ m i fuel, i + m = cT 5 A → m < fuel → mX1_claimOf_2 fuel p s (Int32.ofNat i) σ = some (oB (firstC A p s m i)) := by
  have hl : cT 5 A ≤ 200 := (h.1.le (c := 5) (by decide)).1
  have hn : sI σ 33 13 = Int32.ofNat (cT 5 A) := h.num (c := 5) (by decide)
  intro m
  induction m with
  | zero =>
    intro i fuel hi hf
    obtain ⟨n, rfl⟩ : ∃ n, fuel = n + 1 := ⟨fuel - 1, by omega⟩
    have e : i = cT 5 A := by omega
    subst e
    show mX1_claimOf_2B (mX1_claimOf_2 n) _ _ _ σ = _
    unfold mX1_claimOf_2B
    rw [hn, if_pos ((oI_le (by omega) (by omega)).mpr (Nat.le_refl _))]
    rfl
  | succ m ih =>
    intro i fuel hi hf
    obtain ⟨n, rfl⟩ : ∃ n, fuel = n + 1 := ⟨fuel - 1, by omega⟩
    have hi2 : i < cT 5 A := by omega
    show mX1_claimOf_2B (mX1_claimOf_2 n) _ _ _ σ = _
    unfold mX1_claimOf_2B firstC
    obtain ⟨k0, f0, f1, f3, f4⟩ := h.ca hi2
    rw [hn, if_neg (fun q => absurd ((oI_le (by omega) (by omega)).mp q) (by omega)), h.at5 hi2, bnd_some, if_pos k0, f4, bnd_some, if_pos k0, f3]
    by_cases c1 : A 108 i = p
    · rw [if_pos c1]
      by_cases c2 : A 109 i = s
      · rw [if_pos c2, if_pos ⟨c1, c2⟩]; rfl
      · rw [if_neg c2, if_neg (fun q => c2 q.2), oI_s]
        exact ih (i + 1) n (by omega) (by omega)
    · rw [if_neg c1, if_neg (fun q => c1 q.1), oI_s]
      exact ih (i + 1) n (by omega) (by omega)
theorem C_claimOf0 {A : Ab} {σ : Sto} (h : CB A σ) (p s : Int32) : mX1_claimOf p s σ = some (oB (firstC A p s (cT 5 A) 0)) := by
  have hl : cT 5 A ≤ 200 := (h.1.le (c := 5) (by decide)).1
  exact C_claimOf h (cT 5 A) 0 FU (by omega) (show cT 5 A < 5000 by omega)
theorem M_claim_l {A : Ab} {σ : Sto} (hB : IB A) (hm : RM A σ) {p s : Int32} : ∀ m i fuel x3, i + m = cT 5 A → m < fuel → mX12_claim_42 fuel p s x3 (Int32.ofNat i) σ = mX12_claim_42 1 p s (if x3 = 0 then (if (firstC A p s m i).isSome then 1 else 0) else if m = 0 then x3 else 1) (Int32.ofNat (cT 5 A)) σ := by
  have hl : cT 5 A ≤ 200 := (hB.le (c := 5) (by decide)).1
  have hn : sI σ 81 8 = Int32.ofNat (cT 5 A) := (hm 81 8 rfl).trans (hB.le (c := 5) (by decide)).2
  intro m
  induction m with
  | zero =>
    intro i fuel x3 hi hf
    obtain ⟨n, rfl⟩ : ∃ n, fuel = n + 1 := ⟨fuel - 1, by omega⟩
    have e : i = cT 5 A := by omega
    subst e
    have e3 : (if x3 = 0 then (if (firstC A p s 0 (cT 5 A)).isSome then (1 : Int32) else 0) else if 0 = 0 then x3 else 1) = x3 := by
      by_cases q : x3 = 0
      · rw [if_pos q, q]; rfl
      · rw [if_neg q, if_pos rfl]
    rw [e3]
    refine Eq.trans (b := mX12_claim_42B (mX12_claim_42 n) p s x3 (Int32.ofNat (cT 5 A)) σ) rfl (Eq.trans ?_ (Eq.refl (mX12_claim_42B (mX12_claim_42 0) p s x3 (Int32.ofNat (cT 5 A)) σ)))
    unfold mX12_claim_42B
    have g : sI σ 81 8 ≤ Int32.ofNat (cT 5 A) := by rw [hn]; exact (oI_le (by omega) (by omega)).mpr (Nat.le_refl _)
    rw [if_pos g, if_pos g]
  | succ m ih =>
    intro i fuel x3 hi hf
    obtain ⟨n, rfl⟩ : ∃ n, fuel = n + 1 := ⟨fuel - 1, by omega⟩
    have hi2 : i < cT 5 A := by omega
    have one : ∀ k, (if (1 : Int32) = 0 then (if (firstC A p s m (i + 1)).isSome then (1 : Int32) else 0) else if k = 0 then 1 else 1) = 1 := fun k => by rw [if_neg i10, ite_self]
    refine Eq.trans (b := mX12_claim_42B (mX12_claim_42 n) p s x3 (Int32.ofNat i) σ) rfl ?_
    unfold mX12_claim_42B
    rw [hn, if_neg (fun q => absurd ((oI_le (by omega) (by omega)).mp q) (by omega))]
    by_cases c0 : x3 = 0
    · rw [if_pos c0, if_pos c0, if_pos (oI_inb (by omega) (by decide)), oI_cl (by omega), hm 108 i rfl, hm 109 i rfl]
      have no : ¬ (A 108 i = p ∧ A 109 i = s) → firstC A p s (m + 1) i = firstC A p s m (i + 1) := fun q => if_neg q
      by_cases c1 : A 108 i = p
      · rw [if_pos c1]
        by_cases c2 : A 109 i = s
        · have yes : firstC A p s (m + 1) i = some i := if_pos ⟨c1, c2⟩
          rw [if_pos c2, yes, oI_s, ih (i + 1) n 1 (by omega) (by omega), one]; rfl
        · rw [if_neg c2, no (fun q => c2 q.2), oI_s, ih (i + 1) n 0 (by omega) (by omega), if_pos rfl]
      · rw [if_neg c1, no (fun q => c1 q.1), oI_s, ih (i + 1) n 0 (by omega) (by omega), if_pos rfl]
    · rw [if_neg c0, if_neg c0, oI_s, ih (i + 1) n 1 (by omega) (by omega), one, if_neg (by omega)]
set_option maxHeartbeats 4000000 in
theorem op_claim (p0 p1 : Int32) : OpOK (mL_claim p0 p1) (mX12_claim p0 p1) bZ := by
  intro A σ h
  obtain ⟨nt, nl, np, nw, ns, nr, nf, nc, nL, ⟨b1, b2, b3, b4, b5, b6, b7, b8, b9⟩, ⟨a1, a2, a3, a4, a5, a6, a7, a8, a9⟩, ⟨c0, c1, c2, c3, c4, c5, c6, c7, c8⟩, ⟨d1, d2, d3, d4, d5, d6, d7, d8, d9⟩⟩ := h.nums
  have hz := h.2.1
  have t0 : ∀ σ' : Sto, sI (wI σ' 81 0 0) 81 0 = 0 := fun _ => rfl
  have r0 : ∀ σ', RM A σ' → RM A (wI σ' 81 0 0) := fun σ' hm => hm.np 81 0 0 rfl
  have mi : ∀ p σ', RM A σ' → mX12_isPerson p (wI σ' 81 0 0) = if nu p np then some (1, wI σ' 81 0 0) else some (0, wI (wI σ' 81 0 0) 81 0 1) := fun p σ' hm => by
    rw [M_isPerson (t0 σ'), (r0 _ hm) 81 3 rfl, a3]
  have m8 : ∀ σ', RM A σ' → sI (wI σ' 81 0 0) 81 8 = Int32.ofNat nc := fun σ' hm => ((r0 _ hm) 81 8 rfl).trans a8
  have m1 : ∀ σ', RM A σ' → sI (wI σ' 81 0 0) 81 1 = Int32.ofNat nt := fun σ' hm => ((r0 _ hm) 81 1 rfl).trans a1
  by_cases g1 : nu p0 np
  · by_cases g2 : sl A p1
    · obtain ⟨js, js1, js2, js3⟩ := sl_of h.1 g2
      have eM : ∀ σ' x, RM A σ' → (x = if nc < 200 then (0 : Int32) else 1) → mX12_claim p0 p1 σ' = mX12_claim_42 1 p0 p1 (if x = 0 then (if (firstC A p0 p1 nc 0).isSome then (1 : Int32) else 0) else if nc = 0 then x else 1) (Int32.ofNat nc) (wI σ' 81 0 0) := fun σ' x hm hx => by
        have g := M_claim_l h.1 (r0 _ hm) (p := p0) (s := p1) nc 0 FU x (by omega) (show nc < 5000 by omega)
        rw [d8] at g
        simp only [mX12_claim, stp]
        rw [mi p0 _ hm, if_pos g1, bd2_some, if_neg i10, M_sale1 h.1 (r0 _ hm) (t0 _) g2, bd2_some, if_neg i10, ← g, m8 _ hm]
        by_cases c : nc < 200
        · rw [if_neg (fun q => (M_all rfl b8).mp q c), hx, if_pos c]; rfl
        · rw [if_pos ((M_all rfl b8).mpr c), hx, if_neg c]; rfl
      by_cases G : nc < 200 ∧ firstC A p0 p1 nc 0 = none
      · obtain ⟨G1, G2⟩ := G
        obtain ⟨σ1, f, i1, i4, i3⟩ := C_init (σ := σ) 6 p1 p0 (-1) (-1) (Int32.ofNat nt)
        have hT : sI (nwK σ 4 0) 33 0 = Int32.ofNat nt := by rw [nwK_I, if_neg (h.sz (by decide)), c0]
        have q4 := i4.2.2.1
        have q6 : ¬ (200 : Int32) ≤ Int32.ofNat nc := fun q => absurd ((oI_le (j := 200) (by decide) (by omega)).mp q) (by omega)
        have e33 : sI σ1 33 13 = Int32.ofNat nc := ((i4.2.1 33 (by omega)).2.2.1 13).trans c7
        have e2 : mX11_claim p0 p1 σ = some (.inr (1, wI (wR σ1 39 nc (sZ σ)) 33 13 (Int32.ofNat nc + 1))) := by
          unfold mX11_claim
          rw [C_needP c2 (by omega), if_pos g1, bdp_inr, C_sale1 h.cb g2, bdp_inr, c7, if_neg q6, C_claimOf0 h.cb, d8, G2, bnd_some, if_pos (show oB none = -1 from rfl)]
          simp only [stp, Nat.reduceAdd]
          rw [hT, i1, bnd_some, if_pos (oI_inb (by omega) (by decide)), if_pos q4, oI_cl (by omega)]
          show some (Sum.inr (1, wI (wR σ1 39 nc (sZ σ)) 33 13 (sI σ1 33 13 + 1))) = _
          rw [e33]
        generalize hF : wI (wR σ1 39 nc (sZ σ)) 33 13 (Int32.ofNat nc + 1) = σF at e2
        have oc : OnlyC σ σF := by rw [← hF]; exact ((i4.onC hz).wr 39 nc _).w 33 _ _ (Or.inl (by decide))
        have hm1 : RM A (wL σF 146 0 (bZ 1)) := (h.2.2.1.onC oc).wl _ _ _
        have hm2 := r0 _ hm1
        have e3 : mX12_claim p0 p1 (wL σF 146 0 (bZ 1)) = some (1, wI (wI (wI (wI (wI (wL σF 146 0 (bZ 1)) 81 0 0) 108 nc p0) 109 nc p1) 110 nc (Int32.ofNat nt)) 81 8 (Int32.ofNat nc + 1)) := by
          rw [eM _ 0 hm1 (by rw [if_pos G1]), if_pos rfl, G2]
          refine Eq.trans (b := mX12_claim_42B (mX12_claim_42 0) p0 p1 0 (Int32.ofNat nc) (wI (wL σF 146 0 (bZ 1)) 81 0 0)) rfl ?_
          unfold mX12_claim_42B
          have gg := eq_true (oI_inb (j := nc) (n := 200) (by omega) (by decide))
          have g3 : (Int32.ofNat nc).toNatClampNeg = nc := oI_cl (by omega)
          have g4 : (Int32.ofNat nc ≤ Int32.ofNat nc) = True := eq_true ((oI_le (by omega) (by omega)).mpr (Nat.le_refl _))
          have g5 := m8 _ hm1
          have g6 := m1 _ hm1
          generalize wI (wL σF 146 0 (bZ 1)) 81 0 0 = ρ at g5 g6 ⊢
          simp only [stp, sI_wI, g5, g6, gg, g3, g4, if_true, if_false, eq_self, and_self, Nat.reduceEqDiff, false_and, and_false]
        have N : ∀ a i, ¬ ((a = 108 ∨ a = 109 ∨ a = 110) ∧ i = nc) → ¬ (a = 81 ∧ i = 8) → up2 (up2 (up2 (up2 A 108 nc p0) 109 nc p1) 110 nc (Int32.ofNat nt)) 81 8 (Int32.ofNat nc + 1) a i = A a i := fun a i q q2 => by
          rw [up2_ne q2, up2_ne (fun z => q ⟨by omega, z.2⟩), up2_ne (fun z => q ⟨by omega, z.2⟩), up2_ne (fun z => q ⟨by omega, z.2⟩)]
        have y108 : up2 (up2 (up2 (up2 A 108 nc p0) 109 nc p1) 110 nc (Int32.ofNat nt)) 81 8 (Int32.ofNat nc + 1) 108 nc = p0 := by rw [up2_ne (by omega), up2_ne (by omega), up2_ne (by omega), up2_eq, if_pos ⟨rfl, rfl⟩]
        have y109 : up2 (up2 (up2 (up2 A 108 nc p0) 109 nc p1) 110 nc (Int32.ofNat nt)) 81 8 (Int32.ofNat nc + 1) 109 nc = p1 := by rw [up2_ne (by omega), up2_ne (by omega), up2_eq, if_pos ⟨rfl, rfl⟩]
        have y110 : up2 (up2 (up2 (up2 A 108 nc p0) 109 nc p1) 110 nc (Int32.ofNat nt)) 81 8 (Int32.ofNat nc + 1) 110 nc = Int32.ofNat nt := by rw [up2_ne (by omega), up2_eq, if_pos ⟨rfl, rfl⟩]
        have y81 : up2 (up2 (up2 (up2 A 108 nc p0) 109 nc p1) 110 nc (Int32.ofNat nt)) 81 8 (Int32.ofNat nc + 1) 81 8 = Int32.ofNat nc + 1 := by rw [up2_eq, if_pos ⟨rfl, rfl⟩]
        have hm3 := (((hm2.w 108 nc p0).w 109 nc p1).w 110 nc (Int32.ofNat nt)).w 81 8 (Int32.ofNat nc + 1)
        generalize up2 (up2 (up2 (up2 A 108 nc p0) 109 nc p1) 110 nc (Int32.ofNat nt)) 81 8 (Int32.ofNat nc + 1) = A' at N y108 y109 y110 y81 hm3
        have om := (((((OnlyM.rf (σ := wL σF 146 0 (bZ 1))).w 81 0 0 (by decide)).w 108 nc p0 (by decide)).w 109 nc p1 (by decide)).w 110 nc (Int32.ofNat nt) (by decide)).w 81 8 (Int32.ofNat nc + 1) (by decide)
        have hk81 : ∀ k, k ≠ 8 → A' 81 k = A 81 k := fun k hk => N 81 k (by omega) (by omega)
        have hT4 : cT 4 A' = nf := by show (A' 81 7).toNatClampNeg = _; rw [hk81 7 (by decide)]; exact d7
        have hT0 : cT 0 A' = np := by show (A' 81 3).toNatClampNeg = _; rw [hk81 3 (by decide)]; exact d3
        have hT1 : cT 1 A' = nw := by show (A' 81 4).toNatClampNeg = _; rw [hk81 4 (by decide)]; exact d4
        have hT5 : cT 5 A' = nc + 1 := by show (A' 81 8).toNatClampNeg = _; rw [y81, oI_s, oI_cl (by omega)]
        have htn : nTn A' = nt := by show (A' 81 1).toNatClampNeg = _; rw [hk81 1 (by decide)]; exact d1
        have hK : ∀ a i, 91 ≤ a → a ≤ 107 → A' a i = A a i := fun a i u1 u2 => N a i (by omega) (by omega)
        refine ⟨0, _, 1, _, by show wr hN bZ σ (mX11_claim p0 p1 σ) = _; rw [e2]; rfl, e3, rfl, fun _ => rfl, A', Rel.tell (c := 5) (n := nc) h (by decide) (by decide) i4 a8 G1 y81 hk81 (fun a i u1 u2 u3 => N a i (fun z => u3 ⟨by rcases z.1 with rfl | rfl | rfl <;> decide, z.2⟩) (by omega)) ?_ ?_ (h.hr.same (hT4.trans d7.symm) (fun a i u1 u2 => hK a i (by omega) u2)) (h.sd.same (hT4.trans d7.symm) (hT1.trans d4.symm) hK trivial) ?_ (by rw [show wI (wR σ1 (cR 5) nc (sZ σ)) 33 (2 * 5 + 3) (Int32.ofNat nc + 1) = σF from hF]; exact om) hm3⟩
        · intro k hk
          have k1 : ∀ k ∈ cF 4, ffv 6 p1 p0 (-1) (-1) (Int32.ofNat nt) (-1) 0 1 (-1) 0 0 k = ccv A' nc k := cF4 ⟨y110.symm, rfl, rfl, y109.symm, y108.symm, rfl, rfl, rfl, rfl, rfl, rfl, rfl, rfl⟩
          exact (i3 k hk).trans (k1 k hk)
        · refine ⟨?_, ⟨js, by omega, y109.trans js2, by rw [hK 97 js (by decide) (by decide)]; exact js3⟩, ?_⟩
          · rw [y108, hT0]; obtain ⟨j, j1, j2⟩ := nu_of (by omega) g1; exact ⟨j, j1, j2⟩
          · rw [y110, htn]; exact ⟨nt, by omega, rfl⟩
        · intro i j hij hj
          rw [hT5] at hj
          have hA8 : ∀ i, i < nc → A' 108 i = A 108 i ∧ A' 109 i = A 109 i := fun i hi => ⟨N 108 i (by omega) (by omega), N 109 i (by omega) (by omega)⟩
          by_cases e : j = nc
          · subst e
            rw [(hA8 i hij).1, (hA8 i hij).2, y108, y109]
            exact firstC_none j 0 G2 i (by omega) (by omega)
          · rw [(hA8 i (by omega)).1, (hA8 i (by omega)).2, (hA8 j (by omega)).1, (hA8 j (by omega)).2]
            exact h.cl i j hij (by omega)
      · have e2 : mX11_claim p0 p1 σ = some (.inr (0, σ)) := by
          unfold mX11_claim
          rw [C_needP c2 (by omega), if_pos g1, bdp_inr, C_sale1 h.cb g2, bdp_inr, c7]
          by_cases G1 : (200 : Int32) ≤ Int32.ofNat nc
          · rw [if_pos G1]
          · have G1' : nc < 200 := Nat.not_le.mp fun q => G1 ((oI_le (j := 200) (by decide) (by omega)).mpr q)
            rw [if_neg G1, C_claimOf0 h.cb, d8, bnd_some]
            cases e : firstC A p0 p1 nc 0 with
            | none => exact absurd ⟨G1', e⟩ G
            | some j =>
              have := (firstC_some nc 0 j e).2.1
              show (if Int32.ofNat j = -1 then _ else _) = _
              rw [if_neg (ne_neg1 (by omega))]
        have hm1 : RM A (wL σ 146 0 (bZ 0)) := h.2.2.1.wl _ _ _
        have e3 : mX12_claim p0 p1 (wL σ 146 0 (bZ 0)) = some (0, wI (wL σ 146 0 (bZ 0)) 81 0 0) := by
          have fin : ∀ ρ, sI ρ 81 8 = Int32.ofNat nc → mX12_claim_42 1 p0 p1 1 (Int32.ofNat nc) ρ = some (0, ρ) := fun ρ hρ => by
            refine Eq.trans (b := mX12_claim_42B (mX12_claim_42 0) p0 p1 1 (Int32.ofNat nc) ρ) rfl ?_
            unfold mX12_claim_42B
            rw [hρ, if_pos ((oI_le (by omega) (by omega)).mpr (Nat.le_refl _)), if_neg i10]
          by_cases G1 : nc < 200
          · rw [eM _ 0 hm1 (by rw [if_pos G1]), if_pos rfl]
            cases e : firstC A p0 p1 nc 0 with
            | none => exact absurd ⟨G1, e⟩ G
            | some j => exact fin _ (m8 _ hm1)
          · rw [eM _ 1 hm1 (by rw [if_neg G1]), if_neg i10, ite_self]
            exact fin _ (m8 _ hm1)
        exact op_same (σ := σ) h (by show wr hN bZ σ (mX11_claim p0 p1 σ) = _; rw [e2]; rfl) e3 rfl
    · have e2 : mX11_claim p0 p1 σ = some (.inl 0) := by
        unfold mX11_claim
        rw [C_needP c2 (by omega), if_pos g1, bdp_inr, C_sale0 h.cb g2]; rfl
      refine op_thr (k := 1) (b := 0) h (by decide) (by show wr hN bZ σ (mX11_claim p0 p1 σ) = _; rw [e2]; rfl) ?_
      simp only [mX12_claim, stp]
      rw [mi p0 _ h.2.2.1, if_pos g1, bd2_some, if_neg i10, M_sale0 h.1 (r0 _ h.2.2.1) (t0 _) g2]; rfl
  · have e2 : mX11_claim p0 p1 σ = some (.inl 0) := by
      unfold mX11_claim
      rw [C_needP c2 (by omega), if_neg g1]; rfl
    refine op_thr (k := 1) (b := 0) h (by decide) (by show wr hN bZ σ (mX11_claim p0 p1 σ) = _; rw [e2]; rfl) ?_
    simp only [mX12_claim, stp]
    rw [mi p0 _ h.2.2.1, if_neg g1]; rfl
