/-! the checks of both, and facts told -/
theorem M_isWork {σ : Sto} {p : Int32} (h : sI σ 81 0 = 0) : mX12_isWork p σ = if ¬ p < 0 ∧ p < sI σ 81 4 then some (1, σ) else some (0, wI σ 81 0 1) := by
  unfold mX12_isWork mX12_isWork_17 mX12_isWork_18
  by_cases h1 : p < 0
  · rw [if_pos h1, if_neg (fun q => q.1 h1), M_right0 h (by decide)]; rfl
  · by_cases h2 : sI σ 81 4 ≤ p
    · rw [if_neg h1, if_pos h2, if_neg (fun q => nle.mpr q.2 h2), M_right0 h (by decide)]; rfl
    · rw [if_neg h1, if_neg h2, if_pos ⟨h1, nle.mp h2⟩, M_right1 h]; rfl
theorem M_isSociety {σ : Sto} {p : Int32} (h : sI σ 81 0 = 0) : mX12_isSociety p σ = if ¬ p < 0 ∧ p < sI σ 81 5 then some (1, σ) else some (0, wI σ 81 0 1) := by
  unfold mX12_isSociety mX12_isSociety_17 mX12_isSociety_18
  by_cases h1 : p < 0
  · rw [if_pos h1, if_neg (fun q => q.1 h1), M_right0 h (by decide)]; rfl
  · by_cases h2 : sI σ 81 5 ≤ p
    · rw [if_neg h1, if_pos h2, if_neg (fun q => nle.mpr q.2 h2), M_right0 h (by decide)]; rfl
    · rw [if_neg h1, if_neg h2, if_pos ⟨h1, nle.mp h2⟩, M_right1 h]; rfl
theorem M_isEvening {σ : Sto} {p : Int32} (h : sI σ 81 0 = 0) : mX12_isEvening p σ = if ¬ p < 0 ∧ p ≤ sI σ 81 1 then some (1, σ) else some (0, wI σ 81 0 2) := by
  unfold mX12_isEvening mX12_isEvening_17 mX12_isEvening_18
  by_cases h1 : p < 0
  · rw [if_pos h1, if_neg (fun q => q.1 h1), M_right0 h (by decide)]; rfl
  · by_cases h2 : sI σ 81 1 < p
    · rw [if_neg h1, if_pos h2, if_neg (fun q => nlt.mpr q.2 h2), M_right0 h (by decide)]; rfl
    · rw [if_neg h1, if_neg h2, if_pos ⟨h1, nlt.mp h2⟩, M_right1 h]; rfl
theorem M_isYear {σ : Sto} {p : Int32} (h : sI σ 81 0 = 0) : mX12_isYear p σ = if ¬ p < 0 ∧ ¬ 99 < p then some (1, σ) else some (0, wI σ 81 0 1) := by
  unfold mX12_isYear mX12_isYear_15 mX12_isYear_16
  by_cases h1 : p < 0
  · rw [if_pos h1, if_neg (fun q => q.1 h1), M_right0 h (by decide)]; rfl
  · by_cases h2 : 99 < p
    · rw [if_neg h1, if_pos h2, if_neg (fun q => q.2 h2), M_right0 h (by decide)]; rfl
    · rw [if_neg h1, if_neg h2, if_pos ⟨h1, h2⟩, M_right1 h]; rfl
/-- a number of one of n -/
abbrev nu (p : Int32) (n : Nat) : Prop := ¬ p < 0 ∧ p < Int32.ofNat n
theorem nu_of {p : Int32} {n : Nat} (hn : n < 2147483648) (h : nu p n) : ∃ j, j < n ∧ p = Int32.ofNat j := oI_of hn h.1 h.2
theorem C_needP {σ : Sto} {p : Int32} {n : Nat} (hc : sI σ 33 3 = Int32.ofNat n) (hn : n < 2147483648) : mX11_needPerson p σ = if nu p n then some (.inr ()) else some (.inl 0) := by
  unfold mX11_needPerson
  rw [hc]
  by_cases c : nu p n
  · rw [if_pos c, if_neg (fun q => (C_within rfl hn).mp q c)]
  · rw [if_neg c, if_pos ((C_within rfl hn).mpr c)]
theorem C_needW {σ : Sto} {p : Int32} {n : Nat} (hc : sI σ 33 5 = Int32.ofNat n) (hn : n < 2147483648) : mX11_needWork p σ = if nu p n then some (.inr ()) else some (.inl 0) := by
  unfold mX11_needWork
  rw [hc]
  by_cases c : nu p n
  · rw [if_pos c, if_neg (fun q => (C_within rfl hn).mp q c)]
  · rw [if_neg c, if_pos ((C_within rfl hn).mpr c)]
theorem C_needL {σ : Sto} {p : Int32} {n : Nat} (hc : sI σ 33 1 = Int32.ofNat n) (hn : n < 2147483648) : mX11_needLand p σ = if nu p n then some (.inr ()) else some (.inl 0) := by
  unfold mX11_needLand
  rw [hc]
  by_cases c : nu p n
  · rw [if_pos c, if_neg (fun q => (C_within rfl hn).mp q c)]
  · rw [if_neg c, if_pos ((C_within rfl hn).mpr c)]
theorem C_needS {σ : Sto} {p : Int32} {n : Nat} (hc : sI σ 33 7 = Int32.ofNat n) (hn : n < 2147483648) : mX11_needSociety p σ = if nu p n then some (.inr ()) else some (.inl 0) := by
  unfold mX11_needSociety
  rw [hc]
  by_cases c : nu p n
  · rw [if_pos c, if_neg (fun q => (C_within rfl hn).mp q c)]
  · rw [if_neg c, if_pos ((C_within rfl hn).mpr c)]
theorem C_needE {σ : Sto} {p : Int32} : mX11_needEvening p σ = if ¬ p < 0 ∧ p ≤ sI σ 33 0 then some (.inr ()) else some (.inl 1) := by
  unfold mX11_needEvening
  by_cases c : ¬ p < 0 ∧ p ≤ sI σ 33 0
  · rw [if_pos c, if_neg (fun q => (C_isW.mp q).elim c.1 (nlt.mpr c.2))]
  · rw [if_neg c, if_pos (C_isW.mpr (Classical.byContradiction fun q => c ⟨fun z => q (Or.inl z), nlt.mp fun z => q (Or.inr z)⟩))]
theorem C_needY {σ : Sto} {p : Int32} : mX11_needYear p σ = if ¬ p < 0 ∧ ¬ 99 < p then some (.inr ()) else some (.inl 0) := by
  unfold mX11_needYear
  by_cases c : ¬ p < 0 ∧ ¬ 99 < p
  · rw [if_pos c, if_neg (fun q => (C_isW.mp q).elim c.1 c.2)]
  · rw [if_neg c, if_pos (C_isW.mpr (Classical.byContradiction fun q => c ⟨fun z => q (Or.inl z), fun z => q (Or.inr z)⟩))]
theorem C_needWh {σ : Sto} {p m : Int32} : mX11_needWhat p m σ = if ¬ p < 0 ∧ ¬ m < p then some (.inr ()) else some (.inl 0) := by
  unfold mX11_needWhat
  by_cases c : ¬ p < 0 ∧ ¬ m < p
  · rw [if_pos c, if_neg (fun q => (C_isW.mp q).elim c.1 c.2)]
  · rw [if_neg c, if_pos (C_isW.mpr (Classical.byContradiction fun q => c ⟨fun z => q (Or.inl z), fun z => q (Or.inr z)⟩))]
theorem C_isDay {σ : Sto} {p : Int32} : (mX11_isDay p σ = 0) ↔ (p < 0 ∨ 36499 < p) := C_isW
/-- what the plain numbers are -/
theorem Rel.nums {A : Ab} {σ : Sto} (h : Rel A σ) : ∃ nt nl np nw ns nr nf nc nL : Nat, (nt ≤ 999 ∧ nl ≤ 6 ∧ np ≤ 30 ∧ nw ≤ 30 ∧ ns ≤ 5 ∧ nr ≤ 60 ∧ nf ≤ 200 ∧ nc ≤ 200 ∧ nL ≤ 12) ∧
    (A 81 1 = Int32.ofNat nt ∧ A 81 2 = Int32.ofNat nl ∧ A 81 3 = Int32.ofNat np ∧ A 81 4 = Int32.ofNat nw ∧ A 81 5 = Int32.ofNat ns ∧ A 81 6 = Int32.ofNat nr ∧ A 81 7 = Int32.ofNat nf ∧ A 81 8 = Int32.ofNat nc ∧ A 81 50 = Int32.ofNat nL) ∧
    (sI σ 33 0 = Int32.ofNat nt ∧ sI σ 33 1 = Int32.ofNat nl ∧ sI σ 33 3 = Int32.ofNat np ∧ sI σ 33 5 = Int32.ofNat nw ∧ sI σ 33 7 = Int32.ofNat ns ∧ sI σ 33 9 = Int32.ofNat nr ∧ sI σ 33 11 = Int32.ofNat nf ∧ sI σ 33 13 = Int32.ofNat nc ∧ sI σ 33 15 = Int32.ofNat nL) ∧
    (nTn A = nt ∧ nLs A = nl ∧ cT 0 A = np ∧ cT 1 A = nw ∧ cT 2 A = ns ∧ cT 3 A = nr ∧ cT 4 A = nf ∧ cT 5 A = nc ∧ cT 6 A = nL) := by
  obtain ⟨⟨nt, b1, c1⟩, ⟨nl, b2, c2⟩, ⟨np, b3, c3⟩, ⟨nw, b4, c4⟩, ⟨ns, b5, c5⟩, ⟨nr, b6, c6⟩, ⟨nf, b7, c7⟩, ⟨nc, b8, c8⟩, ⟨nL, b9, c9⟩, -⟩ := h.1
  have k0 := (h.cnt 0 (by decide)).trans c1
  have k1 := (h.cnt 1 (by decide)).trans c2
  have k2 := (h.cnt 2 (by decide)).trans c3
  have k3 := (h.cnt 3 (by decide)).trans c4
  have k4 := (h.cnt 4 (by decide)).trans c5
  have k5 := (h.cnt 5 (by decide)).trans c6
  have k6 := (h.cnt 6 (by decide)).trans c7
  have k7 := (h.cnt 7 (by decide)).trans c8
  have k8 := (h.cnt 8 (by decide)).trans c9
  exact ⟨nt, nl, np, nw, ns, nr, nf, nc, nL, ⟨b1, b2, b3, b4, b5, b6, b7, b8, b9⟩, ⟨c1, c2, c3, c4, c5, c6, c7, c8, c9⟩, ⟨k0, k1, k2, k3, k4, k5, k6, k7, k8⟩,
    ⟨ooN c1 (by omega), ooN c2 (by omega), ooN c3 (by omega), ooN c4 (by omega), ooN c5 (by omega), ooN c6 (by omega), ooN c7 (by omega), ooN c8 (by omega), ooN c9 (by omega)⟩⟩
/-- a fact's cell -/
def ffv (k w p q d t ld pp qq l pr hw : Int32) : Nat → Int32
  | 0 => t
  | 1 => 1000000
  | 2 => k
  | 3 => w
  | 4 => p
  | 5 => q
  | 6 => d
  | 7 => ld
  | 8 => pp
  | 9 => qq
  | 10 => l
  | 11 => pr
  | _ => hw
theorem cF4 {P : Nat → Prop} (h : P 0 ∧ P 1 ∧ P 2 ∧ P 3 ∧ P 4 ∧ P 5 ∧ P 6 ∧ P 7 ∧ P 8 ∧ P 9 ∧ P 10 ∧ P 11 ∧ P 12) : ∀ k ∈ cF 4, P k := fun k hk => by
  obtain ⟨h0, h1, h2, h3, h4, h5, h6, h7, h8, h9, h10, h11, h12⟩ := h
  simp only [cF, List.mem_cons, List.not_mem_nil, or_false] at hk
  rcases hk with rfl | rfl | rfl | rfl | rfl | rfl | rfl | rfl | rfl | rfl | rfl | rfl | rfl <;> assumption
theorem fcv_of {A : Ab} {n : Nat} {k w p q d t x100 x101 x102 x103 x104 x105 : Int32} (h106 : A 106 n = t) (h107 : A 107 n = -1) (h97 : A 97 n = k) (h98 : A 98 n = w) (h99 : A 99 n = p) (h100 : A 100 n = x100) (h101 : A 101 n = x101) (h102 : A 102 n = x102) (h103 : A 103 n = x103) (h104 : A 104 n = x104) (h105 : A 105 n = x105)
    (hq : (if k = 4 then p else x100) = q) (hd : (if k = 1 then -1 else x101) = d) : ∀ j ∈ cF 4, fcv A n j = ffv k w p q d t (if k = 0 then x102 else -1) (if k = 1 then x104 else 0) (if k = 1 then x105 else 1) (if k = 2 then x103 else -1) (if k = 2 then x104 else 0) (if k = 2 then x105 else 0) j := by
  refine cF4 ⟨?_, ?_, ?_, ?_, ?_, ?_, ?_, ?_, ?_, ?_, ?_, ?_, ?_⟩
  · exact h106
  · show nev (A 107 n) = _
    rw [h107]; rfl
  · exact h97
  · exact h98
  · exact h99
  · show (if A 97 n = 4 then A 99 n else A 100 n) = q
    rw [h97, h99, h100]; exact hq
  · show (if A 97 n = 1 then -1 else A 101 n) = d
    rw [h97, h101]; exact hd
  · show (if A 97 n = 0 then A 102 n else -1) = if k = 0 then x102 else -1
    rw [h97, h102]
  · show (if A 97 n = 1 then A 104 n else 0) = if k = 1 then x104 else 0
    rw [h97, h104]
  · show (if A 97 n = 1 then A 105 n else 1) = if k = 1 then x105 else 1
    rw [h97, h105]
  · show (if A 97 n = 2 then A 103 n else -1) = if k = 2 then x103 else -1
    rw [h97, h103]
  · show (if A 97 n = 2 then A 104 n else 0) = if k = 2 then x104 else 0
    rw [h97, h104]
  · show (if A 97 n = 2 then A 105 n else 0) = if k = 2 then x105 else 0
    rw [h97, h105]
theorem C_init {σ : Sto} (k w p q d t : Int32) : ∃ σ1 f, mX3_init (sZ σ) k w p q d t (nwK σ 4 0) = some σ1 ∧ NewC σ σ1 4 f ∧ ∀ j ∈ cF 4, f j = ffv k w p q d t (-1) 0 1 (-1) 0 0 j := by
  have hK : sK (wI (wI (nwK σ 4 0) (sZ σ) 0 1000000) (sZ σ) 1 1000000) (sZ σ) = 4 := by rw [sK_wI, sK_wI, nwK_K, if_pos rfl]
  refine ⟨_, _, ?_, (((((((((((((NewC.nw σ 4).w 0 1000000).w 1 1000000).w 7 (-1)).w 8 0).w 9 1).w 10 (-1)).w 11 0).w 12 0).w 2 k).w 3 w).w 4 p).w 5 q |>.w 6 d).w 0 t, ?_⟩
  · simp only [mX3_init, mX9_init3, stp, bnd_some, hK, if_true]
  · exact cF4 ⟨rfl, rfl, rfl, rfl, rfl, rfl, rfl, rfl, rfl, rfl, rfl, rfl, rfl⟩
theorem C_add {σ σ1 : Sto} {f : Nat → Int32} {n : Nat} (hz : 147 ≤ sZ σ) (hN : NewC σ σ1 4 f) (hn : sI σ 33 11 = Int32.ofNat n) (hm : n < 200) : mX1_addFact (sZ σ) σ1 = some (Int32.ofNat n, wI (wR σ1 38 n (sZ σ)) 33 11 (Int32.ofNat n + 1)) := by
  have e : sI σ1 33 11 = Int32.ofNat n := ((hN.2.1 33 (by omega)).2.2.1 11).trans hn
  have g1 : mX1_hasAllFacts σ1 = 0 := by
    unfold mX1_hasAllFacts
    have g0 : Int32.ofNat n < 200 := (oI_lt (n := 200) (by omega) (by decide)).mpr hm
    rw [e, if_pos g0]
  have g2 := eq_true (oI_inb (j := n) (n := 201) (by omega) (by decide))
  have g3 : (Int32.ofNat n).toNatClampNeg = n := oI_cl (by omega)
  have g4 := hN.2.2.1
  simp only [mX1_addFact, g1, e, g2, g3, g4, if_true, stp, sI_wR, sI_wI, eq_self, and_self, asc]
/-- a fact told by the reference -/
def tlA (A : Ab) (n : Nat) (t k p q d : Int32) : Ab := up2 (up2 (up2 (up2 (up2 (up2 (up2 (up2 A 97 n k) 98 n (-1)) 99 n p) 100 n q) 101 n d) 106 n t) 107 n (-1)) 81 7 (Int32.ofNat n + 1)
def tlM (σ : Sto) (n : Nat) (t k p q d : Int32) : Sto := wI (wI (wI (wI (wI (wI (wI (wI σ 97 n k) 98 n (-1)) 99 n p) 100 n q) 101 n d) 106 n t) 107 n (-1)) 81 7 (Int32.ofNat n + 1)
theorem M_tells {σ : Sto} {n : Nat} {t : Int32} (k p q d : Int32) (h7 : sI σ 81 7 = Int32.ofNat n) (h1 : sI σ 81 1 = t) (hn : n < 200) : mX12_tells k p q d σ = some (Int32.ofNat n, tlM σ n t k p q d) := by
  have g2 := eq_true (oI_inb (j := n) (n := 200) (by omega) (by decide))
  have g3 : (Int32.ofNat n).toNatClampNeg = n := oI_cl (by omega)
  simp only [mX12_tells, tlM, stp, sI_wI, h7, h1, g2, g3, if_true, if_false, eq_self, and_self, Nat.reduceEqDiff, false_and, and_false, asc]
theorem RM.tl {A : Ab} {σ : Sto} (h : RM A σ) (n : Nat) (t k p q d : Int32) : RM (tlA A n t k p q d) (tlM σ n t k p q d) := (((((((h.w 97 n k).w 98 n (-1)).w 99 n p).w 100 n q).w 101 n d).w 106 n t).w 107 n (-1)).w 81 7 _
theorem OnlyM.tl {σ σ0 : Sto} (h : OnlyM σ σ0) (n : Nat) (t k p q d : Int32) : OnlyM σ (tlM σ0 n t k p q d) := (((((((h.w 97 n k (by decide)).w 98 n (-1) (by decide)).w 99 n p (by decide)).w 100 n q (by decide)).w 101 n d (by decide)).w 106 n t (by decide)).w 107 n (-1) (by decide)).w 81 7 _ (by decide)
theorem tlA_ne {A : Ab} {n : Nat} {t k p q d : Int32} {a i : Nat} (h : ¬ ((a = 97 ∨ a = 98 ∨ a = 99 ∨ a = 100 ∨ a = 101 ∨ a = 106 ∨ a = 107) ∧ i = n)) (h2 : ¬ (a = 81 ∧ i = 7)) : tlA A n t k p q d a i = A a i := by
  unfold tlA
  rw [up2_ne h2, up2_ne (fun q => h ⟨by omega, q.2⟩), up2_ne (fun q => h ⟨by omega, q.2⟩), up2_ne (fun q => h ⟨by omega, q.2⟩), up2_ne (fun q => h ⟨by omega, q.2⟩), up2_ne (fun q => h ⟨by omega, q.2⟩), up2_ne (fun q => h ⟨by omega, q.2⟩), up2_ne (fun q => h ⟨by omega, q.2⟩)]
theorem tlA_at {A : Ab} {n : Nat} {t k p q d : Int32} : tlA A n t k p q d 97 n = k ∧ tlA A n t k p q d 98 n = -1 ∧ tlA A n t k p q d 99 n = p ∧ tlA A n t k p q d 100 n = q ∧ tlA A n t k p q d 101 n = d ∧ tlA A n t k p q d 106 n = t ∧ tlA A n t k p q d 107 n = -1 ∧ tlA A n t k p q d 81 7 = Int32.ofNat n + 1 := by
  unfold tlA
  refine ⟨?_, ?_, ?_, ?_, ?_, ?_, ?_, ?_⟩ <;> simp only [up2_eq, eq_self, and_self, if_true, Nat.reduceEqDiff, false_and, if_false]
theorem IHeir.tell {A A' : Ab} {n : Nat} (h : IHeir A) (hT : cT 4 A = n) (hT' : cT 4 A' = n + 1) (hA : ∀ a i, 97 ≤ a → a ≤ 107 → i < n → A' a i = A a i) (hk : A' 97 n ≠ 1) : IHeir A' := fun p k => by
  have e : isHeir A' p k n = false := by
    unfold isHeir
    rw [beq_false_of_ne hk]; rfl
  rw [hT']
  show heirS A' p k n + (if isHeir A' p k n then heirQ A' n else 0) ≤ _
  rw [e, heirS_congr n hA, ← hT]
  exact h p k
theorem ISold.tell {A A' : Ab} {n : Nat} (h : ISold A) (hT : cT 4 A = n) (hT' : cT 4 A' = n + 1) (hT1 : cT 1 A' = cT 1 A) (hA : ∀ a i, 97 ≤ a → a ≤ 107 → i < n → A' a i = A a i) (h91 : ∀ w, A' 91 w = A 91 w) (hk : A' 97 n ≠ 2) : ISold A' := fun w hw => by
  rw [hT1] at hw
  have h0 := h w hw
  rw [h91]
  refine ⟨h0.1, h0.2.trans ?_⟩
  rw [hT, hT']
  constructor
  · rintro ⟨f, h1, h2, h3⟩
    exact ⟨f, by omega, by rw [hA 97 f (by decide) (by decide) h1]; exact h2, by rw [hA 98 f (by decide) (by decide) h1]; exact h3⟩
  · rintro ⟨f, h1, h2, h3⟩
    have hf : f < n := by
      rcases Nat.lt_succ_iff_lt_or_eq.mp h1 with q | q
      · exact q
      · subst q; exact absurd h2 hk
    exact ⟨f, hf, by rw [← hA 97 f (by decide) (by decide) hf]; exact h2, by rw [← hA 98 f (by decide) (by decide) hf]; exact h3⟩
/-- one fact more -/
theorem Rel.tellF {A A' : Ab} {σ σ1 σ2 : Sto} {n : Nat} {f : Nat → Int32} {vv : Int64} (h : Rel A σ) (hN : NewC σ σ1 4 f) (hn : A 81 7 = Int32.ofNat n) (hnm : n < 200) (hn' : A' 81 7 = Int32.ofNat n + 1) (h81 : ∀ k, k ≠ 7 → A' 81 k = A 81 k)
    (hV : ∀ a i, 82 ≤ a → a ≠ 91 → ¬ ((97 ≤ a ∧ a ≤ 107) ∧ i = n) → A' a i = A a i) (hf : ∀ k ∈ cF 4, f k = fcv A' n k) (hrow : factOK A' n) (hh : IHeir A') (hs : ISold A') (hm : OnlyM (wL (wI (wR σ1 38 n (sZ σ)) 33 11 (Int32.ofNat n + 1)) 146 0 vv) σ2) (hr : RM A' σ2) : Rel A' σ2 := by
  refine Rel.tell (c := 4) (n := n) h (by decide) (by decide) hN hn hnm hn' h81 (fun a i h1 h2 h3 => hV a i h1 h2 (fun q => h3 ⟨?_, q.2⟩)) hf hrow hh hs (h.cl.same ?_ (fun a i h1 h2 => hV a i (by omega) (by omega) (by omega))) hm hr
  · obtain ⟨⟨q1, q2⟩, -⟩ := q
    rcases (show a = 97 ∨ a = 98 ∨ a = 99 ∨ a = 100 ∨ a = 101 ∨ a = 102 ∨ a = 103 ∨ a = 104 ∨ a = 105 ∨ a = 106 ∨ a = 107 by omega) with rfl | rfl | rfl | rfl | rfl | rfl | rfl | rfl | rfl | rfl | rfl <;> decide
  · unfold cT; rw [h81 _ (by decide)]
