/-! settle against sells -/
/-- the law of a sale: its cell in the class -/
def LwOf (A : Ab) (s : Nat) (σ : Sto) (c : Nat) : Option Nat → Prop
  | none => sI σ c 2 = -1
  | some i => i ≤ 12 ∧ LawC A σ i c ∧ 66 < c ∧ A 112 i = A 103 s
theorem sells_eq {A : Ab} {s w a b k c : Nat} {L : Option Nat} (hk : k ≤ 999) (hS : SL A s w a b) (hh : IHeir A) {σ ρ : Sto} (h : CB A σ) (hO : OP A k σ) (hK : LK A s w a b k σ) (hL : LwAt σ c) (hc : LwOf A s σ c L) (hm : RM A ρ) (hG : GA A k ρ) (hlaw : ∀ ρ', RM A ρ' → GA A k ρ' → sI ρ' 81 73 = sI ρ 81 73 → mX12_lawOf (A 103 s) (A 101 s) ρ' = some (oB L)) :
    ∃ i y m σ1 ρ', (L = some i ∨ (L = none ∧ y = 0)) ∧ i ≤ 12 ∧ (y = 0 ∨ y = 1) ∧ m ≤ 1999980000 ∧ mX0_apply c σ = some σ1 ∧ Sc σ σ1 ∧ Ex (SA c) σ σ1 ∧ AP A i s w k y m σ1 ∧ mX12_sells (Int32.ofNat s) ρ = some ρ' ∧ Ex SX ρ ρ' ∧ SV A i s w k L y m ρ' := by
  obtain ⟨hs, hks, hw, hws, ha, has, hb, hbs⟩ := id hS
  have hB := h.1
  have hr := h.2.2.2.2.2.1
  have hl4 : cT 4 A ≤ 200 := (hB.le (c := 4) (by decide)).1
  have s200 := oI_inb (j := s) (n := 200) (by omega) (by decide)
  -- price, law, what is behind it
  have x1 : Ex SX ρ (wI ρ 81 78 (prV A s)) := Ex.rf.w _ (Or.inl ⟨rfl, by decide, by decide⟩)
  have x2 : Ex SX ρ (wI (wI ρ 81 78 (prV A s)) 81 79 (oB L)) := x1.w _ (Or.inl ⟨rfl, by decide, by decide⟩)
  have lw := hlaw _ (x1.rm hm SX_pr) (hG.ex x1 SX_ga) (by rw [sI_wI, if_neg (by omega)])
  obtain ⟨ρ3, b1, b2, b3, b4, b5⟩ := M_lb hB hr hk hS (x2.rm hm SX_pr) (hG.ex x2 SX_ga).1
  have x3 : Ex SX ρ ρ3 := x2.tr (b2.mono fun b j z => Or.inl (by unfold S80 at z; omega))
  have r3 : ∀ b j, ¬ S80 b j → sI ρ3 b j = sI (wI (wI ρ 81 78 (prV A s)) 81 79 (oB L)) b j := b2.2.2.2.2.2
  have g79 : sI ρ3 81 79 = oB L := by rw [r3 _ _ (by unfold S80; omega), sI_wI, if_pos ⟨rfl, rfl⟩]
  have g78 : sI ρ3 81 78 = prV A s := by rw [r3 _ _ (by unfold S80; omega), sI_wI, if_neg (by omega), sI_wI, if_pos ⟨rfl, rfl⟩]
  have hM3 : LM A s w k ρ3 := ⟨g78, b3, b4, b5⟩
  have rm3 := x3.rm hm SX_pr
  have ga3 := hG.ex x3 SX_ga
  have eS : mX12_sells (Int32.ofNat s) ρ = bd2 (mX12_isCounting (Int32.ofNat s) ρ3) fun v7 σ7 => if v7 = 0 then mX12_sells_73 (Int32.ofNat s) 0 σ7 else mX12_sells_73 (Int32.ofNat s) 1 σ7 := by
    unfold mX12_sells
    rw [if_pos s200, oI_cl (j := s) (by omega), hm 103 s rfl, hm 101 s rfl, hm 104 s rfl, M_rate hB hm, bnd_some]
    simp only [stp]
    rw [show (((A 104 s).toInt64 * (rateV A (A 103 s) (A 101 s)).toInt64) / (1000 : Int64)).toInt32 = prV A s from rfl, (x1.rm hm SX_pr) 103 s rfl, (x1.rm hm SX_pr) 101 s rfl, lw, bnd_some, b1, bnd_some]
  cases L with
  | none =>
    have hcount : mX12_isCounting (Int32.ofNat s) ρ3 = some (0, ρ3) := by
      unfold mX12_isCounting
      rw [g79, if_pos (show oB none = -1 from rfl)]
    obtain ⟨σ1, z1, z2, z3⟩ := C_app0 (c := c) (i := 0) (s := s) (k := k) hw h hK.2.1
    obtain ⟨ρ', y1, y2, y3⟩ := M_rest hB hr hh (i := 0) (L := none) (y := 0) (m := 0) (by decide) hk hS (Or.inl rfl) (by decide) (fun _ => rfl) rm3 ga3 hM3 g79 (fun q => by cases q) (fun q => by cases q)
    have eA : mX0_apply c σ = mX0_apply_58 c 0 σ := by
      unfold mX0_apply
      rw [if_pos hL.2.2.1, if_pos (show sI σ c 2 = -1 from hc)]
      rfl
    have z2' : Ex (SA c) σ σ1 := z2.mono fun b j z => Or.inr z
    refine ⟨0, 0, 0, σ1, ρ', Or.inr ⟨rfl, rfl⟩, by decide, Or.inl rfl, by decide, eA.trans z1, SA_sc z2' hL, z2', z3, ?_, x3.tr y2, y3⟩
    rw [eS, hcount, bd2_some, if_pos rfl, y1]
  | some i =>
    obtain ⟨hi, hC, hcr, hla⟩ := hc
    obtain ⟨y, m, σ1, ρ4, y01, mb, ym, e1, e2, e3, e4, e5, e6⟩ := app_eq hi hk hS h hO hK hL hC hcr hla rm3 hM3 g79
    have x4 : Ex SX ρ ρ4 := x3.tr (e5.mono fun b j z => Or.inr (by unfold S13 at z; omega))
    have r4 : ∀ b j, ¬ S13 b j → sI ρ4 b j = sI ρ3 b j := e5.2.2.2.2.2
    have hM4 : LM A s w k ρ4 := ⟨by rw [r4 _ _ (by unfold S13; omega)]; exact g78, by rw [r4 _ _ (by unfold S13; omega)]; exact b3, by rw [r4 _ _ (by unfold S13; omega)]; exact b4, by rw [r4 _ _ (by unfold S13; omega)]; exact b5⟩
    obtain ⟨ρ', y1, y2, y3⟩ := M_rest hB hr hh (i := i) (L := some i) (y := y) (m := m) hi hk hS y01 mb ym (x4.rm hm SX_pr) (hG.ex x4 SX_ga) hM4 (by rw [r4 _ _ (by unfold S13; omega)]; exact g79) (fun _ => ⟨rfl, hC.2.1.2.2.2.2.2.1⟩) e6
    refine ⟨i, y, m, σ1, ρ', Or.inl rfl, hi, y01, mb, e1, SA_sc e2 hL, e2, e3, ?_, x4.tr y2, y3⟩
    rw [eS, e4, bd2_some]
    rcases y01 with rfl | rfl
    · rw [if_pos rfl]; exact y1
    · rw [if_neg i10]; exact y1
/-- what a sale comes to in the class -/
def SVC (A : Ab) (i s w k : Nat) (y : Int32) (m : Nat) (σ : Sto) : Prop :=
  sI σ 53 7 = prV A s ∧ sI σ 53 8 = hdV A s k ∧ sI σ 53 9 = agV A s k ∧ sI σ 53 10 = y ∧ sI σ 53 11 = Int32.ofNat m ∧
  sI σ 53 12 = Int32.ofNat (heN A s k (shN A i s w k y m) + hfN A s k (A 121 i) (goN A s k (shN A i s w k y m)) 30) ∧
  ∀ q, q < 30 → sI σ 57 q = Int32.ofNat (shN A i s w k y m q) ∧ sI σ 58 q = stV A i s w k y q ∧ sI σ 59 q = Int32.ofNat (goN A s k (shN A i s w k y m) q) ∧ sI σ 62 q = Int32.ofNat (gtN A s k (A 121 i) (goN A s k (shN A i s w k y m)) q) ∧ sI σ 61 q = soV A s k (goN A s k (shN A i s w k y m)) q
/-- both stand open at an evening -/
def JJ (A : Ab) (k : Nat) (σ ρ : Sto) : Prop := CB A σ ∧ OP A k σ ∧ RM A ρ ∧ GA A k ρ ∧ sI ρ 81 73 = 0
theorem CB.lwOf {A : Ab} {σ : Sto} (h : CB A σ) {s k : Nat} (hk : k ≤ 999) : ∃ c, mX1_lawAt (oB (lawV A (A 103 s) (A 101 s) k)) σ = some c ∧ LwAt σ c ∧ LwOf A s σ c (lawV A (A 103 s) (A 101 s) k) := by
  have hl6 : cT 6 A ≤ 12 := (h.1.le (c := 6) (by decide)).1
  obtain ⟨-, L2, L3, -, -⟩ := h.2.2.2.2.2.2.2
  cases e : lawV A (A 103 s) (A 101 s) k with
  | none =>
    exact ⟨sR σ 40 12, h.no6 no_neg, L2 12 (by decide), h.ln.2.1⟩
  | some i =>
    obtain ⟨l1, l2⟩ := lawV_lt e
    obtain ⟨g1, g2, g3, g4⟩ := L3 i l1
    unfold lwP at l2
    rw [Bool.and_eq_true, decide_eq_true_eq] at l2
    exact ⟨sR σ 40 i, h.at6 l1, L2 i (by omega), by omega, g3, by omega, l2.1⟩
theorem settle_eq {A : Ab} {s k : Nat} (hk : k ≤ 999) (hs : s < cT 4 A) (hks : A 97 s = 2) (hh : IHeir A) (hcl : IClaim A) {σ ρ : Sto} (hJ : JJ A k σ ρ) :
    ∃ i w y m σ' ρ', (y = 0 ∨ y = 1) ∧ m ≤ 1999980000 ∧ w < cT 1 A ∧ A 98 s = Int32.ofNat w ∧ mX0_settle (sR σ 38 s) (Int32.ofNat s) σ = some σ' ∧ mX12_sells (Int32.ofNat s) ρ = some ρ' ∧ Sc σ σ' ∧ Ex SX ρ ρ' ∧ JJ A k σ' ρ' ∧ SVC A i s w k y m σ' ∧ SV A i s w k (lawV A (A 103 s) (A 101 s) k) y m ρ' ∧ (∀ j, sL σ' 64 j = sL σ 64 j) := by
  obtain ⟨h, hO, hm, hG, h73⟩ := hJ
  have hB := h.1
  have hr := h.2.2.2.2.2.1
  obtain ⟨w, a, b, hS⟩ := SL.of hr hs hks
  obtain ⟨-, -, hw, hws, ha, has, hb, hbs⟩ := id hS
  have hl4 : cT 4 A ≤ 200 := (hB.le (c := 4) (by decide)).1
  have hl6 : cT 6 A ≤ 12 := (hB.le (c := 6) (by decide)).1
  obtain ⟨σ1, l1, l2, l3, l4, l5⟩ := C_look hS hk h hO
  have h1 := h.sc l2
  obtain ⟨c, c1, c2, c3⟩ := h1.lwOf (s := s) hk
  obtain ⟨i, y, m, σ2, ρ', iL, hi, y01, mb, e1, e2, e3, ⟨p1, p2, p3⟩, e5, e6, e7⟩ := sells_eq hk hS hh h1 l3 l4 c2 c3 hm hG (fun ρ' hm' hG' h' => M_law0 hB h.ld hm' hk hG'.1 (h'.trans h73))
  have rc : reg c ∧ reg (c + 4) := ⟨c2.1.1, c2.1.2.2.2.2⟩
  have h2 := h1.sc e2
  have r2 : ∀ b j, ¬ SA c b j → sI σ2 b j = sI σ1 b j := e3.2.2.2.2.2
  have nc : ∀ b, 53 ≤ b → b ≤ 66 → b ≠ c + 4 ∧ b ≠ c := fun b b1 b2 => by
    have := rc.1
    have := rc.2
    unfold reg at *
    omega
  have rR2 : ∀ b j, sR σ2 b j = sR σ1 b j := e3.2.2.2.1
  have sa : ∀ b j, 53 ≤ b → b ≤ 66 → b ≠ 57 → b ≠ 58 → (b = 53 → j ≠ 10 ∧ j ≠ 11) → sI σ2 b j = sI σ1 b j := fun b j b1 b2 b3 b4 b5 => r2 b j (by
    have := (nc b b1 b2).1
    unfold SA SA0
    omega)
  have hO2 : OP A k σ2 := ⟨by rw [sa 53 1 (by decide) (by decide) (by decide) (by decide) (by decide)]; exact l3.1, fun p hp => by rw [sa 54 p (by decide) (by decide) (by decide) (by decide) (by omega), sa 55 p (by decide) (by decide) (by decide) (by decide) (by omega)]; exact l3.2 p hp⟩
  have hA2 : AC A s k σ2 := ⟨h2, hO2, by rw [rR2, rR2]; exact l4.1⟩
  have hT : sm (shN A i s w k y m) 30 < 2147483648 := Nat.lt_of_le_of_lt (shN_le hB hr hw) (by omega)
  obtain ⟨σ3, f1, f2, f3, f4⟩ := C_pass hh hk hs hks hT hA2 (fun q hq => (p3 q hq).2)
  have hA3 := hA2.ex f2
  have gol : ∀ p, p < 30 → goN A s k (shN A i s w k y m) p < 2147483648 := fun p hp => Nat.lt_of_le_of_lt (go_le hB hr hh hp) hT
  have k5 : sK σ3 c = 5 := by rw [f2.2.1, e2.2.1]; exact c2.2.2.1
  obtain ⟨σ', q1, q2, q3, q4⟩ := C_payOut hcl (cv := sI σ3 c 11) hk hs hks gol (H := heN A s k (shN A i s w k y m)) (c := c) (by have := rc.1; unfold reg at this; omega) 30 0 FU σ3 hA3 k5 rfl rfl (show 30 < 5000 by omega) f3 (fun q hq => by omega) f4
  have hA4 := hA3.ex2 q2
  have scT : Sc σ σ' := ((l2.tr e2).tr (f2.sc S59_rng)).tr (q2.sc S61_rng)
  have r3 : ∀ b j, ¬ S59 b j → sI σ3 b j = sI σ2 b j := f2.2.2.2.2.2
  have r4 : ∀ b j, ¬ S61 b j → sI σ' b j = sI σ3 b j := q2.2.2.2.2.2
  have rr : ∀ b j, ¬ S59 b j → ¬ S61 b j → sI σ' b j = sI σ2 b j := fun b j z1 z2 => (r4 b j z2).trans (r3 b j z1)
  -- what a claim's time is, where something goes
  have cvE : (∀ q, q < 30 → gtN A s k (sI σ3 c 11) (goN A s k (shN A i s w k y m)) q = gtN A s k (A 121 i) (goN A s k (shN A i s w k y m)) q) ∧ hfN A s k (sI σ3 c 11) (goN A s k (shN A i s w k y m)) 30 = hfN A s k (A 121 i) (goN A s k (shN A i s w k y m)) 30 := by
    rcases iL with iL | ⟨iL, y0⟩
    · rw [iL] at c3
      have e11 : sI σ3 c 11 = A 121 i := by
        have n1 : c ≠ c + 4 := by omega
        rw [r3 c 11 (by have := rc.1; unfold reg at this; unfold S59; omega), r2 c 11 (by have := rc.1; unfold reg at this; unfold SA SA0; omega)]
        exact c3.2.1.1.2.2.2.2.2.2.1
      rw [e11]
      exact ⟨fun _ _ => rfl, rfl⟩
    · obtain ⟨z1, z2⟩ := it_0 hB hr (s := s) (k := k) (g := shN A i s w k y m) (fun p _ => by rw [y0]; exact shN_0)
      exact ⟨fun q hq => by rw [(gt_0 (z1 q hq)).1, (gt_0 (z1 q hq)).1], by rw [hf_0 z1, hf_0 z1]⟩
  refine ⟨i, w, y, m, σ', ρ', y01, mb, hw, hws, ?_, e5, scT, e6, ⟨hA4.1, hA4.2.1, e6.rm hm SX_pr, hG.ex e6 SX_ga, by rw [e6.2.2.2.2.2 81 73 (by unfold SX; omega)]; exact h73⟩, ⟨?_, ?_, ?_, ?_, ?_, ?_, fun q hq => ⟨?_, ?_, ?_, ?_, ?_⟩⟩, e7, fun j => ?_⟩
  · obtain ⟨k0, f0, f2', f3', f4', f5', f6', f7', f8', f9', f10', -⟩ := h1.fa hs
    rw [if_neg (by rw [hks]; decide)] at f6'
    rw [if_pos hks] at f10'
    have e38 : sR σ1 38 s = sR σ 38 s := l2.2.2.2.1 38 s (by decide)
    rw [e38] at k0 f6' f10'
    unfold mX0_settle
    rw [l1, bnd_some, if_pos k0, f10', f6', l3.1, C_law h1 _ _ hk, bnd_some, c1, bnd_some, e1, bnd_some, f1, bnd_some]
    rw [show mX0_payOut c (Int32.ofNat s) σ3 = some σ' from q1, bnd_some]
  · rw [rr _ _ (by unfold S59; omega) (by unfold S61; omega), sa 53 7 (by decide) (by decide) (by decide) (by decide) (by decide)]; exact l4.2.2.1
  · rw [rr _ _ (by unfold S59; omega) (by unfold S61; omega), sa 53 8 (by decide) (by decide) (by decide) (by decide) (by decide)]; exact l4.2.2.2.1
  · rw [rr _ _ (by unfold S59; omega) (by unfold S61; omega), sa 53 9 (by decide) (by decide) (by decide) (by decide) (by decide)]; exact l4.2.2.2.2.1
  · rw [rr _ _ (by unfold S59; omega) (by unfold S61; omega)]; exact p1
  · rw [rr _ _ (by unfold S59; omega) (by unfold S61; omega)]; exact p2
  · rw [q4, cvE.2]
  · rw [rr _ _ (by unfold S59; omega) (by unfold S61; omega)]; exact (p3 q hq).2
  · rw [rr _ _ (by unfold S59; omega) (by unfold S61; omega)]; exact (p3 q hq).1
  · rw [r4 _ _ (by unfold S61; omega)]; exact f3 q hq
  · rw [(q3 q hq).2, cvE.1 q hq]
  · exact (q3 q hq).1
  · have a1 : sL σ' 64 j = sL σ1 64 j := by rw [q2.2.2.2.2.1, f2.2.2.2.2.1, e3.2.2.2.2.1]
    exact a1.trans (l5 64 j)
