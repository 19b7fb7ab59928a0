/-! the reference sells -/
/-- what 'sells' writes -/
def SX (b j : Nat) : Prop := (b = 81 ∧ 78 ≤ j ∧ j ≤ 86) ∨ (133 ≤ b ∧ b ≤ 141)
theorem SX_pr : ∀ b j, SX b j → pr b j = false := fun b j h => by
  rcases h with ⟨rfl, h1, h2⟩ | ⟨h1, h2⟩
  · rcases (show j = 78 ∨ j = 79 ∨ j = 80 ∨ j = 81 ∨ j = 82 ∨ j = 83 ∨ j = 84 ∨ j = 85 ∨ j = 86 by omega) with rfl | rfl | rfl | rfl | rfl | rfl | rfl | rfl | rfl <;> rfl
  · unfold pr
    have e1 : (b == 81) = false := beq_false_of_ne (by omega)
    have e2 : decide (b ≤ 126) = false := decide_eq_false (by omega)
    rw [e1, e2, Bool.false_and, Bool.and_false]; rfl
theorem SX_ga : ∀ b j, SX b j → b ≠ 129 ∧ b ≠ 130 ∧ b ≠ 131 ∧ b ≠ 132 ∧ ¬ (b = 81 ∧ j = 72) := fun b j h => by unfold SX at h; omega
theorem SX_rng : ∀ b j, SX b j → 81 ≤ b ∧ b ≤ 145 := fun b j h => by unfold SX at h; omega
theorem M_col_l {A : Ab} (hB : IB A) {s : Nat} (hs : s < 200) : ∀ j fuel ρ, j ≤ cT 2 A → j < fuel → RM A ρ → sI ρ 81 86 = oB (firstS A (A 103 s) (cT 2 A - j) j) → ∃ ρ', mX12_sells_113 fuel (Int32.ofNat s) (Int32.ofNat j - 1) ρ = mX12_sells_145 FU (Int32.ofNat s) 0 ρ' ∧ Ex (fun b x => b = 81 ∧ x = 86) ρ ρ' ∧ sI ρ' 81 86 = oB (colV A (A 103 s)) := by
  have hl : cT 2 A ≤ 5 := (hB.le (c := 2) (by decide)).1
  intro j
  induction j with
  | zero =>
    intro fuel ρ hj hf hm h86
    obtain ⟨n, rfl⟩ : ∃ n, fuel = n + 1 := ⟨fuel - 1, by omega⟩
    refine ⟨ρ, ?_, Ex.rf, h86⟩
    refine Eq.trans (b := mX12_sells_113B (mX12_sells_113 n) (Int32.ofNat s) (Int32.ofNat 0 - 1) ρ) rfl ?_
    unfold mX12_sells_113B
    rw [if_pos (show Int32.ofNat 0 - 1 < 0 by decide)]
  | succ j ih =>
    intro fuel ρ hj hf hm h86
    obtain ⟨n, rfl⟩ : ∃ n, fuel = n + 1 := ⟨fuel - 1, by omega⟩
    have e1 : cT 2 A - j = (cT 2 A - (j + 1)) + 1 := by omega
    have step : mX12_sells_113 (n + 1) (Int32.ofNat s) (Int32.ofNat (j + 1) - 1) ρ = mX12_sells_113 n (Int32.ofNat s) (Int32.ofNat j - 1) (if A 92 j = A 103 s then wI ρ 81 86 (Int32.ofNat j) else ρ) := by
      refine Eq.trans (b := mX12_sells_113B (mX12_sells_113 n) (Int32.ofNat s) (Int32.ofNat (j + 1) - 1) ρ) rfl ?_
      unfold mX12_sells_113B
      rw [oI_p, if_neg (oI_nn (by omega)), if_pos (oI_inb (j := j) (n := 5) (by omega) (by decide)), if_pos (oI_inb (j := s) (n := 200) hs (by decide)), oI_cl (j := j) (by omega), oI_cl (j := s) (by omega), hm 92 j rfl, hm 103 s rfl]
      simp only [stp]
      rw [← Int32.sub_eq_add_neg]
      by_cases c : A 92 j = A 103 s
      · rw [if_pos c, if_pos c]
      · rw [if_neg c, if_neg c]
    rw [step]
    have eF : firstS A (A 103 s) (cT 2 A - j) j = if A 92 j = A 103 s then some j else firstS A (A 103 s) (cT 2 A - (j + 1)) (j + 1) := by rw [e1]; rfl
    by_cases c : A 92 j = A 103 s
    · rw [if_pos c] at eF ⊢
      obtain ⟨ρ', z1, z2, z3⟩ := ih n (wI ρ 81 86 (Int32.ofNat j)) (by omega) (by omega) (hm.np 81 86 _ rfl) (by rw [eF, sI_wI, if_pos ⟨rfl, rfl⟩]; rfl)
      exact ⟨ρ', z1, (Ex.rf.w (S := fun b x => b = 81 ∧ x = 86) _ ⟨rfl, rfl⟩).tr z2, z3⟩
    · rw [if_neg c] at eF ⊢
      obtain ⟨ρ', z1, z2, z3⟩ := ih n ρ (by omega) (by omega) hm (by rw [eF]; exact h86)
      exact ⟨ρ', z1, z2, z3⟩
def S139 (b _j : Nat) : Prop := 135 ≤ b ∧ b ≤ 139
/-- the rows of all persons are emptied -/
theorem M_clr {s : Nat} : ∀ m p fuel ρ, p + m = 30 → m < fuel → (∀ q, q < p → sI ρ 135 q = 0 ∧ sI ρ 136 q = 0 ∧ sI ρ 137 q = 0 ∧ sI ρ 138 q = 0 ∧ sI ρ 139 q = -1) → ∃ ρ' n', mX12_sells_145 fuel (Int32.ofNat s) (Int32.ofNat p) ρ = mX12_sells_145B (mX12_sells_145 n') (Int32.ofNat s) 30 ρ' ∧ Ex S139 ρ ρ' ∧ ∀ q, q < 30 → sI ρ' 135 q = 0 ∧ sI ρ' 136 q = 0 ∧ sI ρ' 137 q = 0 ∧ sI ρ' 138 q = 0 ∧ sI ρ' 139 q = -1 := by
  intro m
  induction m with
  | zero =>
    intro p fuel ρ hp hf hq
    obtain ⟨n, rfl⟩ : ∃ n, fuel = n + 1 := ⟨fuel - 1, by omega⟩
    have e : p = 30 := by omega
    subst e
    exact ⟨ρ, n, rfl, Ex.rf, hq⟩
  | succ m ih =>
    intro p fuel ρ hp hf hq
    obtain ⟨n, rfl⟩ : ∃ n, fuel = n + 1 := ⟨fuel - 1, by omega⟩
    have q30 : ¬ (30 : Int32) ≤ Int32.ofNat p := fun q => absurd ((oI_le (j := 30) (by decide) (by omega)).mp q) (by omega)
    have step : mX12_sells_145 (n + 1) (Int32.ofNat s) (Int32.ofNat p) ρ = mX12_sells_145 n (Int32.ofNat s) (Int32.ofNat (p + 1)) (wI (wI (wI (wI (wI ρ 135 p 0) 136 p 0) 137 p 0) 138 p 0) 139 p (-1)) := by
      refine Eq.trans (b := mX12_sells_145B (mX12_sells_145 n) (Int32.ofNat s) (Int32.ofNat p) ρ) rfl ?_
      unfold mX12_sells_145B
      rw [if_neg q30, if_pos (oI_inb (j := p) (n := 30) (by omega) (by decide)), oI_cl (j := p) (by omega), oI_s]
    have eX : Ex S139 ρ (wI (wI (wI (wI (wI ρ 135 p 0) 136 p 0) 137 p 0) 138 p 0) 139 p (-1)) := ((((Ex.rf.w (S := S139) _ (by unfold S139; omega)).w _ (by unfold S139; omega)).w _ (by unfold S139; omega)).w _ (by unfold S139; omega)).w _ (by unfold S139; omega)
    obtain ⟨ρ', n', z1, z2, z3⟩ := ih (p + 1) n _ (by omega) (by omega) (fun q hq' => by
      show sI (wI (wI (wI (wI (wI ρ 135 p 0) 136 p 0) 137 p 0) 138 p 0) 139 p (-1)) 135 q = 0 ∧ sI (wI (wI (wI (wI (wI ρ 135 p 0) 136 p 0) 137 p 0) 138 p 0) 139 p (-1)) 136 q = 0 ∧ sI (wI (wI (wI (wI (wI ρ 135 p 0) 136 p 0) 137 p 0) 138 p 0) 139 p (-1)) 137 q = 0 ∧ sI (wI (wI (wI (wI (wI ρ 135 p 0) 136 p 0) 137 p 0) 138 p 0) 139 p (-1)) 138 q = 0 ∧ sI (wI (wI (wI (wI (wI ρ 135 p 0) 136 p 0) 137 p 0) 138 p 0) 139 p (-1)) 139 q = -1
      simp only [sI_wI, Nat.reduceEqDiff, false_and, if_false, true_and]
      by_cases e : q = p
      · simp only [e, if_true, and_self]
      · simp only [e, if_false]
        exact hq q (by omega))
    exact ⟨ρ', n', step.trans z1, eX.tr z2, z3⟩
/-- the weights of all -/
theorem M_all_l {A : Ab} (hB : IB A) (hr : IRow A) {s w i : Nat} (hi : i ≤ 12) (hw : w < cT 1 A) {ρ : Sto} (hm : RM A ρ) (g79 : sI ρ 81 79 = Int32.ofNat i) : ∀ m j fuel, j + m = aM A w → m < fuel → mX12_shares_12 fuel (Int32.ofNat s) (Int32.ofNat w) (Int32.ofNat (wsum A w j)) (Int32.ofNat j) ρ = mX12_shares_61 FU (Int32.ofNat s) (Int32.ofNat w) (allV A w) (365 * A 120 i) 0 ρ := by
  have hlw : cT 1 A ≤ 30 := (hB.le (c := 1) (by decide)).1
  obtain ⟨w1, w2, w3, w4, w5⟩ := work_m hr hw
  have w30 := oI_inb (j := w) (n := 30) (by omega) (by decide)
  intro m
  induction m with
  | zero =>
    intro j fuel hj hf
    obtain ⟨n, rfl⟩ : ∃ n, fuel = n + 1 := ⟨fuel - 1, by omega⟩
    have e : j = aM A w := by omega
    subst e
    refine Eq.trans (b := mX12_shares_12B (mX12_shares_12 n) (Int32.ofNat s) (Int32.ofNat w) (Int32.ofNat (wsum A w (aM A w))) (Int32.ofNat (aM A w)) ρ) rfl ?_
    unfold mX12_shares_12B
    rw [if_pos w30, oI_cl (j := w) (by omega), hm 84 w rfl, w3, if_pos ((oI_le (by omega) (by omega)).mpr (Nat.le_refl _)), g79, if_pos (oI_inb (j := i) (n := 13) (by omega) (by decide)), oI_cl (j := i) (by omega), hm 120 i rfl]
    rfl
  | succ m ih =>
    intro j fuel hj hf
    obtain ⟨n, rfl⟩ : ∃ n, fuel = n + 1 := ⟨fuel - 1, by omega⟩
    obtain ⟨-, x, x1, x2, x3⟩ := w4 j (by omega)
    have e3 : (3 : Int32) * Int32.ofNat w + Int32.ofNat j = Int32.ofNat (3 * w + j) := by
      show Int32.ofNat 3 * Int32.ofNat w + Int32.ofNat j = _
      rw [oI_mul, oI_add]
    refine Eq.trans (b := mX12_shares_12B (mX12_shares_12 n) (Int32.ofNat s) (Int32.ofNat w) (Int32.ofNat (wsum A w j)) (Int32.ofNat j) ρ) rfl ?_
    unfold mX12_shares_12B
    rw [if_pos w30, oI_cl (j := w) (by omega), hm 84 w rfl, w3, if_neg (fun z => absurd ((oI_le (by omega) (by omega)).mp z) (by omega)), e3, if_pos (oI_inb (j := 3 * w + j) (n := 90) (by omega) (by decide)), oI_cl (j := 3 * w + j) (by omega), hm 86 _ rfl, oI_s]
    have es : Int32.ofNat (wsum A w j) + A 86 (3 * w + j) = Int32.ofNat (wsum A w (j + 1)) := by
      show _ = Int32.ofNat (wsum A w j + (A 86 (3 * w + j)).toNatClampNeg)
      rw [x3, oI_cl (by omega), oI_add]
    rw [es]
    exact ih (j + 1) n (by omega) (by omega)
theorem M_shares {A : Ab} (hB : IB A) (hr : IRow A) {i s w a b k : Nat} (hi : i ≤ 12) (hS : SL A s w a b) (hy : inR (A 120 i) 201) {m : Nat} (hmm : m < 2147483648) {ρ : Sto} (hm : RM A ρ) (hG : GA A k ρ) (g79 : sI ρ 81 79 = Int32.ofNat i) (g84 : sI ρ 81 84 = Int32.ofNat m) (hz : ∀ p, p < 30 → sI ρ 136 p = 0 ∧ sI ρ 135 p = 0) : ∃ ρ', mX12_shares (Int32.ofNat s) ρ = some ρ' ∧ Ex S135 ρ ρ' ∧ ∀ p, p < 30 → sI ρ' 136 p = stV A i s w k 1 p ∧ sI ρ' 135 p = Int32.ofNat (shN A i s w k 1 m p) := by
  obtain ⟨hs, hks, hw, hws, ha, has, hb, hbs⟩ := id hS
  have hl4 : cT 4 A ≤ 200 := (hB.le (c := 4) (by decide)).1
  obtain ⟨w1, w2, w3, w4, w5⟩ := work_m hr hw
  obtain ⟨ρ', z1, z2, z3⟩ := M_shares_l hB hr hi hS hy (pt := Int32.ofNat m) (aM A w) 0 FU ρ hm hG g79 g84 (by omega) (show aM A w < 5000 by omega) (fun p hp => hz p hp)
  refine ⟨ρ', ?_, z2, fun p hp => ?_⟩
  · unfold mX12_shares
    rw [if_pos (oI_inb (j := s) (n := 200) (by omega) (by decide)), oI_cl (j := s) (by omega), hm 98 s rfl, hws]
    exact (M_all_l hB hr hi hw hm g79 (aM A w) 0 FU (by omega) (show aM A w < 5000 by omega)).trans z1
  · rw [(z3 p hp).1, (z3 p hp).2, ← shV_n hr hw hmm]
    unfold isM shM
    by_cases c : byS A w p (aM A w) = true
    · have e : stV A i s w k 1 p = statV A i s k p := by
        unfold stV
        rw [if_neg i10, if_neg ((byS_all hr hw).mp c)]
      rw [if_pos c, if_pos c]
      unfold shV
      rw [e]
      exact ⟨rfl, rfl⟩
    · have e : stV A i s w k 1 p = 0 := by
        unfold stV
        rw [if_neg i10, if_pos (Classical.byContradiction fun z => c ((byS_all hr hw).mpr z))]
      rw [if_neg c, if_neg c]
      unfold shV
      rw [e, if_pos rfl]
      exact ⟨rfl, rfl⟩
/-- what a sale comes to in the reference -/
def SV (A : Ab) (i s w k : Nat) (L : Option Nat) (y : Int32) (m : Nat) (ρ : Sto) : Prop :=
  sI ρ 81 78 = prV A s ∧ sI ρ 81 79 = oB L ∧ sI ρ 81 80 = hdV A s k ∧ sI ρ 81 82 = agV A s k ∧ sI ρ 81 83 = y ∧ sI ρ 81 84 = Int32.ofNat m ∧ sI ρ 81 86 = oB (colV A (A 103 s)) ∧
  sI ρ 81 85 = Int32.ofNat (heN A s k (shN A i s w k y m) + hfN A s k (A 121 i) (goN A s k (shN A i s w k y m)) 30) ∧
  ∀ q, q < 30 → sI ρ 135 q = Int32.ofNat (shN A i s w k y m q) ∧ sI ρ 136 q = stV A i s w k y q ∧ sI ρ 137 q = Int32.ofNat (goN A s k (shN A i s w k y m) q) ∧ sI ρ 138 q = Int32.ofNat (gtN A s k (A 121 i) (goN A s k (shN A i s w k y m)) q) ∧ sI ρ 139 q = soV A s k (goN A s k (shN A i s w k y m)) q
/-- behind the counting -/
theorem M_rest {A : Ab} (hB : IB A) (hr : IRow A) (hh : IHeir A) {i s w a b k : Nat} (hi : i ≤ 12) (hk : k ≤ 999) (hS : SL A s w a b) {L : Option Nat} {y : Int32} {m : Nat} (y01 : y = 0 ∨ y = 1) (hmm : m ≤ 1999980000) (ym : y = 0 → m = 0) {ρ : Sto} (hm : RM A ρ) (hG : GA A k ρ) (hM : LM A s w k ρ) (g79 : sI ρ 81 79 = oB L) (hL : y = 1 → L = some i ∧ inR (A 120 i) 201)
    (hp : y = 1 → mX12_partOf (wI ρ 81 83 1) = some (Int32.ofNat m)) : ∃ ρ', mX12_sells_73 (Int32.ofNat s) y ρ = some ρ' ∧ Ex SX ρ ρ' ∧ SV A i s w k L y m ρ' := by
  obtain ⟨hs, hks, hw, hws, ha, has, hb, hbs⟩ := id hS
  have hl4 : cT 4 A ≤ 200 := (hB.le (c := 4) (by decide)).1
  have hl2 : cT 2 A ≤ 5 := (hB.le (c := 2) (by decide)).1
  have hl0 : cT 0 A ≤ 30 := (hB.le (c := 0) (by decide)).1
  have n5 : A 81 5 = Int32.ofNat (cT 2 A) := (hB.le (c := 2) (by decide)).2
  -- up to the row of persons
  have e1 : mX12_sells_73 (Int32.ofNat s) y ρ = mX12_sells_93 (Int32.ofNat s) (Int32.ofNat m) (wI ρ 81 83 y) := by
    unfold mX12_sells_73
    simp only [stp]
    rw [show sI (wI ρ 81 83 y) 81 83 = y by rw [sI_wI, if_pos ⟨rfl, rfl⟩]]
    rcases y01 with rfl | rfl
    · rw [if_neg (by decide), ym rfl]; rfl
    · rw [if_pos rfl, hp rfl, bnd_some]
  generalize hρ1 : wI (wI (wI (wI ρ 81 83 y) 81 84 (Int32.ofNat m)) 81 85 0) 81 86 (-1) = ρ1
  have x1 : Ex (fun b j => b = 81 ∧ 83 ≤ j ∧ j ≤ 86) ρ ρ1 := by
    rw [← hρ1]
    exact (((Ex.rf.w (S := fun b j => b = 81 ∧ 83 ≤ j ∧ j ≤ 86) _ ⟨rfl, by decide, by decide⟩).w _ ⟨rfl, by decide, by decide⟩).w _ ⟨rfl, by decide, by decide⟩).w _ ⟨rfl, by decide, by decide⟩
  have x1' : Ex SX ρ ρ1 := x1.mono fun b j z => Or.inl (by omega)
  have rm1 := x1'.rm hm SX_pr
  have v83 : sI ρ1 81 83 = y := by rw [← hρ1]; rfl
  have v84 : sI ρ1 81 84 = Int32.ofNat m := by rw [← hρ1]; rfl
  have v85 : sI ρ1 81 85 = 0 := by rw [← hρ1]; rfl
  have v86 : sI ρ1 81 86 = -1 := by rw [← hρ1]; rfl
  have r1 : ∀ b j, ¬ (b = 81 ∧ 83 ≤ j ∧ j ≤ 86) → sI ρ1 b j = sI ρ b j := x1.2.2.2.2.2
  have fz : firstS A (A 103 s) (cT 2 A - cT 2 A) (cT 2 A) = none := by rw [Nat.sub_self]; rfl
  obtain ⟨ρ2, c1, c2, c3⟩ := M_col_l hB (s := s) (by omega) (cT 2 A) FU ρ1 (Nat.le_refl _) (show cT 2 A < 5000 by omega) rm1 (by rw [fz, v86]; rfl)
  obtain ⟨ρ3, n3, d1, d2, d3⟩ := M_clr (s := s) 30 0 FU ρ2 rfl (show 30 < 5000 by omega) (fun q hq => by omega)
  have e2 : mX12_sells_93 (Int32.ofNat s) (Int32.ofNat m) (wI ρ 81 83 y) = mX12_sells_145B (mX12_sells_145 n3) (Int32.ofNat s) 30 ρ3 := by
    unfold mX12_sells_93
    simp only [stp]
    rw [hρ1, rm1 81 5 rfl, n5]
    exact c1.trans d1
  have x2 : Ex SX ρ ρ2 := x1'.tr (c2.mono fun b j z => Or.inl (by omega))
  have x3 : Ex SX ρ ρ3 := x2.tr (d2.mono fun b j z => Or.inr (by unfold S139 at z; omega))
  have r2 : ∀ b j, ¬ (b = 81 ∧ j = 86) → sI ρ2 b j = sI ρ1 b j := c2.2.2.2.2.2
  have r3 : ∀ b j, ¬ (135 ≤ b ∧ b ≤ 139) → sI ρ3 b j = sI ρ2 b j := d2.2.2.2.2.2
  have w81 : ∀ j, j ≠ 86 → sI ρ3 81 j = sI ρ1 81 j := fun j z => (r3 81 j (by omega)).trans (r2 81 j (by omega))
  have rm3 := x3.rm hm SX_pr
  have ga3 := hG.ex x3 SX_ga
  rcases y01 with rfl | rfl
  · have gz : ∀ p, p < 30 → shN A i s w k 0 m p = 0 := fun p _ => shN_0
    obtain ⟨z1, z2⟩ := it_0 hB hr (s := s) (k := k) gz
    refine ⟨ρ3, ?_, x3, ?_, ?_, ?_, ?_, ?_, ?_, ?_, ?_, fun q hq => ⟨?_, ?_, ?_, ?_, ?_⟩⟩
    · rw [e1, e2]
      unfold mX12_sells_145B
      rw [if_pos (by decide), w81 83 (by decide), v83, if_pos rfl]
    · rw [w81 _ (by decide), r1 _ _ (by omega)]; exact hM.1
    · rw [w81 _ (by decide), r1 _ _ (by omega)]; exact g79
    · rw [w81 _ (by decide), r1 _ _ (by omega)]; exact hM.2.1
    · rw [w81 _ (by decide), r1 _ _ (by omega)]; exact hM.2.2.2
    · rw [w81 _ (by decide), v83]
    · rw [w81 _ (by decide), v84]
    · rw [r3 _ _ (by omega)]; exact c3
    · rw [w81 _ (by decide), v85, z2, hf_0 z1]; rfl
    · rw [(d3 q hq).1, gz q hq]; rfl
    · rw [(d3 q hq).2.1, st_0]
    · rw [(d3 q hq).2.2.1, z1 q hq]; rfl
    · rw [(d3 q hq).2.2.2.1, (gt_0 (z1 q hq)).1]; rfl
    · rw [(d3 q hq).2.2.2.2, (gt_0 (cv := 0) (z1 q hq)).2]
  · obtain ⟨hL1, hy⟩ := hL rfl
    have g79' : sI ρ3 81 79 = Int32.ofNat i := by rw [w81 _ (by decide), r1 _ _ (by omega), g79, hL1]; rfl
    obtain ⟨ρ4, f1, f2, f3⟩ := M_shares hB hr hi hS hy (m := m) (by omega) rm3 ga3 g79' ((w81 84 (by decide)).trans v84) (fun p hp => ⟨(d3 p hp).2.1, (d3 p hp).1⟩)
    have hT : sm (shN A i s w k 1 m) 30 < 2147483648 := Nat.lt_of_le_of_lt (shN_le hB hr hw) (by omega)
    have x4 : Ex SX ρ ρ4 := x3.tr (f2.mono fun b j z => Or.inr (by unfold S135 at z; omega))
    have r4 : ∀ b j, ¬ S135 b j → sI ρ4 b j = sI ρ3 b j := f2.2.2.2.2.2
    obtain ⟨ρ5, h1, h2, h3, h4⟩ := M_pass hB hr hh hT (x4.rm hm SX_pr) (hG.ex x4 SX_ga) (fun q hq => (f3 q hq).2) (fun q hq => by rw [r4 137 q (by unfold S135; omega)]; exact (d3 q hq).2.2.1) (by rw [r4 81 85 (by unfold S135; omega), w81 _ (by decide), v85])
    have x5 : Ex SX ρ ρ5 := x4.tr (h2.mono fun b j z => by unfold S137 at z; unfold SX; omega)
    have r5 : ∀ b j, ¬ S137 b j → sI ρ5 b j = sI ρ4 b j := h2.2.2.2.2.2
    have gol : ∀ p, p < 30 → goN A s k (shN A i s w k 1 m) p < 2147483648 := fun p hp => Nat.lt_of_le_of_lt (go_le hB hr hh hp) hT
    have goz : ∀ p, cT 0 A ≤ p → p < 30 → goN A s k (shN A i s w k 1 m) p = 0 := fun p h1 h2 => go_no hB hr (fun q q1 q2 => shN_no hB hr hw q1 (by omega)) h1 h2
    have rm5 := x5.rm hm SX_pr
    have w5 : ∀ j, j ≠ 85 → sI ρ5 81 j = sI ρ3 81 j := fun j z => (r5 81 j (by unfold S137; omega)).trans (r4 81 j (by unfold S135; omega))
    obtain ⟨ρ6, k1, k2, k3, k4⟩ := M_paysAll hB hr (s := s) (k := k) hk hs hi gol goz (H := heN A s k (shN A i s w k 1 m)) (cT 0 A) 0 FU ρ5 rm5 (hG.ex x5 SX_ga).1 ((w5 79 (by decide)).trans g79') (by omega) (show cT 0 A < 5000 by omega) h3 (fun q hq => by
      rw [if_neg (by omega), if_neg (by omega), r5 139 q (by unfold S137; omega), r5 138 q (by unfold S137; omega), r4 139 q (by unfold S135; omega), r4 138 q (by unfold S135; omega)]
      exact ⟨(d3 q hq).2.2.2.2, (d3 q hq).2.2.2.1⟩) h4
    have r6 : ∀ b j, ¬ (b = 138 ∨ b = 139 ∨ (b = 81 ∧ j = 85)) → sI ρ6 b j = sI ρ5 b j := k2.2.2.2.2.2
    have w6 : ∀ j, j ≠ 85 → sI ρ6 81 j = sI ρ3 81 j := fun j z => (r6 81 j (by omega)).trans (w5 j z)
    refine ⟨ρ6, ?_, x5.tr (k2.mono fun b j z => by unfold SX; omega), ?_, ?_, ?_, ?_, ?_, ?_, ?_, k4, fun q hq => ⟨?_, ?_, ?_, (k3 q hq).2, (k3 q hq).1⟩⟩
    · rw [e1, e2]
      unfold mX12_sells_145B
      rw [if_pos (by decide), w81 83 (by decide), v83, if_neg i10, f1, bnd_some, if_pos (oI_inb (j := s) (n := 200) (by omega) (by decide)), oI_cl (j := s) (by omega), (x4.rm hm SX_pr) 101 s rfl, h1, bnd_some]
      exact k1
    · rw [w6 _ (by decide), w81 _ (by decide), r1 _ _ (by omega)]; exact hM.1
    · rw [w6 _ (by decide), w81 _ (by decide), r1 _ _ (by omega)]; exact g79
    · rw [w6 _ (by decide), w81 _ (by decide), r1 _ _ (by omega)]; exact hM.2.1
    · rw [w6 _ (by decide), w81 _ (by decide), r1 _ _ (by omega)]; exact hM.2.2.2
    · rw [w6 _ (by decide), w81 _ (by decide), v83]
    · rw [w6 _ (by decide), w81 _ (by decide), v84]
    · rw [w6 _ (by decide), r3 _ _ (by omega)]; exact c3
    · rw [r6 _ _ (by omega), r5 _ _ (by unfold S137; omega)]; exact (f3 q hq).2
    · rw [r6 _ _ (by omega), r5 _ _ (by unfold S137; omega)]; exact (f3 q hq).1
    · rw [r6 _ _ (by omega)]; exact h3 q hq
