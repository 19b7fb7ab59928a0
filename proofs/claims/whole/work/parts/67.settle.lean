/-! shares in plain numbers; the class applies a law -/
def wtN (A : Ab) (w p : Nat) : Nat := (wtV A w p).toNatClampNeg
def shN (A : Ab) (i s w k : Nat) (y : Int32) (m p : Nat) : Nat := if stV A i s w k y p = 0 then 0 else m * wtN A w p / wsum A w (aM A w)
theorem wt_n {A : Ab} (hr : IRow A) {w p : Nat} (hw : w < cT 1 A) : wtV A w p = Int32.ofNat (wtN A w p) ∧ wtN A w p ≤ 9 ∧ ((∃ t, t < aM A w ∧ A 85 (3 * w + t) = Int32.ofNat p ∧ wtN A w p = (A 86 (3 * w + t)).toNatClampNeg) ∨ wtN A w p = 0) := by
  obtain ⟨w1, w2, w3, w4, w5⟩ := work_m hr hw
  unfold wtN
  by_cases c : byS A w p (aM A w) = true
  · obtain ⟨t, t1, t2⟩ := (byS_iff _).mp c
    obtain ⟨-, x, x1, x2, x3⟩ := w4 t t1
    have e := wtV_at hr hw t1 t2
    rw [e, x3, oI_cl (by omega)]
    exact ⟨rfl, x2, Or.inl ⟨t, t1, t2, by rw [x3, oI_cl (by omega)]⟩⟩
  · have : wtV A w p = 0 := wtR_no _ _ fun u _ hu e => c ((byS_iff _).mpr ⟨u, by omega, e⟩)
    rw [this]
    exact ⟨rfl, by decide, Or.inr rfl⟩
theorem wsum_sm {A : Ab} {w : Nat} : ∀ m, wsum A w m = sm (fun t => (A 86 (3 * w + t)).toNatClampNeg) m
  | 0 => rfl
  | m + 1 => by
    show wsum A w m + _ = sm _ m + _
    rw [wsum_sm m]
theorem wt_all {A : Ab} (hB : IB A) (hr : IRow A) {w : Nat} (hw : w < cT 1 A) : sm (fun p => wtN A w p) 30 ≤ wsum A w (aM A w) := by
  have hl0 : cT 0 A ≤ 30 := (hB.le (c := 0) (by decide)).1
  obtain ⟨w1, w2, w3, w4, w5⟩ := work_m hr hw
  have h1 : sm (fun p => wtN A w p) 30 ≤ sm (fun p => sm (fun t => if A 85 (3 * w + t) = Int32.ofNat p then (A 86 (3 * w + t)).toNatClampNeg else 0) (aM A w)) 30 := by
    refine sm_le 30 (fun p hp => ?_)
    rcases (wt_n hr hw (p := p)).2.2 with ⟨t, t1, t2, t3⟩ | z
    · rw [t3]
      refine Nat.le_trans (Nat.le_of_eq ?_) (sm_ge (f := fun t => if A 85 (3 * w + t) = Int32.ofNat p then (A 86 (3 * w + t)).toNatClampNeg else 0) (aM A w) t1)
      show _ = if A 85 (3 * w + t) = Int32.ofNat p then (A 86 (3 * w + t)).toNatClampNeg else 0
      rw [if_pos t2]
    · rw [z]; exact Nat.zero_le _
  refine Nat.le_trans h1 ?_
  rw [sm_swap (f := fun p t => if A 85 (3 * w + t) = Int32.ofNat p then (A 86 (3 * w + t)).toNatClampNeg else 0) 30, wsum_sm]
  refine sm_le _ (fun t ht => ?_)
  obtain ⟨⟨x, x1, x2⟩, -⟩ := w4 t ht
  refine Nat.le_of_eq ((sm_eq 30 (g := fun p => if p = x then (A 86 (3 * w + t)).toNatClampNeg else 0) (fun p hp => ?_)).trans ((sm_one 30).trans (if_pos (by omega))))
  rw [x2]
  by_cases c : p = x
  · rw [if_pos c, if_pos (by rw [c])]
  · rw [if_neg c, if_neg (fun z => c ((oI_eq (by omega) (by omega)).mp z).symm)]
theorem sm_mul {f : Nat → Nat} {c : Nat} : ∀ n, sm (fun i => c * f i) n = c * sm f n
  | 0 => rfl
  | n + 1 => by
    show sm (fun i => c * f i) n + c * f n = c * (sm f n + f n)
    rw [sm_mul n, Nat.mul_add]
theorem shN_le {A : Ab} (hB : IB A) (hr : IRow A) {i s w k m : Nat} {y : Int32} (hw : w < cT 1 A) : sm (shN A i s w k y m) 30 ≤ m := by
  obtain ⟨b1, b2⟩ := wsum_b hr hw
  have h2 : wsum A w (aM A w) * sm (shN A i s w k y m) 30 ≤ m * sm (fun p => wtN A w p) 30 := by
    rw [← sm_mul, ← sm_mul]
    refine sm_le 30 (fun p hp => ?_)
    unfold shN
    by_cases c : stV A i s w k y p = 0
    · rw [if_pos c]; exact Nat.zero_le _
    · rw [if_neg c]; exact Nat.mul_div_le _ _
  have h3 := Nat.mul_le_mul_left m (wt_all hB hr hw)
  have h4 : wsum A w (aM A w) * sm (shN A i s w k y m) 30 ≤ wsum A w (aM A w) * m := by
    rw [Nat.mul_comm (wsum A w (aM A w)) m]; exact Nat.le_trans h2 h3
  exact Nat.le_of_mul_le_mul_left h4 (by omega)
theorem shN_one {A : Ab} (hB : IB A) (hr : IRow A) {i s w k m : Nat} {y : Int32} (hw : w < cT 1 A) {p : Nat} (hp : p < 30) : shN A i s w k y m p ≤ m := Nat.le_trans (sm_ge 30 hp) (shN_le hB hr hw)
theorem shV_n {A : Ab} (hr : IRow A) {i s w k m : Nat} {y : Int32} (hw : w < cT 1 A) (hm : m < 2147483648) (p : Nat) : shV A i s w k y (Int32.ofNat m) p = Int32.ofNat (shN A i s w k y m p) := by
  obtain ⟨b1, b2⟩ := wsum_b hr hw
  obtain ⟨c1, c2, -⟩ := wt_n hr hw (p := p)
  unfold shV shN
  by_cases c : stV A i s w k y p = 0
  · rw [if_pos c, if_pos c]; rfl
  · rw [if_neg c, if_neg c, c1]
    exact mulDiv hm (by omega) (by omega)
theorem st_0 {A : Ab} {i s w k p : Nat} : stV A i s w k 0 p = 0 := if_pos rfl
theorem shN_0 {A : Ab} {i s w k m p : Nat} : shN A i s w k 0 m p = 0 := if_pos st_0
theorem st_no {A : Ab} (hB : IB A) (hr : IRow A) {i s w k p : Nat} {y : Int32} (hw : w < cT 1 A) (hp : cT 0 A ≤ p) (hp2 : p < 1000) : stV A i s w k y p = 0 := by
  unfold stV
  by_cases c : y = 0
  · rw [if_pos c]
  · rw [if_neg c]
    by_cases d : wtV A w p ≤ 0
    · rw [if_pos d]
    · exact absurd (wt_p hB hr hw hp2 d) (by omega)
theorem shN_no {A : Ab} (hB : IB A) (hr : IRow A) {i s w k m p : Nat} {y : Int32} (hw : w < cT 1 A) (hp : cT 0 A ≤ p) (hp2 : p < 1000) : shN A i s w k y m p = 0 := if_pos (st_no hB hr hw hp hp2)
/-! what goes on where nothing was -/
theorem it_0 {A : Ab} (hB : IB A) (hr : IRow A) {s k : Nat} {g : Nat → Nat} (h : ∀ p, p < 30 → g p = 0) : (∀ p, p < 30 → goN A s k g p = 0) ∧ heN A s k g = 0 := by
  have hs : still A s k (itG A s k g 0) := fun p hp _ => h p hp
  obtain ⟨h1, h2⟩ := it_still hB hr (H := 0) hs 8
  rw [Nat.zero_add] at h1 h2
  have e8 : ∀ p, p < 30 → itG A s k g 8 p = 0 := fun p hp => (h1 p hp).trans (h p hp)
  refine ⟨fun p hp => ?_, ?_⟩
  · unfold goN
    rw [e8 p hp]
    exact ite_self 0
  · unfold heN
    rw [h2, still_d (fun p hp _ => e8 p hp)]
    rfl
theorem com_no {A : Ab} (hB : IB A) (hr : IRow A) {s k t : Nat} {g : Nat → Nat} (ht : cT 0 A ≤ t) : comN A s k g t (cT 4 A) = 0 := by
  refine sm_z _ (fun i hi => ?_)
  by_cases c : t = toI A i
  · rw [if_pos c]
    unfold vI
    by_cases d : isH A s k i = true
    · exfalso
      obtain ⟨⟨x, x1, x2⟩, -⟩ := heir_kind hr hi (isH_iff.mp d).1
      have hl0 : cT 0 A ≤ 30 := (hB.le (c := 0) (by decide)).1
      unfold toI at c
      rw [x2, oI_cl (by omega)] at c
      omega
    · rw [if_neg d]
  · rw [if_neg c]
theorem it_no {A : Ab} (hB : IB A) (hr : IRow A) {s k : Nat} {g : Nat → Nat} (h : ∀ p, cT 0 A ≤ p → p < 30 → g p = 0) : ∀ n p, cT 0 A ≤ p → p < 30 → itG A s k g n p = 0
  | 0, p, h1, h2 => h p h1 h2
  | n + 1, p, h1, h2 => by
    show rnd A s k (itG A s k g n) p = 0
    unfold rnd
    rw [it_no hB hr h n p h1 h2, com_no hB hr h1]
    exact ite_self 0
theorem go_no {A : Ab} (hB : IB A) (hr : IRow A) {s k : Nat} {g : Nat → Nat} (h : ∀ p, cT 0 A ≤ p → p < 30 → g p = 0) {p : Nat} (h1 : cT 0 A ≤ p) (h2 : p < 30) : goN A s k g p = 0 := by
  unfold goN
  rw [it_no hB hr h 8 p h1 h2]
  exact ite_self 0
theorem go_le {A : Ab} (hB : IB A) (hr : IRow A) (hh : IHeir A) {s k : Nat} {g : Nat → Nat} {p : Nat} (hp : p < 30) : goN A s k g p ≤ sm g 30 := by
  unfold goN
  by_cases c : deadB A s k p = true
  · rw [if_pos c]; exact Nat.zero_le _
  · rw [if_neg c]; exact Nat.le_trans (sm_ge 30 hp) (itG_le hB hr hh 8)
theorem gt_0 {A : Ab} {s k : Nat} {cv : Int32} {go : Nat → Nat} {p : Nat} (h : go p = 0) : gtN A s k cv go p = 0 ∧ soV A s k go p = -1 := ⟨if_pos h, if_pos h⟩
theorem hf_0 {A : Ab} {s k : Nat} {cv : Int32} {go : Nat → Nat} (h : ∀ p, p < 30 → go p = 0) : hfN A s k cv go 30 = 0 := sm_z 30 (fun p hp => by rw [h p hp]; exact ite_self 0)
/-! the class applies -/
theorem C_zero_l {A : Ab} {w c : Nat} (hw : w < cT 1 A) : ∀ m p fuel σ, CB A σ → sR σ 53 6 = sR σ 35 w → sI σ 53 10 = 0 → p + m = 30 → m < fuel → (∀ q, q < p → sI σ 58 q = 0 ∧ sI σ 57 q = 0) → ∃ σ', mX0_apply_86 fuel c (Int32.ofNat p) σ = some σ' ∧ Ex S57 σ σ' ∧ ∀ q, q < 30 → sI σ' 58 q = 0 ∧ sI σ' 57 q = 0 := by
  intro m
  induction m with
  | zero =>
    intro p fuel σ h h6 e10 hp hf hq
    obtain ⟨n, rfl⟩ : ∃ n, fuel = n + 1 := ⟨fuel - 1, by omega⟩
    have e : p = 30 := by omega
    subst e
    refine ⟨σ, ?_, Ex.rf, hq⟩
    show mX0_apply_86B (mX0_apply_86 n) _ _ σ = _
    unfold mX0_apply_86B
    rw [if_pos (by decide)]
  | succ m ih =>
    intro p fuel σ h h6 e10 hp hf hq
    obtain ⟨n, rfl⟩ : ∃ n, fuel = n + 1 := ⟨fuel - 1, by omega⟩
    obtain ⟨kw, -⟩ := h.wa hw
    have q30 : ¬ (30 : Int32) ≤ Int32.ofNat p := fun q => absurd ((oI_le (j := 30) (by decide) (by omega)).mp q) (by omega)
    have p30 := oI_inb (j := p) (n := 30) (by omega) (by decide)
    have eX : Ex S57 σ (wI (wI σ 58 p 0) 57 p 0) := (Ex.rf.w (S := S57) _ (Or.inr rfl)).w _ (Or.inl rfl)
    have sc := eX.sc (fun b j z => by rcases z with rfl | rfl <;> decide)
    have step : mX0_apply_86 (n + 1) c (Int32.ofNat p) σ = mX0_apply_86 n c (Int32.ofNat (p + 1)) (wI (wI σ 58 p 0) 57 p 0) := by
      refine Eq.trans (b := mX0_apply_86B (mX0_apply_86 n) c (Int32.ofNat p) σ) rfl ?_
      unfold mX0_apply_86B mX0_apply_126 mX0_apply_127
      rw [if_neg q30, h6, if_pos kw, C_wt h hw, bnd_some, e10, if_pos rfl, if_pos p30]
      simp only [stp]
      rw [if_pos p30, oI_cl (j := p) (by omega)]
      have r58 : sI (wI (wI σ 58 p 0) 57 p 0) 58 p = 0 := by rw [sI_wI, if_neg (by omega), sI_wI, if_pos ⟨rfl, rfl⟩]
      rw [r58, if_pos rfl, oI_s]
    obtain ⟨σ', z1, z2, z3⟩ := ih (p + 1) n (wI (wI σ 58 p 0) 57 p 0) (h.sc sc) h6 (by rw [sI_wI, if_neg (by omega), sI_wI, if_neg (by omega)]; exact e10) (by omega) (by omega) (fun q hq' => by
      by_cases e : q = p
      · subst e
        exact ⟨by rw [sI_wI, if_neg (by omega), sI_wI, if_pos ⟨rfl, rfl⟩], by rw [sI_wI, if_pos ⟨rfl, rfl⟩]⟩
      · rw [sI_wI, if_neg (by omega), sI_wI, if_neg (fun z => e z.2), sI_wI, if_neg (fun z => e z.2), sI_wI, if_neg (by omega)]
        exact hq q (by omega))
    exact ⟨σ', step.trans z1, eX.tr z2, z3⟩
/-- what 'apply' writes -/
def SA0 (b j : Nat) : Prop := b = 57 ∨ b = 58 ∨ (b = 53 ∧ (j = 10 ∨ j = 11))
def SA (c b j : Nat) : Prop := b = c + 4 ∨ SA0 b j
theorem Ex.scP {S : Nat → Nat → Prop} {σ σ' : Sto} (h : Ex S σ σ') (hs : ∀ b k, S b k → (53 ≤ b ∧ b ≤ 65) ∨ (sK σ b = 100 ∧ sN σ b = 64)) : Sc σ σ' :=
  ⟨h.1, h.2.1, h.2.2.1, fun b k _ => h.2.2.2.1 b k, fun b hb hn k => h.2.2.2.2.2 b k (fun z => by
    rcases hs b k z with q | q
    · omega
    · exact hn q), fun b _ k => h.2.2.2.2.1 b k⟩
theorem SA_sc {c : Nat} {σ σ' : Sto} (h : Ex (SA c) σ σ') (hL : LwAt σ c) : Sc σ σ' := h.scP fun b k z => by
  rcases z with rfl | rfl | rfl | ⟨rfl, -⟩
  · exact Or.inr hL.2.2.2.2.2.2.2
  · exact Or.inl (by decide)
  · exact Or.inl (by decide)
  · exact Or.inl (by decide)
/-- the account has applied: it counts (y), with a part (m) -/
def AP (A : Ab) (i s w k : Nat) (y : Int32) (m : Nat) (σ : Sto) : Prop := sI σ 53 10 = y ∧ sI σ 53 11 = Int32.ofNat m ∧ ∀ q, q < 30 → sI σ 58 q = stV A i s w k y q ∧ sI σ 57 q = Int32.ofNat (shN A i s w k y m q)
/-- it does not count -/
theorem C_app0 {A : Ab} {i s w k c : Nat} (hw : w < cT 1 A) {σ : Sto} (h : CB A σ) (h6 : sR σ 53 6 = sR σ 35 w) : ∃ σ', mX0_apply_58 c 0 σ = some σ' ∧ Ex SA0 σ σ' ∧ AP A i s w k 0 0 σ' := by
  have sc : Sc σ (wI (wI σ 53 10 0) 53 11 0) := (Sc.rf.w 53 10 _ (by decide)).w 53 11 _ (by decide)
  obtain ⟨σ', z1, z2, z3⟩ := C_zero_l (c := c) hw 30 0 FU (wI (wI σ 53 10 0) 53 11 0) (h.sc sc) h6 rfl rfl (show 30 < 5000 by omega) (fun q hq => by omega)
  refine ⟨σ', ?_, ?_, ?_, ?_, fun q hq => ?_⟩
  · unfold mX0_apply_58 mX0_apply_81
    rw [if_pos (by unfold isB; decide)]
    simp only [stp]
    rw [if_pos (show sI (wI σ 53 10 0) 53 10 = 0 from rfl)]
    exact z1
  · exact (((Ex.rf.w (S := SA0) (a := 53) (k := 10) 0 (Or.inr (Or.inr ⟨rfl, Or.inl rfl⟩))).w (a := 53) (k := 11) 0 (Or.inr (Or.inr ⟨rfl, Or.inr rfl⟩))).tr (z2.mono fun b j z => by unfold S57 at z; unfold SA0; omega))
  · rw [z2.2.2.2.2.2 53 10 (by unfold S57; omega)]; rfl
  · rw [z2.2.2.2.2.2 53 11 (by unfold S57; omega)]; rfl
  · rw [(z3 q hq).1, (z3 q hq).2, st_0, shN_0]
    exact ⟨rfl, rfl⟩
/-- both count alike, and have the same part -/
theorem app_eq {A : Ab} {s w a b k i c : Nat} (hi : i ≤ 12) (hk : k ≤ 999) (hS : SL A s w a b) {σ ρ : Sto} (h : CB A σ) (hO : OP A k σ) (hK : LK A s w a b k σ) (hL : LwAt σ c) (hC : LawC A σ i c) (hcr : 66 < c) (hla : A 112 i = A 103 s) (hm : RM A ρ) (hM : LM A s w k ρ) (g79 : sI ρ 81 79 = Int32.ofNat i) :
    ∃ y m σ1 ρ1, (y = 0 ∨ y = 1) ∧ m ≤ 1999980000 ∧ (y = 0 → m = 0) ∧ mX0_apply c σ = some σ1 ∧ Ex (SA c) σ σ1 ∧ AP A i s w k y m σ1 ∧ mX12_isCounting (Int32.ofNat s) ρ = some (y, ρ1) ∧ Ex S13 ρ ρ1 ∧ (y = 1 → mX12_partOf (wI ρ1 81 83 1) = some (Int32.ofNat m)) := by
  obtain ⟨hs, hks, hw, hws, ha, has, hb, hbs⟩ := id hS
  have hr := h.2.2.2.2.2.1
  obtain ⟨y, σ1, ρ1, y01, e1, e2, x1, x2⟩ := count_eq hi hS h hK hL hC (Or.inl (by omega)) hm hM g79
  have x1' : Ex (SA c) σ σ1 := x1.mono fun b j z => Or.inl z
  have sc1 := SA_sc x1' hL
  have cb1 := h.sc sc1
  have rd : ∀ b j, b ≠ c + 4 → sI σ1 b j = sI σ b j := fun b j z => x1.2.2.2.2.2 b j z
  have k6 : sR σ1 53 6 = sR σ1 35 w := by rw [x1.2.2.2.1, x1.2.2.2.1]; exact hK.2.1
  rcases y01 with rfl | rfl
  · obtain ⟨σ2, z1, z2, z3⟩ := C_app0 (c := c) (i := i) (s := s) (k := k) hw cb1 k6
    exact ⟨0, 0, σ2, ρ1, Or.inl rfl, by decide, fun _ => rfl, e1.trans z1, x1'.tr (z2.mono fun b j z => Or.inr z), z3, e2, x2, fun q => by cases q⟩
  · have hL1 := hL.fr sc1.fr
    obtain ⟨pn, pn1, pn2⟩ := price_ok hr hs hks
    obtain ⟨⟨C2, C3, C7, C8, C9, C10, C11, C12⟩, ⟨D2, D3, D7, D8, D9, D10, D11⟩, ⟨n, n1, n6, n116, n4, n5⟩, -⟩ := hC
    obtain ⟨rst, rs1, rs2⟩ := D7
    -- the row of steps in plain numbers
    have hE : ∀ t, t < n → (A 124 (16 * i + t)).toNatClampNeg < 100000000 ∧ (A 125 (16 * i + t)).toNatClampNeg ≤ 10000 ∧ sI σ1 (c + 1) t = Int32.ofNat (A 124 (16 * i + t)).toNatClampNeg ∧ sI σ1 (c + 2) t = Int32.ofNat (A 125 (16 * i + t)).toNatClampNeg ∧ A 124 (16 * i + t) = Int32.ofNat (A 124 (16 * i + t)).toNatClampNeg ∧ A 125 (16 * i + t) = Int32.ofNat (A 125 (16 * i + t)).toNatClampNeg := fun t ht => by
      obtain ⟨q1, q2, ⟨u, u1, u2⟩, ⟨v, v1, v2⟩⟩ := n4 t ht
      rw [rd (c + 1) t (by omega), rd (c + 2) t (by omega), q1, q2, u2, v2, oI_cl (by omega), oI_cl (by omega)]
      exact ⟨by omega, by omega, rfl, rfl, rfl, rfl⟩
    have hinc : ∀ t, t + 1 < n → (A 124 (16 * i + t)).toNatClampNeg < (A 124 (16 * i + (t + 1))).toNatClampNeg := fun t ht => by
      obtain ⟨-, -, ⟨u, u1, u2⟩, -⟩ := n4 t (by omega)
      obtain ⟨-, -, ⟨v, v1, v2⟩, -⟩ := n4 (t + 1) (by omega)
      have := n5 t ht
      rw [show 16 * i + t + 1 = 16 * i + (t + 1) from rfl, u2, v2] at this
      rw [u2, v2, oI_cl (by omega), oI_cl (by omega)]
      exact (oI_lt (by omega) (by omega)).mp this
    have mst : A 119 i = -1 ∨ ∃ m, m < 100000000 ∧ A 119 i = Int32.ofNat m := D9
    have sc2 : Sc σ1 (wI σ1 53 10 1) := Sc.rf.w 53 10 _ (by decide)
    have hL2 := hL1.fr sc2.fr
    have rd2 : ∀ b j, b ≠ 53 → sI (wI σ1 53 10 1) b j = sI σ1 b j := fun b j z => by rw [sI_wI, if_neg (fun q => z q.1)]
    have rm2 : RM A (wI ρ1 81 83 1) := (x2.rm hm S13_pr).np 81 83 _ rfl
    have rr : ∀ j, j ≠ 83 → sI (wI ρ1 81 83 1) 81 j = sI ρ 81 j := fun j z => by rw [sI_wI, if_neg (fun q => z q.2), x2.2.2.2.2.2 81 j (by unfold S13; omega)]
    obtain ⟨m, m1, m2, m3⟩ := part_l (a := c) (mst := A 119 i) (E := fun t => (A 124 (16 * i + t)).toNatClampNeg) (P := fun t => (A 125 (16 * i + t)).toNatClampNeg) (σ := wI σ1 53 10 1) (ρ := wI ρ1 81 83 1) hi n1 (show pn < 2000000000 by omega) hL2 (by rw [rd2 _ _ (by omega), rd _ _ (by omega), n6]) (by rw [rd2 _ _ (by omega), rd _ _ (by omega), C7, rs2]) (by omega) (by rw [rd2 _ _ (by omega), rd _ _ (by omega), C9]) mst
      (fun t ht => by
        obtain ⟨q1, q2, q3, q4, q5, q6⟩ := hE t ht
        exact ⟨q1, q2, by rw [rd2 _ _ (by omega)]; exact q3, by rw [rd2 _ _ (by omega)]; exact q4, q5, q6⟩) hinc rm2 ((rr 79 (by decide)).trans g79) ((rr 78 (by decide)).trans (hM.1.trans pn2)) n116 rs2 rfl n 0 0 FU (by omega) (show n < 5000 by omega) (Nat.zero_le _)
    have p7 : sI (wI σ1 53 10 1) 53 7 = Int32.ofNat pn := by rw [sI_wI, if_neg (by omega), rd _ _ (by omega), hK.2.2.1, pn2]
    have sc3 : Sc σ1 (wI (wI σ1 53 10 1) 53 11 (Int32.ofNat m)) := sc2.w 53 11 _ (by decide)
    have rd3 : ∀ b j, b ≠ 53 ∨ (j ≠ 10 ∧ j ≠ 11) → sI (wI (wI σ1 53 10 1) 53 11 (Int32.ofNat m)) b j = sI σ1 b j := fun b j z => by rw [sI_wI, if_neg (by omega), sI_wI, if_neg (by omega)]
    obtain ⟨σ2, z1, z2, z3⟩ := C_shares_l (i := i) (c := c) hk hS (y := 1) (pt := Int32.ofNat m) 30 0 FU (wI (wI σ1 53 10 1) 53 11 (Int32.ofNat m)) (cb1.sc sc3) ⟨by rw [rd3 _ _ (by omega), rd _ _ (by omega)]; exact hO.1, fun p hp => by rw [rd3 _ _ (by omega), rd3 _ _ (by omega), rd _ _ (by omega), rd _ _ (by omega)]; exact hO.2 p hp⟩ (by show sR σ1 53 5 = sR σ1 38 s; rw [x1.2.2.2.1, x1.2.2.2.1]; exact hK.1) k6 (hL1.fr sc3.fr) (by rw [rd3 _ _ (by omega), rd _ _ (by omega), C2, hla]) (by rw [rd3 _ _ (by omega), rd _ _ (by omega), C10]) (by rw [rd3 _ _ (by omega), rd _ _ (by omega), C12]) (by rw [sI_wI, if_neg (by omega), sI_wI, if_pos ⟨rfl, rfl⟩]) (by rw [sI_wI, if_pos ⟨rfl, rfl⟩]) rfl (show 30 < 5000 by omega) (fun q hq => by omega) (Or.inl (by omega)) (Or.inr (by omega))
    refine ⟨1, m, σ2, ρ1, Or.inr rfl, by omega, (fun q => by cases q), ?_, ?_, ⟨?_, ?_, fun q hq => ?_⟩, e2, x2, fun _ => m3⟩
    · rw [e1]
      unfold mX0_apply_58 mX0_apply_81
      rw [if_pos (by unfold isB; decide)]
      simp only [stp]
      rw [if_neg (show ¬ sI (wI σ1 53 10 1) 53 10 = 0 from i10), if_pos hL2.2.2.1, p7]
      rw [show mX4_partOf c (Int32.ofNat pn) (wI σ1 53 10 1) = some (Int32.ofNat m) from m2, bnd_some]
      exact z1
    · exact x1'.tr (((Ex.rf.w (S := SA c) (a := 53) (k := 10) 1 (Or.inr (Or.inr (Or.inr ⟨rfl, Or.inl rfl⟩)))).w (a := 53) (k := 11) _ (Or.inr (Or.inr (Or.inr ⟨rfl, Or.inr rfl⟩)))).tr (z2.mono fun b j z => by unfold S57 at z; unfold SA SA0; omega))
    · rw [z2.2.2.2.2.2 53 10 (by unfold S57; omega)]; rfl
    · rw [z2.2.2.2.2.2 53 11 (by unfold S57; omega)]; rfl
    · rw [← shV_n hr hw (by omega)]
      exact z3 q hq
