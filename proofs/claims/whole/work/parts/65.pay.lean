/-! what each one gets -/
def clE (A : Ab) (s k : Nat) (cv : Int32) (p : Nat) : Nat → Nat → Bool
  | 0, _ => false
  | m + 1, i => if A 108 i = Int32.ofNat p ∧ A 109 i = Int32.ofNat s ∧ ¬ Int32.ofNat k < A 110 i ∧ ¬ cv < A 110 i - A 106 s then true else clE A s k cv p m (i + 1)
theorem clE_iff {A : Ab} {s k : Nat} {cv : Int32} {p : Nat} : ∀ m i, clE A s k cv p m i = true ↔ ∃ j, i ≤ j ∧ j < i + m ∧ A 108 j = Int32.ofNat p ∧ A 109 j = Int32.ofNat s ∧ ¬ Int32.ofNat k < A 110 j ∧ ¬ cv < A 110 j - A 106 s
  | 0, i => ⟨fun h => (by cases h), fun ⟨j, h1, h2, _⟩ => by omega⟩
  | m + 1, i => by
    unfold clE
    by_cases c : A 108 i = Int32.ofNat p ∧ A 109 i = Int32.ofNat s ∧ ¬ Int32.ofNat k < A 110 i ∧ ¬ cv < A 110 i - A 106 s
    · rw [if_pos c]; exact ⟨fun _ => ⟨i, Nat.le_refl _, by omega, c⟩, fun _ => rfl⟩
    · rw [if_neg c, clE_iff m (i + 1)]
      constructor
      · rintro ⟨j, h1, h2, h3⟩; exact ⟨j, by omega, by omega, h3⟩
      · rintro ⟨j, h1, h2, h3⟩
        have : j ≠ i := fun q => c (q ▸ h3)
        exact ⟨j, by omega, by omega, h3⟩
def clB (A : Ab) (s k : Nat) (cv : Int32) (p : Nat) : Bool := clE A s k cv p (cT 5 A) 0
theorem clB_none {A : Ab} {s k : Nat} {cv : Int32} {p : Nat} (h : firstC A (Int32.ofNat p) (Int32.ofNat s) (cT 5 A) 0 = none) : clB A s k cv p = false := by
  cases q : clB A s k cv p with
  | false => rfl
  | true =>
    obtain ⟨j, j1, j2, j3, j4, -⟩ := (clE_iff _ _).mp q
    exact absurd ⟨j3, j4⟩ (firstC_none _ _ h j j1 j2)
theorem clB_some {A : Ab} (hc : IClaim A) {s k : Nat} {cv : Int32} {p j : Nat} (h : firstC A (Int32.ofNat p) (Int32.ofNat s) (cT 5 A) 0 = some j) : clB A s k cv p = true ↔ ¬ Int32.ofNat k < A 110 j ∧ ¬ cv < A 110 j - A 106 s := by
  obtain ⟨h1, h2, h3, h4⟩ := firstC_some _ _ _ h
  refine (clE_iff _ _).trans ⟨fun ⟨j', a1, a2, a3, a4, a5⟩ => ?_, fun a => ⟨j, h1, h2, h3, h4, a⟩⟩
  have : j' = j := by
    rcases Nat.lt_trichotomy j' j with z | z | z
    · exact absurd ⟨a3.trans h3.symm, a4.trans h4.symm⟩ (hc j' j z (by omega))
    · exact z
    · exact absurd ⟨h3.trans a3.symm, h4.trans a4.symm⟩ (hc j j' z (by omega))
  rw [← this]; exact a5
def mdV (A : Ab) (s k p : Nat) : Int32 := mdR A p (A 101 s) k (cT 4 A)
def feN (A : Ab) (s k p : Nat) : Nat := (A 93 (mdV A s k p).toNatClampNeg).toNatClampNeg
def soV (A : Ab) (s k : Nat) (go : Nat → Nat) (p : Nat) : Int32 := if go p = 0 then -1 else mdV A s k p
def gtN (A : Ab) (s k : Nat) (cv : Int32) (go : Nat → Nat) (p : Nat) : Nat := if go p = 0 then 0 else if mdV A s k p = -1 then (if clB A s k cv p then go p else 0) else go p - go p * feN A s k p / 1000
def hfN (A : Ab) (s k : Nat) (cv : Int32) (go : Nat → Nat) (n : Nat) : Nat := sm (fun p => if gtN A s k cv go p = 0 then go p else 0) n
theorem fee_ok {A : Ab} (hr : IRow A) {s k p : Nat} (h : ¬ mdV A s k p = -1) : ∃ j, j < cT 2 A ∧ mdV A s k p = Int32.ofNat j ∧ A 93 j = Int32.ofNat (feN A s k p) ∧ feN A s k p ≤ 300 := by
  rcases md_in hr (p := p) (k := k) (d := A 101 s) (cT 4 A) (Nat.le_refl _) with z | ⟨j, j1, j2⟩
  · exact absurd z h
  · have e : mdV A s k p = Int32.ofNat j := j2
    have hj : j < 2147483648 := by
      rcases Nat.lt_or_ge j 2147483648 with z | z
      · exact z
      · exfalso
        have : cT 2 A ≤ (A 81 5).toNatClampNeg := Nat.le_refl _
        have h5 : (A 81 5).toNatClampNeg < 2147483648 := by
          have := Int32.toNatClampNeg_lt (A 81 5)
          omega
        omega
    obtain ⟨f, f1, f2⟩ := (hr 2 (by decide) j j1).2
    have ef : feN A s k p = f := by unfold feN; rw [e, oI_cl hj, f2, oI_cl (by omega)]
    exact ⟨j, j1, e, by rw [ef]; exact f2, by omega⟩
theorem gt_pos {go fee : Nat} (hg : go ≠ 0) (hf : fee ≤ 300) : go - go * fee / 1000 ≠ 0 := by
  have h1 : go * fee ≤ go * 300 := Nat.mul_le_mul_left _ hf
  omega
def S61 (b j : Nat) : Prop := b = 61 ∨ b = 62 ∨ (b = 53 ∧ j = 12)
theorem S61_rng : ∀ b j, S61 b j → 53 ≤ b ∧ b ≤ 65 := fun b j h => by unfold S61 at h; omega
theorem AC.ex2 {A : Ab} {s k : Nat} {σ σ' : Sto} (h : AC A s k σ) (hE : Ex S61 σ σ') : AC A s k σ' := by
  obtain ⟨h1, h2, h3⟩ := h
  refine ⟨h1.sc (hE.sc S61_rng), ⟨?_, fun p hp => ?_⟩, ?_⟩
  · rw [hE.2.2.2.2.2 53 1 (by unfold S61; omega)]; exact h2.1
  · rw [hE.2.2.2.2.2 54 p (by unfold S61; omega), hE.2.2.2.2.2 55 p (by unfold S61; omega)]; exact h2.2 p hp
  · rw [hE.2.2.2.1, hE.2.2.2.1]; exact h3
theorem C_gotten {A : Ab} (hc : IClaim A) {s k p c : Nat} {cv : Int32} (hk : k ≤ 999) (hs : s < cT 4 A) (hp : p < 30) {go : Nat → Nat} (hgo : go p < 2147483648) (hg0 : go p ≠ 0) {σ : Sto} (hA : AC A s k σ) (k5 : sK σ c = 5) (c11 : sI σ c 11 = cv) (h59 : sI σ 59 p = Int32.ofNat (go p)) (h61 : sI σ 61 p = mdV A s k p) : mX0_gottenBy (Int32.ofNat p) c (Int32.ofNat s) σ = some (Int32.ofNat (gtN A s k cv go p)) := by
  obtain ⟨h, hO, h5⟩ := hA
  have hr := h.2.2.2.2.2.1
  have hlc : cT 5 A ≤ 200 := (h.1.le (c := 5) (by decide)).1
  have p30 := oI_inb (j := p) (n := 30) hp (by decide)
  obtain ⟨k0, f0, -⟩ := h.fa hs
  unfold mX0_gottenBy mX0_gottenBy_106 mX0_gottenBy_107 gtN
  simp only [eq_true p30, if_true]
  rw [oI_cl (j := p) (by omega), h61, h59, if_neg hg0]
  by_cases cm : mdV A s k p = -1
  · rw [if_pos cm, if_pos cm, C_claimOf0 h, bnd_some]
    cases q : firstC A (Int32.ofNat p) (Int32.ofNat s) (cT 5 A) 0 with
    | none =>
      rw [show oB none = -1 from rfl, h.no5 no_neg, bnd_some]
      have hm5 : cM 5 = 200 := rfl
      have kb := h.kind (c := 5) (i := 200) (by decide) (by omega)
      have b0 := h.bld (c := 5) (i := 200) (k := 0) (by decide) (by omega) (by omega) (by decide)
      rw [if_pos (show sK σ (sR σ 39 200) = 4 from kb)]
      have kn : mX9_isKnownOn3 (sR σ 39 200) (sI σ 53 1) σ = some 0 := by
        unfold mX9_isKnownOn3
        have lt6 : Int32.ofNat k < 1000000 := (oI_lt (n := 1000000) (by omega) (by decide)).mpr (by omega)
        rw [hO.1, show sI σ (sR σ 39 200) 0 = 1000000 from b0, if_pos lt6]
      rw [kn, bnd_some, if_pos rfl, clB_none q]
      rfl
    | some j =>
      have hj := (firstC_some _ _ _ q).2.1
      obtain ⟨kc, g0, g1, g3, g4⟩ := h.ca (show j < cT 5 A by omega)
      rw [show oB (some j) = Int32.ofNat j from rfl, h.at5 (show j < cT 5 A by omega), bnd_some, if_pos kc]
      have cb := clB_some hc (k := k) (cv := cv) q
      have kn : mX9_isKnownOn3 (sR σ 39 j) (sI σ 53 1) σ = some (if Int32.ofNat k < A 110 j then 0 else 1) := by
        unfold mX9_isKnownOn3
        rw [hO.1, g0, g1]
        by_cases z : Int32.ofNat k < A 110 j
        · rw [if_pos z, if_pos z]
        · rw [if_neg z, if_neg z, if_neg (fun y : (1000000 : Int32) ≤ Int32.ofNat k => absurd ((oI_le (j := 1000000) (by decide) (by omega)).mp y) (by omega))]
      rw [kn, bnd_some]
      by_cases z : Int32.ofNat k < A 110 j
      · rw [if_pos z, if_pos rfl]
        have : clB A s k cv p = false := by cases e : clB A s k cv p with | false => rfl | true => exact absurd z (cb.mp e).1
        rw [this]; rfl
      · rw [if_neg z, if_neg i10, h5, if_pos k0, if_pos k5, c11, g0, f0]
        by_cases y : cv < A 110 j - A 106 s
        · rw [if_pos y]
          have : clB A s k cv p = false := by cases e : clB A s k cv p with | false => rfl | true => exact absurd y (cb.mp e).2
          rw [this]; rfl
        · rw [if_neg y, if_neg i10, cb.mpr ⟨z, y⟩]; rfl
  · obtain ⟨j, j1, j2, j3, j4⟩ := fee_ok hr cm
    obtain ⟨ks, s0, s1⟩ := h.sa j1
    rw [if_neg cm, if_neg cm, j2, h.at2 j1, bnd_some, if_pos ks, s1, j3, show (1000 : Int64) = (Int32.ofNat 1000).toInt64 from rfl, mulDiv (c := 1000) hgo (by omega) (by decide)]
    have : go p * feN A s k p / 1000 ≤ go p := by
      have h1 : go p * feN A s k p ≤ go p * 300 := Nat.mul_le_mul_left _ j4
      omega
    rw [oI_sub this]
theorem C_payOut {A : Ab} (hc : IClaim A) {s k c : Nat} {cv : Int32} (hk : k ≤ 999) (hs : s < cT 4 A) (hks : A 97 s = 2) {go : Nat → Nat} (hgo : ∀ p, p < 30 → go p < 2147483648) {H : Nat} (hcn : c < 53 ∨ 66 < c) : ∀ m p fuel σ, AC A s k σ → sK σ c = 5 → sI σ c 11 = cv → p + m = 30 → m < fuel → (∀ q, q < 30 → sI σ 59 q = Int32.ofNat (go q)) → (∀ q, q < p → sI σ 61 q = soV A s k go q ∧ sI σ 62 q = Int32.ofNat (gtN A s k cv go q)) → sI σ 53 12 = Int32.ofNat (H + hfN A s k cv go p) → ∃ σ', mX0_payOut_2 fuel c (Int32.ofNat s) (Int32.ofNat p) σ = some σ' ∧ Ex S61 σ σ' ∧ (∀ q, q < 30 → sI σ' 61 q = soV A s k go q ∧ sI σ' 62 q = Int32.ofNat (gtN A s k cv go q)) ∧ sI σ' 53 12 = Int32.ofNat (H + hfN A s k cv go 30) := by
  intro m
  induction m with
  | zero =>
    intro p fuel σ hA k5 c11 hp hf h59 h61 h12
    obtain ⟨n, rfl⟩ : ∃ n, fuel = n + 1 := ⟨fuel - 1, by omega⟩
    have e : p = 30 := by omega
    subst e
    refine ⟨σ, ?_, Ex.rf, h61, h12⟩
    show mX0_payOut_2B (mX0_payOut_2 n) _ _ _ σ = _
    unfold mX0_payOut_2B
    rw [if_pos (by decide)]
  | succ m ih =>
    intro p fuel σ hA k5 c11 hp hf h59 h61 h12
    obtain ⟨n, rfl⟩ : ∃ n, fuel = n + 1 := ⟨fuel - 1, by omega⟩
    have q30 : ¬ (30 : Int32) ≤ Int32.ofNat p := fun q => absurd ((oI_le (j := 30) (by decide) (by omega)).mp q) (by omega)
    have p30 := oI_inb (j := p) (n := 30) (by omega) (by decide)
    have gp := hgo p (by omega)
    have hS : hfN A s k cv go (p + 1) = hfN A s k cv go p + if gtN A s k cv go p = 0 then go p else 0 := rfl
    have go' : ∀ τ, Ex S61 σ τ → (∀ q, q < 30 → q ≠ p → sI τ 61 q = sI σ 61 q ∧ sI τ 62 q = sI σ 62 q) → sI τ 61 p = soV A s k go p → sI τ 62 p = Int32.ofNat (gtN A s k cv go p) → sI τ 53 12 = Int32.ofNat (H + hfN A s k cv go (p + 1)) → ∃ σ', mX0_payOut_2 n c (Int32.ofNat s) (Int32.ofNat (p + 1)) τ = some σ' ∧ Ex S61 σ σ' ∧ (∀ q, q < 30 → sI σ' 61 q = soV A s k go q ∧ sI σ' 62 q = Int32.ofNat (gtN A s k cv go q)) ∧ sI σ' 53 12 = Int32.ofNat (H + hfN A s k cv go 30) := fun τ hE t1 t2 t3 t4 => by
      obtain ⟨σ', z1, z2, z3⟩ := ih (p + 1) n τ (hA.ex2 hE) (by rw [hE.2.1]; exact k5) (by rw [hE.2.2.2.2.2 c 11 (by unfold S61; omega)]; exact c11) (by omega) (by omega) (fun q hq => by rw [hE.2.2.2.2.2 59 q (by unfold S61; omega)]; exact h59 q hq) (fun q hq => by
        by_cases e : q = p
        · rw [e]; exact ⟨t2, t3⟩
        · rw [(t1 q (by omega) e).1, (t1 q (by omega) e).2]; exact h61 q (by omega)) t4
      exact ⟨σ', z1, hE.tr z2, z3⟩
    have eX2 : Ex S61 σ (wI (wI σ 62 p 0) 61 p (-1)) := (Ex.rf.w (S := S61) _ (Or.inr (Or.inl rfl))).w _ (Or.inl rfl)
    have step : mX0_payOut_2 (n + 1) c (Int32.ofNat s) (Int32.ofNat p) σ = mX0_payOut_2B (mX0_payOut_2 n) c (Int32.ofNat s) (Int32.ofNat p) σ := rfl
    rw [step]
    unfold mX0_payOut_2B mX0_payOut_93
    rw [if_neg q30, if_pos p30, oI_cl (j := p) (by omega), oI_s]
    simp only [stp]
    have r59 : sI (wI (wI σ 62 p 0) 61 p (-1)) 59 p = Int32.ofNat (go p) := by rw [sI_wI, if_neg (by omega), sI_wI, if_neg (by omega)]; exact h59 p (by omega)
    have r12 : sI (wI (wI σ 62 p 0) 61 p (-1)) 53 12 = sI σ 53 12 := by rw [sI_wI, if_neg (by omega), sI_wI, if_neg (by omega)]
    rw [r59]
    by_cases c0 : go p = 0
    · have le0 : Int32.ofNat (go p) ≤ 0 := (oI_le (n := 0) gp (by decide)).mpr (by omega)
      have g0 : gtN A s k cv go p = 0 := if_pos c0
      rw [if_pos le0]
      refine go' _ eX2 (fun q _ e => ⟨by rw [sI_wI, if_neg (fun z => e z.2), sI_wI, if_neg (by omega)], by rw [sI_wI, if_neg (by omega), sI_wI, if_neg (fun z => e z.2)]⟩) ?_ ?_ ?_
      · rw [sI_wI, if_pos ⟨rfl, rfl⟩]; exact (if_pos c0).symm
      · rw [sI_wI, if_neg (by omega), sI_wI, if_pos ⟨rfl, rfl⟩, g0]; rfl
      · rw [r12, h12, hS, g0, if_pos rfl, c0, Nat.add_zero]
    · have le0 : ¬ Int32.ofNat (go p) ≤ 0 := fun z => absurd ((oI_le (n := 0) gp (by decide)).mp z) (by omega)
      have hA2 := hA.ex2 eX2
      obtain ⟨k0, -⟩ := hA2.1.fa hs
      have dS : sI (wI (wI σ 62 p 0) 61 p (-1)) (sR (wI (wI σ 62 p 0) 61 p (-1)) 38 s) 6 = A 101 s := (C_day hA2.1 hs (by rw [hks]; decide)).trans (day_n hA2.1.2.2.2.2.2.1 hs).2.symm
      rw [if_neg le0, hA2.2.2, if_pos k0, dS, hA2.2.1.1, C_md hA2.1 (A 101 s) hk, bnd_some]
      have eX3 : Ex S61 σ (wI (wI (wI σ 62 p 0) 61 p (-1)) 61 p (mdV A s k p)) := eX2.w _ (Or.inl rfl)
      have hA3 := hA.ex2 eX3
      have gb := C_gotten hc (cv := cv) (c := c) hk hs (show p < 30 by omega) gp c0 hA3 k5 (by rw [eX3.2.2.2.2.2 c 11 (by unfold S61; omega)]; exact c11) (by rw [sI_wI, if_neg (by omega)]; exact r59) (by rw [sI_wI, if_pos ⟨rfl, rfl⟩])
      rw [show mdR A p (A 101 s) k (cT 4 A) = mdV A s k p from rfl, gb, bnd_some]
      have eX4 : Ex S61 σ (wI (wI (wI (wI σ 62 p 0) 61 p (-1)) 61 p (mdV A s k p)) 62 p (Int32.ofNat (gtN A s k cv go p))) := eX3.w _ (Or.inr (Or.inl rfl))
      have s62 : sI (wI (wI (wI (wI σ 62 p 0) 61 p (-1)) 61 p (mdV A s k p)) 62 p (Int32.ofNat (gtN A s k cv go p))) 62 p = Int32.ofNat (gtN A s k cv go p) := by rw [sI_wI, if_pos ⟨rfl, rfl⟩]
      have s59 : sI (wI (wI (wI (wI σ 62 p 0) 61 p (-1)) 61 p (mdV A s k p)) 62 p (Int32.ofNat (gtN A s k cv go p))) 59 p = Int32.ofNat (go p) := by rw [sI_wI, if_neg (by omega), sI_wI, if_neg (by omega)]; exact r59
      have s12 : sI (wI (wI (wI (wI σ 62 p 0) 61 p (-1)) 61 p (mdV A s k p)) 62 p (Int32.ofNat (gtN A s k cv go p))) 53 12 = Int32.ofNat (H + hfN A s k cv go p) := by rw [sI_wI, if_neg (by omega), sI_wI, if_neg (by omega), r12, h12]
      have fin : ∀ v : Nat, v = (if gtN A s k cv go p = 0 then go p else 0) → ∃ σ', mX0_payOut_2 n c (Int32.ofNat s) (Int32.ofNat (p + 1)) (wI (wI (wI (wI (wI σ 62 p 0) 61 p (-1)) 61 p (mdV A s k p)) 62 p (Int32.ofNat (gtN A s k cv go p))) 53 12 (Int32.ofNat (H + hfN A s k cv go p) + Int32.ofNat v)) = some σ' ∧ Ex S61 σ σ' ∧ (∀ q, q < 30 → sI σ' 61 q = soV A s k go q ∧ sI σ' 62 q = Int32.ofNat (gtN A s k cv go q)) ∧ sI σ' 53 12 = Int32.ofNat (H + hfN A s k cv go 30) := fun v hv => by
        refine go' _ (eX4.w _ (Or.inr (Or.inr ⟨rfl, rfl⟩))) (fun q _ e => ⟨?_, ?_⟩) ?_ ?_ ?_
        · rw [sI_wI, if_neg (by omega), sI_wI, if_neg (by omega), sI_wI, if_neg (fun z => e z.2), sI_wI, if_neg (fun z => e z.2), sI_wI, if_neg (by omega)]
        · rw [sI_wI, if_neg (by omega), sI_wI, if_neg (fun z => e z.2), sI_wI, if_neg (by omega), sI_wI, if_neg (by omega), sI_wI, if_neg (fun z => e z.2)]
        · rw [sI_wI, if_neg (by omega), sI_wI, if_neg (by omega), sI_wI, if_pos ⟨rfl, rfl⟩]; exact (if_neg c0).symm
        · rw [sI_wI, if_neg (by omega)]; exact s62
        · rw [sI_wI, if_pos ⟨rfl, rfl⟩, oI_add, hS, hv, Nat.add_assoc]
      rw [s62, s12, s59]
      by_cases cz : gtN A s k cv go p = 0
      · rw [if_pos (by rw [cz]; rfl)]
        exact fin (go p) (if_pos cz).symm
      · have gle : gtN A s k cv go p ≤ go p := by
          unfold gtN
          rw [if_neg c0]
          by_cases cm : mdV A s k p = -1
          · rw [if_pos cm]
            by_cases cc : clB A s k cv p = true
            · rw [if_pos cc]; exact Nat.le_refl _
            · rw [if_neg cc]; exact Nat.zero_le _
          · rw [if_neg cm]; exact Nat.sub_le _ _
        have nz : ¬ Int32.ofNat (gtN A s k cv go p) = 0 := fun z => cz ((oI_eq (n := 0) (by omega) (by decide)).mp z)
        rw [if_neg nz]
        exact fin 0 (if_neg cz).symm
