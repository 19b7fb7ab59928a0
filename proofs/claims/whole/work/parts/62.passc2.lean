theorem ded_congr {A : Ab} {s k : Nat} {g g' : Nat → Nat} (h : ∀ p, p < 30 → g p = g' p) : dedN A s k g 30 = dedN A s k g' 30 := sm_eq 30 (fun p hp => by rw [h p hp])
theorem C_last {A : Ab} {s k : Nat} (hs : s < cT 4 A) (hks : A 97 s = 2) {g : Nat → Nat} {H : Nat} : ∀ m p fuel σ, AC A s k σ → p + m = 30 → m < fuel → (∀ q, q < 30 → sI σ 59 q = Int32.ofNat (if q < p then (if deadB A s k q then 0 else g q) else g q)) → sI σ 53 12 = Int32.ofNat (H + dedN A s k g p) → ∃ σ', mX0_passOn_83 fuel (Int32.ofNat p) σ = some σ' ∧ Ex S59 σ σ' ∧ (∀ q, q < 30 → sI σ' 59 q = Int32.ofNat (if deadB A s k q then 0 else g q)) ∧ sI σ' 53 12 = Int32.ofNat (H + dedN A s k g 30) := by
  intro m
  induction m with
  | zero =>
    intro p fuel σ hA hp hf h59 h12
    obtain ⟨n, rfl⟩ : ∃ n, fuel = n + 1 := ⟨fuel - 1, by omega⟩
    have e : p = 30 := by omega
    subst e
    refine ⟨σ, ?_, Ex.rf, fun q hq => by rw [h59 q hq, if_pos hq], h12⟩
    show mX0_passOn_83B (mX0_passOn_83 n) _ σ = _
    unfold mX0_passOn_83B
    rw [if_pos (by decide)]
  | succ m ih =>
    intro p fuel σ hA hp hf h59 h12
    obtain ⟨n, rfl⟩ : ∃ n, fuel = n + 1 := ⟨fuel - 1, by omega⟩
    have q30 : ¬ (30 : Int32) ≤ Int32.ofNat p := fun q => absurd ((oI_le (j := 30) (by decide) (by omega)).mp q) (by omega)
    have gp := h59 p (by omega)
    rw [if_neg (by omega)] at gp
    have hded : dedN A s k g (p + 1) = dedN A s k g p + if deadB A s k p then g p else 0 := rfl
    have step : mX0_passOn_83 (n + 1) (Int32.ofNat p) σ = mX0_passOn_83B (mX0_passOn_83 n) (Int32.ofNat p) σ := rfl
    rw [step]
    unfold mX0_passOn_83B
    rw [if_neg q30, C_dead hA hs hks (by omega), bnd_some]
    cases cd : deadB A s k p with
    | false =>
      rw [if_pos (show (if false = true then (1 : Int32) else 0) = 0 from rfl), oI_s]
      exact ih (p + 1) n σ hA (by omega) (by omega) (fun q hq => by
        rw [h59 q hq]
        by_cases e : q = p
        · subst e; rw [if_neg (by omega), if_pos (show q < q + 1 by omega), cd]; rfl
        · by_cases c : q < p
          · rw [if_pos c, if_pos (show q < p + 1 by omega)]
          · rw [if_neg c, if_neg (show ¬ q < p + 1 by omega)]) (by rw [hded, cd]; exact h12)
    | true =>
      rw [if_neg (show ¬ (if true = true then (1 : Int32) else 0) = 0 from i10), if_pos (oI_inb (j := p) (n := 30) (by omega) (by decide)), oI_cl (j := p) (by omega), oI_s]
      simp only [stp]
      have eX : Ex S59 σ (wI (wI σ 53 12 (sI σ 53 12 + sI σ 59 p)) 59 p 0) := (Ex.rf.w (S := S59) _ (Or.inr (Or.inr ⟨rfl, rfl⟩))).w _ (Or.inl rfl)
      obtain ⟨σ', z1, z2, z3⟩ := ih (p + 1) n _ (hA.ex eX) (by omega) (by omega) (fun q hq => by
        rw [sI_wI]
        by_cases e : q = p
        · subst e; rw [if_pos ⟨rfl, rfl⟩, if_pos (show q < q + 1 by omega), cd]; rfl
        · rw [if_neg (fun z => e z.2), sI_wI, if_neg (by omega), h59 q hq]
          by_cases c : q < p
          · rw [if_pos c, if_pos (show q < p + 1 by omega)]
          · rw [if_neg c, if_neg (show ¬ q < p + 1 by omega)]) (by rw [sI_wI, if_neg (by omega), sI_wI, if_pos ⟨rfl, rfl⟩, h12, gp, oI_add, hded, cd, if_pos rfl, Nat.add_assoc])
      exact ⟨σ', z1, eX.tr z2, z3⟩
/-- what is each one's behind all rounds, and what is held -/
def goN (A : Ab) (s k : Nat) (g : Nat → Nat) (p : Nat) : Nat := if deadB A s k p then 0 else itG A s k g 8 p
def heN (A : Ab) (s k : Nat) (g : Nat → Nat) : Nat := itH A s k g 0 8 + dedN A s k (itG A s k g 8) 30
theorem C_rounds {A : Ab} (hh : IHeir A) {s k : Nat} (hk : k ≤ 999) (hs : s < cT 4 A) (hks : A 97 s = 2) {g : Nat → Nat} (hT : sm g 30 < 2147483648) : ∀ m r fuel σ, AC A s k σ → r + m = 8 → m < fuel → (∀ q, q < 30 → sI σ 59 q = Int32.ofNat (itG A s k g r q)) → sI σ 53 12 = Int32.ofNat (itH A s k g 0 r) → ∃ σ', mX0_passOn_60 fuel (fl (anyB A s k (itG A s k g r) 30)) (Int32.ofNat r) σ = some σ' ∧ Ex S59 σ σ' ∧ (∀ q, q < 30 → sI σ' 59 q = Int32.ofNat (goN A s k g q)) ∧ sI σ' 53 12 = Int32.ofNat (heN A s k g) := by
  intro m
  induction m with
  | zero =>
    intro r fuel σ hA hr0 hf h59 h12
    obtain ⟨n, rfl⟩ : ∃ n, fuel = n + 1 := ⟨fuel - 1, by omega⟩
    have e : r = 8 := by omega
    subst e
    have step : mX0_passOn_60 (n + 1) (fl (anyB A s k (itG A s k g 8) 30)) (Int32.ofNat 8) σ = mX0_passOn_83 FU 0 σ := by
      refine Eq.trans (b := mX0_passOn_60B (mX0_passOn_60 n) (fl (anyB A s k (itG A s k g 8) 30)) (Int32.ofNat 8) σ) rfl ?_
      unfold mX0_passOn_60B
      rw [if_pos (by decide)]
    rw [step]
    exact C_last hs hks (g := itG A s k g 8) (H := itH A s k g 0 8) 30 0 FU σ hA rfl (show 30 < 5000 by omega) (fun q hq => by rw [if_neg (by omega)]; exact h59 q hq) h12
  | succ m ih =>
    intro r fuel σ hA hr0 hf h59 h12
    obtain ⟨n, rfl⟩ : ∃ n, fuel = n + 1 := ⟨fuel - 1, by omega⟩
    have hB := hA.1.1
    have hr := hA.1.2.2.2.2.2.1
    have q8 : ¬ (8 : Int32) ≤ Int32.ofNat r := fun q => absurd ((oI_le (j := 8) (by decide) (by omega)).mp q) (by omega)
    have step : mX0_passOn_60 (n + 1) (fl (anyB A s k (itG A s k g r) 30)) (Int32.ofNat r) σ = mX0_passOn_60B (mX0_passOn_60 n) (fl (anyB A s k (itG A s k g r) 30)) (Int32.ofNat r) σ := rfl
    rw [step]
    unfold mX0_passOn_60B
    rw [if_neg q8]
    cases ca : anyB A s k (itG A s k g r) 30 with
    | false =>
      rw [if_pos (show fl false = 0 from rfl)]
      have st : still A s k (itG A s k g r) := (anyB_iff 30).mp ca
      obtain ⟨i1, i2⟩ := it_still hB hr (H := 0) st (m + 1)
      rw [hr0] at i1 i2
      obtain ⟨σ', z1, z2, z3, z4⟩ := C_last hs hks (g := itG A s k g r) (H := itH A s k g 0 r) 30 0 FU σ hA rfl (show 30 < 5000 by omega) (fun q hq => by rw [if_neg (by omega)]; exact h59 q hq) h12
      refine ⟨σ', z1, z2, fun q hq => ?_, ?_⟩
      · rw [z3 q hq]; unfold goN; rw [i1 q hq]
      · rw [z4]; unfold heN; rw [i2, ded_congr i1]
    | true =>
      rw [if_neg (show ¬ fl true = 0 from i10)]
      have hTr : sm (itG A s k g r) 30 < 2147483648 := Nat.lt_of_le_of_lt (itG_le hB hr hh r) hT
      obtain ⟨σ1, a1, a2, a3, a4⟩ := C_round hh hk hs hks hTr hA h59 h12
      rw [a1, bd2_some, oI_s]
      obtain ⟨σ', z1, z2, z3⟩ := ih (r + 1) n σ1 (hA.ex a2) (by omega) (by omega) a3 a4
      exact ⟨σ', z1, a2.tr z2, z3⟩
theorem C_pass0 {A : Ab} (hh : IHeir A) {s k : Nat} (hk : k ≤ 999) (hs : s < cT 4 A) (hks : A 97 s = 2) {g : Nat → Nat} (hT : sm g 30 < 2147483648) : ∀ m p fuel σ, AC A s k σ → p + m = 30 → m < fuel → (∀ q, q < 30 → sI σ 57 q = Int32.ofNat (g q)) → (∀ q, q < p → sI σ 59 q = Int32.ofNat (g q)) → sI σ 53 12 = 0 → ∃ σ', mX0_passOn_9 fuel (fl (anyB A s k g p)) (Int32.ofNat p) σ = some σ' ∧ Ex S59 σ σ' ∧ (∀ q, q < 30 → sI σ' 59 q = Int32.ofNat (goN A s k g q)) ∧ sI σ' 53 12 = Int32.ofNat (heN A s k g) := by
  intro m
  induction m with
  | zero =>
    intro p fuel σ hA hp hf h57 h59 h12
    obtain ⟨n, rfl⟩ : ∃ n, fuel = n + 1 := ⟨fuel - 1, by omega⟩
    have e : p = 30 := by omega
    subst e
    have step : mX0_passOn_9 (n + 1) (fl (anyB A s k g 30)) (Int32.ofNat 30) σ = mX0_passOn_60 FU (fl (anyB A s k g 30)) 0 σ := by
      refine Eq.trans (b := mX0_passOn_9B (mX0_passOn_9 n) (fl (anyB A s k g 30)) (Int32.ofNat 30) σ) rfl ?_
      unfold mX0_passOn_9B
      rw [if_pos (by decide)]
    rw [step]
    exact C_rounds hh hk hs hks hT 8 0 FU σ hA rfl (show 8 < 5000 by omega) h59 h12
  | succ m ih =>
    intro p fuel σ hA hp hf h57 h59 h12
    obtain ⟨n, rfl⟩ : ∃ n, fuel = n + 1 := ⟨fuel - 1, by omega⟩
    have q30 : ¬ (30 : Int32) ≤ Int32.ofNat p := fun q => absurd ((oI_le (j := 30) (by decide) (by omega)).mp q) (by omega)
    have hany : anyB A s k g (p + 1) = (anyB A s k g p || (deadB A s k p && decide (0 < g p))) := rfl
    have gp : g p < 2147483648 := Nat.lt_of_le_of_lt (sm_ge (f := g) 30 (by omega)) hT
    have eX : Ex S59 σ (wI σ 59 p (Int32.ofNat (g p))) := Ex.rf.w _ (Or.inl rfl)
    have hA1 := hA.ex eX
    have go : ∀ x : Int32, x = fl (anyB A s k g (p + 1)) → ∃ σ', mX0_passOn_9 n x (Int32.ofNat (p + 1)) (wI σ 59 p (Int32.ofNat (g p))) = some σ' ∧ Ex S59 σ σ' ∧ (∀ q, q < 30 → sI σ' 59 q = Int32.ofNat (goN A s k g q)) ∧ sI σ' 53 12 = Int32.ofNat (heN A s k g) := fun x hx => by
      subst hx
      obtain ⟨σ', z1, z2, z3⟩ := ih (p + 1) n _ hA1 (by omega) (by omega) (fun q hq => by rw [sI_wI, if_neg (by omega)]; exact h57 q hq) (fun q hq => by
        rw [sI_wI]
        by_cases e : q = p
        · rw [if_pos ⟨rfl, e⟩, e]
        · rw [if_neg (fun z => e z.2)]; exact h59 q (by omega)) (by rw [sI_wI, if_neg (by omega)]; exact h12)
      exact ⟨σ', z1, eX.tr z2, z3⟩
    have step : mX0_passOn_9 (n + 1) (fl (anyB A s k g p)) (Int32.ofNat p) σ = mX0_passOn_9B (mX0_passOn_9 n) (fl (anyB A s k g p)) (Int32.ofNat p) σ := rfl
    rw [step]
    unfold mX0_passOn_9B
    rw [if_neg q30, if_pos (oI_inb (j := p) (n := 30) (by omega) (by decide)), oI_cl (j := p) (by omega), h57 p (by omega), oI_s]
    simp only [stp]
    have r59 : sI (wI σ 59 p (Int32.ofNat (g p))) 59 p = Int32.ofNat (g p) := by rw [sI_wI, if_pos ⟨rfl, rfl⟩]
    rw [r59, C_dead hA1 hs hks (by omega), bnd_some, fl_or0, fl_or1]
    by_cases c0 : g p = 0
    · have le0 : Int32.ofNat (g p) ≤ 0 := (oI_le (n := 0) gp (by decide)).mpr (by omega)
      rw [if_pos le0]
      refine go _ ?_
      rw [hany, c0, show decide (0 < 0) = false from rfl, Bool.and_false, Bool.or_false]
    · rw [if_neg (fun z : Int32.ofNat (g p) ≤ 0 => absurd ((oI_le (n := 0) gp (by decide)).mp z) (by omega))]
      cases cd : deadB A s k p with
      | false =>
        rw [if_pos (show (if false = true then (1 : Int32) else 0) = 0 from rfl)]
        refine go _ ?_
        rw [hany, cd, Bool.false_and, Bool.or_false]
      | true =>
        rw [if_neg (show ¬ (if true = true then (1 : Int32) else 0) = 0 from i10)]
        refine go _ ?_
        rw [hany, cd, decide_eq_true (by omega : 0 < g p), Bool.and_self, Bool.or_true]
        rfl
theorem C_pass {A : Ab} (hh : IHeir A) {s k : Nat} (hk : k ≤ 999) (hs : s < cT 4 A) (hks : A 97 s = 2) {g : Nat → Nat} (hT : sm g 30 < 2147483648) {σ : Sto} (hA : AC A s k σ) (h57 : ∀ q, q < 30 → sI σ 57 q = Int32.ofNat (g q)) : ∃ σ', mX0_passOn σ = some σ' ∧ Ex S59 σ σ' ∧ (∀ q, q < 30 → sI σ' 59 q = Int32.ofNat (goN A s k g q)) ∧ sI σ' 53 12 = Int32.ofNat (heN A s k g) := by
  have eX : Ex S59 σ (wI σ 53 12 0) := Ex.rf.w _ (Or.inr (Or.inr ⟨rfl, rfl⟩))
  obtain ⟨σ', z1, z2, z3⟩ := C_pass0 hh hk hs hks hT 30 0 FU (wI σ 53 12 0) (hA.ex eX) rfl (show 30 < 5000 by omega) (fun q hq => by rw [sI_wI, if_neg (by omega)]; exact h57 q hq) (fun q hq => by omega) (by rw [sI_wI, if_pos ⟨rfl, rfl⟩])
  exact ⟨σ', z1, eX.tr z2, z3⟩
