/-- what came together when the persons below n had passed on -/
def thN (A : Ab) (s k : Nat) (g : Nat → Nat) (t n : Nat) : Nat := sm (fun o => if deadB A s k o then fromT A s k g o t (cT 4 A) else if o = t then g t else 0) n
def kpN (A : Ab) (s k : Nat) (g : Nat → Nat) (n : Nat) : Nat := sm (fun o => if deadB A s k o then g o - fromN A s k g o (cT 4 A) else 0) n
theorem thN_all {A : Ab} (hB : IB A) (hr : IRow A) {s k : Nat} {g : Nat → Nat} {t : Nat} (ht : t < 30) : thN A s k g t 30 = rnd A s k g t := by
  unfold thN rnd
  rw [← com_from hB hr (Nat.le_refl _)]
  have e : sm (fun o => if deadB A s k o then fromT A s k g o t (cT 4 A) else if o = t then g t else 0) 30 = sm (fun o => (if o = t then (if deadB A s k t then 0 else g t) else 0) + (if deadB A s k o then fromT A s k g o t (cT 4 A) else 0)) 30 := sm_eq 30 (fun o _ => by
    by_cases c : deadB A s k o = true
    · rw [if_pos c, if_pos c]
      by_cases eo : o = t
      · rw [if_pos eo, ← eo, if_pos c, Nat.zero_add]
      · rw [if_neg eo, Nat.zero_add]
    · rw [if_neg c, if_neg c, Nat.add_zero]
      by_cases eo : o = t
      · rw [if_pos eo, if_pos eo, ← eo, if_neg c]
      · rw [if_neg eo, if_neg eo])
  rw [e, sm_add, sm_one, if_pos ht]
theorem kpN_all {A : Ab} (hB : IB A) (hr : IRow A) (hh : IHeir A) {s k : Nat} {g : Nat → Nat} : kpN A s k g 30 = dedN A s k g 30 - pasN A s k g (cT 4 A) := by
  have e : kpN A s k g 30 + pasN A s k g (cT 4 A) = dedN A s k g 30 := by
    unfold kpN dedN
    rw [← pas_from hB hr (Nat.le_refl _), ← sm_add]
    refine sm_eq 30 (fun o ho => ?_)
    by_cases c : deadB A s k o = true
    · rw [if_pos c, if_pos c, if_pos c]
      have := from_le hB hr hh (s := s) (k := k) (g := g) ho
      omega
    · rw [if_neg c, if_neg c, if_neg c]
  omega
theorem from_z {A : Ab} {s k : Nat} {g : Nat → Nat} {o : Nat} (h : g o = 0) {n : Nat} : fromN A s k g o n = 0 ∧ ∀ t, fromT A s k g o t n = 0 := by
  have z : ∀ i, o = ofI A i → vI A s k g i = 0 := fun i e => by
    unfold vI vN
    rw [show (A 99 i).toNatClampNeg = o from e.symm, h, Nat.zero_mul, Nat.zero_div, ite_self]
  refine ⟨sm_z n fun i _ => ?_, fun t => sm_z n fun i _ => ?_⟩
  · by_cases e : o = ofI A i
    · rw [if_pos e, z i e]
    · rw [if_neg e]
  · by_cases e : o = ofI A i
    · rw [if_pos e, z i e, ite_self]
    · rw [if_neg e]
def S141 (b j : Nat) : Prop := b = 141 ∨ (b = 81 ∧ j = 85)
theorem S141_14 : ∀ b j, S141 b j → S14 b j := fun b j h => by unfold S141 at h; unfold S14; omega
theorem M_on {A : Ab} (hB : IB A) (hr : IRow A) (hh : IHeir A) {s k : Nat} {g : Nat → Nat} (hT : sm g 30 < 2147483648) {H : Nat} {fk : Sto → Option Sto} : ∀ m p fuel ρ (f28 : Int32 → Int32 → Sto → Option Sto) (x2 : Int32), RM A ρ → GA A k ρ → p + m = 30 → m < fuel → (∀ q, q < 30 → sI ρ 140 q = Int32.ofNat (g q)) → (∀ t, t < 30 → sI ρ 141 t = Int32.ofNat (thN A s k g t p)) → sI ρ 81 85 = Int32.ofNat (H + kpN A s k g p) → ∃ ρ', mX12_passes_57 f28 fuel (A 101 s) x2 (Int32.ofNat p) ρ = mX12_passes_77 f28 FU (A 101 s) x2 0 ρ' ∧ Ex S141 ρ ρ' ∧ (∀ t, t < 30 → sI ρ' 141 t = Int32.ofNat (thN A s k g t 30)) ∧ sI ρ' 81 85 = Int32.ofNat (H + kpN A s k g 30) := by
  intro m
  induction m with
  | zero =>
    intro p fuel ρ f28 x2 hm hG hp hf h140 h141 h85
    obtain ⟨n, rfl⟩ : ∃ n, fuel = n + 1 := ⟨fuel - 1, by omega⟩
    have e : p = 30 := by omega
    subst e
    refine ⟨ρ, ?_, Ex.rf, h141, h85⟩
    refine Eq.trans (b := mX12_passes_57B f28 (mX12_passes_57 f28 n) (A 101 s) x2 (Int32.ofNat 30) ρ) rfl ?_
    unfold mX12_passes_57B
    rw [if_pos (by decide)]
  | succ m ih =>
    intro p fuel ρ f28 x2 hm hG hp hf h140 h141 h85
    obtain ⟨n, rfl⟩ : ∃ n, fuel = n + 1 := ⟨fuel - 1, by omega⟩
    have hl4 : cT 4 A ≤ 200 := (hB.le (c := 4) (by decide)).1
    have q30 : ¬ (30 : Int32) ≤ Int32.ofNat p := fun q => absurd ((oI_le (j := 30) (by decide) (by omega)).mp q) (by omega)
    have p30 := oI_inb (j := p) (n := 30) (by omega) (by decide)
    have gp : g p < 2147483648 := Nat.lt_of_le_of_lt (sm_ge (f := g) 30 (by omega)) hT
    have tS : ∀ t, thN A s k g t (p + 1) = thN A s k g t p + if deadB A s k p then fromT A s k g p t (cT 4 A) else if p = t then g t else 0 := fun _ => rfl
    have kS : kpN A s k g (p + 1) = kpN A s k g p + if deadB A s k p then g p - fromN A s k g p (cT 4 A) else 0 := rfl
    -- one person's
    have one : ∃ τ, mX12_passesOn (Int32.ofNat p) (A 101 s) ρ = some τ ∧ Ex S141 ρ τ ∧ (∀ t, t < 30 → sI τ 141 t = Int32.ofNat (thN A s k g t (p + 1))) ∧ sI τ 81 85 = Int32.ofNat (H + kpN A s k g (p + 1)) := by
      unfold mX12_passesOn
      simp only [eq_true p30, eq_true (oI_inb (j := p) (n := 31) (by omega) (by decide)), if_true]
      rw [oI_cl (j := p) (by omega), h140 p (by omega)]
      by_cases c0 : g p = 0
      · obtain ⟨z1, z2⟩ := from_z (A := A) (s := s) (k := k) c0 (n := cT 4 A)
        rw [if_pos (by rw [c0]; rfl)]
        refine ⟨ρ, rfl, Ex.rf, fun t ht => ?_, ?_⟩
        · rw [h141 t ht, tS, z2]
          have : (if deadB A s k p then 0 else if p = t then g t else 0) = 0 := by
            by_cases e : p = t
            · rw [if_pos e, ← e, c0, ite_self]
            · rw [if_neg e, ite_self]
          rw [this, Nat.add_zero]
        · rw [h85, kS, z1, c0, Nat.zero_sub, ite_self, Nat.add_zero]
      · have ne0 : ¬ Int32.ofNat (g p) = 0 := fun z => c0 ((oI_eq (n := 0) gp (by decide)).mp z)
        rw [if_neg ne0, M_dead hB hr hG (by omega), bnd_some]
        cases cd : deadB A s k p with
        | false =>
          rw [if_pos (show (if false = true then (1 : Int32) else 0) = 0 from rfl)]
          simp only [stp]
          refine ⟨_, rfl, Ex.rf.w (S := S141) _ (Or.inl rfl), fun t ht => ?_, ?_⟩
          · rw [sI_wI, tS, cd]
            by_cases e : t = p
            · rw [if_pos ⟨rfl, e⟩, h141 p (by omega), oI_add, e]
              show _ = Int32.ofNat (thN A s k g p p + if p = p then g p else 0)
              rw [if_pos rfl]
            · rw [if_neg (fun z => e z.2), h141 t ht]
              show _ = Int32.ofNat (thN A s k g t p + if p = t then g t else 0)
              rw [if_neg (fun z => e z.symm), Nat.add_zero]
          · rw [sI_wI, if_neg (by omega), h85, kS, cd]; rfl
        | true =>
          rw [if_neg (show ¬ (if true = true then (1 : Int32) else 0) = 0 from i10), hG.2.2.1 p (by omega)]
          obtain ⟨f1, f2⟩ := from_ls hB hr (g := g) cd (show p < 30 by omega) (cT 4 A) (Nat.le_refl _)
          have fl1 := from_le hB hr hh (s := s) (k := k) (g := g) (show p < 30 by omega)
          rw [f1] at fl1
          obtain ⟨τ, t1, t2, t3, t4⟩ := M_on_l hB hr (show p < 30 by omega) gp (T := fun t => thN A s k g t p) (H := H + kpN A s k g p) (hrL A k p (cT 4 A)) [] FU ρ rfl (by
            have := offR_le (A := A) (k := k) (p := p + 1) (by omega) (cT 4 A)
            have e : offR A k (cT 4 A) (p + 1) = offR A k (cT 4 A) p + (hrL A k p (cT 4 A)).length := rfl
            show _ < 5000
            omega) hm hG fl1 (h140 p (by omega)) (fun t ht => h141 t ht) h85
          refine ⟨τ, t1, t2, fun t ht => ?_, ?_⟩
          · rw [t3 t ht, tS, cd, if_pos rfl, f2]
          · rw [t4, kS, cd, if_pos rfl, f1, Nat.add_assoc]
    obtain ⟨τ, t1, t2, t3, t4⟩ := one
    have hS14 : Ex S14 ρ τ := t2.mono S141_14
    obtain ⟨ρ', z1, z2, z3⟩ := ih (p + 1) n τ f28 x2 (hS14.rm hm S14_pr) (hG.ex hS14 S14_ga) (by omega) (by omega) (fun q hq => by rw [t2.2.2.2.2.2 140 q (by unfold S141; omega)]; exact h140 q hq) t3 t4
    refine ⟨ρ', ?_, t2.tr z2, z3⟩
    refine Eq.trans (b := mX12_passes_57B f28 (mX12_passes_57 f28 n) (A 101 s) x2 (Int32.ofNat p) ρ) rfl ?_
    unfold mX12_passes_57B
    rw [if_neg q30, t1, bnd_some, oI_s]
    exact z1
theorem M_zero {A : Ab} {s : Nat} {f28 : Int32 → Int32 → Sto → Option Sto} {x2 : Int32} : ∀ m p fuel ρ, p + m = 30 → m < fuel → (∀ t, t < p → sI ρ 141 t = 0) → ∃ ρ', mX12_passes_36 f28 fuel (A 101 s) x2 (Int32.ofNat p) ρ = mX12_passes_57 f28 FU (A 101 s) x2 0 ρ' ∧ Ex (fun b _ => b = 141) ρ ρ' ∧ ∀ t, t < 30 → sI ρ' 141 t = 0 := by
  intro m
  induction m with
  | zero =>
    intro p fuel ρ hp hf h
    obtain ⟨n, rfl⟩ : ∃ n, fuel = n + 1 := ⟨fuel - 1, by omega⟩
    have e : p = 30 := by omega
    subst e
    refine ⟨ρ, ?_, Ex.rf, h⟩
    refine Eq.trans (b := mX12_passes_36B f28 (mX12_passes_36 f28 n) (A 101 s) x2 (Int32.ofNat 30) ρ) rfl ?_
    unfold mX12_passes_36B
    rw [if_pos (by decide)]
  | succ m ih =>
    intro p fuel ρ hp hf h
    obtain ⟨n, rfl⟩ : ∃ n, fuel = n + 1 := ⟨fuel - 1, by omega⟩
    have q30 : ¬ (30 : Int32) ≤ Int32.ofNat p := fun q => absurd ((oI_le (j := 30) (by decide) (by omega)).mp q) (by omega)
    have step : mX12_passes_36 f28 (n + 1) (A 101 s) x2 (Int32.ofNat p) ρ = mX12_passes_36 f28 n (A 101 s) x2 (Int32.ofNat (p + 1)) (wI ρ 141 p 0) := by
      refine Eq.trans (b := mX12_passes_36B f28 (mX12_passes_36 f28 n) (A 101 s) x2 (Int32.ofNat p) ρ) rfl ?_
      unfold mX12_passes_36B
      rw [if_neg q30, if_pos (oI_inb (j := p) (n := 30) (by omega) (by decide)), oI_cl (j := p) (by omega), oI_s]
    obtain ⟨ρ', z1, z2, z3⟩ := ih (p + 1) n (wI ρ 141 p 0) (by omega) (by omega) (fun t ht => by
      rw [sI_wI]
      by_cases e : t = p
      · rw [if_pos ⟨rfl, e⟩]
      · rw [if_neg (fun z => e z.2)]; exact h t (by omega))
    exact ⟨ρ', step.trans z1, (Ex.rf.w (S := fun b _ => b = 141) _ rfl).tr z2, z3⟩
theorem M_copy {A : Ab} {s : Nat} {f28 : Int32 → Int32 → Sto → Option Sto} {x2 : Int32} {v : Nat → Int32} : ∀ m p fuel ρ, p + m = 30 → m < fuel → (∀ t, t < 30 → sI ρ 141 t = v t) → (∀ t, t < p → sI ρ 140 t = v t) → ∃ ρ', mX12_passes_77 f28 fuel (A 101 s) x2 (Int32.ofNat p) ρ = f28 (A 101 s) (x2 + 1) ρ' ∧ Ex (fun b _ => b = 140) ρ ρ' ∧ ∀ t, t < 30 → sI ρ' 140 t = v t := by
  intro m
  induction m with
  | zero =>
    intro p fuel ρ hp hf h141 h
    obtain ⟨n, rfl⟩ : ∃ n, fuel = n + 1 := ⟨fuel - 1, by omega⟩
    have e : p = 30 := by omega
    subst e
    refine ⟨ρ, ?_, Ex.rf, h⟩
    refine Eq.trans (b := mX12_passes_77B f28 (mX12_passes_77 f28 n) (A 101 s) x2 (Int32.ofNat 30) ρ) rfl ?_
    unfold mX12_passes_77B
    rw [if_pos (by decide)]
  | succ m ih =>
    intro p fuel ρ hp hf h141 h
    obtain ⟨n, rfl⟩ : ∃ n, fuel = n + 1 := ⟨fuel - 1, by omega⟩
    have q30 : ¬ (30 : Int32) ≤ Int32.ofNat p := fun q => absurd ((oI_le (j := 30) (by decide) (by omega)).mp q) (by omega)
    have step : mX12_passes_77 f28 (n + 1) (A 101 s) x2 (Int32.ofNat p) ρ = mX12_passes_77 f28 n (A 101 s) x2 (Int32.ofNat (p + 1)) (wI ρ 140 p (v p)) := by
      refine Eq.trans (b := mX12_passes_77B f28 (mX12_passes_77 f28 n) (A 101 s) x2 (Int32.ofNat p) ρ) rfl ?_
      unfold mX12_passes_77B
      rw [if_neg q30, if_pos (oI_inb (j := p) (n := 30) (by omega) (by decide)), oI_cl (j := p) (by omega), h141 p (by omega), oI_s]
    obtain ⟨ρ', z1, z2, z3⟩ := ih (p + 1) n (wI ρ 140 p (v p)) (by omega) (by omega) (fun t ht => by rw [sI_wI, if_neg (by omega)]; exact h141 t ht) (fun t ht => by
      rw [sI_wI]
      by_cases e : t = p
      · rw [if_pos ⟨rfl, e⟩, e]
      · rw [if_neg (fun z => e z.2)]; exact h t (by omega))
    exact ⟨ρ', step.trans z1, (Ex.rf.w (S := fun b _ => b = 140) _ rfl).tr z2, z3⟩
theorem M_fin {A : Ab} (hB : IB A) (hr : IRow A) {s k : Nat} {g : Nat → Nat} {H : Nat} : ∀ m p fuel ρ, GA A k ρ → p + m = 30 → m < fuel → (∀ q, q < 30 → sI ρ 140 q = Int32.ofNat (g q)) → (∀ q, q < 30 → sI ρ 137 q = if q < p then Int32.ofNat (if deadB A s k q then 0 else g q) else 0) → sI ρ 81 85 = Int32.ofNat (H + dedN A s k g p) → ∃ ρ', mX12_passes_109 fuel (A 101 s) (Int32.ofNat p) ρ = some ρ' ∧ Ex (fun b j => b = 137 ∨ (b = 81 ∧ j = 85)) ρ ρ' ∧ (∀ q, q < 30 → sI ρ' 137 q = Int32.ofNat (if deadB A s k q then 0 else g q)) ∧ sI ρ' 81 85 = Int32.ofNat (H + dedN A s k g 30) := by
  intro m
  induction m with
  | zero =>
    intro p fuel ρ hG hp hf h140 h137 h85
    obtain ⟨n, rfl⟩ : ∃ n, fuel = n + 1 := ⟨fuel - 1, by omega⟩
    have e : p = 30 := by omega
    subst e
    refine ⟨ρ, ?_, Ex.rf, fun q hq => by rw [h137 q hq, if_pos hq], h85⟩
    show mX12_passes_109B (mX12_passes_109 n) _ _ ρ = _
    unfold mX12_passes_109B
    rw [if_pos (by decide)]
  | succ m ih =>
    intro p fuel ρ hG hp hf h140 h137 h85
    obtain ⟨n, rfl⟩ : ∃ n, fuel = n + 1 := ⟨fuel - 1, by omega⟩
    have q30 : ¬ (30 : Int32) ≤ Int32.ofNat p := fun q => absurd ((oI_le (j := 30) (by decide) (by omega)).mp q) (by omega)
    have p30 := oI_inb (j := p) (n := 30) (by omega) (by decide)
    have hded : dedN A s k g (p + 1) = dedN A s k g p + if deadB A s k p then g p else 0 := rfl
    have step : mX12_passes_109 (n + 1) (A 101 s) (Int32.ofNat p) ρ = mX12_passes_109B (mX12_passes_109 n) (A 101 s) (Int32.ofNat p) ρ := rfl
    rw [step]
    unfold mX12_passes_109B
    rw [if_neg q30, M_dead hB hr hG (by omega), bnd_some]
    cases cd : deadB A s k p with
    | false =>
      rw [if_pos (show (if false = true then (1 : Int32) else 0) = 0 from rfl), if_pos p30, oI_cl (j := p) (by omega), h140 p (by omega), oI_s]
      simp only [stp]
      have eX : Ex (fun b j => b = 137 ∨ (b = 81 ∧ j = 85)) ρ (wI ρ 137 p (Int32.ofNat (g p))) := Ex.rf.w _ (Or.inl rfl)
      obtain ⟨ρ', z1, z2, z3⟩ := ih (p + 1) n _ (hG.ex eX (fun b j z => by omega)) (by omega) (by omega) (fun q hq => by rw [sI_wI, if_neg (by omega)]; exact h140 q hq) (fun q hq => by
        rw [sI_wI]
        by_cases e : q = p
        · subst e; rw [if_pos ⟨rfl, rfl⟩, if_pos (show q < q + 1 by omega), cd]; rfl
        · rw [if_neg (fun z => e z.2), h137 q hq]
          by_cases c : q < p
          · rw [if_pos c, if_pos (show q < p + 1 by omega)]
          · rw [if_neg c, if_neg (show ¬ q < p + 1 by omega)]) (by rw [sI_wI, if_neg (by omega), hded, cd]; exact h85)
      exact ⟨ρ', z1, eX.tr z2, z3⟩
    | true =>
      rw [if_neg (show ¬ (if true = true then (1 : Int32) else 0) = 0 from i10), if_pos p30, oI_cl (j := p) (by omega), h140 p (by omega), h85, oI_add, oI_s]
      simp only [stp]
      have eX : Ex (fun b j => b = 137 ∨ (b = 81 ∧ j = 85)) ρ (wI ρ 81 85 (Int32.ofNat (H + dedN A s k g p + g p))) := Ex.rf.w _ (Or.inr ⟨rfl, rfl⟩)
      obtain ⟨ρ', z1, z2, z3⟩ := ih (p + 1) n _ (hG.ex eX (fun b j z => by omega)) (by omega) (by omega) (fun q hq => by rw [sI_wI, if_neg (by omega)]; exact h140 q hq) (fun q hq => by
        rw [sI_wI, if_neg (by omega), h137 q hq]
        by_cases e : q = p
        · subst e; rw [if_neg (by omega), if_pos (show q < q + 1 by omega), cd]; rfl
        · by_cases c : q < p
          · rw [if_pos c, if_pos (show q < p + 1 by omega)]
          · rw [if_neg c, if_neg (show ¬ q < p + 1 by omega)]) (by rw [sI_wI, if_pos ⟨rfl, rfl⟩, hded, cd, if_pos rfl, Nat.add_assoc])
      exact ⟨ρ', z1, eX.tr z2, z3⟩
def S137 (b j : Nat) : Prop := b = 137 ∨ b = 140 ∨ b = 141 ∨ (b = 81 ∧ j = 85)
theorem S137_pr : ∀ b j, S137 b j → pr b j = false := fun b j h => by
  rcases h with rfl | rfl | rfl | ⟨rfl, rfl⟩
  · unfold pr; rfl
  · unfold pr; rfl
  · unfold pr; rfl
  · rfl
theorem M_rounds {A : Ab} (hB : IB A) (hr : IRow A) (hh : IHeir A) {s k : Nat} {g : Nat → Nat} (hT : sm g 30 < 2147483648) : ∀ m r fuel ρ, RM A ρ → GA A k ρ → r + m = 8 → m < fuel → (∀ q, q < 30 → sI ρ 140 q = Int32.ofNat (itG A s k g r q)) → (∀ q, q < 30 → sI ρ 137 q = 0) → sI ρ 81 85 = Int32.ofNat (itH A s k g 0 r) → ∃ ρ', mX12_passes_28 fuel (A 101 s) (Int32.ofNat r) ρ = some ρ' ∧ Ex S137 ρ ρ' ∧ (∀ q, q < 30 → sI ρ' 137 q = Int32.ofNat (goN A s k g q)) ∧ sI ρ' 81 85 = Int32.ofNat (heN A s k g) := by
  intro m
  induction m with
  | zero =>
    intro r fuel ρ hm hG hr0 hf h140 h137 h85
    obtain ⟨n, rfl⟩ : ∃ n, fuel = n + 1 := ⟨fuel - 1, by omega⟩
    have e : r = 8 := by omega
    subst e
    have step : mX12_passes_28 (n + 1) (A 101 s) (Int32.ofNat 8) ρ = mX12_passes_109 FU (A 101 s) 0 ρ := by
      refine Eq.trans (b := mX12_passes_28B (mX12_passes_28 n) (A 101 s) (Int32.ofNat 8) ρ) rfl ?_
      unfold mX12_passes_28B
      rw [if_pos (by decide)]
    rw [step]
    obtain ⟨ρ', z1, z2, z3⟩ := M_fin hB hr (g := itG A s k g 8) (H := itH A s k g 0 8) 30 0 FU ρ hG rfl (show 30 < 5000 by omega) h140 (fun q hq => by rw [if_neg (by omega)]; exact h137 q hq) h85
    exact ⟨ρ', z1, z2.mono (fun b j z => by unfold S137; omega), z3⟩
  | succ m ih =>
    intro r fuel ρ hm hG hr0 hf h140 h137 h85
    obtain ⟨n, rfl⟩ : ∃ n, fuel = n + 1 := ⟨fuel - 1, by omega⟩
    have q8 : ¬ (8 : Int32) ≤ Int32.ofNat r := fun q => absurd ((oI_le (j := 8) (by decide) (by omega)).mp q) (by omega)
    have hTr : sm (itG A s k g r) 30 < 2147483648 := Nat.lt_of_le_of_lt (itG_le hB hr hh r) hT
    have step : mX12_passes_28 (n + 1) (A 101 s) (Int32.ofNat r) ρ = mX12_passes_36 (mX12_passes_28 n) FU (A 101 s) (Int32.ofNat r) 0 ρ := by
      refine Eq.trans (b := mX12_passes_28B (mX12_passes_28 n) (A 101 s) (Int32.ofNat r) ρ) rfl ?_
      unfold mX12_passes_28B
      rw [if_neg q8]
    have i41 : ∀ {a b : Sto}, Ex (fun b _ => b = 141) a b → Ex S14 a b := fun h => h.mono (fun b j z => Or.inr (Or.inl z))
    have i40 : ∀ {a b : Sto}, Ex (fun b _ => b = 140) a b → Ex S14 a b := fun h => h.mono (fun b j z => Or.inl z)
    have i14 : ∀ {a b : Sto}, Ex S14 a b → Ex S137 a b := fun h => h.mono (fun b j z => Or.inr z)
    obtain ⟨ρ1, a1, a2, a3⟩ := M_zero (A := A) (s := s) (f28 := mX12_passes_28 n) (x2 := Int32.ofNat r) 30 0 FU ρ rfl (show 30 < 5000 by omega) (fun t ht => by omega)
    have e1 := i41 a2
    obtain ⟨ρ2, b1, b2, b3, b4⟩ := M_on hB hr hh hTr (H := itH A s k g 0 r) (fk := some) 30 0 FU ρ1 (mX12_passes_28 n) (Int32.ofNat r) (e1.rm hm S14_pr) (hG.ex e1 S14_ga) rfl (show 30 < 5000 by omega) (fun q hq => by rw [a2.2.2.2.2.2 140 q (show ¬ 140 = 141 by decide)]; exact h140 q hq) (fun t ht => by rw [a3 t ht]; rfl) (by rw [a2.2.2.2.2.2 81 85 (show ¬ 81 = 141 by decide)]; exact h85)
    have e2 : Ex S14 ρ ρ2 := e1.tr (b2.mono S141_14)
    obtain ⟨ρ3, c1, c2, c3⟩ := M_copy (A := A) (s := s) (f28 := mX12_passes_28 n) (x2 := Int32.ofNat r) (v := fun t => Int32.ofNat (itG A s k g (r + 1) t)) 30 0 FU ρ2 rfl (show 30 < 5000 by omega) (fun t ht => by rw [b3 t ht, thN_all hB hr ht]; rfl) (fun t ht => by omega)
    have e3 : Ex S14 ρ ρ3 := e2.tr (i40 c2)
    obtain ⟨ρ', z1, z2, z3⟩ := ih (r + 1) n ρ3 (e3.rm hm S14_pr) (hG.ex e3 S14_ga) (by omega) (by omega) c3 (fun q hq => by rw [e3.2.2.2.2.2 137 q (by unfold S14; omega)]; exact h137 q hq) (by rw [c2.2.2.2.2.2 81 85 (show ¬ 81 = 140 by decide), b4, kpN_all hB hr hh]; rfl)
    rw [oI_s] at c1
    exact ⟨ρ', step.trans (a1.trans (b1.trans (c1.trans z1))), (i14 e3).tr z2, z3⟩
theorem M_pass0 {A : Ab} {s : Nat} {v : Nat → Int32} : ∀ m p fuel ρ, p + m = 30 → m < fuel → (∀ t, t < 30 → sI ρ 135 t = v t) → (∀ t, t < p → sI ρ 140 t = v t) → ∃ ρ', mX12_passes_2 fuel (A 101 s) (Int32.ofNat p) ρ = mX12_passes_28 FU (A 101 s) 0 ρ' ∧ Ex (fun b _ => b = 140) ρ ρ' ∧ ∀ t, t < 30 → sI ρ' 140 t = v t := by
  intro m
  induction m with
  | zero =>
    intro p fuel ρ hp hf h135 h
    obtain ⟨n, rfl⟩ : ∃ n, fuel = n + 1 := ⟨fuel - 1, by omega⟩
    have e : p = 30 := by omega
    subst e
    refine ⟨ρ, ?_, Ex.rf, h⟩
    refine Eq.trans (b := mX12_passes_2B (mX12_passes_2 n) (A 101 s) (Int32.ofNat 30) ρ) rfl ?_
    unfold mX12_passes_2B
    rw [if_pos (by decide)]
  | succ m ih =>
    intro p fuel ρ hp hf h135 h
    obtain ⟨n, rfl⟩ : ∃ n, fuel = n + 1 := ⟨fuel - 1, by omega⟩
    have q30 : ¬ (30 : Int32) ≤ Int32.ofNat p := fun q => absurd ((oI_le (j := 30) (by decide) (by omega)).mp q) (by omega)
    have step : mX12_passes_2 (n + 1) (A 101 s) (Int32.ofNat p) ρ = mX12_passes_2 n (A 101 s) (Int32.ofNat (p + 1)) (wI ρ 140 p (v p)) := by
      refine Eq.trans (b := mX12_passes_2B (mX12_passes_2 n) (A 101 s) (Int32.ofNat p) ρ) rfl ?_
      unfold mX12_passes_2B
      rw [if_neg q30, if_pos (oI_inb (j := p) (n := 30) (by omega) (by decide)), oI_cl (j := p) (by omega), h135 p (by omega), oI_s]
    obtain ⟨ρ', z1, z2, z3⟩ := ih (p + 1) n (wI ρ 140 p (v p)) (by omega) (by omega) (fun t ht => by rw [sI_wI, if_neg (by omega)]; exact h135 t ht) (fun t ht => by
      rw [sI_wI]
      by_cases e : t = p
      · rw [if_pos ⟨rfl, e⟩, e]
      · rw [if_neg (fun z => e z.2)]; exact h t (by omega))
    exact ⟨ρ', step.trans z1, (Ex.rf.w (S := fun b _ => b = 140) _ rfl).tr z2, z3⟩
theorem M_pass {A : Ab} (hB : IB A) (hr : IRow A) (hh : IHeir A) {s k : Nat} {g : Nat → Nat} (hT : sm g 30 < 2147483648) {ρ : Sto} (hm : RM A ρ) (hG : GA A k ρ) (h135 : ∀ q, q < 30 → sI ρ 135 q = Int32.ofNat (g q)) (h137 : ∀ q, q < 30 → sI ρ 137 q = 0) (h85 : sI ρ 81 85 = 0) : ∃ ρ', mX12_passes (A 101 s) ρ = some ρ' ∧ Ex S137 ρ ρ' ∧ (∀ q, q < 30 → sI ρ' 137 q = Int32.ofNat (goN A s k g q)) ∧ sI ρ' 81 85 = Int32.ofNat (heN A s k g) := by
  obtain ⟨ρ1, a1, a2, a3⟩ := M_pass0 (A := A) (s := s) (v := fun t => Int32.ofNat (g t)) 30 0 FU ρ rfl (show 30 < 5000 by omega) h135 (fun t ht => by omega)
  have e1 : Ex S137 ρ ρ1 := a2.mono (fun b j z => Or.inr (Or.inl z))
  have e2 : Ex S14 ρ ρ1 := a2.mono (fun b j z => Or.inl z)
  obtain ⟨ρ', z1, z2, z3⟩ := M_rounds hB hr hh hT 8 0 FU ρ1 (e2.rm hm S14_pr) (hG.ex e2 S14_ga) rfl (show 8 < 5000 by omega) a3 (fun q hq => by rw [a2.2.2.2.2.2 137 q (show ¬ 137 = 140 by decide)]; exact h137 q hq) (by rw [a2.2.2.2.2.2 81 85 (show ¬ 81 = 140 by decide)]; exact h85)
  exact ⟨ρ', a1.trans z1, e1.tr z2, z3⟩
