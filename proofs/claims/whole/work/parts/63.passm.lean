/-! the reference passes on -/
def S14 (b j : Nat) : Prop := b = 140 ∨ b = 141 ∨ (b = 81 ∧ j = 85)
theorem S14_pr : ∀ b j, S14 b j → pr b j = false := fun b j h => by
  rcases h with rfl | rfl | ⟨rfl, rfl⟩
  · unfold pr; rfl
  · unfold pr; rfl
  · rfl
theorem GA.ex {A : Ab} {k : Nat} {S : Nat → Nat → Prop} {ρ ρ' : Sto} (h : GA A k ρ) (hE : Ex S ρ ρ') (hS : ∀ b j, S b j → b ≠ 129 ∧ b ≠ 130 ∧ b ≠ 131 ∧ b ≠ 132 ∧ ¬ (b = 81 ∧ j = 72)) : GA A k ρ' := by
  obtain ⟨h1, h2, h3, h4⟩ := h
  have rd := hE.2.2.2.2.2
  refine ⟨by rw [rd 81 72 (fun z => (hS _ _ z).2.2.2.2 ⟨rfl, rfl⟩)]; exact h1, fun p hp => ?_, fun p hp => ?_, fun p hp => (h4 p hp).eq (fun j => rd 132 j (fun z => (hS _ _ z).2.2.2.1 rfl))⟩
  · rw [rd 129 p (fun z => (hS _ _ z).1 rfl), rd 130 p (fun z => (hS _ _ z).2.1 rfl)]; exact h2 p hp
  · rw [rd 131 p (fun z => (hS _ _ z).2.2.1 rfl)]; exact h3 p hp
theorem S14_ga : ∀ b j, S14 b j → b ≠ 129 ∧ b ≠ 130 ∧ b ≠ 131 ∧ b ≠ 132 ∧ ¬ (b = 81 ∧ j = 72) := fun b j h => by unfold S14 at h; omega
theorem M_dead {A : Ab} (hB : IB A) (hr : IRow A) {s k p : Nat} {ρ : Sto} (hG : GA A k ρ) (hp : p < 30) : mX12_isDead (Int32.ofNat p) (A 101 s) ρ = some (if deadB A s k p then 1 else 0) := by
  have hl4 : cT 4 A ≤ 200 := (hB.le (c := 4) (by decide)).1
  unfold mX12_isDead deadB
  rw [if_pos (oI_inb (j := p) (n := 30) hp (by decide)), oI_cl (j := p) (by omega), (hG.2.1 p hp).2]
  cases q : dth A k p with
  | none => rw [if_pos (show ldM A none = -1 from rfl)]; rfl
  | some j =>
    have hj := dtR_lt _ q
    have ne : ¬ ldM A (some j) = -1 := by
      have g := (hr 4 (by decide) j (by omega)).2.2.2
      rw [hj.2.1] at g
      rcases g with g | g | g | g | g | g
      · obtain ⟨-, -, -, d, e, e1, e2, e3, e4⟩ := g
        show ¬ A 102 j = -1
        rw [e4]; exact ne_neg1 (by omega)
      · exact absurd g.1 (by decide)
      · exact absurd g.1 (by decide)
      · exact absurd g.1 (by decide)
      · exact absurd g.1 (by decide)
      · exact absurd g.1 (by decide)
    rw [if_neg ne]
    show (if A 101 s < A 102 j then some (0 : Int32) else some 1) = some (if decide (A 102 j ≤ A 101 s) = true then 1 else 0)
    by_cases c : A 101 s < A 102 j
    · rw [if_pos c, decide_eq_false (nle.mpr c)]; rfl
    · rw [if_neg c, decide_eq_true (nlt.mp c)]; rfl
def lsN (A : Ab) (g : Nat → Nat) : List Nat → Nat
  | [] => 0
  | x :: xs => vN A g x + lsN A g xs
def lsT (A : Ab) (g : Nat → Nat) (t : Nat) : List Nat → Nat
  | [] => 0
  | x :: xs => (if t = toI A x then vN A g x else 0) + lsT A g t xs
theorem lsN_app {A : Ab} {g : Nat → Nat} : ∀ xs ys, lsN A g (xs ++ ys) = lsN A g xs + lsN A g ys
  | [], ys => (Nat.zero_add _).symm
  | x :: xs, ys => by
    show vN A g x + lsN A g (xs ++ ys) = vN A g x + lsN A g xs + lsN A g ys
    rw [lsN_app xs ys]; omega
theorem lsT_app {A : Ab} {g : Nat → Nat} {t : Nat} : ∀ xs ys, lsT A g t (xs ++ ys) = lsT A g t xs + lsT A g t ys
  | [], ys => (Nat.zero_add _).symm
  | x :: xs, ys => by
    show (if t = toI A x then vN A g x else 0) + lsT A g t (xs ++ ys) = (if t = toI A x then vN A g x else 0) + lsT A g t xs + lsT A g t ys
    rw [lsT_app xs ys]; omega
theorem from_ls {A : Ab} (hB : IB A) (hr : IRow A) {s k o : Nat} {g : Nat → Nat} (hd : deadB A s k o = true) (ho : o < 30) : ∀ n, n ≤ cT 4 A → fromN A s k g o n = lsN A g (hrL A k o n) ∧ ∀ t, fromT A s k g o t n = lsT A g t (hrL A k o n)
  | 0, _ => ⟨rfl, fun _ => rfl⟩
  | n + 1, hn => by
    obtain ⟨h1, h2⟩ := from_ls hB hr hd ho n (by omega)
    have e1 : fromN A s k g o (n + 1) = fromN A s k g o n + if o = ofI A n then vI A s k g n else 0 := rfl
    have e2 : ∀ t, fromT A s k g o t (n + 1) = fromT A s k g o t n + if o = ofI A n then (if t = toI A n then vI A s k g n else 0) else 0 := fun _ => rfl
    have e3 : hrL A k o (n + 1) = if isHeir A o k n then hrL A k o n ++ [n] else hrL A k o n := rfl
    by_cases c : isHeir A o k n = true
    · obtain ⟨c1, c2, c3⟩ := isHeir_iff.mp c
      obtain ⟨a1, a2, -⟩ := heir_n hB hr (show n < cT 4 A by omega) c1
      have eo : o = ofI A n := (oI_eq (by omega) (by omega)).mp (c2.symm.trans a2)
      have hH : isH A s k n = true := isH_iff.mpr ⟨c1, c3, by rw [← eo]; exact hd⟩
      have ev : vI A s k g n = vN A g n := if_pos hH
      rw [if_pos c] at e3
      refine ⟨?_, fun t => ?_⟩
      · rw [e1, e3, lsN_app, h1, if_pos eo, ev]; rfl
      · rw [e2, e3, lsT_app, h2, if_pos eo, ev]; rfl
    · rw [if_neg c] at e3
      have z : o = ofI A n → vI A s k g n = 0 := fun eo => if_neg (fun y => by
        obtain ⟨d1, d2, d3⟩ := isH_iff.mp y
        obtain ⟨a1, a2, -⟩ := heir_n hB hr (show n < cT 4 A by omega) d1
        exact c (isHeir_iff.mpr ⟨d1, by rw [eo]; exact a2, d2⟩))
      refine ⟨?_, fun t => ?_⟩
      · rw [e1, e3, h1]
        by_cases eo : o = ofI A n
        · rw [if_pos eo, z eo, Nat.add_zero]
        · rw [if_neg eo, Nat.add_zero]
      · rw [e2, e3, h2]
        by_cases eo : o = ofI A n
        · rw [if_pos eo, z eo, ite_self, Nat.add_zero]
        · rw [if_neg eo, Nat.add_zero]
set_option maxHeartbeats 1000000 in
/-- what one who is dead passes on -/
theorem M_on_l {A : Ab} (hB : IB A) (hr : IRow A) {k p : Nat} (hp : p < 30) {g : Nat → Nat} (hgp : g p < 2147483648) {T : Nat → Nat} {H : Nat} : ∀ bs as fuel ρ, hrL A k p (cT 4 A) = as ++ bs → bs.length < fuel → RM A ρ → GA A k ρ → lsN A g (as ++ bs) ≤ g p → sI ρ 140 p = Int32.ofNat (g p) → (∀ t, t < 30 → sI ρ 141 t = Int32.ofNat (T t + lsT A g t as)) → sI ρ 81 85 = Int32.ofNat H → ∃ ρ', mX12_passesOn_50 fuel (Int32.ofNat p) (Int32.ofNat (g p - lsN A g as)) (Int32.ofNat (offR A k (cT 4 A) p + as.length)) ρ = some ρ' ∧ Ex (fun b j => b = 141 ∨ (b = 81 ∧ j = 85)) ρ ρ' ∧ (∀ t, t < 30 → sI ρ' 141 t = Int32.ofNat (T t + lsT A g t (hrL A k p (cT 4 A)))) ∧ sI ρ' 81 85 = Int32.ofNat (H + (g p - lsN A g (hrL A k p (cT 4 A)))) := by
  have hl4 : cT 4 A ≤ 200 := (hB.le (c := 4) (by decide)).1
  have hof := offR_le (A := A) (k := k) (p := p + 1) (by omega) (cT 4 A)
  have hos : offR A k (cT 4 A) (p + 1) = offR A k (cT 4 A) p + (hrL A k p (cT 4 A)).length := rfl
  have p31 := oI_inb (j := p + 1) (n := 31) (by omega) (by decide)
  intro bs
  induction bs with
  | nil =>
    intro as fuel ρ hL hf hm hG hle h140 h141 h85
    obtain ⟨n, rfl⟩ : ∃ n, fuel = n + 1 := ⟨fuel - 1, by omega⟩
    rw [List.append_nil] at hL
    refine ⟨wI ρ 81 85 (Int32.ofNat (H + (g p - lsN A g as))), ?_, Ex.rf.w _ (Or.inr ⟨rfl, rfl⟩), fun t ht => by rw [sI_wI, if_neg (by omega), h141 t ht, hL], by rw [sI_wI, if_pos ⟨rfl, rfl⟩, hL]⟩
    refine Eq.trans (b := mX12_passesOn_50B (mX12_passesOn_50 n) (Int32.ofNat p) (Int32.ofNat (g p - lsN A g as)) (Int32.ofNat (offR A k (cT 4 A) p + as.length)) ρ) rfl ?_
    unfold mX12_passesOn_50B
    have hlen0 : (hrL A k p (cT 4 A)).length = as.length := by rw [hL]
    rw [oI_s, if_pos p31, oI_cl (j := p + 1) (by omega), hG.2.2.1 (p + 1) (by omega), hos, if_pos ((oI_le (by omega) (by omega)).mpr (by omega)), h85, oI_add]
  | cons f bs ih =>
    intro as fuel ρ hL hf hm hG hle h140 h141 h85
    obtain ⟨n, rfl⟩ : ∃ n, fuel = n + 1 := ⟨fuel - 1, by omega⟩
    have hlen : (hrL A k p (cT 4 A)).length = as.length + bs.length + 1 := by rw [hL, List.length_append, List.length_cons]; omega
    have hf4 := (hrL_mem (A := A) (k := k) (p := p) (cT 4 A)).mp (show f ∈ _ by rw [hL]; exact List.mem_append_right _ List.mem_cons_self)
    obtain ⟨c1, c2, c3⟩ := isHeir_iff.mp hf4.2
    obtain ⟨e1, e2, e3, e4, e5, e6, e7, e8, e9⟩ := heir_n hB hr hf4.1 c1
    have eo : ofI A f = p := (oI_eq (by omega) (by omega)).mp (e2.symm.trans c2)
    have hat := hG.2.2.2 p hp as f bs hL
    have nz : ¬ (A 105 f).toInt64 = 0 := fun z => by
      rw [e9, i64_of (by omega)] at z
      have := congrArg Int64.toInt z
      rw [Int64.toInt_ofNat_of_lt (by omega)] at this
      have z0 : (0 : Int64).toInt = 0 := rfl
      omega
    have val : (((Int32.ofNat (g p)).toInt64 * (A 104 f).toInt64) / (A 105 f).toInt64).toInt32 = Int32.ofNat (vN A g f) := by
      rw [e8, e9, mulDiv hgp (by omega) (by omega)]
      unfold vN
      rw [show (A 99 f).toNatClampNeg = p from eo]
    have hvle : lsN A g as + vN A g f ≤ g p := by
      rw [lsN_app] at hle
      have : lsN A g (f :: bs) = vN A g f + lsN A g bs := rfl
      omega
    have eX : Ex (fun b j => b = 141 ∨ (b = 81 ∧ j = 85)) ρ (wI ρ 141 (toI A f) (Int32.ofNat (T (toI A f) + lsT A g (toI A f) as + vN A g f))) := Ex.rf.w _ (Or.inl rfl)
    obtain ⟨ρ', z1, z2, z3⟩ := ih (as ++ [f]) n _ (by rw [hL, List.append_assoc]; rfl) (by rw [List.length_cons] at hf; omega) (eX.rm hm (fun b j z => by
        rcases z with rfl | ⟨rfl, rfl⟩
        · unfold pr; rfl
        · rfl)) (hG.ex eX (fun b j z => by omega)) (by rw [List.append_assoc]; exact hle) (by rw [sI_wI, if_neg (by omega)]; exact h140) (fun t ht => by
        rw [sI_wI, lsT_app]
        by_cases e : t = toI A f
        · rw [if_pos ⟨rfl, e⟩, e]
          show _ = Int32.ofNat (T (toI A f) + (lsT A g (toI A f) as + ((if toI A f = toI A f then vN A g f else 0) + 0)))
          rw [if_pos rfl, Nat.add_zero, Nat.add_assoc]
        · rw [if_neg (fun z => e z.2), h141 t ht]
          show _ = Int32.ofNat (T t + (lsT A g t as + ((if t = toI A f then vN A g f else 0) + 0)))
          rw [if_neg e]
          rfl) (by rw [sI_wI, if_neg (by omega)]; exact h85)
    refine ⟨ρ', ?_, eX.tr z2, z3⟩
    refine Eq.trans (b := mX12_passesOn_50B (mX12_passesOn_50 n) (Int32.ofNat p) (Int32.ofNat (g p - lsN A g as)) (Int32.ofNat (offR A k (cT 4 A) p + as.length)) ρ) rfl ?_
    unfold mX12_passesOn_50B
    rw [oI_s p, if_pos p31, oI_cl (j := p + 1) (by omega), hG.2.2.1 (p + 1) (by omega), hos, if_neg (fun z => absurd ((oI_le (by omega) (by omega)).mp z) (by omega)), if_pos (oI_inb (j := offR A k (cT 4 A) p + as.length) (n := 200) (by omega) (by decide)), if_pos (oI_inb (j := p) (n := 30) hp (by decide)), oI_cl (j := offR A k (cT 4 A) p + as.length) (by omega), hat, if_pos (oI_inb (j := f) (n := 200) (by omega) (by decide)), oI_cl (j := f) (by omega), hm 105 f rfl, if_pos nz, hm 100 f rfl, e4, if_pos (oI_inb (j := toI A f) (n := 30) e3 (by decide)), oI_cl (j := toI A f) (by omega), oI_cl (j := p) (by omega), h140, hm 104 f rfl, val, h141 _ e3, oI_add, oI_sub (by omega), oI_s]
    simp only [stp]
    rw [List.length_append, List.length_singleton, lsN_app, show lsN A g [f] = vN A g f from Nat.add_zero _, ← Nat.sub_sub, ← Nat.add_assoc] at z1
    exact z1
