/-! the relation at the start -/
def A0 : Ab := fun a k => sI sS a k
def B0 : Nat → Nat := fun c => match c with
  | 0 => 41
  | 1 => 42
  | 2 => 45
  | 3 => 46
  | 4 => 47
  | 5 => 47
  | _ => 48
set_option maxRecDepth 100000 in
theorem st_row : ∀ c, c < 7 → ∀ i, i < cM c + 1 → sR sS (34 + c) i = B0 c := by decide +kernel
set_option maxRecDepth 100000 in
theorem st_kind : ∀ c, c < 7 → sK sS (B0 c) = cK c ∧ ∀ k ∈ cF c, sI sS (B0 c) k = cB c k := by decide +kernel
theorem st_reg : ∀ c, c < 7 → (41 ≤ B0 c ∧ B0 c ≤ 52) ∧ B0 c < 147 := by decide +kernel
set_option maxRecDepth 100000 in
theorem st_n : sZ sS = 147 ∧ ∀ c, c < 7 → sI sS 81 (cN c) = 0 := by decide +kernel
set_option maxRecDepth 100000 in
theorem st_81 : ∀ k, k < 8 → sI sS 81 k = 0 := by decide +kernel
set_option maxRecDepth 100000 in
theorem st_81b : sI sS 81 8 = 0 ∧ sI sS 81 50 = 0 ∧ sI sS 81 39 = 0 ∧ sI sS 81 73 = 0 ∧ sI sS 66 0 = 0 := by decide +kernel
set_option maxRecDepth 100000 in
theorem st_cnt : ∀ j, j < 11 → sI sS (cntOf j).1 (cntOf j).2 = sI sS 81 (cntAt j) := by decide +kernel
set_option maxRecDepth 100000 in
theorem st_tape : ∀ j, j < 500 → sI sS 74 j = sI sS 111 j ∧ sI sS 111 j = 0 := by decide +kernel
set_option maxRecDepth 100000 in
theorem st_gain : ∀ p, p < 30 → sL sS 80 p = sL sS 145 p := by decide +kernel
set_option maxRecDepth 100000 in
theorem st_law : sR sS 32 7 = 75 ∧ sI sS 75 1 = 1000000 ∧ sI sS 48 0 = 1000000 ∧ sI sS 48 1 = 1000000 ∧ sI sS 48 2 = -1 ∧ sI sS 48 3 = -1 := by decide +kernel
set_option maxRecDepth 100000 in
theorem st_lw75 : LwAt sS 75 := ⟨⟨by unfold reg; decide, by unfold reg; decide, by unfold reg; decide, by unfold reg; decide, by unfold reg; decide⟩, by decide +kernel, by decide +kernel, by decide +kernel, by decide +kernel, by decide +kernel, by decide +kernel, by decide +kernel⟩
set_option maxRecDepth 100000 in
theorem st_lw48 : LwAt sS 48 := ⟨⟨by unfold reg; decide, by unfold reg; decide, by unfold reg; decide, by unfold reg; decide, by unfold reg; decide⟩, by decide +kernel, by decide +kernel, by decide +kernel, by decide +kernel, by decide +kernel, by decide +kernel, by decide +kernel⟩
set_option maxRecDepth 100000 in
theorem st_wk : WkAt sS 42 := by unfold WkAt reg; decide +kernel
theorem cT_0 {c : Nat} (hc : c < 7) : cT c A0 = 0 := by
  show (sI sS 81 (cN c)).toNatClampNeg = 0
  rw [st_n.2 c hc]; rfl
theorem rel_0 : Rel A0 sS := by
  obtain ⟨e8, e50, e39, e73, e66⟩ := st_81b
  have hr : ∀ c, c < 7 → ∀ i, i ≤ cM c → sR sS (34 + c) i = B0 c := fun c hc i hi => st_row c hc i (by omega)
  refine ⟨⟨⟨0, Nat.zero_le _, st_81 1 (by decide)⟩, ⟨0, Nat.zero_le _, st_81 2 (by decide)⟩, ⟨0, Nat.zero_le _, st_81 3 (by decide)⟩, ⟨0, Nat.zero_le _, st_81 4 (by decide)⟩, ⟨0, Nat.zero_le _, st_81 5 (by decide)⟩, ⟨0, Nat.zero_le _, st_81 6 (by decide)⟩, ⟨0, Nat.zero_le _, st_81 7 (by decide)⟩, ⟨0, Nat.zero_le _, e8⟩, ⟨0, Nat.zero_le _, e50⟩, ⟨0, Nat.zero_le _, e39⟩, Or.inl e73⟩, Nat.le_of_eq st_n.1.symm, fun _ _ _ => rfl, fun c hc i hi => ?_, st_cnt, fun j hj => ?_, sS_stat, ⟨st_gain, e66⟩, fun c hc i hi => ?_, ⟨fun i hi => ?_, fun i hi => ?_, fun i j hij hj => ?_⟩, ⟨⟨?_, ?_, ?_⟩, fun i hi => ?_, fun i hi => ?_, fun i j hij hj => ?_, fun i hi hi2 => ?_⟩, fun p k => ?_, fun w hw => ?_, fun i j hij hj => ?_, ⟨fun c c1 c2 i hi => ?_, fun c c' c1 c2 c3 c4 i i' hi hi' => ?_⟩, e73⟩
  · have e : sR sS (cR c) i = B0 c := hr c hc i hi
    obtain ⟨k1, k2⟩ := st_kind c hc
    obtain ⟨g1, g2⟩ := st_reg c hc
    refine ⟨by rw [e]; exact Or.inl g1, by rw [e, st_n.1]; exact g2, by rw [e]; exact k1, fun k hk => ?_⟩
    rw [e, cT_0 hc, if_neg (Nat.not_lt_zero _)]
    exact k2 k hk
  · obtain ⟨g1, g2⟩ := st_tape j hj
    exact ⟨g1, 0, by decide, g2⟩
  · rw [cT_0 hc] at hi; exact absurd hi (Nat.not_lt_zero _)
  · rw [hr 1 (by decide) i hi]; exact st_wk
  · rw [cT_0 (by decide)] at hi; exact absurd hi (Nat.not_lt_zero _)
  · rw [cT_0 (by decide)] at hj; exact absurd hj (Nat.not_lt_zero _)
  · rw [st_law.1]; exact st_lw75
  · rw [st_law.1]; exact Nat.le_refl _
  · rw [st_law.1]; exact st_law.2.1
  · rw [hr 6 (by decide) i hi]; exact st_lw48
  · rw [cT_0 (by decide)] at hi; exact absurd hi (Nat.not_lt_zero _)
  · rw [cT_0 (by decide)] at hj; exact absurd hj (Nat.not_lt_zero _)
  · rw [hr 6 (by decide) i hi2]
    obtain ⟨-, -, g1, g2, g3, g4⟩ := st_law
    exact ⟨g1, g2, g3, g4, by decide⟩
  · rw [cT_0 (by decide)]; exact Nat.zero_le _
  · rw [cT_0 (by decide)] at hw; exact absurd hw (Nat.not_lt_zero _)
  · rw [cT_0 (by decide)] at hj; exact absurd hj (Nat.not_lt_zero _)
  · rw [hr c (by omega) i (by
      rcases (show c = 4 ∨ c = 5 by omega) with rfl | rfl <;> exact hi), cT_0 (by omega)]
    rcases (show c = 4 ∨ c = 5 by omega) with rfl | rfl
    · exact ⟨fun z => absurd z (by decide), fun z => absurd z (Nat.not_lt_zero _)⟩
    · exact ⟨fun z => absurd z (by decide), fun z => absurd z (Nat.not_lt_zero _)⟩
  · rw [cT_0 (by omega)] at hi; exact absurd hi (Nat.not_lt_zero _)
