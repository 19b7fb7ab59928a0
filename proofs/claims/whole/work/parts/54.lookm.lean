/-! the reference looks back -/
def S80 (b j : Nat) : Prop := b = 81 ∧ (j = 80 ∨ j = 81 ∨ j = 82)
theorem S80_pr : ∀ b j, S80 b j → pr b j = false := fun b j h => by
  obtain ⟨rfl, rfl | rfl | rfl⟩ := h <;> rfl
set_option maxHeartbeats 1000000 in
theorem M_lb_l {A : Ab} (hB : IB A) (hr : IRow A) {s w k : Nat} (hk : k ≤ 999) (hs : s < cT 4 A) (hw : w < cT 1 A) (hws : A 98 s = Int32.ofNat w) : ∀ m i fuel ρ, RM A ρ → sI ρ 81 72 = Int32.ofNat k → i + m = cT 4 A → m < fuel → sI ρ 81 82 = agR A s k i → ∃ ρ', mX12_looksBack_17 fuel (Int32.ofNat s) (Int32.ofNat w) (oB (cmR A s k i)) (Int32.ofNat i) ρ = some ρ' ∧ Ex S80 ρ ρ' ∧ sI ρ' 81 80 = hdV A s k ∧ sI ρ' 81 81 = frV A s w k ∧ sI ρ' 81 82 = agV A s k := by
  have hl : cT 4 A ≤ 200 := (hB.le (c := 4) (by decide)).1
  have dlt : ∀ y, y < cT 4 A → inR (A 101 y) 36500 := fun y hy => (hr 4 (by decide) y hy).2.1
  intro m
  induction m with
  | zero =>
    intro i fuel ρ hm h72 hi hf h82
    have hn : sI ρ 81 7 = Int32.ofNat (cT 4 A) := (hm 81 7 rfl).trans (hB.le (c := 4) (by decide)).2
    obtain ⟨n, rfl⟩ : ∃ n, fuel = n + 1 := ⟨fuel - 1, by omega⟩
    have e : i = cT 4 A := by omega
    subst e
    have step : mX12_looksBack_17 (n + 1) (Int32.ofNat s) (Int32.ofNat w) (oB (cmR A s k (cT 4 A))) (Int32.ofNat (cT 4 A)) ρ = mX12_looksBack_202 (Int32.ofNat w) (oB (cmR A s k (cT 4 A))) (hdV A s k) ρ := by
      refine Eq.trans (b := mX12_looksBack_17B (mX12_looksBack_17 n) (Int32.ofNat s) (Int32.ofNat w) (oB (cmR A s k (cT 4 A))) (Int32.ofNat (cT 4 A)) ρ) rfl ?_
      unfold mX12_looksBack_17B hdV
      rw [hn, if_pos ((oI_le (by omega) (by omega)).mpr (Nat.le_refl _))]
      cases q : cmR A s k (cT 4 A) with
      | none => rw [if_pos (show oB none = -1 from rfl)]; rfl
      | some j =>
        have hj := (cmR_lt _ q).1
        rw [show oB (some j) = Int32.ofNat j from rfl, if_neg (ne_neg1 (by omega)), if_pos (oI_inb (j := s) (n := 200) (by omega) (by decide)), if_pos (oI_inb (j := j) (n := 200) (by omega) (by decide)), oI_cl (j := s) (by omega), oI_cl (j := j) (by omega), hm 101 s rfl, hm 101 j rfl]
        rfl
    have hm7 : RM A (wI ρ 81 80 (hdV A s k)) := hm.np 81 80 _ rfl
    have fin : ∀ v : Int32, v = frV A s w k → ∃ ρ', mX12_looksBack_230 v (wI ρ 81 80 (hdV A s k)) = some ρ' ∧ Ex S80 ρ ρ' ∧ sI ρ' 81 80 = hdV A s k ∧ sI ρ' 81 81 = frV A s w k ∧ sI ρ' 81 82 = agV A s k := fun v hv => by
      refine ⟨wI (wI ρ 81 80 (hdV A s k)) 81 81 v, rfl, (Ex.rf.w _ ⟨rfl, Or.inl rfl⟩).w _ ⟨rfl, Or.inr (Or.inl rfl)⟩, rfl, hv, h82⟩
    rw [step]
    unfold mX12_looksBack_202 mX12_looksBack_229
    simp only [stp]
    cases q : cmR A s k (cT 4 A) with
    | none =>
      rw [if_pos (show oB none = -1 from rfl)]
      exact fin 0 (by unfold frV; rw [q]; rfl)
    | some j =>
      have hj := (cmR_lt _ q).1
      rw [show oB (some j) = Int32.ofNat j from rfl, if_neg (ne_neg1 (by omega)), if_pos (oI_inb (j := j) (n := 200) (by omega) (by decide)), oI_cl (j := j) (by omega), hm7 99 j rfl, M_isBy hB hr hm7 hw, bnd_some]
      cases q2 : byR A w (A 99 j) (aM A w) 0 with
      | true =>
        rw [if_neg (show ¬ (if true = true then (1 : Int32) else 0) = 0 from i10)]
        exact fin 1 (by unfold frV; rw [q]; unfold frO; simp only [q2, if_true])
      | false =>
        rw [if_pos (show (if false = true then (1 : Int32) else 0) = 0 from rfl)]
        exact fin 0 (by unfold frV; rw [q]; unfold frO; simp only [q2]; rfl)
  | succ m ih =>
    intro i fuel ρ hm h72 hi hf h82
    have hn : sI ρ 81 7 = Int32.ofNat (cT 4 A) := (hm 81 7 rfl).trans (hB.le (c := 4) (by decide)).2
    obtain ⟨n, rfl⟩ : ∃ n, fuel = n + 1 := ⟨fuel - 1, by omega⟩
    have hi2 : i < cT 4 A := by omega
    have eA : agR A s k (i + 1) = if agB A s k i then agR A s k i + 1 else agR A s k i := rfl
    have eC : cmR A s k (i + 1) = if cmB A s k i && okK (A 101) i (cmR A s k i) then some i else cmR A s k i := rfl
    have sk : agB A s k i = false → cmB A s k i = false → ∃ ρ', mX12_looksBack_17 n (Int32.ofNat s) (Int32.ofNat w) (oB (cmR A s k i)) (Int32.ofNat i + 1) ρ = some ρ' ∧ Ex S80 ρ ρ' ∧ sI ρ' 81 80 = hdV A s k ∧ sI ρ' 81 81 = frV A s w k ∧ sI ρ' 81 82 = agV A s k := fun e1 e2 => by
      rw [e1] at eA
      rw [e2] at eC
      have eC' : cmR A s k (i + 1) = cmR A s k i := eC
      have eA' : agR A s k (i + 1) = agR A s k i := eA
      rw [oI_s, ← eC']
      exact ih (i + 1) n ρ hm h72 (by omega) (by omega) (by rw [eA']; exact h82)
    have step : mX12_looksBack_17 (n + 1) (Int32.ofNat s) (Int32.ofNat w) (oB (cmR A s k i)) (Int32.ofNat i) ρ = mX12_looksBack_17B (mX12_looksBack_17 n) (Int32.ofNat s) (Int32.ofNat w) (oB (cmR A s k i)) (Int32.ofNat i) ρ := rfl
    have i200 := oI_inb (j := i) (n := 200) (by omega) (by decide)
    have s200 := oI_inb (j := s) (n := 200) (by omega) (by decide)
    -- counting, with a best one o
    have s131 : bkP A s k i → (A 97 i = 2 ∨ A 97 i = 3) → ∀ o, cmR A s k (i + 1) = o → ∃ ρ', mX12_looksBack_131 (mX12_looksBack_17 n) (Int32.ofNat s) (Int32.ofNat w) (oB o) (Int32.ofNat i) ρ = some ρ' ∧ Ex S80 ρ ρ' ∧ sI ρ' 81 80 = hdV A s k ∧ sI ρ' 81 81 = frV A s w k ∧ sI ρ' 81 82 = agV A s k := fun bk _ o ho => by
      subst ho
      unfold mX12_looksBack_131
      rw [if_pos i200, oI_cl (j := i) (by omega), hm 97 i rfl, if_pos s200, oI_cl (j := s) (by omega), hm 101 i rfl, hm 101 s rfl, oI_s]
      by_cases c3 : A 97 i = 2
      · rw [if_pos c3]
        by_cases c7 : A 101 i < A 101 s - 365
        · rw [if_pos c7]
          exact ih (i + 1) n ρ hm h72 (by omega) (by omega) (by rw [eA, if_neg (fun z => (agB_iff.mp z).2.2 c7)]; exact h82)
        · rw [if_neg c7]
          simp only [stp]
          obtain ⟨ρ', g1, g2, g3⟩ := ih (i + 1) n (wI ρ 81 82 (sI ρ 81 82 + 1)) (hm.np 81 82 _ rfl) h72 (by omega) (by omega) (by rw [sI_wI, if_pos ⟨rfl, rfl⟩, h82, eA, if_pos (agB_iff.mpr ⟨c3, bk, c7⟩)])
          exact ⟨ρ', g1, (Ex.rf.w _ ⟨rfl, Or.inr (Or.inr rfl)⟩).tr g2, g3⟩
      · rw [if_neg c3]
        exact ih (i + 1) n ρ hm h72 (by omega) (by omega) (by rw [eA, if_neg (fun z => c3 (agB_iff.mp z).1)]; exact h82)
    have s48 : (A 97 i = 2 ∨ A 97 i = 3) → ∃ ρ', mX12_looksBack_48 (mX12_looksBack_17 n) (Int32.ofNat s) (Int32.ofNat w) (oB (cmR A s k i)) (Int32.ofNat i) ρ = some ρ' ∧ Ex S80 ρ ρ' ∧ sI ρ' 81 80 = hdV A s k ∧ sI ρ' 81 81 = frV A s w k ∧ sI ρ' 81 82 = agV A s k := fun hkk => by
      unfold mX12_looksBack_48
      rw [if_pos i200, oI_cl (j := i) (by omega), hm 98 i rfl, h72, M_known hB hr hm hi2 hk, bnd_some, if_pos s200, oI_cl (j := s) (by omega), hm 101 i rfl, hm 101 s rfl, hm 100 i rfl, hm 99 s rfl]
      by_cases c1 : A 98 i = Int32.ofNat w
      · rw [if_pos c1]
        cases c2 : knB A i k with
        | false =>
          rw [if_pos (show (if false = true then (1 : Int32) else 0) = 0 from rfl)]
          exact sk (by
            cases e : agB A s k i with
            | false => rfl
            | true => have := (agB_iff.mp e).2.1.2.2; rw [c2] at this; cases this) (by
            cases e : cmB A s k i with
            | false => rfl
            | true => have := (cmB_iff.mp e).2.1.2.2; rw [c2] at this; cases this)
        | true =>
          rw [if_neg (show ¬ (if true = true then (1 : Int32) else 0) = 0 from i10)]
          by_cases c3 : A 101 i < A 101 s
          · rw [if_pos c3]
            have bk : bkP A s k i := ⟨c1.trans hws.symm, c3, c2⟩
            by_cases c5 : A 100 i = A 99 s
            · rw [if_pos c5]
              have cp : cmB A s k i = true := cmB_iff.mpr ⟨hkk, bk, c5⟩
              rw [cp, Bool.true_and] at eC
              have s128 : okK (A 101) i (cmR A s k i) = true → ∃ ρ', mX12_looksBack_128 (mX12_looksBack_17 n) (Int32.ofNat s) (Int32.ofNat w) (Int32.ofNat i) ρ = some ρ' ∧ Ex S80 ρ ρ' ∧ sI ρ' 81 80 = hdV A s k ∧ sI ρ' 81 81 = frV A s w k ∧ sI ρ' 81 82 = agV A s k := fun ok => by
                unfold mX12_looksBack_128
                exact s131 bk hkk (some i) (by rw [eC, if_pos ok])
              cases q : cmR A s k i with
              | none =>
                rw [if_pos (show oB none = -1 from rfl)]
                exact s128 (by rw [q]; rfl)
              | some j =>
                have hj := (cmR_lt _ q).1
                rw [show oB (some j) = Int32.ofNat j from rfl, if_neg (ne_neg1 (by omega)), if_pos (oI_inb (j := j) (n := 200) (by omega) (by decide)), oI_cl (j := j) (by omega), hm 101 j rfl]
                by_cases c6 : A 101 i < A 101 j
                · rw [if_pos c6]
                  exact s131 bk hkk (some j) (by rw [eC, q, if_neg (fun z : okK (A 101) i (some j) = true => nlt.mpr (of_decide_eq_true z) c6)])
                · rw [if_neg c6]
                  exact s128 (by rw [q]; exact decide_eq_true (nlt.mp c6))
            · rw [if_neg c5]
              refine s131 bk hkk _ ?_
              rw [eC, if_neg]
              intro z
              rw [Bool.and_eq_true] at z
              exact c5 (cmB_iff.mp z.1).2.2
          · rw [if_neg c3]
            exact sk (by
              cases e : agB A s k i with
              | false => rfl
              | true => exact absurd (agB_iff.mp e).2.1.2.1 c3) (by
              cases e : cmB A s k i with
              | false => rfl
              | true => exact absurd (cmB_iff.mp e).2.1.2.1 c3)
      · rw [if_neg c1]
        exact sk (by
          cases e : agB A s k i with
          | false => rfl
          | true => exact absurd ((agB_iff.mp e).2.1.1.trans hws) c1) (by
          cases e : cmB A s k i with
          | false => rfl
          | true => exact absurd ((cmB_iff.mp e).2.1.1.trans hws) c1)
    rw [step]
    unfold mX12_looksBack_17B
    rw [hn, if_neg (fun q => absurd ((oI_le (by omega) (by omega)).mp q) (by omega)), if_pos i200, oI_cl (j := i) (by omega), hm 97 i rfl]
    by_cases c1 : A 97 i = 2
    · rw [if_pos c1]; exact s48 (Or.inl c1)
    · rw [if_neg c1]
      by_cases c2 : A 97 i = 3
      · rw [if_pos c2]; exact s48 (Or.inr c2)
      · rw [if_neg c2]
        exact sk (by
          cases e : agB A s k i with
          | false => rfl
          | true => exact absurd (agB_iff.mp e).1 c1) (by
          cases e : cmB A s k i with
          | false => rfl
          | true => exact absurd (cmB_iff.mp e).1 (fun z => z.elim c1 c2))
theorem M_lb {A : Ab} (hB : IB A) (hr : IRow A) {s w a b k : Nat} (hk : k ≤ 999) (hS : SL A s w a b) {ρ : Sto} (hm : RM A ρ) (h72 : sI ρ 81 72 = Int32.ofNat k) : ∃ ρ', mX12_looksBack (Int32.ofNat s) ρ = some ρ' ∧ Ex S80 ρ ρ' ∧ sI ρ' 81 80 = hdV A s k ∧ sI ρ' 81 81 = frV A s w k ∧ sI ρ' 81 82 = agV A s k := by
  have hl : cT 4 A ≤ 200 := (hB.le (c := 4) (by decide)).1
  obtain ⟨hs, hks, hw, hws, -⟩ := hS
  obtain ⟨ρ', g1, g2, g3⟩ := M_lb_l hB hr hk hs hw hws (cT 4 A) 0 FU (wI ρ 81 82 0) (hm.np 81 82 _ rfl) h72 (by omega) (show cT 4 A < 5000 by omega) rfl
  refine ⟨ρ', ?_, (Ex.rf.w _ ⟨rfl, Or.inr (Or.inr rfl)⟩).tr g2, g3⟩
  unfold mX12_looksBack
  rw [if_pos (oI_inb (j := s) (n := 200) (by omega) (by decide)), oI_cl (j := s) (by omega), hm 98 s rfl, hws]
  exact g1
