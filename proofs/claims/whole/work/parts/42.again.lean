/-! known again -/
theorem i64_lt {x y : Int64} : x < y ↔ x.toInt < y.toInt := Int64.lt_iff_toInt_lt
theorem sub64 (a b : Int32) : (a.toInt64 - b.toInt64).toInt = a.toInt - b.toInt := by
  have h1 := Int32.le_toInt a
  have h2 := Int32.toInt_lt a
  have h3 := Int32.le_toInt b
  have h4 := Int32.toInt_lt b
  rw [Int64.toInt_sub, Int32.toInt_toInt64, Int32.toInt_toInt64]
  exact Int.bmod_eq_of_le_mul_two (by omega) (by omega)
theorem neg64 (a b : Int32) : (-(a.toInt64 - b.toInt64)).toInt = -(a.toInt - b.toInt) := by
  have h1 := Int32.le_toInt a
  have h2 := Int32.toInt_lt a
  have h3 := Int32.le_toInt b
  have h4 := Int32.toInt_lt b
  rw [Int64.toInt_neg, sub64]
  exact Int.bmod_eq_of_le_mul_two (by omega) (by omega)
def nr (a b k : Int32) : Prop := a.toInt - b.toInt ≤ k.toInt ∧ -(a.toInt - b.toInt) ≤ k.toInt
theorem C_near {a b k : Int32} : (0 < lg_cmp (if 0 < (a.toInt64 - b.toInt64) then (a.toInt64 - b.toInt64) else -(a.toInt64 - b.toInt64)) k.toInt64) ↔ ¬ nr a b k := by
  have z : (0 : Int64).toInt = 0 := rfl
  rw [lg_cmp_gt, i64_lt, Int32.toInt_toInt64]
  unfold nr
  by_cases c : 0 < (a.toInt64 - b.toInt64)
  · rw [if_pos c, sub64]
    rw [i64_lt, z, sub64] at c
    omega
  · rw [if_neg c, neg64]
    rw [i64_lt, z, sub64] at c
    omega
theorem M_near {a b k : Int32} {σ : Sto} : (mX12_isNear a b k σ = 0) ↔ ¬ nr a b k := by
  unfold mX12_isNear
  have e1 : (0 < lg_cmp (a.toInt64 - b.toInt64) k.toInt64) ↔ k.toInt < a.toInt - b.toInt := by rw [lg_cmp_gt, i64_lt, Int32.toInt_toInt64, sub64]
  have e2 : (0 < lg_cmp (-(a.toInt64 - b.toInt64)) k.toInt64) ↔ k.toInt < -(a.toInt - b.toInt) := by rw [lg_cmp_gt, i64_lt, Int32.toInt_toInt64, neg64]
  unfold nr
  by_cases c1 : 0 < lg_cmp (a.toInt64 - b.toInt64) k.toInt64
  · rw [if_pos c1]
    have := e1.mp c1
    exact ⟨fun _ => by omega, fun _ => rfl⟩
  · rw [if_neg c1]
    by_cases c2 : 0 < lg_cmp (-(a.toInt64 - b.toInt64)) k.toInt64
    · rw [if_pos c2]
      have := e2.mp c2
      exact ⟨fun _ => by omega, fun _ => rfl⟩
    · rw [if_neg c2]
      have g1 := (not_congr e1).mp c1
      have g2 := (not_congr e2).mp c2
      exact ⟨fun q => (by cases q), fun q => absurd (by omega) q⟩
def mayB (A : Ab) (mk wd hg k : Int32) (i : Nat) : Prop := (mk &&& (A 88 i ^^^ (-1 : Int32))) = 0 ∧ nr wd (A 89 i) k ∧ nr hg (A 90 i) k
theorem C_mayBe {A : Ab} {σ : Sto} {a i : Nat} {mk wd hg k : Int32} (h1 : sI σ a 1 = A 88 i) (h2 : sI σ a 2 = A 89 i) (h3 : sI σ a 3 = A 90 i) : (mayB A mk wd hg k i → mX10_mayBe a mk wd hg k σ = some 1) ∧ (¬ mayB A mk wd hg k i → mX10_mayBe a mk wd hg k σ = some 0) := by
  unfold mX10_mayBe mayB
  rw [h1, h2, h3]
  have n1 := C_near (a := wd) (b := A 89 i) (k := k)
  have n2 := C_near (a := hg) (b := A 90 i) (k := k)
  constructor
  · rintro ⟨q1, q2, q3⟩
    rw [if_pos q1, if_neg (fun z => n1.mp z q2), if_neg (fun z => n2.mp z q3)]
  · intro q
    by_cases c1 : (mk &&& (A 88 i ^^^ (-1 : Int32))) = 0
    · rw [if_pos c1]
      by_cases c2 : nr wd (A 89 i) k
      · rw [if_neg (fun z => n1.mp z c2), if_pos (n2.mpr fun y => q ⟨c1, c2, y⟩)]
      · rw [if_pos (n1.mpr c2)]
    · rw [if_neg c1]
theorem again_l {A : Ab} {σ ρ : Sto} (h : CB A σ) (hm : RM A ρ) {mk wd hg k : Int32} : ∀ m i fuel bits, i + m = cT 1 A → m < fuel → ∃ v, mX11_again_22 fuel mk wd hg k bits (Int32.ofNat i) σ = some (.inr v) ∧ mX12_again_31 fuel mk wd hg k bits (Int32.ofNat i) ρ = some (v, ρ) := by
  have hl : cT 1 A ≤ 30 := (h.1.le (c := 1) (by decide)).1
  have hn : sI σ 33 5 = Int32.ofNat (cT 1 A) := h.num (c := 1) (by decide)
  have hn2 : sI ρ 81 4 = Int32.ofNat (cT 1 A) := (hm 81 4 rfl).trans (h.1.le (c := 1) (by decide)).2
  intro m
  induction m with
  | zero =>
    intro i fuel bits hi hf
    obtain ⟨n, rfl⟩ : ∃ n, fuel = n + 1 := ⟨fuel - 1, by omega⟩
    refine ⟨bits, ?_, ?_⟩
    · show mX11_again_22B (mX11_again_22 n) _ _ _ _ _ _ σ = _
      unfold mX11_again_22B
      rw [hn, if_pos ((oI_le (by omega) (by omega)).mpr (by omega))]
    · show mX12_again_31B (mX12_again_31 n) _ _ _ _ _ _ ρ = _
      unfold mX12_again_31B
      rw [hn2, if_pos ((oI_le (by omega) (by omega)).mpr (by omega))]
  | succ m ih =>
    intro i fuel bits hi hf
    obtain ⟨n, rfl⟩ : ∃ n, fuel = n + 1 := ⟨fuel - 1, by omega⟩
    have hi2 : i < cT 1 A := by omega
    obtain ⟨k0, f0, f1, f2, f3, f6⟩ := h.wa hi2
    obtain ⟨y1, y2⟩ := C_mayBe (mk := mk) (wd := wd) (hg := hg) (k := k) f1 f2 f3
    have lt : ¬ Int32.ofNat (cT 1 A) ≤ Int32.ofNat i := fun q => absurd ((oI_le (by omega) (by omega)).mp q) (by omega)
    have M1 : mX12_again_31 (n + 1) mk wd hg k bits (Int32.ofNat i) ρ = if (mk &&& (A 88 i ^^^ (-1 : Int32))) = 0 then (if (mX12_isNear wd (A 89 i) k ρ) = 0 then mX12_again_90 (mX12_again_31 n) mk wd hg k bits (Int32.ofNat i) ρ else if (mX12_isNear hg (A 90 i) k ρ) = 0 then mX12_again_90 (mX12_again_31 n) mk wd hg k bits (Int32.ofNat i) ρ else mX12_again_91 (mX12_again_31 n) mk wd hg k bits (Int32.ofNat i) 1 ρ) else mX12_again_90 (mX12_again_31 n) mk wd hg k bits (Int32.ofNat i) ρ := by
      refine Eq.trans (b := mX12_again_31B (mX12_again_31 n) mk wd hg k bits (Int32.ofNat i) ρ) rfl ?_
      unfold mX12_again_31B
      rw [hn2, if_neg lt, if_pos (oI_inb (by omega) (by decide)), oI_cl (by omega), hm 88 i rfl, hm 89 i rfl, hm 90 i rfl]
    have C1 : mX11_again_22 (n + 1) mk wd hg k bits (Int32.ofNat i) σ = (mX10_mayBe (sR σ 35 i) mk wd hg k σ).bind fun v4 => if v4 = 0 then mX11_again_22 n mk wd hg k bits (Int32.ofNat (i + 1)) σ else mX11_again_22 n mk wd hg k (bits ||| ((1 : Int32) <<< (Int32.ofNat i &&& 31))) (Int32.ofNat (i + 1)) σ := by
      refine Eq.trans (b := mX11_again_22B (mX11_again_22 n) mk wd hg k bits (Int32.ofNat i) σ) rfl ?_
      unfold mX11_again_22B
      rw [hn, if_neg lt, h.at1 hi2, bnd_some, if_pos k0, oI_s]
    have m90 : mX12_again_90 (mX12_again_31 n) mk wd hg k bits (Int32.ofNat i) ρ = mX12_again_31 n mk wd hg k bits (Int32.ofNat (i + 1)) ρ := by
      unfold mX12_again_90 mX12_again_91
      rw [if_pos rfl, oI_s]
    rw [M1, C1, m90]
    by_cases c : mayB A mk wd hg k i
    · rw [y1 c, bnd_some, if_neg i10, if_pos c.1, if_neg (fun z => M_near.mp z c.2.1), if_neg (fun z => M_near.mp z c.2.2)]
      unfold mX12_again_91
      rw [if_neg i10, oI_s]
      exact ih (i + 1) n _ (by omega) (by omega)
    · rw [y2 c, bnd_some, if_pos rfl]
      obtain ⟨v, v1, v2⟩ := ih (i + 1) n bits (by omega) (by omega)
      refine ⟨v, v1, ?_⟩
      by_cases c1 : (mk &&& (A 88 i ^^^ (-1 : Int32))) = 0
      · rw [if_pos c1]
        by_cases c2 : nr wd (A 89 i) k
        · rw [if_neg (fun z => M_near.mp z c2), if_pos (M_near.mpr fun y => c ⟨c1, c2, y⟩)]; exact v2
        · rw [if_pos (M_near.mpr c2)]; exact v2
      · rw [if_neg c1]; exact v2
theorem op_again (p0 p1 p2 p3 : Int32) : OpOK (mL_again p0 p1 p2 p3) (mX12_again p0 p1 p2 p3) iJ := by
  intro A σ h
  have t0 : ∀ σ' : Sto, sI (wI σ' 81 0 0) 81 0 = 0 := fun _ => rfl
  have r0 : ∀ σ', RM A σ' → RM A (wI σ' 81 0 0) := fun σ' hm => hm.np 81 0 0 rfl
  have hl : cT 1 A ≤ 30 := (h.1.le (c := 1) (by decide)).1
  by_cases c : p3 < 0
  · have e2 : mX11_again p0 p1 p2 p3 σ = some (.inl 1) := by
      unfold mX11_again
      rw [if_neg (fun q => nlt.mpr q c)]
    refine op_thr (k := 1) (b := 0) h (by decide) (by show wr hI iJ σ ((mX11_again p0 p1 p2 p3 σ).map (embS σ)) = _; rw [e2]; rfl) ?_
    simp only [mX12_again, stp]
    rw [if_pos c]
    unfold mX12_again_16
    rw [M_right0 (t0 σ) (by decide)]
    rfl
  · obtain ⟨v, v1, -⟩ := again_l h.cb (r0 _ h.2.2.1) (mk := p0) (wd := p1) (hg := p2) (k := p3) (cT 1 A) 0 FU 0 (by omega) (show cT 1 A < 5000 by omega)
    have hm1 : RM A (wL σ 146 0 (iJ v)) := h.2.2.1.wl _ _ _
    obtain ⟨v', v1', v2⟩ := again_l h.cb (r0 _ hm1) (mk := p0) (wd := p1) (hg := p2) (k := p3) (cT 1 A) 0 FU 0 (by omega) (show cT 1 A < 5000 by omega)
    have ev : v' = v := by
      have := v1'.symm.trans v1
      cases this
      rfl
    subst ev
    have e2 : mX11_again p0 p1 p2 p3 σ = some (.inr v') := by
      unfold mX11_again
      rw [if_pos (nlt.mp c)]
      exact v1
    refine op_same (σ := σ) (v := iJ v') h (by show wr hI iJ σ ((mX11_again p0 p1 p2 p3 σ).map (embS σ)) = _; rw [e2]; rfl) ?_ rfl
    simp only [mX12_again, stp]
    rw [if_neg c]
    unfold mX12_again_16
    rw [M_right1 (t0 _), bd2_some, if_neg i10]
    exact v2
