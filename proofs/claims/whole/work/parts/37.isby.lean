/-! artists of a work -/
def aM (A : Ab) (w : Nat) : Nat := (A 84 w).toNatClampNeg
def wtR (A : Ab) (w : Nat) (p : Int32) : Nat → Nat → Int32
  | 0, _ => 0
  | m + 1, i => if A 85 (3 * w + i) = p then A 86 (3 * w + i) else wtR A w p m (i + 1)
def byR (A : Ab) (w : Nat) (p : Int32) : Nat → Nat → Bool
  | 0, _ => false
  | m + 1, i => if A 85 (3 * w + i) = p then true else byR A w p m (i + 1)
theorem work_m {A : Ab} (hr : IRow A) {w : Nat} (hw : w < cT 1 A) : 1 ≤ aM A w ∧ aM A w ≤ 3 ∧ A 84 w = Int32.ofNat (aM A w) ∧ (∀ j, j < aM A w → inR (A 85 (3 * w + j)) (cT 0 A) ∧ ∃ x, 1 ≤ x ∧ x ≤ 9 ∧ A 86 (3 * w + j) = Int32.ofNat x) ∧ ∀ j, j < aM A w → ∀ j', j' < aM A w → A 85 (3 * w + j) = A 85 (3 * w + j') → j = j' := by
  obtain ⟨m, m1, m2, m3, m4, m5⟩ := hr 1 (by decide) w hw
  have e : aM A w = m := by unfold aM; rw [m3, oI_cl (by omega)]
  rw [e]
  exact ⟨m1, m2, m3, m4, m5⟩
theorem CB.wa {A : Ab} {σ : Sto} (h : CB A σ) {w : Nat} (hw : w < cT 1 A) : sK σ (sR σ 35 w) = 10 ∧ sI σ (sR σ 35 w) 0 = A 87 w ∧ sI σ (sR σ 35 w) 1 = A 88 w ∧ sI σ (sR σ 35 w) 2 = A 89 w ∧ sI σ (sR σ 35 w) 3 = A 90 w ∧ sI σ (sR σ 35 w) 6 = A 84 w := by
  have hl := (h.1.le (c := 1) (by decide)).1
  have hm : cM 1 = 30 := rfl
  have F : ∀ k ∈ cF 1, sI σ (sR σ 35 w) k = cV 1 A w k := fun k hk => h.fld (c := 1) (by decide) hl hw hk
  exact ⟨h.kind (c := 1) (by decide) (by omega), F 0 (by decide), F 1 (by decide), F 2 (by decide), F 3 (by decide), F 6 (by decide)⟩
theorem wt_by {A : Ab} {w : Nat} {p : Int32} : ∀ m i, (∀ j, i ≤ j → j < i + m → ∃ x, 1 ≤ x ∧ x ≤ 9 ∧ A 86 (3 * w + j) = Int32.ofNat x) → ((wtR A w p m i = 0) ↔ byR A w p m i = false)
  | 0, _, _ => ⟨fun _ => rfl, fun _ => rfl⟩
  | m + 1, i, h => by
    unfold wtR byR
    by_cases c : A 85 (3 * w + i) = p
    · rw [if_pos c, if_pos c]
      obtain ⟨x, x1, x2, x3⟩ := h i (Nat.le_refl _) (by omega)
      rw [x3]
      exact ⟨fun q => absurd ((oI_eq (n := 0) (by omega) (by decide)).mp q) (by omega), fun q => by cases q⟩
    · rw [if_neg c, if_neg c]
      exact wt_by m (i + 1) (fun j h1 h2 => h j (by omega) (by omega))
theorem C_wt_l {A : Ab} {σ : Sto} (h : CB A σ) {w : Nat} (hw : w < cT 1 A) {p : Int32} : ∀ m i fuel, i + m = aM A w → m < fuel → mX10_weightOf_2 fuel (sR σ 35 w) p (Int32.ofNat i) σ = some (wtR A w p m i) := by
  have hr := h.2.2.2.2.2.1
  have hl := (h.1.le (c := 1) (by decide)).1
  have hM : cM 1 = 30 := rfl
  obtain ⟨w1, w2, w3, w4, w5⟩ := work_m hr hw
  obtain ⟨k0, f0, f1, f2, f3, f6⟩ := h.wa hw
  obtain ⟨u1, u2, u3, u4, u5, u6, u7, u8, u9, u10, u11⟩ := h.2.2.2.2.2.2.1.1 w (by omega)
  obtain ⟨⟨g1, g2⟩, g3⟩ := h.2.2.2.2.2.2.1.2.1 w hw
  intro m
  induction m with
  | zero =>
    intro i fuel hi hf
    obtain ⟨n, rfl⟩ : ∃ n, fuel = n + 1 := ⟨fuel - 1, by omega⟩
    show mX10_weightOf_2B (mX10_weightOf_2 n) _ _ _ σ = _
    unfold mX10_weightOf_2B
    rw [if_pos k0, f6, w3, if_pos ((oI_le (by omega) (by omega)).mpr (by omega))]
    rfl
  | succ m ih =>
    intro i fuel hi hf
    obtain ⟨n, rfl⟩ : ∃ n, fuel = n + 1 := ⟨fuel - 1, by omega⟩
    show mX10_weightOf_2B (mX10_weightOf_2 n) _ _ _ σ = _
    unfold mX10_weightOf_2B wtR
    have q3 : ¬ Int32.ofNat 3 ≤ Int32.ofNat i := fun q => absurd ((oI_le (by decide) (by omega)).mp q) (by omega)
    have q4 : ¬ A 84 w ≤ Int32.ofNat i := fun q => by rw [w3] at q; exact absurd ((oI_le (by omega) (by omega)).mp q) (by omega)
    obtain ⟨e1, e2⟩ := g1 i (show i < aM A w by omega)
    rw [if_pos k0, f6, if_neg q4, u6, u7, u8, if_pos rfl, u9, if_neg q3, u10, if_pos (show (100 : Nat) = 100 from rfl), u11, if_pos (oI_inb (j := i) (n := 3) (by omega) (by decide)), if_pos (oI_inb (j := i) (n := 3) (by omega) (by decide)), oI_cl (by omega), e1, e2]
    by_cases c : A 85 (3 * w + i) = p
    · rw [if_pos c, if_pos c]
    · rw [if_neg c, if_neg c, oI_s]
      exact ih (i + 1) n (by omega) (by omega)
theorem C_wt {A : Ab} {σ : Sto} (h : CB A σ) {w : Nat} (hw : w < cT 1 A) (p : Int32) : mX10_weightOf (sR σ 35 w) p σ = some (wtR A w p (aM A w) 0) := by
  have := work_m h.2.2.2.2.2.1 hw
  exact C_wt_l h hw (aM A w) 0 FU (by omega) (show aM A w < 5000 by omega)
theorem C_isBy {A : Ab} {σ : Sto} (h : CB A σ) {w : Nat} (hw : w < cT 1 A) (p : Int32) : mX10_isBy (sR σ 35 w) p σ = some (if byR A w p (aM A w) 0 then 1 else 0) := by
  obtain ⟨w1, w2, w3, w4, w5⟩ := work_m h.2.2.2.2.2.1 hw
  unfold mX10_isBy
  rw [C_wt h hw p, bnd_some]
  have g := wt_by (A := A) (w := w) (p := p) (aM A w) 0 (fun j _ hj => (w4 j (by omega)).2)
  cases e : byR A w p (aM A w) 0 with
  | false => rw [if_pos (g.mpr e)]; rfl
  | true =>
    rw [if_neg (fun q => by rw [g.mp q] at e; cases e)]; rfl
theorem M_isBy_l {A : Ab} {σ : Sto} (hB : IB A) (hr : IRow A) (hm : RM A σ) {w : Nat} (hw : w < cT 1 A) {p : Int32} : ∀ m i fuel x3, i + m = aM A w → m < fuel → (x3 = 0 ∨ x3 = 1) → mX12_isBy_5 fuel (Int32.ofNat w) p x3 (Int32.ofNat i) σ = some (if x3 = 0 then (if byR A w p m i then 1 else 0) else 1) := by
  have hl := (hB.le (c := 1) (by decide)).1
  have hM : cM 1 = 30 := rfl
  obtain ⟨w1, w2, w3, w4, w5⟩ := work_m hr hw
  intro m
  induction m with
  | zero =>
    intro i fuel x3 hi hf hx
    obtain ⟨n, rfl⟩ : ∃ n, fuel = n + 1 := ⟨fuel - 1, by omega⟩
    show mX12_isBy_5B (mX12_isBy_5 n) _ _ _ _ σ = _
    unfold mX12_isBy_5B
    rw [if_pos (oI_inb (by omega) (by decide)), oI_cl (by omega), hm 84 w rfl, w3, if_pos ((oI_le (by omega) (by omega)).mpr (by omega))]
    rcases hx with rfl | rfl
    · rfl
    · rfl
  | succ m ih =>
    intro i fuel x3 hi hf hx
    obtain ⟨n, rfl⟩ : ∃ n, fuel = n + 1 := ⟨fuel - 1, by omega⟩
    show mX12_isBy_5B (mX12_isBy_5 n) _ _ _ _ σ = _
    unfold mX12_isBy_5B
    have q4 : ¬ A 84 w ≤ Int32.ofNat i := fun q => by rw [w3] at q; exact absurd ((oI_le (by omega) (by omega)).mp q) (by omega)
    have e3 : (3 : Int32) * Int32.ofNat w + Int32.ofNat i = Int32.ofNat (3 * w + i) := by
      show Int32.ofNat 3 * Int32.ofNat w + Int32.ofNat i = _
      rw [oI_mul, oI_add]
    rw [if_pos (oI_inb (by omega) (by decide)), oI_cl (by omega), hm 84 w rfl, if_neg q4, e3, if_pos (oI_inb (by omega) (by decide)), oI_cl (by omega), hm 85 _ rfl]
    rcases hx with rfl | rfl
    · unfold byR
      rw [if_pos rfl, if_pos rfl]
      by_cases c : A 85 (3 * w + i) = p
      · rw [if_pos c, if_pos c, oI_s, ih (i + 1) n 1 (by omega) (by omega) (Or.inr rfl), if_neg i10]; rfl
      · rw [if_neg c, if_neg c, oI_s, ih (i + 1) n 0 (by omega) (by omega) (Or.inl rfl), if_pos rfl]
    · rw [if_neg i10, if_neg i10, oI_s, ih (i + 1) n 1 (by omega) (by omega) (Or.inr rfl), if_neg i10]
theorem M_isBy {A : Ab} {σ : Sto} (hB : IB A) (hr : IRow A) (hm : RM A σ) {w : Nat} (hw : w < cT 1 A) (p : Int32) : mX12_isBy (Int32.ofNat w) p σ = some (if byR A w p (aM A w) 0 then 1 else 0) := by
  have := work_m hr hw
  have g := M_isBy_l hB hr hm hw (p := p) (aM A w) 0 FU 0 (by omega) (show aM A w < 5000 by omega) (Or.inl rfl)
  rw [if_pos rfl] at g
  exact g
/-- was it ever sold -/
def soldR (A : Ab) (w : Int32) : Nat → Nat → Bool
  | 0, _ => false
  | m + 1, i => if A 97 i = 2 ∧ A 98 i = w then true else soldR A w m (i + 1)
theorem soldR_iff {A : Ab} {w : Int32} : ∀ m i, soldR A w m i = true ↔ ∃ f, i ≤ f ∧ f < i + m ∧ A 97 f = 2 ∧ A 98 f = w
  | 0, i => ⟨fun h => (by cases h), fun ⟨f, h1, h2, _⟩ => by omega⟩
  | m + 1, i => by
    unfold soldR
    by_cases c : A 97 i = 2 ∧ A 98 i = w
    · rw [if_pos c]
      exact ⟨fun _ => ⟨i, Nat.le_refl _, by omega, c⟩, fun _ => rfl⟩
    · rw [if_neg c, soldR_iff m (i + 1)]
      constructor
      · rintro ⟨f, h1, h2, h3⟩
        exact ⟨f, by omega, by omega, h3⟩
      · rintro ⟨f, h1, h2, h3⟩
        have : f ≠ i := fun q => c (q ▸ h3)
        exact ⟨f, by omega, by omega, h3⟩
theorem C_ever_l {A : Ab} {σ : Sto} (h : CB A σ) {w : Int32} : ∀ m i fuel, i + m = cT 4 A → m < fuel → mX1_wasEverSold_2 fuel w (Int32.ofNat i) σ = some (if soldR A w m i then 1 else 0) := by
  have hl : cT 4 A ≤ 200 := (h.1.le (c := 4) (by decide)).1
  have hn : sI σ 33 11 = Int32.ofNat (cT 4 A) := h.num (c := 4) (by decide)
  intro m
  induction m with
  | zero =>
    intro i fuel hi hf
    obtain ⟨n, rfl⟩ : ∃ n, fuel = n + 1 := ⟨fuel - 1, by omega⟩
    show mX1_wasEverSold_2B (mX1_wasEverSold_2 n) _ _ σ = _
    unfold mX1_wasEverSold_2B
    rw [hn, if_pos ((oI_le (by omega) (by omega)).mpr (by omega))]
    rfl
  | succ m ih =>
    intro i fuel hi hf
    obtain ⟨n, rfl⟩ : ∃ n, fuel = n + 1 := ⟨fuel - 1, by omega⟩
    have hi2 : i < cT 4 A := by omega
    show mX1_wasEverSold_2B (mX1_wasEverSold_2 n) _ _ σ = _
    unfold mX1_wasEverSold_2B soldR
    obtain ⟨k0, f0, f2, f3, -⟩ := h.fa hi2
    rw [hn, if_neg (fun q => absurd ((oI_le (by omega) (by omega)).mp q) (by omega)), h.at4 hi2, bnd_some, if_pos k0, f2, bnd_some, if_pos k0, f3, oI_s, ih (i + 1) n (by omega) (by omega)]
    by_cases c1 : A 97 i = 2
    · rw [if_pos c1]
      by_cases c2 : A 98 i = w
      · rw [if_pos c2, if_pos (show A 97 i = 2 ∧ A 98 i = w from ⟨c1, c2⟩)]; rfl
      · rw [if_neg c2, if_neg (fun q : A 97 i = 2 ∧ A 98 i = w => c2 q.2)]
    · rw [if_neg c1, if_neg (fun q : A 97 i = 2 ∧ A 98 i = w => c1 q.1)]
theorem C_ever {A : Ab} {σ : Sto} (h : CB A σ) (hs : ISold A) {w : Nat} (hw : w < cT 1 A) : mX1_wasEverSold (Int32.ofNat w) σ = some (A 91 w) := by
  have hl : cT 4 A ≤ 200 := (h.1.le (c := 4) (by decide)).1
  have g := C_ever_l h (w := Int32.ofNat w) (cT 4 A) 0 FU (by omega) (show cT 4 A < 5000 by omega)
  obtain ⟨s1, s2⟩ := hs w hw
  refine g.trans ?_
  have e : soldR A (Int32.ofNat w) (cT 4 A) 0 = true ↔ A 91 w = 1 := by
    rw [soldR_iff, s2]
    exact ⟨fun ⟨f, _, h2, h3⟩ => ⟨f, by omega, h3⟩, fun ⟨f, h2, h3⟩ => ⟨f, by omega, by omega, h3⟩⟩
  cases c : soldR A (Int32.ofNat w) (cT 4 A) 0 with
  | true => rw [e.mp c]; rfl
  | false =>
    rcases s1 with q | q
    · rw [q]; rfl
    · rw [e.mpr q] at c; cases c
