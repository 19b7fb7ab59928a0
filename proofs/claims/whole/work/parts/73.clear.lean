/-! the clearing -/
theorem q_30 {p : Nat} (h : p < 30) : ¬ (30 : Int32) ≤ Int32.ofNat p := fun q => absurd ((oI_le (j := 30) (by decide) (by omega)).mp q) (by omega)
theorem q_25 {p : Nat} (h : p < 25) : ¬ (25 : Int32) ≤ Int32.ofNat p := fun q => absurd ((oI_le (j := 25) (by decide) (by omega)).mp q) (by omega)
theorem q_32 {p : Nat} (h : p < 32) : ¬ (32 : Int32) ≤ Int32.ofNat p := fun q => absurd ((oI_le (j := 32) (by decide) (by omega)).mp q) (by omega)
theorem q_5 {p : Nat} (h : p < 5) : ¬ (5 : Int32) ≤ Int32.ofNat p := fun q => absurd ((oI_le (j := 5) (by decide) (by omega)).mp q) (by omega)
def WL (a : Nat) (σ σ' : Sto) : Prop := sZ σ' = sZ σ ∧ (∀ b, sK σ' b = sK σ b) ∧ (∀ b, sN σ' b = sN σ b) ∧ (∀ b k, sR σ' b k = sR σ b k) ∧ (∀ b k, sI σ' b k = sI σ b k) ∧ ∀ b k, b ≠ a → sL σ' b k = sL σ b k
theorem WL.rf {a : Nat} {σ : Sto} : WL a σ σ := ⟨rfl, fun _ => rfl, fun _ => rfl, fun _ _ => rfl, fun _ _ => rfl, fun _ _ _ => rfl⟩
theorem WL.tr {a : Nat} {x y z : Sto} (h : WL a x y) (g : WL a y z) : WL a x z :=
  ⟨g.1.trans h.1, fun b => (g.2.1 b).trans (h.2.1 b), fun b => (g.2.2.1 b).trans (h.2.2.1 b), fun b k => (g.2.2.2.1 b k).trans (h.2.2.2.1 b k), fun b k => (g.2.2.2.2.1 b k).trans (h.2.2.2.2.1 b k), fun b k hb => (g.2.2.2.2.2 b k hb).trans (h.2.2.2.2.2 b k hb)⟩
theorem WL.w {a : Nat} {σ : Sto} (k : Nat) (v : Int64) : WL a σ (wL σ a k v) :=
  ⟨rfl, fun _ => rfl, fun _ => rfl, fun _ _ => rfl, fun _ _ => rfl, fun b j hb => by rw [sL_wL, if_neg (fun q => hb q.1)]⟩
theorem WL.sc {σ σ' : Sto} (h : WL 64 σ σ') : Sc σ σ' := ⟨h.1, h.2.1, h.2.2.1, fun b k _ => h.2.2.2.1 b k, fun b _ _ k => h.2.2.2.2.1 b k, fun b hb k => h.2.2.2.2.2 b k (by omega)⟩
theorem WL.onM {σ σ' : Sto} (h : WL 142 σ σ') : OnlyM σ σ' := ⟨h.1, h.2.1, h.2.2.1, h.2.2.2.1, fun k => h.2.2.2.2.2 145 k (by decide), fun b hb => ⟨fun k => h.2.2.2.2.1 b k, fun k => h.2.2.2.2.2 b k (by omega)⟩⟩
theorem JJ.wl {A : Ab} {k : Nat} {σ σ' ρ ρ' : Sto} (h : JJ A k σ ρ) (s : WL 64 σ σ') (t : WL 142 ρ ρ') : JJ A k σ' ρ' := by
  obtain ⟨h1, h2, h3, h4, h5⟩ := h
  have rI := t.2.2.2.2.1
  refine ⟨h1.sc s.sc, ⟨by rw [s.2.2.2.2.1]; exact h2.1, fun p hp => by rw [s.2.2.2.2.1, s.2.2.2.2.1]; exact h2.2 p hp⟩, fun a j hp => by rw [rI]; exact h3 a j hp, ⟨by rw [rI]; exact h4.1, fun p hp => by rw [rI, rI]; exact h4.2.1 p hp, fun p hp => by rw [rI]; exact h4.2.2.1 p hp, fun p hp => (h4.2.2.2 p hp).eq (fun j => rI 132 j)⟩, by rw [rI]; exact h5⟩
/-- what is owed is the same -/
def OE (A : Ab) (σ ρ : Sto) : Prop := (∀ j, j < 25 → sL σ 64 j = sL ρ 142 j) ∧ ∀ a b, a < 5 → b < 5 → (cT 2 A ≤ a ∨ cT 2 A ≤ b) → sL ρ 142 (5 * a + b) = 0
theorem C_pair {c : Nat} {σ : Sto} (hc : c < 5) : mX2_pairOf (Int32.ofNat c) (-1) σ = -1 ∧ ∀ j, j < 5 → mX2_pairOf (Int32.ofNat c) (Int32.ofNat j) σ = Int32.ofNat (5 * c + j) := by
  have wi : ∀ j, j < 5 → ¬ mX11_isWithin (Int32.ofNat j) 0 4 σ = 0 := fun j hj q => by
    rcases C_isW.mp q with z | z
    · exact oI_nn (by omega) z
    · exact absurd ((oI_lt (j := 4) (n := j) (by decide) (by omega)).mp z) (by omega)
  constructor
  · unfold mX2_pairOf
    rw [if_neg (wi c hc), if_pos (C_isW.mpr (Or.inl (by decide)))]
    rfl
  · intro j hj
    unfold mX2_pairOf mX2_pairOf_23
    rw [if_neg (wi c hc), if_neg (wi j hj), if_neg i10]
    show Int32.ofNat c * Int32.ofNat 5 + Int32.ofNat j = _
    rw [oI_mul, oI_add, Nat.mul_comm]
theorem add_z {c : Nat} (hc : c < 5) : ∀ m p fuel σ, p + m = 30 → m < fuel → (∀ q, p ≤ q → q < 30 → sI σ 61 q = -1) → mX2_addOwed_2 fuel (Int32.ofNat c) (Int32.ofNat p) σ = some σ := by
  intro m
  induction m with
  | zero =>
    intro p fuel σ hp hf h
    obtain ⟨n, rfl⟩ : ∃ n, fuel = n + 1 := ⟨fuel - 1, by omega⟩
    have e : p = 30 := by omega
    subst e
    show mX2_addOwed_2B (mX2_addOwed_2 n) _ _ σ = _
    unfold mX2_addOwed_2B
    rw [if_pos (by decide)]
  | succ m ih =>
    intro p fuel σ hp hf h
    obtain ⟨n, rfl⟩ : ∃ n, fuel = n + 1 := ⟨fuel - 1, by omega⟩
    show mX2_addOwed_2B (mX2_addOwed_2 n) _ _ σ = _
    unfold mX2_addOwed_2B
    rw [if_neg (q_30 (p := p) (by omega)), if_pos (oI_inb (j := p) (n := 30) (by omega) (by decide)), oI_cl (j := p) (by omega), h p (Nat.le_refl _) (by omega), (C_pair hc).1, if_pos rfl, oI_s]
    exact ih (p + 1) n σ (by omega) (by omega) (fun q q1 q2 => h q (by omega) q2)
/-- the rows that are added -/
def RO (A : Ab) (σ ρ : Sto) : Prop := (∀ q, q < 30 → sI σ 61 q = sI ρ 139 q ∧ sI σ 59 q = sI ρ 137 q ∧ (sI ρ 139 q = -1 ∨ inR (sI ρ 139 q) (cT 2 A))) ∧ ∀ q, cT 0 A ≤ q → q < 30 → sI σ 61 q = -1
theorem add_l {A : Ab} (hB : IB A) {c : Nat} (hcc : c < cT 2 A) {f28 : Int32 → Int32 → Int32 → Sto → Option Sto} {yr kk x3 : Int32} : ∀ m p fuel fuel' σ ρ, p + m = cT 0 A → 30 < fuel + p → m < fuel' → RO A σ ρ → sI ρ 81 3 = Int32.ofNat (cT 0 A) → sI ρ 81 86 = Int32.ofNat c → OE A σ ρ →
    ∃ σ' ρ', mX2_addOwed_2 fuel (Int32.ofNat c) (Int32.ofNat p) σ = some σ' ∧ mX12_clears_57 f28 fuel' yr kk x3 (Int32.ofNat p) ρ = f28 yr kk (x3 + 1) ρ' ∧ WL 64 σ σ' ∧ WL 142 ρ ρ' ∧ OE A σ' ρ' := by
  have hl0 : cT 0 A ≤ 30 := (hB.le (c := 0) (by decide)).1
  have hl2 : cT 2 A ≤ 5 := (hB.le (c := 2) (by decide)).1
  have hc : c < 5 := by omega
  intro m
  induction m with
  | zero =>
    intro p fuel fuel' σ ρ hp hf hf' hR h3 h86 hE
    obtain ⟨n', rfl⟩ : ∃ n, fuel' = n + 1 := ⟨fuel' - 1, by omega⟩
    refine ⟨σ, ρ, add_z hc (30 - p) p fuel σ (by omega) (by omega) (fun q q1 q2 => hR.2 q (by omega) q2), ?_, WL.rf, WL.rf, hE⟩
    show mX12_clears_57B f28 (mX12_clears_57 f28 n') _ _ _ _ ρ = _
    unfold mX12_clears_57B
    rw [h3, if_pos ((oI_le (by omega) (by omega)).mpr (by omega))]
  | succ m ih =>
    intro p fuel fuel' σ ρ hp hf hf' hR h3 h86 hE
    obtain ⟨n, rfl⟩ : ∃ n, fuel = n + 1 := ⟨fuel - 1, by omega⟩
    obtain ⟨n', rfl⟩ : ∃ n, fuel' = n + 1 := ⟨fuel' - 1, by omega⟩
    have p30 := oI_inb (j := p) (n := 30) (by omega) (by decide)
    obtain ⟨r1, r2, r3⟩ := hR.1 p (by omega)
    have nc : ¬ Int32.ofNat c = -1 := ne_neg1 (by omega)
    have stepC : mX2_addOwed_2 (n + 1) (Int32.ofNat c) (Int32.ofNat p) σ = if mX2_pairOf (Int32.ofNat c) (sI ρ 139 p) σ = -1 then mX2_addOwed_2 n (Int32.ofNat c) (Int32.ofNat (p + 1)) σ else if sI ρ 139 p = Int32.ofNat c then mX2_addOwed_2 n (Int32.ofNat c) (Int32.ofNat (p + 1)) σ else if inb (mX2_pairOf (Int32.ofNat c) (sI ρ 139 p) σ) 25 then mX2_addOwed_2 n (Int32.ofNat c) (Int32.ofNat (p + 1)) (wL σ 64 (mX2_pairOf (Int32.ofNat c) (sI ρ 139 p) σ).toNatClampNeg (sL σ 64 (mX2_pairOf (Int32.ofNat c) (sI ρ 139 p) σ).toNatClampNeg + (sI ρ 137 p).toInt64)) else none := by
      refine Eq.trans (b := mX2_addOwed_2B (mX2_addOwed_2 n) (Int32.ofNat c) (Int32.ofNat p) σ) rfl ?_
      unfold mX2_addOwed_2B
      rw [if_neg (q_30 (p := p) (by omega)), if_pos p30, oI_cl (j := p) (by omega), r1, r2, oI_s]
    have stepM : mX12_clears_57 f28 (n' + 1) yr kk x3 (Int32.ofNat p) ρ = if sI ρ 139 p = -1 then mX12_clears_57 f28 n' yr kk x3 (Int32.ofNat (p + 1)) ρ else if sI ρ 139 p = Int32.ofNat c then mX12_clears_57 f28 n' yr kk x3 (Int32.ofNat (p + 1)) ρ else if inb (5 * Int32.ofNat c + sI ρ 139 p) 25 then mX12_clears_57 f28 n' yr kk x3 (Int32.ofNat (p + 1)) (wL ρ 142 (5 * Int32.ofNat c + sI ρ 139 p).toNatClampNeg (sL ρ 142 (5 * Int32.ofNat c + sI ρ 139 p).toNatClampNeg + (sI ρ 137 p).toInt64)) else none := by
      refine Eq.trans (b := mX12_clears_57B f28 (mX12_clears_57 f28 n') yr kk x3 (Int32.ofNat p) ρ) rfl ?_
      unfold mX12_clears_57B
      rw [h3, if_neg (fun q => absurd ((oI_le (by omega) (by omega)).mp q) (by omega)), h86, if_neg nc, if_pos p30, oI_cl (j := p) (by omega), oI_s]
    rw [stepC, stepM]
    have hR' : ∀ σ' ρ', WL 64 σ σ' → WL 142 ρ ρ' → RO A σ' ρ' := fun σ' ρ' s t => ⟨fun q hq => by rw [s.2.2.2.2.1, s.2.2.2.2.1, t.2.2.2.2.1, t.2.2.2.2.1]; exact hR.1 q hq, fun q q1 q2 => by rw [s.2.2.2.2.1]; exact hR.2 q q1 q2⟩
    rcases r3 with r3 | ⟨j, j1, j2⟩
    · rw [r3, (C_pair hc).1, if_pos rfl, if_pos rfl]
      exact ih (p + 1) n n' σ ρ (by omega) (by omega) (by omega) hR h3 h86 hE
    · rw [j2, (C_pair hc).2 j (by omega), if_neg (ne_neg1 (by omega)), if_neg (ne_neg1 (by omega))]
      by_cases cj : Int32.ofNat j = Int32.ofNat c
      · rw [if_pos cj, if_pos cj]
        exact ih (p + 1) n n' σ ρ (by omega) (by omega) (by omega) hR h3 h86 hE
      · rw [if_neg cj, if_neg cj]
        have e5 : (5 : Int32) * Int32.ofNat c + Int32.ofNat j = Int32.ofNat (5 * c + j) := by
          show Int32.ofNat 5 * Int32.ofNat c + Int32.ofNat j = _
          rw [oI_mul, oI_add]
        rw [e5, if_pos (oI_inb (j := 5 * c + j) (n := 25) (by omega) (by decide)), if_pos (oI_inb (j := 5 * c + j) (n := 25) (by omega) (by decide)), oI_cl (j := 5 * c + j) (by omega), ← hE.1 (5 * c + j) (by omega)]
        generalize sL σ 64 (5 * c + j) + (sI ρ 137 p).toInt64 = v
        have w1 : WL 64 σ (wL σ 64 (5 * c + j) v) := WL.w _ _
        have w2 : WL 142 ρ (wL ρ 142 (5 * c + j) v) := WL.w _ _
        obtain ⟨σ', ρ', z1, z2, z3, z4, z5⟩ := ih (p + 1) n n' (wL σ 64 (5 * c + j) v) (wL ρ 142 (5 * c + j) v) (by omega) (by omega) (by omega) (hR' _ _ w1 w2) h3 h86 ⟨fun t ht => by
          rw [sL_wL, sL_wL]
          by_cases e : t = 5 * c + j
          · rw [if_pos ⟨rfl, e⟩, if_pos ⟨rfl, e⟩]
          · rw [if_neg (fun z => e z.2), if_neg (fun z => e z.2)]; exact hE.1 t ht, fun a b ha hb hab => by
          rw [sL_wL, if_neg (by omega)]
          exact hE.2 a b ha hb hab⟩
        exact ⟨σ', ρ', z1, z2, w1.tr z3, w2.tr z4, z5⟩
theorem clear_l {A : Ab} {k : Nat} {yr : Int32} (hk : k ≤ 999) (hh : IHeir A) (hcl : IClaim A) : ∀ m i fuel fuel' σ ρ, JJ A k σ ρ → OE A σ ρ → i + m = cT 4 A → m < fuel → m < fuel' → ∃ σ' ρ', mX2_clear_34 fuel yr (Int32.ofNat k) (Int32.ofNat i) σ = some σ' ∧ mX12_clears_28 fuel' yr (Int32.ofNat k) (Int32.ofNat i) ρ = some ρ' ∧ Sc σ σ' ∧ OnlyM ρ ρ' ∧ sI ρ' 81 0 = sI ρ 81 0 ∧ JJ A k σ' ρ' ∧ OE A σ' ρ' := by
  intro m
  induction m with
  | zero =>
    intro i fuel fuel' σ ρ hJ hE hi hf hf'
    obtain ⟨n, rfl⟩ : ∃ n, fuel = n + 1 := ⟨fuel - 1, by omega⟩
    obtain ⟨n', rfl⟩ : ∃ n, fuel' = n + 1 := ⟨fuel' - 1, by omega⟩
    have h := hJ.1
    have hl4 : cT 4 A ≤ 200 := (h.1.le (c := 4) (by decide)).1
    have hn : sI σ 33 11 = Int32.ofNat (cT 4 A) := h.num (c := 4) (by decide)
    have hn2 : sI ρ 81 7 = Int32.ofNat (cT 4 A) := (hJ.2.2.1 81 7 rfl).trans (h.1.le (c := 4) (by decide)).2
    refine ⟨σ, ρ, ?_, ?_, Sc.rf, OnlyM.rf, rfl, hJ, hE⟩
    · show mX2_clear_34B (mX2_clear_34 n) _ _ _ σ = _
      unfold mX2_clear_34B
      rw [hn, if_pos ((oI_le (by omega) (by omega)).mpr (by omega))]
    · show mX12_clears_28B (mX12_clears_28 n') _ _ _ ρ = _
      unfold mX12_clears_28B
      rw [hn2, if_pos ((oI_le (by omega) (by omega)).mpr (by omega))]
  | succ m ih =>
    intro i fuel fuel' σ ρ hJ hE hi hf hf'
    obtain ⟨n, rfl⟩ : ∃ n, fuel = n + 1 := ⟨fuel - 1, by omega⟩
    obtain ⟨n', rfl⟩ : ∃ n, fuel' = n + 1 := ⟨fuel' - 1, by omega⟩
    have h := hJ.1
    have hr := h.2.2.2.2.2.1
    have hi2 : i < cT 4 A := by omega
    have hl4 : cT 4 A ≤ 200 := (h.1.le (c := 4) (by decide)).1
    have hl2 : cT 2 A ≤ 5 := (h.1.le (c := 2) (by decide)).1
    have hl0 : cT 0 A ≤ 30 := (h.1.le (c := 0) (by decide)).1
    have hn : sI σ 33 11 = Int32.ofNat (cT 4 A) := h.num (c := 4) (by decide)
    have hn2 : sI ρ 81 7 = Int32.ofNat (cT 4 A) := (hJ.2.2.1 81 7 rfl).trans (h.1.le (c := 4) (by decide)).2
    have lt : ¬ Int32.ofNat (cT 4 A) ≤ Int32.ofNat i := fun q => absurd ((oI_le (by omega) (by omega)).mp q) (by omega)
    obtain ⟨k0, f0, f2, f3, f4, f5, f6, f7, f8, f9, f10, -⟩ := h.fa hi2
    have stepM : mX12_clears_28 (n' + 1) yr (Int32.ofNat k) (Int32.ofNat i) ρ = if (yrB A i yr && knB A i k) = true then ((mX12_sells (Int32.ofNat i) ρ).bind fun σ6 => mX12_clears_57 (mX12_clears_28 n') FU yr (Int32.ofNat k) (Int32.ofNat i) 0 σ6) else mX12_clears_28 n' yr (Int32.ofNat k) (Int32.ofNat (i + 1)) ρ := by
      refine Eq.trans (b := mX12_clears_28B (mX12_clears_28 n') yr (Int32.ofNat k) (Int32.ofNat i) ρ) rfl ?_
      unfold mX12_clears_28B
      rw [hn2, if_neg lt, M_of h.1 hr hJ.2.2.1 hi2 hk, bnd_some, oI_s]
      cases (yrB A i yr && knB A i k) <;> rfl
    have stepC : mX2_clear_34 (n + 1) yr (Int32.ofNat k) (Int32.ofNat i) σ = if oB (colV A (if A 97 i = 2 then A 103 i else -1)) = -1 then mX2_clear_34 n yr (Int32.ofNat k) (Int32.ofNat (i + 1)) σ else if (yrB A i yr && knB A i k) = true then ((mX0_settle (sR σ 38 i) (Int32.ofNat i) σ).bind fun σ12 => (mX2_addOwed (oB (colV A (if A 97 i = 2 then A 103 i else -1))) σ12).bind fun σ13 => mX2_clear_34 n yr (Int32.ofNat k) (Int32.ofNat (i + 1)) σ13) else mX2_clear_34 n yr (Int32.ofNat k) (Int32.ofNat (i + 1)) σ := by
      refine Eq.trans (b := mX2_clear_34B (mX2_clear_34 n) yr (Int32.ofNat k) (Int32.ofNat i) σ) rfl ?_
      unfold mX2_clear_34B
      rw [hn, if_neg lt, h.at4 hi2, bnd_some, if_pos k0, f10, C_col h, bnd_some, C_of h hi2, bnd_some, h.known hi2 hk, bnd_some, oI_s]
      by_cases q : oB (colV A (if A 97 i = 2 then A 103 i else -1)) = -1
      · rw [if_pos q, if_pos q]
      · rw [if_neg q, if_neg q]
        cases yrB A i yr <;> cases knB A i k <;> rfl
    rw [stepC, stepM]
    by_cases c : (yrB A i yr && knB A i k) = true
    · rw [if_pos c, if_pos c]
      rw [Bool.and_eq_true] at c
      have ks := (yrB_iff.mp c.1).1
      rw [if_pos ks]
      obtain ⟨i', w, y, mm, σ1, ρ1, y01, mb, hw, hws, q1, q2, q3, q4, q5, q6, q7, q8⟩ := settle_eq hk hi2 ks hh hcl hJ
      rw [q2, bnd_some]
      have h1 := q5.1
      have n3 : sI ρ1 81 3 = Int32.ofNat (cT 0 A) := (q5.2.2.1 81 3 rfl).trans (h.1.le (c := 0) (by decide)).2
      have v86 := q7.2.2.2.2.2.2.1
      cases ec : colV A (A 103 i) with
      | none =>
        rw [ec] at v86
        rw [if_pos (show oB none = -1 from rfl)]
        have e57 : mX12_clears_57 (mX12_clears_28 n') FU yr (Int32.ofNat k) (Int32.ofNat i) 0 ρ1 = mX12_clears_28 n' yr (Int32.ofNat k) (Int32.ofNat (i + 1)) ρ1 := by
          refine Eq.trans (b := mX12_clears_57B (mX12_clears_28 n') (mX12_clears_57 (mX12_clears_28 n') 4999) yr (Int32.ofNat k) (Int32.ofNat i) 0 ρ1) rfl ?_
          unfold mX12_clears_57B
          rw [v86, oI_s, if_pos (show oB none = -1 from rfl), ite_self]
        rw [e57]
        obtain ⟨σ', ρ', z1, z2, z3, z4, z5, z6, z7⟩ := ih (i + 1) n n' σ ρ1 ⟨h, hJ.2.1, q5.2.2.1, q5.2.2.2.1, q5.2.2.2.2⟩ ⟨fun j hj => by rw [q4.2.2.2.2.1]; exact hE.1 j hj, fun a b ha hb hab => by rw [q4.2.2.2.2.1]; exact hE.2 a b ha hb hab⟩ (by omega) (by omega) (by omega)
        exact ⟨σ', ρ', z1, z2, z3, (q4.onM SX_rng).tr z4, z5.trans (q4.2.2.2.2.2 81 0 (by unfold SX; omega)), z6, z7⟩
      | some cc =>
        rw [ec] at v86
        have hcc : cc < cT 2 A := by have := firstS_lt _ _ _ ec; omega
        have e1 : oB (some cc) = Int32.ofNat cc := rfl
        rw [e1] at v86 ⊢
        rw [if_neg (ne_neg1 (by omega)), q1, bnd_some]
        have gz : ∀ q, cT 0 A ≤ q → q < 30 → goN A i k (shN A i' i w k y mm) q = 0 := fun q u1 u2 => go_no h.1 hr (fun t t1 t2 => shN_no h.1 hr hw t1 (by omega)) u1 u2
        have hRO : RO A σ1 ρ1 := ⟨fun q hq => by
          obtain ⟨-, -, a3, a4, a5⟩ := q6.2.2.2.2.2.2 q hq
          obtain ⟨-, -, b3, b4, b5⟩ := q7.2.2.2.2.2.2.2.2 q hq
          rw [a3, a5, b3, b5]
          refine ⟨rfl, rfl, ?_⟩
          unfold soV
          by_cases z : goN A i k (shN A i' i w k y mm) q = 0
          · rw [if_pos z]; exact Or.inl rfl
          · rw [if_neg z]; exact md_in hr _ (Nat.le_refl _), fun q u1 u2 => by
          rw [(q6.2.2.2.2.2.2 q u2).2.2.2.2]
          exact if_pos (gz q u1 u2)⟩
        obtain ⟨σ2, ρ2, a1, a2, a3, a4, a5⟩ := add_l (f28 := mX12_clears_28 n') (yr := yr) (kk := Int32.ofNat k) (x3 := Int32.ofNat i) h.1 (c := cc) hcc (cT 0 A) 0 FU FU σ1 ρ1 (by omega) (show 30 < 5000 + 0 by omega) (show cT 0 A < 5000 by omega) hRO n3 v86 ⟨fun j hj => by rw [q8, q4.2.2.2.2.1]; exact hE.1 j hj, fun a b ha hb hab => by rw [q4.2.2.2.2.1]; exact hE.2 a b ha hb hab⟩
        rw [show mX2_addOwed (Int32.ofNat cc) σ1 = some σ2 from a1, bnd_some]
        rw [show mX12_clears_57 (mX12_clears_28 n') FU yr (Int32.ofNat k) (Int32.ofNat i) 0 ρ1 = mX12_clears_28 n' yr (Int32.ofNat k) (Int32.ofNat i + 1) ρ2 from a2, oI_s]
        obtain ⟨σ', ρ', z1, z2, z3, z4, z5, z6, z7⟩ := ih (i + 1) n n' σ2 ρ2 (q5.wl a3 a4) a5 (by omega) (by omega) (by omega)
        exact ⟨σ', ρ', z1, z2, (q3.tr a3.sc).tr z3, ((q4.onM SX_rng).tr a4.onM).tr z4, z5.trans ((a4.2.2.2.2.1 81 0).trans (q4.2.2.2.2.2 81 0 (by unfold SX; omega))), z6, z7⟩
    · rw [if_neg c, if_neg c, ite_self]
      exact ih (i + 1) n n' σ ρ hJ hE (by omega) (by omega) (by omega)
theorem C_clr {yr kk : Int32} : ∀ m p fuel σ, p + m = 25 → m < fuel → (∀ j, j < p → sL σ 64 j = 0) → ∃ σ', mX2_clear_2 fuel yr kk (Int32.ofNat p) σ = ((mX0_open kk σ').bind fun σ2 => mX2_clear_34 FU yr kk 0 σ2) ∧ WL 64 σ σ' ∧ ∀ j, j < 25 → sL σ' 64 j = 0 := by
  intro m
  induction m with
  | zero =>
    intro p fuel σ hp hf h
    obtain ⟨n, rfl⟩ : ∃ n, fuel = n + 1 := ⟨fuel - 1, by omega⟩
    have e : p = 25 := by omega
    subst e
    refine ⟨σ, ?_, WL.rf, h⟩
    show mX2_clear_2B (mX2_clear_2 n) _ _ _ σ = _
    unfold mX2_clear_2B
    rw [if_pos (by decide)]
  | succ m ih =>
    intro p fuel σ hp hf h
    obtain ⟨n, rfl⟩ : ∃ n, fuel = n + 1 := ⟨fuel - 1, by omega⟩
    have step : mX2_clear_2 (n + 1) yr kk (Int32.ofNat p) σ = mX2_clear_2 n yr kk (Int32.ofNat (p + 1)) (wL σ 64 p 0) := by
      refine Eq.trans (b := mX2_clear_2B (mX2_clear_2 n) yr kk (Int32.ofNat p) σ) rfl ?_
      unfold mX2_clear_2B
      rw [if_neg (q_25 (p := p) (by omega)), if_pos (oI_inb (j := p) (n := 25) (by omega) (by decide)), oI_cl (j := p) (by omega), oI_s]
    obtain ⟨σ', z1, z2, z3⟩ := ih (p + 1) n (wL σ 64 p 0) (by omega) (by omega) (fun j hj => by
      rw [sL_wL]
      by_cases e : j = p
      · rw [if_pos ⟨rfl, e⟩]
      · rw [if_neg (fun z => e z.2)]; exact h j (by omega))
    exact ⟨σ', step.trans z1, (WL.w p 0).tr z2, z3⟩
theorem M_clr25 {yr kk : Int32} : ∀ m p fuel ρ, p + m = 25 → m < fuel → (∀ j, j < p → sL ρ 142 j = 0) → ∃ ρ', mX12_clears_7 fuel yr kk (Int32.ofNat p) ρ = mX12_clears_28 FU yr kk 0 ρ' ∧ WL 142 ρ ρ' ∧ ∀ j, j < 25 → sL ρ' 142 j = 0 := by
  intro m
  induction m with
  | zero =>
    intro p fuel ρ hp hf h
    obtain ⟨n, rfl⟩ : ∃ n, fuel = n + 1 := ⟨fuel - 1, by omega⟩
    have e : p = 25 := by omega
    subst e
    refine ⟨ρ, ?_, WL.rf, h⟩
    show mX12_clears_7B (mX12_clears_7 n) _ _ _ ρ = _
    unfold mX12_clears_7B
    rw [if_pos (by decide)]
  | succ m ih =>
    intro p fuel ρ hp hf h
    obtain ⟨n, rfl⟩ : ∃ n, fuel = n + 1 := ⟨fuel - 1, by omega⟩
    have step : mX12_clears_7 (n + 1) yr kk (Int32.ofNat p) ρ = mX12_clears_7 n yr kk (Int32.ofNat (p + 1)) (wL ρ 142 p 0) := by
      refine Eq.trans (b := mX12_clears_7B (mX12_clears_7 n) yr kk (Int32.ofNat p) ρ) rfl ?_
      unfold mX12_clears_7B
      rw [if_neg (q_25 (p := p) (by omega)), if_pos (oI_inb (j := p) (n := 25) (by omega) (by decide)), oI_cl (j := p) (by omega), oI_s]
    obtain ⟨ρ', z1, z2, z3⟩ := ih (p + 1) n (wL ρ 142 p 0) (by omega) (by omega) (fun j hj => by
      rw [sL_wL]
      by_cases e : j = p
      · rw [if_pos ⟨rfl, e⟩]
      · rw [if_neg (fun z => e z.2)]; exact h j (by omega))
    exact ⟨ρ', step.trans z1, (WL.w p 0).tr z2, z3⟩
theorem clear_all {A : Ab} {σ : Sto} {k : Nat} {yr : Int32} (h : Rel A σ) (hk : k ≤ 999) : ∃ σ', mX2_clear yr (Int32.ofNat k) σ = some σ' ∧ Sc σ σ' ∧ ∀ ρ0, RM A ρ0 → ∃ ρ', mX12_clears yr (Int32.ofNat k) ρ0 = some ρ' ∧ OnlyM ρ0 ρ' ∧ RM A ρ' ∧ sI ρ' 81 0 = sI ρ0 81 0 ∧ OE A σ' ρ' := by
  have hl4 : cT 4 A ≤ 200 := (h.1.le (c := 4) (by decide)).1
  have hf : cT 4 A < FU := show cT 4 A < 5000 by omega
  obtain ⟨σ1, a1, a2, a3⟩ := C_clr (yr := yr) (kk := Int32.ofNat k) 25 0 FU σ rfl (show 25 < 5000 by omega) (fun j hj => by omega)
  obtain ⟨σo, o1, o2, o3, o4⟩ := C_open hk (h.cb.sc a2.sc)
  have ho := (h.cb.sc a2.sc).sc o2
  -- opening leaves what is owed
  have key : ∀ ρ0, RM A ρ0 → ∃ σ' ρ', mX2_clear yr (Int32.ofNat k) σ = some σ' ∧ mX12_clears yr (Int32.ofNat k) ρ0 = some ρ' ∧ Sc σ σ' ∧ OnlyM ρ0 ρ' ∧ RM A ρ' ∧ sI ρ' 81 0 = sI ρ0 81 0 ∧ OE A σ' ρ' := fun ρ0 hm => by
    obtain ⟨ρ1, e1, e2, e3, e4, e5, e6⟩ := M_gath h.1 h.row hk hm
    obtain ⟨ρ2, b1, b2, b3⟩ := M_clr25 (yr := yr) (kk := Int32.ofNat k) 25 0 FU ρ1 rfl (show 25 < 5000 by omega) (fun j hj => by omega)
    have hJ : JJ A k σo ρ2 := (JJ.of h.z ho o3 e3 e6).wl WL.rf b2
    obtain ⟨σ', ρ', z1, z2, z3, z4, z5, z6, z7⟩ := clear_l (yr := yr) hk h.hr h.cl (cT 4 A) 0 FU FU σo ρ2 hJ ⟨fun j hj => by rw [b3 j hj, o4]; exact a3 j hj, fun a b ha hb _ => b3 _ (by omega)⟩ (by omega) hf hf
    refine ⟨σ', ρ', ?_, ?_, (a2.sc.tr o2).tr z3, (e2.tr b2.onM).tr z4, z6.2.2.1, z5.trans ((b2.2.2.2.2.1 81 0).trans e4), z7⟩
    · refine a1.trans ?_
      rw [o1, bnd_some]
      exact z1
    · unfold mX12_clears
      rw [e1, bnd_some]
      exact b1.trans z2
  obtain ⟨σ', -, x1, -, x3, -⟩ := key σ h.2.2.1
  refine ⟨σ', x1, x3, fun ρ0 hm => ?_⟩
  obtain ⟨σ'', ρ', y1, y2, y3, y4, y5, y6, y7⟩ := key ρ0 hm
  have e : σ'' = σ' := by
    rw [x1] at y1
    exact (Option.some.inj y1).symm
  rw [e] at y7
  exact ⟨ρ', y2, y4, y5, y6, y7⟩
