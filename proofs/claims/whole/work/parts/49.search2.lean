/-! laws of a land for a day -/
def knL (A : Ab) (i k : Nat) : Bool := decide ((A 114 i).toNatClampNeg ≤ k) && (A 115 i == -1 || decide (k < (A 115 i).toNatClampNeg))
theorem kn_intL {A : Ab} {i t k : Nat} (ht : t ≤ 999) (hk : k ≤ 999) (e1 : A 114 i = Int32.ofNat t) (e2 : A 115 i = -1 ∨ ∃ b, b ≤ 999 ∧ A 115 i = Int32.ofNat b) :
    (if Int32.ofNat k < A 114 i then (some 0 : Option Int32) else if nev (A 115 i) ≤ Int32.ofNat k then some 0 else some 1) = some (if knL A i k then 1 else 0) ∧
    (if Int32.ofNat k < A 114 i then (some 0 : Option Int32) else if A 115 i = -1 then some 1 else if A 115 i ≤ Int32.ofNat k then some 0 else some 1) = some (if knL A i k then 1 else 0) := by
  unfold knL
  rw [e1, oI_cl (by omega)]
  by_cases c1 : t ≤ k
  · have n1 : ¬ Int32.ofNat k < Int32.ofNat t := fun q => absurd ((oI_lt (by omega) (by omega)).mp q) (by omega)
    rw [if_neg n1, if_neg n1, decide_eq_true c1]
    rcases e2 with e2 | ⟨b, hb, e2⟩
    · rw [e2]
      have n2 : ¬ nev (-1) ≤ Int32.ofNat k := fun q => absurd ((oI_le (j := 1000000) (n := k) (by decide) (by omega)).mp q) (by omega)
      rw [if_neg n2, if_pos rfl]
      exact ⟨rfl, rfl⟩
    · rw [e2]
      have n3 := ne_neg1 (b := b) (by omega)
      have e3 : nev (Int32.ofNat b) = Int32.ofNat b := if_neg n3
      rw [e3, if_neg n3, oI_cl (by omega), beq_false_of_ne n3]
      by_cases c2 : k < b
      · have n4 : ¬ Int32.ofNat b ≤ Int32.ofNat k := fun q => absurd ((oI_le (by omega) (by omega)).mp q) (by omega)
        rw [if_neg n4, decide_eq_true c2]
        exact ⟨rfl, rfl⟩
      · have n4 : Int32.ofNat b ≤ Int32.ofNat k := (oI_le (by omega) (by omega)).mpr (by omega)
        rw [if_pos n4, decide_eq_false c2]
        exact ⟨rfl, rfl⟩
  · have n1 : Int32.ofNat k < Int32.ofNat t := (oI_lt (by omega) (by omega)).mpr (by omega)
    rw [if_pos n1, if_pos n1, decide_eq_false c1]
    exact ⟨rfl, rfl⟩
def lwP (A : Ab) (l d : Int32) (k i : Nat) : Bool := decide (A 112 i = l) && (decide (A 113 i ≤ d) && knL A i k)
def lawV (A : Ab) (l d : Int32) (k : Nat) : Option Nat := bestR (lwP A l d k) (A 113) (cT 6 A) 0 none
/-- what the class's books say of a law told -/
theorem CB.la {A : Ab} {σ : Sto} (h : CB A σ) {i : Nat} (hi : i < cT 6 A) : sK σ (sR σ 40 i) = 5 ∧ sI σ (sR σ 40 i) 0 = A 114 i ∧ sI σ (sR σ 40 i) 1 = nev (A 115 i) ∧ sI σ (sR σ 40 i) 2 = A 112 i ∧ sI σ (sR σ 40 i) 3 = A 113 i ∧ inR (A 113 i) 36500 ∧ ∃ t, t ≤ 999 ∧ A 114 i = Int32.ofNat t ∧ (A 115 i = -1 ∨ ∃ b, b ≤ 999 ∧ A 115 i = Int32.ofNat b) := by
  have hl := (h.1.le (c := 6) (by decide)).1
  have hm : cM 6 = 12 := rfl
  have ht := h.1.tn.1
  obtain ⟨-, L2, L3, -, -⟩ := h.2.2.2.2.2.2.2
  obtain ⟨-, -, ⟨⟨g1, g2, -⟩, ⟨-, q2, -⟩, -⟩, g3, g4, t, t1, t2, t3⟩ := L3 i hi
  exact ⟨(L2 i (by omega)).2.2.1, g3, g4, g1, g2, q2, t, by omega, t2, t3.imp id fun ⟨b, _, b2, b3⟩ => ⟨b, by omega, b3⟩⟩
theorem CB.ln {A : Ab} {σ : Sto} (h : CB A σ) : sK σ (sR σ 40 12) = 5 ∧ sI σ (sR σ 40 12) 2 = -1 ∧ sI σ (sR σ 40 12) 3 = -1 := by
  have hl := (h.1.le (c := 6) (by decide)).1
  have hm : cM 6 = 12 := rfl
  obtain ⟨-, L2, -, -, L5⟩ := h.2.2.2.2.2.2.2
  obtain ⟨-, -, z2, z3⟩ := L5 12 (by omega) (by decide)
  exact ⟨(L2 12 (by decide)).2.2.1, z2, z3.1⟩
theorem C_law_l {A : Ab} {σ : Sto} (h : CB A σ) {l d : Int32} {k : Nat} (hk : k ≤ 999) : ∀ m i fuel b, i + m = cT 6 A → m < fuel → (∀ y, b = some y → y < cT 6 A) → mX1_lawFor_6 fuel l d (Int32.ofNat k) (oB b) (Int32.ofNat i) σ = some (oB (bestR (lwP A l d k) (A 113) m i b)) := by
  have hl : cT 6 A ≤ 12 := (h.1.le (c := 6) (by decide)).1
  have hn : sI σ 33 15 = Int32.ofNat (cT 6 A) := h.num (c := 6) (by decide)
  intro m
  induction m with
  | zero =>
    intro i fuel b hi hf hb
    obtain ⟨n, rfl⟩ : ∃ n, fuel = n + 1 := ⟨fuel - 1, by omega⟩
    show mX1_lawFor_6B (mX1_lawFor_6 n) _ _ _ _ _ σ = _
    unfold mX1_lawFor_6B
    rw [hn, if_pos ((oI_le (by omega) (by omega)).mpr (by omega))]
    rfl
  | succ m ih =>
    intro i fuel b hi hf hb
    obtain ⟨n, rfl⟩ : ∃ n, fuel = n + 1 := ⟨fuel - 1, by omega⟩
    have hi2 : i < cT 6 A := by omega
    have lt : ¬ Int32.ofNat (cT 6 A) ≤ Int32.ofNat i := fun q => absurd ((oI_le (by omega) (by omega)).mp q) (by omega)
    obtain ⟨k0, f0, f1, f2, f3, f4, t, t1, t2, t3⟩ := h.la hi2
    have sk : (lwP A l d k i && okK (A 113) i b) = false → mX1_lawFor_6 n l d (Int32.ofNat k) (oB b) (Int32.ofNat i + 1) σ = some (oB (bestR (lwP A l d k) (A 113) (m + 1) i b)) := fun e => by
      rw [oI_s, ih (i + 1) n b (by omega) (by omega) hb]
      show _ = some (oB (bestR (lwP A l d k) (A 113) m (i + 1) (if lwP A l d k i && okK (A 113) i b then some i else b)))
      rw [e]; rfl
    have tk : (lwP A l d k i && okK (A 113) i b) = true → mX1_lawFor_6 n l d (Int32.ofNat k) (Int32.ofNat i) (Int32.ofNat i + 1) σ = some (oB (bestR (lwP A l d k) (A 113) (m + 1) i b)) := fun e => by
      rw [oI_s]
      refine (ih (i + 1) n (some i) (by omega) (by omega) (fun y hy => by cases hy; exact hi2)).trans ?_
      show _ = some (oB (bestR (lwP A l d k) (A 113) m (i + 1) (if lwP A l d k i && okK (A 113) i b then some i else b)))
      rw [e]; rfl
    have s54 : lwP A l d k i = false → mX1_lawFor_54 (mX1_lawFor_6 n) l d (Int32.ofNat k) (oB b) (Int32.ofNat i) (sR σ 40 i) σ = some (oB (bestR (lwP A l d k) (A 113) (m + 1) i b)) := fun e => by
      unfold mX1_lawFor_54 mX1_lawFor_55
      rw [if_pos rfl]
      exact sk (by rw [e, Bool.false_and])
    refine Eq.trans (b := mX1_lawFor_6B (mX1_lawFor_6 n) l d (Int32.ofNat k) (oB b) (Int32.ofNat i) σ) rfl ?_
    unfold mX1_lawFor_6B
    rw [hn, if_neg lt, h.at6 hi2, bnd_some, if_pos k0, f2, f3]
    by_cases c1 : A 112 i = l
    · rw [if_pos c1]
      by_cases c2 : d < A 113 i
      · rw [if_pos c2]
        exact s54 (by unfold lwP; rw [decide_eq_false (fun z => nlt.mpr z c2), Bool.false_and, Bool.and_false])
      · rw [if_neg c2]
        have kn : mX9_isKnownOn4 (sR σ 40 i) (Int32.ofNat k) σ = some (if knL A i k then 1 else 0) := by
          unfold mX9_isKnownOn4
          rw [f0, f1]
          exact (kn_intL t1 hk t2 t3).1
        rw [kn, bnd_some]
        cases c4 : knL A i k with
        | false =>
          rw [if_pos (show (if false = true then (1 : Int32) else 0) = 0 from rfl)]
          exact s54 (by unfold lwP; rw [c4, Bool.and_false, Bool.and_false])
        | true =>
          rw [if_neg (show ¬ (if true = true then (1 : Int32) else 0) = 0 from i10)]
          have p : lwP A l d k i = true := by unfold lwP; rw [decide_eq_true c1, decide_eq_true (nlt.mp c2), c4]; rfl
          unfold mX1_lawFor_55
          rw [if_neg i10, if_pos k0, f3]
          cases b with
          | none =>
            obtain ⟨k0', -, f1'⟩ := h.ln
            rw [show oB none = -1 from rfl, h.no6 no_neg, bnd_some, if_pos k0', f1', if_neg (inR_nn f4 (by decide))]
            exact tk (by rw [p]; rfl)
          | some y =>
            obtain ⟨k0', -, -, -, f3', -⟩ := h.la (hb y rfl)
            rw [show oB (some y) = Int32.ofNat y from rfl, h.at6 (hb y rfl), bnd_some, if_pos k0', f3']
            by_cases c3 : A 113 i < A 113 y
            · rw [if_pos c3]
              exact sk (by rw [p, Bool.true_and]; exact decide_eq_false (fun z => nlt.mpr z c3))
            · rw [if_neg c3]
              exact tk (by rw [p, Bool.true_and]; exact decide_eq_true (nlt.mp c3))
    · rw [if_neg c1]
      exact s54 (by unfold lwP; rw [decide_eq_false c1, Bool.false_and])
theorem C_law {A : Ab} {σ : Sto} (h : CB A σ) (l d : Int32) {k : Nat} (hk : k ≤ 999) : mX1_lawFor l d (Int32.ofNat k) σ = some (oB (lawV A l d k)) := by
  have hl : cT 6 A ≤ 12 := (h.1.le (c := 6) (by decide)).1
  exact C_law_l h hk (cT 6 A) 0 FU none (by omega) (show cT 6 A < 5000 by omega) (fun y hy => by cases hy)
theorem lawV_lt {A : Ab} {l d : Int32} {k y : Nat} (h : lawV A l d k = some y) : y < cT 6 A ∧ lwP A l d k y = true :=
  bestR_lt (cT 6 A) 0 none (by omega) (fun y hy => by cases hy) y h
/-- what a law told is in the reference's cells: dates -/
def LD (A : Ab) : Prop := ∀ i, i < cT 6 A → ∃ t, t ≤ 999 ∧ A 114 i = Int32.ofNat t ∧ (A 115 i = -1 ∨ ∃ b, b ≤ 999 ∧ A 115 i = Int32.ofNat b)
theorem CB.ld {A : Ab} {σ : Sto} (h : CB A σ) : LD A := fun i hi => (h.la hi).2.2.2.2.2.2
theorem M_law_l {A : Ab} {σ : Sto} (hB : IB A) (hD : LD A) (hm : RM A σ) {l d : Int32} {k : Nat} (hk : k ≤ 999) (h72 : sI σ 81 72 = Int32.ofNat k) : ∀ m i fuel b, i + m = cT 6 A → m < fuel → (∀ y, b = some y → y < cT 6 A) → mX12_lawOf_5 fuel l d (oB b) (Int32.ofNat i) σ = mX12_lawOf_5 1 l d (oB (bestR (lwP A l d k) (A 113) m i b)) (Int32.ofNat (cT 6 A)) σ := by
  have hl : cT 6 A ≤ 12 := (hB.le (c := 6) (by decide)).1
  have hn : sI σ 81 50 = Int32.ofNat (cT 6 A) := (hm 81 50 rfl).trans (hB.le (c := 6) (by decide)).2
  intro m
  induction m with
  | zero =>
    intro i fuel b hi hf hb
    obtain ⟨n, rfl⟩ : ∃ n, fuel = n + 1 := ⟨fuel - 1, by omega⟩
    have e : i = cT 6 A := by omega
    subst e
    refine Eq.trans (b := mX12_lawOf_5B (mX12_lawOf_5 n) l d (oB b) (Int32.ofNat (cT 6 A)) σ) rfl (Eq.trans ?_ (Eq.refl (mX12_lawOf_5B (mX12_lawOf_5 0) l d (oB b) (Int32.ofNat (cT 6 A)) σ)))
    unfold mX12_lawOf_5B
    have g : sI σ 81 50 ≤ Int32.ofNat (cT 6 A) := by rw [hn]; exact (oI_le (by omega) (by omega)).mpr (Nat.le_refl _)
    rw [if_pos g, if_pos g]
  | succ m ih =>
    intro i fuel b hi hf hb
    obtain ⟨n, rfl⟩ : ∃ n, fuel = n + 1 := ⟨fuel - 1, by omega⟩
    have hi2 : i < cT 6 A := by omega
    have lt : ¬ Int32.ofNat (cT 6 A) ≤ Int32.ofNat i := fun q => absurd ((oI_le (by omega) (by omega)).mp q) (by omega)
    obtain ⟨t, t1, t2, t3⟩ := hD i hi2
    generalize hZ : mX12_lawOf_5 1 l d (oB (bestR (lwP A l d k) (A 113) (m + 1) i b)) (Int32.ofNat (cT 6 A)) σ = Z
    have sk : (lwP A l d k i && okK (A 113) i b) = false → mX12_lawOf_5 n l d (oB b) (Int32.ofNat i + 1) σ = Z := fun e => by
      rw [oI_s, ih (i + 1) n b (by omega) (by omega) hb, ← hZ]
      show _ = mX12_lawOf_5 1 l d (oB (bestR (lwP A l d k) (A 113) m (i + 1) (if lwP A l d k i && okK (A 113) i b then some i else b))) _ σ
      rw [e]; rfl
    have tk : (lwP A l d k i && okK (A 113) i b) = true → mX12_lawOf_5 n l d (Int32.ofNat i) (Int32.ofNat i + 1) σ = Z := fun e => by
      rw [oI_s, ← hZ]
      refine (ih (i + 1) n (some i) (by omega) (by omega) (fun y hy => by cases hy; exact hi2)).trans ?_
      show _ = mX12_lawOf_5 1 l d (oB (bestR (lwP A l d k) (A 113) m (i + 1) (if lwP A l d k i && okK (A 113) i b then some i else b))) _ σ
      rw [e]; rfl
    have s79 : lwP A l d k i = false → mX12_lawOf_79 (mX12_lawOf_5 n) l d (oB b) (Int32.ofNat i) σ = Z := fun e => by
      unfold mX12_lawOf_79 mX12_lawOf_80
      rw [if_pos rfl]
      exact sk (by rw [e, Bool.false_and])
    have s80 : lwP A l d k i = true → mX12_lawOf_80 (mX12_lawOf_5 n) l d (oB b) (Int32.ofNat i) 1 σ = Z := fun p => by
      unfold mX12_lawOf_80
      rw [if_neg i10]
      cases b with
      | none =>
        rw [if_pos (show oB none = -1 from rfl)]
        exact tk (by rw [p]; rfl)
      | some y =>
        have := hb y rfl
        rw [show oB (some y) = Int32.ofNat y from rfl, if_neg (ne_neg1 (by omega)), if_pos (oI_inb (j := i) (n := 13) (by omega) (by decide)), if_pos (oI_inb (j := y) (n := 13) (by omega) (by decide)), oI_cl (j := i) (by omega), oI_cl (j := y) (by omega), hm 113 i rfl, hm 113 y rfl]
        by_cases c3 : A 113 i < A 113 y
        · rw [if_pos c3]
          exact sk (by rw [p, Bool.true_and]; exact decide_eq_false (fun z => nlt.mpr z c3))
        · rw [if_neg c3]
          exact tk (by rw [p, Bool.true_and]; exact decide_eq_true (nlt.mp c3))
    refine Eq.trans (b := mX12_lawOf_5B (mX12_lawOf_5 n) l d (oB b) (Int32.ofNat i) σ) rfl ?_
    unfold mX12_lawOf_5B
    rw [hn, if_neg lt, if_pos (oI_inb (j := i) (n := 13) (by omega) (by decide)), oI_cl (j := i) (by omega), hm 112 i rfl, hm 113 i rfl, hm 114 i rfl, hm 115 i rfl, h72]
    by_cases c1 : A 112 i = l
    · rw [if_pos c1]
      by_cases c2 : d < A 113 i
      · rw [if_pos c2]
        exact s79 (by unfold lwP; rw [decide_eq_false (fun z => nlt.mpr z c2), Bool.false_and, Bool.and_false])
      · rw [if_neg c2]
        have kn := (kn_intL t1 hk t2 t3).2
        by_cases q1 : Int32.ofNat k < A 114 i
        · rw [if_pos q1] at kn ⊢
          refine s79 ?_
          have : knL A i k = false := by
            cases e : knL A i k with
            | false => rfl
            | true => rw [e] at kn; cases kn
          unfold lwP; rw [this, Bool.and_false, Bool.and_false]
        · rw [if_neg q1] at kn ⊢
          have yes : knL A i k = true → lwP A l d k i = true := fun e => by unfold lwP; rw [decide_eq_true c1, decide_eq_true (nlt.mp c2), e]; rfl
          by_cases q2 : A 115 i = -1
          · rw [if_pos q2] at kn ⊢
            refine s80 (yes ?_)
            cases e : knL A i k with
            | false => rw [e] at kn; cases kn
            | true => rfl
          · rw [if_neg q2] at kn ⊢
            by_cases q3 : A 115 i ≤ Int32.ofNat k
            · rw [if_pos q3] at kn ⊢
              refine s79 ?_
              have : knL A i k = false := by
                cases e : knL A i k with
                | false => rfl
                | true => rw [e] at kn; cases kn
              unfold lwP; rw [this, Bool.and_false, Bool.and_false]
            · rw [if_neg q3] at kn ⊢
              refine s80 (yes ?_)
              cases e : knL A i k with
              | false => rw [e] at kn; cases kn
              | true => rfl
    · rw [if_neg c1]
      exact s79 (by unfold lwP; rw [decide_eq_false c1, Bool.false_and])
theorem M_law0 {A : Ab} {σ : Sto} (hB : IB A) (hD : LD A) (hm : RM A σ) {l d : Int32} {k : Nat} (hk : k ≤ 999) (h72 : sI σ 81 72 = Int32.ofNat k) (h73 : sI σ 81 73 = 0) : mX12_lawOf l d σ = some (oB (lawV A l d k)) := by
  have hl : cT 6 A ≤ 12 := (hB.le (c := 6) (by decide)).1
  have hn : sI σ 81 50 = Int32.ofNat (cT 6 A) := (hm 81 50 rfl).trans (hB.le (c := 6) (by decide)).2
  refine (M_law_l hB hD hm hk h72 (cT 6 A) 0 FU none (by omega) (show cT 6 A < 5000 by omega) (fun y hy => by cases hy)).trans ?_
  refine Eq.trans (b := mX12_lawOf_5B (mX12_lawOf_5 0) l d (oB (lawV A l d k)) (Int32.ofNat (cT 6 A)) σ) rfl ?_
  unfold mX12_lawOf_5B mX12_lawOf_150 mX12_lawOf_151
  rw [hn, if_pos ((oI_le (by omega) (by omega)).mpr (Nat.le_refl _)), h73, if_pos rfl, if_pos rfl]
