/-! who collects, mandates, deaths -/
def firstS (A : Ab) (l : Int32) : Nat → Nat → Option Nat
  | 0, _ => none
  | m + 1, i => if A 92 i = l then some i else firstS A l m (i + 1)
def colV (A : Ab) (l : Int32) : Option Nat := firstS A l (cT 2 A) 0
theorem firstS_lt {A : Ab} {l : Int32} : ∀ m i j, firstS A l m i = some j → i ≤ j ∧ j < i + m ∧ A 92 j = l
  | 0, _, _, h => by cases h
  | m + 1, i, j, h => by
    unfold firstS at h
    by_cases c : A 92 i = l
    · rw [if_pos c] at h; cases h; exact ⟨Nat.le_refl _, by omega, c⟩
    · rw [if_neg c] at h
      have g := firstS_lt m (i + 1) j h
      exact ⟨by omega, by omega, g.2.2⟩
theorem CB.sa {A : Ab} {σ : Sto} (h : CB A σ) {i : Nat} (hi : i < cT 2 A) : sK σ (sR σ 36 i) = 9 ∧ sI σ (sR σ 36 i) 0 = A 92 i ∧ sI σ (sR σ 36 i) 1 = A 93 i := by
  have hl := (h.1.le (c := 2) (by decide)).1
  have hm : cM 2 = 5 := rfl
  have F : ∀ k ∈ cF 2, sI σ (sR σ 36 i) k = cV 2 A i k := fun k hk => h.fld (c := 2) (by decide) hl hi hk
  exact ⟨h.kind (c := 2) (by decide) (by omega), F 0 (by decide), F 1 (by decide)⟩
theorem C_col_l {A : Ab} {σ : Sto} (h : CB A σ) {l : Int32} : ∀ m i fuel, i + m = cT 2 A → m < fuel → mX1_collectorIn_2 fuel l (Int32.ofNat i) σ = some (oB (firstS A l m i)) := by
  have hl : cT 2 A ≤ 5 := (h.1.le (c := 2) (by decide)).1
  have hn : sI σ 33 7 = Int32.ofNat (cT 2 A) := h.num (c := 2) (by decide)
  intro m
  induction m with
  | zero =>
    intro i fuel hi hf
    obtain ⟨n, rfl⟩ : ∃ n, fuel = n + 1 := ⟨fuel - 1, by omega⟩
    show mX1_collectorIn_2B (mX1_collectorIn_2 n) _ _ σ = _
    unfold mX1_collectorIn_2B
    rw [hn, if_pos ((oI_le (by omega) (by omega)).mpr (by omega))]
    rfl
  | succ m ih =>
    intro i fuel hi hf
    obtain ⟨n, rfl⟩ : ∃ n, fuel = n + 1 := ⟨fuel - 1, by omega⟩
    have hi2 : i < cT 2 A := by omega
    obtain ⟨k0, f0, f1⟩ := h.sa hi2
    show mX1_collectorIn_2B (mX1_collectorIn_2 n) _ _ σ = _
    unfold mX1_collectorIn_2B firstS
    rw [hn, if_neg (fun q => absurd ((oI_le (by omega) (by omega)).mp q) (by omega)), h.at2 hi2, bnd_some, if_pos k0, f0]
    by_cases c : A 92 i = l
    · rw [if_pos c, if_pos c]; rfl
    · rw [if_neg c, if_neg c, oI_s]
      exact ih (i + 1) n (by omega) (by omega)
theorem C_col {A : Ab} {σ : Sto} (h : CB A σ) (l : Int32) : mX1_collectorIn l σ = some (oB (colV A l)) := by
  have hl : cT 2 A ≤ 5 := (h.1.le (c := 2) (by decide)).1
  exact C_col_l h (cT 2 A) 0 FU (by omega) (show cT 2 A < 5000 by omega)
/-- the society of the last mandate for a day -/
def mdP (A : Ab) (p : Nat) (d : Int32) (k i : Nat) : Prop := A 97 i = 5 ∧ A 99 i = Int32.ofNat p ∧ A 101 i ≤ d ∧ knB A i k = true
def mdB (A : Ab) (p : Nat) (d : Int32) (k i : Nat) : Bool := A 97 i == 5 && (A 99 i == Int32.ofNat p && (decide (A 101 i ≤ d) && knB A i k))
theorem mdB_iff {A : Ab} {p k i : Nat} {d : Int32} : mdB A p d k i = true ↔ mdP A p d k i := by
  unfold mdB mdP
  rw [Bool.and_eq_true, Bool.and_eq_true, Bool.and_eq_true, beq_iff_eq, beq_iff_eq, decide_eq_true_eq]
def mdR (A : Ab) (p : Nat) (d : Int32) (k : Nat) : Nat → Int32
  | 0 => -1
  | n + 1 => if mdB A p d k n then A 100 n else mdR A p d k n
theorem C_md_l {A : Ab} {σ : Sto} (h : CB A σ) {p k : Nat} {d : Int32} (hk : k ≤ 999) : ∀ m i fuel, i + m = cT 4 A → m < fuel → mX1_mandateOf_6 fuel (Int32.ofNat p) d (Int32.ofNat k) (mdR A p d k i) (Int32.ofNat i) σ = some (mdR A p d k (cT 4 A)) := by
  have hl : cT 4 A ≤ 200 := (h.1.le (c := 4) (by decide)).1
  have hn : sI σ 33 11 = Int32.ofNat (cT 4 A) := h.num (c := 4) (by decide)
  intro m
  induction m with
  | zero =>
    intro i fuel hi hf
    obtain ⟨n, rfl⟩ : ∃ n, fuel = n + 1 := ⟨fuel - 1, by omega⟩
    have e : i = cT 4 A := by omega
    subst e
    show mX1_mandateOf_6B (mX1_mandateOf_6 n) _ _ _ _ _ σ = _
    unfold mX1_mandateOf_6B
    rw [hn, if_pos ((oI_le (by omega) (by omega)).mpr (Nat.le_refl _))]
  | succ m ih =>
    intro i fuel hi hf
    obtain ⟨n, rfl⟩ : ∃ n, fuel = n + 1 := ⟨fuel - 1, by omega⟩
    have hi2 : i < cT 4 A := by omega
    obtain ⟨k0, f0, f2, f3, f4, f5, f6, -⟩ := h.fa hi2
    have ih' := ih (i + 1) n (by omega) (by omega)
    have eR : mdR A p d k (i + 1) = if mdB A p d k i then A 100 i else mdR A p d k i := rfl
    have s54 : ¬ mdP A p d k i → mX1_mandateOf_54 (mX1_mandateOf_6 n) (Int32.ofNat p) d (Int32.ofNat k) (mdR A p d k i) (Int32.ofNat i) (sR σ 38 i) σ = some (mdR A p d k (cT 4 A)) := fun e => by
      unfold mX1_mandateOf_54 mX1_mandateOf_55
      rw [if_pos rfl, oI_s]
      rw [eR, if_neg (fun z => e (mdB_iff.mp z))] at ih'
      exact ih'
    refine Eq.trans (b := mX1_mandateOf_6B (mX1_mandateOf_6 n) (Int32.ofNat p) d (Int32.ofNat k) (mdR A p d k i) (Int32.ofNat i) σ) rfl ?_
    unfold mX1_mandateOf_6B
    rw [hn, if_neg (fun q => absurd ((oI_le (by omega) (by omega)).mp q) (by omega)), h.at4 hi2, bnd_some, if_pos k0, f2, f4]
    by_cases c1 : A 97 i = 5
    · rw [if_pos c1]
      have n1 : A 97 i ≠ 1 := by rw [c1]; decide
      have n4 : A 97 i ≠ 4 := by rw [c1]; decide
      rw [if_neg n1] at f6
      rw [if_neg n4] at f5
      by_cases c2 : A 99 i = Int32.ofNat p
      · rw [if_pos c2, f6]
        by_cases c3 : d < A 101 i
        · rw [if_pos c3]
          exact s54 (fun z => nlt.mpr z.2.2.1 c3)
        · rw [if_neg c3]
          unfold mX1_mandateOf_55
          rw [if_neg i10, if_pos k0, h.known hi2 hk, bnd_some, f5]
          cases c4 : knB A i k with
          | false =>
            rw [if_pos (show (if false = true then (1 : Int32) else 0) = 0 from rfl), oI_s]
            rw [eR, if_neg (fun z => by rw [(mdB_iff.mp z).2.2.2] at c4; cases c4)] at ih'
            exact ih'
          | true =>
            rw [if_neg (show ¬ (if true = true then (1 : Int32) else 0) = 0 from i10), oI_s]
            rw [eR, if_pos (mdB_iff.mpr ⟨c1, c2, nlt.mp c3, c4⟩)] at ih'
            exact ih'
      · rw [if_neg c2]; exact s54 (fun z => c2 z.2.1)
    · rw [if_neg c1]; exact s54 (fun z => c1 z.1)
theorem C_md {A : Ab} {σ : Sto} (h : CB A σ) {p k : Nat} (d : Int32) (hk : k ≤ 999) : mX1_mandateOf (Int32.ofNat p) d (Int32.ofNat k) σ = some (mdR A p d k (cT 4 A)) := by
  have hl : cT 4 A ≤ 200 := (h.1.le (c := 4) (by decide)).1
  exact C_md_l h hk (cT 4 A) 0 FU (by omega) (show cT 4 A < 5000 by omega)
theorem md_in {A : Ab} (hr : IRow A) {p k : Nat} {d : Int32} : ∀ n, n ≤ cT 4 A → mdR A p d k n = -1 ∨ inR (mdR A p d k n) (cT 2 A)
  | 0, _ => Or.inl rfl
  | n + 1, hn => by
    unfold mdR
    by_cases c : mdB A p d k n = true
    · rw [if_pos c]
      have g := (hr 4 (by decide) n (by omega)).2.2.2
      rw [(mdB_iff.mp c).1] at g
      rcases g with g | g | g | g | g | g
      · exact absurd g.1 (by decide)
      · exact absurd g.1 (by decide)
      · exact absurd g.1 (by decide)
      · exact absurd g.1 (by decide)
      · exact absurd g.1 (by decide)
      · exact Or.inr g.2.2
    · rw [if_neg c]; exact md_in hr n (by omega)
/-! deaths known -/
def dtB (A : Ab) (p k i : Nat) : Bool := A 97 i == 0 && (A 99 i == Int32.ofNat p && knB A i k)
theorem dtB_iff {A : Ab} {p k i : Nat} : dtB A p k i = true ↔ A 97 i = 0 ∧ A 99 i = Int32.ofNat p ∧ knB A i k = true := by
  unfold dtB
  rw [Bool.and_eq_true, Bool.and_eq_true, beq_iff_eq, beq_iff_eq]
def dtR (A : Ab) (p k : Nat) : Nat → Option Nat
  | 0 => none
  | n + 1 => if dtB A p k n then some n else dtR A p k n
def fdC (A : Ab) : Option Nat → Int32
  | none => 1000000
  | some i => A 101 i
def ldC (A : Ab) : Option Nat → Int32
  | none => 1000000
  | some i => A 102 i
theorem dtR_lt {A : Ab} {p k y : Nat} : ∀ n, dtR A p k n = some y → y < n ∧ A 97 y = 0 ∧ A 99 y = Int32.ofNat p
  | 0, h => by cases h
  | n + 1, h => by
    unfold dtR at h
    by_cases c : dtB A p k n = true
    · rw [if_pos c] at h; cases h; exact ⟨by omega, (dtB_iff.mp c).1, (dtB_iff.mp c).2.1⟩
    · rw [if_neg c] at h
      have := dtR_lt n h
      exact ⟨by omega, this.2⟩
def dth (A : Ab) (k p : Nat) : Option Nat := dtR A p k (cT 4 A)
/-- the class's account is open at an evening -/
def OP (A : Ab) (k : Nat) (σ : Sto) : Prop := sI σ 53 1 = Int32.ofNat k ∧ ∀ p, p < 30 → sI σ 54 p = fdC A (dth A k p) ∧ sI σ 55 p = ldC A (dth A k p)
theorem C_open_l {A : Ab} {k : Nat} (hk : k ≤ 999) : ∀ m i fuel σ, CB A σ → i + m = cT 4 A → m < fuel → (∀ p, p < 30 → sI σ 54 p = fdC A (dtR A p k i) ∧ sI σ 55 p = ldC A (dtR A p k i)) → ∃ σ', mX0_open_37 fuel (Int32.ofNat k) (Int32.ofNat i) σ = some σ' ∧ Sc σ σ' ∧ (sI σ' 53 1 = sI σ 53 1 ∧ ∀ b j, sL σ' b j = sL σ b j) ∧ ∀ p, p < 30 → sI σ' 54 p = fdC A (dth A k p) ∧ sI σ' 55 p = ldC A (dth A k p) := by
  intro m
  induction m with
  | zero =>
    intro i fuel σ h hi hf hq
    have hl : cT 4 A ≤ 200 := (h.1.le (c := 4) (by decide)).1
    have hn : sI σ 33 11 = Int32.ofNat (cT 4 A) := h.num (c := 4) (by decide)
    obtain ⟨n, rfl⟩ : ∃ n, fuel = n + 1 := ⟨fuel - 1, by omega⟩
    have e : i = cT 4 A := by omega
    subst e
    refine ⟨σ, ?_, Sc.rf, ⟨rfl, fun _ _ => rfl⟩, hq⟩
    show mX0_open_37B (mX0_open_37 n) _ _ σ = _
    unfold mX0_open_37B
    rw [hn, if_pos ((oI_le (by omega) (by omega)).mpr (Nat.le_refl _))]
  | succ m ih =>
    intro i fuel σ h hi hf hq
    have hl : cT 4 A ≤ 200 := (h.1.le (c := 4) (by decide)).1
    have hlp : cT 0 A ≤ 30 := (h.1.le (c := 0) (by decide)).1
    have hn : sI σ 33 11 = Int32.ofNat (cT 4 A) := h.num (c := 4) (by decide)
    obtain ⟨n, rfl⟩ : ∃ n, fuel = n + 1 := ⟨fuel - 1, by omega⟩
    have hi2 : i < cT 4 A := by omega
    obtain ⟨k0, f0, f2, f3, f4, f5, f6, f7, -⟩ := h.fa hi2
    obtain ⟨jo, jo1, jo2⟩ := (h.2.2.2.2.2.1 4 (by decide) i hi2).1
    have sk : (∀ p, p < 30 → dtB A p k i = false) → ∃ σ', mX0_open_37 n (Int32.ofNat k) (Int32.ofNat i + 1) σ = some σ' ∧ Sc σ σ' ∧ (sI σ' 53 1 = sI σ 53 1 ∧ ∀ b j, sL σ' b j = sL σ b j) ∧ ∀ p, p < 30 → sI σ' 54 p = fdC A (dth A k p) ∧ sI σ' 55 p = ldC A (dth A k p) := fun e => by
      rw [oI_s]
      refine ih (i + 1) n σ h (by omega) (by omega) (fun p hp => ?_)
      have : dtR A p k (i + 1) = dtR A p k i := by
        show (if dtB A p k i then some i else dtR A p k i) = _
        rw [e p hp]; rfl
      rw [this]; exact hq p hp
    have step : mX0_open_37 (n + 1) (Int32.ofNat k) (Int32.ofNat i) σ = mX0_open_37B (mX0_open_37 n) (Int32.ofNat k) (Int32.ofNat i) σ := rfl
    rw [step]
    unfold mX0_open_37B
    rw [hn, if_neg (fun q => absurd ((oI_le (by omega) (by omega)).mp q) (by omega)), h.at4 hi2, bnd_some, if_pos k0, f2]
    by_cases c1 : A 97 i = 0
    · rw [if_pos c1, h.known hi2 hk, bnd_some]
      rw [if_neg (by rw [c1]; decide)] at f6
      rw [if_pos c1] at f7
      cases c2 : knB A i k with
      | false =>
        rw [if_pos (show (if false = true then (1 : Int32) else 0) = 0 from rfl)]
        exact sk (fun p _ => by
          cases e : dtB A p k i with
          | false => rfl
          | true => rw [(dtB_iff.mp e).2.2] at c2; cases c2)
      | true =>
        rw [if_neg (show ¬ (if true = true then (1 : Int32) else 0) = 0 from i10), f4, jo2]
        have wi : ¬ mX11_isWithin (Int32.ofNat jo) 0 29 σ = 0 := fun q => by
          rcases C_isW.mp q with z | z
          · exact oI_nn (by omega) z
          · exact absurd ((oI_lt (j := 29) (n := jo) (by decide) (by omega)).mp z) (by omega)
        rw [if_neg wi, if_pos (oI_inb (j := jo) (n := 30) (by omega) (by decide)), oI_cl (j := jo) (by omega), f6]
        simp only [stp]
        have nreg : ¬ sR σ 38 i = 54 := fun q => by
          have : reg (sR σ 38 i) := h.rg (c := 4) (i := i) (by decide) (show i ≤ 200 by omega)
          rw [q] at this
          unfold reg at this
          omega
        have s4 : sI (wI σ 54 jo (A 101 i)) (sR σ 38 i) 4 = Int32.ofNat jo := by rw [sI_wI, if_neg (fun q : sR σ 38 i = 54 ∧ 4 = jo => nreg q.1), f4, jo2]
        have s7 : sI (wI σ 54 jo (A 101 i)) (sR σ 38 i) 7 = A 102 i := by rw [sI_wI, if_neg (fun q : sR σ 38 i = 54 ∧ 7 = jo => nreg q.1), f7]
        rw [s4, s7, if_pos (oI_inb (j := jo) (n := 30) (by omega) (by decide)), oI_cl (j := jo) (by omega), oI_s]
        obtain ⟨σ', g1, g2, g3, g4⟩ := ih (i + 1) n (wI (wI σ 54 jo (A 101 i)) 55 jo (A 102 i)) (h.sc ((Sc.rf.w 54 _ _ (by decide)).w 55 _ _ (by decide))) (by omega) (by omega) (fun p hp => by
          show sI (wI (wI σ 54 jo (A 101 i)) 55 jo (A 102 i)) 54 p = fdC A (if dtB A p k i then some i else dtR A p k i) ∧ sI (wI (wI σ 54 jo (A 101 i)) 55 jo (A 102 i)) 55 p = ldC A (if dtB A p k i then some i else dtR A p k i)
          rw [sI_wI, if_neg (by omega), sI_wI, sI_wI]
          by_cases e : p = jo
          · subst e
            rw [if_pos (show 54 = 54 ∧ p = p from ⟨rfl, rfl⟩), if_pos (show 55 = 55 ∧ p = p from ⟨rfl, rfl⟩), if_pos (dtB_iff.mpr ⟨c1, jo2, c2⟩)]
            exact ⟨rfl, rfl⟩
          · rw [if_neg (fun q : 54 = 54 ∧ p = jo => e q.2), if_neg (fun q : 55 = 55 ∧ p = jo => e q.2), sI_wI, if_neg (show ¬ (55 = 54 ∧ p = jo) by omega), if_neg (fun z : dtB A p k i = true => e ((oI_eq (by omega) (by omega)).mp ((dtB_iff.mp z).2.1.symm.trans jo2)))]
            exact hq p hp)
        exact ⟨σ', g1, ((Sc.rf.w 54 _ _ (by decide)).w 55 _ _ (by decide)).tr g2, g3, g4⟩
    · rw [if_neg c1]
      exact sk (fun p _ => by
        cases e : dtB A p k i with
        | false => rfl
        | true => exact absurd (dtB_iff.mp e).1 c1)
theorem C_open_0 {A : Ab} {k : Nat} (hk : k ≤ 999) : ∀ m i fuel σ, CB A σ → i + m = 30 → m < fuel → (∀ p, p < i → sI σ 54 p = 1000000 ∧ sI σ 55 p = 1000000) → ∃ σ', mX0_open_7 fuel (Int32.ofNat k) (Int32.ofNat i) σ = some σ' ∧ Sc σ σ' ∧ (sI σ' 53 1 = sI σ 53 1 ∧ ∀ b j, sL σ' b j = sL σ b j) ∧ ∀ p, p < 30 → sI σ' 54 p = fdC A (dth A k p) ∧ sI σ' 55 p = ldC A (dth A k p) := by
  intro m
  induction m with
  | zero =>
    intro i fuel σ h hi hf hq
    have hl : cT 4 A ≤ 200 := (h.1.le (c := 4) (by decide)).1
    obtain ⟨n, rfl⟩ : ∃ n, fuel = n + 1 := ⟨fuel - 1, by omega⟩
    have e : i = 30 := by omega
    subst e
    have step : mX0_open_7 (n + 1) (Int32.ofNat k) (Int32.ofNat 30) σ = mX0_open_37 FU (Int32.ofNat k) 0 σ := by
      refine Eq.trans (b := mX0_open_7B (mX0_open_7 n) (Int32.ofNat k) (Int32.ofNat 30) σ) rfl ?_
      unfold mX0_open_7B
      rw [if_pos (by decide)]
    rw [step]
    exact C_open_l hk (cT 4 A) 0 FU σ h (by omega) (show cT 4 A < 5000 by omega) (fun p hp => hq p hp)
  | succ m ih =>
    intro i fuel σ h hi hf hq
    obtain ⟨n, rfl⟩ : ∃ n, fuel = n + 1 := ⟨fuel - 1, by omega⟩
    have q1 : ¬ (30 : Int32) ≤ Int32.ofNat i := fun q => absurd ((oI_le (j := 30) (by decide) (by omega)).mp q) (by omega)
    have step : mX0_open_7 (n + 1) (Int32.ofNat k) (Int32.ofNat i) σ = mX0_open_7 n (Int32.ofNat k) (Int32.ofNat (i + 1)) (wI (wI σ 54 i 1000000) 55 i 1000000) := by
      refine Eq.trans (b := mX0_open_7B (mX0_open_7 n) (Int32.ofNat k) (Int32.ofNat i) σ) rfl ?_
      unfold mX0_open_7B
      rw [if_neg q1, if_pos (oI_inb (by omega) (by decide)), oI_cl (by omega), oI_s]
    rw [step]
    obtain ⟨σ', g1, g2, g3, g4⟩ := ih (i + 1) n (wI (wI σ 54 i 1000000) 55 i 1000000) (h.sc ((Sc.rf.w 54 _ _ (by decide)).w 55 _ _ (by decide))) (by omega) (by omega) (fun p hp => by
      rw [sI_wI, if_neg (by omega), sI_wI, sI_wI]
      by_cases e : p = i
      · subst e; rw [if_pos ⟨rfl, rfl⟩, if_pos ⟨rfl, rfl⟩]; exact ⟨rfl, rfl⟩
      · rw [if_neg (fun q => e q.2), if_neg (fun q => e q.2), sI_wI, if_neg (by omega)]
        exact hq p (by omega))
    exact ⟨σ', g1, ((Sc.rf.w 54 _ _ (by decide)).w 55 _ _ (by decide)).tr g2, g3, g4⟩
theorem C_open {A : Ab} {σ : Sto} {k : Nat} (hk : k ≤ 999) (h : CB A σ) : ∃ σ', mX0_open (Int32.ofNat k) σ = some σ' ∧ Sc σ σ' ∧ OP A k σ' ∧ ∀ b j, sL σ' b j = sL σ b j := by
  obtain ⟨σ', g1, g2, g3, g4⟩ := C_open_0 hk 30 0 FU (wI σ 53 1 (Int32.ofNat k)) (h.sc (Sc.rf.w 53 _ _ (by decide))) rfl (show 30 < 5000 by omega) (fun p hp => by omega)
  exact ⟨σ', g1, (Sc.rf.w 53 1 _ (by decide)).tr g2, ⟨g3.1.trans (by rw [sI_wI, if_pos ⟨rfl, rfl⟩]), g4⟩, g3.2⟩
