/-! what each one gets, by the reference -/
def S138 (p b j : Nat) : Prop := ((b = 138 ∨ b = 139) ∧ j = p) ∨ (b = 81 ∧ j = 85)
theorem S138_pr {p : Nat} : ∀ b j, S138 p b j → pr b j = false := fun b j h => by
  rcases h with ⟨rfl | rfl, -⟩ | ⟨rfl, rfl⟩ <;> rfl
theorem S138_ga {p : Nat} : ∀ b j, S138 p b j → b ≠ 129 ∧ b ≠ 130 ∧ b ≠ 131 ∧ b ≠ 132 ∧ ¬ (b = 81 ∧ j = 72) := fun b j h => by unfold S138 at h; omega
theorem M_md_l {A : Ab} (hB : IB A) (hr : IRow A) {s k p : Nat} (hk : k ≤ 999) (hs : s < cT 4 A) (hp : p < 30) : ∀ m i fuel ρ, RM A ρ → sI ρ 81 72 = Int32.ofNat k → i + m = cT 4 A → m < fuel → sI ρ 139 p = mdR A p (A 101 s) k i → ∃ ρ' n', mX12_pays_2 fuel (Int32.ofNat s) (Int32.ofNat p) (Int32.ofNat i) ρ = mX12_pays_2 (n' + 1) (Int32.ofNat s) (Int32.ofNat p) (Int32.ofNat (cT 4 A)) ρ' ∧ Ex (fun b j => b = 139 ∧ j = p) ρ ρ' ∧ sI ρ' 139 p = mdV A s k p := by
  have hl : cT 4 A ≤ 200 := (hB.le (c := 4) (by decide)).1
  intro m
  induction m with
  | zero =>
    intro i fuel ρ hm h72 hi hf h139
    obtain ⟨n, rfl⟩ : ∃ n, fuel = n + 1 := ⟨fuel - 1, by omega⟩
    have e : i = cT 4 A := by omega
    subst e
    exact ⟨ρ, n, rfl, Ex.rf, h139⟩
  | succ m ih =>
    intro i fuel ρ hm h72 hi hf h139
    have hn : sI ρ 81 7 = Int32.ofNat (cT 4 A) := (hm 81 7 rfl).trans (hB.le (c := 4) (by decide)).2
    obtain ⟨n, rfl⟩ : ∃ n, fuel = n + 1 := ⟨fuel - 1, by omega⟩
    have hi2 : i < cT 4 A := by omega
    have eR : mdR A p (A 101 s) k (i + 1) = if mdB A p (A 101 s) k i then A 100 i else mdR A p (A 101 s) k i := rfl
    have i200 := oI_inb (j := i) (n := 200) (by omega) (by decide)
    have s200 := oI_inb (j := s) (n := 200) (by omega) (by decide)
    have p30 := oI_inb (j := p) (n := 30) hp (by decide)
    have sk : ¬ mdP A p (A 101 s) k i → ∃ ρ' n', mX12_pays_2 n (Int32.ofNat s) (Int32.ofNat p) (Int32.ofNat i + 1) ρ = mX12_pays_2 (n' + 1) (Int32.ofNat s) (Int32.ofNat p) (Int32.ofNat (cT 4 A)) ρ' ∧ Ex (fun b j => b = 139 ∧ j = p) ρ ρ' ∧ sI ρ' 139 p = mdV A s k p := fun e => by
      rw [oI_s]
      exact ih (i + 1) n ρ hm h72 (by omega) (by omega) (by rw [eR, if_neg (fun z => e (mdB_iff.mp z))]; exact h139)
    have step : mX12_pays_2 (n + 1) (Int32.ofNat s) (Int32.ofNat p) (Int32.ofNat i) ρ = mX12_pays_2B (mX12_pays_2 n) (Int32.ofNat s) (Int32.ofNat p) (Int32.ofNat i) ρ := rfl
    rw [step]
    unfold mX12_pays_2B
    rw [hn, if_neg (fun q => absurd ((oI_le (by omega) (by omega)).mp q) (by omega)), if_pos i200, oI_cl (j := i) (by omega), hm 97 i rfl]
    by_cases c1 : A 97 i = 5
    · rw [if_pos c1, hm 99 i rfl]
      by_cases c2 : A 99 i = Int32.ofNat p
      · rw [if_pos c2, if_pos s200, oI_cl (j := s) (by omega), hm 101 s rfl, hm 101 i rfl]
        by_cases c3 : A 101 s < A 101 i
        · rw [if_pos c3]; exact sk (fun z => nlt.mpr z.2.2.1 c3)
        · rw [if_neg c3, h72, M_known hB hr hm hi2 hk, bnd_some]
          cases c4 : knB A i k with
          | false =>
            rw [if_pos (show (if false = true then (1 : Int32) else 0) = 0 from rfl)]
            exact sk (fun z => by rw [z.2.2.2] at c4; cases c4)
          | true =>
            rw [if_neg (show ¬ (if true = true then (1 : Int32) else 0) = 0 from i10), if_pos p30, oI_cl (j := p) (by omega), hm 100 i rfl, oI_s]
            simp only [stp]
            obtain ⟨ρ', n', g1, g2, g3⟩ := ih (i + 1) n (wI ρ 139 p (A 100 i)) (hm.np 139 p _ rfl) h72 (by omega) (by omega) (by rw [sI_wI, if_pos ⟨rfl, rfl⟩, eR, if_pos (mdB_iff.mpr ⟨c1, c2, nlt.mp c3, c4⟩)])
            exact ⟨ρ', n', g1, (Ex.rf.w (S := fun b j => b = 139 ∧ j = p) (A 100 i) ⟨rfl, rfl⟩).tr g2, g3⟩
      · rw [if_neg c2]; exact sk (fun z => c2 z.2.1)
    · rw [if_neg c1]; exact sk (fun z => c1 z.1)
theorem M_cl_l {A : Ab} (hB : IB A) {s k p i : Nat} (hk : k ≤ 999) (hs : s < 200) (hp : p < 30) (hi : i ≤ 12) {ρ : Sto} (hm : RM A ρ) (h72 : sI ρ 81 72 = Int32.ofNat k) (h79 : sI ρ 81 79 = Int32.ofNat i) : ∀ m j fuel (b : Bool), j + m = cT 5 A → m < fuel → mX12_pays_129 fuel (Int32.ofNat s) (Int32.ofNat p) (fl b) (Int32.ofNat j) ρ = some (if (b || clE A s k (A 121 i) p m j) = true then wI ρ 138 p (sI ρ 137 p) else wI ρ 81 85 (sI ρ 81 85 + sI ρ 137 p)) := by
  have hl : cT 5 A ≤ 200 := (hB.le (c := 5) (by decide)).1
  have hn : sI ρ 81 8 = Int32.ofNat (cT 5 A) := (hm 81 8 rfl).trans (hB.le (c := 5) (by decide)).2
  have p30 := oI_inb (j := p) (n := 30) hp (by decide)
  have s200 := oI_inb (j := s) (n := 200) (by omega) (by decide)
  have i13 := oI_inb (j := i) (n := 13) (by omega) (by decide)
  intro m
  induction m with
  | zero =>
    intro j fuel b hj hf
    obtain ⟨n, rfl⟩ : ∃ n, fuel = n + 1 := ⟨fuel - 1, by omega⟩
    have e : j = cT 5 A := by omega
    subst e
    refine Eq.trans (b := mX12_pays_129B (mX12_pays_129 n) (Int32.ofNat s) (Int32.ofNat p) (fl b) (Int32.ofNat (cT 5 A)) ρ) rfl ?_
    unfold mX12_pays_129B
    rw [hn, if_pos ((oI_le (by omega) (by omega)).mpr (Nat.le_refl _)), if_pos p30, if_pos p30, oI_cl (j := p) (by omega)]
    simp only [stp]
    cases b with
    | false => rw [if_pos (show fl false = 0 from rfl)]; rfl
    | true => rw [if_neg (show ¬ fl true = 0 from i10)]; rfl
  | succ m ih =>
    intro j fuel b hj hf
    obtain ⟨n, rfl⟩ : ∃ n, fuel = n + 1 := ⟨fuel - 1, by omega⟩
    have j200 := oI_inb (j := j) (n := 200) (by omega) (by decide)
    refine Eq.trans (b := mX12_pays_129B (mX12_pays_129 n) (Int32.ofNat s) (Int32.ofNat p) (fl b) (Int32.ofNat j) ρ) rfl ?_
    unfold mX12_pays_129B
    rw [hn, if_neg (fun q => absurd ((oI_le (by omega) (by omega)).mp q) (by omega)), oI_s]
    cases b with
    | true =>
      rw [if_neg (show ¬ fl true = 0 from i10), show (1 : Int32) = fl true from rfl, ih (j + 1) n true (by omega) (by omega)]
      rfl
    | false =>
      have i0 := ih (j + 1) n false (by omega) (by omega)
      have i1 := ih (j + 1) n true (by omega) (by omega)
      rw [show fl false = 0 from rfl] at i0
      rw [show fl true = 1 from rfl] at i1
      have eC : clE A s k (A 121 i) p (m + 1) j = if A 108 j = Int32.ofNat p ∧ A 109 j = Int32.ofNat s ∧ ¬ Int32.ofNat k < A 110 j ∧ ¬ A 121 i < A 110 j - A 106 s then true else clE A s k (A 121 i) p m (j + 1) := rfl
      rw [if_pos (show fl false = 0 from rfl), if_pos j200, oI_cl (j := j) (by omega), hm 108 j rfl, hm 109 j rfl, hm 110 j rfl, h72, if_pos s200, h79, if_pos i13, oI_cl (j := i) (by omega), oI_cl (j := s) (by omega), hm 121 i rfl, hm 106 s rfl, i0, i1, eC]
      by_cases c1 : A 108 j = Int32.ofNat p
      · rw [if_pos c1]
        by_cases c2 : A 109 j = Int32.ofNat s
        · rw [if_pos c2]
          by_cases c3 : Int32.ofNat k < A 110 j
          · rw [if_pos c3, if_neg (fun z : A 108 j = Int32.ofNat p ∧ A 109 j = Int32.ofNat s ∧ ¬ Int32.ofNat k < A 110 j ∧ ¬ A 121 i < A 110 j - A 106 s => z.2.2.1 c3)]
          · rw [if_neg c3]
            by_cases c4 : A 121 i < A 110 j - A 106 s
            · rw [if_pos c4, if_neg (fun z : A 108 j = Int32.ofNat p ∧ A 109 j = Int32.ofNat s ∧ ¬ Int32.ofNat k < A 110 j ∧ ¬ A 121 i < A 110 j - A 106 s => z.2.2.2 c4)]
            · rw [if_neg c4, if_pos (show A 108 j = Int32.ofNat p ∧ A 109 j = Int32.ofNat s ∧ ¬ Int32.ofNat k < A 110 j ∧ ¬ A 121 i < A 110 j - A 106 s from ⟨c1, c2, c3, c4⟩)]
              rfl
        · rw [if_neg c2, if_neg (fun z : A 108 j = Int32.ofNat p ∧ A 109 j = Int32.ofNat s ∧ ¬ Int32.ofNat k < A 110 j ∧ ¬ A 121 i < A 110 j - A 106 s => c2 z.2.1)]
      · rw [if_neg c1, if_neg (fun z : A 108 j = Int32.ofNat p ∧ A 109 j = Int32.ofNat s ∧ ¬ Int32.ofNat k < A 110 j ∧ ¬ A 121 i < A 110 j - A 106 s => c1 z.1)]
theorem M_pays {A : Ab} (hB : IB A) (hr : IRow A) {s k p i : Nat} (hk : k ≤ 999) (hs : s < cT 4 A) (hp : p < 30) (hi : i ≤ 12) {go : Nat → Nat} (hgo : go p < 2147483648) (hg0 : go p ≠ 0) {H : Nat} {ρ : Sto} (hm : RM A ρ) (h72 : sI ρ 81 72 = Int32.ofNat k) (h79 : sI ρ 81 79 = Int32.ofNat i) (h137 : sI ρ 137 p = Int32.ofNat (go p)) (h138 : sI ρ 138 p = 0) (h139 : sI ρ 139 p = -1) (h85 : sI ρ 81 85 = Int32.ofNat H) : ∃ ρ', mX12_pays (Int32.ofNat s) (Int32.ofNat p) ρ = some ρ' ∧ Ex (S138 p) ρ ρ' ∧ sI ρ' 139 p = soV A s k go p ∧ sI ρ' 138 p = Int32.ofNat (gtN A s k (A 121 i) go p) ∧ sI ρ' 81 85 = Int32.ofNat (H + if gtN A s k (A 121 i) go p = 0 then go p else 0) := by
  have hl : cT 4 A ≤ 200 := (hB.le (c := 4) (by decide)).1
  have hl5 : cT 5 A ≤ 200 := (hB.le (c := 5) (by decide)).1
  have hl2 : cT 2 A ≤ 5 := (hB.le (c := 2) (by decide)).1
  have p30 := oI_inb (j := p) (n := 30) hp (by decide)
  obtain ⟨ρ1, n', g1, g2, g3⟩ := M_md_l hB hr hk hs hp (cT 4 A) 0 FU ρ hm h72 (by omega) (by rw [FUs]; omega) h139
  have g2' : Ex (S138 p) ρ ρ1 := g2.mono (fun b j z => Or.inl ⟨Or.inr z.1, z.2⟩)
  have hm1 : RM A ρ1 := g2'.rm hm S138_pr
  have hn : sI ρ1 81 7 = Int32.ofNat (cT 4 A) := (hm1 81 7 rfl).trans (hB.le (c := 4) (by decide)).2
  have a137 : sI ρ1 137 p = Int32.ofNat (go p) := (g2.2.2.2.2.2 137 p (fun z => by omega)).trans h137
  have a138 : sI ρ1 138 p = 0 := (g2.2.2.2.2.2 138 p (fun z => by omega)).trans h138
  have a85 : sI ρ1 81 85 = Int32.ofNat H := (g2.2.2.2.2.2 81 85 (fun z => by omega)).trans h85
  have a72 : sI ρ1 81 72 = Int32.ofNat k := (g2.2.2.2.2.2 81 72 (fun z => by omega)).trans h72
  have a79 : sI ρ1 81 79 = Int32.ofNat i := (g2.2.2.2.2.2 81 79 (fun z => by omega)).trans h79
  have eS : soV A s k go p = mdV A s k p := if_neg hg0
  have step : mX12_pays (Int32.ofNat s) (Int32.ofNat p) ρ = mX12_pays_2B (mX12_pays_2 n') (Int32.ofNat s) (Int32.ofNat p) (Int32.ofNat (cT 4 A)) ρ1 := by
    refine Eq.trans ?_ (Eq.trans g1 rfl)
    rfl
  rw [step]
  unfold mX12_pays_2B
  rw [hn, if_pos ((oI_le (by omega) (by omega)).mpr (Nat.le_refl _)), if_pos p30, oI_cl (j := p) (by omega), g3, eS]
  by_cases cm : mdV A s k p = -1
  · have eG : gtN A s k (A 121 i) go p = if clB A s k (A 121 i) p then go p else 0 := by unfold gtN; rw [if_neg hg0, if_pos cm]
    have cl := M_cl_l hB hk (show s < 200 by omega) hp hi hm1 a72 a79 (cT 5 A) 0 FU false (by omega) (by rw [FUs]; omega)
    rw [show fl false = 0 from rfl, Bool.false_or, show clE A s k (A 121 i) p (cT 5 A) 0 = clB A s k (A 121 i) p from rfl, a137, a85] at cl
    rw [if_pos cm]
    cases q : clB A s k (A 121 i) p with
    | true =>
      rw [q, if_pos rfl] at cl
      rw [q, if_pos rfl] at eG
      refine ⟨_, cl, g2'.w _ (Or.inl ⟨Or.inl rfl, rfl⟩), ?_, ?_, ?_⟩
      · rw [sI_wI, if_neg (by omega)]; exact g3
      · rw [sI_wI, if_pos ⟨rfl, rfl⟩, eG]
      · rw [sI_wI, if_neg (by omega), a85, eG, if_neg hg0]; rfl
    | false =>
      rw [q, if_neg (by decide)] at cl
      rw [q, if_neg (by decide)] at eG
      refine ⟨_, cl, g2'.w _ (Or.inr ⟨rfl, rfl⟩), ?_, ?_, ?_⟩
      · rw [sI_wI, if_neg (by omega)]; exact g3
      · rw [sI_wI, if_neg (by omega), eG]; exact a138
      · rw [sI_wI, if_pos ⟨rfl, rfl⟩, eG, if_pos rfl, oI_add]
  · obtain ⟨j, j1, j2, j3, j4⟩ := fee_ok hr cm
    have eG : gtN A s k (A 121 i) go p = go p - go p * feN A s k p / 1000 := by unfold gtN; rw [if_neg hg0, if_neg cm]
    have hle : go p * feN A s k p / 1000 ≤ go p := by
      have h1 : go p * feN A s k p ≤ go p * 300 := Nat.mul_le_mul_left _ j4
      omega
    have j5 := oI_inb (j := j) (n := 5) (by omega) (by decide)
    rw [if_neg cm, j2, if_pos j5, oI_cl (j := j) (by omega), hm1 93 j rfl, j3, a137, show (1000 : Int64) = (Int32.ofNat 1000).toInt64 from rfl, mulDiv (c := 1000) hgo (by omega) (by decide), oI_sub hle]
    refine ⟨_, rfl, g2'.w _ (Or.inl ⟨Or.inl rfl, rfl⟩), ?_, ?_, ?_⟩
    · rw [sI_wI, if_neg (by omega), g3, j2]
    · rw [sI_wI, if_pos ⟨rfl, rfl⟩, eG]
    · rw [sI_wI, if_neg (by omega), a85, eG, if_neg (gt_pos hg0 j4)]; rfl
theorem M_paysAll {A : Ab} (hB : IB A) (hr : IRow A) {s k i : Nat} (hk : k ≤ 999) (hs : s < cT 4 A) (hi : i ≤ 12) {go : Nat → Nat} (hgo : ∀ p, p < 30 → go p < 2147483648) (hz : ∀ p, cT 0 A ≤ p → p < 30 → go p = 0) {H : Nat} : ∀ m p fuel ρ, RM A ρ → sI ρ 81 72 = Int32.ofNat k → sI ρ 81 79 = Int32.ofNat i → p + m = cT 0 A → m < fuel → (∀ q, q < 30 → sI ρ 137 q = Int32.ofNat (go q)) → (∀ q, q < 30 → sI ρ 139 q = (if q < p then soV A s k go q else -1) ∧ sI ρ 138 q = (if q < p then Int32.ofNat (gtN A s k (A 121 i) go q) else 0)) → sI ρ 81 85 = Int32.ofNat (H + hfN A s k (A 121 i) go p) → ∃ ρ', mX12_sells_217 fuel (Int32.ofNat s) (Int32.ofNat p) ρ = some ρ' ∧ Ex (fun b j => b = 138 ∨ b = 139 ∨ (b = 81 ∧ j = 85)) ρ ρ' ∧ (∀ q, q < 30 → sI ρ' 139 q = soV A s k go q ∧ sI ρ' 138 q = Int32.ofNat (gtN A s k (A 121 i) go q)) ∧ sI ρ' 81 85 = Int32.ofNat (H + hfN A s k (A 121 i) go 30) := by
  have hl0 : cT 0 A ≤ 30 := (hB.le (c := 0) (by decide)).1
  intro m
  induction m with
  | zero =>
    intro p fuel ρ hm h72 h79 hp hf h137 h138 h85
    obtain ⟨n, rfl⟩ : ∃ n, fuel = n + 1 := ⟨fuel - 1, by omega⟩
    have hn : sI ρ 81 3 = Int32.ofNat (cT 0 A) := (hm 81 3 rfl).trans (hB.le (c := 0) (by decide)).2
    have e : p = cT 0 A := by omega
    subst e
    have z0 : ∀ q, cT 0 A ≤ q → q < 30 → soV A s k go q = -1 ∧ gtN A s k (A 121 i) go q = 0 := fun q h1 h2 => by
      have := hz q h1 h2
      exact ⟨if_pos this, if_pos this⟩
    have eH : ∀ d, cT 0 A + d ≤ 30 → hfN A s k (A 121 i) go (cT 0 A + d) = hfN A s k (A 121 i) go (cT 0 A) := by
      intro d
      induction d with
      | zero => intro _; rfl
      | succ d ihd =>
        intro hd
        have e1 : hfN A s k (A 121 i) go (cT 0 A + (d + 1)) = hfN A s k (A 121 i) go (cT 0 A + d) + if gtN A s k (A 121 i) go (cT 0 A + d) = 0 then go (cT 0 A + d) else 0 := rfl
        rw [e1, (z0 (cT 0 A + d) (by omega) (by omega)).2, if_pos rfl, hz (cT 0 A + d) (by omega) (by omega), Nat.add_zero]
        exact ihd (by omega)
    refine ⟨ρ, ?_, Ex.rf, fun q hq => ?_, ?_⟩
    · refine Eq.trans (b := mX12_sells_217B (mX12_sells_217 n) (Int32.ofNat s) (Int32.ofNat (cT 0 A)) ρ) rfl ?_
      unfold mX12_sells_217B
      rw [hn, if_pos ((oI_le (by omega) (by omega)).mpr (Nat.le_refl _))]
    · rw [(h138 q hq).1, (h138 q hq).2]
      by_cases c : q < cT 0 A
      · rw [if_pos c, if_pos c]; exact ⟨rfl, rfl⟩
      · rw [if_neg c, if_neg c, (z0 q (by omega) hq).1, (z0 q (by omega) hq).2]; exact ⟨rfl, rfl⟩
    · have := eH (30 - cT 0 A) (by omega)
      rw [show cT 0 A + (30 - cT 0 A) = 30 by omega] at this
      rw [this]; exact h85
  | succ m ih =>
    intro p fuel ρ hm h72 h79 hp hf h137 h138 h85
    obtain ⟨n, rfl⟩ : ∃ n, fuel = n + 1 := ⟨fuel - 1, by omega⟩
    have hn : sI ρ 81 3 = Int32.ofNat (cT 0 A) := (hm 81 3 rfl).trans (hB.le (c := 0) (by decide)).2
    have p30 := oI_inb (j := p) (n := 30) (by omega) (by decide)
    have gp := hgo p (by omega)
    have hS : hfN A s k (A 121 i) go (p + 1) = hfN A s k (A 121 i) go p + if gtN A s k (A 121 i) go p = 0 then go p else 0 := rfl
    refine (fun z => z) ?_
    rw [show mX12_sells_217 (n + 1) (Int32.ofNat s) (Int32.ofNat p) ρ = mX12_sells_217B (mX12_sells_217 n) (Int32.ofNat s) (Int32.ofNat p) ρ from rfl]
    unfold mX12_sells_217B
    rw [hn, if_neg (fun q => absurd ((oI_le (by omega) (by omega)).mp q) (by omega)), if_pos p30, oI_cl (j := p) (by omega), h137 p (by omega), oI_s]
    have h8p := h138 p (by omega)
    rw [if_neg (Nat.lt_irrefl p), if_neg (Nat.lt_irrefl p)] at h8p
    by_cases c0 : go p = 0
    · have le0 : Int32.ofNat (go p) ≤ 0 := (oI_le (n := 0) gp (by decide)).mpr (by omega)
      rw [if_pos le0]
      refine ih (p + 1) n ρ hm h72 h79 (by omega) (by omega) h137 (fun q hq => ?_) ?_
      · by_cases e : q = p
        · subst e
          rw [h8p.1, h8p.2, if_pos (Nat.lt_succ_self q), if_pos (Nat.lt_succ_self q)]
          exact ⟨(if_pos c0).symm, by rw [show gtN A s k (A 121 i) go q = 0 from if_pos c0]; rfl⟩
        · rw [(h138 q hq).1, (h138 q hq).2]
          by_cases c : q < p
          · rw [if_pos c, if_pos c, if_pos (show q < p + 1 by omega), if_pos (show q < p + 1 by omega)]; exact ⟨rfl, rfl⟩
          · rw [if_neg c, if_neg c, if_neg (show ¬ q < p + 1 by omega), if_neg (show ¬ q < p + 1 by omega)]; exact ⟨rfl, rfl⟩
      · rw [h85, hS, show gtN A s k (A 121 i) go p = 0 from if_pos c0, if_pos rfl, c0, Nat.add_zero]
    · have le0 : ¬ Int32.ofNat (go p) ≤ 0 := fun z => absurd ((oI_le (n := 0) gp (by decide)).mp z) (by omega)
      obtain ⟨ρ1, g1, g2, g3, g4, g5⟩ := M_pays hB hr hk hs (show p < 30 by omega) hi gp c0 hm h72 h79 (h137 p (by omega)) h8p.2 h8p.1 h85
      rw [if_neg le0, g1, bnd_some]
      have r : ∀ b j, ¬ S138 p b j → sI ρ1 b j = sI ρ b j := g2.2.2.2.2.2
      obtain ⟨ρ', z1, z2, z3⟩ := ih (p + 1) n ρ1 (g2.rm hm S138_pr) ((r 81 72 (by unfold S138; omega)).trans h72) ((r 81 79 (by unfold S138; omega)).trans h79) (by omega) (by omega) (fun q hq => (r 137 q (by unfold S138; omega)).trans (h137 q hq)) (fun q hq => by
        by_cases e : q = p
        · subst e
          rw [g3, g4, if_pos (Nat.lt_succ_self q), if_pos (Nat.lt_succ_self q)]
          exact ⟨rfl, rfl⟩
        · rw [r 139 q (by unfold S138; omega), r 138 q (by unfold S138; omega), (h138 q hq).1, (h138 q hq).2]
          by_cases c : q < p
          · rw [if_pos c, if_pos c, if_pos (show q < p + 1 by omega), if_pos (show q < p + 1 by omega)]; exact ⟨rfl, rfl⟩
          · rw [if_neg c, if_neg c, if_neg (show ¬ q < p + 1 by omega), if_neg (show ¬ q < p + 1 by omega)]; exact ⟨rfl, rfl⟩) (by rw [g5, hS, Nat.add_assoc])
      exact ⟨ρ', z1, (g2.mono (fun b j z => by unfold S138 at z; omega)).tr z2, z3⟩
