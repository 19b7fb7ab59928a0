def byS (A : Ab) (w p : Nat) : Nat → Bool
  | 0 => false
  | j + 1 => if A 85 (3 * w + j) = Int32.ofNat p then true else byS A w p j
theorem byS_iff {A : Ab} {w p : Nat} : ∀ j, byS A w p j = true ↔ ∃ t, t < j ∧ A 85 (3 * w + t) = Int32.ofNat p
  | 0 => ⟨fun h => (by cases h), fun ⟨t, h, _⟩ => by omega⟩
  | j + 1 => by
    unfold byS
    by_cases c : A 85 (3 * w + j) = Int32.ofNat p
    · rw [if_pos c]; exact ⟨fun _ => ⟨j, by omega, c⟩, fun _ => rfl⟩
    · rw [if_neg c, byS_iff j]
      constructor
      · rintro ⟨t, t1, t2⟩; exact ⟨t, by omega, t2⟩
      · rintro ⟨t, t1, t2⟩
        have : t ≠ j := fun q => c (q ▸ t2)
        exact ⟨t, by omega, t2⟩
theorem wtV_at {A : Ab} (hr : IRow A) {w t p : Nat} (hw : w < cT 1 A) (ht : t < aM A w) (h : A 85 (3 * w + t) = Int32.ofNat p) : wtV A w p = A 86 (3 * w + t) := by
  obtain ⟨w1, w2, w3, w4, w5⟩ := work_m hr hw
  exact wtR_at (aM A w) 0 (Nat.zero_le _) (by omega) h (fun u _ hu e => w5 u (by omega) t ht (e.trans h.symm))
theorem byS_all {A : Ab} (hr : IRow A) {w p : Nat} (hw : w < cT 1 A) : byS A w p (aM A w) = true ↔ ¬ wtV A w p ≤ 0 := by
  obtain ⟨w1, w2, w3, w4, w5⟩ := work_m hr hw
  rw [byS_iff]
  constructor
  · rintro ⟨t, t1, t2⟩
    rw [wtV_at hr hw t1 t2]
    obtain ⟨-, x, x1, x2, x3⟩ := w4 t t1
    rw [x3]
    exact fun z => absurd ((oI_le (n := 0) (by omega) (by decide)).mp z) (by omega)
  · intro h
    refine Classical.byContradiction fun q => h ?_
    have : wtV A w p = 0 := wtR_no _ _ fun u _ hu e => q ⟨u, by omega, e⟩
    rw [this]; decide
theorem stat_m {A : Ab} (hr : IRow A) (hB : IB A) {i s k p : Nat} (hs : s < cT 4 A) (hy : inR (A 120 i) 201) : (if ldM A (dth A k p) = -1 then (1 : Int32) else if A 101 s < ldM A (dth A k p) + 365 * A 120 i then (if A 101 s < fdM A (dth A k p) + 365 * A 120 i then 1 else 2) else 0) = (if A 101 s < ldC A (dth A k p) + 365 * A 120 i then (if A 101 s < fdC A (dth A k p) + 365 * A 120 i then 1 else 2) else 0) := by
  have hl4 : cT 4 A ≤ 200 := (hB.le (c := 4) (by decide)).1
  obtain ⟨yy, y1, y2⟩ := hy
  have ds := day_n hr hs
  cases q : dth A k p with
  | none =>
    have e : A 101 s < 1000000 + 365 * A 120 i := by
      rw [ds.2, y2]
      show Int32.ofNat (dN A s) < Int32.ofNat 1000000 + Int32.ofNat 365 * Int32.ofNat yy
      rw [oI_mul, oI_add]
      exact (oI_lt (by omega) (by omega)).mpr (by omega)
    rw [if_pos (show ldM A none = -1 from rfl), if_pos (show A 101 s < ldC A none + 365 * A 120 i from e), if_pos (show A 101 s < fdC A none + 365 * A 120 i from e)]
  | some j =>
    have hj := dtR_lt _ q
    have ne : ¬ ldM A (some j) = -1 := by
      have g := (hr 4 (by decide) j (by omega)).2.2.2
      rw [hj.2.1] at g
      rcases g with g | g | g | g | g | g
      · obtain ⟨-, -, -, d, e, e1, e2, e3, e4⟩ := g
        show ¬ A 102 j = -1
        rw [e4]; exact ne_neg1 (by omega)
      · exact absurd g.1 (by decide)
      · exact absurd g.1 (by decide)
      · exact absurd g.1 (by decide)
      · exact absurd g.1 (by decide)
      · exact absurd g.1 (by decide)
    rw [if_neg ne]
    rfl
def S135 (b _j : Nat) : Prop := b = 135 ∨ b = 136
theorem S135_pr : ∀ b j, S135 b j → pr b j = false := fun b j h => by
  rcases h with rfl | rfl <;> (unfold pr; rfl)
/-- what is the reference's for a person behind some artists -/
def isM (A : Ab) (i s w k j p : Nat) : Int32 := if byS A w p j then statV A i s k p else 0
def shM (A : Ab) (i s w k : Nat) (pt : Int32) (j p : Nat) : Int32 := if byS A w p j then (if statV A i s k p = 0 then 0 else ((pt.toInt64 * (wtV A w p).toInt64) / (allV A w).toInt64).toInt32) else 0
set_option maxHeartbeats 1000000 in
theorem M_shares_l {A : Ab} (hB : IB A) (hr : IRow A) {i s w a b k : Nat} (hi : i ≤ 12) (hS : SL A s w a b) (hy : inR (A 120 i) 201) {pt : Int32} : ∀ m j fuel ρ, RM A ρ → GA A k ρ → sI ρ 81 79 = Int32.ofNat i → sI ρ 81 84 = pt → j + m = aM A w → m < fuel → (∀ p, p < 30 → sI ρ 136 p = isM A i s w k j p ∧ sI ρ 135 p = shM A i s w k pt j p) → ∃ ρ', mX12_shares_61 fuel (Int32.ofNat s) (Int32.ofNat w) (allV A w) (365 * A 120 i) (Int32.ofNat j) ρ = some ρ' ∧ Ex S135 ρ ρ' ∧ ∀ p, p < 30 → sI ρ' 136 p = isM A i s w k (aM A w) p ∧ sI ρ' 135 p = shM A i s w k pt (aM A w) p := by
  obtain ⟨hs, hks, hw, hws, ha, has, hb, hbs⟩ := id hS
  have hl4 : cT 4 A ≤ 200 := (hB.le (c := 4) (by decide)).1
  have hlw : cT 1 A ≤ 30 := (hB.le (c := 1) (by decide)).1
  have hlp : cT 0 A ≤ 30 := (hB.le (c := 0) (by decide)).1
  obtain ⟨w1, w2, w3, w4, w5⟩ := work_m hr hw
  have wb := wsum_b hr hw
  have w30 := oI_inb (j := w) (n := 30) (by omega) (by decide)
  have s200 := oI_inb (j := s) (n := 200) (by omega) (by decide)
  have i13 := oI_inb (j := i) (n := 13) (by omega) (by decide)
  intro m
  induction m with
  | zero =>
    intro j fuel ρ hm hG g79 g84 hj hf hq
    obtain ⟨n, rfl⟩ : ∃ n, fuel = n + 1 := ⟨fuel - 1, by omega⟩
    have e : j = aM A w := by omega
    subst e
    refine ⟨ρ, ?_, Ex.rf, hq⟩
    show mX12_shares_61B (mX12_shares_61 n) _ _ _ _ _ ρ = _
    unfold mX12_shares_61B
    rw [if_pos w30, oI_cl (j := w) (by omega), hm 84 w rfl, w3, if_pos ((oI_le (by omega) (by omega)).mpr (Nat.le_refl _))]
  | succ m ih =>
    intro j fuel ρ hm hG g79 g84 hj hf hq
    obtain ⟨n, rfl⟩ : ∃ n, fuel = n + 1 := ⟨fuel - 1, by omega⟩
    have hj2 : j < aM A w := by omega
    obtain ⟨⟨p, p1, p2⟩, x, x1, x2, x3⟩ := w4 j hj2
    have p30 := oI_inb (j := p) (n := 30) (by omega) (by decide)
    have e3 : (3 : Int32) * Int32.ofNat w + Int32.ofNat j = Int32.ofNat (3 * w + j) := by
      show Int32.ofNat 3 * Int32.ofNat w + Int32.ofNat j = _
      rw [oI_mul, oI_add]
    have j90 := oI_inb (j := 3 * w + j) (n := 90) (by omega) (by decide)
    obtain ⟨G1, G2, G3, G4⟩ := id hG
    obtain ⟨g129, g130⟩ := G2 p (by omega)
    have other : ∀ q, q ≠ p → q < 30 → byS A w q (j + 1) = byS A w q j := fun q hne hq30 => by
      show (if A 85 (3 * w + j) = Int32.ofNat q then true else byS A w q j) = _
      rw [if_neg (fun z => hne ((oI_eq (by omega) (by omega)).mp (p2.symm.trans z)).symm)]
    have self : byS A w p (j + 1) = true := if_pos p2
    have wte := wtV_at hr hw hj2 p2
    -- behind a status
    have s235 : ∀ u : Int32, u = statV A i s k p → ∃ ρ', mX12_shares_235 (mX12_shares_61 n) (Int32.ofNat s) (Int32.ofNat w) (allV A w) (365 * A 120 i) (Int32.ofNat j) (Int32.ofNat p) (Int32.ofNat p) u ρ = some ρ' ∧ Ex S135 ρ ρ' ∧ ∀ p, p < 30 → sI ρ' 136 p = isM A i s w k (aM A w) p ∧ sI ρ' 135 p = shM A i s w k pt (aM A w) p := fun u hu => by
      have go : ∀ τ, Ex S135 ρ τ → (∀ q, q < 30 → sI τ 136 q = if q = p then u else sI ρ 136 q) → (∀ q, q < 30 → sI τ 135 q = if q = p then (if statV A i s k p = 0 then 0 else ((pt.toInt64 * (wtV A w p).toInt64) / (allV A w).toInt64).toInt32) else sI ρ 135 q) → ∃ ρ', mX12_shares_61 n (Int32.ofNat s) (Int32.ofNat w) (allV A w) (365 * A 120 i) (Int32.ofNat (j + 1)) τ = some ρ' ∧ Ex S135 ρ ρ' ∧ ∀ p, p < 30 → sI ρ' 136 p = isM A i s w k (aM A w) p ∧ sI ρ' 135 p = shM A i s w k pt (aM A w) p := fun τ hE t1 t2 => by
        have rd : ∀ b j, b ≠ 135 → b ≠ 136 → sI τ b j = sI ρ b j := fun b j h1 h2 => hE.2.2.2.2.2 b j (fun z => z.elim h1 h2)
        have hG' : GA A k τ := ⟨by rw [rd _ _ (by decide) (by decide)]; exact G1, fun q hq' => by rw [rd _ _ (by decide) (by decide), rd _ _ (by decide) (by decide)]; exact G2 q hq', fun q hq' => by rw [rd _ _ (by decide) (by decide)]; exact G3 q hq', fun q hq' => (G4 q hq').eq (fun z => rd _ _ (by decide) (by decide))⟩
        obtain ⟨ρ', z1, z2, z3⟩ := ih (j + 1) n τ (hE.rm hm S135_pr) hG' (by rw [rd _ _ (by decide) (by decide)]; exact g79) (by rw [rd _ _ (by decide) (by decide)]; exact g84) (by omega) (by omega) (fun q hq' => by
          rw [t1 q hq', t2 q hq']
          by_cases e : q = p
          · subst e
            rw [if_pos rfl, if_pos rfl]
            unfold isM shM
            rw [self]
            exact ⟨hu, rfl⟩
          · rw [if_neg e, if_neg e]
            unfold isM shM
            rw [other q e hq']
            exact hq q hq')
        exact ⟨ρ', z1, hE.tr z2, z3⟩
      unfold mX12_shares_235
      simp only [stp, eq_true p30, if_true]
      rw [oI_cl (j := p) (by omega), show sI (wI ρ 136 p u) 136 p = u from by rw [sI_wI, if_pos ⟨rfl, rfl⟩], oI_s]
      have y136 : ∀ q, q < 30 → sI (wI ρ 136 p u) 136 q = if q = p then u else sI ρ 136 q := fun q _ => by
        rw [sI_wI]
        by_cases e : q = p
        · rw [if_pos ⟨rfl, e⟩, if_pos e]
        · rw [if_neg (fun z => e z.2), if_neg e]
      by_cases c0 : u = 0
      · rw [if_pos c0]
        refine go _ (Ex.rf.w (S := S135) _ (Or.inr rfl)) y136 (fun q hq' => ?_)
        rw [sI_wI, if_neg (by omega)]
        by_cases e : q = p
        · subst e
          rw [if_pos rfl, if_pos (hu.symm.trans c0)]
          have h0 := (hq q hq').2
          have no : byS A w q j = false := by
            cases z : byS A w q j with
            | false => rfl
            | true =>
              obtain ⟨t, t1, t2⟩ := (byS_iff j).mp z
              have := w5 t (by omega) j hj2 (t2.trans p2.symm)
              omega
          rw [h0]
          unfold shM
          rw [no]; rfl
        · rw [if_neg e]
      · rw [if_neg c0, e3, if_pos j90]
        have nz : ¬ (allV A w).toInt64 = 0 := fun z => by
          unfold allV at z
          rw [i64_of (by omega)] at z
          have := congrArg Int64.toInt z
          rw [Int64.toInt_ofNat_of_lt (by omega)] at this
          have z0 : (0 : Int64).toInt = 0 := rfl
          omega
        rw [if_pos nz, oI_cl (j := 3 * w + j) (by omega)]
        have r84 : sI (wI ρ 136 p u) 81 84 = pt := by rw [sI_wI, if_neg (by omega)]; exact g84
        have r86 : sI (wI ρ 136 p u) 86 (3 * w + j) = wtV A w p := by rw [sI_wI, if_neg (by omega), hm 86 _ rfl, wte]
        rw [r84, r86]
        refine go _ ((Ex.rf.w (S := S135) _ (Or.inr rfl)).w _ (Or.inl rfl)) (fun q hq' => ?_) (fun q hq' => ?_)
        · rw [sI_wI, if_neg (by omega)]; exact y136 q hq'
        · rw [sI_wI]
          by_cases e : q = p
          · rw [if_pos ⟨rfl, e⟩, if_pos e, if_neg (fun z => c0 (hu.trans z))]
          · rw [if_neg (fun z => e z.2), if_neg e, sI_wI, if_neg (by omega)]
    have sm := stat_m hr hB (i := i) (s := s) (k := k) (p := p) hs hy
    -- agreed or not
    have s129 : ∀ g : Int32, (g = 0 ∧ statV A i s k p = 0) ∨ (g = 1 ∧ statV A i s k p = (if ldM A (dth A k p) = -1 then (1 : Int32) else if A 101 s < ldM A (dth A k p) + 365 * A 120 i then (if A 101 s < fdM A (dth A k p) + 365 * A 120 i then 1 else 2) else 0)) → ∃ ρ', mX12_shares_129 (mX12_shares_61 n) (Int32.ofNat s) (Int32.ofNat w) (allV A w) (365 * A 120 i) (Int32.ofNat j) (Int32.ofNat p) g ρ = some ρ' ∧ Ex S135 ρ ρ' ∧ ∀ p, p < 30 → sI ρ' 136 p = isM A i s w k (aM A w) p ∧ sI ρ' 135 p = shM A i s w k pt (aM A w) p := fun g hg => by
      have s203 : ∀ l o : Int32, (g = 1 → l = 0 → o = 0 → statV A i s k p = 1) → (g = 1 → l = 0 → ¬ o = 0 → statV A i s k p = 2) → (g = 1 → ¬ l = 0 → statV A i s k p = 0) → ∃ ρ', mX12_shares_203 (mX12_shares_61 n) (Int32.ofNat s) (Int32.ofNat w) (allV A w) (365 * A 120 i) (Int32.ofNat j) (Int32.ofNat p) g l o ρ = some ρ' ∧ Ex S135 ρ ρ' ∧ ∀ p, p < 30 → sI ρ' 136 p = isM A i s w k (aM A w) p ∧ sI ρ' 135 p = shM A i s w k pt (aM A w) p := fun l o h1 h2 h3 => by
        unfold mX12_shares_203
        rcases hg with ⟨g0, gs⟩ | ⟨g1, gs⟩
        · rw [if_pos g0]; exact s235 0 gs.symm
        · rw [if_neg (by rw [g1]; exact i10)]
          by_cases c1 : l = 0
          · rw [if_pos c1]
            by_cases c2 : o = 0
            · rw [if_pos c2]; exact s235 1 (h1 g1 c1 c2).symm
            · rw [if_neg c2]; exact s235 2 (h2 g1 c1 c2).symm
          · rw [if_neg c1]; exact s235 0 (h3 g1 c1).symm
      have gs : g = 1 → statV A i s k p = (if ldM A (dth A k p) = -1 then (1 : Int32) else if A 101 s < ldM A (dth A k p) + 365 * A 120 i then (if A 101 s < fdM A (dth A k p) + 365 * A 120 i then 1 else 2) else 0) := fun g1 => by
        rcases hg with ⟨g0, -⟩ | ⟨-, z⟩
        · rw [g1] at g0; exact absurd g0 i10
        · exact z
      unfold mX12_shares_129 mX12_shares_165 mX12_shares_166 mX12_shares_202
      simp only [eq_true p30, eq_true s200, if_true]
      rw [oI_cl (j := p) (by omega), g130, g129, oI_cl (j := s) (by omega), hm 101 s rfl]
      by_cases c1 : ldM A (dth A k p) = -1
      · rw [if_pos c1, if_pos c1]
        exact s203 0 0 (fun g1 _ _ => by rw [gs g1, if_pos c1]) (fun _ _ z => absurd rfl z) (fun _ z => absurd rfl z)
      · rw [if_neg c1, if_neg c1]
        by_cases c2 : A 101 s < ldM A (dth A k p) + 365 * A 120 i
        · rw [if_pos c2]
          by_cases c3 : A 101 s < fdM A (dth A k p) + 365 * A 120 i
          · rw [if_pos c3]
            exact s203 0 0 (fun g1 _ _ => by rw [gs g1, if_neg c1, if_pos c2, if_pos c3]) (fun _ _ z => absurd rfl z) (fun _ z => absurd rfl z)
          · rw [if_neg c3]
            exact s203 0 1 (fun _ _ z => absurd z i10) (fun g1 _ _ => by rw [gs g1, if_neg c1, if_pos c2, if_neg c3]) (fun _ z => absurd rfl z)
        · rw [if_neg c2, if_neg c1]
          have z3 : ∀ o, ∃ ρ', mX12_shares_203 (mX12_shares_61 n) (Int32.ofNat s) (Int32.ofNat w) (allV A w) (365 * A 120 i) (Int32.ofNat j) (Int32.ofNat p) g 1 o ρ = some ρ' ∧ Ex S135 ρ ρ' ∧ ∀ p, p < 30 → sI ρ' 136 p = isM A i s w k (aM A w) p ∧ sI ρ' 135 p = shM A i s w k pt (aM A w) p := fun o => s203 1 o (fun _ z => absurd z i10) (fun _ z => absurd z i10) (fun g1 _ => by rw [gs g1, if_neg c1, if_neg c2])
          by_cases c3 : A 101 s < fdM A (dth A k p) + 365 * A 120 i
          · rw [if_pos c3]; exact z3 0
          · rw [if_neg c3]; exact z3 1
    have step : mX12_shares_61 (n + 1) (Int32.ofNat s) (Int32.ofNat w) (allV A w) (365 * A 120 i) (Int32.ofNat j) ρ = mX12_shares_61B (mX12_shares_61 n) (Int32.ofNat s) (Int32.ofNat w) (allV A w) (365 * A 120 i) (Int32.ofNat j) ρ := rfl
    rw [step]
    unfold mX12_shares_61B
    rw [if_pos w30, oI_cl (j := w) (by omega), hm 84 w rfl, w3, if_neg (fun z => absurd ((oI_le (by omega) (by omega)).mp z) (by omega)), e3, if_pos j90, oI_cl (j := 3 * w + j) (by omega), hm 85 _ rfl, p2, if_pos p30, if_pos s200, oI_cl (j := p) (by omega), oI_cl (j := s) (by omega), hm 82 p rfl, hm 103 s rfl, g79, if_pos i13, oI_cl (j := i) (by omega), hm 122 i rfl]
    by_cases c1 : A 82 p = A 103 s
    · rw [if_pos c1]
      refine s129 1 (Or.inr ⟨rfl, ?_⟩)
      rw [sm]; unfold statV; rw [if_pos c1]
    · rw [if_neg c1]
      by_cases c2 : ((A 122 i >>> (A 82 p &&& 31)) &&& (1 : Int32)) = 1
      · rw [if_pos c2]
        refine s129 1 (Or.inr ⟨rfl, ?_⟩)
        rw [sm]; unfold statV; rw [if_neg c1, if_pos c2]
      · rw [if_neg c2]
        refine s129 0 (Or.inl ⟨rfl, ?_⟩)
        unfold statV; rw [if_neg c1, if_neg c2]
