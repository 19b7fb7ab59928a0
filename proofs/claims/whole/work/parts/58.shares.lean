/-! for whom, and whose share -/
def agrP (A : Ab) (i s p : Nat) : Prop := A 82 p = A 103 s ∨ ((A 122 i >>> (A 82 p &&& 31)) &&& (1 : Int32)) = 1
def statV (A : Ab) (i s k p : Nat) : Int32 :=
  if A 82 p = A 103 s then (if A 101 s < ldC A (dth A k p) + 365 * A 120 i then (if A 101 s < fdC A (dth A k p) + 365 * A 120 i then 1 else 2) else 0)
  else if ((A 122 i >>> (A 82 p &&& 31)) &&& (1 : Int32)) = 1 then (if A 101 s < ldC A (dth A k p) + 365 * A 120 i then (if A 101 s < fdC A (dth A k p) + 365 * A 120 i then 1 else 2) else 0)
  else 0
def wtV (A : Ab) (w p : Nat) : Int32 := wtR A w (Int32.ofNat p) (aM A w) 0
def allV (A : Ab) (w : Nat) : Int32 := Int32.ofNat (wsum A w (aM A w))
/-- the status and the share of a person, when the sale counts (y) with a part (pt) -/
def stV (A : Ab) (i s w k : Nat) (y : Int32) (p : Nat) : Int32 := if y = 0 then 0 else if wtV A w p ≤ 0 then 0 else statV A i s k p
def shV (A : Ab) (i s w k : Nat) (y pt : Int32) (p : Nat) : Int32 := if stV A i s w k y p = 0 then 0 else ((pt.toInt64 * (wtV A w p).toInt64) / (allV A w).toInt64).toInt32
theorem wsum_b {A : Ab} (hr : IRow A) {w : Nat} (hw : w < cT 1 A) : 1 ≤ wsum A w (aM A w) ∧ wsum A w (aM A w) ≤ 27 := by
  obtain ⟨w1, w2, w3, w4, w5⟩ := work_m hr hw
  have key : ∀ m, m ≤ aM A w → m ≤ wsum A w m ∧ wsum A w m ≤ 9 * m := by
    intro m
    induction m with
    | zero => intro _; exact ⟨Nat.le_refl _, Nat.le_refl _⟩
    | succ m ih =>
      intro hm
      obtain ⟨h1, h2⟩ := ih (by omega)
      obtain ⟨-, x, x1, x2, x3⟩ := w4 m (by omega)
      show m + 1 ≤ wsum A w m + (A 86 (3 * w + m)).toNatClampNeg ∧ wsum A w m + (A 86 (3 * w + m)).toNatClampNeg ≤ 9 * (m + 1)
      rw [x3, oI_cl (by omega)]
      omega
  have := key (aM A w) (Nat.le_refl _)
  omega
theorem wtR_at {A : Ab} {w t : Nat} {p : Int32} : ∀ m i, i ≤ t → t < i + m → A 85 (3 * w + t) = p → (∀ u, i ≤ u → u < i + m → A 85 (3 * w + u) = p → u = t) → wtR A w p m i = A 86 (3 * w + t)
  | 0, i, h1, h2, _, _ => by omega
  | m + 1, i, h1, h2, h3, h4 => by
    unfold wtR
    by_cases c : A 85 (3 * w + i) = p
    · rw [if_pos c, h4 i (Nat.le_refl _) (by omega) c]
    · rw [if_neg c]
      have : t ≠ i := fun q => c (by rw [← q]; exact h3)
      exact wtR_at m (i + 1) (by omega) (by omega) h3 (fun u g1 g2 g3 => h4 u (by omega) (by omega) g3)
theorem wtR_no {A : Ab} {w : Nat} {p : Int32} : ∀ m i, (∀ u, i ≤ u → u < i + m → A 85 (3 * w + u) ≠ p) → wtR A w p m i = 0
  | 0, _, _ => rfl
  | m + 1, i, h => by
    unfold wtR
    rw [if_neg (h i (Nat.le_refl _) (by omega))]
    exact wtR_no m (i + 1) (fun u g1 g2 => h u (by omega) (by omega))
theorem C_status {A : Ab} {i s w a b k c p : Nat} (hk : k ≤ 999) (hS : SL A s w a b) {σ : Sto} (h : CB A σ) (hO : OP A k σ) (h5 : sR σ 53 5 = sR σ 38 s) (hL : LwAt σ c) (g2 : sI σ c 2 = A 103 s) (g10 : sI σ c 10 = A 120 i) (g12 : sI σ c 12 = A 122 i) (hp : p < cT 0 A) : mX0_statusOf (Int32.ofNat p) c σ = some (statV A i s k p) := by
  obtain ⟨hs, hks, hw, hws, ha, has, hb, hbs⟩ := hS
  have hr := h.2.2.2.2.2.1
  have hlp : cT 0 A ≤ 30 := (h.1.le (c := 0) (by decide)).1
  obtain ⟨k0, f0, -⟩ := h.fa hs
  have dS : sI σ (sR σ 38 s) 6 = A 101 s := (C_day h hs (by rw [hks]; decide)).trans (day_n hr hs).2.symm
  obtain ⟨kp, p0, p1⟩ := h.pa hp
  obtain ⟨o54, o55⟩ := hO.2 p (by omega)
  have nn : ¬ A 82 p < 0 := by
    obtain ⟨j, j1, j2⟩ := (hr 0 (by decide) p hp).1
    have := h.1.ln.1
    rw [j2]; exact oI_nn (by omega)
  unfold mX0_statusOf mX4_isFor statV
  rw [if_pos hL.2.2.1, h.at0 hp, bnd_some, if_pos kp, p0, g2, g12]
  have tail : (if sK σ (sR σ 53 5) = 4 then if inb (Int32.ofNat p) 30 then if sI σ (sR σ 53 5) 6 < sI σ 55 (Int32.ofNat p).toNatClampNeg + 365 * sI σ c 10 then if sI σ (sR σ 53 5) 6 < sI σ 54 (Int32.ofNat p).toNatClampNeg + 365 * sI σ c 10 then some (1 : Int32) else some 2 else some 0 else none else none) = some (if A 101 s < ldC A (dth A k p) + 365 * A 120 i then (if A 101 s < fdC A (dth A k p) + 365 * A 120 i then 1 else 2) else 0) := by
    rw [h5, if_pos k0, if_pos (oI_inb (j := p) (n := 30) (by omega) (by decide)), oI_cl (j := p) (by omega), dS, o54, o55, g10]
    by_cases c1 : A 101 s < ldC A (dth A k p) + 365 * A 120 i
    · rw [if_pos c1, if_pos c1]
      by_cases c2 : A 101 s < fdC A (dth A k p) + 365 * A 120 i
      · rw [if_pos c2, if_pos c2]
      · rw [if_neg c2, if_neg c2]
    · rw [if_neg c1, if_neg c1]
  by_cases c1 : A 82 p = A 103 s
  · rw [if_pos c1, if_pos c1, bnd_some, if_neg i10]; exact tail
  · rw [if_neg c1, if_neg c1, if_neg nn]
    by_cases c2 : ((A 122 i >>> (A 82 p &&& 31)) &&& (1 : Int32)) = 1
    · rw [if_pos c2, if_pos c2, bnd_some, if_neg i10]; exact tail
    · rw [if_neg c2, if_neg c2, bnd_some, if_pos rfl]
theorem wt_p {A : Ab} (hB : IB A) (hr : IRow A) {w p : Nat} (hw : w < cT 1 A) (hp : p < 1000) (h : ¬ wtV A w p ≤ 0) : p < cT 0 A := by
  obtain ⟨w1, w2, w3, w4, w5⟩ := work_m hr hw
  have hlp : cT 0 A ≤ 30 := (hB.le (c := 0) (by decide)).1
  refine Classical.byContradiction fun q => h ?_
  have : wtV A w p = 0 := wtR_no _ _ fun u _ hu e => by
    obtain ⟨⟨j, j1, j2⟩, -⟩ := w4 u (by omega)
    rw [j2] at e
    have := (oI_eq (by omega) (by omega)).mp e
    omega
  rw [this]; decide
def S57 (b _j : Nat) : Prop := b = 57 ∨ b = 58
theorem C_shares_l {A : Ab} {i s w a b k c : Nat} (hk : k ≤ 999) (hS : SL A s w a b) {y pt : Int32} : ∀ m p fuel σ, CB A σ → OP A k σ → sR σ 53 5 = sR σ 38 s → sR σ 53 6 = sR σ 35 w → LwAt σ c → sI σ c 2 = A 103 s → sI σ c 10 = A 120 i → sI σ c 12 = A 122 i → sI σ 53 10 = y → sI σ 53 11 = pt → p + m = 30 → m < fuel → (∀ q, q < p → sI σ 58 q = stV A i s w k y q ∧ sI σ 57 q = shV A i s w k y pt q) → (56 < c ∨ c < 54) → (c < 57 ∨ 58 < c) → ∃ σ', mX0_apply_86 fuel c (Int32.ofNat p) σ = some σ' ∧ Ex S57 σ σ' ∧ ∀ q, q < 30 → sI σ' 58 q = stV A i s w k y q ∧ sI σ' 57 q = shV A i s w k y pt q := by
  intro m
  induction m with
  | zero =>
    intro p fuel σ h hO h5 h6 hL g2 g10 g12 e10 e11 hp hf hq _ _
    obtain ⟨n, rfl⟩ : ∃ n, fuel = n + 1 := ⟨fuel - 1, by omega⟩
    have e : p = 30 := by omega
    subst e
    refine ⟨σ, ?_, Ex.rf, hq⟩
    show mX0_apply_86B (mX0_apply_86 n) _ _ σ = _
    unfold mX0_apply_86B
    rw [if_pos (by decide)]
  | succ m ih =>
    intro p fuel σ h hO h5 h6 hL g2 g10 g12 e10 e11 hp hf hq hc1 hc2
    obtain ⟨n, rfl⟩ : ∃ n, fuel = n + 1 := ⟨fuel - 1, by omega⟩
    obtain ⟨hs, hks, hw, hws, ha, has, hb, hbs⟩ := id hS
    have hr := h.2.2.2.2.2.1
    obtain ⟨kw, -⟩ := h.wa hw
    obtain ⟨-, hwc, -⟩ := h.2.2.2.2.2.2.1.2.1 w hw |>.1 |> fun z => (⟨z.1, z.2, trivial⟩ : _ ∧ _ ∧ True)
    have wb := wsum_b hr hw
    have q30 : ¬ (30 : Int32) ≤ Int32.ofNat p := fun q => absurd ((oI_le (j := 30) (by decide) (by omega)).mp q) (by omega)
    have p30 := oI_inb (j := p) (n := 30) (by omega) (by decide)
    -- what goes on behind both writes
    have go : ∀ (u v : Int32), u = stV A i s w k y p → v = shV A i s w k y pt p → ∀ τ, Ex S57 σ τ → (∀ q, sI τ 58 q = if q = p then u else sI σ 58 q) → (∀ q, sI τ 57 q = if q = p then v else sI σ 57 q) → ∃ σ', mX0_apply_86 n c (Int32.ofNat (p + 1)) τ = some σ' ∧ Ex S57 σ σ' ∧ ∀ q, q < 30 → sI σ' 58 q = stV A i s w k y q ∧ sI σ' 57 q = shV A i s w k y pt q := fun u v hu hv τ hE t58 t57 => by
      have sc := hE.sc (fun b j z => by rcases z with rfl | rfl <;> decide)
      have rd : ∀ b j, ¬ S57 b j → sI τ b j = sI σ b j := hE.2.2.2.2.2
      have rR := hE.2.2.2.1
      have nS : ∀ x, x ≠ 57 → x ≠ 58 → ∀ j, ¬ S57 x j := fun x h1 h2 j z => z.elim h1 h2
      obtain ⟨σ', z1, z2, z3⟩ := ih (p + 1) n τ (h.sc sc) ⟨by rw [rd 53 1 (nS _ (by decide) (by decide) _)]; exact hO.1, fun q hq' => by rw [rd 54 q (nS _ (by decide) (by decide) _), rd 55 q (nS _ (by decide) (by decide) _)]; exact hO.2 q hq'⟩ (by rw [rR, rR]; exact h5) (by rw [rR, rR]; exact h6) (hL.fr sc.fr) (by rw [rd c 2 (nS _ (by omega) (by omega) _)]; exact g2) (by rw [rd c 10 (nS _ (by omega) (by omega) _)]; exact g10) (by rw [rd c 12 (nS _ (by omega) (by omega) _)]; exact g12) (by rw [rd 53 10 (nS _ (by decide) (by decide) _)]; exact e10) (by rw [rd 53 11 (nS _ (by decide) (by decide) _)]; exact e11) (by omega) (by omega) (fun q hq' => by
        rw [t58, t57]
        by_cases e : q = p
        · rw [if_pos e, if_pos e, e]; exact ⟨hu, hv⟩
        · rw [if_neg e, if_neg e]; exact hq q (by omega)) hc1 hc2
      exact ⟨σ', z1, hE.tr z2, z3⟩
    -- a status told
    have s127 : ∀ u : Int32, u = stV A i s w k y p → ∃ σ', mX0_apply_127 (mX0_apply_86 n) c (Int32.ofNat p) (wtV A w p) (Int32.ofNat p) u σ = some σ' ∧ Ex S57 σ σ' ∧ ∀ q, q < 30 → sI σ' 58 q = stV A i s w k y q ∧ sI σ' 57 q = shV A i s w k y pt q := fun u hu => by
      unfold mX0_apply_127
      rw [if_pos p30]
      simp only [stp]
      rw [if_pos p30, oI_cl (j := p) (by omega)]
      have r58 : sI (wI (wI σ 58 p u) 57 p 0) 58 p = u := by rw [sI_wI, if_neg (by omega), sI_wI, if_pos ⟨rfl, rfl⟩]
      have eX : Ex S57 σ (wI (wI σ 58 p u) 57 p 0) := (Ex.rf.w (S := S57) _ (Or.inr rfl)).w _ (Or.inl rfl)
      have x58 : ∀ (v : Int32) q, sI (wI (wI (wI σ 58 p u) 57 p 0) 57 p v) 58 q = if q = p then u else sI σ 58 q := fun v q => by
        rw [sI_wI, if_neg (by omega), sI_wI, if_neg (by omega), sI_wI]
        by_cases e : q = p
        · rw [if_pos ⟨rfl, e⟩, if_pos e]
        · rw [if_neg (fun z => e z.2), if_neg e]
      have y58 : ∀ q, sI (wI (wI σ 58 p u) 57 p 0) 58 q = if q = p then u else sI σ 58 q := fun q => by
        rw [sI_wI, if_neg (by omega), sI_wI]
        by_cases e : q = p
        · rw [if_pos ⟨rfl, e⟩, if_pos e]
        · rw [if_neg (fun z => e z.2), if_neg e]
      have y57 : ∀ q, sI (wI (wI σ 58 p u) 57 p 0) 57 q = if q = p then 0 else sI σ 57 q := fun q => by
        rw [sI_wI]
        by_cases e : q = p
        · rw [if_pos ⟨rfl, e⟩, if_pos e]
        · rw [if_neg (fun z => e z.2), if_neg e, sI_wI, if_neg (by omega)]
      have x57 : ∀ (v : Int32) q, sI (wI (wI (wI σ 58 p u) 57 p 0) 57 p v) 57 q = if q = p then v else sI σ 57 q := fun v q => by
        rw [sI_wI]
        by_cases e : q = p
        · rw [if_pos ⟨rfl, e⟩, if_pos e]
        · rw [if_neg (fun z => e z.2), if_neg e, y57, if_neg e]
      rw [r58, oI_s]
      by_cases c0 : u = 0
      · rw [if_pos c0]
        exact go u 0 hu (by unfold shV; rw [if_pos (hu.symm.trans c0)]) _ eX y58 y57
      · rw [if_neg c0]
        have h6' : sR (wI (wI σ 58 p u) 57 p 0) 53 6 = sR σ 35 w := h6
        have nw : sR σ 35 w ≠ 57 ∧ sR σ 35 w ≠ 58 := by
          have : reg (sR σ 35 w) := h.rg (c := 1) (i := w) (by decide) (by have := (h.1.le (c := 1) (by decide)).1; have hm : cM 1 = 30 := rfl; omega)
          unfold reg at this; omega
        have all7 : sI (wI (wI σ 58 p u) 57 p 0) (sR σ 35 w) 7 = allV A w := by
          rw [sI_wI, if_neg (fun z => nw.1 z.1), sI_wI, if_neg (fun z => nw.2 z.1)]
          exact hwc
        have e11' : sI (wI (wI σ 58 p u) 57 p 0) 53 11 = pt := by
          rw [sI_wI, if_neg (by omega), sI_wI, if_neg (by omega)]; exact e11
        have pos : ¬ allV A w ≤ 0 := fun z => absurd ((oI_le (n := 0) (by omega) (by decide)).mp z) (by omega)
        have nz : ¬ (allV A w).toInt64 = 0 := fun z => by
          unfold allV at z
          rw [i64_of (by omega)] at z
          have := congrArg Int64.toInt z
          rw [Int64.toInt_ofNat_of_lt (by omega)] at this
          have z0 : (0 : Int64).toInt = 0 := rfl
          omega
        rw [h6', show sK (wI (wI σ 58 p u) 57 p 0) (sR σ 35 w) = sK σ (sR σ 35 w) from rfl, if_pos kw, all7, if_neg pos, if_pos nz, e11']
        exact go u _ hu (by unfold shV; rw [if_neg (fun z => c0 (hu.trans z))]) _ (eX.w _ (Or.inl rfl)) (x58 _) (x57 _)
    have step : mX0_apply_86 (n + 1) c (Int32.ofNat p) σ = mX0_apply_86B (mX0_apply_86 n) c (Int32.ofNat p) σ := rfl
    rw [step]
    unfold mX0_apply_86B mX0_apply_126
    rw [if_neg q30, h6, if_pos kw, C_wt h hw, bnd_some, e10]
    by_cases cy : y = 0
    · rw [if_pos cy]
      exact s127 0 (by unfold stV; rw [if_pos cy])
    · rw [if_neg cy]
      by_cases cw : wtV A w p ≤ 0
      · rw [if_pos (show wtR A w (Int32.ofNat p) (aM A w) 0 ≤ 0 from cw)]
        exact s127 0 (by unfold stV; rw [if_neg cy, if_pos cw])
      · rw [if_neg (show ¬ wtR A w (Int32.ofNat p) (aM A w) 0 ≤ 0 from cw), C_status hk hS h hO h5 hL g2 g10 g12 (wt_p h.1 hr hw (by omega) cw), bnd_some]
        exact s127 _ (by unfold stV; rw [if_neg cy, if_neg cw])
