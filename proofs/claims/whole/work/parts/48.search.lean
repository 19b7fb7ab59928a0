/-! questions: the class's rows of work alone were written -/
def Sc (σ σ' : Sto) : Prop := sZ σ' = sZ σ ∧ (∀ b, sK σ' b = sK σ b) ∧ (∀ b, sN σ' b = sN σ b) ∧ (∀ b k, b ≠ 53 → sR σ' b k = sR σ b k) ∧ (∀ b, (b < 53 ∨ 65 < b) → ¬ (sK σ b = 100 ∧ sN σ b = 64) → ∀ k, sI σ' b k = sI σ b k) ∧ ∀ b, (b < 64 ∨ 66 < b) → ∀ k, sL σ' b k = sL σ b k
theorem Sc.rf {σ : Sto} : Sc σ σ := ⟨rfl, fun _ => rfl, fun _ => rfl, fun _ _ _ => rfl, fun _ _ _ _ => rfl, fun _ _ _ => rfl⟩
theorem Sc.tr {a b c : Sto} (h : Sc a b) (g : Sc b c) : Sc a c :=
  ⟨g.1.trans h.1, fun x => (g.2.1 x).trans (h.2.1 x), fun x => (g.2.2.1 x).trans (h.2.2.1 x), fun x k hx => (g.2.2.2.1 x k hx).trans (h.2.2.2.1 x k hx),
   fun x hx hn k => (g.2.2.2.2.1 x hx (by rw [h.2.1, h.2.2.1]; exact hn) k).trans (h.2.2.2.2.1 x hx hn k), fun x hx k => (g.2.2.2.2.2 x hx k).trans (h.2.2.2.2.2 x hx k)⟩
theorem Sc.w {σ σ0 : Sto} (h : Sc σ σ0) (a k : Nat) (v : Int32) (ha : 53 ≤ a ∧ a ≤ 65) : Sc σ (wI σ0 a k v) :=
  h.tr ⟨rfl, fun _ => rfl, fun _ => rfl, fun _ _ _ => rfl, fun b hb _ j => by rw [sI_wI, if_neg (by omega)], fun _ _ _ => rfl⟩
theorem Sc.wp {σ σ0 : Sto} (h : Sc σ σ0) (a k : Nat) (v : Int32) (h1 : sK σ0 a = 100) (h2 : sN σ0 a = 64) : Sc σ (wI σ0 a k v) :=
  h.tr ⟨rfl, fun _ => rfl, fun _ => rfl, fun _ _ _ => rfl, fun b _ hn j => by rw [sI_wI, if_neg (fun q : b = a ∧ j = k => hn (by rw [q.1]; exact ⟨h1, h2⟩))], fun _ _ _ => rfl⟩
theorem Sc.wr {σ σ0 : Sto} (h : Sc σ σ0) (k v : Nat) : Sc σ (wR σ0 53 k v) :=
  h.tr ⟨rfl, fun _ => rfl, fun _ => rfl, fun b j hb => by rw [sR_wR, if_neg (fun q : b = 53 ∧ j = k => hb q.1)], fun _ _ _ _ => rfl, fun _ _ _ => rfl⟩
theorem Sc.wl {σ σ0 : Sto} (h : Sc σ σ0) (a k : Nat) (v : Int64) (ha : 64 ≤ a ∧ a ≤ 66) : Sc σ (wL σ0 a k v) :=
  h.tr ⟨rfl, fun _ => rfl, fun _ => rfl, fun _ _ _ => rfl, fun _ _ _ _ => rfl, fun b hb j => by rw [sL_wL, if_neg (by omega)]⟩
theorem Sc.fr {σ σ' : Sto} (h : Sc σ σ') : Fr σ σ' := ⟨Nat.le_of_eq h.1.symm, fun b _ => ⟨h.2.1 b, h.2.2.1 b⟩, fun b _ hr hn k => h.2.2.2.2.1 b (by unfold reg at hr; omega) hn k, fun b _ hr k => h.2.2.2.1 b k (by unfold reg at hr; omega)⟩
theorem stat_64 {b : Nat} (h1 : b < 147) (h2 : b < 53 ∨ 65 < b) (h3 : 32 ≤ b) (h4 : ¬ reg b) : ∃ q ∈ STAT, q.1 = b ∧ ¬ (q.2.1 = 100 ∧ q.2.2 = 64) := by
  have key : ((List.range 147).all fun b => !((decide (b < 53) || decide (65 < b)) && decide (32 ≤ b) && !((decide (41 ≤ b) && decide (b ≤ 52)) || (decide (69 ≤ b) && decide (b ≤ 73)) || (decide (75 ≤ b) && decide (b ≤ 79)))) || (STAT.any fun q => q.1 == b && !(q.2.1 == 100 && q.2.2 == 64))) = true := by decide +kernel
  rw [List.all_eq_true] at key
  have g0 := key b (List.mem_range.mpr h1)
  have hc : ((decide (b < 53) || decide (65 < b)) && decide (32 ≤ b) && !((decide (41 ≤ b) && decide (b ≤ 52)) || (decide (69 ≤ b) && decide (b ≤ 73)) || (decide (75 ≤ b) && decide (b ≤ 79)))) = true := by
    unfold reg at h4
    simp only [Bool.and_eq_true, Bool.or_eq_true, Bool.not_eq_true', Bool.or_eq_false_iff, Bool.and_eq_false_iff, decide_eq_true_eq, decide_eq_false_iff_not]
    omega
  rw [hc] at g0
  have g : (STAT.any fun q => q.1 == b && !(q.2.1 == 100 && q.2.2 == 64)) = true := g0
  rw [List.any_eq_true] at g
  obtain ⟨q, q1, q2⟩ := g
  rw [Bool.and_eq_true, beq_iff_eq, Bool.not_eq_true', Bool.and_eq_false_iff, beq_eq_false_iff_ne, beq_eq_false_iff_ne] at q2
  exact ⟨q, q1, q2.1, fun z => q2.2.elim (fun y => y z.1) (fun y => y z.2)⟩
theorem Sc.low {σ σ' : Sto} (h : Sc σ σ') (hs : RStat σ) {b : Nat} (h1 : b < 147) (h2 : b < 53 ∨ 65 < b) (h3 : 32 ≤ b) (h4 : ¬ reg b) : ∀ k, sI σ' b k = sI σ b k := by
  obtain ⟨q, q1, q2, q3⟩ := stat_64 h1 h2 h3 h4
  have g := hs q q1
  rw [q2] at g
  exact h.2.2.2.2.1 b h2 (by rw [g.1, g.2]; exact q3)
theorem Sc.onC {σ σ' : Sto} (h : Sc σ σ') (hs : RStat σ) : OnlyC σ σ' := ⟨Nat.le_of_eq h.1.symm, fun b _ => ⟨h.2.1 b, h.2.2.1 b⟩, ⟨h.2.2.2.2.2 80 (Or.inr (by decide)), h.low hs (by decide) (by decide) (by decide) (by unfold reg; omega) 0⟩, fun b h1 h2 => ⟨h.low hs (by omega) (by omega) (by omega) (by unfold reg; omega), h.2.2.2.2.2 b (Or.inr (by omega))⟩⟩
theorem RObj.sc {A : Ab} {σ σ' : Sto} (h : RObj A σ) (s : Sc σ σ') : RObj A σ' := fun c hc i hi => by
  have h0 := h c hc i hi
  refine h0.keep (s.2.2.2.1 _ _ (by unfold cR; omega)) (Nat.le_of_eq s.1.symm) (s.2.1 _) (fun k _ => ?_) (fun _ _ => rfl)
  have hr := h0.1
  refine s.2.2.2.2.1 _ (by unfold reg at hr; omega) ?_ k
  rw [h0.2.2.1]
  rintro ⟨q, -⟩
  rcases (show c = 0 ∨ c = 1 ∨ c = 2 ∨ c = 3 ∨ c = 4 ∨ c = 5 ∨ c = 6 by omega) with rfl | rfl | rfl | rfl | rfl | rfl | rfl <;> exact absurd q (by decide)
theorem cnt_lo : ∀ j, j < 11 → (cntOf j).1 = 33 ∨ (cntOf j).1 = 32 := by decide
theorem RCnt.sc {A : Ab} {σ σ' : Sto} (h : RCnt A σ) (s : Sc σ σ') (hs : RStat σ) : RCnt A σ' := fun j hj => by
  rw [← h j hj]
  rcases cnt_lo j hj with e | e
  · rw [e]; exact s.low hs (by decide) (by decide) (by decide) (by unfold reg; omega) _
  · rw [e]; exact s.low hs (by decide) (by decide) (by decide) (by unfold reg; omega) _
theorem CB.sc {A : Ab} {σ σ' : Sto} (h : CB A σ) (s : Sc σ σ') : CB A σ' := by
  obtain ⟨h1, h2, h3, h4, h5, h6, h7, h8⟩ := h
  exact ⟨h1, by rw [s.1]; exact h2, h3.sc s, h4.sc s h5, fun q hq => ⟨(s.2.1 _).trans (h5 q hq).1, (s.2.2.1 _).trans (h5 q hq).2⟩, h6, h7.fr s.fr (fun i => s.2.2.2.1 _ _ (by decide)) rfl (fun _ _ _ _ => rfl) (h1.le (c := 1) (by decide)).1, h8.fr s.fr (fun i => s.2.2.2.1 _ _ (by decide)) (s.2.2.2.1 _ _ (by decide)) rfl (h1.le (c := 6) (by decide)).1 (Nat.le_refl _) (Nat.le_refl _) (fun _ _ _ _ => rfl)⟩
theorem Rel.sc {A : Ab} {σ σ' σ2 : Sto} {vv : Int64} (h : Rel A σ) (s : Sc σ σ') (hm : OnlyM (wL σ' 146 0 vv) σ2) (hr : RM A σ2) : Rel A σ2 := by
  have cb := h.cb.sc s
  have ff := hm.fr
  have hrt : RTape A (wL σ' 146 0 vv) := fun j hj => by
    rw [sI_wL, s.low h.stat (by decide) (by decide) (by decide) (by unfold reg; omega)]
    exact h.2.2.2.2.2.1 j hj
  have hgn : RGain (wL σ' 146 0 vv) := ⟨fun t ht => by
    rw [sL_wL, if_neg (by omega), sL_wL, if_neg (by omega), s.2.2.2.2.2 80 (Or.inr (by decide)), s.2.2.2.2.2 145 (Or.inr (by decide))]
    exact h.gain.1 t ht, by rw [sI_wL, s.low h.stat (by decide) (by decide) (by decide) (by unfold reg; omega)]; exact h.gain.2⟩
  refine ⟨h.1, ?_, hr, RObj.onM (σ := wL σ' 146 0 vv) cb.2.2.1 hm, RCnt.onM (σ := wL σ' 146 0 vv) cb.2.2.2.1 hm, hrt.onM hm, RStat.onM (σ := wL σ' 146 0 vv) cb.2.2.2.2.1 hm, hgn.onM hm, h.row, RWork.fr (σ := wL σ' 146 0 vv) cb.2.2.2.2.2.2.1 ff (fun i => hm.2.2.2.1 _ _) rfl (fun _ _ _ _ => rfl) (h.1.le (c := 1) (by decide)).1, RLaw.fr (σ := wL σ' 146 0 vv) cb.2.2.2.2.2.2.2 ff (fun i => hm.2.2.2.1 _ _) (hm.2.2.2.1 _ _) rfl (h.1.le (c := 6) (by decide)).1 (Nat.le_refl _) (Nat.le_refl _) (fun _ _ _ _ => rfl), h.hr, h.sd, h.cl, h.ap.same (fun c h1 h2 i => (hm.2.2.2.1 _ _).trans (s.2.2.2.1 _ _ (by omega))) (fun _ _ _ => rfl), h.z⟩
  rw [hm.1]
  show 147 ≤ sZ σ'
  rw [s.1]; exact h.2.1
/-- a question that writes the class's rows of work -/
theorem op_askS {β : Type} {cl : Sto → Option (Int32 × Sto)} {mo : Sto → Option (β × Sto)} {val : β → Int64} {A : Ab} {σ σ' ρ : Sto} {b : β} {v : Int64} (h : Rel A σ) (s : Sc σ σ') (h1 : cl σ = some (0, wL σ' 146 0 v)) (h2 : mo (wL σ' 146 0 v) = some (b, ρ)) (hm : OnlyM (wL σ' 146 0 v) ρ) (hr : RM A ρ) (h0 : sI ρ 81 0 = 0) (hv : v = val b) :
    ∃ k σ1 b σ2, cl σ = some (k, σ1) ∧ mo σ1 = some (b, σ2) ∧ sI σ2 81 0 = k ∧ (k = 0 → sL σ2 146 0 = val b) ∧ ∃ A', Rel A' σ2 :=
  ⟨0, _, b, ρ, h1, h2, h0, fun _ => by rw [(hm.2.2.2.2.2 146 (Or.inr (by decide))).2 0, ← hv]; rfl, A, h.sc s hm hr⟩
/-! the best one so far -/
def okK (K : Nat → Int32) (i : Nat) : Option Nat → Bool
  | none => true
  | some j => decide (K j ≤ K i)
def bestR (P : Nat → Bool) (K : Nat → Int32) : Nat → Nat → Option Nat → Option Nat
  | 0, _, b => b
  | m + 1, i, b => bestR P K m (i + 1) (if P i && okK K i b then some i else b)
theorem bestR_lt {P : Nat → Bool} {K : Nat → Int32} {N : Nat} : ∀ m i b, i + m ≤ N → (∀ y, b = some y → y < N ∧ P y = true) → ∀ y, bestR P K m i b = some y → y < N ∧ P y = true
  | 0, _, _, _, h, y, e => h y e
  | m + 1, i, b, hi, h, y, e => by
    refine bestR_lt m (i + 1) _ (by omega) (fun z hz => ?_) y e
    by_cases c : (P i && okK K i b) = true
    · rw [if_pos c] at hz
      cases hz
      rw [Bool.and_eq_true] at c
      exact ⟨by omega, c.1⟩
    · rw [if_neg c] at hz
      exact h z hz
/-! rates -/
def rtP (A : Ab) (l d : Int32) (i : Nat) : Bool := decide (A 94 i = l) && decide (A 95 i ≤ d)
def rtV (A : Ab) : Option Nat → Int32
  | none => 1000
  | some j => A 96 j
def rateV (A : Ab) (l d : Int32) : Int32 := rtV A (bestR (rtP A l d) (A 95) (cT 3 A) 0 none)
theorem CB.ra {A : Ab} {σ : Sto} (h : CB A σ) {i : Nat} (hi : i < cT 3 A) : sK σ (sR σ 37 i) = 7 ∧ sI σ (sR σ 37 i) 0 = A 94 i ∧ sI σ (sR σ 37 i) 1 = A 95 i ∧ sI σ (sR σ 37 i) 2 = A 96 i := by
  have hl := (h.1.le (c := 3) (by decide)).1
  have hm : cM 3 = 60 := rfl
  have F : ∀ k ∈ cF 3, sI σ (sR σ 37 i) k = cV 3 A i k := fun k hk => h.fld (c := 3) (by decide) hl hi hk
  exact ⟨h.kind (c := 3) (by decide) (by omega), F 0 (by decide), F 1 (by decide), F 2 (by decide)⟩
theorem CB.rn {A : Ab} {σ : Sto} (h : CB A σ) : sK σ (sR σ 37 60) = 7 ∧ sI σ (sR σ 37 60) 1 = -1 ∧ sI σ (sR σ 37 60) 2 = 1000 := by
  have hl := (h.1.le (c := 3) (by decide)).1
  have hm : cM 3 = 60 := rfl
  have F : ∀ k ∈ cF 3, sI σ (sR σ 37 60) k = cB 3 k := fun k hk => h.bld (c := 3) (by decide) (by omega) (by omega) hk
  exact ⟨h.kind (c := 3) (by decide) (by omega), F 1 (by decide), F 2 (by decide)⟩
theorem inR_nn {v : Int32} {n : Nat} (h : inR v n) (hn : n < 2147483648) : ¬ v < -1 := by
  obtain ⟨j, j1, j2⟩ := h
  rw [j2]
  exact not_lt_neg1 (by omega)
theorem C_rate_l {A : Ab} {σ : Sto} (h : CB A σ) {l d : Int32} : ∀ m i fuel b, i + m = cT 3 A → m < fuel → (∀ y, b = some y → y < cT 3 A) → mX1_rateFor_5 fuel l d (oB b) (Int32.ofNat i) σ = some (rtV A (bestR (rtP A l d) (A 95) m i b)) := by
  have hl : cT 3 A ≤ 60 := (h.1.le (c := 3) (by decide)).1
  have hn : sI σ 33 9 = Int32.ofNat (cT 3 A) := h.num (c := 3) (by decide)
  intro m
  induction m with
  | zero =>
    intro i fuel b hi hf hb
    obtain ⟨n, rfl⟩ : ∃ n, fuel = n + 1 := ⟨fuel - 1, by omega⟩
    show mX1_rateFor_5B (mX1_rateFor_5 n) _ _ _ _ σ = _
    unfold mX1_rateFor_5B
    rw [hn, if_pos ((oI_le (by omega) (by omega)).mpr (by omega))]
    cases b with
    | none =>
      obtain ⟨k0, f1, f2⟩ := h.rn
      rw [show oB none = -1 from rfl, h.no3 no_neg, bnd_some, if_pos k0, f2]
      rfl
    | some y =>
      obtain ⟨k0, f0, f1, f2⟩ := h.ra (hb y rfl)
      rw [show oB (some y) = Int32.ofNat y from rfl, h.at3 (hb y rfl), bnd_some, if_pos k0, f2]
      rfl
  | succ m ih =>
    intro i fuel b hi hf hb
    obtain ⟨n, rfl⟩ : ∃ n, fuel = n + 1 := ⟨fuel - 1, by omega⟩
    have hi2 : i < cT 3 A := by omega
    have lt : ¬ Int32.ofNat (cT 3 A) ≤ Int32.ofNat i := fun q => absurd ((oI_le (by omega) (by omega)).mp q) (by omega)
    obtain ⟨k0, f0, f1, f2⟩ := h.ra hi2
    have row := (h.2.2.2.2.2.1 3 (by decide) i hi2).2.1
    have sk : (rtP A l d i && okK (A 95) i b) = false → mX1_rateFor_5 n l d (oB b) (Int32.ofNat i + 1) σ = some (rtV A (bestR (rtP A l d) (A 95) (m + 1) i b)) := fun e => by
      rw [oI_s, ih (i + 1) n b (by omega) (by omega) hb]
      show _ = some (rtV A (bestR (rtP A l d) (A 95) m (i + 1) (if rtP A l d i && okK (A 95) i b then some i else b)))
      rw [e]; rfl
    have tk : (rtP A l d i && okK (A 95) i b) = true → mX1_rateFor_5 n l d (Int32.ofNat i) (Int32.ofNat i + 1) σ = some (rtV A (bestR (rtP A l d) (A 95) (m + 1) i b)) := fun e => by
      rw [oI_s]
      refine (ih (i + 1) n (some i) (by omega) (by omega) (fun y hy => by cases hy; exact hi2)).trans ?_
      show _ = some (rtV A (bestR (rtP A l d) (A 95) m (i + 1) (if rtP A l d i && okK (A 95) i b then some i else b)))
      rw [e]; rfl
    refine Eq.trans (b := mX1_rateFor_5B (mX1_rateFor_5 n) l d (oB b) (Int32.ofNat i) σ) rfl ?_
    unfold mX1_rateFor_5B
    rw [hn, if_neg lt, h.at3 hi2, bnd_some, if_pos k0, f0, f1]
    by_cases c1 : A 94 i = l
    · rw [if_pos c1]
      by_cases c2 : d < A 95 i
      · rw [if_pos c2]
        exact sk (by unfold rtP; rw [decide_eq_false (fun z => nlt.mpr z c2), Bool.and_false, Bool.false_and])
      · rw [if_neg c2]
        have p : rtP A l d i = true := by unfold rtP; rw [decide_eq_true c1, decide_eq_true (nlt.mp c2)]; rfl
        cases b with
        | none =>
          obtain ⟨k0', f1', f2'⟩ := h.rn
          rw [show oB none = -1 from rfl, h.no3 no_neg, bnd_some, if_pos k0', f1', if_neg (inR_nn row (by decide))]
          exact tk (by rw [p]; rfl)
        | some y =>
          obtain ⟨k0', f0', f1', f2'⟩ := h.ra (hb y rfl)
          rw [show oB (some y) = Int32.ofNat y from rfl, h.at3 (hb y rfl), bnd_some, if_pos k0', f1']
          by_cases c3 : A 95 i < A 95 y
          · rw [if_pos c3]
            exact sk (by rw [p, Bool.true_and]; exact decide_eq_false (fun z => nlt.mpr z c3))
          · rw [if_neg c3]
            exact tk (by rw [p, Bool.true_and]; exact decide_eq_true (nlt.mp c3))
    · rw [if_neg c1]
      exact sk (by unfold rtP; rw [decide_eq_false c1, Bool.false_and, Bool.false_and])
theorem C_rate {A : Ab} {σ : Sto} (h : CB A σ) (l d : Int32) : mX1_rateFor l d σ = some (rateV A l d) := by
  have hl : cT 3 A ≤ 60 := (h.1.le (c := 3) (by decide)).1
  exact C_rate_l h (cT 3 A) 0 FU none (by omega) (show cT 3 A < 5000 by omega) (fun y hy => by cases hy)
theorem M_rate_l {A : Ab} {σ : Sto} (hB : IB A) (hm : RM A σ) {l d : Int32} : ∀ m i fuel b, i + m = cT 3 A → m < fuel → (∀ y, b = some y → y < cT 3 A) → mX12_rateOf_5 fuel l d (oB b) (Int32.ofNat i) σ = some (rtV A (bestR (rtP A l d) (A 95) m i b)) := by
  have hl : cT 3 A ≤ 60 := (hB.le (c := 3) (by decide)).1
  have hn : sI σ 81 6 = Int32.ofNat (cT 3 A) := (hm 81 6 rfl).trans (hB.le (c := 3) (by decide)).2
  intro m
  induction m with
  | zero =>
    intro i fuel b hi hf hb
    obtain ⟨n, rfl⟩ : ∃ n, fuel = n + 1 := ⟨fuel - 1, by omega⟩
    show mX12_rateOf_5B (mX12_rateOf_5 n) _ _ _ _ σ = _
    unfold mX12_rateOf_5B
    rw [hn, if_pos ((oI_le (by omega) (by omega)).mpr (by omega))]
    cases b with
    | none => rw [if_pos (show oB none = -1 from rfl)]; rfl
    | some y =>
      have := hb y rfl
      rw [show oB (some y) = Int32.ofNat y from rfl, if_neg (ne_neg1 (by omega)), if_pos (oI_inb (by omega) (by decide)), oI_cl (by omega), hm 96 y rfl]
      rfl
  | succ m ih =>
    intro i fuel b hi hf hb
    obtain ⟨n, rfl⟩ : ∃ n, fuel = n + 1 := ⟨fuel - 1, by omega⟩
    have hi2 : i < cT 3 A := by omega
    have lt : ¬ Int32.ofNat (cT 3 A) ≤ Int32.ofNat i := fun q => absurd ((oI_le (by omega) (by omega)).mp q) (by omega)
    have sk : (rtP A l d i && okK (A 95) i b) = false → mX12_rateOf_5 n l d (oB b) (Int32.ofNat i + 1) σ = some (rtV A (bestR (rtP A l d) (A 95) (m + 1) i b)) := fun e => by
      rw [oI_s, ih (i + 1) n b (by omega) (by omega) hb]
      show _ = some (rtV A (bestR (rtP A l d) (A 95) m (i + 1) (if rtP A l d i && okK (A 95) i b then some i else b)))
      rw [e]; rfl
    have tk : (rtP A l d i && okK (A 95) i b) = true → mX12_rateOf_5 n l d (Int32.ofNat i) (Int32.ofNat i + 1) σ = some (rtV A (bestR (rtP A l d) (A 95) (m + 1) i b)) := fun e => by
      rw [oI_s]
      refine (ih (i + 1) n (some i) (by omega) (by omega) (fun y hy => by cases hy; exact hi2)).trans ?_
      show _ = some (rtV A (bestR (rtP A l d) (A 95) m (i + 1) (if rtP A l d i && okK (A 95) i b then some i else b)))
      rw [e]; rfl
    refine Eq.trans (b := mX12_rateOf_5B (mX12_rateOf_5 n) l d (oB b) (Int32.ofNat i) σ) rfl ?_
    unfold mX12_rateOf_5B
    rw [hn, if_neg lt, if_pos (oI_inb (j := i) (n := 60) (by omega) (by decide)), oI_cl (j := i) (by omega), hm 94 i rfl, hm 95 i rfl]
    by_cases c1 : A 94 i = l
    · rw [if_pos c1]
      by_cases c2 : d < A 95 i
      · rw [if_pos c2]
        exact sk (by unfold rtP; rw [decide_eq_false (fun z => nlt.mpr z c2), Bool.and_false, Bool.false_and])
      · rw [if_neg c2]
        have p : rtP A l d i = true := by unfold rtP; rw [decide_eq_true c1, decide_eq_true (nlt.mp c2)]; rfl
        cases b with
        | none =>
          rw [if_pos (show oB none = -1 from rfl)]
          exact tk (by rw [p]; rfl)
        | some y =>
          have := hb y rfl
          rw [show oB (some y) = Int32.ofNat y from rfl, if_neg (ne_neg1 (by omega)), if_pos (oI_inb (j := y) (n := 60) (by omega) (by decide)), oI_cl (j := y) (by omega), hm 95 y rfl]
          by_cases c3 : A 95 i < A 95 y
          · rw [if_pos c3]
            exact sk (by rw [p, Bool.true_and]; exact decide_eq_false (fun z => nlt.mpr z c3))
          · rw [if_neg c3]
            exact tk (by rw [p, Bool.true_and]; exact decide_eq_true (nlt.mp c3))
    · rw [if_neg c1]
      exact sk (by unfold rtP; rw [decide_eq_false c1, Bool.false_and, Bool.false_and])
theorem M_rate {A : Ab} {σ : Sto} (hB : IB A) (hm : RM A σ) (l d : Int32) : mX12_rateOf l d σ = some (rateV A l d) := by
  have hl : cT 3 A ≤ 60 := (hB.le (c := 3) (by decide)).1
  exact M_rate_l hB hm (cT 3 A) 0 FU none (by omega) (show cT 3 A < 5000 by omega) (fun y hy => by cases hy)
theorem op_more (p0 : Int32) : OpOK (mL_more p0) (mX12_more p0) jJ := by
  intro A σ h
  obtain ⟨nt, nl, np, nw, ns, nr, nf, nc, nL, ⟨b1, b2, b3, b4, b5, b6, b7, b8, b9⟩, ⟨a1, a2, a3, a4, a5, a6, a7, a8, a9⟩, ⟨c0, c1, c2, c3, c4, c5, c6, c7, c8⟩, -⟩ := h.nums
  have t0 : ∀ σ' : Sto, sI (wI σ' 81 0 0) 81 0 = 0 := fun _ => rfl
  have r0 : ∀ σ', RM A σ' → RM A (wI σ' 81 0 0) := fun σ' hm => hm.np 81 0 0 rfl
  have mi : ∀ p σ', RM A σ' → mX12_isPerson p (wI σ' 81 0 0) = if nu p np then some (1, wI σ' 81 0 0) else some (0, wI (wI σ' 81 0 0) 81 0 1) := fun p σ' hm => by
    rw [M_isPerson (t0 σ'), (r0 _ hm) 81 3 rfl, a3]
  by_cases g : nu p0 np
  · obtain ⟨j, j1, j2⟩ := nu_of (by omega) g
    have e2 : mX11_more p0 σ = some (.inr (sL σ 80 j)) := by
      unfold mX11_more
      rw [C_needP c2 (by omega), if_pos g, bdp_inr, j2, if_pos (oI_inb (by omega) (by decide)), oI_cl (by omega)]
    refine op_same (σ := σ) (v := sL σ 80 j) h (by show wr hN jJ σ ((mX11_more p0 σ).map (embS σ)) = _; rw [e2]; rfl) (b := sL σ 145 j) ?_ (h.gain.1 j (by omega))
    simp only [mX12_more, stp]
    rw [mi p0 _ (h.2.2.1.wl _ _ _), if_pos g, bd2_some, if_neg i10, j2, if_pos (oI_inb (by omega) (by decide)), oI_cl (by omega)]
    rw [show sL (wI (wL σ 146 0 (sL σ 80 j)) 81 0 0) 145 j = sL (wL σ 146 0 (sL σ 80 j)) 145 j from rfl, sL_wL, if_neg (by omega)]
  · have e2 : mX11_more p0 σ = some (.inl 0) := by
      unfold mX11_more
      rw [C_needP c2 (by omega), if_neg g]; rfl
    refine op_thr (k := 1) (b := 0) h (by decide) (by show wr hN jJ σ ((mX11_more p0 σ).map (embS σ)) = _; rw [e2]; rfl) ?_
    simp only [mX12_more, stp]
    rw [mi p0 _ h.2.2.1, if_neg g]; rfl
