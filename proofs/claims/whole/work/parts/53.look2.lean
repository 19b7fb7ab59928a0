def prV (A : Ab) (s : Nat) : Int32 := (((A 104 s).toInt64 * (rateV A (A 103 s) (A 101 s)).toInt64) / (1000 : Int64)).toInt32
def ownV (A : Ab) (s w : Nat) : Int32 := if byR A w (A 99 s) (aM A w) 0 then 1 else 0
def frV (A : Ab) (s w k : Nat) : Int32 := frO A w (cmR A s k (cT 4 A))
def hdV (A : Ab) (s k : Nat) : Int32 := hdO A s (cmR A s k (cT 4 A))
def agV (A : Ab) (s k : Nat) : Int32 := agR A s k (cT 4 A)
/-- the ten values -/
def valV (A : Ab) (s w a b k : Nat) : Nat → Int32
  | 0 => prV A s
  | 1 => A 83 a
  | 2 => A 83 b
  | 3 => A 105 s
  | 4 => ownV A s w
  | 5 => hdV A s k
  | 6 => frV A s w k
  | 7 => agV A s k
  | 8 => A 84 w
  | _ => A 87 w
theorem CB.pa {A : Ab} {σ : Sto} (h : CB A σ) {i : Nat} (hi : i < cT 0 A) : sK σ (sR σ 34 i) = 6 ∧ sI σ (sR σ 34 i) 0 = A 82 i ∧ sI σ (sR σ 34 i) 1 = A 83 i := by
  have hl := (h.1.le (c := 0) (by decide)).1
  have hm : cM 0 = 30 := rfl
  have F : ∀ k ∈ cF 0, sI σ (sR σ 34 i) k = cV 0 A i k := fun k hk => h.fld (c := 0) (by decide) hl hi hk
  exact ⟨h.kind (c := 0) (by decide) (by omega), F 0 (by decide), F 1 (by decide)⟩
/-- the class has looked at a sale -/
def LK (A : Ab) (s w a b k : Nat) (σ : Sto) : Prop := sR σ 53 5 = sR σ 38 s ∧ sR σ 53 6 = sR σ 35 w ∧ sI σ 53 7 = prV A s ∧ sI σ 53 8 = hdV A s k ∧ sI σ 53 9 = agV A s k ∧ ∀ j, j < 10 → sI σ 56 j = valV A s w a b k j
/-- a sale told: its numbers -/
def SL (A : Ab) (s w a b : Nat) : Prop := s < cT 4 A ∧ A 97 s = 2 ∧ w < cT 1 A ∧ A 98 s = Int32.ofNat w ∧ a < cT 0 A ∧ A 99 s = Int32.ofNat a ∧ b < cT 0 A ∧ A 100 s = Int32.ofNat b
theorem SL.of {A : Ab} (hr : IRow A) {s : Nat} (hs : s < cT 4 A) (hk : A 97 s = 2) : ∃ w a b, SL A s w a b := by
  obtain ⟨⟨w, w1, w2⟩, ⟨a, a1, a2⟩, ⟨b, b1, b2⟩, -⟩ := sale_ok hr hs hk
  exact ⟨w, a, b, hs, hk, w1, w2, a1, a2, b1, b2⟩
theorem C_fill {A : Ab} {s w a b k : Nat} (hS : SL A s w a b) {σ : Sto} (h : CB A σ) (h5 : sR σ 53 5 = sR σ 38 s) (h6 : sR σ 53 6 = sR σ 35 w) (h7 : sI σ 53 7 = prV A s) (h8 : sI σ 53 8 = hdV A s k) (h9 : sI σ 53 9 = agV A s k) : ∃ σ', mX0_fillValues (frV A s w k) σ = some σ' ∧ Ex (fun b _ => b = 56) σ σ' ∧ ∀ j, j < 10 → sI σ' 56 j = valV A s w a b k j := by
  obtain ⟨hs, hks, hw, hws, ha, has, hb, hbs⟩ := hS
  have hr := h.2.2.2.2.2.1
  have hlp : cT 0 A ≤ 30 := (h.1.le (c := 0) (by decide)).1
  obtain ⟨k0, f0, f2, f3, f4, f5, f6, f7, f8, f9, f10, f11, f12⟩ := h.fa hs
  rw [if_neg (by rw [hks]; decide)] at f5
  rw [if_pos hks] at f12
  obtain ⟨k1, p1, p2⟩ := h.pa ha
  obtain ⟨k2, r1, r2⟩ := h.pa hb
  obtain ⟨kw, y0, y1, y2, y3, y6⟩ := h.wa hw
  have nf : ¬ sR σ 38 s = 56 := fun q => by
    have : reg (sR σ 38 s) := h.rg (c := 4) (i := s) (by decide) (by have := (h.1.le (c := 4) (by decide)).1; have hm : cM 4 = 200 := rfl; omega)
    rw [q] at this; unfold reg at this; omega
  have na : ¬ sR σ 34 a = 56 := fun q => by
    have : reg (sR σ 34 a) := h.rg (c := 0) (i := a) (by decide) (by have hm : cM 0 = 30 := rfl; omega)
    rw [q] at this; unfold reg at this; omega
  have nb : ¬ sR σ 34 b = 56 := fun q => by
    have : reg (sR σ 34 b) := h.rg (c := 0) (i := b) (by decide) (by have hm : cM 0 = 30 := rfl; omega)
    rw [q] at this; unfold reg at this; omega
  have nw : ¬ sR σ 35 w = 56 := fun q => by
    have : reg (sR σ 35 w) := h.rg (c := 1) (i := w) (by decide) (by have := (h.1.le (c := 1) (by decide)).1; have hm : cM 1 = 30 := rfl; omega)
    rw [q] at this; unfold reg at this; omega
  -- the reads of a store behind writes to 56
  have rd : ∀ τ, Ex (fun b _ => b = 56) σ τ → CB A τ ∧ sR τ 53 5 = sR σ 38 s ∧ sR τ 53 6 = sR σ 35 w ∧ (∀ x j, x ≠ 56 → sI τ x j = sI σ x j) ∧ (∀ x, sK τ x = sK σ x) := fun τ hE => by
    refine ⟨h.sc (hE.sc (fun b j z => by rw [z]; decide)), by rw [hE.2.2.2.1]; exact h5, by rw [hE.2.2.2.1]; exact h6, fun x j hx => hE.2.2.2.2.2 x j hx, hE.2.1⟩
  have t1 : Ex (fun b _ => b = 56) σ (wI σ 56 0 (prV A s)) := Ex.rf.w _ rfl
  have t2 : Ex (fun b _ => b = 56) σ (wI (wI σ 56 0 (prV A s)) 56 1 (A 83 a)) := t1.w _ rfl
  have t3 : Ex (fun b _ => b = 56) σ (wI (wI (wI σ 56 0 (prV A s)) 56 1 (A 83 a)) 56 2 (A 83 b)) := t2.w _ rfl
  have t4 : Ex (fun b _ => b = 56) σ (wI (wI (wI (wI σ 56 0 (prV A s)) 56 1 (A 83 a)) 56 2 (A 83 b)) 56 3 (A 105 s)) := t3.w _ rfl
  obtain ⟨c1, s15, s16, s1I, s1K⟩ := rd _ t1
  obtain ⟨c2, s25, s26, s2I, s2K⟩ := rd _ t2
  obtain ⟨c3, s35, s36, s3I, s3K⟩ := rd _ t3
  obtain ⟨c4, s45, s46, s4I, s4K⟩ := rd _ t4
  have pA1 := c1.at0 ha
  have pB2 := c2.at0 hb
  have by4 := C_isBy c4 hw (A 99 s)
  have tail : ∀ v : Int32, v = ownV A s w → ∃ σ', mX0_fillValues_96 (frV A s w k) 4 v (wI (wI (wI (wI σ 56 0 (prV A s)) 56 1 (A 83 a)) 56 2 (A 83 b)) 56 3 (A 105 s)) = some σ' ∧ Ex (fun b _ => b = 56) σ σ' ∧ ∀ j, j < 10 → sI σ' 56 j = valV A s w a b k j := fun v hv => by
    have t5 := t4.w (a := 56) (k := 4) v rfl
    have t6 := t5.w (a := 56) (k := 5) (hdV A s k) rfl
    have e122 : ∀ u : Int32, u = frV A s w k → ∃ σ', mX0_fillValues_122 6 u (wI (wI (wI (wI (wI (wI σ 56 0 (prV A s)) 56 1 (A 83 a)) 56 2 (A 83 b)) 56 3 (A 105 s)) 56 4 v) 56 5 (hdV A s k)) = some σ' ∧ Ex (fun b _ => b = 56) σ σ' ∧ ∀ j, j < 10 → sI σ' 56 j = valV A s w a b k j := fun u hu => by
      have t7 := t6.w (a := 56) (k := 6) u rfl
      have t8 := t7.w (a := 56) (k := 7) (agV A s k) rfl
      have t9 := t8.w (a := 56) (k := 8) (A 84 w) rfl
      have t10 := t9.w (a := 56) (k := 9) (A 87 w) rfl
      obtain ⟨-, -, -, s7I, -⟩ := rd _ t7
      obtain ⟨-, -, s86, s8I, s8K⟩ := rd _ t8
      obtain ⟨-, -, s96, s9I, s9K⟩ := rd _ t9
      refine ⟨_, ?_, t10, ?_⟩
      · unfold mX0_fillValues_122
        rw [if_pos (by decide)]
        simp only [stp]
        rw [show ((6 : Int32)).toNatClampNeg = 6 from rfl, show ((7 : Int32)).toNatClampNeg = 7 from rfl, show ((8 : Int32)).toNatClampNeg = 8 from rfl, show ((9 : Int32)).toNatClampNeg = 9 from rfl]
        rw [s7I 53 9 (by decide), h9, s86, s8K, if_pos kw, s8I _ _ nw, y6, s96, s9K, if_pos kw, s9I _ _ nw, y0]
      · intro j hj
        simp only [sI_wI, true_and]
        rcases (show j = 0 ∨ j = 1 ∨ j = 2 ∨ j = 3 ∨ j = 4 ∨ j = 5 ∨ j = 6 ∨ j = 7 ∨ j = 8 ∨ j = 9 by omega) with rfl | rfl | rfl | rfl | rfl | rfl | rfl | rfl | rfl | rfl
        · rfl
        · rfl
        · rfl
        · rfl
        · exact hv
        · rfl
        · exact hu
        · rfl
        · rfl
        · rfl
    unfold mX0_fillValues_96
    rw [if_pos (by decide)]
    simp only [stp]
    rw [show ((4 : Int32)).toNatClampNeg = 4 from rfl, show ((5 : Int32)).toNatClampNeg = 5 from rfl, (rd _ t5).2.2.2.1 53 8 (by decide), h8]
    by_cases cf : frV A s w k = 0
    · rw [if_pos cf]; exact e122 0 cf.symm
    · rw [if_neg cf]
      refine e122 1 ?_
      unfold frV frO at cf ⊢
      cases q : cmR A s k (cT 4 A) with
      | none => rw [q] at cf; exact absurd rfl cf
      | some j =>
        rw [q] at cf
        cases q2 : byR A w (A 99 j) (aM A w) 0 with
        | true => simp only [q2, if_true]
        | false => simp only [q2] at cf; exact absurd rfl cf
  unfold mX0_fillValues
  simp only [stp]
  rw [show ((0 : Int32)).toNatClampNeg = 0 from rfl, show ((1 : Int32)).toNatClampNeg = 1 from rfl, show ((2 : Int32)).toNatClampNeg = 2 from rfl, show ((3 : Int32)).toNatClampNeg = 3 from rfl, h7]
  rw [s15, s1K, if_pos k0, s1I _ _ nf, f4, has, pA1, bnd_some]
  rw [show sR (wI σ 56 0 (prV A s)) 34 a = sR σ 34 a from rfl, s1K, if_pos k1, s1I _ _ na, p2]
  rw [s25, s2K, if_pos k0, s2I _ _ nf, f5, hbs, pB2, bnd_some]
  rw [show sR (wI (wI σ 56 0 (prV A s)) 56 1 (A 83 a)) 34 b = sR σ 34 b from rfl, s2K, if_pos k2, s2I _ _ nb, r2]
  rw [s35, s3K, if_pos k0, s3I _ _ nf, f12]
  rw [s45, s4K, if_pos k0, s46, s4K, if_pos kw, s4I _ _ nf, f4, show sR σ 35 w = sR (wI (wI (wI (wI σ 56 0 (prV A s)) 56 1 (A 83 a)) 56 2 (A 83 b)) 56 3 (A 105 s)) 35 w from rfl, by4, bnd_some]
  cases q : byR A w (A 99 s) (aM A w) 0 with
  | true =>
    rw [if_neg (show ¬ (if true = true then (1 : Int32) else 0) = 0 from i10)]
    exact tail 1 (by unfold ownV; rw [q]; rfl)
  | false =>
    rw [if_pos (show (if false = true then (1 : Int32) else 0) = 0 from rfl)]
    exact tail 0 (by unfold ownV; rw [q]; rfl)
theorem C_look {A : Ab} {s w a b k : Nat} (hS : SL A s w a b) (hk : k ≤ 999) {σ : Sto} (h : CB A σ) (hO : OP A k σ) : ∃ σ', mX0_look (sR σ 38 s) σ = some σ' ∧ Sc σ σ' ∧ OP A k σ' ∧ LK A s w a b k σ' ∧ ∀ b j, sL σ' b j = sL σ b j := by
  obtain ⟨hs, hks, hw, hws, ha, has, hb, hbs⟩ := id hS
  have hl : cT 4 A ≤ 200 := (h.1.le (c := 4) (by decide)).1
  obtain ⟨k0, f0, f2, f3, f4, f5, f6, f7, f8, f9, f10, f11, f12⟩ := h.fa hs
  rw [if_neg (by rw [hks]; decide)] at f6
  rw [if_pos hks] at f10 f11
  have n53 : ¬ sR σ 38 s = 53 := fun q => by
    have : reg (sR σ 38 s) := h.rg (c := 4) (i := s) (by decide) (by have hm : cM 4 = 200 := rfl; omega)
    rw [q] at this; unfold reg at this; omega
  -- σ2: both references are written
  have sc2 : Sc σ (wR (wR σ 53 5 (sR σ 38 s)) 53 6 (sR σ 35 w)) := (Sc.rf.wr 5 _).wr 6 _
  have cb2 := h.sc sc2
  have sc4 : Sc σ (wI (wI (wR (wR σ 53 5 (sR σ 38 s)) 53 6 (sR σ 35 w)) 53 7 (prV A s)) 53 9 0) := (sc2.w 53 7 _ (by decide)).w 53 9 _ (by decide)
  have cb4 := h.sc sc4
  have wAt := (h.sc (Sc.rf.wr 5 (sR σ 38 s))).at1 hw
  have rt := C_rate cb2 (A 103 s) (A 101 s)
  obtain ⟨σ5, g1, g2, g3⟩ := C_look_l hk hs hks hw hws (cT 4 A) 0 FU (wI (wI (wR (wR σ 53 5 (sR σ 38 s)) 53 6 (sR σ 35 w)) 53 7 (prV A s)) 53 9 0) cb4 rfl hO.1 (by omega) (show cT 4 A < 5000 by omega) rfl
  have sc5 : Sc σ σ5 := sc4.tr (g2.sc (fun b j z => by rw [z.1]; decide))
  have sc6 : Sc σ (wI σ5 53 8 (hdV A s k)) := sc5.w 53 8 _ (by decide)
  have r5 : sR (wI σ5 53 8 (hdV A s k)) 53 5 = sR (wI σ5 53 8 (hdV A s k)) 38 s := by
    rw [sR_wI, sR_wI, g2.2.2.2.1, g2.2.2.2.1]; rfl
  have r6 : sR (wI σ5 53 8 (hdV A s k)) 53 6 = sR (wI σ5 53 8 (hdV A s k)) 35 w := by
    rw [sR_wI, sR_wI, g2.2.2.2.1, g2.2.2.2.1]; rfl
  have i7 : sI (wI σ5 53 8 (hdV A s k)) 53 7 = prV A s := by
    rw [sI_wI, if_neg (by omega), g2.2.2.2.2.2 53 7 (by omega)]; rfl
  have i8 : sI (wI σ5 53 8 (hdV A s k)) 53 8 = hdV A s k := by rw [sI_wI, if_pos ⟨rfl, rfl⟩]
  have i9 : sI (wI σ5 53 8 (hdV A s k)) 53 9 = agV A s k := by rw [sI_wI, if_neg (by omega)]; exact g3
  obtain ⟨σ', q1, q2, q3⟩ := C_fill hS (h.sc sc6) r5 r6 i7 i8 i9
  refine ⟨σ', ?_, sc6.tr (q2.sc (fun b j z => by rw [z]; decide)), ⟨?_, fun p hp => ?_⟩, ⟨?_, ?_, ?_, ?_, ?_, q3⟩, fun b j => by rw [q2.2.2.2.2.1, sL_wI, g2.2.2.2.2.1]; rfl⟩
  · unfold mX0_look
    simp only [stp]
    rw [show sK (wR σ 53 5 (sR σ 38 s)) (sR σ 38 s) = sK σ (sR σ 38 s) from rfl, if_pos k0, show sI (wR σ 53 5 (sR σ 38 s)) (sR σ 38 s) 3 = sI σ (sR σ 38 s) 3 from rfl, f3, hws, wAt, bnd_some]
    rw [show sR (wR σ 53 5 (sR σ 38 s)) 35 w = sR σ 35 w from rfl]
    rw [show sI (wR (wR σ 53 5 (sR σ 38 s)) 53 6 (sR σ 35 w)) (sR σ 38 s) 10 = sI σ (sR σ 38 s) 10 from rfl, show sI (wR (wR σ 53 5 (sR σ 38 s)) 53 6 (sR σ 35 w)) (sR σ 38 s) 6 = sI σ (sR σ 38 s) 6 from rfl, f10, f6, rt, bnd_some]
    rw [show sI (wR (wR σ 53 5 (sR σ 38 s)) 53 6 (sR σ 35 w)) (sR σ 38 s) 11 = sI σ (sR σ 38 s) 11 from rfl, f11]
    refine Eq.trans g1 ?_
    unfold mX0_look_232
    simp only [stp]
    rw [show mX0_fillValues (frO A w (cmR A s k (cT 4 A))) (wI σ5 53 8 (hdO A s (cmR A s k (cT 4 A)))) = some σ' from q1, bnd_some]
  · rw [q2.2.2.2.2.2 53 1 (by omega), sI_wI, if_neg (by omega), g2.2.2.2.2.2 53 1 (by omega)]
    exact hO.1
  · have e54 : sI σ' 54 p = sI σ 54 p := by
      rw [q2.2.2.2.2.2 54 p (by omega), sI_wI, if_neg (by omega), g2.2.2.2.2.2 54 p (by omega)]; rfl
    have e55 : sI σ' 55 p = sI σ 55 p := by
      rw [q2.2.2.2.2.2 55 p (by omega), sI_wI, if_neg (by omega), g2.2.2.2.2.2 55 p (by omega)]; rfl
    rw [e54, e55]
    exact hO.2 p hp
  · rw [q2.2.2.2.1, q2.2.2.2.1]; exact r5
  · rw [q2.2.2.2.1, q2.2.2.2.1]; exact r6
  · rw [q2.2.2.2.2.2 53 7 (by omega)]; exact i7
  · rw [q2.2.2.2.2.2 53 8 (by omega)]; exact i8
  · rw [q2.2.2.2.2.2 53 9 (by omega)]; exact i9
