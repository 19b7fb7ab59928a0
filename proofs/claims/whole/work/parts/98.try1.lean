/-! one sale tried -/
def S73 (b j : Nat) : Prop := SX b j ∨ (b = 81 ∧ j = 73)
theorem S73_ga : ∀ b j, S73 b j → b ≠ 129 ∧ b ≠ 130 ∧ b ≠ 131 ∧ b ≠ 132 ∧ ¬ (b = 81 ∧ j = 72) := fun b j h => by unfold S73 SX at h; omega
theorem S73_rng : ∀ b j, S73 b j → 81 ≤ b ∧ b ≤ 145 := fun b j h => by unfold S73 SX at h; omega
/-- short cells of S alone, and the gains -/
def XL (S : Nat → Nat → Prop) (ρ ρ' : Sto) : Prop := Ex S ρ (rL ρ' ρ.2.1) ∧ ∀ b, b ≠ 145 → ∀ q, sL ρ' b q = sL ρ b q
theorem XL.rf {S : Nat → Nat → Prop} {ρ : Sto} : XL S ρ ρ := ⟨⟨rfl, fun _ => rfl, fun _ => rfl, fun _ _ => rfl, fun _ _ => rfl, fun _ _ _ => rfl⟩, fun _ _ _ => rfl⟩
theorem XL.tr {S : Nat → Nat → Prop} {a b c : Sto} (h : XL S a b) (g : XL S b c) : XL S a c := by
  obtain ⟨⟨h1, h2, h3, h4, -, h6⟩, h7⟩ := h
  obtain ⟨⟨g1, g2, g3, g4, -, g6⟩, g7⟩ := g
  exact ⟨⟨Eq.trans g1 h1, fun b => (g2 b).trans (h2 b), fun b => (g3 b).trans (h3 b), fun b k => (g4 b k).trans (h4 b k), fun _ _ => rfl, fun b k z => (g6 b k z).trans (h6 b k z)⟩, fun b hb q => (g7 b hb q).trans (h7 b hb q)⟩
theorem Ex.xl {S T : Nat → Nat → Prop} {ρ ρ' : Sto} (h : Ex S ρ ρ') (hs : ∀ b k, S b k → T b k) : XL T ρ ρ' := ⟨⟨h.1, h.2.1, h.2.2.1, h.2.2.2.1, fun _ _ => rfl, fun b k z => h.2.2.2.2.2 b k (fun y => z (hs b k y))⟩, fun b _ q => h.2.2.2.2.1 b q⟩
theorem XL.ad {S : Nat → Nat → Prop} {ρ : Sto} {f : Nat → Nat → Int64} (h : ∀ b, b ≠ 145 → ∀ q, f b q = sL ρ b q) : XL S ρ (rL ρ f) := ⟨⟨rfl, fun _ => rfl, fun _ => rfl, fun _ _ => rfl, fun _ _ => rfl, fun _ _ _ => rfl⟩, h⟩
theorem XL.ex {S : Nat → Nat → Prop} {ρ ρ' : Sto} (h : XL S ρ ρ') : Ex S ρ (rL ρ' ρ.2.1) := h.1
/-- the class's own frame, but for long cells -/
def ScL (σ σ' : Sto) : Prop := Sc σ (rL σ' σ.2.1)
theorem ScL.rf {σ : Sto} : ScL σ σ := (Sc.rf : Sc σ σ)
theorem ScL.tr {a b c : Sto} (h : ScL a b) (g : ScL b c) : ScL a c := by
  obtain ⟨g1, g2, g3, g4, g5, -⟩ := g
  exact Sc.tr (b := rL b a.2.1) h ⟨g1, g2, g3, g4, g5, fun _ _ _ => rfl⟩
theorem Sc.l {σ σ' : Sto} (h : Sc σ σ') : ScL σ σ' := by
  obtain ⟨g1, g2, g3, g4, g5, -⟩ := h
  exact ⟨g1, g2, g3, g4, g5, fun _ _ _ => rfl⟩
theorem ScL.ad {σ : Sto} (f : Nat → Nat → Int64) : ScL σ (rL σ f) := (Sc.rf : Sc σ σ)
theorem ScL.fr {σ σ' : Sto} (h : ScL σ σ') : Fr σ σ' := Sc.fr (σ' := rL σ' σ.2.1) h
theorem CB.scl {A : Ab} {σ σ' : Sto} (h : CB A σ) (s : ScL σ σ') : CB A σ' := CB.sc (σ' := rL σ' σ.2.1) h s
theorem CB.lw3 {A : Ab} {σ : Sto} {s k c : Nat} (h : CB A σ) (e : mX1_lawAt (oB (lawV A (A 103 s) (A 101 s) k)) σ = some c) (hc : LwOf A s σ c (lawV A (A 103 s) (A 101 s) k)) (hi : inR (A 113 12) 36500) : tw A s k ↔ ¬ A 101 s < A 113 12 ∧ ¬ A 113 12 < sI σ c 3 := by
  unfold tw
  cases q : lawV A (A 103 s) (A 101 s) k with
  | none =>
    rw [q] at e
    have e0 : mX1_lawAt (oB none) σ = some (sR σ 40 12) := h.no6 no_neg
    rw [e0] at e
    cases e
    rw [h.ln.2.2]
    obtain ⟨j, j1, j2⟩ := hi
    have hn : ¬ A 113 12 < -1 := fun z => by
      rw [j2] at z
      exact oI_nn (j := j) (by omega) (Int32.lt_trans z (by decide))
    exact ⟨fun z => ⟨z.1, hn⟩, fun z => ⟨z.1, (fun y hy => by cases hy)⟩⟩
  | some i =>
    rw [q] at hc
    rw [show sI σ c 3 = A 113 i from hc.2.1.1.2.1]
    exact ⟨fun z => ⟨z.1, z.2 i rfl⟩, fun z => ⟨z.1, (fun y hy => by cases hy; exact z.2)⟩⟩
/-- both stand open at an evening, a draft read -/
def TT (A : Ab) (k d : Nat) (σ ρ : Sto) : Prop := CB A σ ∧ OP A k σ ∧ RM A ρ ∧ GA A k ρ ∧ sR σ 32 7 = d ∧ LawC A σ 12 d ∧ ∀ q, q < 30 → sL σ 80 q = sL ρ 145 q
set_option maxHeartbeats 2000000 in
theorem try_step {A : Ab} {d s k : Nat} (hk : k ≤ 999) (hs : s < cT 4 A) (hks : A 97 s = 2) (hl : A 103 s = A 112 12) (hh : IHeir A) (hz : A 81 73 = 0) {σ ρ : Sto} (hT : TT A k d σ ρ) (h33 : sI σ 33 0 = Int32.ofNat k) {f40 : Int32 → Sto → Option Sto} {i x1 : Int32} {f135 : Int32 → Int32 → Sto → Option (Int32 × Sto)} :
    ∃ σ' ρ', mX11_tryDraft_101 f40 i (sR σ 38 s) 1 σ = f40 (i + 1) σ' ∧ ((mX12_sells (Int32.ofNat s) (wI ρ 81 73 1)).bind fun σ25 => mX12_attempt_196 f135 FU x1 (Int32.ofNat s) 0 σ25) = f135 x1 (Int32.ofNat s + 1) ρ' ∧ ScL σ σ' ∧ XL S73 ρ ρ' ∧ TT A k d σ' ρ' := by
  obtain ⟨h, hO, hm, hG, hd, hC, hg⟩ := hT
  have hB := h.1
  have hr := h.2.2.2.2.2.1
  obtain ⟨⟨D1, D2, D3⟩, -⟩ := h.2.2.2.2.2.2.2
  rw [hd] at D1 D2
  obtain ⟨w, a, b, hS⟩ := SL.of hr hs hks
  obtain ⟨c, c1, c2, c3⟩ := h.lwOf (s := s) hk
  obtain ⟨σ1, l1, l2, l3, l4, l5⟩ := C_look hS hk h hO
  obtain ⟨σ1', m1, -, -, m4, -⟩ := C_look hS.t73 hk h.t73 hO.t73
  have e1 : σ1' = σ1 := by rw [l1] at m1; exact (Option.some.inj m1).symm
  rw [e1] at m4
  have h1 := h.sc l2
  have c2' := c2.fr l2.fr
  have c3' := LwOf.fr c2 l2.fr c3
  have hC1 := hC.fr D1 l2.fr
  have law0 : ∀ ρ0 ρ', RM A ρ' → GA A k ρ' → sI ρ' 81 73 = sI ρ0 81 73 → mX12_lawOf (A 103 s) (A 101 s) ρ' = some (oB (lawV A (A 103 s) (A 101 s) k)) := fun ρ0 ρ' hm' hG' _ => M_law0 hB h.ld hm' hk hG'.1 ((hm' 81 73 rfl).trans hz)
  obtain ⟨σ2, ρv, a1, a2, a3, -, -, -⟩ := sells_sh hk hS hh h1 l3 l4 c2' c3' hm hG (law0 _)
  have xa : Ex S73 ρ (wI ρ 81 73 1) := Ex.rf.w 1 (Or.inr ⟨rfl, rfl⟩)
  have rma : RM (u73 A) (wI ρ 81 73 1) := hm.w 81 73 1
  have gaa : GA (u73 A) k (wI ρ 81 73 1) := (hG.ex xa S73_ga).t73
  have l3' : u73 A 103 s = A 103 s := u73_hi (by decide)
  have l1' : u73 A 101 s = A 101 s := u73_hi (by decide)
  have etw : tw (u73 A) s k ↔ tw A s k := by
    unfold tw
    rw [l3', l1', lawV_73, u73_hi (by decide)]
    constructor
    · exact fun z => ⟨z.1, fun y hy => by have := z.2 y hy; rw [u73_hi (by decide)] at this; exact this⟩
    · exact fun z => ⟨z.1, fun y hy => by rw [u73_hi (by decide)]; exact z.2 y hy⟩
  have law1 : ∀ ρ', RM (u73 A) ρ' → GA (u73 A) k ρ' → sI ρ' 81 73 = sI (wI ρ 81 73 1) 81 73 → (tw A s k → mX12_lawOf (u73 A 103 s) (u73 A 101 s) ρ' = some (oB (some 12))) ∧ (¬ tw A s k → mX12_lawOf (u73 A 103 s) (u73 A 101 s) ρ' = some (oB (lawV A (A 103 s) (A 101 s) k))) := fun ρ' hm' hG' h' => by
    obtain ⟨p1, p2⟩ := M_lawT (s := s) hB.t73 h.t73.ld hm' hk hG'.1 ((hm' 81 73 rfl).trans rfl) ((u73_hi (by decide)).trans (hl.symm.trans l3'.symm))
    refine ⟨fun q => p1 (etw.mpr q), fun q => ?_⟩
    rw [p2 (fun y => q (etw.mp y)), l3', l1', lawV_73]
  -- the second half of the reference's
  have second : ∀ ρb, Ex SX (wI ρ 81 73 1) ρb → ∃ ρ', mX12_attempt_196 f135 FU x1 (Int32.ofNat s) 0 ρb = f135 x1 (Int32.ofNat s + 1) ρ' ∧ XL S73 ρ ρ' ∧ RM A ρ' ∧ GA A k ρ' ∧ ∀ q, q < 30 → sL ρ' 145 q = (sL ρ 145 q + (sI ρb 135 q).toInt64) - (sI σ2 57 q).toInt64 := fun ρb xb => by
    obtain ⟨f, f1, f2, f3⟩ := M_up (f135 := f135) (x1 := x1) (x4 := Int32.ofNat s) 30 0 FU ρb rfl (show 30 < 5000 by omega)
    have xb' : Ex S73 ρ ρb := xa.tr (xb.mono fun _ _ z => Or.inl z)
    have xd : Ex S73 ρ (wI ρb 81 73 0) := xb'.w 0 (Or.inr ⟨rfl, rfl⟩)
    have rmd : RM A (wI (rL ρb f) 81 73 0) := fun a k hp => by
      show sI (wI ρb 81 73 0) a k = _
      rw [sI_wI]
      by_cases q : a = 81 ∧ k = 73
      · rw [if_pos q, q.1, q.2, hz]
      · rw [if_neg q, xb'.2.2.2.2.2 a k (fun z => z.elim (fun y => by rw [SX_pr a k y] at hp; cases hp) q)]
        exact hm a k hp
    have gad : GA A k (wI (rL ρb f) 81 73 0) := (hG.ex xd S73_ga : GA A k (wI ρb 81 73 0))
    obtain ⟨σ2', ρe, u1, -, -, u4, u5, u6⟩ := sells_sh hk hS hh h1 l3 l4 c2' c3' rmd gad (law0 _)
    have e2 : σ2' = σ2 := by rw [a1] at u1; exact (Option.some.inj u1).symm
    rw [e2] at u6
    obtain ⟨g, g1, g2, g3⟩ := M_dn (f135 := f135) (x1 := x1) (x4 := Int32.ofNat s) 30 0 FU ρe rfl (show 30 < 5000 by omega)
    refine ⟨rL ρe g, ?_, ?_, (u5.rm rmd SX_pr : RM A ρe), (gad.ex u5 SX_ga : GA A k ρe), fun q hq => ?_⟩
    · refine Eq.trans f1 ?_
      rw [u4, bnd_some]
      exact g1
    · exact (((xb'.xl (fun _ _ z => z)).tr (XL.ad f3)).tr ((Ex.rf.w 0 (Or.inr ⟨rfl, rfl⟩) : Ex S73 (rL ρb f) (wI (rL ρb f) 81 73 0)).xl (fun _ _ z => z))).tr ((u5.xl (fun _ _ z => Or.inl z)).tr (XL.ad g3))
    · show g 145 q = _
      rw [g2 q hq, if_pos (Nat.zero_le _), u6 q hq, u5.2.2.2.2.1 145 q]
      show f 145 q - _ = _
      rw [f2 q hq, if_pos (Nat.zero_le _), xb.2.2.2.2.1 145 q]
      rfl
  obtain ⟨k0, f0, f2, f3, f4, f5, f6, f7, f8, f9, f10, -⟩ := h.fa hs
  rw [if_neg (by rw [hks]; decide)] at f6
  rw [if_pos hks] at f10
  have cond := h.lw3 c1 c3 hC.2.1.2.1
  have hd3 : sI σ d 3 = A 113 12 := hC.1.2.1
  have inst : Decidable (tw A s k) := Classical.propDecidable _
  have eC : mX11_tryDraft_101 f40 i (sR σ 38 s) 1 σ = if tw A s k then ((mX0_look (sR σ 38 s) σ).bind fun σ15 =>
        (mX0_apply c σ15).bind fun σ16 =>
        (mX11_addShares (-1 : Int32) σ16).bind fun σ17 =>
        (mX0_apply (sR σ17 32 7) σ17).bind fun σ18 =>
        (mX11_addShares (1 : Int32) σ18).bind fun σ19 =>
        f40 (i + (1 : Int32)) σ19) else f40 (i + 1) σ := by
    unfold mX11_tryDraft_101
    rw [if_pos k0, f10, f6, h33, C_law h _ _ hk, bnd_some, c1, bnd_some, if_neg i10, hd, if_pos D1.2.2.1, hd3, if_pos c2.2.2.1]
    by_cases q : tw A s k
    · rw [if_pos q, if_neg (cond.mp q).1, if_neg (cond.mp q).2]
    · rw [if_neg q]
      by_cases q1 : A 101 s < A 113 12
      · rw [if_pos q1]
      · rw [if_neg q1]
        by_cases q2 : A 113 12 < sI σ c 3
        · rw [if_pos q2]
        · exact absurd (cond.mpr ⟨q1, q2⟩) q
  by_cases q : tw A s k
  · have h2 := h1.sc a2
    have O2 := l3.sa c2' a3
    have D2' : LwAt σ2 d := (D1.fr l2.fr).fr a2.fr
    have C2 : LawC A σ2 12 d := hC1.fr (D1.fr l2.fr) a2.fr
    obtain ⟨f, f1, f2⟩ := C_addS (d := -1) σ2
    obtain ⟨σ3, ρb, b1, b2, b3, b4, b5, b6⟩ := sells_sh (A := u73 A) (c := d) (L := some 12) (σ := rL σ2 f) (ρ := wI ρ 81 73 1) hk hS.t73 hh.t73 (h2.t73 : CB (u73 A) σ2) (O2.t73 : OP (u73 A) k σ2) (m4.sa c2' a3 : LK (u73 A) s w a b k σ2) (D2' : LwAt σ2 d) (⟨Nat.le_refl _, C2.t73, by omega, (u73_hi (by decide)).trans (hl.symm.trans l3'.symm)⟩ : LwOf (u73 A) s σ2 d (some 12)) rma gaa (fun ρ' x1 x2 x3 => (law1 ρ' x1 x2 x3).1 q)
    obtain ⟨g, g1, g2⟩ := C_addS (d := 1) σ3
    obtain ⟨ρ', r1, r2, r3, r4, r5⟩ := second ρb b5
    have scf : ScL σ σ3 := ((l2.tr a2).l.tr (ScL.ad f)).tr b2.l
    have e32 : sR (rL σ2 f) 32 7 = d := ((l2.tr a2).2.2.2.1 32 7 (by decide)).trans hd
    refine ⟨rL σ3 g, ρ', ?_, ?_, scf.tr (ScL.ad g), r2, (h.scl scf : CB A σ3), ?_, r3, r4, ?_, ?_, fun p hp => ?_⟩
    · rw [eC, if_pos q, l1, bnd_some, a1, bnd_some, f1, bnd_some, e32, b1, bnd_some, g1, bnd_some]
    · rw [b4, bnd_some, r1]
    · exact (OP.sa (σ := rL σ2 f) (O2 : OP A k σ2) (D2' : LwAt σ2 d) b3 : OP A k σ3)
    · exact ((b2.2.2.2.1 32 7 (by decide)).trans e32 : sR σ3 32 7 = d)
    · exact (hC.fr D1 scf.fr : LawC A σ3 12 d)
    · show g 80 p = _
      rw [g2 p hp, r5 p hp, b3.2.2.2.2.1 80 p]
      show f 80 p + _ = _
      rw [f2 p hp, a3.2.2.2.2.1 80 p, l5 80 p, hg p hp, b6 p hp, show (-1 : Int32).toInt64 = -1 from by decide, show (1 : Int32).toInt64 = 1 from by decide, Int64.neg_mul, Int64.one_mul, Int64.one_mul, Int64.sub_eq_add_neg, Int64.add_assoc, Int64.add_assoc, Int64.add_comm (-_) _]
  · obtain ⟨σ2', ρb, b1, b2, b3, b4, b5, b6⟩ := sells_sh (A := u73 A) (c := c) (L := lawV A (A 103 s) (A 101 s) k) (σ := σ1) (ρ := wI ρ 81 73 1) hk hS.t73 hh.t73 h1.t73 l3.t73 m4 c2' c3'.t73 rma gaa (fun ρ' x1 x2 x3 => (law1 ρ' x1 x2 x3).2 q)
    have e2 : σ2' = σ2 := by rw [a1] at b1; exact (Option.some.inj b1).symm
    rw [e2] at b6
    obtain ⟨ρ', r1, r2, r3, r4, r5⟩ := second ρb b5
    refine ⟨σ, ρ', ?_, ?_, ScL.rf, r2, h, hO, r3, r4, hd, hC, fun p hp => ?_⟩
    · rw [eC, if_neg q]
    · rw [b4, bnd_some, r1]
    · rw [r5 p hp, b6 p hp, hg p hp, Int64.add_sub_cancel]
