/-! all sales tried -/
theorem C_lawAt {A : Ab} {σ : Sto} (h : CB A σ) (l d : Int32) (k : Nat) : ∃ c, mX1_lawAt (oB (lawV A l d k)) σ = some c := by
  have hl6 : cT 6 A ≤ 12 := (h.1.le (c := 6) (by decide)).1
  cases e : lawV A l d k with
  | none => exact ⟨_, h.no6 no_neg⟩
  | some i => exact ⟨_, h.at6 (lawV_lt e).1⟩
theorem C_skip {A : Ab} {σ : Sto} {k x2 : Nat} (h : CB A σ) (hk : k ≤ 999) (h33 : sI σ 33 0 = Int32.ofNat k) (h4 : sK σ x2 = 4) {f40 : Int32 → Sto → Option Sto} {i : Int32} : mX11_tryDraft_101 f40 i x2 0 σ = f40 (i + 1) σ := by
  unfold mX11_tryDraft_101
  rw [if_pos h4, h33, C_law h _ _ hk, bnd_some]
  obtain ⟨c, hc⟩ := C_lawAt h (sI σ x2 10) (sI σ x2 6) k
  rw [hc, bnd_some, if_pos rfl]
theorem try_l {A : Ab} {d : Nat} (hh : IHeir A) (hz : A 81 73 = 0) : ∀ m i fuel fuel' σ ρ, TT A (nTn A) d σ ρ → i + m = cT 4 A → m < fuel → m < fuel' → ∃ σ' ρ', mX11_tryDraft_40 fuel (Int32.ofNat i) σ = some σ' ∧ mX12_attempt_135 fuel' (A 112 12) (Int32.ofNat i) ρ = some (0, ρ') ∧ ScL σ σ' ∧ XL S73 ρ ρ' ∧ TT A (nTn A) d σ' ρ' := by
  intro m
  induction m with
  | zero =>
    intro i fuel fuel' σ ρ hT hi hf hf'
    obtain ⟨n, rfl⟩ : ∃ n, fuel = n + 1 := ⟨fuel - 1, by omega⟩
    obtain ⟨n', rfl⟩ : ∃ n, fuel' = n + 1 := ⟨fuel' - 1, by omega⟩
    have h := hT.1
    have hl4 : cT 4 A ≤ 200 := (h.1.le (c := 4) (by decide)).1
    have hn : sI σ 33 11 = Int32.ofNat (cT 4 A) := h.num (c := 4) (by decide)
    have hn2 : sI ρ 81 7 = Int32.ofNat (cT 4 A) := (hT.2.2.1 81 7 rfl).trans (h.1.le (c := 4) (by decide)).2
    refine ⟨σ, ρ, ?_, ?_, ScL.rf, XL.rf, hT⟩
    · refine Eq.trans (b := mX11_tryDraft_40B (mX11_tryDraft_40 n) (Int32.ofNat i) σ) rfl ?_
      unfold mX11_tryDraft_40B
      rw [hn, if_pos ((oI_le (by omega) (by omega)).mpr (by omega))]
    · refine Eq.trans (b := mX12_attempt_135B (mX12_attempt_135 n') (A 112 12) (Int32.ofNat i) ρ) rfl ?_
      unfold mX12_attempt_135B
      rw [hn2, if_pos ((oI_le (by omega) (by omega)).mpr (by omega))]
  | succ m ih =>
    intro i fuel fuel' σ ρ hT hi hf hf'
    obtain ⟨n, rfl⟩ : ∃ n, fuel = n + 1 := ⟨fuel - 1, by omega⟩
    obtain ⟨n', rfl⟩ : ∃ n, fuel' = n + 1 := ⟨fuel' - 1, by omega⟩
    have h := hT.1
    have hr := h.2.2.2.2.2.1
    have hi2 : i < cT 4 A := by omega
    have hk := h.1.tn.1
    have hl4 : cT 4 A ≤ 200 := (h.1.le (c := 4) (by decide)).1
    have hn : sI σ 33 11 = Int32.ofNat (cT 4 A) := h.num (c := 4) (by decide)
    have hn2 : sI ρ 81 7 = Int32.ofNat (cT 4 A) := (hT.2.2.1 81 7 rfl).trans (h.1.le (c := 4) (by decide)).2
    have lt : ¬ Int32.ofNat (cT 4 A) ≤ Int32.ofNat i := fun q => absurd ((oI_le (by omega) (by omega)).mp q) (by omega)
    obtain ⟨k0, f0, f2, f3, f4, f5, f6, f7, f8, f9, f10, -⟩ := h.fa hi2
    obtain ⟨⟨D1, D2, D3⟩, -⟩ := h.2.2.2.2.2.2.2
    have hd := hT.2.2.2.2.1
    rw [hd] at D1
    have hd2 : sI σ d 2 = A 112 12 := hT.2.2.2.2.2.1.1.1
    have h33 := h.tn
    have stepC : mX11_tryDraft_40 (n + 1) (Int32.ofNat i) σ = if A 97 i = 2 ∧ A 103 i = A 112 12 ∧ knB A i (nTn A) = true then mX11_tryDraft_101 (mX11_tryDraft_40 n) (Int32.ofNat i) (sR σ 38 i) 1 σ else mX11_tryDraft_40 n (Int32.ofNat (i + 1)) σ := by
      refine Eq.trans (b := mX11_tryDraft_40B (mX11_tryDraft_40 n) (Int32.ofNat i) σ) rfl ?_
      unfold mX11_tryDraft_40B mX11_tryDraft_100
      rw [hn, if_neg lt, h.at4 hi2, bnd_some, if_pos k0, f2, hd, if_pos D1.2.2.1, hd2, C_skip h hk h33 k0, oI_s]
      by_cases q1 : A 97 i = 2
      · rw [if_pos q1] at f10
        rw [if_pos q1, f10]
        by_cases q2 : A 103 i = A 112 12
        · rw [if_pos q2, h33, h.known hi2 hk, bnd_some]
          by_cases q3 : knB A i (nTn A) = true
          · rw [if_pos q3, if_neg i10, if_pos ⟨q1, q2, q3⟩]
          · rw [if_neg q3, if_pos rfl, if_neg (fun z => q3 z.2.2)]
        · rw [if_neg q2, if_neg (fun z => q2 z.2.1)]
      · rw [if_neg q1, if_neg (fun z => q1 z.1)]
    have stepM : mX12_attempt_135 (n' + 1) (A 112 12) (Int32.ofNat i) ρ = if A 97 i = 2 ∧ A 103 i = A 112 12 ∧ knB A i (nTn A) = true then ((mX12_sells (Int32.ofNat i) (wI ρ 81 73 1)).bind fun σ25 => mX12_attempt_196 (mX12_attempt_135 n') FU (A 112 12) (Int32.ofNat i) 0 σ25) else mX12_attempt_135 n' (A 112 12) (Int32.ofNat (i + 1)) ρ := by
      refine Eq.trans (b := mX12_attempt_135B (mX12_attempt_135 n') (A 112 12) (Int32.ofNat i) ρ) rfl ?_
      have hm := hT.2.2.1
      unfold mX12_attempt_135B
      rw [hn2, if_neg lt, if_pos (oI_inb (j := i) (n := 200) (by omega) (by decide)), oI_cl (j := i) (by omega), hm 97 i rfl, hm 103 i rfl, show sI ρ 81 1 = Int32.ofNat (nTn A) from (hm 81 1 rfl).trans h.1.tn.2, M_known h.1 hr hm hi2 hk, bnd_some, oI_s]
      by_cases q1 : A 97 i = 2
      · rw [if_pos q1]
        by_cases q2 : A 103 i = A 112 12
        · rw [if_pos q2]
          by_cases q3 : knB A i (nTn A) = true
          · rw [if_pos q3, if_neg i10, if_pos ⟨q1, q2, q3⟩]
          · rw [if_neg q3, if_pos rfl, if_neg (fun z => q3 z.2.2)]
        · rw [if_neg q2, if_neg (fun z => q2 z.2.1)]
      · rw [if_neg q1, if_neg (fun z => q1 z.1)]
    rw [stepC, stepM]
    by_cases c : A 97 i = 2 ∧ A 103 i = A 112 12 ∧ knB A i (nTn A) = true
    · rw [if_pos c, if_pos c]
      obtain ⟨σ1, ρ1, q1, q2, q3, q4, q5⟩ := try_step (f40 := mX11_tryDraft_40 n) (i := Int32.ofNat i) (x1 := A 112 12) (f135 := mX12_attempt_135 n') hk hi2 c.1 c.2.1 hh hz hT h33
      rw [q1, q2, oI_s]
      obtain ⟨σ', ρ', z1, z2, z3, z4, z5⟩ := ih (i + 1) n n' σ1 ρ1 q5 (by omega) (by omega) (by omega)
      exact ⟨σ', ρ', z1, z2, q3.tr z3, q4.tr z4, z5⟩
    · rw [if_neg c, if_neg c]
      exact ih (i + 1) n n' σ ρ hT (by omega) (by omega) (by omega)
theorem try_all {A : Ab} {d : Nat} (hh : IHeir A) (hz : A 81 73 = 0) {σ ρ : Sto} (h : CB A σ) (hd : sR σ 32 7 = d) (hC : LawC A σ 12 d) (hm : RM A ρ) :
    ∃ σ' ρ', mX11_tryDraft σ = some σ' ∧ ((mX12_gathers (A 81 1) ρ).bind fun σ16 => mX12_attempt_111 FU (A 112 12) 0 σ16) = some (0, ρ') ∧ ScL σ σ' ∧ OnlyM ρ (rL ρ' ρ.2.1) ∧ (∀ b, b ≠ 145 → (b < 81 ∨ 145 < b) → ∀ q, sL ρ' b q = sL ρ b q) ∧ RM A ρ' ∧ sI ρ' 81 0 = sI ρ 81 0 ∧ ∀ q, q < 30 → sL σ' 80 q = sL ρ' 145 q := by
  have hk := h.1.tn.1
  have hl4 : cT 4 A ≤ 200 := (h.1.le (c := 4) (by decide)).1
  obtain ⟨σo, o1, o2, o3, o4⟩ := C_open hk h
  obtain ⟨f, f1, f2⟩ := C_zr 30 0 FU σo rfl (show 30 < 5000 by omega) (fun q hq => by omega)
  obtain ⟨ρ1, g1, g2, g3, g4, g5, g6⟩ := M_gath h.1 h.2.2.2.2.2.1 hk hm
  obtain ⟨g, u1, u2, u3⟩ := M_zr (x1 := A 112 12) 30 0 FU ρ1 rfl (show 30 < 5000 by omega) (fun q hq => by omega)
  obtain ⟨⟨D1, -, -⟩, -⟩ := h.2.2.2.2.2.2.2
  rw [hd] at D1
  have hT : TT A (nTn A) d (rL σo f) (rL ρ1 g) := ⟨(h.sc o2 : CB A σo), (o3 : OP A (nTn A) σo), (g3 : RM A ρ1), (g6 : GA A (nTn A) ρ1), ((o2.2.2.2.1 32 7 (by decide)).trans hd : sR σo 32 7 = d), (hC.fr D1 o2.fr : LawC A σo 12 d), fun q hq => (f2 q hq).trans (u2 q hq).symm⟩
  obtain ⟨σ', ρ', z1, z2, z3, z4, z5⟩ := try_l hh hz (cT 4 A) 0 FU FU _ _ hT (by omega) (show cT 4 A < 5000 by omega) (show cT 4 A < 5000 by omega)
  obtain ⟨x1, x2⟩ := (XL.ad (S := S73) u3).tr z4
  have om := x1.onM S73_rng
  refine ⟨σ', ρ', ?_, ?_, (o2.l.tr (ScL.ad f)).tr z3, ?_, fun b hb hb2 q => ?_, z5.2.2.1, ?_, z5.2.2.2.2.2.2⟩
  · unfold mX11_tryDraft
    rw [h.tn, o1, bnd_some]
    exact f1.trans z1
  · rw [h.1.tn.2, g1, bnd_some]
    exact u1.trans z2
  · exact ⟨om.1.trans g2.1, fun b => (om.2.1 b).trans (g2.2.1 b), fun b => (om.2.2.1 b).trans (g2.2.2.1 b), fun b k => (om.2.2.2.1 b k).trans (g2.2.2.2.1 b k), fun _ => rfl, fun b hb => ⟨fun k => ((om.2.2.2.2.2 b hb).1 k).trans ((g2.2.2.2.2.2 b hb).1 k), fun _ => rfl⟩⟩
  · exact (x2 b hb q).trans ((g2.2.2.2.2.2 b hb2).2 q)
  · exact (x1.2.2.2.2.2 81 0 (by unfold S73 SX; omega)).trans g4
theorem RelP.cb {A : Ab} {σ : Sto} (h : RelP A σ) : CB A σ := ⟨h.1, h.2.1, h.2.2.1, h.2.2.2.1, h.2.2.2.2.2.1, h.2.2.2.2.2.2.2.1, h.2.2.2.2.2.2.2.2.1, h.2.2.2.2.2.2.2.2.2.1⟩
theorem RelP.sc {A : Ab} {σ σ' : Sto} (h : RelP A σ) (s : Sc σ σ') : RelP A σ' := by
  have cb := h.cb.sc s
  obtain ⟨hB, hz, ho, hc, ht, hst, hgn, hrow, hwk, hlw, hhr, hsd, hcl, hap, h73⟩ := h
  refine ⟨hB, cb.2.1, cb.2.2.1, cb.2.2.2.1, fun j hj => ?_, cb.2.2.2.2.1, ⟨fun t ht => ?_, ?_⟩, hrow, cb.2.2.2.2.2.2.1, cb.2.2.2.2.2.2.2, hhr, hsd, hcl, hap.same (fun c h1 h2 i => s.2.2.2.1 _ _ (by omega)) (fun _ _ _ => rfl), h73⟩
  · rw [s.low hst (by decide) (by decide) (by decide) (by unfold reg; omega)]
    exact ht j hj
  · rw [s.2.2.2.2.2 80 (Or.inr (by decide)), s.2.2.2.2.2 145 (Or.inr (by decide))]
    exact hgn.1 t ht
  · rw [s.low hst (by decide) (by decide) (by decide) (by unfold reg; omega)]
    exact hgn.2
/-- the books behind a try: the gains are what both say -/
theorem RelP.tried {A : Ab} {σ σ' ρ : Sto} {vv : Int64} (h : RelP A σ) (s : ScL σ σ') (hm : OnlyM (wL σ' 146 0 vv) (rL ρ (wL σ' 146 0 vv).2.1)) (hr : RM A ρ) (h80 : ∀ q, q < 30 → sL ρ 80 q = sL ρ 145 q) : Rel A ρ := by
  have hp : RelP A (rL σ' σ.2.1) := h.sc s
  obtain ⟨m1, m2, m3, m4, -, m6⟩ := hm
  have om : OnlyM (wL (rL σ' σ.2.1) 146 0 vv) (rL ρ (wL (rL σ' σ.2.1) 146 0 vv).2.1) := ⟨m1, m2, m3, m4, fun _ => rfl, fun b hb => ⟨(m6 b hb).1, fun _ => rfl⟩⟩
  obtain ⟨hB, hz, -, ho, hc, ht, hst, hgn, rest⟩ := hp.fin om (hr : RM A (rL ρ (wL (rL σ' σ.2.1) 146 0 vv).2.1))
  exact ⟨hB, hz, hr, ho, hc, ht, hst, ⟨h80, hgn.2⟩, rest⟩
