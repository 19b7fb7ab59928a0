/-! a text is read: the books behind it -/
def RelP (A : Ab) (σ : Sto) : Prop := IB A ∧ 147 ≤ sZ σ ∧ RObj A σ ∧ RCnt A σ ∧ RTape A σ ∧ RelX A σ
theorem Rel.p {A : Ab} {σ : Sto} (h : Rel A σ) : RelP A σ := ⟨h.1, h.2.1, h.2.2.2.1, h.2.2.2.2.1, h.2.2.2.2.2.1, h.x⟩
theorem RelP.fin {A : Ab} {σ ρ : Sto} {vv : Int64} (h : RelP A σ) (om : OnlyM (wL σ 146 0 vv) ρ) (hr : RM A ρ) : Rel A ρ := by
  obtain ⟨hB, hz, ho, hc, ht, hx⟩ := h
  have oc : OnlyC σ (wL σ 146 0 vv) := OnlyC.rf.wl 146 0 vv (Or.inr (by decide))
  have fr : Fr σ (wL σ 146 0 vv) := Fr.rf.wl 146 0 vv
  exact ⟨hB, by rw [om.1]; exact hz, hr, RObj.onM (σ := wL σ 146 0 vv) ho om, RCnt.onM (σ := wL σ 146 0 vv) hc om, RTape.onM (σ := wL σ 146 0 vv) ht om, RelX.keep hx hB hz oc om fr (fun _ => rfl) (fun _ => rfl) rfl rfl rfl (Nat.le_refl _) (Nat.le_refl _) (fun _ _ _ => rfl) hx.2.2.1 hx.2.2.2.2.2.1 hx.2.2.2.2.2.2.1 hx.2.2.2.2.2.2.2.1 hx.2.2.2.2.2.2.2.2.1 hx.2.2.2.2.2.2.2.2.2⟩
/-- what the class writes as it reads -/
def Cz (d x j : Nat) : Prop := (x = 32 ∧ (j = 5 ∨ j = 6)) ∨ (x = 67 ∧ 1 ≤ j ∧ j ≤ 10) ∨ (x = d ∧ 2 ≤ j ∧ j ≤ 14) ∨ x = d + 1 ∨ x = d + 2 ∨ x = d + 3
theorem WkAt.ez {S : Nat → Nat → Prop} {σ σ' : Sto} {a : Nat} (h : WkAt σ a) (x : Ez S σ σ') : WkAt σ' a := by
  obtain ⟨h1, h2, h3, h4, h5, h6, h7, h8, h9, h10, h11⟩ := h
  have na : a ≠ 67 := by unfold reg at h1; omega
  have r := x.2.2.2.1
  exact ⟨h1, h2, h3, by rw [x.1]; exact h4, (x.2.1 _).trans h5, (r _ _ na).trans h6, (r _ _ na).trans h7, (x.2.1 _).trans h8, (x.2.2.1 _).trans h9, (x.2.1 _).trans h10, (x.2.2.1 _).trans h11⟩
theorem LwAt.ez {S : Nat → Nat → Prop} {σ σ' : Sto} {a : Nat} (h : LwAt σ a) (x : Ez S σ σ') : LwAt σ' a := by
  obtain ⟨⟨r0, r1, r2, r3, r4⟩, hz, hk, ⟨p1, p2, p3, p4⟩, ⟨a1, b1⟩, ⟨a2, b2⟩, ⟨a3, b3⟩, a4, b4⟩ := h
  have na : a ≠ 67 := by unfold reg at r0; omega
  have r := x.2.2.2.1
  have k := x.2.1
  have l := x.2.2.1
  exact ⟨⟨r0, r1, r2, r3, r4⟩, by rw [x.1]; exact hz, (k _).trans hk, ⟨(r _ _ na).trans p1, (r _ _ na).trans p2, (r _ _ na).trans p3, (r _ _ na).trans p4⟩, ⟨(k _).trans a1, (l _).trans b1⟩, ⟨(k _).trans a2, (l _).trans b2⟩, ⟨(k _).trans a3, (l _).trans b3⟩, (k _).trans a4, (l _).trans b4⟩
set_option maxHeartbeats 1000000 in
theorem RelP.tape {A A' : Ab} {σ σ' : Sto} {d : Nat} (h : RelP A σ) (hd : sR σ 32 7 = d) (x : Ez (Cz d) σ σ') (t5 : sI σ' 32 5 = 0) (h81 : ∀ k, k ≠ 39 → k ≠ 41 → A' 81 k = A 81 k) (h39 : A' 81 39 = 0) (h41 : A' 81 41 = sI σ' 32 6)
    (hA : ∀ a, 82 ≤ a → a ≤ 111 → ∀ i, A' a i = A a i) (hr : ∀ c, 112 ≤ c → c ≤ 123 → ∀ i, i < cT 6 A → A' c i = A c i) (hs : ∀ c, 124 ≤ c → c ≤ 125 → ∀ j, j < 16 * cT 6 A → A' c j = A c j) (hq : ∀ q, q < 1210 * cT 6 A → A' 126 q = A 126 q) : RelP A' σ' := by
  obtain ⟨hB, hz, ho, hc, ht, hst, hgn, hrow, hwk, hlw, hhr, hsd, hcl, hap, h73⟩ := h
  obtain ⟨⟨D1, D2, D3⟩, L2, L3, L4, L5⟩ := hlw
  rw [hd] at D1 D2 D3
  have hT : ∀ c, c < 7 → cT c A' = cT c A := fun c hc => by
    unfold cT
    rw [h81]
    · rcases (show c = 0 ∨ c = 1 ∨ c = 2 ∨ c = 3 ∨ c = 4 ∨ c = 5 ∨ c = 6 by omega) with rfl | rfl | rfl | rfl | rfl | rfl | rfl <;> decide
    · rcases (show c = 0 ∨ c = 1 ∨ c = 2 ∨ c = 3 ∨ c = 4 ∨ c = 5 ∨ c = 6 by omega) with rfl | rfl | rfl | rfl | rfl | rfl | rfl <;> decide
  have hls : nLs A' = nLs A := by unfold nLs; rw [h81 2 (by decide) (by decide)]
  have htn : nTn A' = nTn A := by unfold nTn; rw [h81 1 (by decide) (by decide)]
  have hg : Grow A A' := ⟨Nat.le_of_eq hls.symm, Nat.le_of_eq htn.symm, Nat.le_of_eq (hT 0 (by decide)).symm, Nat.le_of_eq (hT 1 (by decide)).symm, Nat.le_of_eq (hT 2 (by decide)).symm, Nat.le_of_eq (hT 4 (by decide)).symm⟩
  have xI := x.2.2.2.2.2
  have xR := x.2.2.2.1
  obtain ⟨-, -, dk, -, ⟨dk1, dn1⟩, ⟨dk2, dn2⟩, ⟨dk3, dn3⟩, -⟩ := id D1
  have keep : ∀ a, reg a → sK σ a ≠ 5 → ¬ (sK σ a = 100 ∧ (sN σ a = 16 ∨ sN σ a = 500)) → ∀ k, sI σ' a k = sI σ a k := fun a ha h5 h6 k => xI a k (fun z => by
    rcases z with z | z | z | z | z | z
    · unfold reg at ha; omega
    · unfold reg at ha; omega
    · rw [z.1] at h5; exact h5 dk
    · rw [z] at h6; exact h6 ⟨dk1, Or.inl dn1⟩
    · rw [z] at h6; exact h6 ⟨dk2, Or.inl dn2⟩
    · rw [z] at h6; exact h6 ⟨dk3, Or.inr dn3⟩)
  have hU : ∀ c, c < 7 → ∀ i, ∀ a ∈ cU c, A' a i = A a i := fun c hc i a ha => by
    have := tl_U c hc a ha
    exact hA a (by omega) (by omega) i
  have hB' : IB A' := by
    obtain ⟨b1, b2, b3, b4, b5, b6, b7, b8, b9, b10, b11⟩ := hB
    have e : ∀ {k n : Nat}, k ≠ 39 → k ≠ 41 → Bnd A k n → Bnd A' k n := fun k1 k2 hb => by
      obtain ⟨j, j1, j2⟩ := hb
      exact ⟨j, j1, by rw [h81 _ k1 k2]; exact j2⟩
    exact ⟨e (by decide) (by decide) b1, e (by decide) (by decide) b2, e (by decide) (by decide) b3, e (by decide) (by decide) b4, e (by decide) (by decide) b5, e (by decide) (by decide) b6, e (by decide) (by decide) b7, e (by decide) (by decide) b8, e (by decide) (by decide) b9, ⟨0, Nat.zero_le _, h39⟩, by rw [h81 73 (by decide) (by decide)]; exact b11⟩
  have hl6 : cT 6 A ≤ 12 := (hB.le (c := 6) (by decide)).1
  refine ⟨hB', by rw [x.1]; exact hz, fun c hc' i hi => ?_, fun j hj => ?_, fun j hj => ?_, fun q hq' => ⟨(x.2.1 _).trans (hst q hq').1, (x.2.2.1 _).trans (hst q hq').2⟩, ⟨fun p hp => by rw [x.2.2.2.2.1, x.2.2.2.2.1]; exact hgn.1 p hp, by rw [xI 66 0 (by unfold Cz; omega)]; exact hgn.2⟩, fun c hc' i hi => ?_, ⟨fun i hi => ?_, fun i hi => ?_, fun i j hij hj => ?_⟩, ⟨⟨?_, ?_, ?_⟩, fun i hi => ?_, fun i hi => ?_, fun i j hij hj => ?_, fun i hi hi2 => ?_⟩, hhr.same (hT 4 (by decide)) (fun a i q1 q2 => hA a (by omega) (by omega) i), hsd.same (hT 4 (by decide)) (hT 1 (by decide)) (fun a i q1 q2 => hA a (by omega) (by omega) i) trivial, hcl.same (hT 5 (by decide)) (fun a i q1 q2 => hA a (by omega) (by omega) i), hap.same (fun c h1 h2 i => xR _ _ (by omega)) (fun c h1 h2 => hT c (by omega)), (h81 73 (by decide) (by decide)).trans h73⟩
  · have h0 := ho c hc' i hi
    refine h0.keep (xR _ _ (by unfold cR; omega)) (Nat.le_of_eq x.1.symm) (x.2.1 _) (fun k hk => ?_) (fun k hk => by rw [hT c hc', cV_congr hc' (hU c hc' i) k hk])
    have hkd := h0.2.2.1
    rcases (show c = 0 ∨ c = 1 ∨ c = 2 ∨ c = 3 ∨ c = 4 ∨ c = 5 ∨ c = 6 by omega) with rfl | rfl | rfl | rfl | rfl | rfl | rfl
    · exact keep _ h0.1 (by rw [hkd]; decide) (by rw [hkd]; rintro ⟨q, _⟩; cases q) k
    · exact keep _ h0.1 (by rw [hkd]; decide) (by rw [hkd]; rintro ⟨q, _⟩; cases q) k
    · exact keep _ h0.1 (by rw [hkd]; decide) (by rw [hkd]; rintro ⟨q, _⟩; cases q) k
    · exact keep _ h0.1 (by rw [hkd]; decide) (by rw [hkd]; rintro ⟨q, _⟩; cases q) k
    · exact keep _ h0.1 (by rw [hkd]; decide) (by rw [hkd]; rintro ⟨q, _⟩; cases q) k
    · exact keep _ h0.1 (by rw [hkd]; decide) (by rw [hkd]; rintro ⟨q, _⟩; cases q) k
    · exact nomatch hk
  · have h0 := hc j hj
    rcases (show j = 0 ∨ j = 1 ∨ j = 2 ∨ j = 3 ∨ j = 4 ∨ j = 5 ∨ j = 6 ∨ j = 7 ∨ j = 8 ∨ j = 9 ∨ j = 10 by omega) with rfl | rfl | rfl | rfl | rfl | rfl | rfl | rfl | rfl | rfl | rfl
    · exact (xI 33 0 (by unfold Cz; omega)).trans (h0.trans (h81 1 (by decide) (by decide)).symm)
    · exact (xI 33 1 (by unfold Cz; omega)).trans (h0.trans (h81 2 (by decide) (by decide)).symm)
    · exact (xI 33 3 (by unfold Cz; omega)).trans (h0.trans (h81 3 (by decide) (by decide)).symm)
    · exact (xI 33 5 (by unfold Cz; omega)).trans (h0.trans (h81 4 (by decide) (by decide)).symm)
    · exact (xI 33 7 (by unfold Cz; omega)).trans (h0.trans (h81 5 (by decide) (by decide)).symm)
    · exact (xI 33 9 (by unfold Cz; omega)).trans (h0.trans (h81 6 (by decide) (by decide)).symm)
    · exact (xI 33 11 (by unfold Cz; omega)).trans (h0.trans (h81 7 (by decide) (by decide)).symm)
    · exact (xI 33 13 (by unfold Cz; omega)).trans (h0.trans (h81 8 (by decide) (by decide)).symm)
    · exact (xI 33 15 (by unfold Cz; omega)).trans (h0.trans (h81 50 (by decide) (by decide)).symm)
    · exact t5.trans h39.symm
    · exact h41.symm
  · rw [xI 74 j (by unfold Cz; omega), hA 111 (by decide) (by decide)]
    exact ht j hj
  · rw [hT c hc'] at hi
    exact rowOK.mono hc' (hrow c hc' i hi) hg (hU c hc' i) (fun _ j _ => ⟨hA 85 (by decide) (by decide) _, hA 86 (by decide) (by decide) _⟩) (fun _ s _ => hA 97 (by decide) (by decide) s)
  · rw [xR 35 i (by decide)]; exact (hwk.1 i hi).ez x
  · rw [hT 1 (by decide)] at hi
    rw [xR 35 i (by decide)]
    have hle := (hB.le (c := 1) (by decide)).1
    have hM1 : cM 1 = 30 := rfl
    obtain ⟨u1, u2, u3, u4, u5, u6, u7, u8, u9, u10, u11⟩ := hwk.1 i (by omega)
    obtain ⟨⟨g1, g2⟩, g3⟩ := hwk.2.1 i hi
    have e84 : A' 84 i = A 84 i := hA 84 (by decide) (by decide) i
    refine ⟨⟨fun j hj => ?_, ?_⟩, g3⟩
    · rw [e84] at hj
      rw [keep _ u2 (by rw [u8]; decide) (by rw [u9]; rintro ⟨_, q⟩; omega), keep _ u3 (by rw [u10]; decide) (by rw [u11]; rintro ⟨_, q⟩; omega), hA 85 (by decide) (by decide), hA 86 (by decide) (by decide)]
      exact g1 j hj
    · rw [keep _ u1 (by rw [u5]; decide) (by rw [u5]; rintro ⟨q, _⟩; cases q), e84, wsum_congr _ (fun j _ => hA 86 (by decide) (by decide) _)]
      exact g2
  · rw [hT 1 (by decide)] at hj
    rw [xR 35 i (by decide), xR 35 j (by decide)]
    exact hwk.2.2 i j hij hj
  · rw [xR 32 7 (by decide), hd]; exact D1.ez x
  · rw [xR 32 7 (by decide), hd]; exact D2
  · rw [xR 32 7 (by decide), hd, xI d 1 (by unfold Cz; omega)]; exact D3
  · rw [xR 40 i (by decide)]; exact (L2 i hi).ez x
  · rw [hT 6 (by decide)] at hi
    rw [xR 40 i (by decide), xR 32 7 (by decide)]
    obtain ⟨g1, g2, g3, g4⟩ := L3 i hi
    rw [hd] at g2 ⊢
    have kk : ∀ e k, e ≤ 4 → sI σ' (sR σ 40 i + e) k = sI σ (sR σ 40 i + e) k := fun e k he => xI _ k (by unfold Cz; omega)
    refine ⟨g1, g2, g3.keep (fun k _ => kk 0 k (by decide)) (fun k => kk 1 k (by decide)) (fun k => kk 2 k (by decide)) (fun k => kk 3 k (by decide)) hg.1 (fun c c1 c2 _ _ => hr c c1 (by omega) i hi) (fun c c1 c2 j hj => hs c (by omega) (by omega) _ (by omega)) (fun q hq' => hq q (by omega)), g4.keep (kk 0 0 (by decide)) (kk 0 1 (by decide)) hg.2.1 (hr 114 (by decide) (by decide) i hi) (hr 115 (by decide) (by decide) i hi)⟩
  · rw [hT 6 (by decide)] at hj
    rw [xR 40 i (by decide), xR 40 j (by decide)]
    exact L4 i j hij hj
  · rw [hT 6 (by decide)] at hi
    obtain ⟨g1, g2, g3, g4, g5⟩ := L5 i hi hi2
    have hreg := (L2 i hi2).1.1
    have kk : ∀ k, sI σ' (sR σ 40 i) k = sI σ (sR σ 40 i) k := fun k => xI _ k (by unfold reg at hreg; unfold Cz; omega)
    rw [xR 40 i (by decide), kk, kk, kk, kk]
    exact ⟨g1, g2, g3, g4, g5⟩
/-- the tape's bytes -/
def tbN (A : Ab) (j : Nat) : Nat := if j < 500 then (A 111 j).toNatClampNeg else 0
theorem tbN_b {A : Ab} {σ : Sto} (h : RTape A σ) : ∀ j, tbN A j < 256 := fun j => by
  unfold tbN
  by_cases c : j < 500
  · rw [if_pos c]
    obtain ⟨-, x, x1, x2⟩ := h j c
    rw [x2, oI_cl (by omega)]; exact x1
  · rw [if_neg c]; decide
theorem tbN_e {A : Ab} {σ : Sto} (h : RTape A σ) {j : Nat} (hj : j < 500) : A 111 j = Int32.ofNat (tbN A j) := by
  obtain ⟨-, x, x1, x2⟩ := h j hj
  unfold tbN
  rw [if_pos hj, x2, oI_cl (by omega)]
theorem zRead_ok {b : Nat → Nat} {n lands : Nat} : ∀ f ahead s R, ahead + f = 17 → s ≤ n → LOK R → R.2.1.1 ≤ ahead → R.2.2.length ≤ s → (∀ e, zRead b n lands f ahead s R = .inl e → 1 ≤ e.1 ∧ e.1 ≤ 4) ∧ ∀ s' R', zRead b n lands f ahead s R = .inr (s', R') → s' ≤ n ∧ LOK R' ∧ R'.2.1.1 ≤ 16 ∧ R'.2.2.length ≤ s'
  | 0, _, _, _, _, _, _, _, _ => ⟨(fun e q => by cases q; exact ⟨Nat.le_refl 1, by decide⟩), fun _ _ q => by cases q⟩
  | f + 1, ahead, s, R, h1, h2, h3, h4, h5 => by
    show (∀ e, (if tc b n s = 0 then Sum.inr (s, R) else szN (zClause b n lands ahead s R) fun s' R' => zRead b n lands f (ahead + 1) s' R') = .inl e → _) ∧ ∀ s' R', (if tc b n s = 0 then Sum.inr (s, R) else szN (zClause b n lands ahead s R) fun s' R' => zRead b n lands f (ahead + 1) s' R') = .inr (s', R') → _
    by_cases c : tc b n s = 0
    · rw [if_pos c]
      exact ⟨(fun e q => by cases q), fun s' R' q => by cases q; exact ⟨h2, h3, by omega, h5⟩⟩
    · rw [if_neg c]
      have hok := zClause_ok (b := b) (lands := lands) h2 h3 h4 h5
      cases q : zClause b n lands ahead s R with
      | inl e => exact ⟨(fun e' q' => by cases q'; have := hok.1 e q; exact ⟨this.1, this.2.1⟩), fun _ _ q' => by cases q'⟩
      | inr w =>
        obtain ⟨s', R'⟩ := w
        obtain ⟨k1, k2, k3, k4, k5⟩ := hok.2 s' R' q
        exact zRead_ok f (ahead + 1) s' R' (by omega) k2 k3 k4 k5
theorem zLaw_ok {b : Nat → Nat} {n lands : Nat} : (∀ e, zLaw b n lands = .inl e → 1 ≤ e.1 ∧ e.1 ≤ 4) ∧ ∀ s' R', zLaw b n lands = .inr (s', R') → s' ≤ n ∧ LOK R' ∧ R'.2.1.1 ≤ 16 ∧ R'.2.2.length ≤ s' :=
  zRead_ok 17 0 _ _ rfl (rn_b (P := bkB b) (n := n) n 0 (by omega)).2.1 LOK_blank (Nat.le_refl 0) (Nat.zero_le _)
/-- the class's draft as a text told -/
def DR (d : Nat) (R : Zl) (σ : Sto) : Prop := RLw d R σ ∧ sI σ d 14 = Int32.ofNat R.2.2.length ∧ LF (fun j => sI σ (d + 3) j) 0 R.2.2
theorem C_tape {A : Ab} {σ : Sto} {d nl n : Nat} {p0 p2 : Int32} (h : Rel A σ) (hd : sR σ 32 7 = d) (hnl : nl ≤ 6) (c1 : sI σ 33 1 = Int32.ofNat nl) (g1 : nu p0 nl) (hn : Int32.ofNat n ≤ sI σ 32 5) (hn2 : n ≤ 500) (hday : ¬ (p2 < 0 ∨ 36499 < p2)) :
    ∃ v σ', mX11_readTape p0 (Int32.ofNat n) p2 1 σ = some (.inr (v, σ')) ∧ Ez (Cz d) σ σ' ∧ sI σ' 32 5 = 0 ∧ sI σ' d 2 = p0 ∧ sI σ' d 3 = p2 ∧
      ((∃ e, zLaw (tbN A) n nl = .inl e ∧ v = Int32.ofNat e.1 ∧ sI σ' 32 6 = Int32.ofNat e.2) ∨ (∃ s R, zLaw (tbN A) n nl = .inr (s, R) ∧ v = 0 ∧ sI σ' 32 6 = -1 ∧ DR d R σ')) := by
  have hlw := h.lw.1
  rw [hd] at hlw
  obtain ⟨D1, D2, D3⟩ := hlw
  obtain ⟨j0, j1, j2⟩ := nu_of (by omega) g1
  have t74 : sK σ 74 = 100 ∧ sN σ 74 = 500 := h.stat (74, 100, 500) (by decide)
  have ht := h.2.2.2.2.2.1
  obtain ⟨v, σ2, e1, x1, z1, v1⟩ := C_read (b := tbN A) (lands := nl) (d := d) (σ := wI (wI σ 32 5 0) 32 6 (-1)) hn2 (tbN_b ht) ⟨by omega, hnl⟩ t74 (fun j hj => by
    show sI σ 74 j = _
    rw [(ht j hj).1]; exact tbN_e ht hj) (D1.ex (S := fun a j => a = 32) ((Ex.rf.w (S := fun a j => a = 32) _ rfl).w _ rfl)) D2
  have x1I := x1.2.2.2.2.2
  have r9 : sR σ2 32 7 = d := (x1.2.2.2.1 32 7 (by decide)).trans hd
  have k5 : sK σ2 d = 5 := (x1.2.1 d).trans D1.2.2.1
  have eR : mX11_readTape p0 (Int32.ofNat n) p2 1 σ = some (.inr (v, wI (wI (wI σ2 32 6 (sI σ2 67 5)) d 2 p0) d 3 p2)) := by
    unfold mX11_readTape
    rw [C_needL c1 (by omega), if_pos g1, bdp_inr, if_neg (oI_nn (by omega)), if_pos hn]
    simp only [stp]
    rw [if_neg i10, if_neg (fun q => hday (C_isDay.mp q)), show sI (wI (wI σ 32 5 0) 32 6 (-1)) 33 1 = Int32.ofNat nl from c1, show sR (wI (wI σ 32 5 0) 32 6 (-1)) 32 7 = d from hd, e1, bd2_some]
    rw [show sR (wI σ2 32 6 (sI σ2 67 5)) 32 7 = d from r9, if_pos (show sK (wI σ2 32 6 (sI σ2 67 5)) d = 5 from k5), show sR (wI (wI σ2 32 6 (sI σ2 67 5)) d 2 p0) 32 7 = d from r9, if_pos (show sK (wI (wI σ2 32 6 (sI σ2 67 5)) d 2 p0) d = 5 from k5)]
  have wv : ∀ a j, ¬ ((a = 32 ∧ j = 6) ∨ (a = d ∧ (j = 2 ∨ j = 3))) → sI (wI (wI (wI σ2 32 6 (sI σ2 67 5)) d 2 p0) d 3 p2) a j = sI σ2 a j := fun a j ha => by
    rw [sI_wI, if_neg (fun z => ha (Or.inr ⟨z.1, Or.inr z.2⟩)), sI_wI, if_neg (fun z => ha (Or.inr ⟨z.1, Or.inl z.2⟩)), sI_wI, if_neg (fun z => ha (Or.inl z))]
  have w6 : sI (wI (wI (wI σ2 32 6 (sI σ2 67 5)) d 2 p0) d 3 p2) 32 6 = sI σ2 67 5 := by
    rw [sI_wI, if_neg (by omega), sI_wI, if_neg (by omega), sI_wI, if_pos ⟨rfl, rfl⟩]
  refine ⟨v, _, eR, ⟨x1.1, x1.2.1, x1.2.2.1, x1.2.2.2.1, x1.2.2.2.2.1, fun a j hj => ?_⟩, ?_, ?_, ?_, ?_⟩
  · rw [wv a j (fun z => hj (by unfold Cz; omega)), x1I a j (fun z => hj (by unfold SW at z; unfold Cz; omega)), sI_wI, if_neg (fun z => hj (Or.inl ⟨z.1, Or.inr z.2⟩)), sI_wI, if_neg (fun z => hj (Or.inl ⟨z.1, Or.inl z.2⟩))]
  · rw [wv 32 5 (by omega), x1I 32 5 (by unfold SW; omega)]; rfl
  · rw [sI_wI, if_neg (by omega), sI_wI, if_pos ⟨rfl, rfl⟩]
  · rw [sI_wI, if_pos ⟨rfl, rfl⟩]
  · rw [w6]
    cases q : zLaw (tbN A) n nl with
    | inl e =>
      rw [q] at z1
      exact Or.inl ⟨e, rfl, by rw [v1]; exact z1.2.2.2.1, z1.2.2.2.2.1⟩
    | inr w =>
      obtain ⟨s, R⟩ := w
      rw [q] at z1
      obtain ⟨q1, q2, q3, q4⟩ := zLaw_ok.2 s R q
      obtain ⟨hCE, hCR, hL, -⟩ := z1
      have tk : R.2.2.take 500 = R.2.2 := List.take_of_length_le (by omega)
      obtain ⟨h1, h2, h3, h4, h5, h6⟩ := hCR
      have h4' : sI σ2 d 14 = Int32.ofNat (R.2.2.take 500).length := h4
      have h5' : LF (fun j => sI σ2 (d + 3) j) 0 (R.2.2.take 500) := h5
      rw [tk] at h4' h5'
      refine Or.inr ⟨s, R, rfl, by rw [v1]; exact h3, h6, ⟨fun k k1 k2 => (wv d k (by omega)).trans (hL.1 k k1 k2), (wv d 6 (by omega)).trans hL.2.1, fun j hj => ⟨(wv _ j (by omega)).trans (hL.2.2 j hj).1, (wv _ j (by omega)).trans (hL.2.2 j hj).2⟩⟩, (wv d 14 (by omega)).trans h4', h5'.congr (fun i _ => wv (d + 3) i (by omega))⟩
