/-! the class reads a whole text: clause by clause -/
theorem CZ.ce {b : Nat → Nat} {n d lands : Nat} {t : Zs} {σ : Sto} (h : CZ b n d lands t σ) : CE b n d σ := by
  cases t with
  | inl e => exact h.1
  | inr q => exact h.1
theorem C_clause {b : Nat → Nat} {n d lands s ahead : Nat} {R : Zl} {σ : Sto} (hn : n ≤ 500) (hb : ∀ j, b j < 256) (hl : 1 ≤ lands ∧ lands ≤ 6) (hR0 : LOK R) (hN : R.2.1.1 ≤ ahead) (ha : ahead ≤ 16) (h : CL b n d lands s R σ) : ∃ σ', mX7_readClause (Int32.ofNat ahead) σ = some σ' ∧ Ex (SLw d) σ σ' ∧ CZ b n d lands (zClause b n lands ahead s R) σ' := by
  obtain ⟨hC, hR, hL, h2⟩ := id h
  have hd := hC.2.2.2
  have hs : s ≤ n := hR.1
  have hT : TSC b n s σ := hR.2.1
  have hnx := nx_le (b := b) (n := n) hs
  have hwb := wd_b b n s
  unfold mX7_readClause zClause
  rw [C_clw hn hb hC.1 hT hs, bnd_some]
  by_cases c : wd b n s < 8
  · have hne : ¬ Int32.ofNat (wd b n s) = -1 := fun q => by
      have key : ((List.range 8).all fun k => decide (¬ Int32.ofNat k = -1)) = true := by decide +kernel
      rw [List.all_eq_true] at key
      exact of_decide_eq_true (key (wd b n s) (List.mem_range.mpr c)) q
    rw [if_pos c, if_neg hne, if_pos c]
    by_cases c16 : ahead = 16
    · rw [if_neg (fun q => absurd ((lt_lit (v := 16) (m := 16) rfl (by omega) (by decide)).mp q) (by omega)), if_pos c16]
      obtain ⟨σ1, e1, x1, r1⟩ := C_ref (b := b) (n := n) (d := d) (k := 2) (by decide) (by decide) _ σ hC hR
      have e1' : mX7_refuse 2 σ = some σ1 := e1
      rw [e1', bnd_some]
      exact ⟨σ1, rfl, x1.mono SE_SLw, hC.se x1, r1⟩
    · rw [if_pos ((lt_lit (v := 16) (m := 16) rfl (by omega) (by decide)).mpr (by omega)), if_neg c16]
      obtain ⟨σ1, e1, x1, r1⟩ := C_nxt hn hb _ σ hC hR
      have hC1 := hC.se x1
      have hL1 := hL.ex hd x1
      have h21 := (x1.2.2.2.2.2 67 2 (by unfold SE; omega)).trans h2
      have g1 : CL b n d lands (nx b n s) R σ1 := ⟨hC1, r1, hL1, h21⟩
      have fin : ∀ σ2, Ex (SLw d) σ1 σ2 → CZ b n d lands (zBody b n lands (wd b n s) (nx b n s) R) σ2 → ∃ σ', mX7_readClause_98 σ2 = some σ' ∧ Ex (SLw d) σ σ' ∧ CZ b n d lands (szN (zBody b n lands (wd b n s) (nx b n s) R) (zSemi b n)) σ' := fun σ2 x2 z2 => by
        obtain ⟨σ3, e3, x3, z3⟩ := C_semi hn hb z2
        exact ⟨σ3, e3, ((x1.mono SE_SLw).tr x2).tr x3, z3⟩
      rw [e1, bnd_some]
      by_cases c0 : wd b n s = 0
      · rw [if_pos (show Int32.ofNat (wd b n s) = 0 by rw [c0]; rfl), hC1.2.1, if_pos hC1.2.2.1.2.2.1]
        have xw : Ex (SE d) σ1 (wI σ1 d 14 0) := Ex.rf.w _ (Or.inr (Or.inl ⟨rfl, rfl⟩))
        have xw' : Ex (fun x j => x = d ∧ j = 14) σ1 (wI σ1 d 14 0) := Ex.rf.w (S := fun x j => x = d ∧ j = 14) _ ⟨rfl, rfl⟩
        have hCw := hC1.se xw
        have rw1 : CR b n d (.inr (nx b n s, [])) (wI σ1 d 14 0) := ⟨r1.1, r1.2.1.ex xw' (fun j _ _ z => by omega), (xw'.2.2.2.2.2 67 4 (by omega)).trans r1.2.2.1, by rw [sI_wI, if_pos ⟨rfl, rfl⟩]; rfl, trivial, (xw'.2.2.2.2.2 67 5 (by omega)).trans r1.2.2.2.2.2⟩
        obtain ⟨σ3, e3, x3, r3⟩ := C_expr (b := b) (n := n) (d := d) hn hb _ _ hCw rw1
        rw [stN_r] at r3
        obtain ⟨σ4, f4⟩ := fin σ3 ((xw.tr x3).mono SE_SLw) (by
          rw [c0]
          show CZ b n d lands (stz (zExpr b n 8 0 (nx b n s) []) fun s2 l => .inr (s2, zDu R l)) σ3
          cases q : zExpr b n 8 0 (nx b n s) [] with
          | inl e => rw [q] at r3; exact ⟨hCw.se x3, r3⟩
          | inr w =>
            obtain ⟨s2, l⟩ := w
            rw [q] at r3
            have hL3 := (hL1.ex hd xw).ex hd x3
            exact ⟨hCw.se x3, r3, hL3, ((xw.tr x3).2.2.2.2.2 67 2 (by unfold SE; omega)).trans h21⟩)
        refine ⟨σ4, ?_, f4.2⟩
        show ((mX7_readExpr 8 0 (wI σ1 d 14 0)).bind fun σ17 => mX7_readClause_98 σ17) = _
        rw [e3, bnd_some]
        exact f4.1
      · rw [if_neg (fun q => c0 ((eq_lit (v := 0) (m := 0) rfl (by omega) (by decide)).mp q))]
        by_cases c1 : wd b n s = 1
        · rw [if_pos (show Int32.ofNat (wd b n s) = 1 by rw [c1]; rfl), hC1.2.1, if_pos hC1.2.2.1.2.2.1]
          obtain ⟨σ2, e2, x2, z2⟩ := C_stepz hn hb hnx.2.1 hR0 (by omega) g1 (fun σ13 => mX7_readClause_98 σ13)
          obtain ⟨σ4, f4⟩ := fin σ2 x2 (by rw [c1]; exact z2)
          exact ⟨σ4, e2.trans f4.1, f4.2⟩
        · rw [if_neg (fun q => c1 ((eq_lit (v := 1) (m := 1) rfl (by omega) (by decide)).mp q))]
          have st : ∃ σ2, mX7_readSetting (Int32.ofNat (wd b n s)) σ1 = some σ2 ∧ Ex (SLw d) σ1 σ2 ∧ CZ b n d lands (zBody b n lands (wd b n s) (nx b n s) R) σ2 := by
            unfold mX7_readSetting
            rcases (show wd b n s = 2 ∨ wd b n s = 3 ∨ wd b n s = 4 ∨ wd b n s = 5 ∨ wd b n s = 6 ∨ wd b n s = 7 by omega) with q | q | q | q | q | q
            · rw [q, if_pos (show Int32.ofNat 2 = 2 from rfl)]
              exact C_set (hi := 10000) (f := 7) hn hb rfl (by decide) ⟨by decide, by decide⟩ g1
            · rw [q, if_neg (show ¬ Int32.ofNat 3 = 2 by decide), if_pos (show Int32.ofNat 3 = 3 from rfl)]
              exact C_set (hi := 99999999) (f := 8) hn hb rfl (by decide) ⟨by decide, by decide⟩ g1
            · rw [q, if_neg (show ¬ Int32.ofNat 4 = 2 by decide), if_neg (show ¬ Int32.ofNat 4 = 3 by decide), if_pos (show Int32.ofNat 4 = 4 from rfl)]
              exact C_set (hi := 99999999) (f := 9) hn hb rfl (by decide) ⟨by decide, by decide⟩ g1
            · rw [q, if_neg (show ¬ Int32.ofNat 5 = 2 by decide), if_neg (show ¬ Int32.ofNat 5 = 3 by decide), if_neg (show ¬ Int32.ofNat 5 = 4 by decide), if_pos (show Int32.ofNat 5 = 5 from rfl)]
              exact C_set (hi := 200) (f := 10) hn hb rfl (by decide) ⟨by decide, by decide⟩ g1
            · rw [q, if_neg (show ¬ Int32.ofNat 6 = 2 by decide), if_neg (show ¬ Int32.ofNat 6 = 3 by decide), if_neg (show ¬ Int32.ofNat 6 = 4 by decide), if_neg (show ¬ Int32.ofNat 6 = 5 by decide), if_pos (show Int32.ofNat 6 = 6 from rfl)]
              exact C_set (hi := 99999999) (f := 11) hn hb rfl (by decide) ⟨by decide, by decide⟩ g1
            · rw [q, if_neg (show ¬ Int32.ofNat 7 = 2 by decide), if_neg (show ¬ Int32.ofNat 7 = 3 by decide), if_neg (show ¬ Int32.ofNat 7 = 4 by decide), if_neg (show ¬ Int32.ofNat 7 = 5 by decide), if_neg (show ¬ Int32.ofNat 7 = 6 by decide)]
              exact C_agree hn hb hnx.2.1 hl g1
          obtain ⟨σ2, e2, x2, z2⟩ := st
          obtain ⟨σ4, f4⟩ := fin σ2 x2 z2
          rw [e2, bnd_some]
          exact ⟨σ4, f4⟩
  · rw [if_neg c, if_pos rfl, if_neg c]
    obtain ⟨σ1, e1, x1, r1⟩ := C_ref (b := b) (n := n) (d := d) (k := 1) (by decide) (by decide) _ σ hC hR
    have e1' : mX7_refuse 1 σ = some σ1 := e1
    rw [e1', bnd_some]
    exact ⟨σ1, rfl, x1.mono SE_SLw, hC.se x1, r1⟩
theorem C_reads {b : Nat → Nat} {n d lands : Nat} (hn : n ≤ 500) (hb : ∀ j, b j < 256) (hl : 1 ≤ lands ∧ lands ≤ 6) : ∀ f ahead s R σ fuel, ahead + f = 17 → 1 ≤ f → f < fuel → LOK R → R.2.1.1 ≤ ahead → R.2.2.length ≤ s → CL b n d lands s R σ → ∃ v σ', mX7_read_55 fuel (Int32.ofNat ahead) σ = some (v, σ') ∧ Ex (SLw d) σ σ' ∧ CZ b n d lands (zRead b n lands f ahead s R) σ' ∧ v = sI σ' 67 4 := by
  intro f
  induction f with
  | zero => intro ahead s R σ fuel h1 h2; omega
  | succ f ih =>
    intro ahead s R σ fuel h1 h2 h3 hR0 hN hdl h
    obtain ⟨fu, rfl⟩ : ∃ q, fuel = q + 1 := ⟨fuel - 1, by omega⟩
    obtain ⟨hC, hR, hL, hl2⟩ := id h
    have h0 : sI σ 67 4 = 0 := hR.2.2.1
    have hT : TSC b n s σ := hR.2.1
    show ∃ v σ', mX7_read_55B (mX7_read_55 fu) (Int32.ofNat ahead) σ = some (v, σ') ∧ _ ∧ CZ b n d lands (if tc b n s = 0 then .inr (s, R) else szN (zClause b n lands ahead s R) fun s' R' => zRead b n lands f (ahead + 1) s' R') σ' ∧ _
    unfold mX7_read_55B
    rw [if_neg (fun q => absurd ((lit_lt (v := 16) (m := 16) rfl (by decide) (by omega)).mp q) (by omega)), if_pos h0, hT.1]
    by_cases c : tc b n s = 0
    · rw [if_pos (show Int32.ofNat (tc b n s) = 0 by rw [c]; rfl), if_pos c]
      exact ⟨_, σ, rfl, Ex.rf, h, rfl⟩
    · rw [if_neg (fun q => c ((tcE (v := 0) hb rfl (by decide)).mp q)), if_neg c]
      obtain ⟨σ1, e1, x1, z1⟩ := C_clause hn hb hl hR0 hN (by omega) h
      rw [e1, bnd_some, oI_s]
      have hok := zClause_ok (b := b) (lands := lands) hR.1 hR0 hN hdl
      cases q : zClause b n lands ahead s R with
      | inl e =>
        rw [q] at z1
        obtain ⟨fu, rfl⟩ : ∃ q, fu = q + 1 := ⟨fu - 1, by omega⟩
        refine ⟨sI σ1 67 4, σ1, ?_, x1, z1, rfl⟩
        show mX7_read_55B (mX7_read_55 fu) (Int32.ofNat (ahead + 1)) σ1 = _
        unfold mX7_read_55B
        rw [if_neg (c := sI σ1 67 4 = 0) z1.2.flt, ite_self]
      | inr w =>
        obtain ⟨s', R'⟩ := w
        rw [q] at z1
        obtain ⟨k1, k2, k3, k4, k5⟩ := hok.2 s' R' q
        have h16 : ahead ≠ 16 := fun q2 => by
          obtain ⟨e, he⟩ := zClause_16 (b := b) (n := n) (lands := lands) (s := s) (R := R)
          rw [q2, he] at q
          cases q
        obtain ⟨v, σ2, e2, x2, z2, v2⟩ := ih (ahead + 1) s' R' σ1 fu (by omega) (by omega) (by omega) k3 k4 k5 z1
        exact ⟨v, σ2, e2, x1.tr x2, z2, v2⟩
/-- what the reader leaves as it was -/
def Ez (S : Nat → Nat → Prop) (σ σ' : Sto) : Prop := sZ σ' = sZ σ ∧ (∀ b, sK σ' b = sK σ b) ∧ (∀ b, sN σ' b = sN σ b) ∧ (∀ b k, b ≠ 67 → sR σ' b k = sR σ b k) ∧ (∀ b k, sL σ' b k = sL σ b k) ∧ ∀ b k, ¬ S b k → sI σ' b k = sI σ b k
def SW (d : Nat) (x j : Nat) : Prop := (x = 67 ∧ 1 ≤ j ∧ j ≤ 10) ∨ (x = d ∧ 6 ≤ j ∧ j ≤ 14) ∨ x = d + 1 ∨ x = d + 2 ∨ x = d + 3
theorem C_read {b : Nat → Nat} {n d lands : Nat} {σ : Sto} (hn : n ≤ 500) (hb : ∀ j, b j < 256) (hl : 1 ≤ lands ∧ lands ≤ 6) (h74 : sK σ 74 = 100 ∧ sN σ 74 = 500) (hbt : ∀ j, j < 500 → sI σ 74 j = Int32.ofNat (b j)) (hd : LwAt σ d) (hd2 : 75 ≤ d) :
    ∃ v σ', mX7_read 74 (Int32.ofNat n) (Int32.ofNat lands) d σ = some (v, σ') ∧ Ez (SW d) σ σ' ∧ CZ b n d lands (zLaw b n lands) σ' ∧ v = sI σ' 67 4 := by
  have hz : d + 4 < sZ σ := hd.2.1
  obtain ⟨hreg, hz1, hk5, ⟨p1, p2, p3, p4⟩, ⟨a1, b1⟩, ⟨a2, b2⟩, ⟨a3, b3⟩, a4, b4⟩ := id hd
  generalize e9 : wR (wI (wI (wR σ 67 0 74) 67 1 (Int32.ofNat n)) 67 2 (Int32.ofNat lands)) 67 3 d = σ9
  have r0 : sR σ9 67 0 = 74 := by rw [← e9]; rfl
  have r3 : sR σ9 67 3 = d := by rw [← e9]; rfl
  have i1 : sI σ9 67 1 = Int32.ofNat n := by rw [← e9]; rfl
  have i2 : sI σ9 67 2 = Int32.ofNat lands := by rw [← e9]; rfl
  have kk : ∀ x, sK σ9 x = sK σ x := fun x => by rw [← e9]; rfl
  have kn : ∀ x, sN σ9 x = sN σ x := fun x => by rw [← e9]; rfl
  have kz : sZ σ9 = sZ σ := by rw [← e9]; rfl
  have kr : ∀ x k, x ≠ 67 → sR σ9 x k = sR σ x k := fun x k hx => by rw [← e9, sR_wR, if_neg (fun z => hx z.1), sR_wI, sR_wI, sR_wR, if_neg (fun z => hx z.1)]
  have kl : ∀ x k, sL σ9 x k = sL σ x k := fun x k => by rw [← e9]; rfl
  have ki : ∀ x k, ¬ (x = 67 ∧ (k = 1 ∨ k = 2)) → sI σ9 x k = sI σ x k := fun x k hx => by
    rw [← e9, sI_wR, sI_wI, if_neg (fun z => hx ⟨z.1, Or.inr z.2⟩), sI_wI, if_neg (fun z => hx ⟨z.1, Or.inl z.2⟩), sI_wR]
  have e0 : mX7_read 74 (Int32.ofNat n) (Int32.ofNat lands) d σ = (mX7_next (wI (wI (wI (wI (wI (wI (wI (wI (wI (wI (wI σ9 d 6 0) d 7 0) d 8 0) d 9 (-1)) d 10 70) d 11 300) d 12 0) d 14 0) 67 4 0) 67 5 (-1)) 67 8 0)).bind fun σ17 => mX7_read_55 FU 0 σ17 := by
    unfold mX7_read
    have g1 : sK (wR σ 67 0 74) 74 = 100 := h74.1
    have g2 : sN (wR σ 67 0 74) 74 = 500 := h74.2
    simp only [stp]
    rw [if_pos g1, g2, if_neg (fun q => absurd ((oI_lt (by decide) (by omega)).mp q) (by omega)), e9, r3, if_pos (by rw [kk]; exact hk5)]
    rfl
  have x : Ex (fun a j => (a = d ∧ 6 ≤ j ∧ j ≤ 14) ∨ (a = 67 ∧ (j = 4 ∨ j = 5 ∨ j = 8))) σ9 (wI (wI (wI (wI (wI (wI (wI (wI (wI (wI (wI σ9 d 6 0) d 7 0) d 8 0) d 9 (-1)) d 10 70) d 11 300) d 12 0) d 14 0) 67 4 0) 67 5 (-1)) 67 8 0) :=
    ((((((((((Ex.rf.w (S := fun a j => (a = d ∧ 6 ≤ j ∧ j ≤ 14) ∨ (a = 67 ∧ (j = 4 ∨ j = 5 ∨ j = 8))) _ (Or.inl ⟨rfl, by decide, by decide⟩)).w _ (Or.inl ⟨rfl, by decide, by decide⟩)).w _ (Or.inl ⟨rfl, by decide, by decide⟩)).w _ (Or.inl ⟨rfl, by decide, by decide⟩)).w _ (Or.inl ⟨rfl, by decide, by decide⟩)).w _ (Or.inl ⟨rfl, by decide, by decide⟩)).w _ (Or.inl ⟨rfl, by decide, by decide⟩)).w _ (Or.inl ⟨rfl, by decide, by decide⟩)).w _ (Or.inr ⟨rfl, Or.inl rfl⟩)).w _ (Or.inr ⟨rfl, Or.inr (Or.inl rfl)⟩)).w _ (Or.inr ⟨rfl, Or.inr (Or.inr rfl)⟩)
  have v4 : sI (wI (wI (wI (wI (wI (wI (wI (wI (wI (wI (wI σ9 d 6 0) d 7 0) d 8 0) d 9 (-1)) d 10 70) d 11 300) d 12 0) d 14 0) 67 4 0) 67 5 (-1)) 67 8 0) 67 4 = 0 := rfl
  have v5 : sI (wI (wI (wI (wI (wI (wI (wI (wI (wI (wI (wI σ9 d 6 0) d 7 0) d 8 0) d 9 (-1)) d 10 70) d 11 300) d 12 0) d 14 0) 67 4 0) 67 5 (-1)) 67 8 0) 67 5 = -1 := rfl
  have v8 : sI (wI (wI (wI (wI (wI (wI (wI (wI (wI (wI (wI σ9 d 6 0) d 7 0) d 8 0) d 9 (-1)) d 10 70) d 11 300) d 12 0) d 14 0) 67 4 0) 67 5 (-1)) 67 8 0) 67 8 = Int32.ofNat 0 := rfl
  have vd : ∀ k, 6 ≤ k → k ≤ 14 → k ≠ 13 → sI (wI (wI (wI (wI (wI (wI (wI (wI (wI (wI (wI σ9 d 6 0) d 7 0) d 8 0) d 9 (-1)) d 10 70) d 11 300) d 12 0) d 14 0) 67 4 0) 67 5 (-1)) 67 8 0) d k = zBlank.1 k := fun k k1 k2 k3 => by
    rw [sI_wI, if_neg (by omega), sI_wI, if_neg (by omega), sI_wI, if_neg (by omega)]
    rcases (show k = 6 ∨ k = 7 ∨ k = 8 ∨ k = 9 ∨ k = 10 ∨ k = 11 ∨ k = 12 ∨ k = 14 by omega) with rfl | rfl | rfl | rfl | rfl | rfl | rfl | rfl
    · simp only [sI_wI, true_and, if_true]; rfl
    · simp only [sI_wI, true_and, if_true]; rfl
    · simp only [sI_wI, true_and, if_true]; rfl
    · simp only [sI_wI, true_and, if_true]; rfl
    · simp only [sI_wI, true_and, if_true]; rfl
    · simp only [sI_wI, true_and, if_true]; rfl
    · simp only [sI_wI, true_and, if_true]; rfl
    · simp only [sI_wI, true_and, if_true]; rfl
  rw [e0]
  generalize wI (wI (wI (wI (wI (wI (wI (wI (wI (wI (wI σ9 d 6 0) d 7 0) d 8 0) d 9 (-1)) d 10 70) d 11 300) d 12 0) d 14 0) 67 4 0) 67 5 (-1)) 67 8 0 = τ at x v4 v5 v8 vd
  have kx := x.2.2.2.2.2
  have hEC : EC b n τ := ⟨(x.2.2.2.1 _ _).trans r0, by rw [x.2.1, kk]; exact h74.1, by rw [x.2.2.1, kn]; exact h74.2, (kx 67 1 (by omega)).trans i1, fun j hj => (kx 74 j (by omega)).trans ((ki 74 j (by omega)).trans (hbt j hj))⟩
  obtain ⟨σ17, e17, x17, t17⟩ := C_nxt_l hn hb n 0 FU τ (by omega) (show n < 5000 by omega) hEC v8
  have k17 := x17.2.2.2.2.2
  have hrn := rn_b (P := bkB b) (n := n) n 0 (by omega)
  have hLw : LwAt τ d := by
    have q := x.2.2.2.1
    have nd : ∀ y, y = d ∨ y = d + 1 → y ≠ 67 := fun y hy => by omega
    refine ⟨hreg, by rw [x.1, kz]; exact hz1, by rw [x.2.1, kk]; exact hk5, ⟨(q _ _).trans ((kr _ _ (by omega)).trans p1), (q _ _).trans ((kr _ _ (by omega)).trans p2), (q _ _).trans ((kr _ _ (by omega)).trans p3), (q _ _).trans ((kr _ _ (by omega)).trans p4)⟩, ⟨by rw [x.2.1, kk]; exact a1, by rw [x.2.2.1, kn]; exact b1⟩, ⟨by rw [x.2.1, kk]; exact a2, by rw [x.2.2.1, kn]; exact b2⟩, ⟨by rw [x.2.1, kk]; exact a3, by rw [x.2.2.1, kn]; exact b3⟩, by rw [x.2.1, kk]; exact a4, by rw [x.2.2.1, kn]; exact b4⟩
  have hCE : CE b n d τ := ⟨hEC, (x.2.2.2.1 _ _).trans r3, hLw, hd2⟩
  have kd : ∀ a j, 75 ≤ a → sI σ17 a j = sI τ a j := fun a j ha => k17 a j (by unfold S67; omega)
  have hCL : CL b n d lands (rn (bkB b) n 0) zBlank σ17 := by
    refine ⟨hCE.ex x17 S67_ec, ⟨hrn.2.1, t17, (k17 67 4 (by unfold S67; omega)).trans v4, (kd d 14 hd2).trans (vd 14 (by decide) (by decide) (by decide)), trivial, (k17 67 5 (by unfold S67; omega)).trans v5⟩, ⟨fun k k1 k2 => (kd d k hd2).trans (vd k (by omega) (by omega) (by omega)), (kd d 6 hd2).trans (vd 6 (by decide) (by decide) (by decide)), fun j hj => absurd hj (Nat.not_lt_zero j)⟩, (k17 67 2 (by unfold S67; omega)).trans ((kx 67 2 (by omega)).trans i2)⟩
  obtain ⟨v, σ', e2, x2, z2, v2⟩ := C_reads hn hb hl 17 0 (rn (bkB b) n 0) zBlank σ17 FU rfl (by decide) (by decide) LOK_blank (Nat.le_refl 0) (Nat.zero_le _) hCL
  have e17' : mX7_next τ = some σ17 := e17
  rw [e17', bnd_some]
  have xs := (x.mono (T := SW d) fun a j z => by unfold SW; omega).tr ((x17.mono (T := SW d) fun a j z => by unfold S67 at z; unfold SW; omega).tr (x2.mono (T := SW d) fun a j z => by unfold SLw at z; unfold SW; omega))
  refine ⟨v, σ', e2, ⟨xs.1.trans kz, fun y => (xs.2.1 y).trans (kk y), fun y => (xs.2.2.1 y).trans (kn y), fun y k hy => (xs.2.2.2.1 y k).trans (kr y k hy), fun y k => (xs.2.2.2.2.1 y k).trans (kl y k), fun y k hy => (xs.2.2.2.2.2 y k hy).trans (ki y k (fun z => hy (by unfold SW; omega)))⟩, z2, v2⟩
