/-! the class reads a whole text -/
def SLw (d : Nat) (x j : Nat) : Prop := (x = 67 ∧ 4 ≤ j ∧ j ≤ 10) ∨ (x = d ∧ 6 ≤ j ∧ j ≤ 14) ∨ x = d + 1 ∨ x = d + 2 ∨ x = d + 3
theorem SLw_ec {d : Nat} (hd : 75 ≤ d) : ∀ x j, SLw d x j → x ≠ 74 ∧ ¬ (x = 67 ∧ j = 1) := fun x j h => by unfold SLw at h; omega
theorem SE_SLw {d : Nat} : ∀ x j, SE d x j → SLw d x j := fun x j h => by unfold SE at h; unfold SLw; omega
theorem CE.sl {b : Nat → Nat} {n d : Nat} {σ σ' : Sto} (h : CE b n d σ) (x : Ex (SLw d) σ σ') : CE b n d σ' := h.ex x (SLw_ec h.2.2.2)
/-- the class's law as read so far -/
def RLw (d : Nat) (R : Zl) (σ : Sto) : Prop := (∀ k, 7 ≤ k → k ≤ 12 → sI σ d k = R.1 k) ∧ sI σ d 6 = Int32.ofNat R.2.1.1 ∧ ∀ j, j < R.2.1.1 → sI σ (d + 1) j = Int32.ofNat (R.2.1.2.1 j) ∧ sI σ (d + 2) j = Int32.ofNat (R.2.1.2.2 j)
def CL (b : Nat → Nat) (n d lands s : Nat) (R : Zl) (σ : Sto) : Prop := CE b n d σ ∧ CR b n d (.inr (s, R.2.2)) σ ∧ RLw d R σ ∧ sI σ 67 2 = Int32.ofNat lands
def CZ (b : Nat → Nat) (n d lands : Nat) (t : Zs) (σ : Sto) : Prop := match t with
  | .inl e => CE b n d σ ∧ CR b n d (.inl e) σ
  | .inr q => CL b n d lands q.1 q.2 σ
theorem RLw.ex {d : Nat} {R : Zl} {σ σ' : Sto} (h : RLw d R σ) (hd : 75 ≤ d) (x : Ex (SE d) σ σ') : RLw d R σ' := by
  have k := x.2.2.2.2.2
  obtain ⟨h1, h2, h3⟩ := h
  refine ⟨fun j j1 j2 => (k d j (by unfold SE; omega)).trans (h1 j j1 j2), (k d 6 (by unfold SE; omega)).trans h2, fun j hj => ⟨(k (d + 1) j (by unfold SE; omega)).trans (h3 j hj).1, (k (d + 2) j (by unfold SE; omega)).trans (h3 j hj).2⟩⟩
/-- a write into the law's own cells, aside of the due -/
theorem CR.wr {b : Nat → Nat} {n d a k : Nat} {t : Zt} {σ : Sto} (h : CR b n d t σ) (hd : 75 ≤ d) (v : Int32) (ha : (a = d ∧ k < 14) ∨ a = d + 1 ∨ a = d + 2) : CR b n d t (wI σ a k v) := by
  have x : Ex (fun x j => x = a ∧ j = k) σ (wI σ a k v) := Ex.rf.w (S := fun x j => x = a ∧ j = k) _ ⟨rfl, rfl⟩
  have r := x.2.2.2.2.2
  cases t with
  | inl e =>
    obtain ⟨⟨s, s1, s2⟩, h2, h3, h4, m, h5, h6⟩ := h
    exact ⟨⟨s, s1, s2.ex x (fun j _ _ z => by omega)⟩, h2, (r 67 4 (by omega)).trans h3, (r 67 5 (by omega)).trans h4, m, h5, (r d 14 (by omega)).trans h6⟩
  | inr q =>
    obtain ⟨h1, h2, h3, h4, h5⟩ := h
    exact ⟨h1, h2.ex x (fun j _ _ z => by omega), (r 67 4 (by omega)).trans h3, (r d 14 (by omega)).trans h4, h5.1.congr (fun i _ => r (d + 3) i (by omega)), (r 67 5 (by omega)).trans h5.2⟩
theorem CE.wr {b : Nat → Nat} {n d a k : Nat} {σ : Sto} (h : CE b n d σ) (v : Int32) (ha : a = d ∨ a = d + 1 ∨ a = d + 2) : CE b n d (wI σ a k v) := by
  have hd := h.2.2.2
  exact h.ex (S := fun x j => x = a ∧ j = k) (Ex.rf.w _ ⟨rfl, rfl⟩) (fun x j z => by omega)
theorem zNum_l {b : Nat → Nat} {n lo hi s : Nat} {l : List (Nat × Nat)} {k : Zs} {σ : Sto} {d : Nat} {lands : Nat} (hC : CE b n d σ) (hR : CR b n d (zNum b n lo hi s l) σ) : (∃ e, zN b n lo hi 2 s k = .inl e ∧ CR b n d (.inl e) σ) ∨ (zN b n lo hi 2 s k = k ∧ CR b n d (.inr (nx b n s, l)) σ) := by
  unfold zNum at hR
  unfold zN
  by_cases c3 : tc b n s = 3
  · rw [if_pos c3] at hR ⊢
    by_cases c8 : 8 < tkE b n s - s
    · rw [if_pos c8] at hR ⊢; exact Or.inl ⟨_, rfl, hR⟩
    · rw [if_neg c8] at hR ⊢
      by_cases c : nv b n s < lo ∨ hi < nv b n s
      · rw [if_pos c] at hR ⊢; exact Or.inl ⟨_, rfl, hR⟩
      · rw [if_neg c] at hR ⊢; exact Or.inr ⟨rfl, hR⟩
  · rw [if_neg c3] at hR ⊢; exact Or.inl ⟨_, rfl, hR⟩
/-- a number into a field -/
theorem C_set {b : Nat → Nat} {n d lands s hi f : Nat} {p1 : Int32} {R : Zl} {σ : Sto} (hn : n ≤ 500) (hb : ∀ j, b j < 256) (h1 : p1 = Int32.ofNat hi) (hh : hi < 200000000) (hf : 7 ≤ f ∧ f ≤ 11) (h : CL b n d lands s R σ) :
    ∃ σ', (bd2 (mX7_takeNumber 0 p1 σ) fun v2 σ2 => if sK σ2 (sR σ 67 3) = 5 then stp (wI σ2 (sR σ 67 3) f v2) fun σ4 => some σ4 else none) = some σ' ∧ Ex (SLw d) σ σ' ∧ CZ b n d lands (zN b n 0 hi 2 s (.inr (nx b n s, zUp R f (Int32.ofNat (nv b n s))))) σ' := by
  obtain ⟨hC, hR, hL, h2⟩ := h
  have hd := hC.2.2.2
  obtain ⟨v, σ1, e1, x1, r1, v1⟩ := C_num (lo := 0) (p0 := 0) hn hb rfl h1 (by decide) hh hC hR
  have hC1 := hC.se x1
  rw [e1, bd2_some, hC.2.1, if_pos hC1.2.2.1.2.2.1]
  rw [stN_r] at r1
  refine ⟨wI σ1 d f v, rfl, (x1.mono SE_SLw).w _ (Or.inr (Or.inl ⟨rfl, by omega, by omega⟩)), ?_⟩
  have hCw := hC1.wr (k := f) v (Or.inl rfl)
  rcases zNum_l (k := .inr (nx b n s, zUp R f (Int32.ofNat (nv b n s)))) (lands := lands) hC1 r1 with ⟨e, q1, q2⟩ | ⟨q1, q2⟩
  · rw [q1]
    exact ⟨hCw, q2.wr hd v (Or.inl ⟨rfl, by omega⟩)⟩
  · rw [q1]
    have hL1 := hL.ex hd x1
    refine ⟨hCw, q2.wr hd v (Or.inl ⟨rfl, by omega⟩), ⟨fun k k1 k2 => ?_, ?_, fun j hj => ?_⟩, ?_⟩
    · show sI (wI σ1 d f v) d k = if k = f then Int32.ofNat (nv b n s) else R.1 k
      rw [sI_wI, v1 s R.2.2 rfl]
      by_cases c : k = f
      · rw [if_pos ⟨rfl, c⟩, if_pos c]
      · rw [if_neg (fun z => c z.2), if_neg c]; exact hL1.1 k k1 k2
    · rw [sI_wI, if_neg (by omega)]; exact hL1.2.1
    · rw [sI_wI, if_neg (by omega), sI_wI, if_neg (by omega)]; exact hL1.2.2 j hj
    · rw [sI_wI, if_neg (by omega)]; exact (x1.2.2.2.2.2 67 2 (by unfold SE; omega)).trans h2
theorem C_semi {b : Nat → Nat} {n d lands : Nat} {t : Zs} {σ : Sto} (hn : n ≤ 500) (hb : ∀ j, b j < 256) (h : CZ b n d lands t σ) : ∃ σ', mX7_readClause_98 σ = some σ' ∧ Ex (SLw d) σ σ' ∧ CZ b n d lands (szN t (zSemi b n)) σ' := by
  cases t with
  | inl e =>
    obtain ⟨hC, hR⟩ := h
    obtain ⟨σ', e1, x1, r1⟩ := C_sign (b := b) (n := n) (d := d) (c := 59) (v := 59) hn hb rfl (by decide) (.inl e) σ hC hR
    exact ⟨σ', by unfold mX7_readClause_98; rw [e1, bnd_some], x1.mono SE_SLw, hC.se x1, r1⟩
  | inr q =>
    obtain ⟨s, R⟩ := q
    obtain ⟨hC, hR, hL, h2⟩ := h
    have hd := hC.2.2.2
    obtain ⟨σ', e1, x1, r1⟩ := C_sign (b := b) (n := n) (d := d) (c := 59) (v := 59) hn hb rfl (by decide) _ σ hC hR
    refine ⟨σ', by unfold mX7_readClause_98; rw [e1, bnd_some], x1.mono SE_SLw, ?_⟩
    rw [stN_r] at r1
    show CZ b n d lands (if tc b n s = 59 then .inr (nx b n s, R) else .inl (1, s)) σ'
    have r1' : CR b n d (if tc b n s = 59 then .inr (nx b n s, R.2.2) else .inl (1, s)) σ' := r1
    by_cases c : tc b n s = 59
    · rw [if_pos c] at r1' ⊢
      exact ⟨hC.se x1, r1', hL.ex hC.2.2.2 x1, (x1.2.2.2.2.2 67 2 (by unfold SE; omega)).trans h2⟩
    · rw [if_neg c] at r1' ⊢
      exact ⟨hC.se x1, r1'⟩
/-- a step -/
theorem C_stepz {b : Nat → Nat} {n d lands s : Nat} {R : Zl} {σ : Sto} (hn : n ≤ 500) (hb : ∀ j, b j < 256) (hs : s ≤ n) (hR0 : LOK R) (hN : R.2.1.1 < 16) (h : CL b n d lands s R σ) (T : Sto → Option Sto) :
    ∃ σ', ((mX4_lastStep d σ).bind fun v9 => bd2 (mX7_takeNumber (v9 + (1 : Int32)) (99999999 : Int32) σ) fun v11 σ11 => bd2 (mX7_takeNumber (0 : Int32) (10000 : Int32) σ11) fun v12 σ12 => if sK σ12 (sR σ11 67 3) = 5 then (mX4_addStep (sR σ11 67 3) v11 v12 σ12).bind T else none) = T σ' ∧ Ex (SLw d) σ σ' ∧ CZ b n d lands (zBody b n lands 1 s R) σ' := by
  obtain ⟨hC, hR, hL, h2⟩ := h
  have hd := hC.2.2.2
  obtain ⟨-, -, -, ⟨p1, p2, -, -⟩, ⟨a1, b1⟩, ⟨a2, b2⟩, -, -⟩ := hC.2.2.1
  have hlast : mX4_lastStep d σ = some (Int32.ofNat (zLast R)) := by
    unfold mX4_lastStep zLast
    rw [hL.2.1]
    by_cases c : R.2.1.1 = 0
    · rw [if_pos ((le_lit (v := 0) (m := 0) rfl (by omega) (by decide)).mpr (by omega)), if_pos c]; rfl
    · rw [if_neg (fun q => c (by have := (le_lit (v := 0) (m := 0) rfl (by omega) (by decide)).mp q; omega)), if_neg c, p1, if_pos a1, b1, if_neg (fun q => absurd ((oI_lt (by decide) (by omega)).mp q) (by omega)), oI_pr (by omega), if_pos (oI_inb (by omega) (by decide)), oI_cl (j := R.2.1.1 - 1) (by omega), (hL.2.2 _ (by omega)).1]
  have hlb : zLast R < 100000000 := by
    unfold zLast
    by_cases c : R.2.1.1 = 0
    · rw [if_pos c]; decide
    · rw [if_neg c]; exact (hR0.2.1 _ (by omega)).1
  rw [hlast, bnd_some, oI_s]
  obtain ⟨v, σ1, e1, x1, r1, v1⟩ := C_num (lo := zLast R + 1) (hi := 99999999) (p1 := 99999999) hn hb rfl rfl (by omega) (by decide) hC hR
  have hC1 := hC.se x1
  rw [stN_r] at r1
  obtain ⟨w, σ2, e2, x2, r2, w2⟩ := C_num (lo := 0) (hi := 10000) (p0 := 0) (p1 := 10000) hn hb rfl rfl (by decide) (by decide) hC1 r1
  have hC2 := hC1.se x2
  have hL2 := (hL.ex hd x1).ex hd x2
  have h22 := ((x1.tr x2).2.2.2.2.2 67 2 (by unfold SE; omega)).trans h2
  rw [e1, bd2_some, e2, bd2_some, hC1.2.1, if_pos hC2.2.2.1.2.2.1]
  obtain ⟨-, -, -, ⟨p1', p2', -, -⟩, ⟨a1', b1'⟩, ⟨a2', b2'⟩, -, -⟩ := hC2.2.2.1
  have eA : mX4_addStep d v w σ2 = some (wI (wI (wI σ2 (d + 1) R.2.1.1 v) (d + 2) R.2.1.1 w) d 6 (Int32.ofNat (R.2.1.1 + 1))) := by
    unfold mX4_addStep
    rw [p1', if_pos a1', b1', hL2.2.1, if_neg (fun q => absurd ((oI_le (by decide) (by omega)).mp q) (by omega)), if_pos (oI_inb (by omega) (by decide)), oI_cl (j := R.2.1.1) (by omega)]
    show (if sK (wI σ2 (d + 1) R.2.1.1 v) (sR (wI σ2 (d + 1) R.2.1.1 v) d 5) = 100 then if inb (sI (wI σ2 (d + 1) R.2.1.1 v) d 6) (sN (wI σ2 (d + 1) R.2.1.1 v) (sR (wI σ2 (d + 1) R.2.1.1 v) d 5)) then some (wI (wI (wI σ2 (d + 1) R.2.1.1 v) (sR (wI σ2 (d + 1) R.2.1.1 v) d 5) (sI (wI σ2 (d + 1) R.2.1.1 v) d 6).toNatClampNeg w) d 6 (sI (wI (wI σ2 (d + 1) R.2.1.1 v) (sR (wI σ2 (d + 1) R.2.1.1 v) d 5) (sI (wI σ2 (d + 1) R.2.1.1 v) d 6).toNatClampNeg w) d 6 + 1)) else none else none) = _
    have g6 : sI (wI σ2 (d + 1) R.2.1.1 v) d 6 = Int32.ofNat R.2.1.1 := by rw [sI_wI, if_neg (by omega)]; exact hL2.2.1
    rw [sR_wI, p2', sK_wI, if_pos a2', g6, sN_wI, b2', if_pos (oI_inb (by omega) (by decide)), oI_cl (j := R.2.1.1) (by omega), sI_wI, if_neg (by omega), g6, oI_s]
  rw [eA, bnd_some]
  have xw : Ex (SLw d) σ (wI (wI (wI σ2 (d + 1) R.2.1.1 v) (d + 2) R.2.1.1 w) d 6 (Int32.ofNat (R.2.1.1 + 1))) := ((((x1.tr x2).mono SE_SLw).w _ (Or.inr (Or.inr (Or.inl rfl)))).w _ (Or.inr (Or.inr (Or.inr (Or.inl rfl))))).w _ (Or.inr (Or.inl ⟨rfl, by decide, by decide⟩))
  have hCw : CE b n d (wI (wI (wI σ2 (d + 1) R.2.1.1 v) (d + 2) R.2.1.1 w) d 6 (Int32.ofNat (R.2.1.1 + 1))) := hC.sl xw
  have crw : ∀ t, CR b n d t σ2 → CR b n d t (wI (wI (wI σ2 (d + 1) R.2.1.1 v) (d + 2) R.2.1.1 w) d 6 (Int32.ofNat (R.2.1.1 + 1))) := fun t ht => ((ht.wr hd v (Or.inr (Or.inl rfl))).wr hd w (Or.inr (Or.inr rfl))).wr hd _ (Or.inl ⟨rfl, by decide⟩)
  refine ⟨_, rfl, xw, ?_⟩
  unfold zBody
  rw [if_neg (by decide), if_pos rfl]
  rcases zNum_l (k := zN b n 0 10000 2 (nx b n s) (.inr (nx b n (nx b n s), zSt R (nv b n s) (nv b n (nx b n s))))) (lands := lands) hC1 r1 with ⟨e, q1, q2⟩ | ⟨q1, q2⟩
  · rw [q1]
    refine ⟨hCw, crw _ ?_⟩
    unfold zNum at r1 r2
    unfold zN at q1
    by_cases c3 : tc b n s = 3
    · rw [if_pos c3] at r1 r2 q1
      by_cases c8 : 8 < tkE b n s - s
      · rw [if_pos c8] at r1 r2 q1; cases q1; exact r2
      · rw [if_neg c8] at r1 r2 q1
        by_cases c : nv b n s < zLast R + 1 ∨ 99999999 < nv b n s
        · rw [if_pos c] at r1 r2 q1; cases q1; exact r2
        · rw [if_neg c] at r1
          exact absurd (show sI σ1 67 4 = 0 from r1.2.2.1) q2.flt
    · rw [if_neg c3] at r1 r2 q1; cases q1; exact r2
  · rw [q1]
    have ez : zNum b n (zLast R + 1) 99999999 s R.2.2 = .inr (nx b n s, R.2.2) := by
      unfold zNum at r1 ⊢
      by_cases c3 : tc b n s = 3
      · rw [if_pos c3] at r1 ⊢
        by_cases c8 : 8 < tkE b n s - s
        · rw [if_pos c8] at r1; exact absurd (show sI σ1 67 4 = 0 from q2.2.2.1) r1.flt
        · rw [if_neg c8] at r1 ⊢
          by_cases c : nv b n s < zLast R + 1 ∨ 99999999 < nv b n s
          · rw [if_pos c] at r1; exact absurd (show sI σ1 67 4 = 0 from q2.2.2.1) r1.flt
          · rw [if_neg c]
      · rw [if_neg c3] at r1; exact absurd (show sI σ1 67 4 = 0 from q2.2.2.1) r1.flt
    rw [ez, stN_r] at r2
    have w2' := w2 (nx b n s) R.2.2 ez
    have v1' := v1 s R.2.2 rfl
    rcases zNum_l (k := .inr (nx b n (nx b n s), zSt R (nv b n s) (nv b n (nx b n s)))) (lands := lands) hC2 r2 with ⟨e, g1, g2⟩ | ⟨g1, g2⟩
    · rw [g1]; exact ⟨hCw, crw _ g2⟩
    · rw [g1]
      refine ⟨hCw, crw _ g2, ⟨fun k k1 k2 => ?_, ?_, fun j hj => ?_⟩, ?_⟩
      · rw [sI_wI, if_neg (by omega), sI_wI, if_neg (by omega), sI_wI, if_neg (by omega)]; exact hL2.1 k k1 k2
      · rw [sI_wI, if_pos ⟨rfl, rfl⟩]; rfl
      · have hj' : j < R.2.1.1 + 1 := hj
        show _ = Int32.ofNat (if j = R.2.1.1 then nv b n s else R.2.1.2.1 j) ∧ _ = Int32.ofNat (if j = R.2.1.1 then nv b n (nx b n s) else R.2.1.2.2 j)
        refine ⟨?_, ?_⟩
        · rw [sI_wI, if_neg (by omega), sI_wI, if_neg (by omega), sI_wI]
          by_cases c : j = R.2.1.1
          · rw [if_pos ⟨rfl, c⟩, if_pos c]; exact v1'
          · rw [if_neg (fun z => c z.2), if_neg c]; exact (hL2.2.2 j (by omega)).1
        · rw [sI_wI, if_neg (by omega), sI_wI]
          by_cases c : j = R.2.1.1
          · rw [if_pos ⟨rfl, c⟩, if_pos c]; exact w2'
          · rw [if_neg (fun z => c z.2), if_neg c, sI_wI, if_neg (by omega)]; exact (hL2.2.2 j (by omega)).2
      · rw [sI_wI, if_neg (by omega), sI_wI, if_neg (by omega), sI_wI, if_neg (by omega)]; exact h22
/-- a land that agrees -/
theorem C_agree {b : Nat → Nat} {n d lands s : Nat} {R : Zl} {σ : Sto} (hn : n ≤ 500) (hb : ∀ j, b j < 256) (hs : s ≤ n) (hl : 1 ≤ lands ∧ lands ≤ 6) (h : CL b n d lands s R σ) :
    ∃ σ', (if (sI σ 67 6) = (3 : Int32) then (
    if (8 : Int32) < (sI σ 67 10) then (
      mX7_readSetting_156 σ
    ) else (
      if (sI σ 67 9) < (sI σ 67 2) then (
        mX7_readSetting_156 σ
      ) else (
        (mX7_refuse (4 : Int32) σ).bind fun σ32 =>
        mX7_readSetting_156 σ32
      )
    )
  ) else (
    mX7_readSetting_156 σ
  )) = some σ' ∧ Ex (SLw d) σ σ' ∧ CZ b n d lands (zBody b n lands 7 s R) σ' := by
  obtain ⟨hC, hR, hL, h2⟩ := h
  have hd := hC.2.2.2
  obtain ⟨t6, t7, t8, t9, t10⟩ : TSC b n s σ := hR.2.1
  have hnv := nv_lt (b := b) hs
  have hE2 := (tkE_le (b := b) hs).2.1
  have run : ∀ t σ0, CE b n d σ0 → CR b n d t σ0 → RLw d R σ0 → sI σ0 67 2 = Int32.ofNat lands → ((∃ e, t = .inl e) ∨ t = .inr (s, R.2.2)) → ∃ σ', mX7_readSetting_156 σ0 = some σ' ∧ Ex (SLw d) σ0 σ' ∧ CE b n d σ' ∧ CR b n d (stN t (zNum b n 0 99999999)) σ' ∧ (t = .inr (s, R.2.2) → RLw d (zAg R (nv b n s)) σ' ∧ sI σ' 67 2 = Int32.ofNat lands) := fun t σ0 hC0 hR0 hL0 h20 ht => by
    obtain ⟨v, σ1, e1, x1, r1, v1⟩ := C_num (lo := 0) (hi := 99999999) (p0 := 0) (p1 := 99999999) hn hb rfl rfl (by decide) (by decide) hC0 hR0
    have hC1 := hC0.se x1
    unfold mX7_readSetting_156
    rw [e1, bd2_some, hC0.2.1, if_pos hC1.2.2.1.2.2.1]
    have hL1 := hL0.ex hd x1
    have xw : Ex (SLw d) σ0 (wI σ1 d 12 ((sI σ1 d 12) ||| ((1 : Int32) <<< (v &&& 31)))) := (x1.mono SE_SLw).w _ (Or.inr (Or.inl ⟨rfl, by decide, by decide⟩))
    refine ⟨_, rfl, xw, hC0.sl xw, r1.wr hd _ (Or.inl ⟨rfl, by decide⟩), fun q => ⟨⟨fun k k1 k2 => ?_, ?_, fun j hj => ?_⟩, ?_⟩⟩
    · show _ = if k = 12 then (R.1 12 ||| ((1 : Int32) <<< (Int32.ofNat (nv b n s) &&& 31))) else R.1 k
      rw [sI_wI, v1 s R.2.2 q]
      by_cases c : k = 12
      · rw [if_pos ⟨rfl, c⟩, if_pos c, hL1.1 12 (by decide) (by decide)]
      · rw [if_neg (fun z => c z.2), if_neg c]; exact hL1.1 k k1 k2
    · rw [sI_wI, if_neg (by omega)]; exact hL1.2.1
    · rw [sI_wI, if_neg (by omega), sI_wI, if_neg (by omega)]; exact hL1.2.2 j hj
    · rw [sI_wI, if_neg (by omega)]; exact (x1.2.2.2.2.2 67 2 (by unfold SE; omega)).trans h20
  rw [show zBody b n lands 7 s R = zN b n 0 (lands - 1) 4 s (.inr (nx b n s, zAg R (nv b n s))) from rfl, t6]
  have first : (tc b n s = 3 → 8 < tkE b n s - s ∨ nv b n s < lands) → ∃ σ', mX7_readSetting_156 σ = some σ' ∧ Ex (SLw d) σ σ' ∧ CZ b n d lands (zN b n 0 (lands - 1) 4 s (.inr (nx b n s, zAg R (nv b n s)))) σ' := fun hq => by
    obtain ⟨σ', e1, x1, c1, r1, l1⟩ := run _ σ hC hR hL h2 (Or.inr rfl)
    refine ⟨σ', e1, x1, ?_⟩
    rw [stN_r] at r1
    unfold zNum at r1
    unfold zN
    by_cases c3 : tc b n s = 3
    · rw [if_pos c3] at r1 ⊢
      by_cases c8 : 8 < tkE b n s - s
      · rw [if_pos c8] at r1 ⊢; exact ⟨c1, r1⟩
      · rw [if_neg c8, if_neg (by omega)] at r1
        have := (hq c3).resolve_left c8
        rw [if_neg c8, if_neg (by omega)]
        exact ⟨c1, r1, (l1 rfl).1, (l1 rfl).2⟩
    · rw [if_neg c3] at r1 ⊢; exact ⟨c1, r1⟩
  by_cases c3 : tc b n s = 3
  · rw [if_pos ((tcE (v := 3) hb rfl (by decide)).mpr c3), t10, if_pos c3]
    by_cases c8 : 8 < tkE b n s - s
    · rw [if_pos ((lit_lt (v := 8) (m := 8) rfl (by decide) (by omega)).mpr c8)]
      exact first (fun _ => Or.inl c8)
    · rw [if_neg (fun q => c8 ((lit_lt (v := 8) (m := 8) rfl (by decide) (by omega)).mp q)), t9, h2]
      by_cases cl : nv b n s < lands
      · rw [if_pos ((oI_lt (by omega) (by omega)).mpr cl)]
        exact first (fun _ => Or.inr cl)
      · rw [if_neg (fun q => cl ((oI_lt (by omega) (by omega)).mp q))]
        obtain ⟨σ1, e1, x1, r1⟩ := C_ref (b := b) (n := n) (d := d) (k := 4) (by decide) (by decide) _ σ hC hR
        have e1' : mX7_refuse 4 σ = some σ1 := e1
        rw [stN_r] at r1
        obtain ⟨σ', e2, x2, c2, r2, -⟩ := run _ σ1 (hC.se x1) r1 (hL.ex hd x1) ((x1.2.2.2.2.2 67 2 (by unfold SE; omega)).trans h2) (Or.inl ⟨_, rfl⟩)
        rw [e1', bnd_some]
        refine ⟨σ', e2, (x1.mono SE_SLw).tr x2, ?_⟩
        unfold zN
        rw [if_pos c3, if_neg c8, if_pos (by omega)]
        exact ⟨c2, r2⟩
  · rw [if_neg (fun q => c3 ((tcE (v := 3) hb rfl (by decide)).mp q))]
    exact first (fun q => absurd q c3)
