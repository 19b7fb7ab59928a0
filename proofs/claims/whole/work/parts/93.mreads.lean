/-! the reference reads a whole text: clause by clause -/
/-- a step -/
theorem M_stepz {b : Nat → Nat} {n lands li cnt c s t : Nat} {R : Zl} {ρ : Sto} (hn : n ≤ 500) (hb : ∀ j, b j < 256) (hli : li ≤ 12) (hc : c ≤ cnt) (hR0 : LOK R) (hN : R.2.1.1 < 16) (h : ML b n lands li cnt c s R t ρ) :
    ∃ ρ', mX12_step (Int32.ofNat li) ρ = some ρ' ∧ Ey (SMl li) ρ ρ' ∧ MZ b n lands li cnt (zBody b n lands 1 s R) ρ' := by
  obtain ⟨hG, hcn, hM, ht, hla⟩ := h
  have hlb : zLast R < 100000000 := by
    unfold zLast
    by_cases c : R.2.1.1 = 0
    · rw [if_pos c]; decide
    · rw [if_neg c]; exact (hR0.2.1 _ (by omega)).1
  have eat : (16 : Int32) * Int32.ofNat li + sI ρ 116 li = Int32.ofNat (16 * li + R.2.1.1) := by
    rw [hM.2.1, show (16 : Int32) = Int32.ofNat 16 from rfl, oI_mul, oI_add]
  have e33 : mX12_step (Int32.ofNat li) ρ = mX12_step_33 (Int32.ofNat li) (Int32.ofNat (16 * li + R.2.1.1)) (Int32.ofNat (zLast R)) ρ := by
    unfold mX12_step zLast
    rw [if_pos (oI_inb (by omega) (by decide)), oI_cl (j := li) (by omega), eat, hM.2.1]
    by_cases c : R.2.1.1 = 0
    · rw [if_pos (show Int32.ofNat R.2.1.1 = 0 by rw [c]; rfl), if_pos c]; rfl
    · rw [if_neg (fun q => c ((eq_lit (v := 0) (m := 0) rfl (by omega) (by decide)).mp q)), if_neg c, oI_pr (by omega), if_pos (oI_inb (by omega) (by decide)), oI_cl (j := 16 * li + R.2.1.1 - 1) (by omega), show 16 * li + R.2.1.1 - 1 = 16 * li + (R.2.1.1 - 1) by omega, (hM.2.2.1 _ (by omega)).1]
  rw [e33]
  unfold mX12_step_33
  rw [oI_s]
  obtain ⟨v, ρ1, e1, x1, r1⟩ := M_num (lo := zLast R + 1) (hi := 99999999) (fl := 2) (p1 := 99999999) (p2 := 2) hn hb rfl rfl rfl (by omega) (by decide) ⟨by decide, by decide⟩ hG
  have kx := x1.2.2.2.2.2
  rw [e1, bd2_some, if_pos (oI_inb (by omega) (by decide)), oI_cl (j := 16 * li + R.2.1.1) (by omega)]
  have xw : Ex (fun a j => a = 124 ∧ j = 16 * li + R.2.1.1) ρ1 (wI ρ1 124 (16 * li + R.2.1.1) v) := Ex.rf.w (S := fun a j => a = 124 ∧ j = 16 * li + R.2.1.1) _ ⟨rfl, rfl⟩
  have kw := xw.2.2.2.2.2
  have yw : Ey (SMl li) ρ (wI ρ1 124 (16 * li + R.2.1.1) v) := (x1.mono S41_SMl).w _ (Or.inr (Or.inr (Or.inr (Or.inr (Or.inr ⟨by decide, by decide, by omega, by omega⟩)))))
  have eb : zBody b n lands 1 s R = zN b n (zLast R + 1) 99999999 2 s (zN b n 0 10000 2 (nx b n s) (.inr (nx b n (nx b n s), zSt R (nv b n s) (nv b n (nx b n s))))) := rfl
  rw [eb]
  have last : ∀ (w : Int32) ρ2, sI ρ2 116 li = Int32.ofNat R.2.1.1 → (stp (wI ρ2 125 (16 * li + R.2.1.1) w) fun σ8 => if inb (Int32.ofNat li) 13 then stp (wI σ8 116 (Int32.ofNat li).toNatClampNeg ((sI σ8 116 (Int32.ofNat li).toNatClampNeg) + (1 : Int32))) fun σ10 => some σ10 else none) = some (wI (wI ρ2 125 (16 * li + R.2.1.1) w) 116 li (Int32.ofNat (R.2.1.1 + 1))) := fun w ρ2 h2 => by
    show (if inb (Int32.ofNat li) 13 then some (wI (wI ρ2 125 (16 * li + R.2.1.1) w) 116 (Int32.ofNat li).toNatClampNeg ((sI (wI ρ2 125 (16 * li + R.2.1.1) w) 116 (Int32.ofNat li).toNatClampNeg) + 1)) else none) = _
    rw [if_pos (oI_inb (by omega) (by decide)), oI_cl (j := li) (by omega), sI_wI, if_neg (by omega), h2, oI_s]
  have yl : ∀ (w : Int32) ρ2, Ey (SMl li) ρ ρ2 → Ey (SMl li) ρ (wI (wI ρ2 125 (16 * li + R.2.1.1) w) 116 li (Int32.ofNat (R.2.1.1 + 1))) := fun w ρ2 y => (y.w _ (Or.inr (Or.inr (Or.inr (Or.inr (Or.inr ⟨by decide, by decide, by omega, by omega⟩)))))).w _ (Or.inr (Or.inr (Or.inr (Or.inr (Or.inl ⟨by decide, by decide, rfl⟩)))))
  have n1 : sI (wI ρ1 124 (16 * li + R.2.1.1) v) 116 li = Int32.ofNat R.2.1.1 := by rw [sI_wI, if_neg (by omega)]; exact (kx 116 li (by unfold S41; omega)).trans hM.2.1
  have fl : ∀ (w : Int32) ρ2 kk p, sI ρ2 81 40 = Int32.ofNat kk → sI ρ2 81 41 = Int32.ofNat p → sI (wI (wI ρ2 125 (16 * li + R.2.1.1) w) 116 li (Int32.ofNat (R.2.1.1 + 1))) 81 40 = Int32.ofNat kk ∧ sI (wI (wI ρ2 125 (16 * li + R.2.1.1) w) 116 li (Int32.ofNat (R.2.1.1 + 1))) 81 41 = Int32.ofNat p := fun w ρ2 kk p q1 q2 => ⟨by rw [sI_wI, if_neg (by omega), sI_wI, if_neg (by omega)]; exact q1, by rw [sI_wI, if_neg (by omega), sI_wI, if_neg (by omega)]; exact q2⟩
  rcases r1 with ⟨kk, p, z1, z2, z3, z4⟩ | ⟨z1, z2, z3, z4⟩
  · have z3' : sI (wI ρ1 124 (16 * li + R.2.1.1) v) 81 40 = Int32.ofNat kk := by rw [sI_wI, if_neg (by omega)]; exact z3
    have z4' : sI (wI ρ1 124 (16 * li + R.2.1.1) v) 81 41 = Int32.ofNat p := by rw [sI_wI, if_neg (by omega)]; exact z4
    show ∃ ρ', (bd2 (mX12_number 0 10000 2 (wI ρ1 124 (16 * li + R.2.1.1) v)) fun v7 σ7 => (stp (wI σ7 125 (16 * li + R.2.1.1) v7) fun σ8 => if inb (Int32.ofNat li) 13 then stp (wI σ8 116 (Int32.ofNat li).toNatClampNeg ((sI σ8 116 (Int32.ofNat li).toNatClampNeg) + (1 : Int32))) fun σ10 => some σ10 else none)) = some ρ' ∧ _
    rw [M_num_f z2 z3', bd2_some, last 0 _ n1, z1]
    exact ⟨_, rfl, yl 0 _ yw, z2, (fl 0 _ kk p z3' z4').1, (fl 0 _ kk p z3' z4').2⟩
  · have hGw : MG b n (nx b n s) t (0, -1) (wI ρ1 124 (16 * li + R.2.1.1) v) := z3.ey xw (fun a j z => by omega)
    obtain ⟨w, ρ2, e2, x2, r2⟩ := M_num (lo := 0) (hi := 10000) (fl := 2) (p0 := 0) (p1 := 10000) (p2 := 2) hn hb rfl rfl rfl (by decide) (by decide) ⟨by decide, by decide⟩ hGw
    have kx2 := x2.2.2.2.2.2
    have n2 : sI ρ2 116 li = Int32.ofNat R.2.1.1 := (kx2 116 li (by unfold S41; omega)).trans n1
    have y2 := yw.tr (x2.mono (S41_SMl (li := li)))
    show ∃ ρ', (bd2 (mX12_number 0 10000 2 (wI ρ1 124 (16 * li + R.2.1.1) v)) fun v7 σ7 => (stp (wI σ7 125 (16 * li + R.2.1.1) v7) fun σ8 => if inb (Int32.ofNat li) 13 then stp (wI σ8 116 (Int32.ofNat li).toNatClampNeg ((sI σ8 116 (Int32.ofNat li).toNatClampNeg) + (1 : Int32))) fun σ10 => some σ10 else none)) = some ρ' ∧ _
    rw [e2, bd2_some, last w _ n2, z1]
    refine ⟨_, rfl, yl w _ y2, ?_⟩
    rcases r2 with ⟨kk, p, g1, g2, g3, g4⟩ | ⟨g1, g2, g3, g4⟩
    · rw [g1]
      exact ⟨g2, (fl w _ kk p g3 g4).1, (fl w _ kk p g3 g4).2⟩
    · rw [g1]
      have xl : Ex (fun a j => (a = 125 ∧ j = 16 * li + R.2.1.1) ∨ (a = 116 ∧ j = li)) ρ2 (wI (wI ρ2 125 (16 * li + R.2.1.1) w) 116 li (Int32.ofNat (R.2.1.1 + 1))) := (Ex.rf.w (S := fun a j => (a = 125 ∧ j = 16 * li + R.2.1.1) ∨ (a = 116 ∧ j = li)) _ (Or.inl ⟨rfl, rfl⟩)).w _ (Or.inr ⟨rfl, rfl⟩)
      have kl := xl.2.2.2.2.2
      have g : ∀ a j, ¬ S41 a j → ¬ (a = 124 ∧ j = 16 * li + R.2.1.1) → ¬ ((a = 125 ∧ j = 16 * li + R.2.1.1) ∨ (a = 116 ∧ j = li)) → sI (wI (wI ρ2 125 (16 * li + R.2.1.1) w) 116 li (Int32.ofNat (R.2.1.1 + 1))) a j = sI ρ a j := fun a j q1 q2 q3 => (kl a j q3).trans ((kx2 a j q1).trans ((kw a j q2).trans (kx a j q1)))
      have ht2 := ht.2
      refine ⟨t, g3.ey xl (fun a j z => by omega), (g 81 54 (by unfold S41; omega) (by omega) (by omega)).trans hcn, ⟨fun k k1 k2 => (g _ _ (by unfold S41; omega) (by omega) (by omega)).trans (hM.1 k k1 k2), by rw [sI_wI, if_pos ⟨rfl, rfl⟩]; rfl, fun j hj => ?_, ?_⟩, ⟨ht.1, by show t ≤ 1210 * li + cnt + 2 * nx b n (nx b n s); omega⟩, (g 81 2 (by unfold S41; omega) (by omega) (by omega)).trans hla⟩
      · have hj' : j < R.2.1.1 + 1 := hj
        show _ = Int32.ofNat (if j = R.2.1.1 then nv b n s else R.2.1.2.1 j) ∧ _ = Int32.ofNat (if j = R.2.1.1 then nv b n (nx b n s) else R.2.1.2.2 j)
        refine ⟨?_, ?_⟩
        · by_cases c : j = R.2.1.1
          · rw [if_pos c, kl 124 _ (by omega), kx2 124 _ (by unfold S41; omega), c, sI_wI, if_pos ⟨rfl, rfl⟩]; exact z2
          · rw [if_neg c, g 124 _ (by unfold S41; omega) (by omega) (by omega)]; exact (hM.2.2.1 j (by omega)).1
        · by_cases c : j = R.2.1.1
          · rw [if_pos c, sI_wI, if_neg (by omega), c, sI_wI, if_pos ⟨rfl, rfl⟩]; exact g2
          · rw [if_neg c, g 125 _ (by unfold S41; omega) (by omega) (by omega)]; exact (hM.2.2.1 j (by omega)).2
      · rcases hM.2.2.2 with ⟨d1, d2⟩ | ⟨q, d1, d2, d3, d4⟩
        · exact Or.inl ⟨d1, (g 123 li (by unfold S41; omega) (by omega) (by omega)).trans d2⟩
        · exact Or.inr ⟨q, d1, d2, (g 123 li (by unfold S41; omega) (by omega) (by omega)).trans d3, d4.congr fun i _ _ => g 126 i (by unfold S41; omega) (by omega) (by omega)⟩
theorem M_clause {b : Nat → Nat} {n lands li ahead s t : Nat} {R : Zl} {ρ : Sto} (hn : n ≤ 500) (hb : ∀ j, b j < 256) (hla : 1 ≤ lands ∧ lands ≤ 6) (hli : li ≤ 12) (hR0 : LOK R) (hN : R.2.1.1 ≤ ahead) (ha : ahead ≤ 16) (h : ML b n lands li ahead ahead s R t ρ) : ∃ ρ', mX12_clause (Int32.ofNat li) ρ = some ρ' ∧ Ey (SMl li) ρ ρ' ∧ MZ b n lands li (ahead + 1) (zClause b n lands ahead s R) ρ' := by
  obtain ⟨hG, hcn, hM, ht, hl2⟩ := id h
  have hs : s ≤ n := hG.2.1
  have hT : TSM b n s ρ := hG.2.2.1
  have hwb := wd_b b n s
  have g34 : ∀ k p ρ1, (1 ≤ k ∧ k ≤ 4) → Ey S41 ρ ρ1 → sI ρ1 81 40 = Int32.ofNat k → sI ρ1 81 41 = Int32.ofNat p → ∀ x2, mX12_clause_34 (Int32.ofNat li) x2 ρ1 = some ρ1 ∧ mX12_clause_20 (Int32.ofNat li) x2 ρ1 = some ρ1 := fun k p ρ1 hk x1 w1 w2 x2 => by
    have e34 : mX12_clause_34 (Int32.ofNat li) x2 ρ1 = some ρ1 := by
      unfold mX12_clause_34
      rw [good_l hk w1, if_pos rfl]
    have ew : mX12_wrong 2 ρ1 = some ρ1 := by
      unfold mX12_wrong
      rw [w1, if_neg (fun q => by
        have := (oI_eq (j := k) (n := 0) (by omega) (by decide)).mp q
        omega)]
    refine ⟨e34, ?_⟩
    unfold mX12_clause_20
    rw [ew, bnd_some, e34, ite_self]
  unfold mX12_clause zClause
  rw [M_kword hn hs hT, bnd_some]
  by_cases c : wd b n s < 8
  · rw [if_neg (show ¬ wd b n s = 99 by omega), if_neg (oI_nn (by omega)), if_pos ((le_lit (v := 7) (m := 7) rfl (by omega) (by decide)).mpr (by omega)), if_pos c]
    unfold mX12_clause_20
    rw [hcn]
    by_cases c16 : ahead = 16
    · rw [if_pos (show Int32.ofNat ahead = 16 by rw [c16]; rfl), if_pos c16]
      obtain ⟨ρ1, e1, x1, w1, w2⟩ := hG.wrong (k := 2) (v := 2) rfl
      rw [e1, bnd_some, (g34 2 s ρ1 ⟨by decide, by decide⟩ x1 w1 w2 _).1]
      exact ⟨ρ1, rfl, x1.mono S41_SMl, ⟨by show 1 ≤ 2; decide, by show 2 ≤ 4; decide⟩, w1, w2⟩
    · rw [if_neg (fun q => c16 ((eq_lit (v := 16) (m := 16) rfl (by omega) (by decide)).mp q)), if_neg c16]
      have xw : Ex (fun a j => a = 81 ∧ j = 54) ρ (wI ρ 81 54 (Int32.ofNat (ahead + 1))) := Ex.rf.w (S := fun a j => a = 81 ∧ j = 54) _ ⟨rfl, rfl⟩
      have kw := xw.2.2.2.2.2
      obtain ⟨ρ2, e2, x2, m2⟩ := (hG.ey xw (fun a j z => by omega)).goes hn hb
      have k2 := x2.2.2.2.2.2
      have hle := (nx_le (b := b) (n := n) hs).1
      have y2 : Ey (SMl li) ρ ρ2 := (xw.ey.mono fun a j z => by unfold SMl; omega).tr ((x2.mono S43_S41).mono S41_SMl)
      have g1 : ML b n lands li (ahead + 1) ahead (nx b n s) R t ρ2 := by
        have ht2 := ht.2
        refine ⟨m2, (k2 81 54 (by unfold S43; omega)).trans (by rw [sI_wI, if_pos ⟨rfl, rfl⟩]), hM.fr (Nat.le_refl _) (fun a a1 a2 => (k2 a li (by unfold S43; omega)).trans (kw a li (by omega))) (fun a a1 a2 j _ => (k2 a _ (by unfold S43; omega)).trans (kw a _ (by omega))) (fun j _ => (k2 126 j (by unfold S43; omega)).trans (kw 126 j (by omega))), ⟨ht.1, by omega⟩, ((k2 81 2 (by unfold S43; omega)).trans (kw 81 2 (by omega))).trans hl2⟩
      have fin : ∀ ρ3, Ey (SMl li) ρ2 ρ3 → MZ b n lands li (ahead + 1) (zBody b n lands (wd b n s) (nx b n s) R) ρ3 → ∃ ρ', mX12_clause_225 ρ3 = some ρ' ∧ Ey (SMl li) ρ ρ' ∧ MZ b n lands li (ahead + 1) (szN (zBody b n lands (wd b n s) (nx b n s) R) (zSemi b n)) ρ' := fun ρ3 y3 z3 => by
        obtain ⟨ρ4, e4, y4, z4⟩ := M_semi hn hb z3
        exact ⟨ρ4, e4, (y2.tr y3).tr y4, z4⟩
      have e34 : ∀ x2, mX12_clause_34 (Int32.ofNat li) x2 ρ = (fun σ8 => if x2 = 0 then (
      bd2 (mX12_expression σ8) fun v41 σ41 =>
      if inb (Int32.ofNat li) 13 then
      stp (wI σ41 123 ((Int32.ofNat li)).toNatClampNeg v41) fun σ43 =>
      mX12_clause_225 σ43
      else none
    ) else (
      if x2 = (1 : Int32) then (
        (mX12_step (Int32.ofNat li) σ8).bind fun σ40 =>
        mX12_clause_225 σ40
      ) else (
        if x2 = (2 : Int32) then (
          bd2 (mX12_number (0 : Int32) (10000 : Int32) (2 : Int32) σ8) fun v37 σ37 =>
          if inb (Int32.ofNat li) 13 then
          stp (wI σ37 117 ((Int32.ofNat li)).toNatClampNeg v37) fun σ39 =>
          mX12_clause_225 σ39
          else none
        ) else (
          if x2 = (3 : Int32) then (
            bd2 (mX12_number (0 : Int32) (99999999 : Int32) (2 : Int32) σ8) fun v34 σ34 =>
            if inb (Int32.ofNat li) 13 then
            stp (wI σ34 118 ((Int32.ofNat li)).toNatClampNeg v34) fun σ36 =>
            mX12_clause_225 σ36
            else none
          ) else (
            if x2 = (4 : Int32) then (
              bd2 (mX12_number (0 : Int32) (99999999 : Int32) (2 : Int32) σ8) fun v31 σ31 =>
              if inb (Int32.ofNat li) 13 then
              stp (wI σ31 119 ((Int32.ofNat li)).toNatClampNeg v31) fun σ33 =>
              mX12_clause_225 σ33
              else none
            ) else (
              if x2 = (5 : Int32) then (
                bd2 (mX12_number (0 : Int32) (200 : Int32) (2 : Int32) σ8) fun v28 σ28 =>
                if inb (Int32.ofNat li) 13 then
                stp (wI σ28 120 ((Int32.ofNat li)).toNatClampNeg v28) fun σ30 =>
                mX12_clause_225 σ30
                else none
              ) else (
                if x2 = (6 : Int32) then (
                  bd2 (mX12_number (0 : Int32) (99999999 : Int32) (2 : Int32) σ8) fun v25 σ25 =>
                  if inb (Int32.ofNat li) 13 then
                  stp (wI σ25 121 ((Int32.ofNat li)).toNatClampNeg v25) fun σ27 =>
                  mX12_clause_225 σ27
                  else none
                ) else (
                  if inb (Int32.ofNat li) 13 then
                  bd2 (mX12_number (0 : Int32) ((sI σ8 81 2) - (1 : Int32)) (4 : Int32) σ8) fun v17 σ17 =>
                  stp (wI σ17 122 ((Int32.ofNat li)).toNatClampNeg ((sI σ8 122 ((Int32.ofNat li)).toNatClampNeg) ||| ((1 : Int32) <<< (v17 &&& 31)))) fun σ18 =>
                  mX12_clause_225 σ18
                  else none
                )
              )
            )
          )
        )
      )
    )) ρ2 := fun x2 => by
        unfold mX12_clause_34
        rw [good_r hG.2.2.2.1, if_neg (by decide), hcn, oI_s]
        simp only [stp]
        rw [e2, bnd_some]
      have hin : inb (Int32.ofNat li) 13 := oI_inb (by omega) (by decide)
      have hcl : (Int32.ofNat li).toNatClampNeg = li := oI_cl (by omega)
      rw [e34]
      show ∃ ρ', (if Int32.ofNat (wd b n s) = 0 then _ else _) = some ρ' ∧ _
      have tail : ∀ k hi (p1 : Int32), p1 = Int32.ofNat hi → hi < 200000000 → 7 ≤ k → k ≤ 11 → zBody b n lands (wd b n s) (nx b n s) R = zN b n 0 hi 2 (nx b n s) (.inr (nx b n (nx b n s), zUp R k (Int32.ofNat (nv b n (nx b n s))))) → ∃ ρ', (bd2 (mX12_number (0 : Int32) p1 (2 : Int32) ρ2) fun v37 σ37 =>
          if inb (Int32.ofNat li) 13 then
          stp (wI σ37 (110 + k) ((Int32.ofNat li)).toNatClampNeg v37) fun σ39 =>
          mX12_clause_225 σ39
          else none) = some ρ' ∧ Ey (SMl li) ρ ρ' ∧ MZ b n lands li (ahead + 1) (szN (zBody b n lands (wd b n s) (nx b n s) R) (zSemi b n)) ρ' := fun k hi p1 hp hh k1 k2' hz => by
        obtain ⟨v, ρ3, e3, x3, y3, z3⟩ := M_set (lo := 0) (hi := hi) (fl := 2) (p0 := 0) (p1 := p1) (p2 := 2) (k := k) hn hb rfl hp rfl (by decide) hh ⟨by decide, by decide⟩ ⟨k1, by omega⟩ (Nat.le_succ ahead) (fun v => v) g1
        obtain ⟨ρ4, f4⟩ := fin _ y3 (by rw [hz]; exact z3)
        rw [e3, bd2_some, if_pos hin, hcl]
        exact ⟨ρ4, f4⟩
      rcases (show wd b n s = 0 ∨ wd b n s = 1 ∨ wd b n s = 2 ∨ wd b n s = 3 ∨ wd b n s = 4 ∨ wd b n s = 5 ∨ wd b n s = 6 ∨ wd b n s = 7 by omega) with q | q | q | q | q | q | q | q
      · rw [q, if_pos (show Int32.ofNat 0 = 0 from rfl)]
        obtain ⟨v, ρ3, e3, y3, z3⟩ := M_due hn hb hli rfl (by omega) g1
        obtain ⟨ρ4, f4⟩ := fin _ y3 (by rw [q]; exact z3)
        rw [e3, bd2_some, if_pos hin, hcl]
        rw [q] at f4
        exact ⟨ρ4, f4⟩
      · rw [q, if_neg (show ¬ Int32.ofNat 1 = 0 by decide), if_pos (show Int32.ofNat 1 = 1 from rfl)]
        obtain ⟨ρ3, e3, y3, z3⟩ := M_stepz hn hb hli (Nat.le_succ ahead) hR0 (by omega) g1
        obtain ⟨ρ4, f4⟩ := fin _ y3 (by rw [q]; exact z3)
        rw [e3, bnd_some]
        rw [q] at f4
        exact ⟨ρ4, f4⟩
      · have T := tail 7 10000 10000 rfl (by decide) (by decide) (by decide) (by rw [q]; rfl)
        rw [q] at T ⊢
        rw [if_neg (show ¬ Int32.ofNat 2 = 0 by decide), if_neg (show ¬ Int32.ofNat 2 = 1 by decide), if_pos (show Int32.ofNat 2 = 2 from rfl)]
        exact T
      · have T := tail 8 99999999 99999999 rfl (by decide) (by decide) (by decide) (by rw [q]; rfl)
        rw [q] at T ⊢
        rw [if_neg (show ¬ Int32.ofNat 3 = 0 by decide), if_neg (show ¬ Int32.ofNat 3 = 1 by decide), if_neg (show ¬ Int32.ofNat 3 = 2 by decide), if_pos (show Int32.ofNat 3 = 3 from rfl)]
        exact T
      · have T := tail 9 99999999 99999999 rfl (by decide) (by decide) (by decide) (by rw [q]; rfl)
        rw [q] at T ⊢
        rw [if_neg (show ¬ Int32.ofNat 4 = 0 by decide), if_neg (show ¬ Int32.ofNat 4 = 1 by decide), if_neg (show ¬ Int32.ofNat 4 = 2 by decide), if_neg (show ¬ Int32.ofNat 4 = 3 by decide), if_pos (show Int32.ofNat 4 = 4 from rfl)]
        exact T
      · have T := tail 10 200 200 rfl (by decide) (by decide) (by decide) (by rw [q]; rfl)
        rw [q] at T ⊢
        rw [if_neg (show ¬ Int32.ofNat 5 = 0 by decide), if_neg (show ¬ Int32.ofNat 5 = 1 by decide), if_neg (show ¬ Int32.ofNat 5 = 2 by decide), if_neg (show ¬ Int32.ofNat 5 = 3 by decide), if_neg (show ¬ Int32.ofNat 5 = 4 by decide), if_pos (show Int32.ofNat 5 = 5 from rfl)]
        exact T
      · have T := tail 11 99999999 99999999 rfl (by decide) (by decide) (by decide) (by rw [q]; rfl)
        rw [q] at T ⊢
        rw [if_neg (show ¬ Int32.ofNat 6 = 0 by decide), if_neg (show ¬ Int32.ofNat 6 = 1 by decide), if_neg (show ¬ Int32.ofNat 6 = 2 by decide), if_neg (show ¬ Int32.ofNat 6 = 3 by decide), if_neg (show ¬ Int32.ofNat 6 = 4 by decide), if_neg (show ¬ Int32.ofNat 6 = 5 by decide), if_pos (show Int32.ofNat 6 = 6 from rfl)]
        exact T
      · have hR12 : sI ρ2 122 li = R.1 12 := g1.2.2.1.1 12 (by decide) (by decide)
        have hl3 : sI ρ2 81 2 - 1 = Int32.ofNat (lands - 1) := by rw [g1.2.2.2.2, oI_pr hla.1]
        obtain ⟨v, ρ3, e3, x3, y3, z3⟩ := M_set (lo := 0) (hi := lands - 1) (fl := 4) (p0 := 0) (p2 := 4) (k := 12) hn hb rfl hl3 rfl (by decide) (by omega) ⟨by decide, by decide⟩ ⟨by decide, by decide⟩ (Nat.le_succ ahead) (fun v => R.1 12 ||| ((1 : Int32) <<< (v &&& 31))) g1
        obtain ⟨ρ4, f4⟩ := fin _ y3 (by rw [q]; exact z3)
        rw [q] at f4 ⊢
        rw [if_neg (show ¬ Int32.ofNat 7 = 0 by decide), if_neg (show ¬ Int32.ofNat 7 = 1 by decide), if_neg (show ¬ Int32.ofNat 7 = 2 by decide), if_neg (show ¬ Int32.ofNat 7 = 3 by decide), if_neg (show ¬ Int32.ofNat 7 = 4 by decide), if_neg (show ¬ Int32.ofNat 7 = 5 by decide), if_neg (show ¬ Int32.ofNat 7 = 6 by decide), if_pos hin, e3, bd2_some, hcl, hR12]
        exact ⟨ρ4, f4⟩
  · rw [if_neg c]
    obtain ⟨ρ1, e1, x1, w1, w2⟩ := hG.wrong (k := 1) (v := 1) rfl
    have e15 : ∀ x2, mX12_clause_15 (Int32.ofNat li) x2 ρ = some ρ1 := fun x2 => by
      unfold mX12_clause_15
      rw [e1, bnd_some, (g34 1 s ρ1 ⟨by decide, by decide⟩ x1 w1 w2 x2).2]
    refine ⟨ρ1, ?_, x1.mono S41_SMl, ⟨Nat.le_refl 1, by show 1 ≤ 4; decide⟩, w1, w2⟩
    by_cases c9 : wd b n s = 99
    · rw [if_pos c9, if_pos (by decide), e15]
    · rw [if_neg c9, if_neg (oI_nn (by omega)), if_neg (fun q => absurd ((le_lit (v := 7) (m := 7) rfl (by omega) (by decide)).mp q) (by omega)), e15]
