/-! the reference reads a whole text -/
theorem M_reads {b : Nat → Nat} {n lands li : Nat} (hn : n ≤ 500) (hb : ∀ j, b j < 256) (hl : 1 ≤ lands ∧ lands ≤ 6) (hli : li ≤ 12) : ∀ f ahead s R t ρ fuel, ahead + f = 17 → 1 ≤ f → f < fuel → LOK R → R.2.1.1 ≤ ahead → R.2.2.length ≤ s → ML b n lands li ahead ahead s R t ρ → ∃ ρ' cnt, mX12_reads_92 fuel (Int32.ofNat li) ρ = some ρ' ∧ Ey (SMl li) ρ ρ' ∧ cnt ≤ 17 ∧ MZ b n lands li cnt (zRead b n lands f ahead s R) ρ' := by
  intro f
  induction f with
  | zero => intro ahead s R t ρ fuel h1 h2; omega
  | succ f ih =>
    intro ahead s R t ρ fuel h1 h2 h3 hR0 hN hdl h
    obtain ⟨fu, rfl⟩ : ∃ q, fuel = q + 1 := ⟨fuel - 1, by omega⟩
    obtain ⟨hG, hcn, hM, ht, hla⟩ := id h
    have hT := hG.2.2.1
    show ∃ ρ' cnt, mX12_reads_92B (mX12_reads_92 fu) (Int32.ofNat li) ρ = some ρ' ∧ _ ∧ _ ∧ MZ b n lands li cnt (if tc b n s = 0 then .inr (s, R) else szN (zClause b n lands ahead s R) fun s' R' => zRead b n lands f (ahead + 1) s' R') ρ'
    unfold mX12_reads_92B
    rw [good_r hG.2.2.2.1, if_neg (by decide), hT.1]
    by_cases c : tc b n s = 0
    · rw [if_pos (tc_0.mpr c), if_pos c]
      exact ⟨ρ, ahead, rfl, Ey.rf, by omega, t, h⟩
    · rw [if_neg (fun q => c (tc_0.mp q)), if_neg c]
      obtain ⟨ρ1, e1, x1, z1⟩ := M_clause hn hb hl hli hR0 hN (by omega) h
      rw [e1, bnd_some]
      have hok := zClause_ok (b := b) (lands := lands) hG.2.1 hR0 hN hdl
      cases q : zClause b n lands ahead s R with
      | inl e =>
        rw [q] at z1
        obtain ⟨fu, rfl⟩ : ∃ q, fu = q + 1 := ⟨fu - 1, by omega⟩
        refine ⟨ρ1, 0, ?_, x1, by omega, z1⟩
        show mX12_reads_92B (mX12_reads_92 fu) (Int32.ofNat li) ρ1 = _
        unfold mX12_reads_92B
        rw [good_l z1.1 z1.2.1, if_pos rfl]
      | inr w =>
        obtain ⟨s', R'⟩ := w
        rw [q] at z1
        obtain ⟨t', z1⟩ := z1
        obtain ⟨k1, k2, k3, k4, k5⟩ := hok.2 s' R' q
        have h16 : ahead ≠ 16 := fun q2 => by
          obtain ⟨e, he⟩ := zClause_16 (b := b) (n := n) (lands := lands) (s := s) (R := R)
          rw [q2, he] at q
          cases q
        obtain ⟨ρ2, cnt, e2, x2, c2, z2⟩ := ih (ahead + 1) s' R' t' ρ1 fu (by omega) (by omega) (by omega) k3 k4 k5 z1
        exact ⟨ρ2, cnt, e2, x1.tr x2, c2, z2⟩
/-- what the reference's reading writes -/
def SRd (li x j : Nat) : Prop := (x = 81 ∧ ((39 ≤ j ∧ j ≤ 48) ∨ (51 ≤ j ∧ j ≤ 54))) ∨ (x = 126 ∧ 1210 * li ≤ j) ∨ x = 127 ∨ x = 128 ∨ (116 ≤ x ∧ x ≤ 123 ∧ j = li) ∨ (124 ≤ x ∧ x ≤ 125 ∧ 16 * li ≤ j ∧ j < 16 * li + 16)
theorem SMl_SRd {li : Nat} : ∀ x j, SMl li x j → SRd li x j := fun x j h => by unfold SMl at h; unfold SRd; omega
theorem M_read {b : Nat → Nat} {n lands li : Nat} {ρ : Sto} (hn : n ≤ 500) (hb : ∀ j, b j < 256) (hl : 1 ≤ lands ∧ lands ≤ 6) (hli : li ≤ 12) (hbt : ∀ j, j < 500 → sI ρ 111 j = Int32.ofNat (b j)) (h40 : sI ρ 81 40 = 0) (h41 : sI ρ 81 41 = -1) (h2 : sI ρ 81 2 = Int32.ofNat lands) :
    ∃ ρ' cnt, mX12_reads (Int32.ofNat li) (Int32.ofNat n) ρ = some ρ' ∧ Ey (SRd li) ρ ρ' ∧ cnt ≤ 17 ∧ MZ b n lands li cnt (zLaw b n lands) ρ' ∧ sI ρ' 81 39 = 0 := by
  have e0 : mX12_reads (Int32.ofNat li) (Int32.ofNat n) ρ = (mX12_goes (wI (wI (wI (wI (wI (wI (wI (wI (wI (wI (wI (wI (wI ρ 81 39 0) 81 42 (Int32.ofNat n)) 81 43 0) 81 51 (Int32.ofNat (1210 * li))) 81 54 0) 116 li 0) 117 li 0) 118 li 0) 119 li (-1)) 120 li 70) 121 li 300) 122 li 0) 123 li (-1))).bind fun σ15 => mX12_reads_92 FU (Int32.ofNat li) σ15 := by
    unfold mX12_reads
    simp only [stp]
    rw [if_pos (oI_inb (j := li) (n := 13) (by omega) (by decide)), oI_cl (j := li) (by omega), show (1210 : Int32) * Int32.ofNat li = Int32.ofNat (1210 * li) by rw [show (1210 : Int32) = Int32.ofNat 1210 from rfl, oI_mul]]
  have x : Ex (SRd li) ρ (wI (wI (wI (wI (wI (wI (wI (wI (wI (wI (wI (wI (wI ρ 81 39 0) 81 42 (Int32.ofNat n)) 81 43 0) 81 51 (Int32.ofNat (1210 * li))) 81 54 0) 116 li 0) 117 li 0) 118 li 0) 119 li (-1)) 120 li 70) 121 li 300) 122 li 0) 123 li (-1)) :=
    ((((((((((((Ex.rf.w (S := SRd li) _ (Or.inl ⟨rfl, Or.inl ⟨by decide, by decide⟩⟩)).w _ (Or.inl ⟨rfl, Or.inl ⟨by decide, by decide⟩⟩)).w _ (Or.inl ⟨rfl, Or.inl ⟨by decide, by decide⟩⟩)).w _ (Or.inl ⟨rfl, Or.inr ⟨by decide, by decide⟩⟩)).w _ (Or.inl ⟨rfl, Or.inr ⟨by decide, by decide⟩⟩)).w _ (Or.inr (Or.inr (Or.inr (Or.inr (Or.inl ⟨by decide, by decide, rfl⟩)))))).w _ (Or.inr (Or.inr (Or.inr (Or.inr (Or.inl ⟨by decide, by decide, rfl⟩)))))).w _ (Or.inr (Or.inr (Or.inr (Or.inr (Or.inl ⟨by decide, by decide, rfl⟩)))))).w _ (Or.inr (Or.inr (Or.inr (Or.inr (Or.inl ⟨by decide, by decide, rfl⟩)))))).w _ (Or.inr (Or.inr (Or.inr (Or.inr (Or.inl ⟨by decide, by decide, rfl⟩)))))).w _ (Or.inr (Or.inr (Or.inr (Or.inr (Or.inl ⟨by decide, by decide, rfl⟩)))))).w _ (Or.inr (Or.inr (Or.inr (Or.inr (Or.inl ⟨by decide, by decide, rfl⟩)))))).w _ (Or.inr (Or.inr (Or.inr (Or.inr (Or.inl ⟨by decide, by decide, rfl⟩)))))
  have v39 : sI (wI (wI (wI (wI (wI (wI (wI (wI (wI (wI (wI (wI (wI ρ 81 39 0) 81 42 (Int32.ofNat n)) 81 43 0) 81 51 (Int32.ofNat (1210 * li))) 81 54 0) 116 li 0) 117 li 0) 118 li 0) 119 li (-1)) 120 li 70) 121 li 300) 122 li 0) 123 li (-1)) 81 39 = 0 := rfl
  have v40 : sI (wI (wI (wI (wI (wI (wI (wI (wI (wI (wI (wI (wI (wI ρ 81 39 0) 81 42 (Int32.ofNat n)) 81 43 0) 81 51 (Int32.ofNat (1210 * li))) 81 54 0) 116 li 0) 117 li 0) 118 li 0) 119 li (-1)) 120 li 70) 121 li 300) 122 li 0) 123 li (-1)) 81 40 = 0 := h40
  have v41 : sI (wI (wI (wI (wI (wI (wI (wI (wI (wI (wI (wI (wI (wI ρ 81 39 0) 81 42 (Int32.ofNat n)) 81 43 0) 81 51 (Int32.ofNat (1210 * li))) 81 54 0) 116 li 0) 117 li 0) 118 li 0) 119 li (-1)) 120 li 70) 121 li 300) 122 li 0) 123 li (-1)) 81 41 = -1 := h41
  have v42 : sI (wI (wI (wI (wI (wI (wI (wI (wI (wI (wI (wI (wI (wI ρ 81 39 0) 81 42 (Int32.ofNat n)) 81 43 0) 81 51 (Int32.ofNat (1210 * li))) 81 54 0) 116 li 0) 117 li 0) 118 li 0) 119 li (-1)) 120 li 70) 121 li 300) 122 li 0) 123 li (-1)) 81 42 = Int32.ofNat n := rfl
  have v43 : sI (wI (wI (wI (wI (wI (wI (wI (wI (wI (wI (wI (wI (wI ρ 81 39 0) 81 42 (Int32.ofNat n)) 81 43 0) 81 51 (Int32.ofNat (1210 * li))) 81 54 0) 116 li 0) 117 li 0) 118 li 0) 119 li (-1)) 120 li 70) 121 li 300) 122 li 0) 123 li (-1)) 81 43 = Int32.ofNat 0 := rfl
  have v51 : sI (wI (wI (wI (wI (wI (wI (wI (wI (wI (wI (wI (wI (wI ρ 81 39 0) 81 42 (Int32.ofNat n)) 81 43 0) 81 51 (Int32.ofNat (1210 * li))) 81 54 0) 116 li 0) 117 li 0) 118 li 0) 119 li (-1)) 120 li 70) 121 li 300) 122 li 0) 123 li (-1)) 81 51 = Int32.ofNat (1210 * li) := rfl
  have v54 : sI (wI (wI (wI (wI (wI (wI (wI (wI (wI (wI (wI (wI (wI ρ 81 39 0) 81 42 (Int32.ofNat n)) 81 43 0) 81 51 (Int32.ofNat (1210 * li))) 81 54 0) 116 li 0) 117 li 0) 118 li 0) 119 li (-1)) 120 li 70) 121 li 300) 122 li 0) 123 li (-1)) 81 54 = Int32.ofNat 0 := rfl
  have vr : ∀ a, 116 ≤ a → a ≤ 123 → sI (wI (wI (wI (wI (wI (wI (wI (wI (wI (wI (wI (wI (wI ρ 81 39 0) 81 42 (Int32.ofNat n)) 81 43 0) 81 51 (Int32.ofNat (1210 * li))) 81 54 0) 116 li 0) 117 li 0) 118 li 0) 119 li (-1)) 120 li 70) 121 li 300) 122 li 0) 123 li (-1)) a li = if a = 119 ∨ a = 123 then -1 else if a = 120 then 70 else if a = 121 then 300 else 0 := fun a a1 a2 => by
    rcases (show a = 116 ∨ a = 117 ∨ a = 118 ∨ a = 119 ∨ a = 120 ∨ a = 121 ∨ a = 122 ∨ a = 123 by omega) with rfl | rfl | rfl | rfl | rfl | rfl | rfl | rfl <;> simp only [sI_wI, and_true, Nat.reduceEqDiff, if_true, if_false, or_false, false_or, or_true]
  rw [e0]
  generalize wI (wI (wI (wI (wI (wI (wI (wI (wI (wI (wI (wI (wI ρ 81 39 0) 81 42 (Int32.ofNat n)) 81 43 0) 81 51 (Int32.ofNat (1210 * li))) 81 54 0) 116 li 0) 117 li 0) 118 li 0) 119 li (-1)) 120 li 70) 121 li 300) 122 li 0) 123 li (-1) = τ at x v39 v40 v41 v42 v43 v51 v54 vr
  have kx := x.2.2.2.2.2
  have hEM : EM b n τ := ⟨v42, fun j hj => (kx 111 j (by unfold SRd; omega)).trans (hbt j hj)⟩
  obtain ⟨ρ1, e1, x1, t1⟩ := M_nxt_l hn hb n 0 FU τ (by omega) (show n < 5000 by omega) hEM v43
  have k1 := x1.2.2.2.2.2
  have hrn := rn_b (P := bkB b) (n := n) n 0 (by omega)
  have g : ∀ a j, ¬ S43 a j → sI ρ1 a j = sI τ a j := fun a j h => k1 a j h
  have hML : ML b n lands li 0 0 (rn (bkB b) n 0) zBlank (1210 * li) ρ1 := by
    refine ⟨⟨hEM.ey x1 S43_em, hrn.2.1, t1, (g 81 40 (by unfold S43; omega)).trans v40, (g 81 41 (by unfold S43; omega)).trans v41, (g 81 51 (by unfold S43; omega)).trans v51⟩, (g 81 54 (by unfold S43; omega)).trans v54, ⟨fun k k1 k2 => ?_, ?_, fun j hj => absurd hj (Nat.not_lt_zero j), Or.inl ⟨rfl, ?_⟩⟩, ⟨Nat.le_refl _, by omega⟩, ?_⟩
    · rw [g _ _ (by unfold S43; omega), vr _ (by omega) (by omega)]
      show _ = if k = 9 then -1 else if k = 10 then 70 else if k = 11 then 300 else 0
      rcases (show k = 7 ∨ k = 8 ∨ k = 9 ∨ k = 10 ∨ k = 11 ∨ k = 12 by omega) with rfl | rfl | rfl | rfl | rfl | rfl <;> rfl
    · rw [g _ _ (by unfold S43; omega), vr _ (by omega) (by omega)]; rfl
    · rw [g _ _ (by unfold S43; omega), vr _ (by omega) (by omega)]; rfl
    · rw [g _ _ (by unfold S43; omega)]; exact (kx 81 2 (by unfold SRd; omega)).trans h2
  obtain ⟨ρ2, cnt, e2, x2, c2, z2⟩ := M_reads hn hb hl hli 17 0 (rn (bkB b) n 0) zBlank (1210 * li) ρ1 FU rfl (by decide) (by decide) LOK_blank (Nat.le_refl 0) (Nat.zero_le _) hML
  have e1' : mX12_goes τ = some ρ1 := e1
  rw [e1', bnd_some]
  refine ⟨ρ2, cnt, e2, (x.ey.tr (x1.mono fun a j z => by unfold S43 at z; unfold SRd; omega)).tr (x2.mono SMl_SRd), c2, z2, ?_⟩
  rw [x2.2.2.2.2.2 81 39 (by unfold SMl; omega), g 81 39 (by unfold S43; omega), v39]
