/-! the reference reads an EXPR -/
def poI (d : Nat) : Sto → Sto → Nat → Prop := fun ρ ρ' _ => T8 (d + 1) ρ ρ'
def poO (b : Nat → Nat) (n d : Nat) : Sto → Sto → Nat → Prop := fun ρ ρ' s' => T8 d ρ ρ' ∧ (opC b n s' = 99 ∨ ¬ sI ρ' 128 d = 0)
theorem M_begin6 {b : Nat → Nat} {n s : Nat} {ρ : Sto} (hb : ∀ j, b j < 256) (hT : TSM b n s ρ) (h53 : sI ρ 81 53 = 6) : mX12_begins ρ = (mX12_wrong (Int32.ofNat (if tc b n s = 3 ∨ tc b n s = 2 ∨ tc b n s = 40 then 2 else 1)) ρ).bind fun σ3 => some σ3 := by
  unfold mX12_begins mX12_begins_61
  rw [h53, if_pos (by decide), hT.1, M_sgn (c := 40) (v := 40) hb rfl (by decide) (by decide) hT]
  by_cases c3 : tc b n s = 3
  · rw [if_pos (so_2.mpr c3), if_pos (Or.inl c3)]; rfl
  rw [if_neg (fun q => c3 (so_2.mp q))]
  by_cases c2 : tc b n s = 2
  · rw [if_pos (so_1.mpr c2), if_pos (Or.inr (Or.inl c2))]; rfl
  rw [if_neg (fun q => c2 (so_1.mp q))]
  by_cases c4 : tc b n s = 40
  · rw [if_pos c4, if_neg (by decide), if_pos (Or.inr (Or.inr c4))]; rfl
  rw [if_neg c4, if_pos rfl, if_neg (fun q => q.elim c3 (fun q => q.elim c2 c4))]; rfl
/-- behind a fault the operand ends too -/
theorem M_op_end {b : Nat → Nat} {n q0 K d s B f g k p : Nat} {e : List (Nat × Nat)} {W : List Nat} {ρ : Sto} {x x2 x3 : Int32} (hK : K + 1011 ≤ 15800) (hB : B ≤ 505) (hf : 1 ≤ f) (h : MS b n q0 K d (Int32.ofNat k, Int32.ofNat p) s B e W ρ) (hne : ¬ Int32.ofNat k = 0) : FEn q0 x ρ k p ((mX12_operand_4 (g + 1) x2 x3 ρ).bind fun ρ1 => mX12_expression_26 f x 1 ρ1) := by
  have hg : mX12_isGood ρ = 0 := by rw [M_good h, if_neg hne]
  have e120 : mX12_operand_120 ρ = some ρ := by
    unfold mX12_operand_120 mX12_part
    rw [hg, if_pos rfl, bnd_some]
  have e4 : mX12_operand_4 (g + 1) x2 x3 ρ = some ρ := by
    show mX12_operand_4B (mX12_operand_4 g) x2 x3 ρ = _
    unfold mX12_operand_4B
    by_cases c : x3 = 0
    · rw [if_pos c, e120]
    · rw [if_neg c, hg, if_pos rfl, e120]
  rw [e4, bnd_some]
  exact M_endf hK hB hf h hne
set_option maxHeartbeats 1000000 in
theorem M_part {b : Nat → Nat} {n q0 K d m : Nat} {x : Int32} {E : Zg} (hn : n ≤ 500) (hb : ∀ j, b j < 256) (hK : K + 1011 ≤ 15800) (hd : 1 ≤ d) (hZ : ZP b n m (stO b n) E)
    (hE : d < 6 → MPo b n q0 K x (d + 1) 1 3 (mOq x) (fun ρ => sI ρ 128 (d + 1) = 0) (poO b n (d + 1)) E)
    (hE6 : d = 6 → ∀ s l, E s l = .inl (if tc b n s = 3 ∨ tc b n s = 2 ∨ tc b n s = 40 then 2 else 1, s)) (x2 : Int32) : MPo b n q0 K x d 7 2 (fun G f ρ => mOp x G x2 f ρ) (fun _ => True) (poI d) (zPart b n E) := by
  intro s l W ρ G f hM hBk hf hG _
  have hs := hM.1.2.1
  have hT := hM.1.2.2.1
  have hnx := nx_le (b := b) (n := n) hs
  have hg : mX12_isGood ρ = 1 := by rw [M_good hM, if_pos rfl]
  have hd6 := hM.2.2.1.2
  show MRes b n q0 K x d 7 W ρ _ (zPart b n E s l) (mOp x G x2 f ρ)
  unfold mOp mX12_operand_75
  rw [hg, if_neg (by decide), M_sgn (c := 40) (v := 40) hb rfl (by decide) (by decide) hT]
  by_cases c4 : tc b n s = 40
  · rw [if_pos c4, if_neg (by decide)]
    have hlt := hnx.2.2 (tc_lt (b := b) (by omega))
    unfold mX12_operand_96
    rw [if_neg (by decide)]
    obtain ⟨ρ1, e1, s1, m1⟩ := M_push (a := 12) (v := 12) rfl ⟨by decide, by decide⟩ (by omega) hM
    obtain ⟨ρ2, e2, s2, m2⟩ := M_gs hn hb m1
    have m2' := m2.up (B' := nx b n s) (by omega)
    have ez : zPart b n E s l = stN (E (nx b n s) l) fun s' l' => if tc b n s' = 41 then .inr (nx b n s', l') else .inl (1, s') := by
      unfold zPart
      rw [if_neg (show ¬ tc b n s = 3 by omega), if_neg (show ¬ tc b n s = 2 by omega), if_pos c4]
    rw [e1, bnd_some, e2, bnd_some, ez]
    by_cases h6 : d = 6
    · rw [hE6 h6, stN_l, M_begin6 hb m2.1.2.2.1 (by rw [m2.2.2.1.1, h6]; rfl)]
      obtain ⟨ρ3, e3, s3, m3, hne⟩ := M_wrg (k := if tc b n (nx b n s) = 3 ∨ tc b n (nx b n s) = 2 ∨ tc b n (nx b n s) = 40 then 2 else 1) rfl (by
        by_cases c : tc b n (nx b n s) = 3 ∨ tc b n (nx b n s) = 2 ∨ tc b n (nx b n s) = 40
        · rw [if_pos c]; exact ⟨by decide, by decide⟩
        · rw [if_neg c]; exact ⟨by decide, by decide⟩) m2'
      rw [e3, bnd_some, bnd_some]
      obtain ⟨g, rfl⟩ : ∃ g, G = g + 1 := ⟨G - 1, by omega⟩
      exact MRes.l ((M_op_end hK (by omega) (by omega) m3 hne).pre ((s1.1.tr s2.1).tr s3.1))
    · obtain ⟨ρ3, e3, y3, t3, m3, z3⟩ := M_deep (by omega) m2'
      rw [e3, bnd_some]
      have R := hE (by omega) (nx b n s) l (12 :: W) ρ3 G f m3 (Or.inl rfl) (by omega) (by omega) z3
      have Y := (s1.1.tr s2.1).tr y3
      have hZs := hZ (nx b n s) l hnx.2.1
      cases q : E (nx b n s) l with
      | inl e =>
        rw [stN_l]
        exact MRes.l ((R.1 e.1 e.2 q).pre Y)
      | inr r =>
        obtain ⟨s4, l4⟩ := r
        rw [stN_r]
        obtain ⟨z1, z2, z3', z4⟩ := hZs.2 s4 l4 q
        obtain ⟨e', W', ρ4, f4, E4, Y4, M4, L4, F4, N4, P4⟩ := R.2 s4 l4 q
        have E4' : ((mX12_operand_4 G 1 1 ρ3).bind fun ρ1 => mX12_expression_26 f x 1 ρ1) = mLp x f4 ρ4 := E4
        rw [E4']
        by_cases c41 : tc b n s4 = 41
        · rw [if_pos c41]
          have hlt4 := (nx_le (b := b) (n := n) z2).2.2 (tc_lt (b := b) (by omega))
          obtain ⟨f4, rfl⟩ : ∃ g, f4 = g + 1 := ⟨f4 - 1, by omega⟩
          obtain ⟨ρ5, E5, S5, M5⟩ := M_close (x := x) (f := f4) hn hb hK hd M4 (fun y hy => ⟨Nat.zero_le _, (F4 y hy).2⟩) c41
          refine ⟨(fun _ _ q' => by cases q'), fun s' l' q' => ?_⟩
          cases q'
          refine ⟨e' ++ W'.map ai, [], ρ5, f4, E5, (Y.tr Y4).tr S5.1, M5, by rw [L4, List.map_nil, List.append_nil], fun y hy => (nomatch hy), by omega, ?_⟩
          exact (((s1.2 (d + 1)).tr (s2.2 (d + 1))).tr t3).tr (P4.1.tr (S5.2 (d + 1)))
        · rw [if_neg c41]
          obtain ⟨f4, rfl⟩ : ∃ g, f4 = g + 2 := ⟨f4 - 2, by omega⟩
          rw [M_stop (f := f4) hn hb M4 z3' P4.2 (fun q => absurd q c41)]
          obtain ⟨ρ5, e5, s5, m5, hne⟩ := M_wrg (k := 1) (v := 1) rfl ⟨by decide, by decide⟩ M4
          obtain ⟨W1, W2, ρ6, ρ7, w1, w2, w3, w4, w5, w6⟩ := M_368 (x := x) hK (by omega) m5
          have y7 : Ey (SM q0) ρ6 ρ7 := by
            rw [w6]
            exact (Ey.rf.w (S := SM q0) _ (Or.inr (Or.inl ⟨rfl, Nat.le_add_right _ _⟩))).w _ (Or.inl ⟨rfl, Or.inr (Or.inr ⟨by decide, by decide⟩)⟩)
          refine MRes.l ⟨ρ7, ?_, (((Y.tr Y4).tr s5.1).tr w3.1).tr y7, ?_, ?_⟩
          · unfold mX12_expression_348
            rw [M_good M4, if_pos rfl, if_neg (by decide), M4.2.2.1.1, if_neg (fun q => absurd ((le_lit (v := 1) (m := 1) rfl (by omega) (by decide)).mp q) (by omega)), e5, bnd_some, w2]
          · rw [w6, sI_wI, if_neg (by omega), sI_wI, if_neg (by omega)]; exact w4.1.2.2.2.1
          · rw [w6, sI_wI, if_neg (by omega), sI_wI, if_neg (by omega)]; exact w4.1.2.2.2.2
  · rw [if_neg c4, if_pos rfl]
    obtain ⟨g, rfl⟩ : ∃ g, G = g + 1 := ⟨G - 1, by omega⟩
    have e4 : mX12_operand_95 (mX12_operand_4 (g + 1)) x2 ρ = (mX12_part ρ).bind fun σ2 => some σ2 := by
      unfold mX12_operand_95 mX12_operand_96
      rw [if_pos rfl]
      show mX12_operand_4B (mX12_operand_4 g) x2 0 ρ = _
      unfold mX12_operand_4B mX12_operand_120
      rw [if_pos rfl]
    rw [e4]
    have endF : ∀ k ρ1 B e, 1 ≤ k → k ≤ 4 → Ey (SM q0) ρ ρ1 → B ≤ 505 → MS b n q0 K d (Int32.ofNat k, Int32.ofNat s) s B e W ρ1 → FEn q0 x ρ k s (mX12_expression_26 f x 1 ρ1) := fun k ρ1 B e k1 k4 y hB h => (M_endf hK hB (by omega) h (fun q => by
      have := (oI_eq (j := k) (n := 0) (by omega) (by decide)).mp q
      omega)).pre y
    have h91f : ∀ k ρ1 B e, 1 ≤ k → k ≤ 4 → MS b n q0 K d (Int32.ofNat k, Int32.ofNat s) s B e W ρ1 → mX12_part_91 ρ1 = some ρ1 := fun k ρ1 B e k1 k4 h => by
      unfold mX12_part_91
      have hne : ¬ (Int32.ofNat k, Int32.ofNat s).1 = 0 := fun q => by
        have := (oI_eq (j := k) (n := 0) (by omega) (by decide)).mp q
        omega
      rw [M_good h, if_neg hne, if_pos rfl]
    unfold mX12_part
    rw [hg, if_neg (by decide), hT.1]
    by_cases c3 : tc b n s = 3
    · rw [if_pos (so_2.mpr c3), hT.2.2.2.1]
      have hlt := hnx.2.2 (tc_lt (b := b) (by omega))
      have hE2 := (tkE_le (b := b) hs).2.1
      unfold mX12_part_30
      by_cases c8 : 8 < tkE b n s - s
      · rw [if_neg (fun q => absurd ((le_lit (v := 8) (m := 8) rfl (by omega) (by decide)).mp q) (by omega))]
        obtain ⟨ρ1, e1, s1, m1, hne⟩ := M_wrg (k := 2) (v := 2) rfl ⟨by decide, by decide⟩ hM
        obtain ⟨ρ2, ρ3, e2, k2, e3, s3, m3⟩ := M_put2 (u := 1) (v := sI ρ1 81 47) m1 (0, 0) (fun q => absurd q hne) rfl hK (by omega)
        have ez : zPart b n E s l = .inl (2, s) := by unfold zPart; rw [if_pos c3, if_pos c8]
        rw [ez, e1, bnd_some, e2, bnd_some, k2 47 (by decide), e3, bnd_some, h91f 2 ρ3 _ _ (by decide) (by decide) m3, bnd_some, bnd_some]
        exact MRes.l (endF 2 ρ3 _ _ (by decide) (by decide) (s1.1.tr s3.1) (by omega) m3)
      · rw [if_pos ((le_lit (v := 8) (m := 8) rfl (by omega) (by decide)).mpr (by omega))]
        obtain ⟨ρ2, ρ3, e2, k2, e3, s3, m3⟩ := M_put2 (u := 1) (v := sI ρ 81 47) hM (0, nv b n s) (fun _ => by rw [hT.2.2.2.2.1]; rfl) rfl hK (by omega)
        obtain ⟨ρ4, e5, s4, m4⟩ := M_gs hn hb m3
        have ez : zPart b n E s l = .inr (nx b n s, l ++ [(0, nv b n s)]) := by unfold zPart; rw [if_pos c3, if_neg c8]
        have h91 : mX12_part_91 ρ3 = some ρ4 := by
          unfold mX12_part_91
          rw [M_good m3, if_pos rfl, if_neg (by decide), e5, bnd_some]
        rw [ez, e2, bnd_some, k2 47 (by decide), e3, bnd_some, h91, bnd_some, bnd_some]
        refine ⟨(fun _ _ q' => by cases q'), fun s' l' q' => ?_⟩
        cases q'
        exact ⟨l ++ [(0, nv b n s)], [], ρ4, f, rfl, s3.1.tr s4.1, m4.up (by omega), by rw [List.map_nil, List.append_nil], fun y hy => (nomatch hy), by omega, (s3.2 (d + 1)).tr (s4.2 (d + 1))⟩
    · rw [if_neg (fun q => c3 (so_2.mp q))]
      by_cases c2 : tc b n s = 2
      · rw [if_pos (so_1.mpr c2), M_kword hn hs hT, bnd_some]
        have hlt := hnx.2.2 (tc_lt (b := b) (by omega))
        have hwb := wd_b b n s
        by_cases c8 : 11 ≤ wd b n s ∧ wd b n s ≤ 20
        · rw [if_neg (show ¬ wd b n s = 99 by omega), if_pos ((lit_le (v := 11) (m := 11) rfl (by decide) (by omega)).mpr c8.1)]
          unfold mX12_part_70
          obtain ⟨ρ2, ρ3, e2, k2, e3, s3, m3⟩ := M_put2 (u := 2) (v := Int32.ofNat (wd b n s) - 11) hM (1, wd b n s - 11) (fun _ => by rw [show (11 : Int32) = Int32.ofNat 11 from rfl, oI_sub c8.1]; rfl) rfl hK (by omega)
          obtain ⟨ρ4, e5, s4, m4⟩ := M_gs hn hb m3
          have ez : zPart b n E s l = .inr (nx b n s, l ++ [(1, wd b n s - 11)]) := by unfold zPart; rw [if_neg c3, if_pos c2, if_pos c8]
          have h91 : mX12_part_91 ρ3 = some ρ4 := by
            unfold mX12_part_91
            rw [M_good m3, if_pos rfl, if_neg (by decide), e5, bnd_some]
          rw [ez, e2, bnd_some, e3, bnd_some, h91, bnd_some, bnd_some]
          refine ⟨(fun _ _ q' => by cases q'), fun s' l' q' => ?_⟩
          cases q'
          exact ⟨l ++ [(1, wd b n s - 11)], [], ρ4, f, rfl, s3.1.tr s4.1, m4.up (by omega), by rw [List.map_nil, List.append_nil], fun y hy => (nomatch hy), by omega, (s3.2 (d + 1)).tr (s4.2 (d + 1))⟩
        · have hv : ¬ (11 : Int32) ≤ (if wd b n s = 99 then -1 else Int32.ofNat (wd b n s)) := by
            by_cases c : wd b n s = 99
            · rw [if_pos c]; decide
            · rw [if_neg c]; exact fun q => absurd ((lit_le (v := 11) (m := 11) rfl (by decide) (by omega)).mp q) (by omega)
          rw [if_neg hv]
          unfold mX12_part_70
          obtain ⟨ρ1, e1, s1, m1, hne⟩ := M_wrg (k := 3) (v := 3) rfl ⟨by decide, by decide⟩ hM
          obtain ⟨ρ2, ρ3, e2, k2, e3, s3, m3⟩ := M_put2 (u := 2) (v := (if wd b n s = 99 then -1 else Int32.ofNat (wd b n s)) - 11) m1 (0, 0) (fun q => absurd q hne) rfl hK (by omega)
          have ez : zPart b n E s l = .inl (3, s) := by unfold zPart; rw [if_neg c3, if_pos c2, if_neg c8]
          rw [ez, e1, bnd_some, e2, bnd_some, e3, bnd_some, h91f 3 ρ3 _ _ (by decide) (by decide) m3, bnd_some, bnd_some]
          exact MRes.l (endF 3 ρ3 _ _ (by decide) (by decide) (s1.1.tr s3.1) (by omega) m3)
      · rw [if_neg (fun q => c2 (so_1.mp q))]
        obtain ⟨ρ1, e1, s1, m1, hne⟩ := M_wrg (k := 1) (v := 1) rfl ⟨by decide, by decide⟩ hM
        have ez : zPart b n E s l = .inl (1, s) := by unfold zPart; rw [if_neg c3, if_neg c2, if_neg c4]
        rw [ez, e1, bnd_some, h91f 1 ρ1 _ _ (by decide) (by decide) m1, bnd_some, bnd_some]
        exact MRes.l (endF 1 ρ1 _ _ (by decide) (by decide) s1.1 (by omega) m1)
/-- what an operator waits as -/
def acO (o : Nat) : Nat := if o = 0 then 5 else if o = 1 then 4 else o + 4
theorem ai_acO {o : Nat} (h : o < 8) : ai (acO o) = (3, o) ∧ 3 ≤ acO o ∧ acO o ≤ 11 := by
  rcases (show o = 0 ∨ o = 1 ∨ o = 2 ∨ o = 3 ∨ o = 4 ∨ o = 5 ∨ o = 6 ∨ o = 7 by omega) with rfl | rfl | rfl | rfl | rfl | rfl | rfl | rfl <;> exact ⟨rfl, by decide, by decide⟩
/-- a row of operands -/
theorem M_loop {b : Nat → Nat} {n q0 K d L m r : Nat} {x : Int32} {g : Zg} {op : Nat → Nat} {stop : Nat → Prop} {start : Nat → Nat → Sto → Option (Int32 × Sto)} {pre : Sto → Prop} {post : Sto → Sto → Nat → Prop} {TG : Sto → Sto → Prop} (hn : n ≤ 500) (hK : K + 1011 ≤ 15800) (hL : L ≤ 6) (hZ : ZP b n m stop g) (ho : OpG b n op) (hoL : ∀ s, op s ≠ 99 → st6 (acO (op s)) = L)
    (hg : MPo b n q0 K x d (L + 1) r start pre post g)
    (hgo : ∀ s e W0 l W ρ ρ1 f, MS b n q0 K d (0, -1) s s e W0 ρ → mX12_drops (Int32.ofNat L) ρ = some ρ1 → MS b n q0 K d (0, -1) s s l W ρ1 → St8 q0 ρ ρ1 → op s ≠ 99 → post ρ ρ s ∨ True → ∃ ρ3 G, mLp x (f + 1) ρ = start G f ρ3 ∧ Ey (SM q0) ρ1 ρ3 ∧ MS b n q0 K d (0, -1) (nx b n s) (nx b n s) l (acO (op s) :: W) ρ3 ∧ n + r ≤ nx b n s + G ∧ pre ρ3 ∧ TG ρ ρ3)
    (hpost : ∀ ρ0 ρ ρ3 ρ' s s', post ρ0 ρ s → TG ρ ρ3 → post ρ3 ρ' s' → post ρ0 ρ' s') (W : List Nat) (hBk : Blk L W) (ρ0 : Sto) :
    ∀ fz s e W' ρ f l, MS b n q0 K d (0, -1) s s e (W' ++ W) ρ → l = e ++ W'.map ai → (∀ y ∈ W', L ≤ st6 y ∧ y ≠ 12) → n + 2 ≤ s + f → Ey (SM q0) ρ0 ρ → post ρ0 ρ s → MRes b n q0 K x d L W ρ0 (post ρ0) (zLoop b n g op fz s l) (mLp x f ρ) := by
  intro fz
  induction fz with
  | zero =>
    intro s e W' ρ f l h1 h2 h3 h4 h5 h6
    refine ⟨(fun _ _ q => by cases q), fun s' l' q => ?_⟩
    cases q
    exact ⟨e, W', ρ, f, rfl, h5, h1, h2, h3, h4, h6⟩
  | succ fz ih =>
    intro s e W' ρ f l h1 h2 h3 h4 h5 h6
    show MRes b n q0 K x d L W ρ0 (post ρ0) (if op s = 99 then .inr (s, l) else stN (g (nx b n s) l) fun s' l' => zLoop b n g op fz s' (l' ++ [(3, op s)])) (mLp x f ρ)
    by_cases c : op s = 99
    · rw [if_pos c]
      refine ⟨(fun _ _ q => by cases q), fun s' l' q => ?_⟩
      cases q
      exact ⟨e, W', ρ, f, rfl, h5, h1, h2, h3, h4, h6⟩
    · rw [if_neg c]
      have hs := h1.1.2.1
      have hl := h1.2.1.2.2.2
      rw [List.length_append] at hl
      have hnx := nx_le (b := b) (n := n) hs
      have hlt := hnx.2.2 (tc_lt (ho s c).2)
      obtain ⟨f, rfl⟩ : ∃ q, f = q + 1 := ⟨f - 1, by omega⟩
      obtain ⟨ρ1, e1, s1, m1⟩ := M_drops (v := Int32.ofNat L) rfl hL hK (by omega) hBk W' e FU ρ (show W'.length < 5000 by omega) h3 h1
      rw [← h2] at m1
      obtain ⟨ρ3, G, e3, y3, m3, g3, p3, t3⟩ := hgo s e (W' ++ W) l W ρ ρ1 f h1 e1 m1 s1 c (Or.inr trivial)
      obtain ⟨a1, a2, a3⟩ := ai_acO (ho s c).1
      have R := hg (nx b n s) l (acO (op s) :: W) ρ3 G f m3 (Or.inr (by rw [hoL s c]; omega)) (by omega) g3 p3
      have Y := (h5.tr s1.1).tr y3
      have hZs := hZ (nx b n s) l hnx.2.1
      rw [e3]
      cases q : g (nx b n s) l with
      | inl e =>
        rw [stN_l]
        exact MRes.l ((R.1 e.1 e.2 q).pre Y)
      | inr w =>
        obtain ⟨s4, l4⟩ := w
        rw [stN_r]
        obtain ⟨z1, z2, -⟩ := hZs.2 s4 l4 q
        obtain ⟨e', W1, ρ4, f4, E4, Y4, M4, L4, F4, N4, P4⟩ := R.2 s4 l4 q
        rw [E4]
        refine ih s4 e' (W1 ++ [acO (op s)]) ρ4 f4 _ (by rw [List.append_assoc]; exact M4) ?_ (fun y hy => ?_) N4 (Y.tr Y4) (hpost _ _ _ _ _ _ h6 t3 P4)
        · rw [L4, List.map_append, List.append_assoc]
          show _ = e' ++ (W1.map ai ++ [ai (acO (op s))])
          rw [a1]
        · rcases List.mem_append.mp hy with hy | hy
          · exact ⟨by have := (F4 y hy).1; omega, (F4 y hy).2⟩
          · cases List.mem_singleton.mp hy
            exact ⟨by rw [hoL s c]; omega, by omega⟩
theorem M_row {b : Nat → Nat} {n q0 K d L m r r1 : Nat} {x : Int32} {g : Zg} {op : Nat → Nat} {stop : Nat → Prop} {start start1 : Nat → Nat → Sto → Option (Int32 × Sto)} {pre : Sto → Prop} {post : Sto → Sto → Nat → Prop} {TG : Sto → Sto → Prop} (hn : n ≤ 500) (hK : K + 1011 ≤ 15800) (hL : L ≤ 6) (hZ : ZP b n m stop g) (ho : OpG b n op) (hoL : ∀ s, op s ≠ 99 → st6 (acO (op s)) = L)
    (hg1 : MPo b n q0 K x d (L + 1) r1 start1 pre post g) (hg : MPo b n q0 K x d (L + 1) r start pre post g)
    (hgo : ∀ s e W0 l W ρ ρ1 f, MS b n q0 K d (0, -1) s s e W0 ρ → mX12_drops (Int32.ofNat L) ρ = some ρ1 → MS b n q0 K d (0, -1) s s l W ρ1 → St8 q0 ρ ρ1 → op s ≠ 99 → post ρ ρ s ∨ True → ∃ ρ3 G, mLp x (f + 1) ρ = start G f ρ3 ∧ Ey (SM q0) ρ1 ρ3 ∧ MS b n q0 K d (0, -1) (nx b n s) (nx b n s) l (acO (op s) :: W) ρ3 ∧ n + r ≤ nx b n s + G ∧ pre ρ3 ∧ TG ρ ρ3)
    (hpost : ∀ ρ0 ρ ρ3 ρ' s s', post ρ0 ρ s → TG ρ ρ3 → post ρ3 ρ' s' → post ρ0 ρ' s') : MPo b n q0 K x d L r1 start1 pre post (zRow b n g op) := by
  intro s l W ρ G f hM hBk hf hG hp
  have R := hg1 s l W ρ G f hM (hBk.mono (by omega)) hf hG hp
  show MRes b n q0 K x d L W ρ (post ρ) (stN (g s l) fun s' l' => zLoop b n g op n s' l') (start1 G f ρ)
  cases q : g s l with
  | inl e => rw [stN_l]; exact MRes.l (R.1 e.1 e.2 q)
  | inr w =>
    obtain ⟨s4, l4⟩ := w
    rw [stN_r]
    obtain ⟨e', W1, ρ4, f4, E4, Y4, M4, L4, F4, N4, P4⟩ := R.2 s4 l4 q
    rw [E4]
    exact M_loop hn hK hL hZ ho hoL hg hgo hpost W hBk ρ n s4 e' W1 ρ4 f4 l4 M4 L4 (fun y hy => ⟨by have := (F4 y hy).1; omega, (F4 y hy).2⟩) N4 Y4 P4
/-- an operand without 'not' ahead -/
theorem M_op0 {b : Nat → Nat} {n q0 K d s B f : Nat} {e : List (Nat × Nat)} {W : List Nat} {ρ : Sto} {x : Int32} (h : MS b n q0 K d (0, -1) s B e W ρ) : ((mX12_operand 0 ρ).bind fun ρ1 => mX12_expression_26 f x 1 ρ1) = mOp x 4999 0 f ρ := by
  have hg : mX12_isGood ρ = 1 := by rw [M_good h, if_pos rfl]
  have e1 : mX12_operand 0 ρ = mX12_operand_75 (mX12_operand_4 4999) 0 ρ := by
    show mX12_operand_4B (mX12_operand_4 4999) 0 1 ρ = _
    unfold mX12_operand_4B
    rw [if_neg (by decide), hg, if_neg (by decide)]
    show mX12_operand_18B (mX12_operand_4 4999) (mX12_operand_18 (mX12_operand_4 4999) 4999) 0 0 ρ = _
    unfold mX12_operand_18B
    rw [hg, if_neg (by decide), if_pos rfl]
  rw [e1]
  rfl
