/-! the reference reads an EXPR: sums, tests, nots, the whole -/
def HE (b : Nat → Nat) (n q0 K : Nat) (x : Int32) (d m : Nat) (E : Zg) : Prop := (1 ≤ d ∧ 1 ≤ m) ∧ ZP b n m (stO b n) E ∧ (d < 6 → MPo b n q0 K x (d + 1) 1 3 (mOq x) (fun ρ => sI ρ 128 (d + 1) = 0) (poO b n (d + 1)) E) ∧ (d = 6 → ∀ s l, E s l = .inl (if tc b n s = 3 ∨ tc b n s = 2 ∨ tc b n s = 40 then 2 else 1, s))
section
variable {b : Nat → Nat} {n q0 K d m : Nat} {x : Int32} {E : Zg}
theorem M_prod (hn : n ≤ 500) (hb : ∀ j, b j < 256) (hK : K + 1011 ≤ 15800) (H : HE b n q0 K x d m E) (x2 : Int32) : MPo b n q0 K x d 6 2 (fun G f ρ => mOp x G x2 f ρ) (fun _ => True) (poI d) (zProd b n E) := by
  obtain ⟨⟨hd, hm⟩, hZ, hE, hE6⟩ := H
  refine M_row (L := 6) (start := fun G f ρ => mOp x G 0 f ρ) (TG := fun ρ ρ3 => T8 (d + 1) ρ ρ3) hn hK (by decide) (zPart_ok hm hZ) (opP_g b n) (fun s h => ?_) (M_part hn hb hK hd hZ hE hE6 x2) (M_part hn hb hK hd hZ hE hE6 0) (fun s e W0 l W ρ ρ1 f h1 e1 m1 s1 c _ => ?_) (fun ρ0 ρ ρ3 ρ' s s' p1 p2 p3 => (T8.tr p1 p2).tr p3)
  · rcases opP_i h with ⟨-, h2⟩ | ⟨-, h2⟩ <;> rw [h2] <;> rfl
  · have hs := h1.1.2.1
    have hT := h1.1.2.2.1
    have hlt := (nx_le (b := b) (n := n) hs).2.2 (tc_lt (opP_g b n s c).2)
    obtain ⟨a1, a2, a3⟩ := ai_acO (opP_g b n s c).1
    obtain ⟨ρ2, e2, s2, m2⟩ := M_push (a := acO (opP b n s)) rfl ⟨a2, by omega⟩ (by omega) m1
    obtain ⟨ρ3, e3, s3, m3⟩ := M_gs hn hb m2
    have e1' : mX12_drops 6 ρ = some ρ1 := e1
    refine ⟨ρ3, 4999, ?_, s2.1.tr s3.1, m3.up (by omega), by omega, trivial, ((s1.tr s2).tr s3).2 (d + 1)⟩
    have tcs := opP_i c
    have nw : wd b n s = 99 := by unfold wd; rw [if_neg (by omega)]
    have run : ∀ a, a = Int32.ofNat (acO (opP b n s)) → mX12_expression_279 (mX12_expression_26 f) x 1 a ρ1 = mOp x 4999 0 f ρ3 := fun a ha => by
      unfold mX12_expression_279
      rw [ha, e2, bnd_some, e3, bnd_some]
      exact M_op0 m3
    unfold mLp
    rw [M_183 hn hb h1 (by unfold opA; rw [nw, if_neg (by decide)]) (by unfold opO; rw [nw, if_neg (by decide)]) (Or.inl (by unfold opC; rw [if_neg (by omega), if_neg (by omega)]))]
    unfold mX12_expression_183 mX12_expression_256
    rw [M_sgn (c := 43) (v := 43) hb rfl (by decide) (by decide) hT, M_sgn (c := 45) (v := 45) hb rfl (by decide) (by decide) hT, M_sgn (c := 42) (v := 42) hb rfl (by decide) (by decide) hT, M_sgn (c := 47) (v := 47) hb rfl (by decide) (by decide) hT, if_neg (show ¬ tc b n s = 43 by omega), if_pos rfl, if_neg (show ¬ tc b n s = 45 by omega), if_pos rfl, e1', bnd_some, M_sgn (c := 42) (v := 42) hb rfl (by decide) (by decide) m1.1.2.2.1]
    rcases tcs with ⟨t1, t2⟩ | ⟨t1, t2⟩
    · rw [if_pos t1, if_neg (by decide), if_neg (by decide)]
      exact run 10 (by rw [t2]; rfl)
    · rw [if_neg (show ¬ tc b n s = 42 by omega), if_pos rfl, if_pos t1, if_neg (by decide), if_pos rfl]
      exact run 11 (by rw [t2]; rfl)
theorem M_sum (hn : n ≤ 500) (hb : ∀ j, b j < 256) (hK : K + 1011 ≤ 15800) (H : HE b n q0 K x d m E) (x2 : Int32) : MPo b n q0 K x d 5 2 (fun G f ρ => mOp x G x2 f ρ) (fun _ => True) (poI d) (zSum b n E) := by
  have hm := H.1.2
  refine M_row (L := 5) (start := fun G f ρ => mOp x G 0 f ρ) (TG := fun ρ ρ3 => T8 (d + 1) ρ ρ3) hn hK (by decide) (zRow_ok (M := m + 1) hm (by omega) (zPart_ok hm H.2.1) (opP_g b n)) (opS_g b n) (fun s h => ?_) (M_prod hn hb hK H x2) (M_prod hn hb hK H 0) (fun s e W0 l W ρ ρ1 f h1 e1 m1 s1 c _ => ?_) (fun ρ0 ρ ρ3 ρ' s s' p1 p2 p3 => (T8.tr p1 p2).tr p3)
  · rcases opS_i h with ⟨-, h2⟩ | ⟨-, h2⟩ <;> rw [h2] <;> rfl
  · have hs := h1.1.2.1
    have hT := h1.1.2.2.1
    have hlt := (nx_le (b := b) (n := n) hs).2.2 (tc_lt (opS_g b n s c).2)
    obtain ⟨a1, a2, a3⟩ := ai_acO (opS_g b n s c).1
    obtain ⟨ρ2, e2, s2, m2⟩ := M_push (a := acO (opS b n s)) rfl ⟨a2, by omega⟩ (by omega) m1
    obtain ⟨ρ3, e3, s3, m3⟩ := M_gs hn hb m2
    have e1' : mX12_drops 5 ρ = some ρ1 := e1
    refine ⟨ρ3, 4999, ?_, s2.1.tr s3.1, m3.up (by omega), by omega, trivial, ((s1.tr s2).tr s3).2 (d + 1)⟩
    have tcs := opS_i c
    have nw : wd b n s = 99 := by unfold wd; rw [if_neg (by omega)]
    have run : ∀ a, a = Int32.ofNat (acO (opS b n s)) → mX12_expression_223 (mX12_expression_26 f) x 1 a ρ1 = mOp x 4999 0 f ρ3 := fun a ha => by
      unfold mX12_expression_223
      rw [ha, e2, bnd_some, e3, bnd_some]
      exact M_op0 m3
    unfold mLp
    rw [M_183 hn hb h1 (by unfold opA; rw [nw, if_neg (by decide)]) (by unfold opO; rw [nw, if_neg (by decide)]) (Or.inl (by unfold opC; rw [if_neg (by omega), if_neg (by omega)]))]
    unfold mX12_expression_183 mX12_expression_201
    rw [M_sgn (c := 43) (v := 43) hb rfl (by decide) (by decide) hT, M_sgn (c := 45) (v := 45) hb rfl (by decide) (by decide) hT, e1', bnd_some, M_sgn (c := 43) (v := 43) hb rfl (by decide) (by decide) m1.1.2.2.1]
    rcases tcs with ⟨t1, t2⟩ | ⟨t1, t2⟩
    · rw [if_pos t1, if_neg (by decide), if_neg (by decide)]
      exact run 8 (by rw [t2]; rfl)
    · rw [if_neg (show ¬ tc b n s = 43 by omega), if_pos rfl, if_pos t1, if_neg (by decide), if_pos rfl]
      exact run 9 (by rw [t2]; rfl)
theorem M_mark {s B : Nat} {φ : Int32 × Int32} {e : List (Nat × Nat)} {W : List Nat} {ρ : Sto} (v : Int32) (h : MS b n q0 K d φ s B e W ρ) : MS b n q0 K d φ s B e W (wI ρ 128 d v) ∧ Ey (SM q0) ρ (wI ρ 128 d v) ∧ T8 d ρ (wI ρ 128 d v) ∧ sI (wI ρ 128 d v) 128 d = v := by
  obtain ⟨⟨h1, h2, h3, h4, h4'⟩, ⟨h5, h6, h7, h8⟩, ⟨h9, h10⟩, h11, h12, h13⟩ := h
  have x : Ex (fun a j => a = 128 ∧ j = d) ρ (wI ρ 128 d v) := Ex.rf.w (S := fun a j => a = 128 ∧ j = d) _ ⟨rfl, rfl⟩
  have k := x.2.2.2.2.2
  have xm := x.mono (T := SM q0) fun a j z => by unfold SM; omega
  exact ⟨⟨⟨h1.ex x (fun a j z => by omega), h2, h3.ey x (fun j _ _ z => by omega), (k 81 40 (by omega)).trans h4, (k 81 41 (by omega)).trans h4'⟩, ⟨(k 81 52 (by omega)).trans h5, h6.congr (fun i _ => k 127 i (by omega)), h7, h8⟩, ⟨(k 81 53 (by omega)).trans h9, h10⟩, (k 81 51 (by omega)).trans h11, fun q => (h12 q).congr (fun i _ _ => k 126 i (by omega)), h13⟩, xm.ey, fun j hj => k 128 j (by omega), by rw [sI_wI, if_pos ⟨rfl, rfl⟩]⟩
theorem M_test (hn : n ≤ 500) (hb : ∀ j, b j < 256) (hK : K + 1011 ≤ 15800) (H : HE b n q0 K x d m E) (x2 : Int32) : MPo b n q0 K x d 4 2 (fun G f ρ => mOp x G x2 f ρ) (fun ρ => sI ρ 128 d = 0) (poO b n d) (zTest b n E) := by
  intro s l W ρ G f hM hBk hf hG hp
  have R := M_sum hn hb hK H x2 s l W ρ G f hM (hBk.mono (by omega)) hf hG trivial
  show MRes b n q0 K x d 4 W ρ _ (stN (zSum b n E s l) _) (mOp x G x2 f ρ)
  have hZS := zSum_ok H.1.2 H.2.1
  cases q : zSum b n E s l with
  | inl e => rw [stN_l]; exact MRes.l (R.1 e.1 e.2 q)
  | inr w =>
    obtain ⟨s1, l1⟩ := w
    rw [stN_r]
    obtain ⟨z1, z2, -⟩ := (hZS s l hM.1.2.1).2 s1 l1 q
    obtain ⟨e1, W1, ρ1, f1, E1, Y1, M1, L1, F1, N1, P1⟩ := R.2 s1 l1 q
    have E1' : mOp x G x2 f ρ = mLp x f1 ρ1 := E1
    rw [E1']
    by_cases c : opC b n s1 = 99
    · rw [if_pos c]
      refine ⟨(fun _ _ q' => by cases q'), fun s' l' q' => ?_⟩
      cases q'
      exact ⟨e1, W1, ρ1, f1, rfl, Y1, M1, L1, fun y hy => ⟨by have := (F1 y hy).1; omega, (F1 y hy).2⟩, N1, T8.le P1 (by omega), Or.inl c⟩
    · rw [if_neg c]
      have t0 : sI ρ1 128 d = 0 := (P1 d (by omega)).trans hp
      have hT := M1.1.2.2.1
      have hnx := nx_le (b := b) (n := n) z2
      have hlt := hnx.2.2 (tc_lt (opC_g b n s1 c).2)
      have hl := M1.2.1.2.2.2
      rw [List.length_append] at hl
      have hd6 := M1.2.2.1.2
      obtain ⟨a1, a2, a3⟩ := ai_acO (opC_g b n s1 c).1
      obtain ⟨f1, rfl⟩ : ∃ q, f1 = q + 1 := ⟨f1 - 1, by omega⟩
      obtain ⟨ρ2, e2, s2, m2⟩ := M_drops (v := 4) (L := 4) rfl (by decide) hK (by omega) hBk W1 e1 FU ρ1 (show W1.length < 5000 by omega) (fun y hy => ⟨by have := (F1 y hy).1; omega, (F1 y hy).2⟩) M1
      rw [← L1] at m2
      obtain ⟨ρ3, e3, s3, m3⟩ := M_push (a := acO (opC b n s1)) rfl ⟨a2, by omega⟩ (by omega) m2
      obtain ⟨m4, y4, t4, v4⟩ := M_mark 1 m3
      obtain ⟨ρ5, e5, s5, m5⟩ := M_gs hn hb m4
      have h4 : st6 (acO (opC b n s1)) = 4 := by rcases opC_i c with ⟨-, h2⟩ | ⟨-, h2⟩ <;> rw [h2] <;> rfl
      have R2 := M_sum hn hb hK H 0 (nx b n s1) l1 (acO (opC b n s1) :: W) ρ5 4999 f1 (m5.up (by omega)) (Or.inr (by omega)) (by omega) (by omega) trivial
      have Y := (((Y1.tr s2.1).tr s3.1).tr y4).tr s5.1
      have T5 : T8 d ρ ρ5 := ((((T8.le P1 (by omega)).tr (s2.2 d)).tr (s3.2 d)).tr t4).tr (s5.2 d)
      have v5 : sI ρ5 128 d = 1 := (s5.2 (d + 1) d (by omega)).trans v4
      have run : ∀ a, a = Int32.ofNat (acO (opC b n s1)) → mX12_expression_158 (mX12_expression_26 f1) x 1 a ρ2 = mOp x 4999 0 f1 ρ5 := fun a ha => by
        unfold mX12_expression_158
        rw [ha, e3, bnd_some, m3.2.2.1.1, if_pos (oI_inb (by omega) (by decide)), oI_cl (j := d) (by omega)]
        show ((mX12_goes (wI ρ3 128 d 1)).bind fun σ62 => (mX12_operand 0 σ62).bind fun σ63 => mX12_expression_26 f1 x 1 σ63) = _
        rw [e5, bnd_some]
        exact M_op0 m5
      have eL : mLp x (f1 + 1) ρ1 = mOp x 4999 0 f1 ρ5 := by
        have tcs := opC_i c
        have nw : wd b n s1 = 99 := by unfold wd; rw [if_neg (by omega)]
        have e2' : mX12_drops 4 ρ1 = some ρ2 := e2
        show mX12_expression_26B (mX12_expression_26 f1) x 1 ρ1 = _
        unfold mX12_expression_26B mX12_expression_124
        rw [if_neg (by decide), M_good M1, if_pos rfl, if_neg (by decide), M_kword hn z2 hT, bnd_some, if_pos nw, if_neg (by decide), if_neg (by decide), M_sgn (c := 60) (v := 60) hb rfl (by decide) (by decide) hT, M_sgn (c := 61) (v := 61) hb rfl (by decide) (by decide) hT, M1.2.2.1.1, if_pos (oI_inb (by omega) (by decide)), oI_cl (j := d) (by omega), if_pos t0, e2', bnd_some, M_sgn (c := 60) (v := 60) hb rfl (by decide) (by decide) m2.1.2.2.1]
        rcases tcs with ⟨t1, t2⟩ | ⟨t1, t2⟩
        · rw [if_pos t1, if_neg (by decide), if_neg (by decide)]
          exact run 6 (by rw [t2]; rfl)
        · rw [if_neg (show ¬ tc b n s1 = 60 by omega), if_pos rfl, if_pos t1, if_neg (by decide), if_pos rfl]
          exact run 7 (by rw [t2]; rfl)
      rw [eL]
      cases q2 : zSum b n E (nx b n s1) l1 with
      | inl e => rw [stN_l]; exact MRes.l ((R2.1 e.1 e.2 q2).pre Y)
      | inr w =>
        obtain ⟨s6, l6⟩ := w
        rw [stN_r]
        obtain ⟨e6, W6, ρ6, f6, E6, Y6, M6, L6, F6, N6, P6⟩ := R2.2 s6 l6 q2
        refine ⟨(fun _ _ q' => by cases q'), fun s' l' q' => ?_⟩
        cases q'
        refine ⟨e6, W6 ++ [acO (opC b n s1)], ρ6, f6, E6, Y.tr Y6, by rw [List.append_assoc]; exact M6, ?_, fun y hy => ?_, N6, T5.tr (T8.le P6 (by omega)), Or.inr ?_⟩
        · rw [L6, List.map_append, List.append_assoc]
          show _ = e6 ++ (W6.map ai ++ [ai (acO (opC b n s1))])
          rw [a1]
        · rcases List.mem_append.mp hy with hy | hy
          · exact ⟨by have := (F6 y hy).1; omega, (F6 y hy).2⟩
          · cases List.mem_singleton.mp hy
            exact ⟨by omega, by omega⟩
        · rw [show sI ρ6 128 d = 1 from (P6 d (by omega)).trans v5]
          decide
theorem M_cmp (hn : n ≤ 500) (hb : ∀ j, b j < 256) (hK : K + 1011 ≤ 15800) (H : HE b n q0 K x d m E) {W : List Nat} (hBk : Blk 3 W) {s k f g : Nat} {l : List (Nat × Nat)} {ρ0 ρ : Sto} (hM : MS b n q0 K d (0, -1) s s l (List.replicate k 3 ++ W) ρ) (hf : n + 2 ≤ s + f) (hG : n + 2 ≤ s + g) (hp : sI ρ 128 d = 0) (hy : Ey (SM q0) ρ0 ρ) (ht : T8 d ρ0 ρ) : MRes b n q0 K x d 3 W ρ0 (poO b n d ρ0) (zCmp b n E k s l) (mOp x g 1 f ρ) := by
  have hB4 : Blk 4 (List.replicate k 3 ++ W) := by
    cases k with
    | zero => exact hBk.mono (by decide)
    | succ k => exact Or.inr (by decide)
  have R := M_test hn hb hK H 1 s l (List.replicate k 3 ++ W) ρ g f hM hB4 hf hG hp
  show MRes b n q0 K x d 3 W ρ0 _ (stN (zTest b n E s l) _) _
  cases q : zTest b n E s l with
  | inl e => rw [stN_l]; exact MRes.l ((R.1 e.1 e.2 q).pre hy)
  | inr w =>
    obtain ⟨s1, l1⟩ := w
    rw [stN_r]
    obtain ⟨e1, W1, ρ1, f1, E1, Y1, M1, L1, F1, N1, P1⟩ := R.2 s1 l1 q
    refine ⟨(fun _ _ q' => by cases q'), fun s' l' q' => ?_⟩
    cases q'
    refine ⟨e1, W1 ++ List.replicate k 3, ρ1, f1, E1, hy.tr Y1, by rw [List.append_assoc]; exact M1, ?_, fun y hy' => ?_, N1, ht.tr P1.1, P1.2⟩
    · rw [L1, List.map_append, List.append_assoc, List.map_replicate]
      rfl
    · rcases List.mem_append.mp hy' with hy' | hy'
      · exact ⟨by have := (F1 y hy').1; omega, (F1 y hy').2⟩
      · rw [List.eq_of_mem_replicate hy']
        exact ⟨by decide, by decide⟩
theorem M_nots (hn : n ≤ 500) (hb : ∀ j, b j < 256) (hK : K + 1011 ≤ 15800) (H : HE b n q0 K x d m E) {W : List Nat} (hBk : Blk 3 W) {f g : Nat} {l : List (Nat × Nat)} {ρ0 : Sto} (hg1 : 1 ≤ g) : ∀ mm k s ρ fuel, k + mm = 6 → mm + 2 ≤ fuel → MS b n q0 K d (0, -1) s s l (List.replicate k 3 ++ W) ρ → n + 2 ≤ s + f → n + 2 ≤ s + g → sI ρ 128 d = 0 → Ey (SM q0) ρ0 ρ → T8 d ρ0 ρ → MRes b n q0 K x d 3 W ρ0 (poO b n d ρ0) (zNots b n E mm k s l) ((mX12_operand_18 (mX12_operand_4 g) fuel 1 (Int32.ofNat k) ρ).bind fun ρ1 => mX12_expression_26 f x 1 ρ1) := by
  intro mm
  have other : ∀ k s ρ fuel, MS b n q0 K d (0, -1) s s l (List.replicate k 3 ++ W) ρ → n + 2 ≤ s + f → n + 2 ≤ s + g → sI ρ 128 d = 0 → Ey (SM q0) ρ0 ρ → T8 d ρ0 ρ → ¬ wd b n s = 10 → MRes b n q0 K x d 3 W ρ0 (poO b n d ρ0) (zCmp b n E k s l) ((mX12_operand_18 (mX12_operand_4 g) (fuel + 1) 1 (Int32.ofNat k) ρ).bind fun ρ1 => mX12_expression_26 f x 1 ρ1) := fun k s ρ fuel hM hf hG hp hy ht hw => by
    have hwb := wd_b b n s
    have v10 : ¬ (if wd b n s = 99 then (-1 : Int32) else Int32.ofNat (wd b n s)) = 10 := by
      by_cases c : wd b n s = 99
      · rw [if_pos c]; decide
      · rw [if_neg c]; exact fun q => hw ((eq_lit (v := 10) (m := 10) rfl (by omega) (by decide)).mp q)
    have e18 : mX12_operand_18 (mX12_operand_4 g) (fuel + 1) 1 (Int32.ofNat k) ρ = mX12_operand_75 (mX12_operand_4 g) 1 ρ := by
      show mX12_operand_18B (mX12_operand_4 g) (mX12_operand_18 (mX12_operand_4 g) fuel) 1 (Int32.ofNat k) ρ = _
      unfold mX12_operand_18B
      rw [M_good hM, if_pos rfl, if_neg (by decide), if_neg (by decide), M_kword hn hM.1.2.1 hM.1.2.2.1, bnd_some, if_neg v10]
    rw [e18]
    exact M_cmp hn hb hK H hBk hM hf hG hp hy ht
  have e10 : ∀ k s ρ fuel, MS b n q0 K d (0, -1) s s l (List.replicate k 3 ++ W) ρ → wd b n s = 10 → mX12_operand_18 (mX12_operand_4 g) (fuel + 1) 1 (Int32.ofNat k) ρ = if Int32.ofNat k = 6 then ((mX12_wrong (2 : Int32) ρ).bind fun σ23 => mX12_operand_50 (mX12_operand_4 g) (mX12_operand_18 (mX12_operand_4 g) fuel) 1 (Int32.ofNat k) σ23) else mX12_operand_50 (mX12_operand_4 g) (mX12_operand_18 (mX12_operand_4 g) fuel) 1 (Int32.ofNat k) ρ := fun k s ρ fuel hM hw => by
    show mX12_operand_18B (mX12_operand_4 g) (mX12_operand_18 (mX12_operand_4 g) fuel) 1 (Int32.ofNat k) ρ = _
    unfold mX12_operand_18B
    rw [M_good hM, if_pos rfl, if_neg (by decide), if_neg (by decide), M_kword hn hM.1.2.1 hM.1.2.2.1, bnd_some, if_neg (show ¬ wd b n s = 99 by omega), hw, if_pos (show Int32.ofNat 10 = 10 from rfl)]
  induction mm with
  | zero =>
    intro k s ρ fuel hk hfu hM hf hG hp hy ht
    obtain ⟨fu, rfl⟩ : ∃ q, fuel = q + 2 := ⟨fuel - 2, by omega⟩
    show MRes b n q0 K x d 3 W ρ0 _ (if wd b n s = 10 then .inl (2, s) else zCmp b n E k s l) _
    by_cases c : wd b n s = 10
    · have hs := hM.1.2.1
      rw [if_pos c, e10 k s ρ (fu + 1) hM c, show k = 6 by omega, if_pos (show Int32.ofNat 6 = 6 from rfl)]
      obtain ⟨ρ1, e1, s1, m1, hne⟩ := M_wrg (k := 2) (v := 2) rfl ⟨by decide, by decide⟩ hM
      have g0 : mX12_isGood ρ1 = 0 := by rw [M_good m1, if_neg hne]
      obtain ⟨g, rfl⟩ : ∃ q, g = q + 1 := ⟨g - 1, by omega⟩
      have e50 : mX12_operand_50 (mX12_operand_4 (g + 1)) (mX12_operand_18 (mX12_operand_4 (g + 1)) (fu + 1)) 1 (Int32.ofNat 6) ρ1 = mX12_operand_4 (g + 1) 1 0 ρ1 := by
        unfold mX12_operand_50
        rw [g0, if_pos rfl]
        show mX12_operand_18B (mX12_operand_4 (g + 1)) (mX12_operand_18 (mX12_operand_4 (g + 1)) fu) 1 _ ρ1 = _
        unfold mX12_operand_18B mX12_operand_75 mX12_operand_95 mX12_operand_96
        rw [g0, if_pos rfl, if_pos rfl, if_pos rfl]
      rw [e1, bnd_some, e50]
      exact MRes.l ((M_op_end hK (by omega) (by omega) m1 hne).pre (hy.tr s1.1))
    · rw [if_neg c]
      exact other k s ρ (fu + 1) hM hf hG hp hy ht c
  | succ mm ih =>
    intro k s ρ fuel hk hfu hM hf hG hp hy ht
    obtain ⟨fu, rfl⟩ : ∃ q, fuel = q + 1 := ⟨fuel - 1, by omega⟩
    show MRes b n q0 K x d 3 W ρ0 _ (if wd b n s = 10 then zNots b n E mm (k + 1) (nx b n s) l else zCmp b n E k s l) _
    by_cases c : wd b n s = 10
    · have hs := hM.1.2.1
      have hlt := (nx_le (b := b) (n := n) hs).2.2 (tc_lt (b := b) (by rw [wd_w (by omega)]; decide))
      rw [if_pos c, e10 k s ρ fu hM c, if_neg (fun q => absurd ((eq_lit (v := 6) (m := 6) rfl (by omega) (by decide)).mp q) (by omega))]
      obtain ⟨ρ1, e1, s1, m1⟩ := M_push (a := 3) (v := 3) rfl ⟨by decide, by decide⟩ (by omega) hM
      obtain ⟨ρ2, e2, s2, m2⟩ := M_gs hn hb m1
      have e50 : mX12_operand_50 (mX12_operand_4 g) (mX12_operand_18 (mX12_operand_4 g) fu) 1 (Int32.ofNat k) ρ = mX12_operand_18 (mX12_operand_4 g) fu 1 (Int32.ofNat (k + 1)) ρ2 := by
        unfold mX12_operand_50
        rw [M_good hM, if_pos rfl, if_neg (by decide), e1, bnd_some, e2, bnd_some, oI_s]
      rw [e50]
      exact ih (k + 1) (nx b n s) ρ2 fu (by omega) (by omega) (m2.up (by omega)) (by omega) (by omega) (((s1.tr s2).2 (d + 1) d (by omega)).trans hp) ((hy.tr s1.1).tr s2.1) (ht.tr ((s1.tr s2).2 d))
    · rw [if_neg c]
      exact other k s ρ fu hM hf hG hp hy ht c
theorem M_notE (hn : n ≤ 500) (hb : ∀ j, b j < 256) (hK : K + 1011 ≤ 15800) (H : HE b n q0 K x d m E) : MPo b n q0 K x d 3 3 (mOq x) (fun ρ => sI ρ 128 d = 0) (poO b n d) (zNot b n E) := by
  intro s l W ρ G f hM hBk hf hG hp
  have hs := hM.1.2.1
  obtain ⟨g, rfl⟩ : ∃ q, G = q + 1 := ⟨G - 1, by omega⟩
  have e4 : mX12_operand_4 (g + 1) 1 1 ρ = mX12_operand_18 (mX12_operand_4 g) FU 1 (Int32.ofNat 0) ρ := by
    show mX12_operand_4B (mX12_operand_4 g) 1 1 ρ = _
    unfold mX12_operand_4B
    rw [if_neg (by decide), M_good hM, if_pos rfl, if_neg (by decide)]
    rfl
  unfold mOq
  rw [e4]
  exact M_nots hn hb hK H hBk (by omega) 6 0 s ρ FU rfl (by decide) hM hf (by omega) hp Ey.rf T8.rf
/-- a word between two operands -/
theorem M_wgo (hn : n ≤ 500) (hb : ∀ j, b j < 256) {s L a v : Nat} {e l : List (Nat × Nat)} {W0 W : List Nat} {ρ ρ1 : Sto} {f : Nat} (hv : (v = 8 ∧ L = 2 ∧ a = 4) ∨ (v = 9 ∧ L = 1 ∧ a = 5)) (hw : wd b n s = v) (h1 : MS b n q0 K d (0, -1) s s e W0 ρ) (e1 : mX12_drops (Int32.ofNat L) ρ = some ρ1) (m1 : MS b n q0 K d (0, -1) s s l W ρ1) (s1 : St8 q0 ρ ρ1) :
    ∃ ρ3 G, mLp x (f + 1) ρ = mOq x G f ρ3 ∧ Ey (SM q0) ρ1 ρ3 ∧ MS b n q0 K d (0, -1) (nx b n s) (nx b n s) l (a :: W) ρ3 ∧ n + 3 ≤ nx b n s + G ∧ sI ρ3 128 d = 0 ∧ T8 d ρ ρ3 := by
  have hs := h1.1.2.1
  have hd6 := h1.2.2.1.2
  have hlt := (nx_le (b := b) (n := n) hs).2.2 (tc_lt (b := b) (by rw [wd_w (by omega)]; decide))
  obtain ⟨ρ2, e2, s2, m2⟩ := M_push (a := a) (v := Int32.ofNat a) rfl (by omega) (by omega) m1
  obtain ⟨m3, y3, t3, v3⟩ := M_mark 0 m2
  obtain ⟨ρ4, e4, s4, m4⟩ := M_gs hn hb m3
  refine ⟨ρ4, FU, ?_, (s2.1.tr y3).tr s4.1, m4.up (by omega), ?_, (s4.2 (d + 1) d (by omega)).trans v3, (((s1.2 d).tr (s2.2 d)).tr t3).tr (s4.2 d)⟩
  · have e81 : mX12_expression_81 (mX12_expression_26 f) x 1 (Int32.ofNat a) ρ1 = mOq x FU f ρ4 := by
      unfold mX12_expression_81
      rw [e2, bnd_some, m2.2.2.1.1, if_pos (oI_inb (by omega) (by decide)), oI_cl (j := d) (by omega)]
      show ((mX12_goes (wI ρ2 128 d 0)).bind fun σ22 => (mX12_operand 1 σ22).bind fun σ23 => mX12_expression_26 f x 1 σ23) = _
      rw [e4, bnd_some]
      rfl
    show mX12_expression_26B (mX12_expression_26 f) x 1 ρ = _
    unfold mX12_expression_26B mX12_expression_54 mX12_expression_66
    rw [if_neg (by decide), M_good h1, if_pos rfl, if_neg (by decide), M_kword hn hs h1.1.2.2.1, bnd_some, if_neg (show ¬ wd b n s = 99 by omega), hw]
    rcases hv with ⟨rfl, rfl, rfl⟩ | ⟨rfl, rfl, rfl⟩
    · have e1' : mX12_drops 2 ρ = some ρ1 := e1
      rw [if_pos (show Int32.ofNat 8 = 8 from rfl), if_pos (show Int32.ofNat 8 = 8 from rfl), e1', bnd_some, if_pos (show Int32.ofNat 8 = 8 from rfl)]
      exact e81
    · have e1' : mX12_drops 1 ρ = some ρ1 := e1
      rw [if_neg (show ¬ Int32.ofNat 9 = 8 by decide), if_pos (show Int32.ofNat 9 = 9 from rfl), if_neg (show ¬ Int32.ofNat 9 = 8 by decide), e1', bnd_some, if_neg (show ¬ Int32.ofNat 9 = 8 by decide)]
      exact e81
  · show n + 3 ≤ nx b n s + 5000
    omega
theorem M_and (hn : n ≤ 500) (hb : ∀ j, b j < 256) (hK : K + 1011 ≤ 15800) (H : HE b n q0 K x d m E) : MPo b n q0 K x d 2 3 (mOq x) (fun ρ => sI ρ 128 d = 0) (poO b n d) (zAnd b n E) := by
  refine M_row (L := 2) (start := mOq x) (TG := fun ρ ρ3 => T8 d ρ ρ3) hn hK (by decide) (zNot_ok H.1.2 H.2.1) (opA_g b n) (fun s h => ?_) (M_notE hn hb hK H) (M_notE hn hb hK H) (fun s e W0 l W ρ ρ1 f h1 e1 m1 s1 c _ => ?_) (fun ρ0 ρ ρ3 ρ' s s' p1 p2 p3 => ⟨(p1.1.tr p2).tr p3.1, p3.2⟩)
  · rw [(opA_i h).2]; rfl
  · rw [(opA_i c).2]
    exact M_wgo hn hb (Or.inl ⟨rfl, rfl, rfl⟩) (opA_i c).1 h1 e1 m1 s1
theorem M_or (hn : n ≤ 500) (hb : ∀ j, b j < 256) (hK : K + 1011 ≤ 15800) (H : HE b n q0 K x d m E) : MPo b n q0 K x d 1 3 (mOq x) (fun ρ => sI ρ 128 d = 0) (poO b n d) (zOr b n E) := by
  have hm := H.1.2
  refine M_row (L := 1) (start := mOq x) (TG := fun ρ ρ3 => T8 d ρ ρ3) hn hK (by decide) (zRow_ok (M := m + 4) (by omega) (by omega) (zNot_ok hm H.2.1) (opA_g b n)) (opO_g b n) (fun s h => ?_) (M_and hn hb hK H) (M_and hn hb hK H) (fun s e W0 l W ρ ρ1 f h1 e1 m1 s1 c _ => ?_) (fun ρ0 ρ ρ3 ρ' s s' p1 p2 p3 => ⟨(p1.1.tr p2).tr p3.1, p3.2⟩)
  · rw [(opO_i h).2]; rfl
  · rw [(opO_i c).2]
    exact M_wgo hn hb (Or.inr ⟨rfl, rfl, rfl⟩) (opO_i c).1 h1 e1 m1 s1
end
theorem M_expr_r {b : Nat → Nat} {n q0 K : Nat} {x : Int32} (hn : n ≤ 500) (hb : ∀ j, b j < 256) (hK : K + 1011 ≤ 15800) : ∀ m w, w + m = 5 → MPo b n q0 K x (w + 1) 1 3 (mOq x) (fun ρ => sI ρ 128 (w + 1) = 0) (poO b n (w + 1)) (zExpr b n (m + 3) w)
  | 0, w, hw => by
    have h : HE b n q0 K x (w + 1) (1 + 5 * 2) (zExpr b n 2 (w + 1)) := ⟨⟨by omega, by omega⟩, zExpr_ok 2 (w + 1), fun q => absurd q (by omega), fun q s l => by rw [q]; exact zExpr_6 1 s l⟩
    have e : zExpr b n (0 + 3) w = zOr b n (zExpr b n 2 (w + 1)) := by
      funext s l
      show zExprO b n (zExpr b n 2 (w + 1)) w s l = _
      unfold zExprO
      rw [if_neg (fun q => by omega)]
    rw [e]
    exact M_or hn hb hK h
  | m + 1, w, hw => by
    have ih := M_expr_r (q0 := q0) (x := x) hn hb hK m (w + 1) (by omega)
    have h : HE b n q0 K x (w + 1) (1 + 5 * (m + 3)) (zExpr b n (m + 3) (w + 1)) := ⟨⟨by omega, by omega⟩, zExpr_ok (m + 3) (w + 1), fun _ => ih, fun q => absurd q (by omega)⟩
    have e : zExpr b n (m + 1 + 3) w = zOr b n (zExpr b n (m + 3) (w + 1)) := by
      funext s l
      show zExprO b n (zExpr b n (m + 3) (w + 1)) w s l = _
      unfold zExprO
      rw [if_neg (fun q => by omega)]
    rw [e]
    exact M_or hn hb hK h
