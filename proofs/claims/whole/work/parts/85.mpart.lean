/-! the reference reads an EXPR: contracts, a part -/
def mLp (x : Int32) (f : Nat) (ρ : Sto) : Option (Int32 × Sto) := mX12_expression_26 f x 1 ρ
def mOp (x : Int32) (G : Nat) (x2 : Int32) (f : Nat) (ρ : Sto) : Option (Int32 × Sto) := (mX12_operand_75 (mX12_operand_4 G) x2 ρ).bind fun ρ1 => mX12_expression_26 f x 1 ρ1
def mOq (x : Int32) (G : Nat) (f : Nat) (ρ : Sto) : Option (Int32 × Sto) := (mX12_operand_4 G 1 1 ρ).bind fun ρ1 => mX12_expression_26 f x 1 ρ1
/-- it ends with a fault -/
def FEn (q0 : Nat) (x : Int32) (ρ : Sto) (k p : Nat) (c : Option (Int32 × Sto)) : Prop := ∃ ρ', c = some (x, ρ') ∧ Ey (SM q0) ρ ρ' ∧ sI ρ' 81 40 = Int32.ofNat k ∧ sI ρ' 81 41 = Int32.ofNat p
theorem FEn.pre {q0 : Nat} {x : Int32} {ρ ρ1 : Sto} {k p : Nat} {c : Option (Int32 × Sto)} (h : FEn q0 x ρ1 k p c) (y : Ey (SM q0) ρ ρ1) : FEn q0 x ρ k p c := by
  obtain ⟨ρ', h1, h2, h3⟩ := h
  exact ⟨ρ', h1, y.tr h2, h3⟩
def MRes (b : Nat → Nat) (n q0 K : Nat) (x : Int32) (d L : Nat) (W : List Nat) (ρ : Sto) (post : Sto → Nat → Prop) (t : Zt) (c : Option (Int32 × Sto)) : Prop :=
  (∀ k p, t = .inl (k, p) → FEn q0 x ρ k p c) ∧ ∀ s' l', t = .inr (s', l') → ∃ e' W' ρ' f', c = mLp x f' ρ' ∧ Ey (SM q0) ρ ρ' ∧ MS b n q0 K d (0, -1) s' s' e' (W' ++ W) ρ' ∧ l' = e' ++ W'.map ai ∧ (∀ y ∈ W', L ≤ st6 y ∧ y ≠ 12) ∧ n + 2 ≤ s' + f' ∧ post ρ' s'
def MPo (b : Nat → Nat) (n q0 K : Nat) (x : Int32) (d L r : Nat) (start : Nat → Nat → Sto → Option (Int32 × Sto)) (pre : Sto → Prop) (post : Sto → Sto → Nat → Prop) (g : Zg) : Prop :=
  ∀ s l W ρ G f, MS b n q0 K d (0, -1) s s l W ρ → Blk L W → n + 2 ≤ s + f → n + r ≤ s + G → pre ρ → MRes b n q0 K x d L W ρ (post ρ) (g s l) (start G f ρ)
theorem MRes.l {b : Nat → Nat} {n q0 K d L : Nat} {x : Int32} {W : List Nat} {ρ : Sto} {post : Sto → Nat → Prop} {k p : Nat} {c : Option (Int32 × Sto)} (h : FEn q0 x ρ k p c) : MRes b n q0 K x d L W ρ post (.inl (k, p)) c := ⟨fun _ _ q => by cases q; exact h, fun _ _ q => by cases q⟩
theorem MRes.pre {b : Nat → Nat} {n q0 K d L : Nat} {x : Int32} {W : List Nat} {ρ ρ1 : Sto} {post post1 : Sto → Nat → Prop} {t : Zt} {c : Option (Int32 × Sto)} (h : MRes b n q0 K x d L W ρ1 post1 t c) (y : Ey (SM q0) ρ ρ1) (hp : ∀ ρ' s', post1 ρ' s' → post ρ' s') : MRes b n q0 K x d L W ρ post t c := by
  refine ⟨fun k p q => (h.1 k p q).pre y, fun s' l' q => ?_⟩
  obtain ⟨e', W', ρ', f', h1, h2, h3, h4, h5, h6, h7⟩ := h.2 s' l' q
  exact ⟨e', W', ρ', f', h1, y.tr h2, h3, h4, h5, h6, hp _ _ h7⟩
theorem Blk.mono {L L' : Nat} (hL : L ≤ L') : ∀ {W : List Nat}, Blk L W → Blk L' W
  | [], _ => trivial
  | y :: _, h => h.imp id (fun q => Nat.lt_of_lt_of_le q hL)
theorem W_split : ∀ W : List Nat, ∃ W' W'', W = W' ++ W'' ∧ (∀ y ∈ W', 0 ≤ st6 y ∧ y ≠ 12) ∧ Blk 0 W''
  | [] => ⟨[], [], rfl, fun y hy => (nomatch hy), trivial⟩
  | y :: W => by
    by_cases c : y = 12
    · exact ⟨[], y :: W, rfl, fun y hy => (nomatch hy), Or.inl c⟩
    · obtain ⟨W', W'', h1, h2, h3⟩ := W_split W
      refine ⟨y :: W', W'', by rw [h1]; rfl, fun z hz => ?_, h3⟩
      rcases List.mem_cons.mp hz with rfl | hz
      · exact ⟨Nat.zero_le _, c⟩
      · exact h2 z hz
theorem M_368 {b : Nat → Nat} {n q0 K d s B : Nat} {φ : Int32 × Int32} {e : List (Nat × Nat)} {W : List Nat} {ρ : Sto} {x : Int32} (hK : K + 1011 ≤ 15800) (hB : B ≤ 505) (h : MS b n q0 K d φ s B e W ρ) : ∃ W' W'' ρ1 ρ', W = W' ++ W'' ∧ mX12_expression_368 x ρ = some (x, ρ') ∧ St8 q0 ρ ρ1 ∧ MS b n q0 K d φ s B (e ++ W'.map ai) W'' ρ1 ∧ Blk 0 W'' ∧ ρ' = wI (wI ρ1 126 (q0 + (mc (e ++ W'.map ai)).length) 0) 81 51 (Int32.ofNat (q0 + (mc (e ++ W'.map ai)).length + 1)) := by
  obtain ⟨W', W'', h1, h2, h3⟩ := W_split W
  subst h1
  have hl := h.2.1.2.2.2
  rw [List.length_append] at hl
  obtain ⟨ρ1, e1, s1, m1⟩ := M_drops (v := 0) (L := 0) rfl (by decide) hK hB h3 W' e FU ρ (show W'.length < 5000 by omega) h2 h
  have h13 := m1.2.2.2.2.2
  have e2 := M_put1 (0 : Int32) m1.2.2.2.1 (by omega)
  refine ⟨W', W'', ρ1, _, rfl, ?_, s1, m1, h3, rfl⟩
  unfold mX12_expression_368 mX12_drops
  rw [e1, bnd_some, e2, bnd_some]
/-- behind a fault it ends -/
theorem M_endf {b : Nat → Nat} {n q0 K d s B f k p : Nat} {e : List (Nat × Nat)} {W : List Nat} {ρ : Sto} {x y : Int32} (hK : K + 1011 ≤ 15800) (hB : B ≤ 505) (hf : 1 ≤ f) (h : MS b n q0 K d (Int32.ofNat k, Int32.ofNat p) s B e W ρ) (hne : ¬ Int32.ofNat k = 0) : FEn q0 x ρ k p (mX12_expression_26 f x y ρ) := by
  obtain ⟨f, rfl⟩ : ∃ q, f = q + 1 := ⟨f - 1, by omega⟩
  obtain ⟨W', W'', ρ1, ρ', h1, h2, h3, h4, h5, h6⟩ := M_368 (x := x) hK hB h
  have hg : mX12_isGood ρ = 0 := by rw [M_good h, if_neg hne]
  have e348 : mX12_expression_348 x ρ = some (x, ρ') := by
    unfold mX12_expression_348
    rw [hg, if_pos rfl, h2]
  have y1 : Ey (SM q0) ρ1 ρ' := by
    rw [h6]
    exact (Ey.rf.w (S := SM q0) _ (Or.inr (Or.inl ⟨rfl, Nat.le_add_right _ _⟩))).w _ (Or.inl ⟨rfl, Or.inr (Or.inr ⟨by decide, by decide⟩)⟩)
  refine ⟨ρ', ?_, h3.1.tr y1, ?_, ?_⟩
  · show mX12_expression_26B (mX12_expression_26 f) x y ρ = _
    unfold mX12_expression_26B
    by_cases c : y = 0
    · rw [if_pos c, e348]
    · rw [if_neg c, hg, if_pos rfl, e348]
  · rw [h6, sI_wI, if_neg (by omega), sI_wI, if_neg (by omega)]; exact h4.1.2.2.2.1
  · rw [h6, sI_wI, if_neg (by omega), sI_wI, if_neg (by omega)]; exact h4.1.2.2.2.2
/-- one deeper -/
theorem M_deep {b : Nat → Nat} {n q0 K d s B : Nat} {φ : Int32 × Int32} {e : List (Nat × Nat)} {W : List Nat} {ρ : Sto} (hd : d < 6) (h : MS b n q0 K d φ s B e W ρ) : ∃ ρ', mX12_begins ρ = some ρ' ∧ Ey (SM q0) ρ ρ' ∧ T8 (d + 1) ρ ρ' ∧ MS b n q0 K (d + 1) φ s B e W ρ' ∧ sI ρ' 128 (d + 1) = 0 := by
  obtain ⟨⟨h1, h2, h3, h4, h4'⟩, ⟨h5, h6, h7, h8⟩, ⟨h9, h10⟩, h11, h12, h13⟩ := h
  have x : Ex (fun a j => (a = 81 ∧ j = 53) ∨ (a = 128 ∧ j = d + 1)) ρ (wI (wI ρ 81 53 (Int32.ofNat (d + 1))) 128 (d + 1) 0) := (Ex.rf.w (S := fun a j => (a = 81 ∧ j = 53) ∨ (a = 128 ∧ j = d + 1)) _ (Or.inl ⟨rfl, rfl⟩)).w _ (Or.inr ⟨rfl, rfl⟩)
  have k := x.2.2.2.2.2
  have xm := x.mono (T := SM q0) fun a j z => by unfold SM; omega
  refine ⟨_, ?_, xm.ey, fun j hj => k 128 j (by omega), ⟨⟨h1.ex x (fun a j z => by omega), h2, h3.ey x (fun j _ _ z => by omega), (k 81 40 (by omega)).trans h4, (k 81 41 (by omega)).trans h4'⟩, ⟨(k 81 52 (by omega)).trans h5, h6.congr (fun i _ => k 127 i (by omega)), h7, h8⟩, ⟨?_, by omega⟩, (k 81 51 (by omega)).trans h11, fun q => (h12 q).congr (fun i _ _ => k 126 i (by omega)), h13⟩, ?_⟩
  · unfold mX12_begins
    rw [h9, if_neg (fun q => absurd ((lit_le (v := 6) (m := 6) rfl (by decide) (by omega)).mp q) (by omega)), oI_s]
    show (if inb (sI (wI ρ 81 53 (Int32.ofNat (d + 1))) 81 53) 9 then some (wI (wI ρ 81 53 (Int32.ofNat (d + 1))) 128 ((sI (wI ρ 81 53 (Int32.ofNat (d + 1))) 81 53)).toNatClampNeg 0) else none) = _
    have g1 : sI (wI ρ 81 53 (Int32.ofNat (d + 1))) 81 53 = Int32.ofNat (d + 1) := by rw [sI_wI, if_pos ⟨rfl, rfl⟩]
    rw [g1, if_pos (oI_inb (by omega) (by decide)), oI_cl (j := d + 1) (by omega)]
  · rw [sI_wI, if_neg (by omega), sI_wI, if_pos ⟨rfl, rfl⟩]
  · rw [sI_wI, if_pos ⟨rfl, rfl⟩]
/-- no word and no sign of a test there: on to the rest -/
theorem M_183 {b : Nat → Nat} {n q0 K d s B f : Nat} {e : List (Nat × Nat)} {W : List Nat} {ρ : Sto} {x : Int32} (hn : n ≤ 500) (hb : ∀ j, b j < 256) (h : MS b n q0 K d (0, -1) s B e W ρ) (hA : opA b n s = 99) (hO : opO b n s = 99) (hC : opC b n s = 99 ∨ ¬ sI ρ 128 d = 0) : mX12_expression_26 (f + 1) x 1 ρ = mX12_expression_183 (mX12_expression_26 f) x 1 ρ := by
  have hT := h.1.2.2.1
  have hwb := wd_b b n s
  have nA : ¬ wd b n s = 8 := fun q => by unfold opA at hA; rw [if_pos q] at hA; cases hA
  have nO : ¬ wd b n s = 9 := fun q => by unfold opO at hO; rw [if_pos q] at hO; cases hO
  have v8 : ¬ (if wd b n s = 99 then (-1 : Int32) else Int32.ofNat (wd b n s)) = 8 := by
    by_cases c : wd b n s = 99
    · rw [if_pos c]; decide
    · rw [if_neg c]; exact fun q => nA ((eq_lit (v := 8) (m := 8) rfl (by omega) (by decide)).mp q)
  have v9 : ¬ (if wd b n s = 99 then (-1 : Int32) else Int32.ofNat (wd b n s)) = 9 := by
    by_cases c : wd b n s = 99
    · rw [if_pos c]; decide
    · rw [if_neg c]; exact fun q => nO ((eq_lit (v := 9) (m := 9) rfl (by omega) (by decide)).mp q)
  have hd : d ≤ 6 := h.2.2.1.2
  have e124 : (tc b n s = 60 ∨ tc b n s = 61) → mX12_expression_124 (mX12_expression_26 f) x 1 ρ = mX12_expression_183 (mX12_expression_26 f) x 1 ρ := fun hc => by
    have ht : ¬ sI ρ 128 d = 0 := hC.resolve_left (fun q => by
      unfold opC at q
      rcases hc with hc | hc
      · rw [if_pos hc] at q; cases q
      · rw [if_neg (by omega), if_pos hc] at q; cases q)
    unfold mX12_expression_124
    rw [h.2.2.1.1, if_pos (oI_inb (by omega) (by decide)), oI_cl (j := d) (by omega), if_neg ht]
  show mX12_expression_26B (mX12_expression_26 f) x 1 ρ = _
  unfold mX12_expression_26B
  rw [if_neg (by decide), M_good h, if_pos rfl, if_neg (by decide), M_kword hn h.1.2.1 hT, bnd_some, if_neg v8, if_neg v9, M_sgn (c := 60) (v := 60) hb rfl (by decide) (by decide) hT, M_sgn (c := 61) (v := 61) hb rfl (by decide) (by decide) hT]
  by_cases c1 : tc b n s = 60
  · rw [if_pos c1, if_neg (by decide)]; exact e124 (Or.inl c1)
  · rw [if_neg c1, if_pos rfl]
    by_cases c2 : tc b n s = 61
    · rw [if_pos c2, if_neg (by decide)]; exact e124 (Or.inr c2)
    · rw [if_neg c2, if_pos rfl]
/-- a parenthesis closes -/
theorem M_close {b : Nat → Nat} {n q0 K d s f : Nat} {e : List (Nat × Nat)} {W' W : List Nat} {ρ : Sto} {x : Int32} (hn : n ≤ 500) (hb : ∀ j, b j < 256) (hK : K + 1011 ≤ 15800) (hd : 1 ≤ d) (h : MS b n q0 K (d + 1) (0, -1) s s e (W' ++ 12 :: W) ρ) (hW : ∀ y ∈ W', 0 ≤ st6 y ∧ y ≠ 12) (c41 : tc b n s = 41) : ∃ ρ', mLp x (f + 1) ρ = mLp x f ρ' ∧ St8 q0 ρ ρ' ∧ MS b n q0 K d (0, -1) (nx b n s) (nx b n s) (e ++ W'.map ai) W ρ' := by
  have hs := h.1.2.1
  have hT := h.1.2.2.1
  have hnx := nx_le (b := b) (n := n) hs
  have hlt := hnx.2.2 (tc_lt (b := b) (by omega))
  have hl := h.2.1.2.2.2
  rw [List.length_append] at hl
  have nw : wd b n s = 99 := by unfold wd; rw [if_neg (by omega)]
  obtain ⟨ρ1, e1, s1, m1⟩ := M_drops (v := 0) (L := 0) (W := 12 :: W) rfl (by decide) hK (by omega) (Or.inl rfl) W' e FU ρ (show W'.length < 5000 by omega) hW h
  have h53 := m1.2.2.1.1
  obtain ⟨⟨h1, h2, h3, h4, h4'⟩, ⟨h5, h6, h7, h8⟩, ⟨h9, h10⟩, h11, h12, h13⟩ := m1
  have hlen : (12 :: W).length = W.length + 1 := rfl
  rw [hlen] at h5 h8 h13
  have x2 : Ex (fun a j => a = 81 ∧ (j = 52 ∨ j = 53)) ρ1 (wI (wI ρ1 81 52 (Int32.ofNat W.length)) 81 53 (Int32.ofNat d)) := (Ex.rf.w (S := fun a j => a = 81 ∧ (j = 52 ∨ j = 53)) _ ⟨rfl, Or.inl rfl⟩).w _ ⟨rfl, Or.inr rfl⟩
  have k := x2.2.2.2.2.2
  have xm := x2.mono (T := SM q0) fun a j z => by unfold SM; omega
  have m2 : MS b n q0 K d (0, -1) s s (e ++ W'.map ai) W (wI (wI ρ1 81 52 (Int32.ofNat W.length)) 81 53 (Int32.ofNat d)) := ⟨⟨h1.ex x2 (fun a j z => by omega), h2, h3.ey x2 (fun j _ _ z => by omega), (k 81 40 (by omega)).trans h4, (k 81 41 (by omega)).trans h4'⟩, ⟨by rw [sI_wI, if_neg (by omega), sI_wI, if_pos ⟨rfl, rfl⟩], h6.2.congr (fun i _ => k 127 i (by omega)), fun y hy => h7 y (List.mem_cons_of_mem _ hy), by omega⟩, ⟨by rw [sI_wI, if_pos ⟨rfl, rfl⟩], by omega⟩, (k 81 51 (by omega)).trans h11, fun q => (h12 q).congr (fun i _ _ => k 126 i (by omega)), by omega⟩
  obtain ⟨ρ3, e3, s3, m3⟩ := M_gs hn hb m2
  refine ⟨ρ3, ?_, (s1.tr ⟨xm.ey, fun m j _ => k 128 j (by omega)⟩).tr s3, m3.up (by omega)⟩
  unfold mLp
  rw [M_183 hn hb h (by unfold opA; rw [nw, if_neg (by decide)]) (by unfold opO; rw [nw, if_neg (by decide)]) (Or.inl (by unfold opC; rw [if_neg (by omega), if_neg (by omega)]))]
  unfold mX12_expression_183
  rw [M_sgn (c := 43) (v := 43) hb rfl (by decide) (by decide) hT, M_sgn (c := 45) (v := 45) hb rfl (by decide) (by decide) hT, M_sgn (c := 42) (v := 42) hb rfl (by decide) (by decide) hT, M_sgn (c := 47) (v := 47) hb rfl (by decide) (by decide) hT, M_sgn (c := 41) (v := 41) hb rfl (by decide) (by decide) hT, if_neg (show ¬ tc b n s = 43 by omega), if_pos rfl, if_neg (show ¬ tc b n s = 45 by omega), if_pos rfl, if_neg (show ¬ tc b n s = 42 by omega), if_pos rfl, if_neg (show ¬ tc b n s = 47 by omega), if_pos rfl, if_pos c41, if_neg (by decide), h.2.2.1.1, if_neg (fun q => absurd ((le_lit (v := 1) (m := 1) rfl (by omega) (by decide)).mp q) (by omega))]
  show ((mX12_drops_0 FU 0 ρ).bind fun σ52 => (mX12_goes (wI (wI σ52 81 52 (sI σ52 81 52 - 1)) 81 53 (sI (wI σ52 81 52 (sI σ52 81 52 - 1)) 81 53 - 1))).bind fun σ55 => mX12_expression_26 f x 1 σ55) = _
  rw [e1, bnd_some, h5, oI_p, show sI (wI ρ1 81 52 (Int32.ofNat W.length)) 81 53 = Int32.ofNat (d + 1) from (by rw [sI_wI, if_neg (by omega)]; exact h53), oI_p, e3, bnd_some]
/-- where nothing goes on -/
theorem M_stop {b : Nat → Nat} {n q0 K d s B f : Nat} {e : List (Nat × Nat)} {W : List Nat} {ρ : Sto} {x : Int32} (hn : n ≤ 500) (hb : ∀ j, b j < 256) (h : MS b n q0 K d (0, -1) s B e W ρ) (hS : stO b n s) (hC : opC b n s = 99 ∨ ¬ sI ρ 128 d = 0) (h41 : tc b n s = 41 → d ≤ 1) : mLp x (f + 2) ρ = mX12_expression_348 x ρ := by
  have hT := h.1.2.2.1
  obtain ⟨⟨hP, hSs⟩, hA, hO⟩ := hS
  have n42 : ¬ tc b n s = 42 := fun q => by unfold opP at hP; rw [if_pos q] at hP; cases hP
  have n47 : ¬ tc b n s = 47 := fun q => by unfold opP at hP; rw [if_neg n42, if_pos q] at hP; cases hP
  have n43 : ¬ tc b n s = 43 := fun q => by unfold opS at hSs; rw [if_pos q] at hSs; cases hSs
  have n45 : ¬ tc b n s = 45 := fun q => by unfold opS at hSs; rw [if_neg n43, if_pos q] at hSs; cases hSs
  have e0 : mX12_expression_26 (f + 1) x 0 ρ = mX12_expression_348 x ρ := by
    show mX12_expression_26B (mX12_expression_26 f) x 0 ρ = _
    unfold mX12_expression_26B
    rw [if_pos rfl]
  have hd := h.2.2.1.2
  unfold mLp
  rw [M_183 hn hb h hA hO hC]
  unfold mX12_expression_183
  rw [M_sgn (c := 43) (v := 43) hb rfl (by decide) (by decide) hT, M_sgn (c := 45) (v := 45) hb rfl (by decide) (by decide) hT, M_sgn (c := 42) (v := 42) hb rfl (by decide) (by decide) hT, M_sgn (c := 47) (v := 47) hb rfl (by decide) (by decide) hT, M_sgn (c := 41) (v := 41) hb rfl (by decide) (by decide) hT, if_neg n43, if_pos rfl, if_neg n45, if_pos rfl, if_neg n42, if_pos rfl, if_neg n47, if_pos rfl]
  by_cases c : tc b n s = 41
  · rw [if_pos c, if_neg (by decide), h.2.2.1.1, if_pos ((le_lit (v := 1) (m := 1) rfl (by omega) (by decide)).mpr (h41 c)), e0]
  · rw [if_neg c, if_pos rfl, e0]
