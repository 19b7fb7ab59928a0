/-! the reference reads a whole text -/
def S41 (x j : Nat) : Prop := x = 81 ∧ ((40 ≤ j ∧ j ≤ 41) ∨ (43 ≤ j ∧ j ≤ 48))
def SMl (li x j : Nat) : Prop := (x = 81 ∧ ((40 ≤ j ∧ j ≤ 41) ∨ (43 ≤ j ∧ j ≤ 48) ∨ (51 ≤ j ∧ j ≤ 54))) ∨ (x = 126 ∧ 1210 * li ≤ j) ∨ x = 127 ∨ x = 128 ∨ (116 ≤ x ∧ x ≤ 123 ∧ j = li) ∨ (124 ≤ x ∧ x ≤ 125 ∧ 16 * li ≤ j ∧ j < 16 * li + 16)
theorem SMl_em {li : Nat} : ∀ x j, SMl li x j → x ≠ 111 ∧ ¬ (x = 81 ∧ j = 42) := fun x j h => by unfold SMl at h; omega
theorem S41_SMl {li : Nat} : ∀ x j, S41 x j → SMl li x j := fun x j h => by unfold S41 at h; unfold SMl; omega
theorem SM_SMl {li q : Nat} (h : 1210 * li ≤ q) : ∀ x j, SM q x j → SMl li x j := fun x j h => by unfold SM at h; unfold SMl; omega
/-- the reference's row of a law as read so far; its code ends below t -/
def MR (li : Nat) (R : Zl) (t : Nat) (ρ : Sto) : Prop := (∀ k, 7 ≤ k → k ≤ 12 → sI ρ (110 + k) li = R.1 k) ∧ sI ρ 116 li = Int32.ofNat R.2.1.1 ∧ (∀ j, j < R.2.1.1 → sI ρ 124 (16 * li + j) = Int32.ofNat (R.2.1.2.1 j) ∧ sI ρ 125 (16 * li + j) = Int32.ofNat (R.2.1.2.2 j)) ∧
  ((R.2.2 = [] ∧ sI ρ 123 li = -1) ∨ ∃ q, (R.2.2 ≠ [] ∧ 1210 * li ≤ q) ∧ q + (mc R.2.2).length + 1 ≤ t ∧ sI ρ 123 li = Int32.ofNat q ∧ LG (fun j => sI ρ 126 j) q (mc R.2.2 ++ [0]))
theorem MR.fr {li t t' : Nat} {R : Zl} {ρ ρ' : Sto} (h : MR li R t ρ) (ht : t ≤ t') (h1 : ∀ a, 116 ≤ a → a ≤ 123 → sI ρ' a li = sI ρ a li) (h2 : ∀ a, 124 ≤ a → a ≤ 125 → ∀ j, j < R.2.1.1 → sI ρ' a (16 * li + j) = sI ρ a (16 * li + j)) (h3 : ∀ j, j < t → sI ρ' 126 j = sI ρ 126 j) : MR li R t' ρ' := by
  obtain ⟨g1, g2, g3, g4⟩ := h
  refine ⟨fun k k1 k2 => (h1 _ (by omega) (by omega)).trans (g1 k k1 k2), (h1 116 (by decide) (by decide)).trans g2, fun j hj => ⟨(h2 124 (by decide) (by decide) j hj).trans (g3 j hj).1, (h2 125 (by decide) (by decide) j hj).trans (g3 j hj).2⟩, ?_⟩
  rcases g4 with ⟨d1, d2⟩ | ⟨q, d1, d2, d3, d4⟩
  · exact Or.inl ⟨d1, (h1 123 (by decide) (by decide)).trans d2⟩
  · refine Or.inr ⟨q, d1, by omega, (h1 123 (by decide) (by decide)).trans d3, d4.congr fun i _ i2 => h3 i ?_⟩
    rw [List.length_append] at i2
    have : [(0 : Int32)].length = 1 := rfl
    omega
def ML (b : Nat → Nat) (n lands li cnt c s : Nat) (R : Zl) (t : Nat) (ρ : Sto) : Prop := MG b n s t (0, -1) ρ ∧ sI ρ 81 54 = Int32.ofNat cnt ∧ MR li R t ρ ∧ (1210 * li ≤ t ∧ t ≤ 1210 * li + c + 2 * s) ∧ sI ρ 81 2 = Int32.ofNat lands
def MZ (b : Nat → Nat) (n lands li cnt : Nat) (t : Zs) (ρ : Sto) : Prop := match t with
  | .inl e => (1 ≤ e.1 ∧ e.1 ≤ 4) ∧ sI ρ 81 40 = Int32.ofNat e.1 ∧ sI ρ 81 41 = Int32.ofNat e.2
  | .inr q => ∃ t, ML b n lands li cnt cnt q.1 q.2 t ρ
theorem good_l {k : Nat} {ρ : Sto} (hk : 1 ≤ k ∧ k ≤ 4) (h : sI ρ 81 40 = Int32.ofNat k) : mX12_isGood ρ = 0 := by
  unfold mX12_isGood
  rw [h, if_neg (fun q => by
    have := (oI_eq (j := k) (n := 0) (by omega) (by decide)).mp q
    omega)]
theorem good_r {ρ : Sto} (h : sI ρ 81 40 = 0) : mX12_isGood ρ = 1 := by
  unfold mX12_isGood
  rw [if_pos h]
theorem MG.wrong {b : Nat → Nat} {n s t k : Nat} {v : Int32} {ρ : Sto} (hv : v = Int32.ofNat k) (h : MG b n s t (0, -1) ρ) : ∃ ρ', mX12_wrong v ρ = some ρ' ∧ Ey S41 ρ ρ' ∧ sI ρ' 81 40 = Int32.ofNat k ∧ sI ρ' 81 41 = Int32.ofNat s := by
  obtain ⟨h1, h2, h3, h4, h5, h6⟩ := h
  refine ⟨wI (wI ρ 81 40 v) 81 41 (Int32.ofNat s), ?_, (Ey.rf.w (S := S41) _ ⟨rfl, Or.inl ⟨by decide, by decide⟩⟩).w _ ⟨rfl, Or.inl ⟨by decide, by decide⟩⟩, ?_, ?_⟩
  · unfold mX12_wrong
    rw [if_pos (show sI ρ 81 40 = 0 from h4)]
    show some (wI (wI ρ 81 40 v) 81 41 (sI (wI ρ 81 40 v) 81 45)) = _
    rw [sI_wI, if_neg (by omega), h3.2.1]
  · rw [sI_wI, if_neg (by omega), sI_wI, if_pos ⟨rfl, rfl⟩]; exact hv
  · rw [sI_wI, if_pos ⟨rfl, rfl⟩]
theorem MG.goes {b : Nat → Nat} {n s t : Nat} {φ : Int32 × Int32} {ρ : Sto} (hn : n ≤ 500) (hb : ∀ j, b j < 256) (h : MG b n s t φ ρ) : ∃ ρ', mX12_goes ρ = some ρ' ∧ Ey S43 ρ ρ' ∧ MG b n (nx b n s) t φ ρ' := by
  obtain ⟨h1, h2, h3, h4, h5, h6⟩ := h
  obtain ⟨ρ', e1, x1, r1⟩ := M_nx hn hb h2 h1 h3
  have k1 : ∀ j, (j < 43 ∨ 48 < j) → sI ρ' 81 j = sI ρ 81 j := fun j hj => x1.2.2.2.2.2 81 j (by unfold S43; omega)
  exact ⟨ρ', e1, x1, h1.ey x1 S43_em, (nx_le (b := b) h2).2.1, r1, (k1 40 (by omega)).trans h4, (k1 41 (by omega)).trans h5, (k1 51 (by omega)).trans h6⟩
theorem S43_S41 : ∀ x j, S43 x j → S41 x j := fun x j h => by unfold S43 at h; unfold S41; omega
/-- a number is read -/
theorem M_num {b : Nat → Nat} {n s t lo hi fl : Nat} {p0 p1 p2 : Int32} {ρ : Sto} (hn : n ≤ 500) (hb : ∀ j, b j < 256) (h0 : p0 = Int32.ofNat lo) (h1 : p1 = Int32.ofNat hi) (h2 : p2 = Int32.ofNat fl) (hl : lo < 200000000) (hh : hi < 200000000) (hf : 1 ≤ fl ∧ fl ≤ 4) (h : MG b n s t (0, -1) ρ) :
    ∃ v ρ', mX12_number p0 p1 p2 ρ = some (v, ρ') ∧ Ey S41 ρ ρ' ∧ ((∃ k p, (∀ k', zN b n lo hi fl s k' = .inl (k, p)) ∧ (1 ≤ k ∧ k ≤ 4) ∧ sI ρ' 81 40 = Int32.ofNat k ∧ sI ρ' 81 41 = Int32.ofNat p) ∨ ((∀ k', zN b n lo hi fl s k' = k') ∧ v = Int32.ofNat (nv b n s) ∧ MG b n (nx b n s) t (0, -1) ρ' ∧ s < nx b n s)) := by
  obtain ⟨g1, g2, g3, g4, g5, g6⟩ := id h
  have hnv := nv_lt (b := b) g2
  have hE2 := (tkE_le (b := b) g2).2.1
  have hg := good_r (ρ := ρ) g4
  have bad : ∀ k (v : Int32), v = Int32.ofNat k → 1 ≤ k → k ≤ 4 → (∀ k', zN b n lo hi fl s k' = .inl (k, s)) → ∃ w ρ', ((mX12_wrong v ρ).bind fun σ => mX12_number_63 σ) = some (w, ρ') ∧ Ey S41 ρ ρ' ∧ ((∃ k p, (∀ k', zN b n lo hi fl s k' = .inl (k, p)) ∧ (1 ≤ k ∧ k ≤ 4) ∧ sI ρ' 81 40 = Int32.ofNat k ∧ sI ρ' 81 41 = Int32.ofNat p) ∨ ((∀ k', zN b n lo hi fl s k' = k') ∧ w = Int32.ofNat (nv b n s) ∧ MG b n (nx b n s) t (0, -1) ρ' ∧ s < nx b n s)) := fun k v hv k1 k4 hz => by
    obtain ⟨ρ1, e1, x1, w1, w2⟩ := h.wrong hv
    refine ⟨sI ρ1 81 47, ρ1, ?_, x1, Or.inl ⟨k, s, hz, ⟨k1, k4⟩, w1, w2⟩⟩
    rw [e1, bnd_some]
    unfold mX12_number_63
    rw [good_l ⟨k1, k4⟩ w1, if_pos rfl]
  unfold mX12_number mX12_number_58
  rw [hg, if_neg (by decide), g3.1]
  by_cases c3 : tc b n s = 3
  · rw [if_pos (so_2.mpr c3), g3.2.2.2.1]
    have hlt := (nx_le (b := b) (n := n) g2).2.2 (tc_lt (b := b) (by omega))
    by_cases c8 : 8 < tkE b n s - s
    · rw [if_neg (fun q => absurd ((le_lit (v := 8) (m := 8) rfl (by omega) (by decide)).mp q) (by omega))]
      exact bad 2 2 rfl (by decide) (by decide) (fun k' => by unfold zN; rw [if_pos c3, if_pos c8])
    · rw [if_pos ((le_lit (v := 8) (m := 8) rfl (by omega) (by decide)).mpr (by omega)), g3.2.2.2.2.1, h0, h1]
      by_cases c0 : nv b n s < lo
      · rw [if_pos ((oI_lt (by omega) (by omega)).mpr c0)]
        exact bad fl p2 h2 hf.1 hf.2 (fun k' => by unfold zN; rw [if_pos c3, if_neg c8, if_pos (Or.inl c0)])
      · rw [if_neg (fun q => c0 ((oI_lt (by omega) (by omega)).mp q))]
        by_cases c1 : hi < nv b n s
        · rw [if_neg (fun q => absurd ((oI_le (by omega) (by omega)).mp q) (by omega))]
          exact bad fl p2 h2 hf.1 hf.2 (fun k' => by unfold zN; rw [if_pos c3, if_neg c8, if_pos (Or.inr c1)])
        · rw [if_pos ((oI_le (by omega) (by omega)).mpr (by omega))]
          obtain ⟨ρ1, e1, x1, m1⟩ := h.goes hn hb
          refine ⟨sI ρ 81 47, ρ1, ?_, x1.mono S43_S41, Or.inr ⟨fun k' => ?_, g3.2.2.2.2.1, m1, hlt⟩⟩
          · unfold mX12_number_63
            rw [hg, if_neg (by decide), e1, bnd_some]
          · unfold zN; rw [if_pos c3, if_neg c8, if_neg (fun q => q.elim c0 c1)]
  · rw [if_neg (fun q => c3 (so_2.mp q))]
    exact bad 1 1 rfl (by decide) (by decide) (fun k' => by unfold zN; rw [if_neg c3])
theorem M_num_f {k : Nat} {p0 p1 p2 : Int32} {ρ : Sto} (hk : 1 ≤ k ∧ k ≤ 4) (h : sI ρ 81 40 = Int32.ofNat k) : mX12_number p0 p1 p2 ρ = some (0, ρ) := by
  unfold mX12_number
  rw [good_l hk h, if_pos rfl]
theorem MR.set {li t k : Nat} {R : Zl} {ρ : Sto} (h : MR li R t ρ) (hk : 7 ≤ k ∧ k ≤ 12) (x : Int32) : MR li (zUp R k x) t (wI ρ (110 + k) li x) := by
  obtain ⟨g1, g2, g3, g4⟩ := h
  refine ⟨fun j j1 j2 => ?_, ?_, fun j hj => ?_, ?_⟩
  · show _ = if j = k then x else R.1 j
    rw [sI_wI]
    by_cases c : j = k
    · rw [if_pos ⟨by omega, rfl⟩, if_pos c]
    · rw [if_neg (by omega), if_neg c]; exact g1 j j1 j2
  · rw [sI_wI, if_neg (by omega)]; exact g2
  · rw [sI_wI, if_neg (by omega), sI_wI, if_neg (by omega)]; exact g3 j hj
  · rcases g4 with ⟨d1, d2⟩ | ⟨q, d1, d2, d3, d4⟩
    · exact Or.inl ⟨d1, by rw [sI_wI, if_neg (by omega)]; exact d2⟩
    · exact Or.inr ⟨q, d1, d2, by rw [sI_wI, if_neg (by omega)]; exact d3, d4.congr fun i _ _ => by rw [sI_wI, if_neg (by omega)]⟩
theorem MG.ey {b : Nat → Nat} {n s t : Nat} {φ : Int32 × Int32} {S : Nat → Nat → Prop} {ρ ρ' : Sto} (h : MG b n s t φ ρ) (x : Ex S ρ ρ') (hS : ∀ a j, S a j → a ≠ 111 ∧ ¬ (a = 81 ∧ 40 ≤ j ∧ j ≤ 51)) : MG b n s t φ ρ' := by
  obtain ⟨h1, h2, h3, h4, h5, h6⟩ := h
  have k : ∀ j, 40 ≤ j → j ≤ 51 → sI ρ' 81 j = sI ρ 81 j := fun j j1 j2 => x.2.2.2.2.2 81 j (fun z => (hS _ _ z).2 ⟨rfl, j1, j2⟩)
  exact ⟨h1.ex x (fun a j z => ⟨(hS a j z).1, fun q => (hS a j z).2 (by omega)⟩), h2, h3.ey x (fun j j1 j2 z => (hS _ _ z).2 ⟨rfl, by omega, by omega⟩), (k 40 (by decide) (by decide)).trans h4, (k 41 (by decide) (by decide)).trans h5, (k 51 (by decide) (by decide)).trans h6⟩
/-- a number into a row -/
theorem M_set {b : Nat → Nat} {n lands li cnt c s lo hi fl t k : Nat} {p0 p1 p2 : Int32} {R : Zl} {ρ : Sto} (hn : n ≤ 500) (hb : ∀ j, b j < 256) (h0 : p0 = Int32.ofNat lo) (h1 : p1 = Int32.ofNat hi) (h2 : p2 = Int32.ofNat fl) (hlo : lo < 200000000) (hh : hi < 200000000) (hf : 1 ≤ fl ∧ fl ≤ 4) (hk : 7 ≤ k ∧ k ≤ 12) (hc : c ≤ cnt) (F : Int32 → Int32) (h : ML b n lands li cnt c s R t ρ) :
    ∃ v ρ1, mX12_number p0 p1 p2 ρ = some (v, ρ1) ∧ Ey S41 ρ ρ1 ∧ Ey (SMl li) ρ (wI ρ1 (110 + k) li (F v)) ∧ MZ b n lands li cnt (zN b n lo hi fl s (.inr (nx b n s, zUp R k (F (Int32.ofNat (nv b n s)))))) (wI ρ1 (110 + k) li (F v)) := by
  obtain ⟨hG, hcn, hM, ht, hla⟩ := h
  obtain ⟨v, ρ1, e1, x1, r1⟩ := M_num hn hb h0 h1 h2 hlo hh hf hG
  have kx := x1.2.2.2.2.2
  have y : Ey (SMl li) ρ (wI ρ1 (110 + k) li (F v)) := (x1.mono S41_SMl).w _ (Or.inr (Or.inr (Or.inr (Or.inr (Or.inl ⟨by omega, by omega, rfl⟩)))))
  refine ⟨v, ρ1, e1, x1, y, ?_⟩
  rcases r1 with ⟨kk, p, z1, z2, z3, z4⟩ | ⟨z1, z2, z3, z4⟩
  · rw [z1]
    exact ⟨z2, by rw [sI_wI, if_neg (by omega)]; exact z3, by rw [sI_wI, if_neg (by omega)]; exact z4⟩
  · rw [z1, z2]
    have xw : Ex (fun a j => a = 110 + k ∧ j = li) ρ1 (wI ρ1 (110 + k) li (F (Int32.ofNat (nv b n s)))) := Ex.rf.w (S := fun a j => a = 110 + k ∧ j = li) _ ⟨rfl, rfl⟩
    have hM1 : MR li R t ρ1 := hM.fr (Nat.le_refl _) (fun a a1 a2 => kx a li (by unfold S41; omega)) (fun a a1 a2 j _ => kx a _ (by unfold S41; omega)) (fun j _ => kx 126 j (by unfold S41; omega))
    refine ⟨t, z3.ey xw (fun a j z => by omega), ?_, hM1.set hk _, ⟨ht.1, by have := ht.2; omega⟩, ?_⟩
    · rw [sI_wI, if_neg (by omega)]; exact (kx 81 54 (by unfold S41; omega)).trans hcn
    · rw [sI_wI, if_neg (by omega)]; exact (kx 81 2 (by unfold S41; omega)).trans hla
theorem M_semi {b : Nat → Nat} {n lands li cnt : Nat} {t : Zs} {ρ : Sto} (hn : n ≤ 500) (hb : ∀ j, b j < 256) (h : MZ b n lands li cnt t ρ) : ∃ ρ', mX12_clause_225 ρ = some ρ' ∧ Ey (SMl li) ρ ρ' ∧ MZ b n lands li cnt (szN t (zSemi b n)) ρ' := by
  cases t with
  | inl e =>
    refine ⟨ρ, ?_, Ey.rf, h⟩
    unfold mX12_clause_225
    rw [good_l h.1 h.2.1, if_pos rfl]
  | inr q =>
    obtain ⟨s, R⟩ := q
    obtain ⟨t, hG, hcn, hM, ht, hla⟩ := h
    have hs : s ≤ n := hG.2.1
    have hT : TSM b n s ρ := hG.2.2.1
    show ∃ ρ', _ ∧ _ ∧ MZ b n lands li cnt (if tc b n s = 59 then .inr (nx b n s, R) else .inl (1, s)) ρ'
    unfold mX12_clause_225
    rw [good_r hG.2.2.2.1, if_neg (by decide), M_sgn (c := 59) (v := 59) hb rfl (by decide) (by decide) hT]
    by_cases c : tc b n s = 59
    · rw [if_pos c, if_neg (by decide), if_pos c]
      obtain ⟨ρ1, e1, x1, m1⟩ := hG.goes hn hb
      have kx := x1.2.2.2.2.2
      have hle := (nx_le (b := b) (n := n) hs).1
      rw [e1, bnd_some]
      refine ⟨ρ1, rfl, (x1.mono S43_S41).mono S41_SMl, t, m1, (kx 81 54 (by unfold S43; omega)).trans hcn, hM.fr (Nat.le_refl _) (fun a a1 a2 => kx a li (by unfold S43; omega)) (fun a a1 a2 j _ => kx a _ (by unfold S43; omega)) (fun j _ => kx 126 j (by unfold S43; omega)), ⟨ht.1, ?_⟩, (kx 81 2 (by unfold S43; omega)).trans hla⟩
      have h2 := ht.2
      show t ≤ 1210 * li + cnt + 2 * nx b n s
      have h3 : t ≤ 1210 * li + cnt + 2 * s := h2
      omega
    · rw [if_neg c, if_pos rfl, if_neg c]
      obtain ⟨ρ1, e1, x1, w1, w2⟩ := hG.wrong (k := 1) (v := 1) rfl
      rw [e1, bnd_some]
      exact ⟨ρ1, rfl, x1.mono S41_SMl, ⟨Nat.le_refl 1, by show 1 ≤ 4; decide⟩, w1, w2⟩
/-- an EXPR into a row -/
theorem M_due {b : Nat → Nat} {n lands li cnt c s t : Nat} {R : Zl} {ρ : Sto} (hn : n ≤ 500) (hb : ∀ j, b j < 256) (hli : li ≤ 12) (hc : c + 1 = cnt) (hc2 : cnt ≤ 16) (h : ML b n lands li cnt c s R t ρ) :
    ∃ v ρ1, mX12_expression ρ = some (v, ρ1) ∧ Ey (SMl li) ρ (wI ρ1 123 li v) ∧ MZ b n lands li cnt (zBody b n lands 0 s R) (wI ρ1 123 li v) := by
  obtain ⟨hG, hcn, hM, ht, hla⟩ := h
  have H := M_expression (K := 1210 * li + c) hn hb (by omega) ht.2 hG
  show ∃ v ρ1, _ ∧ _ ∧ MZ b n lands li cnt (stz (zExpr b n 8 0 s []) fun s2 l => .inr (s2, zDu R l)) (wI ρ1 123 li v)
  cases q : zExpr b n 8 0 s [] with
  | inl e =>
    obtain ⟨ρ1, e1, x1, w1, w2⟩ := H.1 e.1 e.2 q
    have hz := (zExpr_ok 8 0 s [] hG.2.1).1 e q
    refine ⟨_, ρ1, e1, (x1.mono (SM_SMl ht.1)).w _ (Or.inr (Or.inr (Or.inr (Or.inr (Or.inl ⟨by decide, by decide, rfl⟩))))), ⟨hz.1, by omega⟩, ?_, ?_⟩
    · rw [sI_wI, if_neg (by omega)]; exact w1
    · rw [sI_wI, if_neg (by omega)]; exact w2
  | inr w =>
    obtain ⟨s', l'⟩ := w
    obtain ⟨ρ1, e1, x1, m1, l1, b1⟩ := H.2 s' l' q
    have hne : l' ≠ [] := fun q2 => by
      obtain ⟨-, -, -, x, h4, -, h6⟩ := (zExpr_ok (b := b) (n := n) 8 0 s [] hG.2.1).2 s' l' q
      rw [List.nil_append, q2] at h4
      subst h4
      have h7 : 1 ≤ 0 := h6 [] 0 (by omega) (Nat.le_refl 1)
      omega
    have kx := x1.2.2.2.2.2
    have xw : Ex (fun a j => a = 123 ∧ j = li) ρ1 (wI ρ1 123 li (Int32.ofNat t)) := Ex.rf.w (S := fun a j => a = 123 ∧ j = li) _ ⟨rfl, rfl⟩
    have kw := xw.2.2.2.2.2
    have g : ∀ a j, ¬ (a = 123 ∧ j = li) → ¬ SM t a j → sI (wI ρ1 123 li (Int32.ofNat t)) a j = sI ρ a j := fun a j q1 q2 => (kw a j q1).trans (kx a j q2)
    refine ⟨_, ρ1, e1, (x1.mono (SM_SMl ht.1)).w _ (Or.inr (Or.inr (Or.inr (Or.inr (Or.inl ⟨by decide, by decide, rfl⟩))))), t + (mc l').length + 1, m1.ey xw (fun a j z => by omega), (g 81 54 (by omega) (by unfold SM; omega)).trans hcn, ⟨fun k k1 k2 => (g _ _ (by omega) (by unfold SM; omega)).trans (hM.1 k k1 k2), (g 116 li (by omega) (by unfold SM; omega)).trans hM.2.1, fun j hj => ⟨(g 124 _ (by omega) (by unfold SM; omega)).trans (hM.2.2.1 j hj).1, (g 125 _ (by omega) (by unfold SM; omega)).trans (hM.2.2.1 j hj).2⟩, Or.inr ⟨t, ⟨hne, ht.1⟩, Nat.le_refl _, by rw [sI_wI, if_pos ⟨rfl, rfl⟩], l1.congr fun i _ _ => kw 126 i (by omega)⟩⟩, ⟨by have := ht.1; omega, ?_⟩, (g 81 2 (by omega) (by unfold SM; omega)).trans hla⟩
    show t + (mc l').length + 1 ≤ 1210 * li + cnt + 2 * s'
    omega
