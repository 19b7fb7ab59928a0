/-! the reference reads an EXPR: begin and end -/
/-- the reference between two parts of a text: its place, how many words of code, φ -/
def MG (b : Nat → Nat) (n s t : Nat) (φ : Int32 × Int32) (ρ : Sto) : Prop := EM b n ρ ∧ s ≤ n ∧ TSM b n s ρ ∧ sI ρ 81 40 = φ.1 ∧ sI ρ 81 41 = φ.2 ∧ sI ρ 81 51 = Int32.ofNat t
theorem M_expression {b : Nat → Nat} {n q0 K s : Nat} {ρ : Sto} (hn : n ≤ 500) (hb : ∀ j, b j < 256) (hK : K + 1011 ≤ 15800) (hq : q0 ≤ K + 2 * s) (h : MG b n s q0 (0, -1) ρ) :
    (∀ k p, zExpr b n 8 0 s [] = .inl (k, p) → ∃ ρ', mX12_expression ρ = some (Int32.ofNat q0, ρ') ∧ Ey (SM q0) ρ ρ' ∧ sI ρ' 81 40 = Int32.ofNat k ∧ sI ρ' 81 41 = Int32.ofNat p) ∧
    ∀ s' l', zExpr b n 8 0 s [] = .inr (s', l') → ∃ ρ', mX12_expression ρ = some (Int32.ofNat q0, ρ') ∧ Ey (SM q0) ρ ρ' ∧ MG b n s' (q0 + (mc l').length + 1) (0, -1) ρ' ∧ LG (fun j => sI ρ' 126 j) q0 (mc l' ++ [0]) ∧ q0 + (mc l').length ≤ K + 2 * s' := by
  obtain ⟨h1, h2, h3, h4, h5, h6⟩ := h
  have x : Ex (fun a j => a = 81 ∧ (j = 52 ∨ j = 53)) ρ (wI (wI ρ 81 52 0) 81 53 0) := (Ex.rf.w (S := fun a j => a = 81 ∧ (j = 52 ∨ j = 53)) _ ⟨rfl, Or.inl rfl⟩).w _ ⟨rfl, Or.inr rfl⟩
  have k := x.2.2.2.2.2
  have xm := x.mono (T := SM q0) fun a j z => by unfold SM; omega
  have m0 : MS b n q0 K 0 (0, -1) s s [] [] (wI (wI ρ 81 52 0) 81 53 0) := ⟨⟨h1.ex x (fun a j z => by omega), h2, h3.ey x (fun j _ _ z => by omega), (k 81 40 (by omega)).trans h4, (k 81 41 (by omega)).trans h5⟩, ⟨by rw [sI_wI, if_neg (by omega), sI_wI, if_pos ⟨rfl, rfl⟩]; rfl, trivial, fun y hy => (nomatch hy), Nat.zero_le _⟩, ⟨by rw [sI_wI, if_pos ⟨rfl, rfl⟩]; rfl, by decide⟩, (k 81 51 (by omega)).trans h6, fun _ => trivial, (by show q0 + 0 + 0 ≤ K + 2 * s; omega)⟩
  obtain ⟨ρ1, e1, y1, t1, m1, z1⟩ := M_deep (by decide) m0
  have R := M_expr_r (q0 := q0) (x := Int32.ofNat q0) hn hb hK 5 0 rfl s [] [] ρ1 FU FU m1 trivial (show n + 2 ≤ s + 5000 by omega) (show n + 3 ≤ s + 5000 by omega) z1
  have eM : mX12_expression ρ = mOq (Int32.ofNat q0) FU FU ρ1 := by
    show (mX12_begins (wI (wI ρ 81 52 0) 81 53 0)).bind (fun σ3 => (mX12_operand 1 σ3).bind fun σ4 => mX12_expression_26 FU (sI ρ 81 51) 1 σ4) = _
    rw [e1, bnd_some, h6]
    rfl
  rw [eM]
  refine ⟨fun kk p q => ?_, fun s' l' q => ?_⟩
  · obtain ⟨ρ', r1, r2, r3⟩ := R.1 kk p q
    exact ⟨ρ', r1, (xm.ey.tr y1).tr r2, r3⟩
  · obtain ⟨z2, z3, z4, -⟩ := (zExpr_ok 8 0 s [] h2).2 s' l' q
    obtain ⟨e', W', ρ4, f4, E4, Y4, M4, L4, F4, N4, P4⟩ := R.2 s' l' q
    obtain ⟨f4, rfl⟩ : ∃ g, f4 = g + 2 := ⟨f4 - 2, by omega⟩
    rw [List.append_nil] at M4
    have E5 := M_stop (x := Int32.ofNat q0) (f := f4) hn hb M4 z4 P4.2 (fun _ => Nat.le_refl 1)
    have hl := M4.2.1.2.2.2
    obtain ⟨ρ5, e5, s5, m5⟩ := M_drops (v := 0) (L := 0) (W := []) (B := s') rfl (by decide) hK (by omega) trivial W' e' FU ρ4 (show W'.length < 5000 by omega) (fun y hy => ⟨Nat.zero_le _, (F4 y hy).2⟩) (by rw [List.append_nil]; exact M4)
    rw [← L4] at m5
    obtain ⟨⟨g1, g2, g3, g4, g4'⟩, ⟨g5, g6, g7, g8⟩, ⟨g9, g10⟩, g11, g12, g13⟩ := m5
    have g13' : q0 + (mc l').length + 0 ≤ K + 2 * s' := g13
    have e6 := M_put1 (0 : Int32) g11 (by omega)
    have x6 : Ex (fun a j => (a = 126 ∧ j = q0 + (mc l').length) ∨ (a = 81 ∧ j = 51)) ρ5 (wI (wI ρ5 126 (q0 + (mc l').length) 0) 81 51 (Int32.ofNat (q0 + (mc l').length + 1))) := (Ex.rf.w (S := fun a j => (a = 126 ∧ j = q0 + (mc l').length) ∨ (a = 81 ∧ j = 51)) _ (Or.inl ⟨rfl, rfl⟩)).w _ (Or.inr ⟨rfl, rfl⟩)
    have k6 := x6.2.2.2.2.2
    have xm6 := x6.mono (T := SM q0) fun a j z => by unfold SM; omega
    refine ⟨_, ?_, (((xm.ey.tr y1).tr Y4).tr s5.1).tr xm6.ey, ⟨g1.ex x6 (fun a j z => by omega), g2, g3.ey x6 (fun j _ _ z => by omega), (k6 81 40 (by omega)).trans g4, (k6 81 41 (by omega)).trans g4', by rw [sI_wI, if_pos ⟨rfl, rfl⟩]⟩, ?_, by omega⟩
    · rw [E4, E5]
      unfold mX12_expression_348 mX12_expression_368 mX12_drops
      rw [M_good M4, if_pos rfl, if_neg (by decide), M4.2.2.1.1, if_pos (by decide), e5, bnd_some, e6, bnd_some]
    · refine LG.app ((g12 rfl).congr fun i _ h2 => k6 126 i (by omega)) ⟨?_, trivial⟩
      show sI (wI (wI ρ5 126 (q0 + (mc l').length) 0) 81 51 (Int32.ofNat (q0 + (mc l').length + 1))) 126 (q0 + (mc l').length) = 0
      rw [sI_wI, if_neg (by omega), sI_wI, if_pos ⟨rfl, rfl⟩]
/-- the two rows of one reckoning, against each other -/
theorem code_ok {f g : Nat → Int32} {hi : Nat} : ∀ (l : List (Nat × Nat)) (j q dep : Nat), LF f j l → LG g q (mc l ++ [0]) → GL l dep → q + (mc l).length < hi → CodeR f g hi l.length j q dep
  | [], j, q, dep, h1, h2, h3, h4 => ⟨h4, h2.1, h3⟩
  | c :: r, j, q, dep, h1, h2, h3, h4 => by
    obtain ⟨f1, f2⟩ := h1
    obtain ⟨d1, d2⟩ := h3
    have hm : mc (c :: r) = mI c ++ mc r := rfl
    rw [hm, List.append_assoc] at h2
    rw [hm, List.length_append] at h4
    have step : ∀ (w : List Int32), mI c = w → LG g q (w ++ (mc r ++ [0])) ∧ q + (w.length + (mc r).length) < hi := fun w hw => by rw [← hw]; exact ⟨h2, h4⟩
    have c1 : 1 ≤ (mI c).length := by
      unfold mI
      by_cases q1 : c.1 = 0
      · rw [if_pos q1]; exact Nat.le_of_ble_eq_true rfl
      · rw [if_neg q1]
        by_cases q2 : c.1 = 1
        · rw [if_pos q2]; exact Nat.le_of_ble_eq_true rfl
        · rw [if_neg q2]
          by_cases q3 : c.1 = 2
          · rw [if_pos q3]; decide
          · rw [if_neg q3]; exact Nat.le_refl 1
    refine ⟨by omega, d1, ?_⟩
    rcases d2 with ⟨a1, a2, a3, a4⟩ | ⟨a1, a2, a3, a4⟩ | ⟨a1, a2, a4⟩ | ⟨a1, a2, a3, a4⟩
    · have hw : mI c = [1, Int32.ofNat c.2] := by unfold mI; rw [if_pos a1]
      obtain ⟨⟨g1, g2, g3⟩, g4⟩ := step _ hw
      refine Or.inl ⟨c.2, a2, ?_, g1, g2, a3, code_ok r (j + 1) (q + 2) (dep + 1) f2 g3 a4 (by have : [(1 : Int32), Int32.ofNat c.2].length = 2 := rfl; omega)⟩
      rw [f1]; unfold cI; rw [if_pos a1]
    · have n0 : ¬ c.1 = 0 := by omega
      have hw : mI c = [2, Int32.ofNat c.2] := by unfold mI; rw [if_neg n0, if_pos a1]
      obtain ⟨⟨g1, g2, g3⟩, g4⟩ := step _ hw
      refine Or.inr (Or.inl ⟨c.2, a2, ?_, g1, g2, a3, code_ok r (j + 1) (q + 2) (dep + 1) f2 g3 a4 (by have : [(2 : Int32), Int32.ofNat c.2].length = 2 := rfl; omega)⟩)
      rw [f1]; unfold cI; rw [if_neg n0, if_pos a1]
    · have n0 : ¬ c.1 = 0 := by omega
      have n1 : ¬ c.1 = 1 := by omega
      have hw : mI c = [3] := by unfold mI; rw [if_neg n0, if_neg n1, if_pos a1]
      obtain ⟨⟨g1, g3⟩, g4⟩ := step _ hw
      refine Or.inr (Or.inr (Or.inl ⟨?_, g1, a2, code_ok r (j + 1) (q + 1) dep f2 g3 a4 (by have : [(3 : Int32)].length = 1 := rfl; omega)⟩))
      rw [f1]; unfold cI; rw [if_neg n0, if_neg n1, if_pos a1]
    · have n0 : ¬ c.1 = 0 := by omega
      have n1 : ¬ c.1 = 1 := by omega
      have n2 : ¬ c.1 = 2 := by omega
      have hw : mI c = [(opT.getD c.2 (0, 0)).2] := by unfold mI; rw [if_neg n0, if_neg n1, if_neg n2]
      obtain ⟨⟨g1, g3⟩, g4⟩ := step _ hw
      refine Or.inr (Or.inr (Or.inr ⟨opT.getD c.2 (0, 0), ?_, ?_, g1, a3, code_ok r (j + 1) (q + 1) (dep - 1) f2 g3 a4 (by have : [(opT.getD c.2 (0, 0)).2].length = 1 := rfl; omega)⟩))
      · have key : ((List.range 8).all fun o => decide (opT.getD o (0, 0) ∈ opT)) = true := by decide +kernel
        rw [List.all_eq_true] at key
        exact of_decide_eq_true (key c.2 (List.mem_range.mpr a2))
      · rw [f1]; unfold cI; rw [if_neg n0, if_neg n1, if_neg n2]
