section
variable {p : Program} {l : Launch} {e : Env} {s : State} {m : MethodId} {args : Array Value} {below : List Frame} {meth : Method} {c : Code}
theorem st_known (hb : ∀ w ∈ BW, w.before args s = true) : ∀ (k : Nat) (q : vw_C), vwCl[k]? = some q → ∃ x : ClassId × (Nat → Nat), u_Kn s q.1 q.2.1 q.2.2 x.1 x.2 := by
  intro k q hq
  have one : ∀ {C : String} {T : u_T} {N n : Nat}, (∀ w ∈ u_ws C T N, w ∈ BW) → Cond.instantiable C n ∈ BW → ∃ x : ClassId × (Nat → Nat), u_Kn s C T N x.1 x.2 := fun h1 h2 => by
    obtain ⟨a, b, h⟩ := u_known hb h1 (hb _ h2)
    exact ⟨(a, b), h⟩
  match k, hq with
  | 0, hq => cases hq; exact one uw_X0 ni_X0.1
  | 1, hq => cases hq; exact one uw_X1 ni_X1.1
  | 2, hq => cases hq; exact one uw_X2 ni_X2.1
  | 3, hq => cases hq; exact one uw_X3 ni_X3.1
  | 4, hq => cases hq; exact one uw_X4 ni_X4.1
  | 5, hq => cases hq; exact one uw_X5 ni_X5.1
  | 6, hq => cases hq; exact one uw_X6 ni_X6.1
  | 7, hq => cases hq; exact one uw_X7 ni_X7.1
  | 8, hq => cases hq; exact one uw_X8 ni_X8.1
  | 9, hq => cases hq; exact one uw_X10 ni_X10.1
  | 10, hq => cases hq; exact one uw_X11 ni_X11.1
  | 11, hq => cases hq; exact one uw_X12 ni_X12.1
  | k + 12, hq => simp [vwCl] at hq
theorem st_arr (hb : ∀ w ∈ BW, w.before args s = true) (ho : ∀ t, t < 9 → 3 ≤ t → ∃ C, aty t = .object C ∧ va_AO C s) : ∀ t, ∃ cA : ClassId, t < 9 → ArrOfT s cA (aty t) ∧ va_RA s cA (aty t) := by
  intro t
  by_cases h9 : t < 9
  · by_cases h3 : 3 ≤ t
    · obtain ⟨C, e1, e2⟩ := ho t h9 h3
      obtain ⟨comp, cA, kA, f1, f2, f3, f4, f5⟩ := Cond.arrayOver_spec (args := args) (first := s) (o := none) (idx := []) (va_AO.use (A := args) e2)
      refine ⟨cA, fun _ => ?_⟩
      rw [e1]
      exact ⟨fun N z => ⟨(fun k h => by cases h), kA, f3, comp, f4⟩, kA, comp, f3, f4, f1, f5⟩
    · have prim : ∀ ty : FieldType, (Cond.arrayClass ty).before args s = true → (∀ C, ty ≠ .object C) → ∃ cA : ClassId, ArrOfT s cA ty ∧ va_RA s cA ty := by
        intro ty h hno
        obtain ⟨cA, kA, comp, g1, g2, g3⟩ := Cond.arrayClass_spec (args := args) (first := s) (o := none) (idx := []) h
        refine ⟨cA, fun N z => ⟨(fun k h => by cases h), kA, g2, comp, g3⟩, ?_⟩
        unfold va_RA
        split
        · exact absurd rfl (hno _)
        · exact g1
      rcases (show t = 0 ∨ t = 1 ∨ t = 2 by omega) with rfl | rfl | rfl
      · obtain ⟨cA, h⟩ := prim .int (hb _ na_I) (fun C h => by cases h)
        exact ⟨cA, fun _ => h⟩
      · obtain ⟨cA, h⟩ := prim .long (hb _ na_J) (fun C h => by cases h)
        exact ⟨cA, fun _ => h⟩
      · obtain ⟨cA, h⟩ := prim .boolean (hb _ na_Z) (fun C h => by cases h)
        exact ⟨cA, fun _ => h⟩
  · exact ⟨(Classical.choice (⟨0⟩ : Nonempty ClassId)), fun h => absurd h h9⟩
theorem st_ao (hts : ∀ w ∈ lw_tbl, w.before args s = true) : ∀ t, t < 9 → 3 ≤ t → ∃ C, aty t = .object C ∧ va_AO C s := by
  intro t h9 h3
  rcases (show t = 3 ∨ t = 4 ∨ t = 5 ∨ t = 6 ∨ t = 7 ∨ t = 8 by omega) with rfl | rfl | rfl | rfl | rfl | rfl
  · exact ⟨RX5, rfl, va_AO.of (A := args) (hts _ (t_1 _ (List.mem_of_getElem? (i := 40) rfl)))⟩
  · exact ⟨RX10, rfl, va_AO.of (A := args) (hts _ (t_1 _ (List.mem_of_getElem? (i := 42) rfl)))⟩
  · exact ⟨RX8, rfl, va_AO.of (A := args) (hts _ (t_1 _ (List.mem_of_getElem? (i := 44) rfl)))⟩
  · exact ⟨RX6, rfl, va_AO.of (A := args) (hts _ (t_1 _ (List.mem_of_getElem? (i := 46) rfl)))⟩
  · exact ⟨RX3, rfl, va_AO.of (A := args) (hts _ (t_1 _ (List.mem_of_getElem? (i := 48) rfl)))⟩
  · exact ⟨RX4, rfl, va_AO.of (A := args) (hts _ (t_1 _ (List.mem_of_getElem? (i := 50) rfl)))⟩
theorem st_xk {A : Nat → Prop} {E : Ev} (hts : ∀ w ∈ lw_tbl, w.before args s = true) (hA : ∀ a : Nat, a < s.heap.size → ¬ AE E a) (h1 : va_Nc iaE nsE s) (h2 : (Term.static "java/lang/String" "COMPACT_STRINGS" "Z").eval args s none [] s = some (.int 1)) (h3 : (Cond.isRef (.static "jdk/internal/util/Preconditions" "SIOOBE_FORMATTER" "Ljava/util/function/BiFunction;")).before args s = true) : Xk E s s.heap := by
  refine ⟨?_, ?_, ?_, h1, ?_, ?_⟩
  · intro q hq
    simp only [nests, List.mem_cons, List.not_mem_nil, or_false] at hq
    rcases hq with rfl | rfl | rfl | rfl | rfl | rfl
    · exact va_Nw.of rfl (hts _ (t_1 _ (List.mem_of_getElem? (i := 137) rfl)))
    · exact va_Nw.of rfl (hts _ (t_1 _ (List.mem_of_getElem? (i := 221) rfl)))
    · exact va_Nw.of rfl (hts _ (t_2 _ (List.mem_of_getElem? (i := 219) rfl)))
    · exact va_Nw.of rfl (hts _ (t_4 _ (List.mem_of_getElem? (i := 37) rfl)))
    · exact va_Nw.of rfl (hts _ (t_5 _ (List.mem_of_getElem? (i := 92) rfl)))
    · exact va_Nw.of rfl (hts _ (t_6 _ (List.mem_of_getElem? (i := 16) rfl)))
  · intro q hq
    simp only [xdecl, List.mem_cons, List.not_mem_nil, or_false] at hq
    rcases hq with rfl | rfl | rfl
    · exact va_Nw.of rfl (hts _ (t_3 _ (List.mem_of_getElem? (i := 85) rfl)))
    · exact va_Nw.of rfl (hts _ (t_3 _ (List.mem_of_getElem? (i := 87) rfl)))
    · exact va_Nw.of rfl (hts _ (t_3 _ (List.mem_of_getElem? (i := 89) rfl)))
  · intro q hq
    simp only [List.mem_cons, List.not_mem_nil, or_false] at hq
    rcases hq with rfl | rfl
    · exact va_Nw.of rfl (hts _ (t_3 _ (List.mem_of_getElem? (i := 83) rfl)))
    · exact va_Nw.of rfl (hts _ (t_3 _ (List.mem_of_getElem? (i := 228) rfl)))
  · exact va_Zof (hts _ (t_4 _ (List.mem_of_getElem? (i := 134) rfl))) (hts _ (t_1 _ (List.mem_of_getElem? (i := 20) rfl))) h2 hA
  · exact va_Zqof (hts _ (t_4 _ (List.mem_of_getElem? (i := 175) rfl))) (hts _ (t_1 _ (List.mem_of_getElem? (i := 23) rfl))) h3 hA
def tmS (i : Nat) : Term := .string "SalePart$Reader" ([66, 89, 152, 163, 150, 138].getD i 0)
def ixS : List Nat := [66, 89, 152, 163, 150, 138]
abbrev gN : Cond := Cond.and given_1 narrow_1
def blk (i : Nat) : List Cond := Cond.exactly (tmS i) "java/lang/String" :: Cond.eq (.field (tmS i) "java/lang/String" "coder" "B") (.int 0) :: Cond.arrayOf (.field (tmS i) "java/lang/String" "value" "[B") .byte :: Cond.eq (.length (.field (tmS i) "java/lang/String" "value" "[B")) (.int (Int32.ofNat (txLen.getD i 0))) :: (List.range (txLen.getD i 0)).map (fun j => Cond.eq (.elem (.field (tmS i) "java/lang/String" "value" "[B") (.int (Int32.ofNat j))) (.int ((txByt.getD i []).getD j 0)))
theorem blk_in {p n i : Nat} (h : ((flatC gN).drop p).take n = blk i) : ∀ c ∈ blk i, c ∈ flatC gN := fun c hc => List.mem_of_mem_drop (List.mem_of_mem_take (h ▸ hc))
set_option maxRecDepth 100000 in
theorem gn_b0 : ∀ c ∈ blk 0, c ∈ flatC gN := blk_in (p := 263) (n := 13) (by decide +kernel)
set_option maxRecDepth 100000 in
theorem gn_b1 : ∀ c ∈ blk 1, c ∈ flatC gN := blk_in (p := 285) (n := 47) (by decide +kernel)
set_option maxRecDepth 100000 in
theorem gn_b2 : ∀ c ∈ blk 2, c ∈ flatC gN := blk_in (p := 342) (n := 7) (by decide +kernel)
set_option maxRecDepth 100000 in
theorem gn_b3 : ∀ c ∈ blk 3, c ∈ flatC gN := blk_in (p := 360) (n := 63) (by decide +kernel)
set_option maxRecDepth 100000 in
theorem gn_b4 : ∀ c ∈ blk 4, c ∈ flatC gN := blk_in (p := 435) (n := 7) (by decide +kernel)
set_option maxRecDepth 100000 in
theorem gn_b5 : ∀ c ∈ blk 5, c ∈ flatC gN := blk_in (p := 455) (n := 6) (by decide +kernel)
theorem gn_b : ∀ i, i < 6 → ∀ c ∈ blk i, c ∈ flatC gN := by
  intro i hi
  rcases (show i = 0 ∨ i = 1 ∨ i = 2 ∨ i = 3 ∨ i = 4 ∨ i = 5 by omega) with rfl | rfl | rfl | rfl | rfl | rfl
  · exact gn_b0
  · exact gn_b1
  · exact gn_b2
  · exact gn_b3
  · exact gn_b4
  · exact gn_b5
theorem gn_S : (∀ i, i < 6 → Cond.exactly (tmS i) "java/lang/String" ∈ flatC gN) ∧ (∀ i, i < 6 → Cond.eq (.field (tmS i) "java/lang/String" "coder" "B") (.int 0) ∈ flatC gN) ∧ (∀ i, i < 6 → Cond.arrayOf (.field (tmS i) "java/lang/String" "value" "[B") .byte ∈ flatC gN) ∧ (∀ i, i < 6 → Cond.eq (.length (.field (tmS i) "java/lang/String" "value" "[B")) (.int (Int32.ofNat (txLen.getD i 0))) ∈ flatC gN) :=
  ⟨fun i hi => gn_b i hi _ List.mem_cons_self, fun i hi => gn_b i hi _ (List.mem_cons_of_mem _ List.mem_cons_self), fun i hi => gn_b i hi _ (List.mem_cons_of_mem _ (List.mem_cons_of_mem _ List.mem_cons_self)), fun i hi => gn_b i hi _ (List.mem_cons_of_mem _ (List.mem_cons_of_mem _ (List.mem_cons_of_mem _ List.mem_cons_self)))⟩
theorem gn_B : ∀ i, i < 6 → ∀ j, j < txLen.getD i 0 → Cond.eq (.elem (.field (tmS i) "java/lang/String" "value" "[B") (.int (Int32.ofNat j))) (.int ((txByt.getD i []).getD j 0)) ∈ flatC gN := fun i hi j hj => gn_b i hi _ (List.mem_cons_of_mem _ (List.mem_cons_of_mem _ (List.mem_cons_of_mem _ (List.mem_cons_of_mem _ (List.mem_map.mpr ⟨j, List.mem_range.mpr hj, rfl⟩)))))
set_option maxRecDepth 100000 in
theorem gn_n01 : Cond.not (Cond.eq (tmS 0) (tmS 1)) ∈ flatC gN := (List.mem_of_getElem? (l := flatC gN) (i := 341) (by decide +kernel))
set_option maxRecDepth 100000 in
theorem gn_n02 : Cond.not (Cond.eq (tmS 0) (tmS 2)) ∈ flatC gN := (List.mem_of_getElem? (l := flatC gN) (i := 358) (by decide +kernel))
set_option maxRecDepth 100000 in
theorem gn_n03 : Cond.not (Cond.eq (tmS 0) (tmS 3)) ∈ flatC gN := (List.mem_of_getElem? (l := flatC gN) (i := 432) (by decide +kernel))
set_option maxRecDepth 100000 in
theorem gn_n04 : Cond.not (Cond.eq (tmS 0) (tmS 4)) ∈ flatC gN := (List.mem_of_getElem? (l := flatC gN) (i := 451) (by decide +kernel))
set_option maxRecDepth 100000 in
theorem gn_n05 : Cond.not (Cond.eq (tmS 0) (tmS 5)) ∈ flatC gN := (List.mem_of_getElem? (l := flatC gN) (i := 470) (by decide +kernel))
set_option maxRecDepth 100000 in
theorem gn_n12 : Cond.not (Cond.eq (tmS 1) (tmS 2)) ∈ flatC gN := (List.mem_of_getElem? (l := flatC gN) (i := 359) (by decide +kernel))
set_option maxRecDepth 100000 in
theorem gn_n13 : Cond.not (Cond.eq (tmS 1) (tmS 3)) ∈ flatC gN := (List.mem_of_getElem? (l := flatC gN) (i := 433) (by decide +kernel))
set_option maxRecDepth 100000 in
theorem gn_n14 : Cond.not (Cond.eq (tmS 1) (tmS 4)) ∈ flatC gN := (List.mem_of_getElem? (l := flatC gN) (i := 452) (by decide +kernel))
set_option maxRecDepth 100000 in
theorem gn_n15 : Cond.not (Cond.eq (tmS 1) (tmS 5)) ∈ flatC gN := (List.mem_of_getElem? (l := flatC gN) (i := 471) (by decide +kernel))
set_option maxRecDepth 100000 in
theorem gn_n23 : Cond.not (Cond.eq (tmS 2) (tmS 3)) ∈ flatC gN := (List.mem_of_getElem? (l := flatC gN) (i := 434) (by decide +kernel))
set_option maxRecDepth 100000 in
theorem gn_n24 : Cond.not (Cond.eq (tmS 2) (tmS 4)) ∈ flatC gN := (List.mem_of_getElem? (l := flatC gN) (i := 453) (by decide +kernel))
set_option maxRecDepth 100000 in
theorem gn_n25 : Cond.not (Cond.eq (tmS 2) (tmS 5)) ∈ flatC gN := (List.mem_of_getElem? (l := flatC gN) (i := 472) (by decide +kernel))
set_option maxRecDepth 100000 in
theorem gn_n34 : Cond.not (Cond.eq (tmS 3) (tmS 4)) ∈ flatC gN := (List.mem_of_getElem? (l := flatC gN) (i := 454) (by decide +kernel))
set_option maxRecDepth 100000 in
theorem gn_n35 : Cond.not (Cond.eq (tmS 3) (tmS 5)) ∈ flatC gN := (List.mem_of_getElem? (l := flatC gN) (i := 473) (by decide +kernel))
set_option maxRecDepth 100000 in
theorem gn_n45 : Cond.not (Cond.eq (tmS 4) (tmS 5)) ∈ flatC gN := (List.mem_of_getElem? (l := flatC gN) (i := 474) (by decide +kernel))
theorem gn_N : ∀ i, i < 6 → ∀ j, j < 6 → i ≠ j → Cond.not (Cond.eq (tmS i) (tmS j)) ∈ flatC gN ∨ Cond.not (Cond.eq (tmS j) (tmS i)) ∈ flatC gN := by
  intro i hi j hj hne
  rcases (show i = 0 ∨ i = 1 ∨ i = 2 ∨ i = 3 ∨ i = 4 ∨ i = 5 by omega) with rfl | rfl | rfl | rfl | rfl | rfl <;> rcases (show j = 0 ∨ j = 1 ∨ j = 2 ∨ j = 3 ∨ j = 4 ∨ j = 5 by omega) with rfl | rfl | rfl | rfl | rfl | rfl
  · exact absurd rfl hne
  · exact Or.inl gn_n01
  · exact Or.inl gn_n02
  · exact Or.inl gn_n03
  · exact Or.inl gn_n04
  · exact Or.inl gn_n05
  · exact Or.inr gn_n01
  · exact absurd rfl hne
  · exact Or.inl gn_n12
  · exact Or.inl gn_n13
  · exact Or.inl gn_n14
  · exact Or.inl gn_n15
  · exact Or.inr gn_n02
  · exact Or.inr gn_n12
  · exact absurd rfl hne
  · exact Or.inl gn_n23
  · exact Or.inl gn_n24
  · exact Or.inl gn_n25
  · exact Or.inr gn_n03
  · exact Or.inr gn_n13
  · exact Or.inr gn_n23
  · exact absurd rfl hne
  · exact Or.inl gn_n34
  · exact Or.inl gn_n35
  · exact Or.inr gn_n04
  · exact Or.inr gn_n14
  · exact Or.inr gn_n24
  · exact Or.inr gn_n34
  · exact absurd rfl hne
  · exact Or.inl gn_n45
  · exact Or.inr gn_n05
  · exact Or.inr gn_n15
  · exact Or.inr gn_n25
  · exact Or.inr gn_n35
  · exact Or.inr gn_n45
  · exact absurd rfl hne
set_option maxRecDepth 100000 in
theorem gn_m360 : Cond.exactly (.string "SalePart" 360) "java/lang/String" ∈ flatC gN := (List.mem_of_getElem? (l := flatC gN) (i := 37) (by decide +kernel))
set_option maxRecDepth 100000 in
theorem gn_m362 : Cond.exactly (.string "SalePart" 362) "java/lang/String" ∈ flatC gN := (List.mem_of_getElem? (l := flatC gN) (i := 53) (by decide +kernel))
set_option maxRecDepth 100000 in
theorem gn_m364 : Cond.exactly (.string "SalePart" 364) "java/lang/String" ∈ flatC gN := (List.mem_of_getElem? (l := flatC gN) (i := 72) (by decide +kernel))
set_option maxRecDepth 100000 in
theorem gn_m153 : Cond.exactly (.string "SalePart" 153) "java/lang/String" ∈ flatC gN := (List.mem_of_getElem? (l := flatC gN) (i := 90) (by decide +kernel))
set_option maxRecDepth 100000 in
theorem gn_m200 : Cond.exactly (.string "SalePart" 200) "java/lang/String" ∈ flatC gN := (List.mem_of_getElem? (l := flatC gN) (i := 125) (by decide +kernel))
set_option maxRecDepth 100000 in
theorem gn_m366 : Cond.exactly (.string "SalePart" 366) "java/lang/String" ∈ flatC gN := (List.mem_of_getElem? (l := flatC gN) (i := 145) (by decide +kernel))
set_option maxRecDepth 100000 in
theorem gn_m212 : Cond.exactly (.string "SalePart" 212) "java/lang/String" ∈ flatC gN := (List.mem_of_getElem? (l := flatC gN) (i := 169) (by decide +kernel))
set_option maxRecDepth 100000 in
theorem gn_m371 : Cond.exactly (.string "SalePart" 371) "java/lang/String" ∈ flatC gN := (List.mem_of_getElem? (l := flatC gN) (i := 198) (by decide +kernel))
set_option maxRecDepth 100000 in
theorem gn_m380 : Cond.exactly (.string "SalePart" 380) "java/lang/String" ∈ flatC gN := (List.mem_of_getElem? (l := flatC gN) (i := 221) (by decide +kernel))
set_option maxRecDepth 100000 in
theorem gn_m373 : Cond.exactly (.string "SalePart" 373) "java/lang/String" ∈ flatC gN := (List.mem_of_getElem? (l := flatC gN) (i := 475) (by decide +kernel))
set_option maxRecDepth 100000 in
theorem gn_m377 : Cond.exactly (.string "SalePart" 377) "java/lang/String" ∈ flatC gN := (List.mem_of_getElem? (l := flatC gN) (i := 506) (by decide +kernel))
set_option maxRecDepth 100000 in
theorem gn_m375 : Cond.exactly (.string "SalePart" 375) "java/lang/String" ∈ flatC gN := (List.mem_of_getElem? (l := flatC gN) (i := 541) (by decide +kernel))
set_option maxRecDepth 100000 in
theorem gn_m331 : Cond.exactly (.string "SalePart" 331) "java/lang/String" ∈ flatC gN := (List.mem_of_getElem? (l := flatC gN) (i := 574) (by decide +kernel))
set_option maxRecDepth 100000 in
theorem gn_m337 : Cond.exactly (.string "SalePart" 337) "java/lang/String" ∈ flatC gN := (List.mem_of_getElem? (l := flatC gN) (i := 613) (by decide +kernel))
set_option maxRecDepth 100000 in
theorem gn_m355 : Cond.exactly (.string "SalePart" 355) "java/lang/String" ∈ flatC gN := (List.mem_of_getElem? (l := flatC gN) (i := 647) (by decide +kernel))
theorem gn_M : ∀ q ∈ msgs, Cond.exactly (.string "SalePart" q.1) "java/lang/String" ∈ flatC gN := by
  intro q hq
  simp only [msgs, List.mem_cons, List.not_mem_nil, or_false] at hq
  rcases hq with rfl | rfl | rfl | rfl | rfl | rfl | rfl | rfl | rfl | rfl | rfl | rfl | rfl | rfl | rfl
  · exact gn_m360
  · exact gn_m362
  · exact gn_m364
  · exact gn_m153
  · exact gn_m200
  · exact gn_m366
  · exact gn_m212
  · exact gn_m371
  · exact gn_m380
  · exact gn_m373
  · exact gn_m377
  · exact gn_m375
  · exact gn_m331
  · exact gn_m337
  · exact gn_m355
set_option maxRecDepth 100000 in
theorem gn_X : Cond.not (.castable iaE nsE) ∈ flatC gN ∧ Cond.eq (.static "java/lang/String" "COMPACT_STRINGS" "Z") (.int 1) ∈ flatC gN ∧ Cond.isRef (.static "jdk/internal/util/Preconditions" "SIOOBE_FORMATTER" "Ljava/util/function/BiFunction;") ∈ flatC gN ∧ Cond.isRef (.static Bundle.tN "UNASSIGNED_STACK" Bundle.steD) ∈ flatC gN ∧ Cond.isRef (.static Bundle.tN "SUPPRESSED_SENTINEL" Bundle.listD) ∈ flatC gN :=
  ⟨(List.mem_of_getElem? (l := flatC gN) (i := 23) (by decide +kernel)), (List.mem_of_getElem? (l := flatC gN) (i := 6) (by decide +kernel)), (List.mem_of_getElem? (l := flatC gN) (i := 7) (by decide +kernel)), (List.mem_of_getElem? (l := flatC gN) (i := 4) (by decide +kernel)), (List.mem_of_getElem? (l := flatC gN) (i := 5) (by decide +kernel))⟩
theorem st_msgs (hts : ∀ w ∈ lw_tbl, w.before args s = true) (hg : gN.before args s = true) : ∀ q ∈ msgs, ∃ sa, vk_R "SalePart" q.1 q.2 sa s := by
  intro q hq
  have hf := flat_of_before _ hg _ (gn_M q hq)
  obtain ⟨a, c0, cA, kA, q1, -⟩ := Cond.exactly_spec (args := args) (first := s) (o := none) (s := s) (idx := []) hf
  refine ⟨a, vk_R.of ?_ q1⟩
  simp only [msgs, List.mem_cons, List.not_mem_nil, or_false] at hq
  rcases hq with rfl | rfl | rfl | rfl | rfl | rfl | rfl | rfl | rfl | rfl | rfl | rfl | rfl | rfl | rfl
  · exact (hts _ (t_3 _ (List.mem_of_getElem? (i := 121) rfl)))
  · exact (hts _ (t_3 _ (List.mem_of_getElem? (i := 175) rfl)))
  · exact (hts _ (t_3 _ (List.mem_of_getElem? (i := 194) rfl)))
  · exact (hts _ (t_3 _ (List.mem_of_getElem? (i := 235) rfl)))
  · exact (hts _ (t_4 _ (List.mem_of_getElem? (i := 56) rfl)))
  · exact (hts _ (t_4 _ (List.mem_of_getElem? (i := 61) rfl)))
  · exact (hts _ (t_4 _ (List.mem_of_getElem? (i := 69) rfl)))
  · exact (hts _ (t_4 _ (List.mem_of_getElem? (i := 87) rfl)))
  · exact (hts _ (t_4 _ (List.mem_of_getElem? (i := 107) rfl)))
  · exact (hts _ (t_5 _ (List.mem_of_getElem? (i := 79) rfl)))
  · exact (hts _ (t_5 _ (List.mem_of_getElem? (i := 84) rfl)))
  · exact (hts _ (t_5 _ (List.mem_of_getElem? (i := 227) rfl)))
  · exact (hts _ (t_6 _ (List.mem_of_getElem? (i := 53) rfl)))
  · exact (hts _ (t_6 _ (List.mem_of_getElem? (i := 68) rfl)))
  · exact (hts _ (t_6 _ (List.mem_of_getElem? (i := 85) rfl)))
theorem st_Fk {b L : Nat} {xs : Nat → Int32} (C0 : lw_At p s m meth c b L xs) : ∃ E : Ev, E.2.2.1 = s.heap.size ∧ E.2.2.2.1 = (b, L, xs) ∧ Fk E s s.heap := by
  obtain ⟨hx, hb, hr, hml, hown, hts, hX, hbl, hlocks, hgv⟩ := C0
  have hbw : ∀ w ∈ BW, w.before #[Value.ref b] s = true := fun w hw => hts w (List.mem_filter.mp hw).1
  have hf := flat_of_before _ hgv
  obtain ⟨x1, x2, x3, x4, x5⟩ := gn_X
  obtain ⟨s1, s2, s3, s4⟩ := gn_S
  have h0 : ∀ k : Nat, ∃ x : ClassId × (Nat → Nat), ∀ q, vwCl[k]? = some q → u_Kn s q.1 q.2.1 q.2.2 x.1 x.2 := fun k => by
    cases hq : vwCl[k]? with
    | none => exact ⟨((Classical.choice (⟨0⟩ : Nonempty ClassId)), fun _ => 0), fun q h => nomatch h⟩
    | some q =>
      obtain ⟨x, h⟩ := st_known hbw k q hq
      exact ⟨x, fun q' h' => by cases h'; exact h⟩
  obtain ⟨D, hD⟩ := Classical.axiomOfChoice h0
  have hao := st_ao (args := #[Value.ref b]) hts
  obtain ⟨cA, hcA⟩ := Classical.axiomOfChoice (st_arr hbw hao)
  have hA : ∀ a : Nat, a < s.heap.size → ¬ (fun q : Nat => s.heap.size ≤ q) a := fun a h => Nat.not_le.mpr h
  obtain ⟨adK, adV, hS, hT⟩ := vk_Sof (args := #[Value.ref b]) (s := s) (N := 6) (tm := tmS) (len := txLen) (byt := txByt) (A := fun q : Nat => s.heap.size ≤ q) (by decide) (fun i hi => hf _ (s1 i hi)) (fun i hi => hf _ (s2 i hi)) (fun i hi => hf _ (s3 i hi)) (fun i hi => hf _ (s4 i hi)) (fun i hi j hj => hf _ (gn_B i hi j hj)) (fun i j hi hj hne => (gn_N i hi j hj hne).imp (hf _) (hf _)) hA
  refine ⟨((fun k => (D k).1, fun k => (D k).2), cA, s.heap.size, (b, L, xs), adK, adV), rfl, rfl, ⟨fun k q hq => hD k q hq, fun k q hq => ?_⟩, ?_, hao, ?_, ?_, hS, ?_, st_msgs (args := #[Value.ref b]) hts hgv, hX, hA b hbl, Nat.le_refl _⟩
  · have hk : k < 9 := by
      have := (List.getElem?_eq_some_iff.mp hq).1
      simpa [tysA] using this
    have e := tys_at (cA := cA) hk
    cases e.symm.trans hq
    exact hcA k hk
  · exact st_xk (A := fun _ => True) (args := #[Value.ref b]) hts hA (va_Nc.of (hf _ x1)) (va_eqt (hf _ x2)) (hf _ x3)
  · exact vx_Zqof (hts _ (t_3 _ (List.mem_of_getElem? (i := 108) rfl))) (hts _ (t_1 _ (List.mem_of_getElem? (i := 14) rfl))) (hf _ x4) hA
  · exact vx_Zqof (hts _ (t_3 _ (List.mem_of_getElem? (i := 110) rfl))) (hts _ (t_1 _ (List.mem_of_getElem? (i := 14) rfl))) (hf _ x5) hA
  · intro q hq
    simp only [rtx, List.mem_cons, List.not_mem_nil, or_false] at hq
    rcases hq with rfl | rfl | rfl | rfl | rfl | rfl
    · exact vk_R.of (hts _ (t_4 _ (List.mem_of_getElem? (i := 120) rfl))) (hT 0 (by decide))
    · exact vk_R.of (hts _ (t_4 _ (List.mem_of_getElem? (i := 209) rfl))) (hT 1 (by decide))
    · exact vk_R.of (hts _ (t_5 _ (List.mem_of_getElem? (i := 19) rfl))) (hT 2 (by decide))
    · exact vk_R.of (hts _ (t_5 _ (List.mem_of_getElem? (i := 45) rfl))) (hT 3 (by decide))
    · exact vk_R.of (hts _ (t_5 _ (List.mem_of_getElem? (i := 50) rfl))) (hT 4 (by decide))
    · exact vk_R.of (hts _ (t_5 _ (List.mem_of_getElem? (i := 51) rfl))) (hT 5 (by decide))
end
