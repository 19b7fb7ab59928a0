/-! NEW CELLS -/
def okT : FieldType → Bool
  | .int => true
  | .boolean => true
  | .long => true
  | .object _ => true
  | .array _ => true
  | _ => false
theorem fty_ok : ∀ ci, ci < 12 → ∀ k, k < nF ci → okT (fty ci k) = true := by decide +kernel
theorem stat_nz : ∀ q ∈ STAT, q.2.1 ≠ 0 := by decide +kernel
theorem nwK_K (σ : Sto) (kd len b : Nat) : sK (nwK σ kd len) b = if b = sZ σ then kd else sK σ b := rfl
theorem nwK_N (σ : Sto) (kd len b : Nat) : sN (nwK σ kd len) b = if b = sZ σ then len else sN σ b := rfl
theorem nwK_I (σ : Sto) (kd len b j : Nat) : sI (nwK σ kd len) b j = if b = sZ σ then 0 else sI σ b j := rfl
theorem nwK_L (σ : Sto) (kd len b j : Nat) : sL (nwK σ kd len) b j = if b = sZ σ then 0 else sL σ b j := rfl
theorem nwK_R (σ : Sto) (kd len b j : Nat) : sR (nwK σ kd len) b j = if b = sZ σ then 0 else sR σ b j := rfl
theorem nwK_Z (σ : Sto) (kd len : Nat) : sZ (nwK σ kd len) = sZ σ + 1 := rfl
theorem Wh_new {E : Ev} {st : Bool} {ad : Nat → Nat} {σ : Sto} {H H1 : Heap} {kd len q9 : Nat} {x : va_E} (hw : Wh E st ad σ H) (hkd : kd ≠ 0) (hx : ent E.2.1 (up1 ad (sZ σ) q9) (nwK σ kd len) (sZ σ) = x)
    (hP : va_P E.1 vwCl (wsOf E.2.1 ad σ ++ [(q9, x)]) H1) (hD : va_D (AE E) (wsOf E.2.1 ad σ ++ [(q9, x)])) : Wh E st (up1 ad (sZ σ) q9) (nwK σ kd len) H1 ∧ agr (sZ σ) ad (up1 ad (sZ σ) q9) := by
  have hag : agr (sZ σ) ad (up1 ad (sZ σ) q9) := fun a ha => by simp only [up1, Nat.ne_of_lt ha, if_false]
  have hne : ∀ b, b < sZ σ → up1 ad (sZ σ) q9 b = ad b ∧ ent E.2.1 (up1 ad (sZ σ) q9) (nwK σ kd len) b = ent E.2.1 ad σ b := by
    intro b hb
    refine ⟨hag b hb, ?_⟩
    rw [← ent_agr hag hw.2.2.2.1]
    have hz : b ≠ sZ σ := Nat.ne_of_lt hb
    have e1 : sI (nwK σ kd len) b = sI σ b := funext fun j => by rw [nwK_I, if_neg hz]
    have e2 : sL (nwK σ kd len) b = sL σ b := funext fun j => by rw [nwK_L, if_neg hz]
    have e3 : sR (nwK σ kd len) b = sR σ b := funext fun j => by rw [nwK_R, if_neg hz]
    have e4 : sK (nwK σ kd len) b = sK σ b := by rw [nwK_K, if_neg hz]
    have e5 : sN (nwK σ kd len) b = sN σ b := by rw [nwK_N, if_neg hz]
    have ef : ∀ ci, fv (up1 ad (sZ σ) q9) (nwK σ kd len) b ci = fv (up1 ad (sZ σ) q9) σ b ci := fun ci => funext fun k => by simp only [fv, e1, e2, e3]
    simp only [ent, fvs, arr, e1, e2, e3, e4, e5, ef]
  have e := ws_push (cA := E.2.1) (nwK_Z σ kd len) hw.2.2.1 (show up1 ad (sZ σ) q9 (sZ σ) = q9 by simp only [up1, if_true]) hx hne
  rw [e] at hP hD
  refine ⟨⟨hP, hD, Nat.le_succ_of_le hw.2.2.1, fun b k => ?_, fun b hb => ?_, ?_, fun z => ?_⟩, hag⟩
  · rw [nwK_R, nwK_Z]
    split
    · exact Nat.succ_pos _
    · exact Nat.lt_succ_of_lt (hw.2.2.2.1 b k)
  · rw [nwK_K] at hb
    rw [nwK_Z]
    by_cases hz : b = sZ σ
    · subst hz; exact ⟨hw.2.2.1, Nat.lt_succ_self _⟩
    · rw [if_neg hz] at hb
      exact ⟨(hw.2.2.2.2.1 b hb).1, Nat.lt_succ_of_lt (hw.2.2.2.2.1 b hb).2⟩
  · refine ⟨?_, fun i hi => ?_⟩
    · rw [hag 1 (Nat.lt_of_lt_of_le (by decide) hw.2.2.1)]; exact hw.2.2.2.2.2.1.1
    · rw [hag (2 + i) (Nat.lt_of_lt_of_le (show 2 + i < RS by simp only [RS]; omega) hw.2.2.1), hag (8 + i) (Nat.lt_of_lt_of_le (show 8 + i < RS by simp only [RS]; omega) hw.2.2.1)]; exact hw.2.2.2.2.2.1.2 i hi
  · obtain ⟨f1, f2⟩ := hw.2.2.2.2.2.2 z
    refine ⟨fun q hq => ?_, fun q hq => ?_⟩
    · have h1 := f1 q hq
      have h2 := (hw.2.2.2.2.1 q.1 (by rw [h1.1]; exact stat_nz q hq)).2
      rw [nwK_K, nwK_N, if_neg (Nat.ne_of_lt h2), if_neg (Nat.ne_of_lt h2)]
      exact h1
    · have h1 := f2 q hq
      have h2 := (hw.2.2.2.2.1 q.1 (by rw [h1.1]; omega)).2
      rw [nwK_K, nwK_R, if_neg (Nat.ne_of_lt h2), if_neg (Nat.ne_of_lt h2)]
      exact h1
theorem fv_new {ad : Nat → Nat} {σ : Sto} {kd len ci k : Nat} (h : okT (fty ci k) = true) : fv ad (nwK σ kd len) (sZ σ) ci k = defaultValue (fty ci k) := by
  unfold fv
  simp only [nwK_I, nwK_L, nwK_R, if_true]
  cases hf : fty ci k <;> rw [hf] at h <;> first | rfl | cases h
section GN
variable {p : Program} {l : Launch} {e : Env} {R : Room} {s : State} {m : MethodId} {args : Array Value} {below : List Frame} {meth : Method} {c : Code} {Q : State → Prop} {E : Ev} {st : Bool} {n0 : Nat} {ad0 : Nat → Nat} {nL cells slots : Nat} {σ : Sto} {pc : Nat} {L : List (Nat × Value)} {S : List Value} {cc : ByteArray} {own : String}
/-- what a world gives the next row, when a cell has come -/
theorem G_go {σ' : Sto} {ad ad' : Nat → Nat} {H1 : Heap} {locs1 : List Loc} {ls : Array Slot} {S' : List Value} (k : G p l e R s m args below meth c E st n0 ad0 Q nL cells slots σ' pc L S') (hw : Wh E st ad' σ' H1) (hs : va_S (AE E) s.heap H1 locs1) (ha : n0 ≤ sZ σ ∧ agr n0 ad0 ad) (hag : agr (sZ σ) ad ad') (hz : sZ σ ≤ sZ σ') (hl : lv_has ls nL (L.map (trp ad))) (vl : vokL (sZ σ) L) (vs : vokS (sZ σ') S') :
    W p l e R s m args below meth c H1 locs1 cells slots Q (F0 m pc ls (S'.map (tr ad'))) :=
  k ad' H1 locs1 ls hw hs ⟨Nat.le_trans ha.1 hz, fun a h => by rw [hag a (Nat.lt_of_lt_of_le h ha.1)]; exact ha.2 a h⟩ (by rw [trL_agr hag vl]; exact hl) (vokL_mono hz vl) vs
theorem G_new (C : Cx E p s m args meth c cc nL own) {ix ci : Nat} {q : vw_C} (hc : vwCl[ci]? = some q) (hin : ∀ w ∈ u_ws q.1 q.2.1 q.2.2, w ∈ BW) (hcl : Cond.classLink own ix q.1 ∈ BW) (hinst : Cond.instantiable q.1 q.2.2 ∈ BW) (hini : Cond.initialized q.1 ∈ BW) (hcells : cells + 1 ≤ R.cells) (hslots : slots + nF ci ≤ R.slots)
    (hd : decode cc pc = .ok (.new ix, 3)) (kk : G p l e R s m args below meth c E st n0 ad0 Q nL (cells + 1) (slots + nF ci) (nwK σ (ci + 1) 0) (pc + 3) L (.ref (sZ σ) :: S)) : G p l e R s m args below meth c E st n0 ad0 Q nL cells slots σ pc L S := by
  intro ad H locs ls hw hs ha hl vl vs
  obtain ⟨hc12, hN, hty, -⟩ := cl_ok ci q hc
  have hA : ∀ q, s.heap.size ≤ q → AE E q := fun q h => Nat.le_trans C.2.2.2.2.2.2.2.2.2.2.2.2.2.2.2.2 h
  refine va_new (ci := ci) (fs := (List.range (nF ci)).map (fun k => defaultValue (fty ci k))) (C := q.1) (T := q.2.1) (N := q.2.2) C.1 C.2.1 C.2.2.2.2.1 hin (fty ci) hty C.2.2.2.1 (C.2.2.2.2.1 _ hcl) (C.2.2.2.2.1 _ hinst) (C.2.2.2.2.1 _ hini) C.2.2.2.2.2.2.1 hw.1 hw.2.1 hs hA hc (fun j hj => ?_) hcells (by rw [hN]; exact hslots) hd (fun q9 H1 hP hD hS1 => ?_)
  · rw [hN] at hj
    simp only [vp_V, List.getD_eq_getElem?_getD, List.getElem?_map, List.getElem?_range hj, Option.map_some, Option.getD_some]
  · have hx : ent E.2.1 (up1 ad (sZ σ) q9) (nwK σ (ci + 1) 0) (sZ σ) = .inr (ci, (List.range (nF ci)).map (fun k => defaultValue (fty ci k))) := by
      rw [ent_o (by rw [nwK_K, if_pos rfl]) hc12, fvs]
      exact congrArg (fun z => Sum.inr (ci, z)) (List.map_congr_left fun k hk => fv_new (fty_ok ci hc12 k (List.mem_range.mp hk)))
    obtain ⟨hw1, hag⟩ := Wh_new hw (by omega) hx hP hD
    have h9 := G_go kk hw1 hS1 ha hag (Nat.le_succ _) hl vl ⟨Nat.lt_succ_self _, vokS_mono (Nat.le_succ _) vs⟩
    rw [hN]
    have h8 : W p l e R s m args below meth c H1 locs (cells + 1) (slots + nF ci) Q (F0 m (pc + 3) ls (rv (up1 ad (sZ σ) q9) (sZ σ) :: S.map (tr (up1 ad (sZ σ) q9)))) := h9
    rw [trS_agr hag vs, rv_ne (Nat.ne_of_gt (Nat.lt_of_lt_of_le (by decide) hw.2.2.1))] at h8
    have e9 : up1 ad (sZ σ) q9 (sZ σ) = q9 := by simp only [up1, if_true]
    rw [e9] at h8
    exact h8
theorem G_newI (C : Cx E p s m args meth c cc nL own) {n : Int32} {N : Nat} (harr : Cond.arrayClass FieldType.int ∈ BW) (hn : ¬ n < 0) (hN : n.toNatClampNeg = N) (hb : N * componentBytes FieldType.int ≤ 536870912) (hcells : cells + 1 ≤ R.cells) (hslots : slots + N ≤ R.slots)
    (hd : decode cc pc = .ok (.newarray .int, 2)) (kk : G p l e R s m args below meth c E st n0 ad0 Q nL (cells + 1) (slots + N) (nwK σ (100 + 0) N) (pc + 2) L (.ref (sZ σ) :: S)) : G p l e R s m args below meth c E st n0 ad0 Q nL cells slots σ pc L (.int n :: S) := by
  intro ad H locs ls hw hs ha hl vl vs
  have hA : ∀ q, s.heap.size ≤ q → AE E q := fun q h => Nat.le_trans C.2.2.2.2.2.2.2.2.2.2.2.2.2.2.2.2 h
  have hK := C.2.2.2.2.2.2.1
  refine va_newa (atype := .int) (ty := FieldType.int) (N' := N) (a0 := (N, .inl (fun _ => 0))) C.1 C.2.1 (C.2.2.2.2.1 _ harr) rfl hK hw.1 hw.2.1 hs hA (fun cA => rfl) hn hN hb hcells hslots hd (fun q9 cA H1 hK1 hP hD hS1 => ?_)
  have hcA : cA = E.2.1 0 := by
    have h1 := (hK1.2 9 (cA, FieldType.int) rfl).2
    have h2 := (hK.2 0 _ (tys_at (by decide))).2
    exact Option.some.inj (h1.symm.trans h2)
  subst hcA
  have hx : ent E.2.1 (up1 ad (sZ σ) q9) (nwK σ (100 + 0) N) (sZ σ) = .inl (E.2.1 0, (N, .inl (fun _ => 0))) := by
    rw [ent_a (t := 0) (by rw [nwK_K, if_pos rfl]), nwK_N, if_pos rfl]
    refine congrArg (fun z => Sum.inl (E.2.1 0, N, z)) ?_
    have e1 : sI (nwK σ (100 + 0) N) (sZ σ) = fun _ => 0 := funext fun j => by rw [nwK_I, if_pos rfl]
    simp only [arr, e1]
    rfl
  obtain ⟨hw1, hag⟩ := Wh_new hw (by omega) hx hP hD
  have h9 := G_go kk hw1 hS1 ha hag (Nat.le_succ _) hl vl ⟨Nat.lt_succ_self _, vokS_mono (Nat.le_succ _) vs⟩
  have h8 : W p l e R s m args below meth c H1 locs (cells + 1) (slots + N) Q (F0 m (pc + 2) ls (rv (up1 ad (sZ σ) q9) (sZ σ) :: S.map (tr (up1 ad (sZ σ) q9)))) := h9
  rw [trS_agr (S := S) hag vs, rv_ne (Nat.ne_of_gt (Nat.lt_of_lt_of_le (by decide) hw.2.2.1))] at h8
  have e9 : up1 ad (sZ σ) q9 (sZ σ) = q9 := by simp only [up1, if_true]
  rw [e9] at h8
  exact h8
theorem G_newJ (C : Cx E p s m args meth c cc nL own) {n : Int32} {N : Nat} (harr : Cond.arrayClass FieldType.long ∈ BW) (hn : ¬ n < 0) (hN : n.toNatClampNeg = N) (hb : N * componentBytes FieldType.long ≤ 536870912) (hcells : cells + 1 ≤ R.cells) (hslots : slots + N ≤ R.slots)
    (hd : decode cc pc = .ok (.newarray .long, 2)) (kk : G p l e R s m args below meth c E st n0 ad0 Q nL (cells + 1) (slots + N) (nwK σ (100 + 1) N) (pc + 2) L (.ref (sZ σ) :: S)) : G p l e R s m args below meth c E st n0 ad0 Q nL cells slots σ pc L (.int n :: S) := by
  intro ad H locs ls hw hs ha hl vl vs
  have hA : ∀ q, s.heap.size ≤ q → AE E q := fun q h => Nat.le_trans C.2.2.2.2.2.2.2.2.2.2.2.2.2.2.2.2 h
  have hK := C.2.2.2.2.2.2.1
  refine va_newa (atype := .long) (ty := FieldType.long) (N' := N) (a0 := (N, .inr (.inl (fun _ => 0)))) C.1 C.2.1 (C.2.2.2.2.1 _ harr) rfl hK hw.1 hw.2.1 hs hA (fun cA => rfl) hn hN hb hcells hslots hd (fun q9 cA H1 hK1 hP hD hS1 => ?_)
  have hcA : cA = E.2.1 1 := by
    have h1 := (hK1.2 9 (cA, FieldType.long) rfl).2
    have h2 := (hK.2 1 _ (tys_at (by decide))).2
    exact Option.some.inj (h1.symm.trans h2)
  subst hcA
  have hx : ent E.2.1 (up1 ad (sZ σ) q9) (nwK σ (100 + 1) N) (sZ σ) = .inl (E.2.1 1, (N, .inr (.inl (fun _ => 0)))) := by
    rw [ent_a (t := 1) (by rw [nwK_K, if_pos rfl]), nwK_N, if_pos rfl]
    refine congrArg (fun z => Sum.inl (E.2.1 1, N, z)) ?_
    have e1 : sL (nwK σ (100 + 1) N) (sZ σ) = fun _ => 0 := funext fun j => by rw [nwK_L, if_pos rfl]
    simp only [arr, e1]
    rfl
  obtain ⟨hw1, hag⟩ := Wh_new hw (by omega) hx hP hD
  have h9 := G_go kk hw1 hS1 ha hag (Nat.le_succ _) hl vl ⟨Nat.lt_succ_self _, vokS_mono (Nat.le_succ _) vs⟩
  have h8 : W p l e R s m args below meth c H1 locs (cells + 1) (slots + N) Q (F0 m (pc + 2) ls (rv (up1 ad (sZ σ) q9) (sZ σ) :: S.map (tr (up1 ad (sZ σ) q9)))) := h9
  rw [trS_agr (S := S) hag vs, rv_ne (Nat.ne_of_gt (Nat.lt_of_lt_of_le (by decide) hw.2.2.1))] at h8
  have e9 : up1 ad (sZ σ) q9 (sZ σ) = q9 := by simp only [up1, if_true]
  rw [e9] at h8
  exact h8
theorem G_newB (C : Cx E p s m args meth c cc nL own) {n : Int32} {N : Nat} (harr : Cond.arrayClass FieldType.boolean ∈ BW) (hn : ¬ n < 0) (hN : n.toNatClampNeg = N) (hb : N * componentBytes FieldType.boolean ≤ 536870912) (hcells : cells + 1 ≤ R.cells) (hslots : slots + N ≤ R.slots)
    (hd : decode cc pc = .ok (.newarray .boolean, 2)) (kk : G p l e R s m args below meth c E st n0 ad0 Q nL (cells + 1) (slots + N) (nwK σ (100 + 2) N) (pc + 2) L (.ref (sZ σ) :: S)) : G p l e R s m args below meth c E st n0 ad0 Q nL cells slots σ pc L (.int n :: S) := by
  intro ad H locs ls hw hs ha hl vl vs
  have hA : ∀ q, s.heap.size ≤ q → AE E q := fun q h => Nat.le_trans C.2.2.2.2.2.2.2.2.2.2.2.2.2.2.2.2 h
  have hK := C.2.2.2.2.2.2.1
  refine va_newa (atype := .boolean) (ty := FieldType.boolean) (N' := N) (a0 := (N, .inl (fun _ => 0))) C.1 C.2.1 (C.2.2.2.2.1 _ harr) rfl hK hw.1 hw.2.1 hs hA (fun cA => rfl) hn hN hb hcells hslots hd (fun q9 cA H1 hK1 hP hD hS1 => ?_)
  have hcA : cA = E.2.1 2 := by
    have h1 := (hK1.2 9 (cA, FieldType.boolean) rfl).2
    have h2 := (hK.2 2 _ (tys_at (by decide))).2
    exact Option.some.inj (h1.symm.trans h2)
  subst hcA
  have hx : ent E.2.1 (up1 ad (sZ σ) q9) (nwK σ (100 + 2) N) (sZ σ) = .inl (E.2.1 2, (N, .inl (fun _ => 0))) := by
    rw [ent_a (t := 2) (by rw [nwK_K, if_pos rfl]), nwK_N, if_pos rfl]
    refine congrArg (fun z => Sum.inl (E.2.1 2, N, z)) ?_
    have e1 : sI (nwK σ (100 + 2) N) (sZ σ) = fun _ => 0 := funext fun j => by rw [nwK_I, if_pos rfl]
    simp only [arr, e1]
    rfl
  obtain ⟨hw1, hag⟩ := Wh_new hw (by omega) hx hP hD
  have h9 := G_go kk hw1 hS1 ha hag (Nat.le_succ _) hl vl ⟨Nat.lt_succ_self _, vokS_mono (Nat.le_succ _) vs⟩
  have h8 : W p l e R s m args below meth c H1 locs (cells + 1) (slots + N) Q (F0 m (pc + 2) ls (rv (up1 ad (sZ σ) q9) (sZ σ) :: S.map (tr (up1 ad (sZ σ) q9)))) := h9
  rw [trS_agr (S := S) hag vs, rv_ne (Nat.ne_of_gt (Nat.lt_of_lt_of_le (by decide) hw.2.2.1))] at h8
  have e9 : up1 ad (sZ σ) q9 (sZ σ) = q9 := by simp only [up1, if_true]
  rw [e9] at h8
  exact h8
theorem G_newQ (C : Cx E p s m args meth c cc nL own) {n : Int32} {N t ix : Nat} {CN : String} (ht : t < 9 ∧ 3 ≤ t) (hCN : aty t = .object CN) (hcl : Cond.classLink own ix CN ∈ BW) (hn : ¬ n < 0) (hN : n.toNatClampNeg = N) (hb : N * 4 ≤ 536870912) (hcells : cells + 1 ≤ R.cells) (hslots : slots + N ≤ R.slots)
    (hd : decode cc pc = .ok (.anewarray ix, 3)) (kk : G p l e R s m args below meth c E st n0 ad0 Q nL (cells + 1) (slots + N) (nwK σ (100 + t) N) (pc + 3) L (.ref (sZ σ) :: S)) : G p l e R s m args below meth c E st n0 ad0 Q nL cells slots σ pc L (.int n :: S) := by
  intro ad H locs ls hw hs ha hl vl vs
  have hA : ∀ q, s.heap.size ≤ q → AE E q := fun q h => Nat.le_trans C.2.2.2.2.2.2.2.2.2.2.2.2.2.2.2.2 h
  have hK := C.2.2.2.2.2.2.1
  have hover : va_AO CN s := by
    obtain ⟨C1, e1, e2⟩ := C.2.2.2.2.2.2.2.2.1 t ht.1 ht.2
    rw [hCN] at e1
    cases e1
    exact e2
  refine va_newq (N' := N) C.1 C.2.1 C.2.2.2.1 (C.2.2.2.2.1 _ hcl) hover hK hw.1 hw.2.1 hs hA hn hN hb hcells hslots hd (fun q9 cA H1 hK1 hP hD hS1 => ?_)
  have hcA : cA = E.2.1 t := by
    have h1 := (hK1.2 9 (cA, .object CN) rfl).2
    have h2 := (hK.2 t _ (tys_at ht.1)).2
    rw [hCN] at h2
    obtain ⟨_, _, _, _, _, h3⟩ := h1
    obtain ⟨_, _, _, _, _, h4⟩ := h2
    exact Option.some.inj (h3.symm.trans h4)
  subst hcA
  have hx : ent E.2.1 (up1 ad (sZ σ) q9) (nwK σ (100 + t) N) (sZ σ) = .inl (E.2.1 t, (N, .inr (.inr (.inr (.inr (fun _ => none)))))) := by
    rw [ent_a (t := t) (by rw [nwK_K, if_pos rfl]), nwK_N, if_pos rfl]
    refine congrArg (fun z => Sum.inl (E.2.1 t, N, z)) ?_
    rw [arr, if_neg (by omega), if_neg (by omega)]
    refine congrArg (fun z => Sum.inr (Sum.inr (Sum.inr (Sum.inr z)))) (funext fun j => ?_)
    rw [nwK_R, if_pos rfl]; rfl
  obtain ⟨hw1, hag⟩ := Wh_new hw (by omega) hx hP hD
  have h9 := G_go kk hw1 hS1 ha hag (Nat.le_succ _) hl vl ⟨Nat.lt_succ_self _, vokS_mono (Nat.le_succ _) vs⟩
  have h8 : W p l e R s m args below meth c H1 locs (cells + 1) (slots + N) Q (F0 m (pc + 3) ls (rv (up1 ad (sZ σ) q9) (sZ σ) :: S.map (tr (up1 ad (sZ σ) q9)))) := h9
  rw [trS_agr (S := S) hag vs, rv_ne (Nat.ne_of_gt (Nat.lt_of_lt_of_le (by decide) hw.2.2.1))] at h8
  have e9 : up1 ad (sZ σ) q9 (sZ σ) = q9 := by simp only [up1, if_true]
  rw [e9] at h8
  exact h8
theorem G_objInit (C : Cx E p s m args meth c cc nL own) {ix a : Nat} (h1 : Cond.methodLink own ix Lib.objectInit ∈ BW) (h2 : Cond.instanceMethod Lib.objectInit ∈ BW) (h3 : Cond.code Lib.objectInit ⟨#[0xb1]⟩ 1 none ∈ BW) {kd : Nat} (hkd : kd ≠ 0) (hk : KO st σ a kd) (hfr : 1 ≤ R.frames) (hlo : (S.map fun v => v.category).sum + 12 ≤ R.locals) (hd : decode cc pc = .ok (.invokespecial ix, 3)) (kk : G p l e R s m args below meth c E st n0 ad0 Q nL cells slots σ (pc + 3) L S) : G p l e R s m args below meth c E st n0 ad0 Q nL cells slots σ pc L (.ref a :: S) := by
  intro ad H locs ls hw hs ha hl vl vs
  have ha0 : a ≠ 0 := (hw.lt (hk E ad H hw) hkd).2.2
  show W p l e R s m args below meth c H locs cells slots Q (F0 m pc ls (rv ad a :: S.map (tr ad)))
  rw [rv_ne ha0]
  exact W.objInit C.1 C.2.1 C.2.2.2.1 (C.2.2.2.2.1 _ h1) (C.2.2.2.2.1 _ h2) (C.2.2.2.2.1 _ h3) rfl (by rw [C.2.2.1]; exact hl.1) rfl hd hfr (by rw [cat_trS]; simpa [F0, JFrame.monitorRoom] using hlo) (kk ad H locs ls hw hs ha hl vl vs.2)
end GN
abbrev stp {α β : Type} (x : α) (f : α → β) : β := f x
theorem stp_elim {α β : Type} {x : α} {f : α → β} {r : β} (h : stp x f = r) : ∃ y, y = x ∧ f y = r := ⟨x, rfl, h⟩
def bd2 {α β γ : Type} (x : Option (α × β)) (f : α → β → Option γ) : Option γ := x.bind fun q => f q.1 q.2
theorem bd2_elim {α β γ : Type} {x : Option (α × β)} {f : α → β → Option γ} {r : γ} (h : bd2 x f = some r) : ∃ v s, x = some (v, s) ∧ f v s = some r := by
  cases x with
  | none => cases h
  | some q => exact ⟨q.1, q.2, rfl, h⟩
def bdx {α β γ : Type} (x : Option (Nat ⊕ (α × β))) (f : α → β → Option (Nat ⊕ γ)) : Option (Nat ⊕ γ) := x.bind fun q => match q with
  | .inl e => some (.inl e)
  | .inr v => f v.1 v.2
theorem bdx_elim {α β γ : Type} {x : Option (Nat ⊕ (α × β))} {f : α → β → Option (Nat ⊕ γ)} {r : Nat ⊕ γ} (h : bdx x f = some r) : (∃ e, x = some (.inl e) ∧ r = .inl e) ∨ ∃ v s, x = some (.inr (v, s)) ∧ f v s = some r := by
  cases x with
  | none => cases h
  | some q =>
    cases q with
    | inl e => exact Or.inl ⟨e, rfl, (Option.some.inj h).symm⟩
    | inr v => exact Or.inr ⟨v.1, v.2, rfl, h⟩
def FU : Nat := 5000
theorem some2 {α β : Type} {a c : α} {b d : β} (h : some (a, b) = some (c, d)) : a = c ∧ b = d := Prod.mk.inj (Option.some.inj h)
/-! CONTRACTS -/
def PcA (E : Ev) (st : Bool) (σ : Sto) (As : List Value) (ad : Nat → Nat) : Array Value → State → Prop := va_Pc (As.map (tr ad)) (fun U => Fk E U U.heap ∧ Wh E st ad σ U.heap ∧ vokS (sZ σ) As)
def QI (E : Ev) (st : Bool) (σ : Sto) (v : Int32) (σ' : Sto) (ad : Nat → Nat) : Array Value → State → Outcome → State → Prop := va_Qi (fun r (ad' : Nat → Nat) => r = v ∧ agr (sZ σ) ad ad' ∧ sZ σ ≤ sZ σ') (fun ad' t => Wh E st ad' σ' t.heap) (AE E)
def QL (E : Ev) (st : Bool) (σ : Sto) (v : Int64) (σ' : Sto) (ad : Nat → Nat) : Array Value → State → Outcome → State → Prop := va_Ql (fun r (ad' : Nat → Nat) => r = v ∧ agr (sZ σ) ad ad' ∧ sZ σ ≤ sZ σ') (fun ad' t => Wh E st ad' σ' t.heap) (AE E)
def QV (E : Ev) (st : Bool) (σ : Sto) (σ' : Sto) (ad : Nat → Nat) : Array Value → State → Outcome → State → Prop := va_Qv (fun (ad' : Nat → Nat) => agr (sZ σ) ad ad' ∧ sZ σ ≤ sZ σ') (fun ad' t => Wh E st ad' σ' t.heap) (AE E)
def QR (E : Ev) (st : Bool) (σ : Sto) (v : Nat) (σ' : Sto) (ad : Nat → Nat) : Array Value → State → Outcome → State → Prop := va_Qr (fun (ad' : Nat → Nat) => agr (sZ σ) ad ad' ∧ sZ σ ≤ sZ σ') (fun ad' a t => (a = ad' v ∧ v ≠ 0 ∧ v < sZ σ') ∧ Wh E st ad' σ' t.heap) (AE E)
/-- a method that returns -/
def MM (l : Launch) (y : MethodName) (bytes : ByteArray) (maxL : Nat) (ret : Option FieldType) (d mc ms : Nat) (E : Ev) (st : Bool) (σ : Sto) (As : List Value) (Qc : (Nat → Nat) → Array Value → State → Outcome → State → Prop) : Prop :=
  ∀ ad : Nat → Nat, Met l y (wsY y bytes maxL ret) (rmd d mc ms) (PcA E st σ As ad) (Qc ad) mc ms (AE E)
def xn (x : Nat) : String := if x = 0 then "java/util/NoSuchElementException" else "java/lang/IllegalArgumentException"
/-- a method that returns or throws -/
def XX (E : Ev) (st : Bool) (σ : Sto) (α : Type) (r : Nat ⊕ (α × Sto)) (ad : Nat → Nat) : String → State → State → Prop := vx_X (fun x : Nat => r = .inl x) (fun Enm x t => Enm = xn x ∧ Wh E st ad σ t.heap) (AE E)
def QIx (E : Ev) (st : Bool) (σ : Sto) (r : Nat ⊕ (Int32 × Sto)) (ad : Nat → Nat) : Array Value → State → Outcome → State → Prop := va_Qi (fun v (u : (Nat → Nat) × Sto) => r = .inr (v, u.2) ∧ agr (sZ σ) ad u.1 ∧ sZ σ ≤ sZ u.2) (fun u t => Wh E st u.1 u.2 t.heap) (AE E)
def QLx (E : Ev) (st : Bool) (σ : Sto) (r : Nat ⊕ (Int64 × Sto)) (ad : Nat → Nat) : Array Value → State → Outcome → State → Prop := va_Ql (fun v (u : (Nat → Nat) × Sto) => r = .inr (v, u.2) ∧ agr (sZ σ) ad u.1 ∧ sZ σ ≤ sZ u.2) (fun u t => Wh E st u.1 u.2 t.heap) (AE E)
def QVx (E : Ev) (st : Bool) (σ : Sto) (r : Nat ⊕ (Unit × Sto)) (ad : Nat → Nat) : Array Value → State → Outcome → State → Prop := va_Qv (fun (u : (Nat → Nat) × Sto) => r = .inr ((), u.2) ∧ agr (sZ σ) ad u.1 ∧ sZ σ ≤ sZ u.2) (fun u t => Wh E st u.1 u.2 t.heap) (AE E)
def MX (l : Launch) (y : MethodName) (bytes : ByteArray) (maxL : Nat) (ret : Option FieldType) (d mc ms : Nat) (E : Ev) (st : Bool) (σ : Sto) (As : List Value) (α : Type) (r : Nat ⊕ (α × Sto)) (Qc : (Nat → Nat) → Array Value → State → Outcome → State → Prop) : Prop :=
  ∀ ad : Nat → Nat, vx_Met l y (wsY y bytes maxL ret) (rmd d mc ms) (PcA E st σ As ad) (Qc ad) (XX E st σ α r ad) mc ms (AE E)
theorem lg_sl_tr (ad : Nat → Nat) (As : List Value) : (lg_sl (As.map (tr ad))).length = (lg_sl As).length := by
  induction As with
  | nil => rfl
  | cons v t ih =>
    simp only [lg_sl, List.map_cons, List.flatMap_cons, List.length_append, cat_tr] at ih ⊢
    rw [ih]
    by_cases h : v.category = 2
    · simp only [h, if_true, List.length_cons, List.length_nil]
    · simp only [h, if_false, List.length_cons, List.length_nil]
theorem MM_of {l : Launch} {y : MethodName} {bytes : ByteArray} {maxL : Nat} {ret : Option FieldType} {d mc ms : Nat} {E : Ev} {st : Bool} {σ : Sto} {As : List Value} {L : List (Nat × Value)} {Qc : (Nat → Nat) → Array Value → State → Outcome → State → Prop} (hy : plainName y.cls = true) (hlen : (lg_sl As).length ≤ maxL) (hL : lv_args 0 As = L)
    (body : ∀ (p : Program) (e : Env) (s : State) (m : MethodId) (args : Array Value) (below : List Frame) (meth : Method) (c : Code) (ad : Nat → Nat), Cx E p s m args meth c bytes maxL y.cls → meth.sig.returnType = ret → meth.name = y.name →
      G p l e (rmd d mc ms) s m args below meth c E st (sZ σ) ad (MQ below (Qc ad) args s mc ms (AE E)) maxL 0 0 σ 0 L []) : MM l y bytes maxL ret d mc ms E st σ As Qc := by
  intro ad
  subst hL
  refine Met.ofW (cc := bytes) (maxL := maxL) (ret := ret) hy rfl ?_
  intro p e s m args below meth c s₁ B hml hv
  obtain ⟨rfl, hF, hW, hV⟩ := hv
  have hts := atoms_spec (ws := wsY y bytes maxL ret) B.pre
  have C : Cx E p s m (As.map (tr ad)).toArray meth c bytes maxL y.cls := ⟨B.exec, B.bytes, hml, findClass_of_methodNamed B.named, fun w hw => hts w (List.mem_cons_of_mem _ hw), B.notSynchronized, hF⟩
  rw [lg_entry_eq]
  exact body p e s m _ below meth c ad C B.returns (name_of_methodNamed B.named B.method).1 ad s.heap [] _ hW va_S.rf ⟨Nat.le_refl _, fun _ _ => rfl⟩ (by rw [← lv_args_tr]; exact lv_entry _ (by rw [lg_sl_tr]; exact hlen)) (vokL_args hV 0) trivial
theorem MX_of {l : Launch} {y : MethodName} {bytes : ByteArray} {maxL : Nat} {ret : Option FieldType} {d mc ms : Nat} {E : Ev} {st : Bool} {σ : Sto} {As : List Value} {L : List (Nat × Value)} {α : Type} {r : Nat ⊕ (α × Sto)} {Qc : (Nat → Nat) → Array Value → State → Outcome → State → Prop} (hy : plainName y.cls = true) (hlen : (lg_sl As).length ≤ maxL) (hL : lv_args 0 As = L)
    (body : ∀ (p : Program) (e : Env) (s : State) (m : MethodId) (args : Array Value) (below : List Frame) (meth : Method) (c : Code) (ad : Nat → Nat), Cx E p s m args meth c bytes maxL y.cls → meth.sig.returnType = ret → (∀ x ∈ c.exceptionTable.toList, False) →
      G p l e (rmd d mc ms) s m args below meth c E st (sZ σ) ad (vx_MQ below (Qc ad) (XX E st σ α r ad) args s mc ms (AE E)) maxL 0 0 σ 0 L []) : MX l y bytes maxL ret d mc ms E st σ As α r Qc := by
  intro ad
  subst hL
  refine vx_ofW (cc := bytes) (maxL := maxL) (ret := ret) hy rfl ?_
  intro p e s m args below meth c s₁ B hml ht hv
  obtain ⟨rfl, hF, hW, hV⟩ := hv
  have hts := atoms_spec (ws := wsY y bytes maxL ret) B.pre
  have C : Cx E p s m (As.map (tr ad)).toArray meth c bytes maxL y.cls := ⟨B.exec, B.bytes, hml, findClass_of_methodNamed B.named, fun w hw => hts w (List.mem_cons_of_mem _ hw), B.notSynchronized, hF⟩
  rw [lg_entry_eq]
  exact body p e s m _ below meth c ad C B.returns ht ad s.heap [] _ hW va_S.rf ⟨Nat.le_refl _, fun _ _ => rfl⟩ (by rw [← lv_args_tr]; exact lv_entry _ (by rw [lg_sl_tr]; exact hlen)) (vokL_args hV 0) trivial
section GE
variable {p : Program} {l : Launch} {e : Env} {R : Room} {s : State} {m : MethodId} {args : Array Value} {below : List Frame} {meth : Method} {c : Code} {Q : State → Prop} {E : Ev} {st : Bool} {n0 : Nat} {ad0 : Nat → Nat} {nL cells slots : Nat} {σ : Sto} {pc : Nat} {L : List (Nat × Value)} {S : List Value} {cc : ByteArray} {own : String}
theorem G_iret (C : Cx E p s m args meth c cc nL own) {σ0 : Sto} {mc ms : Nat} {v : Int32} (hr : meth.sig.returnType = some .int) (h1 : cells ≤ mc) (h2 : slots ≤ ms) (hd : decode cc pc = .ok (.ireturn, 1)) : G p l e R s m args below meth c E st (sZ σ0) ad0 (MQ below (QI E st σ0 v σ ad0) args s mc ms (AE E)) nL cells slots σ pc L [.int v] := by
  intro ad H locs ls hw hs ha hl vl vs
  refine W.widen h1 h2 ?_
  exact W.iret (v := v) C.1 C.2.1 hr (fun t ht hW => ⟨⟨v, ad, rfl, ⟨rfl, ha.2, ha.1⟩, (show Wh E st ad σ t.heap by rw [ht]; exact hw)⟩, hs.F ht⟩) hs.2.2 hd (hlocks := C.2.2.2.2.2.1)
theorem G_zret (C : Cx E p s m args meth c cc nL own) {σ0 : Sto} {mc ms : Nat} {v : Int32} (hb : isB v) (hr : meth.sig.returnType = some .boolean) (h1 : cells ≤ mc) (h2 : slots ≤ ms) (hd : decode cc pc = .ok (.ireturn, 1)) : G p l e R s m args below meth c E st (sZ σ0) ad0 (MQ below (QI E st σ0 v σ ad0) args s mc ms (AE E)) nL cells slots σ pc L [.int v] := by
  intro ad H locs ls hw hs ha hl vl vs
  refine W.widen h1 h2 ?_
  exact W.zret (v := v) (ty := .boolean) C.1 C.2.1 hr (fits_i (Or.inr ⟨rfl, hb⟩)).2 (fun t ht hW => ⟨⟨v, ad, rfl, ⟨rfl, ha.2, ha.1⟩, (show Wh E st ad σ t.heap by rw [ht]; exact hw)⟩, hs.F ht⟩) hs.2.2 hd (hlocks := C.2.2.2.2.2.1)
theorem G_lret (C : Cx E p s m args meth c cc nL own) {σ0 : Sto} {mc ms : Nat} {v : Int64} (hr : meth.sig.returnType = some .long) (h1 : cells ≤ mc) (h2 : slots ≤ ms) (hd : decode cc pc = .ok (.lreturn, 1)) : G p l e R s m args below meth c E st (sZ σ0) ad0 (MQ below (QL E st σ0 v σ ad0) args s mc ms (AE E)) nL cells slots σ pc L [.long v] := by
  intro ad H locs ls hw hs ha hl vl vs
  refine W.widen h1 h2 ?_
  exact W.lret (v := v) C.1 C.2.1 hr (fun t ht hW => ⟨⟨v, ad, rfl, ⟨rfl, ha.2, ha.1⟩, (show Wh E st ad σ t.heap by rw [ht]; exact hw)⟩, hs.F ht⟩) hs.2.2 hd (hlocks := C.2.2.2.2.2.1)
theorem G_vret (C : Cx E p s m args meth c cc nL own) {σ0 : Sto} {mc ms : Nat}  (hr : meth.sig.returnType = none) (h1 : cells ≤ mc) (h2 : slots ≤ ms) (hd : decode cc pc = .ok (.return_, 1)) : G p l e R s m args below meth c E st (sZ σ0) ad0 (MQ below (QV E st σ0  σ ad0) args s mc ms (AE E)) nL cells slots σ pc L [] := by
  intro ad H locs ls hw hs ha hl vl vs
  refine W.widen h1 h2 ?_
  exact W.vret C.1 C.2.1 hr (fun t ht hW => ⟨⟨ad, rfl, ⟨ha.2, ha.1⟩, (show Wh E st ad σ t.heap by rw [ht]; exact hw)⟩, hs.F ht⟩) hs.2.2 hd (hlocks := C.2.2.2.2.2.1)
theorem G_aret (C : Cx E p s m args meth c cc nL own) {σ0 : Sto} {mc ms : Nat} {v : Nat} {CN : String} (hv : v ≠ 0) (hr : meth.sig.returnType = some (.object CN)) (h1 : cells ≤ mc) (h2 : slots ≤ ms) (hd : decode cc pc = .ok (.areturn, 1)) : G p l e R s m args below meth c E st (sZ σ0) ad0 (MQ below (QR E st σ0 v σ ad0) args s mc ms (AE E)) nL cells slots σ pc L [.ref v] := by
  intro ad H locs ls hw hs ha hl vl vs
  refine W.widen h1 h2 ?_
  show W p l e R s m args below meth c H locs mc ms _ (F0 m pc ls [rv ad v])
  rw [rv_ne hv]
  exact W.aret (v := .ref (ad v)) C.1 C.2.1 hr (Or.inl ⟨_, rfl⟩) (Or.inr ⟨_, rfl⟩) (fun t ht hW => ⟨⟨ad, ad v, rfl, ⟨ha.2, ha.1⟩, ⟨rfl, hv, vs.1⟩, (show Wh E st ad σ t.heap by rw [ht]; exact hw)⟩, hs.F ht⟩) hs.2.2 hd (hlocks := C.2.2.2.2.2.1)
theorem G_iretx (C : Cx E p s m args meth c cc nL own) {σ0 : Sto} {mc ms : Nat} {v : Int32} (hr : meth.sig.returnType = some .int) (h1 : cells ≤ mc) (h2 : slots ≤ ms) (hd : decode cc pc = .ok (.ireturn, 1)) : G p l e R s m args below meth c E st (sZ σ0) ad0 (vx_MQ below (QIx E st σ0 (.inr (v, σ)) ad0) (XX E st σ0 Int32 (.inr (v, σ)) ad0) args s mc ms (AE E)) nL cells slots σ pc L [.int v] := by
  intro ad H locs ls hw hs ha hl vl vs
  refine W.widen h1 h2 ?_
  exact vx_ret (W.iret (v := v) C.1 C.2.1 hr (fun t ht hW => ⟨⟨v, (ad, σ), rfl, ⟨rfl, ha.2, ha.1⟩, (show Wh E st ad σ t.heap by rw [ht]; exact hw)⟩, hs.F ht⟩) hs.2.2 hd (hlocks := C.2.2.2.2.2.1))
theorem G_zretx (C : Cx E p s m args meth c cc nL own) {σ0 : Sto} {mc ms : Nat} {v : Int32} (hb : isB v) (hr : meth.sig.returnType = some .boolean) (h1 : cells ≤ mc) (h2 : slots ≤ ms) (hd : decode cc pc = .ok (.ireturn, 1)) : G p l e R s m args below meth c E st (sZ σ0) ad0 (vx_MQ below (QIx E st σ0 (.inr (v, σ)) ad0) (XX E st σ0 Int32 (.inr (v, σ)) ad0) args s mc ms (AE E)) nL cells slots σ pc L [.int v] := by
  intro ad H locs ls hw hs ha hl vl vs
  refine W.widen h1 h2 ?_
  exact vx_ret (W.zret (v := v) (ty := .boolean) C.1 C.2.1 hr (fits_i (Or.inr ⟨rfl, hb⟩)).2 (fun t ht hW => ⟨⟨v, (ad, σ), rfl, ⟨rfl, ha.2, ha.1⟩, (show Wh E st ad σ t.heap by rw [ht]; exact hw)⟩, hs.F ht⟩) hs.2.2 hd (hlocks := C.2.2.2.2.2.1))
theorem G_lretx (C : Cx E p s m args meth c cc nL own) {σ0 : Sto} {mc ms : Nat} {v : Int64} (hr : meth.sig.returnType = some .long) (h1 : cells ≤ mc) (h2 : slots ≤ ms) (hd : decode cc pc = .ok (.lreturn, 1)) : G p l e R s m args below meth c E st (sZ σ0) ad0 (vx_MQ below (QLx E st σ0 (.inr (v, σ)) ad0) (XX E st σ0 Int64 (.inr (v, σ)) ad0) args s mc ms (AE E)) nL cells slots σ pc L [.long v] := by
  intro ad H locs ls hw hs ha hl vl vs
  refine W.widen h1 h2 ?_
  exact vx_ret (W.lret (v := v) C.1 C.2.1 hr (fun t ht hW => ⟨⟨v, (ad, σ), rfl, ⟨rfl, ha.2, ha.1⟩, (show Wh E st ad σ t.heap by rw [ht]; exact hw)⟩, hs.F ht⟩) hs.2.2 hd (hlocks := C.2.2.2.2.2.1))
theorem G_vretx (C : Cx E p s m args meth c cc nL own) {σ0 : Sto} {mc ms : Nat}  (hr : meth.sig.returnType = none) (h1 : cells ≤ mc) (h2 : slots ≤ ms) (hd : decode cc pc = .ok (.return_, 1)) : G p l e R s m args below meth c E st (sZ σ0) ad0 (vx_MQ below (QVx E st σ0 (.inr ((), σ)) ad0) (XX E st σ0 Unit (.inr ((), σ)) ad0) args s mc ms (AE E)) nL cells slots σ pc L [] := by
  intro ad H locs ls hw hs ha hl vl vs
  refine W.widen h1 h2 ?_
  exact vx_ret (W.vret C.1 C.2.1 hr (fun t ht hW => ⟨⟨(ad, σ), rfl, ⟨rfl, ha.2, ha.1⟩, (show Wh E st ad σ t.heap by rw [ht]; exact hw)⟩, hs.F ht⟩) hs.2.2 hd (hlocks := C.2.2.2.2.2.1))
end GE
/-! CALLS -/
def MLc (y : MethodName) (bytes : ByteArray) (maxL : Nat) (ret : Option FieldType) (n : Nat) : Prop := Cond.code y bytes maxL ret ∈ BW ∧ Cond.initialized y.cls ∈ BW ∧ y.cls ≠ "java/lang/invoke/MethodHandle" ∧ y.cls ≠ "java/lang/invoke/VarHandle" ∧ (parseMethodDescriptor y.desc).map (fun d => d.parameters.length) = some n
def MLv (y : MethodName) : Prop := Cond.instanceMethod y ∈ BW ∧ Cond.selects y.cls y y ∈ BW
theorem PcA_blind {E : Ev} {st : Bool} {σ : Sto} {As : List Value} {ad : Nat → Nat} : FrameBlind (PcA E st σ As ad) := fun a U g mk q => by
  obtain ⟨q1, q2, q3, q4⟩ := q
  exact ⟨q1, Fk.warm (s := U) (U := U.calling g mk a) (State.WarmedH.refl U) q2, q3, q4⟩
section GC
variable {p : Program} {l : Launch} {e : Env} {R : Room} {s : State} {m : MethodId} {args : Array Value} {below : List Frame} {meth : Method} {c : Code} {Q : State → Prop} {E : Ev} {st : Bool} {n0 : Nat} {ad0 : Nat → Nat} {nL cells slots : Nat} {σ : Sto} {pc : Nat} {L : List (Nat × Value)} {S : List Value} {cc : ByteArray} {own : String}
/-- a call that is about to be made: behind it, 'rest' is left on the stack -/
def RunOK (p : Program) (l : Launch) (e : Env) (R : Room) (s : State) (m : MethodId) (args : Array Value) (below : List Frame) (meth : Method) (c : Code) (E : Ev) (st : Bool) (nL cells slots : Nat) (σ : Sto) (pc : Nat) (L : List (Nat × Value)) (S0 rest : List Value) (mc ms : Nat) (Qf : (Nat → Nat) → State → Outcome → State → Prop) : Prop :=
  (∃ X, S0 = X ++ rest) ∧ ∀ (ad : Nat → Nat) (H : Heap) (locs : List Loc) (ls : Array Slot), Wh E st ad σ H → va_S (AE E) s.heap H locs → lv_has ls nL (L.map (trp ad)) → vokS (sZ σ) S0 →
    va_Run p l e R s m args below meth c H locs cells slots mc ms (F0 m pc ls (S0.map (tr ad))) (rest.map (tr ad)) (Qf ad) (AE E)
def RunX (p : Program) (l : Launch) (e : Env) (R : Room) (s : State) (m : MethodId) (args : Array Value) (below : List Frame) (meth : Method) (c : Code) (E : Ev) (st : Bool) (nL cells slots : Nat) (σ : Sto) (pc : Nat) (L : List (Nat × Value)) (S0 rest : List Value) (mc ms : Nat) (Qf : (Nat → Nat) → State → Outcome → State → Prop) (XC : (Nat → Nat) → String → State → State → Prop) : Prop :=
  (∃ X, S0 = X ++ rest) ∧ ∀ (ad : Nat → Nat) (H : Heap) (locs : List Loc) (ls : Array Slot), Wh E st ad σ H → va_S (AE E) s.heap H locs → lv_has ls nL (L.map (trp ad)) → vokS (sZ σ) S0 →
    vx_Run p l e R s m args below meth c H locs cells slots mc ms (F0 m pc ls (S0.map (tr ad))) (rest.map (tr ad)) (Qf ad) (XC ad) (AE E)
theorem Fk_here (C : Cx E p s m args meth c cc nL own) {H : Heap} {locs : List Loc} (hs : va_S (AE E) s.heap H locs) : Fk E s H := Fk.kept C.2.2.2.2.2.2 hs.1 hs.2.1
theorem pre_here (C : Cx E p s m args meth c cc nL own) {ad : Nat → Nat} {H : Heap} {locs : List Loc} {As : List Value} (hw : Wh E st ad σ H) (hs : va_S (AE E) s.heap H locs) (vs : vokS (sZ σ) As) (U : State) (hU : U.heap = H) (hW : s.WarmedH U.vm) : PcA E st σ As ad (As.map (tr ad)).toArray U :=
  ⟨rfl, by rw [hU]; exact Fk.warm hW (Fk_here C hs), by rw [hU]; exact hw, vs⟩
theorem callB_here (C : Cx E p s m args meth c cc nL own) {y : MethodName} {bytes : ByteArray} {maxL n ix d mc ms : Nat} {ret : Option FieldType} (hM : MLc y bytes maxL ret n) (hl : Cond.methodLink own ix y ∈ BW) (hR : d + 1 ≤ R.frames ∧ 8 + (maxL + 11) + 100 * d ≤ R.locals) : CallB R s args own ix y bytes maxL ret (wsY y bytes maxL ret) (rmd d mc ms) mc ms n := by
  refine callB_of n C.2.2.2.2.1 (bw_in fun w hw => ?_) rfl rfl rfl (C.2.2.2.2.1 _ hM.2.1) (C.2.2.2.2.1 _ hl) hM.2.2 hR
  rcases List.mem_cons.mp hw with rfl | hw
  · exact hM.1
  · exact hw
theorem recv_here (C : Cx E p s m args meth c cc nL own) {ad : Nat → Nat} {H : Heap} {ci b : Nat} {q : vw_C} (hw : Wh E st ad σ H) (hq : vwCl[ci]? = some q) (hk : KO st σ b (ci + 1)) : b ≠ 0 ∧ ∃ cellB : Cell, H[ad b]? = some cellB ∧ cellB.vm.isStatics = false ∧ s.vm.findClass q.1 = some cellB.cls := by
  have hkb := hk E ad H hw
  obtain ⟨g1, g2, g3⟩ := hw.lt hkb (by omega)
  have he := ws_at (cA := E.2.1) (ad := ad) g1 g2
  rw [ent_o hkb (cl_ok ci q hq).1] at he
  obtain ⟨r, h1, cell, c1, c2, c3, -⟩ := hw.1 _ _ he
  cases Option.some.inj (h1.symm.trans hq)
  exact ⟨g3, cell, c1, by rw [c3]; rfl, by rw [c2]; exact (C.2.2.2.2.2.2.1.1 ci _ hq).2.1⟩
theorem map_app_rev {As rest : List Value} {ad : Nat → Nat} {b : Nat} (hb : b ≠ 0) : (As.reverse ++ Value.ref b :: rest).map (tr ad) = (As.map (tr ad)).reverse ++ Value.ref (ad b) :: rest.map (tr ad) := by
  rw [List.map_append, List.map_reverse, List.map_cons, show tr ad (.ref b) = .ref (ad b) from rv_ne hb]
theorem run_V (C : Cx E p s m args meth c cc nL own) {y : MethodName} {bytes : ByteArray} {maxL ix d mc ms ci b : Nat} {ret : Option FieldType} {q : vw_C} {Qc : (Nat → Nat) → Array Value → State → Outcome → State → Prop} (As rest : List Value) {S0 : List Value} (hM : MM l y bytes maxL ret d mc ms E st σ (.ref b :: As) Qc)
    (hML : MLc y bytes maxL ret As.length) (hMV : MLv y) (hl : Cond.methodLink own ix y ∈ BW) (hR : d + 1 ≤ R.frames ∧ 8 + (maxL + 11) + 100 * d ≤ R.locals) (hf : cells + mc ≤ R.cells ∧ slots + ms ≤ R.slots) (hq : vwCl[ci]? = some q) (hy : q.1 = y.cls) (hk : KO st σ b (ci + 1)) (hS : S0 = As.reverse ++ .ref b :: rest) (hsum : (rest.map fun v => v.category).sum ≤ 8) (hd : decode cc pc = .ok (.invokevirtual ix, 3)) :
    RunOK p l e R s m args below meth c E st nL cells slots σ pc L S0 rest mc ms (fun ad => Qc ad (Value.ref (ad b) :: As.map (tr ad)).toArray) := by
  refine ⟨⟨As.reverse ++ [.ref b], by rw [hS]; simp⟩, fun ad H locs ls hw hs hl2 vs => ?_⟩
  obtain ⟨hb0, cellB, b1, b2, b3⟩ := recv_here C hw hq hk
  rw [hy] at b3
  subst hS
  have vs1 := vokS_app.mp vs
  have vA : vokS (sZ σ) (.ref b :: As) := ⟨vs1.2.1, vokS_rev.mp vs1.1⟩
  have e0 : (Value.ref b :: As).map (tr ad) = .ref (ad b) :: As.map (tr ad) := by rw [List.map_cons, show tr ad (.ref b) = .ref (ad b) from rv_ne hb0]
  have hp : PreV s H y.cls (ad b) (PcA E st σ (.ref b :: As) ad) (As.map (tr ad)) := ⟨PcA_blind, ⟨cellB, b1, b2, b3⟩, fun U hU hW => by rw [← e0]; exact pre_here C hw hs vA U hU hW⟩
  rw [map_app_rev hb0]
  exact va_runV (As := As.map (tr ad)) (rest := rest.map (tr ad)) ⟨C.1, C.2.1, C.2.2.1, C.2.2.2.1, C.2.2.2.2.1⟩ (hM ad) ⟨callB_here C hML hl hR, C.2.2.2.2.1 _ hMV.1, C.2.2.2.2.1 _ hMV.2⟩ hp rfl (List.length_map _) hl2.1 rfl (lv_room (by rw [cat_trS]; exact hsum)) hd hf
theorem run_S (C : Cx E p s m args meth c cc nL own) {y : MethodName} {bytes : ByteArray} {maxL ix d mc ms : Nat} {ret : Option FieldType} {Qc : (Nat → Nat) → Array Value → State → Outcome → State → Prop} (As rest : List Value) {S0 : List Value} (hM : MM l y bytes maxL ret d mc ms E st σ As Qc)
    (hML : MLc y bytes maxL ret As.length) (hst : Cond.static y ∈ BW) (hl : Cond.methodLink own ix y ∈ BW) (hR : d + 1 ≤ R.frames ∧ 8 + (maxL + 11) + 100 * d ≤ R.locals) (hf : cells + mc ≤ R.cells ∧ slots + ms ≤ R.slots) (hS : S0 = As.reverse ++ rest) (hsum : (rest.map fun v => v.category).sum ≤ 8) (hd : decode cc pc = .ok (.invokestatic ix, 3)) :
    RunOK p l e R s m args below meth c E st nL cells slots σ pc L S0 rest mc ms (fun ad => Qc ad (As.map (tr ad)).toArray) := by
  refine ⟨⟨As.reverse, hS⟩, fun ad H locs ls hw hs hl2 vs => ?_⟩
  subst hS
  have vA : vokS (sZ σ) As := vokS_rev.mp (vokS_app.mp vs).1
  have hp : PreS s H (PcA E st σ As ad) (As.map (tr ad)) := ⟨PcA_blind, fun U hU hW => pre_here C hw hs vA U hU hW⟩
  rw [List.map_append, List.map_reverse]
  exact va_runS (As := As.map (tr ad)) (rest := rest.map (tr ad)) ⟨C.1, C.2.1, C.2.2.1, C.2.2.2.1, C.2.2.2.2.1⟩ (hM ad) ⟨callB_here C hML hl hR, C.2.2.2.2.1 _ hst⟩ hp rfl (List.length_map _) hl2.1 rfl (lv_room (by rw [cat_trS]; exact hsum)) hd hf
theorem run_SN (C : Cx E p s m args meth c cc nL own) {y : MethodName} {bytes : ByteArray} {maxL ix d mc ms : Nat} {ret : Option FieldType} {Qc : (Nat → Nat) → Array Value → State → Outcome → State → Prop} (As rest : List Value) {S0 : List Value} (hM : MM l y bytes maxL ret d mc ms E st σ As Qc)
    (hML : MLc y bytes maxL ret As.length) (hst : Cond.static y ∈ BW) (hl : (own, ix, y) ∈ nests) (hR : d + 1 ≤ R.frames ∧ 8 + (maxL + 11) + 100 * d ≤ R.locals) (hf : cells + mc ≤ R.cells ∧ slots + ms ≤ R.slots) (hS : S0 = As.reverse ++ rest) (hsum : (rest.map fun v => v.category).sum ≤ 8) (hd : decode cc pc = .ok (.invokestatic ix, 3)) :
    RunOK p l e R s m args below meth c E st nL cells slots σ pc L S0 rest mc ms (fun ad => Qc ad (As.map (tr ad)).toArray) := by
  refine ⟨⟨As.reverse, hS⟩, fun ad H locs ls hw hs hl2 vs => ?_⟩
  subst hS
  have vA : vokS (sZ σ) As := vokS_rev.mp (vokS_app.mp vs).1
  have hp : PreS s H (PcA E st σ As ad) (As.map (tr ad)) := ⟨PcA_blind, fun U hU hW => pre_here C hw hs vA U hU hW⟩
  rw [List.map_append, List.map_reverse]
  have hG : GoodIn BW (wsY y bytes maxL ret) := bw_in fun w hw => by
    rcases List.mem_cons.mp hw with rfl | hw
    · exact hML.1
    · exact hw
  exact va_runSN (host := "SalePart") (As := As.map (tr ad)) (rest := rest.map (tr ad)) ⟨C.1, C.2.1, C.2.2.1, C.2.2.2.1, C.2.2.2.2.1⟩ (hM ad) ⟨va_cnB As.length C.2.2.2.2.1 hG rfl rfl rfl (C.2.2.2.2.2.2.2.1.1 _ hl) (C.2.2.2.2.1 _ hML.2.1) hML.2.2 hR, C.2.2.2.2.1 _ hst, trivial⟩ hp rfl (List.length_map _) hl2.1 rfl (lv_room (by rw [cat_trS]; exact hsum)) hd hf
theorem run_I (C : Cx E p s m args meth c cc nL own) {y : MethodName} {bytes : ByteArray} {maxL ix d mc ms b : Nat} {Qc : (Nat → Nat) → Array Value → State → Outcome → State → Prop} (As rest : List Value) {S0 : List Value} (hM : MM l y bytes maxL none d mc ms E st σ (.ref b :: As) Qc)
    (hML : MLc y bytes maxL none As.length) (hMI : Cond.instanceMethod y ∈ BW ∧ y.name = "<init>") (hl : Cond.methodLink own ix y ∈ BW) (hR : d + 1 ≤ R.frames ∧ 8 + (maxL + 11) + 100 * d ≤ R.locals) (hf : cells + mc ≤ R.cells ∧ slots + ms ≤ R.slots) {kd : Nat} (hkd : kd ≠ 0) (hk : KO st σ b kd) (hS : S0 = As.reverse ++ .ref b :: rest) (hsum : (rest.map fun v => v.category).sum ≤ 8) (hd : decode cc pc = .ok (.invokespecial ix, 3)) :
    RunOK p l e R s m args below meth c E st nL cells slots σ pc L S0 rest mc ms (fun ad => Qc ad (Value.ref (ad b) :: As.map (tr ad)).toArray) := by
  refine ⟨⟨As.reverse ++ [.ref b], by rw [hS]; simp⟩, fun ad H locs ls hw hs hl2 vs => ?_⟩
  have hb0 : b ≠ 0 := (hw.lt (hk E ad H hw) hkd).2.2
  subst hS
  have vs1 := vokS_app.mp vs
  have vA : vokS (sZ σ) (.ref b :: As) := ⟨vs1.2.1, vokS_rev.mp vs1.1⟩
  have e0 : (Value.ref b :: As).map (tr ad) = .ref (ad b) :: As.map (tr ad) := by rw [List.map_cons, show tr ad (.ref b) = .ref (ad b) from rv_ne hb0]
  have hp : PreS s H (PcA E st σ (.ref b :: As) ad) (.ref (ad b) :: As.map (tr ad)) := ⟨PcA_blind, fun U hU hW => by rw [← e0]; exact pre_here C hw hs vA U hU hW⟩
  rw [map_app_rev hb0]
  exact va_runI (As := As.map (tr ad)) (rest := rest.map (tr ad)) ⟨C.1, C.2.1, C.2.2.1, C.2.2.2.1, C.2.2.2.2.1⟩ (hM ad) ⟨callB_here C hML hl hR, hMI.2, C.2.2.2.2.1 _ hMI.1⟩ hp rfl (List.length_map _) hl2.1 rfl (lv_room (by rw [cat_trS]; exact hsum)) hd hf
theorem run_IN (C : Cx E p s m args meth c cc nL own) {y : MethodName} {bytes : ByteArray} {maxL ix d mc ms b : Nat} {Qc : (Nat → Nat) → Array Value → State → Outcome → State → Prop} (As rest : List Value) {S0 : List Value} (hM : MM l y bytes maxL none d mc ms E st σ (.ref b :: As) Qc)
    (hML : MLc y bytes maxL none As.length) (hMI : Cond.instanceMethod y ∈ BW ∧ y.name = "<init>") (hl : (own, ix, y) ∈ nests) (hR : d + 1 ≤ R.frames ∧ 8 + (maxL + 11) + 100 * d ≤ R.locals) (hf : cells + mc ≤ R.cells ∧ slots + ms ≤ R.slots) {kd : Nat} (hkd : kd ≠ 0) (hk : KO st σ b kd) (hS : S0 = As.reverse ++ .ref b :: rest) (hsum : (rest.map fun v => v.category).sum ≤ 8) (hd : decode cc pc = .ok (.invokespecial ix, 3)) :
    RunOK p l e R s m args below meth c E st nL cells slots σ pc L S0 rest mc ms (fun ad => Qc ad (Value.ref (ad b) :: As.map (tr ad)).toArray) := by
  refine ⟨⟨As.reverse ++ [.ref b], by rw [hS]; simp⟩, fun ad H locs ls hw hs hl2 vs => ?_⟩
  have hb0 : b ≠ 0 := (hw.lt (hk E ad H hw) hkd).2.2
  subst hS
  have vs1 := vokS_app.mp vs
  have vA : vokS (sZ σ) (.ref b :: As) := ⟨vs1.2.1, vokS_rev.mp vs1.1⟩
  have e0 : (Value.ref b :: As).map (tr ad) = .ref (ad b) :: As.map (tr ad) := by rw [List.map_cons, show tr ad (.ref b) = .ref (ad b) from rv_ne hb0]
  have hp : PreS s H (PcA E st σ (.ref b :: As) ad) (.ref (ad b) :: As.map (tr ad)) := ⟨PcA_blind, fun U hU hW => by rw [← e0]; exact pre_here C hw hs vA U hU hW⟩
  have hG : GoodIn BW (wsY y bytes maxL none) := bw_in fun w hw => by
    rcases List.mem_cons.mp hw with rfl | hw
    · exact hML.1
    · exact hw
  rw [map_app_rev hb0]
  exact va_runIN (host := "SalePart") (As := As.map (tr ad)) (rest := rest.map (tr ad)) ⟨C.1, C.2.1, C.2.2.1, C.2.2.2.1, C.2.2.2.2.1⟩ (hM ad) ⟨va_cnB As.length C.2.2.2.2.1 hG rfl rfl rfl (C.2.2.2.2.2.2.2.1.1 _ hl) (C.2.2.2.2.1 _ hML.2.1) hML.2.2 hR, hMI.2, C.2.2.2.2.1 _ hMI.1⟩ hp rfl (List.length_map _) hl2.1 rfl (lv_room (by rw [cat_trS]; exact hsum)) hd hf
/-- a method that its receiver's class inherits -/
theorem run_U (C : Cx E p s m args meth c cc nL own) {x y : MethodName} {owner : String} {bytes : ByteArray} {maxL ix d mc ms ci b : Nat} {ret : Option FieldType} {q : vw_C} {Qc : (Nat → Nat) → Array Value → State → Outcome → State → Prop} (As rest : List Value) {S0 : List Value} (hM : MM l y bytes maxL ret d mc ms E st σ (.ref b :: As) Qc)
    (hU : (∀ w ∈ va_wsU own ix q.1 owner x y (wsY y bytes maxL ret), w ∈ BW) ∧ y = ⟨owner, x.name, x.desc⟩ ∧ owner ≠ "java/lang/invoke/MethodHandle" ∧ owner ≠ "java/lang/invoke/VarHandle" ∧ (parseMethodDescriptor x.desc).map (fun d => d.parameters.length) = some As.length) (hR : d + 1 ≤ R.frames ∧ 8 + (maxL + 11) + 100 * d ≤ R.locals) (hf : cells + mc ≤ R.cells ∧ slots + ms ≤ R.slots) (hq : vwCl[ci]? = some q) (hk : KO st σ b (ci + 1)) (hS : S0 = As.reverse ++ .ref b :: rest) (hsum : (rest.map fun v => v.category).sum ≤ 8) (hd : decode cc pc = .ok (.invokevirtual ix, 3)) :
    RunOK p l e R s m args below meth c E st nL cells slots σ pc L S0 rest mc ms (fun ad => Qc ad (Value.ref (ad b) :: As.map (tr ad)).toArray) := by
  refine ⟨⟨As.reverse ++ [.ref b], by rw [hS]; simp⟩, fun ad H locs ls hw hs hl2 vs => ?_⟩
  obtain ⟨hb0, cellB, b1, b2, b3⟩ := recv_here C hw hq hk
  subst hS
  have vs1 := vokS_app.mp vs
  have vA : vokS (sZ σ) (.ref b :: As) := ⟨vs1.2.1, vokS_rev.mp vs1.1⟩
  have e0 : (Value.ref b :: As).map (tr ad) = .ref (ad b) :: As.map (tr ad) := by rw [List.map_cons, show tr ad (.ref b) = .ref (ad b) from rv_ne hb0]
  have hp : PreV s H q.1 (ad b) (PcA E st σ (.ref b :: As) ad) (As.map (tr ad)) := ⟨PcA_blind, ⟨cellB, b1, b2, b3⟩, fun U hU hW => by rw [← e0]; exact pre_here C hw hs vA U hU hW⟩
  rw [map_app_rev hb0]
  exact va_runU (owner := owner) (x := x) (As := As.map (tr ad)) (rest := rest.map (tr ad)) ⟨C.1, C.2.1, C.2.2.1, C.2.2.2.1, C.2.2.2.2.1⟩ (hM ad) (va_cwU As.length C.2.2.2.2.1 (bw_in hU.1) rfl rfl rfl hU.2.1 hU.2.2 hR) hp rfl (List.length_map _) hl2.1 rfl (lv_room (by rw [cat_trS]; exact hsum)) hd hf
theorem G_callI {mc ms : Nat} {rest S0 : List Value} {a : (Nat → Nat) → Array Value} {v : Int32} {σ' : Sto} (hr : RunOK p l e R s m args below meth c E st nL cells slots σ pc L S0 rest mc ms (fun ad => QI E st σ v σ' ad (a ad))) (kk : G p l e R s m args below meth c E st n0 ad0 Q nL (cells + mc) (slots + ms) σ' (pc + 3) L (.int v :: rest)) : G p l e R s m args below meth c E st n0 ad0 Q nL cells slots σ pc L S0 := by
  intro ad H locs ls hw hs ha hl vl vs
  obtain ⟨⟨X, hX⟩, hr⟩ := hr
  have vr : vokS (sZ σ) rest := (vokS_app.mp (by rw [← hX]; exact vs)).2
  refine va_calli (hr ad H locs ls hw hs hl vs) hs (fun q _ h => h) (fun q h => h) (fun r ad' t H1 locs1 ht hvm hp hB hz hk hs1 => ?_)
  obtain ⟨rfl, hag, hz9⟩ := hp
  have hw1 : Wh E st ad' σ' H1 := by rw [← ht]; exact hB
  have h9 := G_go kk hw1 hs1 ha hag hz9 hl vl (vokS_mono hz9 vr)
  rw [← trS_agr hag vr]
  exact h9
theorem G_callL {mc ms : Nat} {rest S0 : List Value} {a : (Nat → Nat) → Array Value} {v : Int64} {σ' : Sto} (hr : RunOK p l e R s m args below meth c E st nL cells slots σ pc L S0 rest mc ms (fun ad => QL E st σ v σ' ad (a ad))) (kk : G p l e R s m args below meth c E st n0 ad0 Q nL (cells + mc) (slots + ms) σ' (pc + 3) L (.long v :: rest)) : G p l e R s m args below meth c E st n0 ad0 Q nL cells slots σ pc L S0 := by
  intro ad H locs ls hw hs ha hl vl vs
  obtain ⟨⟨X, hX⟩, hr⟩ := hr
  have vr : vokS (sZ σ) rest := (vokS_app.mp (by rw [← hX]; exact vs)).2
  refine va_calll (hr ad H locs ls hw hs hl vs) hs (fun q _ h => h) (fun q h => h) (fun r ad' t H1 locs1 ht hvm hp hB hz hk hs1 => ?_)
  obtain ⟨rfl, hag, hz9⟩ := hp
  have hw1 : Wh E st ad' σ' H1 := by rw [← ht]; exact hB
  have h9 := G_go kk hw1 hs1 ha hag hz9 hl vl (vokS_mono hz9 vr)
  rw [← trS_agr hag vr]
  exact h9
theorem G_callV {mc ms : Nat} {rest S0 : List Value} {a : (Nat → Nat) → Array Value}  {σ' : Sto} (hr : RunOK p l e R s m args below meth c E st nL cells slots σ pc L S0 rest mc ms (fun ad => QV E st σ  σ' ad (a ad))) (kk : G p l e R s m args below meth c E st n0 ad0 Q nL (cells + mc) (slots + ms) σ' (pc + 3) L rest) : G p l e R s m args below meth c E st n0 ad0 Q nL cells slots σ pc L S0 := by
  intro ad H locs ls hw hs ha hl vl vs
  obtain ⟨⟨X, hX⟩, hr⟩ := hr
  have vr : vokS (sZ σ) rest := (vokS_app.mp (by rw [← hX]; exact vs)).2
  refine va_callv (hr ad H locs ls hw hs hl vs) hs (fun q _ h => h) (fun q h => h) (fun ad' t H1 locs1 ht hvm hp hB hz hk hs1 => ?_)
  obtain ⟨hag, hz9⟩ := hp
  have hw1 : Wh E st ad' σ' H1 := by rw [← ht]; exact hB
  have h9 := G_go kk hw1 hs1 ha hag hz9 hl vl (vokS_mono hz9 vr)
  rw [← trS_agr hag vr]
  exact h9
theorem G_callR {mc ms : Nat} {rest S0 : List Value} {a : (Nat → Nat) → Array Value} {v : Nat} {σ' : Sto} (hr : RunOK p l e R s m args below meth c E st nL cells slots σ pc L S0 rest mc ms (fun ad => QR E st σ v σ' ad (a ad))) (kk : G p l e R s m args below meth c E st n0 ad0 Q nL (cells + mc) (slots + ms) σ' (pc + 3) L (.ref v :: rest)) : G p l e R s m args below meth c E st n0 ad0 Q nL cells slots σ pc L S0 := by
  intro ad H locs ls hw hs ha hl vl vs
  obtain ⟨⟨X, hX⟩, hr⟩ := hr
  have vr : vokS (sZ σ) rest := (vokS_app.mp (by rw [← hX]; exact vs)).2
  refine va_callr (hr ad H locs ls hw hs hl vs) hs (fun q _ h => h) (fun q h => h) (fun ad' ra t H1 locs1 ht hvm hp hB hz hk hs1 => ?_)
  obtain ⟨hag, hz9⟩ := hp
  obtain ⟨⟨rfl, hv0, hvl⟩, hB⟩ := hB
  have hw1 : Wh E st ad' σ' H1 := by rw [← ht]; exact hB
  have h9 := G_go kk hw1 hs1 ha hag hz9 hl vl ⟨hvl, vokS_mono hz9 vr⟩
  rw [← trS_agr hag vr]
  have h8 : W p l e R s m args below meth c H1 locs1 (cells + mc) (slots + ms) Q (F0 m (pc + 3) ls (rv ad' v :: rest.map (tr ad'))) := h9
  rw [rv_ne hv0] at h8
  exact h8
end GC
section GS
variable {p : Program} {l : Launch} {e : Env} {R : Room} {s : State} {m : MethodId} {args : Array Value} {below : List Frame} {meth : Method} {c : Code} {Q : State → Prop} {E : Ev} {st : Bool} {n0 : Nat} {ad0 : Nat → Nat} {nL cells slots : Nat} {σ : Sto} {pc : Nat} {L : List (Nat × Value)} {S : List Value} {cc : ByteArray} {own : String}
theorem G_tswIn (C : Cx E p s m args meth c cc nL own) {dflt lo hi off : Int} {offs : Array Int} {len tgt : Nat} {x : Int32} (v : Int32) (j : Nat) (hx : x = v) (h1 : ¬ v.toInt < lo) (h2 : ¬ hi < v.toInt) (h3 : (v.toInt - lo).toNat = j) (ho : offs[j]? = some off) (ht : (pc : Int) + off = (tgt : Int)) (hd : decode cc pc = .ok (.tableswitch dflt lo hi offs, len)) (k : G p l e R s m args below meth c E st n0 ad0 Q nL cells slots σ tgt L S) : G p l e R s m args below meth c E st n0 ad0 Q nL cells slots σ pc L (.int x :: S) := by
  intro ad H locs ls hw hs ha hl vl vs
  subst hx; subst h3
  exact lv_tableIn C.1 C.2.1 hd h1 h2 ho ht (k ad H locs ls hw hs ha hl vl vs)
theorem tsw_out {x : Int32} {lo hi : Int} (n : Nat) (hn : hi < lo + n) (hb : -2147483648 ≤ lo ∧ lo + n ≤ 2147483648) (h : ∀ j, j < n → x ≠ Int32.ofInt (lo + j)) : x.toInt < lo ∨ hi < x.toInt := by
  by_cases h1 : x.toInt < lo
  · exact Or.inl h1
  · by_cases h2 : hi < x.toInt
    · exact Or.inr h2
    · exfalso
      refine h (x.toInt - lo).toNat (by omega) ?_
      apply Int32.toInt_inj.mp
      rw [show lo + ((x.toInt - lo).toNat : Int) = x.toInt by omega, Int32.ofInt_toInt]
theorem G_tswOut (C : Cx E p s m args meth c cc nL own) {dflt lo hi : Int} {offs : Array Int} {len tgt : Nat} {x : Int32} (n : Nat) (h : ∀ j, j < n → x ≠ Int32.ofInt (lo + j)) (hn : hi < lo + n) (hb : -2147483648 ≤ lo ∧ lo + n ≤ 2147483648) (ht : (pc : Int) + dflt = (tgt : Int)) (hd : decode cc pc = .ok (.tableswitch dflt lo hi offs, len)) (k : G p l e R s m args below meth c E st n0 ad0 Q nL cells slots σ tgt L S) : G p l e R s m args below meth c E st n0 ad0 Q nL cells slots σ pc L (.int x :: S) :=
  fun ad H locs ls hw hs ha hl vl vs => lv_tableOut C.1 C.2.1 hd (tsw_out n hn hb h) ht (k ad H locs ls hw hs ha hl vl vs)
theorem G_mmax (C : Cx E p s m args meth c cc nL own) {ix : Nat} {x y : Int32} (h1 : Cond.methodLink own ix Lib.Math.max.name ∈ BW) (h2 : Cond.static Lib.Math.max.name ∈ BW) (h3 : Cond.initialized "java/lang/Math" ∈ BW) (h4 : Cond.code Lib.Math.max.name Lib.Math.max.code 2 (some .int) ∈ BW) (hfr : 1 ≤ R.frames) (hlo : (S.map fun v => v.category).sum + 13 ≤ R.locals) (hc : cells ≤ R.cells) (hs : slots ≤ R.slots) (hd : decode cc pc = .ok (.invokestatic ix, 3)) (k : G p l e R s m args below meth c E st n0 ad0 Q nL cells slots σ (pc + 3) L (.int (if x < y then y else x) :: S)) : G p l e R s m args below meth c E st n0 ad0 Q nL cells slots σ pc L (.int y :: .int x :: S) :=
  fun ad H locs ls hw hs1 ha hl vl vs => va_mmax C.1 C.2.1 (by rw [C.2.2.1]; exact hl.1.symm) C.2.2.2.1 (C.2.2.2.2.1 _ h1) (C.2.2.2.2.1 _ h2) (C.2.2.2.2.1 _ h3) (C.2.2.2.2.1 _ h4) hfr (by rw [cat_trS]; exact hlo) hc hs hd (k ad H locs ls hw hs1 ha hl vl vs)
theorem G_mmin (C : Cx E p s m args meth c cc nL own) {ix : Nat} {x y : Int32} (h1 : Cond.methodLink own ix Lib.Math.min.name ∈ BW) (h2 : Cond.static Lib.Math.min.name ∈ BW) (h3 : Cond.initialized "java/lang/Math" ∈ BW) (h4 : Cond.code Lib.Math.min.name Lib.Math.min.code 2 (some .int) ∈ BW) (hfr : 1 ≤ R.frames) (hlo : (S.map fun v => v.category).sum + 13 ≤ R.locals) (hc : cells ≤ R.cells) (hs : slots ≤ R.slots) (hd : decode cc pc = .ok (.invokestatic ix, 3)) (k : G p l e R s m args below meth c E st n0 ad0 Q nL cells slots σ (pc + 3) L (.int (if y < x then y else x) :: S)) : G p l e R s m args below meth c E st n0 ad0 Q nL cells slots σ pc L (.int y :: .int x :: S) :=
  fun ad H locs ls hw hs1 ha hl vl vs => va_mmin C.1 C.2.1 (by rw [C.2.2.1]; exact hl.1.symm) C.2.2.2.1 (C.2.2.2.2.1 _ h1) (C.2.2.2.2.1 _ h2) (C.2.2.2.2.1 _ h3) (C.2.2.2.2.1 _ h4) hfr (by rw [cat_trS]; exact hlo) hc hs hd (k ad H locs ls hw hs1 ha hl vl vs)
theorem G_lmin (C : Cx E p s m args meth c cc nL own) {ix : Nat} {x y : Int64} (h1 : Cond.methodLink own ix Lib.MathLoose.min_long.x ∈ BW) (h2 : Cond.static Lib.MathLoose.min_long.x ∈ BW) (h3 : Cond.initialized "java/lang/Math" ∈ BW) (h4 : Cond.code Lib.MathLoose.min_long.x Lib.MathLoose.min_long.code 4 (some .long) ∈ BW) (hfr : 1 ≤ R.frames) (hlo : (S.map fun v => v.category).sum + 15 ≤ R.locals) (hc : cells ≤ R.cells) (hs : slots ≤ R.slots) (hd : decode cc pc = .ok (.invokestatic ix, 3)) (k : G p l e R s m args below meth c E st n0 ad0 Q nL cells slots σ (pc + 3) L (.long (if y < x then y else x) :: S)) : G p l e R s m args below meth c E st n0 ad0 Q nL cells slots σ pc L (.long y :: .long x :: S) :=
  fun ad H locs ls hw hs1 ha hl vl vs => va_mmin_long C.1 C.2.1 (by rw [C.2.2.1]; exact hl.1.symm) C.2.2.2.1 (C.2.2.2.2.1 _ h1) (C.2.2.2.2.1 _ h2) (C.2.2.2.2.1 _ h3) (C.2.2.2.2.1 _ h4) hfr (by rw [cat_trS]; exact hlo) hc hs hd (k ad H locs ls hw hs1 ha hl vl vs)
theorem G_labs (C : Cx E p s m args meth c cc nL own) {ix : Nat} {x : Int64} (h1 : Cond.methodLink own ix Lib.MathLoose.abs_long.x ∈ BW) (h2 : Cond.static Lib.MathLoose.abs_long.x ∈ BW) (h3 : Cond.initialized "java/lang/Math" ∈ BW) (h4 : Cond.code Lib.MathLoose.abs_long.x Lib.MathLoose.abs_long.code 2 (some .long) ∈ BW) (hfr : 1 ≤ R.frames) (hlo : (S.map fun v => v.category).sum + 13 ≤ R.locals) (hc : cells ≤ R.cells) (hs : slots ≤ R.slots) (hd : decode cc pc = .ok (.invokestatic ix, 3)) (k : G p l e R s m args below meth c E st n0 ad0 Q nL cells slots σ (pc + 3) L (.long (if 0 < x then x else -x) :: S)) : G p l e R s m args below meth c E st n0 ad0 Q nL cells slots σ pc L (.long x :: S) :=
  fun ad H locs ls hw hs1 ha hl vl vs => va_mabs_long C.1 C.2.1 (by rw [C.2.2.1]; exact hl.1.symm) C.2.2.2.1 (C.2.2.2.2.1 _ h1) (C.2.2.2.2.1 _ h2) (C.2.2.2.2.1 _ h3) (C.2.2.2.2.1 _ h4) hfr (by rw [cat_trS]; exact hlo) hc hs hd (k ad H locs ls hw hs1 ha hl vl vs)
end GS
