/-! the law's wrappers: a call whose throws are caught -/
def wsH (y : MethodName) (bytes : ByteArray) (maxL : Nat) (ret : Option FieldType) (hh : List (Nat × Nat × Nat × Nat)) : List Cond := .codeWith y bytes maxL ret hh :: BW
def MH (l : Launch) (y : MethodName) (bytes : ByteArray) (maxL : Nat) (ret : Option FieldType) (hh : List (Nat × Nat × Nat × Nat)) (d mc ms : Nat) (E : Ev) (st : Bool) (σ : Sto) (As : List Value) (Qc : (Nat → Nat) → Array Value → State → Outcome → State → Prop) : Prop :=
  ∀ ad : Nat → Nat, Met l y (wsH y bytes maxL ret hh) (rmd d mc ms) (PcA E st σ As ad) (Qc ad) mc ms (AE E)
theorem MH_of {l : Launch} {y : MethodName} {bytes : ByteArray} {maxL : Nat} {ret : Option FieldType} {hh : List (Nat × Nat × Nat × Nat)} {d mc ms : Nat} {E : Ev} {st : Bool} {σ : Sto} {As : List Value} {L : List (Nat × Value)} {Qc : (Nat → Nat) → Array Value → State → Outcome → State → Prop} (hy : plainName y.cls = true) (hlen : (lg_sl As).length ≤ maxL) (hL : lv_args 0 As = L)
    (body : ∀ (p : Program) (e : Env) (s : State) (m : MethodId) (args : Array Value) (below : List Frame) (meth : Method) (c : Code) (ad : Nat → Nat), Cx E p s m args meth c bytes maxL y.cls → meth.sig.returnType = ret → c.exceptionTable.toList = tableOf hh →
      G p l e (rmd d mc ms) s m args below meth c E st (sZ σ) ad (MQ below (Qc ad) args s mc ms (AE E)) maxL 0 0 σ 0 L []) : MH l y bytes maxL ret hh d mc ms E st σ As Qc := by
  intro ad
  subst hL
  refine va_MetW (cc := bytes) (maxL := maxL) (ret := ret) hy rfl ?_
  intro p e s m args below meth c s₁ B hml hv
  obtain ⟨rfl, hF, hW, hV⟩ := hv
  have hts := atoms_spec (ws := wsH y bytes maxL ret hh) B.pre
  have C : Cx E p s m (As.map (tr ad)).toArray meth c bytes maxL y.cls := ⟨B.exec, B.bytes, hml, findClass_of_methodNamed B.named, fun w hw => hts w (List.mem_cons_of_mem _ hw), B.notSynchronized, hF⟩
  rw [lg_entry_eq]
  exact body p e s m _ below meth c ad C B.returns (vx_table (x := y) B (hts _ List.mem_cons_self)) ad s.heap [] _ hW va_S.rf ⟨Nat.le_refl _, fun _ _ => rfl⟩ (by rw [← lv_args_tr]; exact lv_entry _ (by rw [lg_sl_tr]; exact hlen)) (vokL_args hV 0) trivial
section GH
variable {p : Program} {l : Launch} {e : Env} {R : Room} {s : State} {m : MethodId} {args : Array Value} {below : List Frame} {meth : Method} {c : Code} {Q : State → Prop} {E : Ev} {st : Bool} {n0 : Nat} {ad0 : Nat → Nat} {nL cells slots : Nat} {σ : Sto} {pc : Nat} {L : List (Nat × Value)} {S : List Value} {cc : ByteArray} {own : String}
theorem run_SH (C : Cx E p s m args meth c cc nL own) {y : MethodName} {bytes : ByteArray} {maxL ix d mc ms : Nat} {ret : Option FieldType} {hh : List (Nat × Nat × Nat × Nat)} {Qc : (Nat → Nat) → Array Value → State → Outcome → State → Prop} (As rest : List Value) {S0 : List Value} (hM : MH l y bytes maxL ret hh d mc ms E st σ As Qc)
    (hcw : Cond.codeWith y bytes maxL ret hh ∈ BW) (hin : Cond.initialized y.cls ∈ BW) (hmn : y.cls ≠ "java/lang/invoke/MethodHandle" ∧ y.cls ≠ "java/lang/invoke/VarHandle" ∧ (parseMethodDescriptor y.desc).map (fun d => d.parameters.length) = some As.length) (hst : Cond.static y ∈ BW) (hl : Cond.methodLink own ix y ∈ BW) (hR : d + 1 ≤ R.frames ∧ 8 + (maxL + 11) + 100 * d ≤ R.locals) (hf : cells + mc ≤ R.cells ∧ slots + ms ≤ R.slots) (hS : S0 = As.reverse ++ rest) (hsum : (rest.map fun v => v.category).sum ≤ 8) (hd : decode cc pc = .ok (.invokestatic ix, 3)) :
    RunOK p l e R s m args below meth c E st nL cells slots σ pc L S0 rest mc ms (fun ad => Qc ad (As.map (tr ad)).toArray) := by
  refine ⟨⟨As.reverse, hS⟩, fun ad H locs ls hw hs hl2 vs => ?_⟩
  subst hS
  have vA : vokS (sZ σ) As := vokS_rev.mp (vokS_app.mp vs).1
  have hp : PreS s H (PcA E st σ As ad) (As.map (tr ad)) := ⟨PcA_blind, fun U hU hW => pre_here C hw hs vA U hU hW⟩
  rw [List.map_append, List.map_reverse]
  have hG : GoodIn BW (va_wsS own ix y (wsH y bytes maxL ret hh)) := bw_in fun w hw => by
    rcases List.mem_append.mp (show w ∈ ([.methodLink own ix y, .static y, .initialized y.cls] : List Cond) ++ wsH y bytes maxL ret hh from hw) with h | h
    · simp only [List.mem_cons, List.not_mem_nil, or_false] at h
      rcases h with rfl | rfl | rfl
      · exact hl
      · exact hst
      · exact hin
    · rcases List.mem_cons.mp h with rfl | h
      · exact hcw
      · exact h
  exact vx_runSW (As := As.map (tr ad)) (rest := rest.map (tr ad)) ⟨C.1, C.2.1, C.2.2.1, C.2.2.2.1, C.2.2.2.2.1⟩ (hM ad) (vx_cwSW As.length C.2.2.2.2.1 hG rfl rfl rfl hmn hR) hp rfl (List.length_map _) hl2.1 rfl (lv_room (by rw [cat_trS]; exact hsum)) hd hf
/-- the end of a handler: it leaves the exception and answers k -/
def HEnd (cc : ByteArray) (hp : Nat) (k : Int32) : Prop := (∃ n q : Nat, n < 16 ∧ decode cc hp = .ok (.astore n, 2) ∧ q = hp + 2 ∧ (∃ z : Int, decode cc q = .ok (.iconst z, 1) ∧ Int32.ofInt z = k) ∧ decode cc (q + 1) = .ok (.ireturn, 1)) ∨ (∃ (n : Fin 4) (q : Nat), decode cc hp = .ok (.astore_n n, 1) ∧ q = hp + 1 ∧ (∃ z : Int, decode cc q = .ok (.iconst z, 1) ∧ Int32.ofInt z = k) ∧ decode cc (q + 1) = .ok (.ireturn, 1))
theorem W_hend (C : Cx E p s m args meth c cc nL own) {σ0 : Sto} {ad : Nat → Nat} {H : Heap} {locs : List Loc} {ls : Array Slot} {lv : List (Nat × Value)} {q mc ms hp : Nat} {k : Int32} (hl : lv_has ls nL lv) (hw : Wh E st ad σ H) (hs : va_S (AE E) s.heap H locs) (ha : sZ σ0 ≤ sZ σ ∧ agr (sZ σ0) ad0 ad) (hr : meth.sig.returnType = some .int) (h1 : cells ≤ mc) (h2 : slots ≤ ms) {n q2 : Nat} {z : Int} (hn : n < nL) (hd1 : decode cc hp = .ok (.astore n, 2) ∧ q2 = hp + 2 ∨ ∃ f : Fin 4, (f : Nat) = n ∧ decode cc hp = .ok (.astore_n f, 1) ∧ q2 = hp + 1) (hd2 : decode cc q2 = .ok (.iconst z, 1)) (hz : Int32.ofInt z = k) (hd3 : decode cc (q2 + 1) = .ok (.ireturn, 1)) :
    W p l e R s m args below meth c H locs cells slots (MQ below (QI E st σ0 k σ ad0) args s mc ms (AE E)) (F0 m hp ls [.ref q]) := by
  have fin : ∀ ls' : Array Slot, W p l e R s m args below meth c H locs cells slots (MQ below (QI E st σ0 k σ ad0) args s mc ms (AE E)) (F0 m q2 ls' []) := fun ls' => by
    refine lv_iconst C.1 C.2.1 hd2 hz ?_
    refine W.widen h1 h2 ?_
    exact W.iret (v := k) C.1 C.2.1 hr (fun t ht hW => ⟨⟨k, ad, rfl, ⟨rfl, ha.2, ha.1⟩, (show Wh E st ad σ t.heap by rw [ht]; exact hw)⟩, hs.F ht⟩) hs.2.2 hd3 (hlocks := C.2.2.2.2.2.1)
  rcases hd1 with ⟨hd1, rfl⟩ | ⟨f, rfl, hd1, rfl⟩
  · exact lv_astore C.1 C.2.1 hd1 hl hn rfl (fun ls' _ => fin ls')
  · exact lv_astore_n C.1 C.2.1 hd1 rfl hl hn rfl (fun ls' _ => fin ls')
theorem G_catI (C : Cx E p s m args meth c cc nL own) {hh : List (Nat × Nat × Nat × Nat)} (htb : c.exceptionTable.toList = tableOf hh) {mc ms mc' ms' x : Nat} {rest S0 : List Value} {a : (Nat → Nat) → Array Value} (h1 : cells + mc ≤ mc') (h2 : slots + ms ≤ ms')
    (hr : RunX p l e R s m args below meth c E st nL cells slots σ pc L S0 rest mc ms (fun ad => QIx E st σ (.inl x) ad (a ad)) (XX E st σ Int32 (.inl x))) (pre : List ExceptionTableEntry) (xe : ExceptionTableEntry) (suf : List ExceptionTableEntry) (hsp : tableOf hh = pre ++ xe :: suf)
    (hpass : ∀ z ∈ pre, covers z pc = false ∨ (z.catchType ≠ 0 ∧ ∃ nm : String, Cond.classLink own z.catchType nm ∈ BW ∧ va_Nc (xn x) nm s)) (hx : covers xe pc = true) (h0 : xe.catchType ≠ 0) (hlink : Cond.classLink own xe.catchType (xn x) ∈ BW) (hx2 : x < 2)
    (hrt : meth.sig.returnType = some .int) {n q2 : Nat} {z : Int} {k : Int32} (hn : n < nL) (hd1 : decode cc xe.handlerPc = .ok (.astore n, 2) ∧ q2 = xe.handlerPc + 2 ∨ ∃ f : Fin 4, (f : Nat) = n ∧ decode cc xe.handlerPc = .ok (.astore_n f, 1) ∧ q2 = xe.handlerPc + 1) (hd2 : decode cc q2 = .ok (.iconst z, 1)) (hz : Int32.ofInt z = k) (hd3 : decode cc (q2 + 1) = .ok (.ireturn, 1)) :
    G p l e R s m args below meth c E st (sZ σ) ad0 (MQ below (QI E st σ k σ ad0) args s mc' ms' (AE E)) nL cells slots σ pc L S0 := by
  intro ad H locs ls hw hs ha hl vl vs
  obtain ⟨⟨X, hX⟩, hr⟩ := hr
  refine vx_calli (hr ad H locs ls hw hs hl vs) hs (fun q _ h => h) (fun q h => h) (fun q _ h => h) (fun E9 ce q9 u t H1 locs1 ht hvm hpx hB hz9 hk hs1 hce hcv hcl => ?_) (fun r u t H1 locs1 ht hvm hp => nomatch hp.1)
  cases hpx
  obtain ⟨rfl, hB⟩ := hB
  have hw1 : Wh E st ad σ H1 := by rw [← ht]; exact hB
  have hcast : (Cond.castable (xn x) (xn x)).before args s = true := va_Nw.use rfl (C.2.2.2.2.2.2.2.1.2.2.1 (xn x) (by
    rcases (show x = 0 ∨ x = 1 by omega) with rfl | rfl
    · exact List.mem_cons_self
    · exact List.mem_cons_of_mem _ List.mem_cons_self))
  exact vx_catch (ce := ce) C.2.2.2.1 pre xe suf (htb.trans hsp) (fun z hz => (hpass z hz).imp id (fun g => ⟨g.1, g.2.imp fun nm g2 => ⟨C.2.2.2.2.1 _ g2.1, g2.2⟩⟩)) hx h0 (C.2.2.2.2.1 _ hlink) hcast hce hcv hcl (W_hend C hl hw1 hs1 ha hrt h1 h2 hn hd1 hd2 hz hd3)
theorem G_catL (C : Cx E p s m args meth c cc nL own) {hh : List (Nat × Nat × Nat × Nat)} (htb : c.exceptionTable.toList = tableOf hh) {mc ms mc' ms' x : Nat} {rest S0 : List Value} {a : (Nat → Nat) → Array Value} (h1 : cells + mc ≤ mc') (h2 : slots + ms ≤ ms')
    (hr : RunX p l e R s m args below meth c E st nL cells slots σ pc L S0 rest mc ms (fun ad => QLx E st σ (.inl x) ad (a ad)) (XX E st σ Int64 (.inl x))) (pre : List ExceptionTableEntry) (xe : ExceptionTableEntry) (suf : List ExceptionTableEntry) (hsp : tableOf hh = pre ++ xe :: suf)
    (hpass : ∀ z ∈ pre, covers z pc = false ∨ (z.catchType ≠ 0 ∧ ∃ nm : String, Cond.classLink own z.catchType nm ∈ BW ∧ va_Nc (xn x) nm s)) (hx : covers xe pc = true) (h0 : xe.catchType ≠ 0) (hlink : Cond.classLink own xe.catchType (xn x) ∈ BW) (hx2 : x < 2)
    (hrt : meth.sig.returnType = some .int) {n q2 : Nat} {z : Int} {k : Int32} (hn : n < nL) (hd1 : decode cc xe.handlerPc = .ok (.astore n, 2) ∧ q2 = xe.handlerPc + 2 ∨ ∃ f : Fin 4, (f : Nat) = n ∧ decode cc xe.handlerPc = .ok (.astore_n f, 1) ∧ q2 = xe.handlerPc + 1) (hd2 : decode cc q2 = .ok (.iconst z, 1)) (hz : Int32.ofInt z = k) (hd3 : decode cc (q2 + 1) = .ok (.ireturn, 1)) :
    G p l e R s m args below meth c E st (sZ σ) ad0 (MQ below (QI E st σ k σ ad0) args s mc' ms' (AE E)) nL cells slots σ pc L S0 := by
  intro ad H locs ls hw hs ha hl vl vs
  obtain ⟨⟨X, hX⟩, hr⟩ := hr
  refine vx_calll (hr ad H locs ls hw hs hl vs) hs (fun q _ h => h) (fun q h => h) (fun q _ h => h) (fun E9 ce q9 u t H1 locs1 ht hvm hpx hB hz9 hk hs1 hce hcv hcl => ?_) (fun r u t H1 locs1 ht hvm hp => nomatch hp.1)
  cases hpx
  obtain ⟨rfl, hB⟩ := hB
  have hw1 : Wh E st ad σ H1 := by rw [← ht]; exact hB
  have hcast : (Cond.castable (xn x) (xn x)).before args s = true := va_Nw.use rfl (C.2.2.2.2.2.2.2.1.2.2.1 (xn x) (by
    rcases (show x = 0 ∨ x = 1 by omega) with rfl | rfl
    · exact List.mem_cons_self
    · exact List.mem_cons_of_mem _ List.mem_cons_self))
  exact vx_catch (ce := ce) C.2.2.2.1 pre xe suf (htb.trans hsp) (fun z hz => (hpass z hz).imp id (fun g => ⟨g.1, g.2.imp fun nm g2 => ⟨C.2.2.2.2.1 _ g2.1, g2.2⟩⟩)) hx h0 (C.2.2.2.2.1 _ hlink) hcast hce hcv hcl (W_hend C hl hw1 hs1 ha hrt h1 h2 hn hd1 hd2 hz hd3)
end GH
def hN (x : Nat) : Option Int32 := if x = 0 then some 1 else none
def hI (x : Nat) : Option Int32 := if x = 1 then some 1 else none
def hB (x : Nat) : Option Int32 := if x = 0 then some 1 else if x = 1 then some 2 else none
/-- what a wrapper does with what the call came to -/
def wr {α : Type} (h : Nat → Option Int32) (f : α → Int64) (σ : Sto) (r : Option (Nat ⊕ (α × Sto))) : Option (Int32 × Sto) := match r with
  | none => none
  | some (.inl x) => (h x).map fun k => (k, σ)
  | some (.inr (v, σ1)) => some (0, wL σ1 146 0 (f v))
theorem wr_elim {α : Type} {h : Nat → Option Int32} {f : α → Int64} {σ σ' : Sto} {r : Option (Nat ⊕ (α × Sto))} {k : Int32} (e : wr h f σ r = some (k, σ')) : (∃ x, r = some (.inl x) ∧ h x = some k ∧ σ' = σ) ∨ (∃ v σ1, r = some (.inr (v, σ1)) ∧ k = 0 ∧ σ' = wL σ1 146 0 (f v)) := by
  rcases r with _ | x | ⟨v, σ1⟩
  · exact nomatch (show (none : Option (Int32 × Sto)) = some _ from e)
  · left
    rw [wr] at e
    cases hx : h x with
    | none => rw [hx] at e; exact nomatch e
    | some k' => rw [hx] at e; cases e; exact ⟨x, rfl, hx, rfl⟩
  · right
    cases e
    exact ⟨v, σ1, rfl, rfl, rfl⟩
theorem hN_out {x : Nat} {k : Int32} (h : hN x = some k) : x = 0 ∧ k = 1 := by
  unfold hN at h; split at h
  · cases h; exact ⟨by assumption, rfl⟩
  · cases h
theorem hI_out {x : Nat} {k : Int32} (h : hI x = some k) : x = 1 ∧ k = 1 := by
  unfold hI at h; split at h
  · cases h; exact ⟨by assumption, rfl⟩
  · cases h
theorem hB_out {x : Nat} {k : Int32} (h : hB x = some k) : (x = 0 ∧ k = 1) ∨ (x = 1 ∧ k = 2) := by
  unfold hB at h; split at h
  · cases h; exact Or.inl ⟨by assumption, rfl⟩
  · split at h
    · cases h; exact Or.inr ⟨by assumption, rfl⟩
    · cases h
def bZ (v : Int32) : Int64 := if v = 0 then 0 else 1
def iJ (v : Int32) : Int64 := v.toInt64
def jJ (v : Int64) : Int64 := v
theorem nl_L_13 : Cond.classLink RL 13 (xn 0) ∈ BW := (bw (t_3 _ (List.mem_of_getElem? (i := 69) rfl)) rfl)
theorem nl_L_34 : Cond.classLink RL 34 (xn 1) ∈ BW := (bw (t_3 _ (List.mem_of_getElem? (i := 221) rfl)) rfl)
theorem in_L : Cond.initialized RL ∈ BW := (bw (t_1 _ (List.mem_of_getElem? (i := 0) rfl)) rfl)
theorem cw_L_rate : Cond.codeWith yL_rate cL_rate 6 (some .int) [(0, 19, 22, 13)] ∈ BW := bw (t_3 _ (List.mem_of_getElem? (i := 68) rfl)) rfl
theorem mh_L_rate : yL_rate.cls ≠ "java/lang/invoke/MethodHandle" ∧ yL_rate.cls ≠ "java/lang/invoke/VarHandle" ∧ (parseMethodDescriptor yL_rate.desc).map (fun d => d.parameters.length) = some 5 := ⟨by decide +kernel, by decide +kernel, by decide +kernel⟩
theorem ms_L_rate : Cond.static yL_rate ∈ BW := (bw (t_3 _ (List.mem_of_getElem? (i := 67) rfl)) rfl)
theorem cw_L_person : Cond.codeWith yL_person cL_person 5 (some .int) [(0, 10, 13, 13)] ∈ BW := bw (t_3 _ (List.mem_of_getElem? (i := 157) rfl)) rfl
theorem mh_L_person : yL_person.cls ≠ "java/lang/invoke/MethodHandle" ∧ yL_person.cls ≠ "java/lang/invoke/VarHandle" ∧ (parseMethodDescriptor yL_person.desc).map (fun d => d.parameters.length) = some 4 := ⟨by decide +kernel, by decide +kernel, by decide +kernel⟩
theorem ms_L_person : Cond.static yL_person ∈ BW := (bw (t_3 _ (List.mem_of_getElem? (i := 156) rfl)) rfl)
theorem cw_L_work : Cond.codeWith yL_work cL_work 9 (some .int) [(0, 18, 21, 13)] ∈ BW := bw (t_3 _ (List.mem_of_getElem? (i := 166) rfl)) rfl
theorem mh_L_work : yL_work.cls ≠ "java/lang/invoke/MethodHandle" ∧ yL_work.cls ≠ "java/lang/invoke/VarHandle" ∧ (parseMethodDescriptor yL_work.desc).map (fun d => d.parameters.length) = some 8 := ⟨by decide +kernel, by decide +kernel, by decide +kernel⟩
theorem ms_L_work : Cond.static yL_work ∈ BW := (bw (t_3 _ (List.mem_of_getElem? (i := 165) rfl)) rfl)
theorem cw_L_joins : Cond.codeWith yL_joins cL_joins 6 (some .int) [(0, 12, 15, 13)] ∈ BW := bw (t_3 _ (List.mem_of_getElem? (i := 185) rfl)) rfl
theorem mh_L_joins : yL_joins.cls ≠ "java/lang/invoke/MethodHandle" ∧ yL_joins.cls ≠ "java/lang/invoke/VarHandle" ∧ (parseMethodDescriptor yL_joins.desc).map (fun d => d.parameters.length) = some 5 := ⟨by decide +kernel, by decide +kernel, by decide +kernel⟩
theorem ms_L_joins : Cond.static yL_joins ∈ BW := (bw (t_3 _ (List.mem_of_getElem? (i := 184) rfl)) rfl)
theorem cw_L_society : Cond.codeWith yL_society cL_society 5 (some .int) [(0, 10, 13, 13)] ∈ BW := bw (t_3 _ (List.mem_of_getElem? (i := 211) rfl)) rfl
theorem mh_L_society : yL_society.cls ≠ "java/lang/invoke/MethodHandle" ∧ yL_society.cls ≠ "java/lang/invoke/VarHandle" ∧ (parseMethodDescriptor yL_society.desc).map (fun d => d.parameters.length) = some 4 := ⟨by decide +kernel, by decide +kernel, by decide +kernel⟩
theorem ms_L_society : Cond.static yL_society ∈ BW := (bw (t_3 _ (List.mem_of_getElem? (i := 210) rfl)) rfl)
theorem cw_L_evenings : Cond.codeWith yL_evenings cL_evenings 4 (some .int) [(0, 9, 12, 34)] ∈ BW := bw (t_3 _ (List.mem_of_getElem? (i := 220) rfl)) rfl
theorem mh_L_evenings : yL_evenings.cls ≠ "java/lang/invoke/MethodHandle" ∧ yL_evenings.cls ≠ "java/lang/invoke/VarHandle" ∧ (parseMethodDescriptor yL_evenings.desc).map (fun d => d.parameters.length) = some 3 := ⟨by decide +kernel, by decide +kernel, by decide +kernel⟩
theorem ms_L_evenings : Cond.static yL_evenings ∈ BW := (bw (t_3 _ (List.mem_of_getElem? (i := 219) rfl)) rfl)
theorem cw_L_death : Cond.codeWith yL_death cL_death 6 (some .int) [(0, 12, 15, 13)] ∈ BW := bw (t_4 _ (List.mem_of_getElem? (i := 4) rfl)) rfl
theorem mh_L_death : yL_death.cls ≠ "java/lang/invoke/MethodHandle" ∧ yL_death.cls ≠ "java/lang/invoke/VarHandle" ∧ (parseMethodDescriptor yL_death.desc).map (fun d => d.parameters.length) = some 5 := ⟨by decide +kernel, by decide +kernel, by decide +kernel⟩
theorem ms_L_death : Cond.static yL_death ∈ BW := (bw (t_4 _ (List.mem_of_getElem? (i := 3) rfl)) rfl)
theorem cw_L_heir : Cond.codeWith yL_heir cL_heir 7 (some .int) [(0, 14, 17, 13)] ∈ BW := bw (t_4 _ (List.mem_of_getElem? (i := 22) rfl)) rfl
theorem mh_L_heir : yL_heir.cls ≠ "java/lang/invoke/MethodHandle" ∧ yL_heir.cls ≠ "java/lang/invoke/VarHandle" ∧ (parseMethodDescriptor yL_heir.desc).map (fun d => d.parameters.length) = some 6 := ⟨by decide +kernel, by decide +kernel, by decide +kernel⟩
theorem ms_L_heir : Cond.static yL_heir ∈ BW := (bw (t_4 _ (List.mem_of_getElem? (i := 21) rfl)) rfl)
theorem cw_L_sale : Cond.codeWith yL_sale cL_sale 10 (some .int) [(0, 20, 23, 13)] ∈ BW := bw (t_4 _ (List.mem_of_getElem? (i := 43) rfl)) rfl
theorem mh_L_sale : yL_sale.cls ≠ "java/lang/invoke/MethodHandle" ∧ yL_sale.cls ≠ "java/lang/invoke/VarHandle" ∧ (parseMethodDescriptor yL_sale.desc).map (fun d => d.parameters.length) = some 9 := ⟨by decide +kernel, by decide +kernel, by decide +kernel⟩
theorem ms_L_sale : Cond.static yL_sale ∈ BW := (bw (t_4 _ (List.mem_of_getElem? (i := 42) rfl)) rfl)
theorem cw_L_fact : Cond.codeWith yL_fact cL_fact 8 (some .int) [(0, 16, 19, 13)] ∈ BW := bw (t_4 _ (List.mem_of_getElem? (i := 51) rfl)) rfl
theorem mh_L_fact : yL_fact.cls ≠ "java/lang/invoke/MethodHandle" ∧ yL_fact.cls ≠ "java/lang/invoke/VarHandle" ∧ (parseMethodDescriptor yL_fact.desc).map (fun d => d.parameters.length) = some 7 := ⟨by decide +kernel, by decide +kernel, by decide +kernel⟩
theorem ms_L_fact : Cond.static yL_fact ∈ BW := (bw (t_4 _ (List.mem_of_getElem? (i := 50) rfl)) rfl)
theorem cw_L_back : Cond.codeWith yL_back cL_back 5 (some .int) [(0, 17, 20, 13)] ∈ BW := bw (t_4 _ (List.mem_of_getElem? (i := 64) rfl)) rfl
theorem mh_L_back : yL_back.cls ≠ "java/lang/invoke/MethodHandle" ∧ yL_back.cls ≠ "java/lang/invoke/VarHandle" ∧ (parseMethodDescriptor yL_back.desc).map (fun d => d.parameters.length) = some 4 := ⟨by decide +kernel, by decide +kernel, by decide +kernel⟩
theorem ms_L_back : Cond.static yL_back ∈ BW := (bw (t_4 _ (List.mem_of_getElem? (i := 63) rfl)) rfl)
theorem cw_L_claim : Cond.codeWith yL_claim cL_claim 5 (some .int) [(0, 17, 20, 13)] ∈ BW := bw (t_4 _ (List.mem_of_getElem? (i := 78) rfl)) rfl
theorem mh_L_claim : yL_claim.cls ≠ "java/lang/invoke/MethodHandle" ∧ yL_claim.cls ≠ "java/lang/invoke/VarHandle" ∧ (parseMethodDescriptor yL_claim.desc).map (fun d => d.parameters.length) = some 4 := ⟨by decide +kernel, by decide +kernel, by decide +kernel⟩
theorem ms_L_claim : Cond.static yL_claim ∈ BW := (bw (t_4 _ (List.mem_of_getElem? (i := 77) rfl)) rfl)
theorem cw_L_law : Cond.codeWith yL_law cL_law 6 (some .int) [(0, 12, 15, 13), (0, 12, 19, 34)] ∈ BW := bw (t_4 _ (List.mem_of_getElem? (i := 98) rfl)) rfl
theorem mh_L_law : yL_law.cls ≠ "java/lang/invoke/MethodHandle" ∧ yL_law.cls ≠ "java/lang/invoke/VarHandle" ∧ (parseMethodDescriptor yL_law.desc).map (fun d => d.parameters.length) = some 5 := ⟨by decide +kernel, by decide +kernel, by decide +kernel⟩
theorem ms_L_law : Cond.static yL_law ∈ BW := (bw (t_4 _ (List.mem_of_getElem? (i := 97) rfl)) rfl)
theorem cw_L_sold : Cond.codeWith yL_sold cL_sold 6 (some .int) [(0, 12, 15, 13), (0, 12, 19, 34)] ∈ BW := bw (t_5 _ (List.mem_of_getElem? (i := 70) rfl)) rfl
theorem mh_L_sold : yL_sold.cls ≠ "java/lang/invoke/MethodHandle" ∧ yL_sold.cls ≠ "java/lang/invoke/VarHandle" ∧ (parseMethodDescriptor yL_sold.desc).map (fun d => d.parameters.length) = some 5 := ⟨by decide +kernel, by decide +kernel, by decide +kernel⟩
theorem ms_L_sold : Cond.static yL_sold ∈ BW := (bw (t_5 _ (List.mem_of_getElem? (i := 69) rfl)) rfl)
theorem cw_L_has : Cond.codeWith yL_has cL_has 7 (some .int) [(0, 14, 17, 13), (0, 14, 21, 34)] ∈ BW := bw (t_5 _ (List.mem_of_getElem? (i := 211) rfl)) rfl
theorem mh_L_has : yL_has.cls ≠ "java/lang/invoke/MethodHandle" ∧ yL_has.cls ≠ "java/lang/invoke/VarHandle" ∧ (parseMethodDescriptor yL_has.desc).map (fun d => d.parameters.length) = some 6 := ⟨by decide +kernel, by decide +kernel, by decide +kernel⟩
theorem ms_L_has : Cond.static yL_has ∈ BW := (bw (t_5 _ (List.mem_of_getElem? (i := 210) rfl)) rfl)
theorem cw_L_gets : Cond.codeWith yL_gets cL_gets 6 (some .int) [(0, 11, 14, 13), (0, 11, 18, 34)] ∈ BW := bw (t_5 _ (List.mem_of_getElem? (i := 218) rfl)) rfl
theorem mh_L_gets : yL_gets.cls ≠ "java/lang/invoke/MethodHandle" ∧ yL_gets.cls ≠ "java/lang/invoke/VarHandle" ∧ (parseMethodDescriptor yL_gets.desc).map (fun d => d.parameters.length) = some 5 := ⟨by decide +kernel, by decide +kernel, by decide +kernel⟩
theorem ms_L_gets : Cond.static yL_gets ∈ BW := (bw (t_5 _ (List.mem_of_getElem? (i := 217) rfl)) rfl)
theorem cw_L_owes : Cond.codeWith yL_owes cL_owes 7 (some .int) [(0, 13, 16, 13), (0, 13, 20, 34)] ∈ BW := bw (t_5 _ (List.mem_of_getElem? (i := 234) rfl)) rfl
theorem mh_L_owes : yL_owes.cls ≠ "java/lang/invoke/MethodHandle" ∧ yL_owes.cls ≠ "java/lang/invoke/VarHandle" ∧ (parseMethodDescriptor yL_owes.desc).map (fun d => d.parameters.length) = some 6 := ⟨by decide +kernel, by decide +kernel, by decide +kernel⟩
theorem ms_L_owes : Cond.static yL_owes ∈ BW := (bw (t_5 _ (List.mem_of_getElem? (i := 233) rfl)) rfl)
theorem cw_L_net : Cond.codeWith yL_net cL_net 6 (some .int) [(0, 11, 14, 13), (0, 11, 18, 34)] ∈ BW := bw (t_6 _ (List.mem_of_getElem? (i := 23) rfl)) rfl
theorem mh_L_net : yL_net.cls ≠ "java/lang/invoke/MethodHandle" ∧ yL_net.cls ≠ "java/lang/invoke/VarHandle" ∧ (parseMethodDescriptor yL_net.desc).map (fun d => d.parameters.length) = some 5 := ⟨by decide +kernel, by decide +kernel, by decide +kernel⟩
theorem ms_L_net : Cond.static yL_net ∈ BW := (bw (t_6 _ (List.mem_of_getElem? (i := 22) rfl)) rfl)
theorem cw_L_payments : Cond.codeWith yL_payments cL_payments 5 (some .int) [(0, 10, 13, 13), (0, 10, 17, 34)] ∈ BW := bw (t_6 _ (List.mem_of_getElem? (i := 35) rfl)) rfl
theorem mh_L_payments : yL_payments.cls ≠ "java/lang/invoke/MethodHandle" ∧ yL_payments.cls ≠ "java/lang/invoke/VarHandle" ∧ (parseMethodDescriptor yL_payments.desc).map (fun d => d.parameters.length) = some 4 := ⟨by decide +kernel, by decide +kernel, by decide +kernel⟩
theorem ms_L_payments : Cond.static yL_payments ∈ BW := (bw (t_6 _ (List.mem_of_getElem? (i := 34) rfl)) rfl)
theorem cw_L_again : Cond.codeWith yL_again cL_again 7 (some .int) [(0, 14, 17, 34)] ∈ BW := bw (t_6 _ (List.mem_of_getElem? (i := 48) rfl)) rfl
theorem mh_L_again : yL_again.cls ≠ "java/lang/invoke/MethodHandle" ∧ yL_again.cls ≠ "java/lang/invoke/VarHandle" ∧ (parseMethodDescriptor yL_again.desc).map (fun d => d.parameters.length) = some 6 := ⟨by decide +kernel, by decide +kernel, by decide +kernel⟩
theorem ms_L_again : Cond.static yL_again ∈ BW := (bw (t_6 _ (List.mem_of_getElem? (i := 47) rfl)) rfl)
theorem cw_L_with : Cond.codeWith yL_with cL_with 6 (some .int) [(0, 12, 15, 13), (0, 12, 19, 34)] ∈ BW := bw (t_6 _ (List.mem_of_getElem? (i := 63) rfl)) rfl
theorem mh_L_with : yL_with.cls ≠ "java/lang/invoke/MethodHandle" ∧ yL_with.cls ≠ "java/lang/invoke/VarHandle" ∧ (parseMethodDescriptor yL_with.desc).map (fun d => d.parameters.length) = some 5 := ⟨by decide +kernel, by decide +kernel, by decide +kernel⟩
theorem ms_L_with : Cond.static yL_with ∈ BW := (bw (t_6 _ (List.mem_of_getElem? (i := 62) rfl)) rfl)
theorem cw_L_hidden : Cond.codeWith yL_hidden cL_hidden 7 (some .int) [(0, 14, 17, 13), (0, 14, 21, 34)] ∈ BW := bw (t_6 _ (List.mem_of_getElem? (i := 72) rfl)) rfl
theorem mh_L_hidden : yL_hidden.cls ≠ "java/lang/invoke/MethodHandle" ∧ yL_hidden.cls ≠ "java/lang/invoke/VarHandle" ∧ (parseMethodDescriptor yL_hidden.desc).map (fun d => d.parameters.length) = some 6 := ⟨by decide +kernel, by decide +kernel, by decide +kernel⟩
theorem ms_L_hidden : Cond.static yL_hidden ∈ BW := (bw (t_6 _ (List.mem_of_getElem? (i := 71) rfl)) rfl)
theorem cw_L_attempt : Cond.codeWith yL_attempt cL_attempt 6 (some .int) [(0, 12, 15, 13), (0, 12, 19, 34)] ∈ BW := bw (t_6 _ (List.mem_of_getElem? (i := 88) rfl)) rfl
theorem mh_L_attempt : yL_attempt.cls ≠ "java/lang/invoke/MethodHandle" ∧ yL_attempt.cls ≠ "java/lang/invoke/VarHandle" ∧ (parseMethodDescriptor yL_attempt.desc).map (fun d => d.parameters.length) = some 5 := ⟨by decide +kernel, by decide +kernel, by decide +kernel⟩
theorem ms_L_attempt : Cond.static yL_attempt ∈ BW := (bw (t_6 _ (List.mem_of_getElem? (i := 87) rfl)) rfl)
theorem cw_L_more : Cond.codeWith yL_more cL_more 4 (some .int) [(0, 8, 11, 13)] ∈ BW := bw (t_6 _ (List.mem_of_getElem? (i := 105) rfl)) rfl
theorem mh_L_more : yL_more.cls ≠ "java/lang/invoke/MethodHandle" ∧ yL_more.cls ≠ "java/lang/invoke/VarHandle" ∧ (parseMethodDescriptor yL_more.desc).map (fun d => d.parameters.length) = some 3 := ⟨by decide +kernel, by decide +kernel, by decide +kernel⟩
theorem ms_L_more : Cond.static yL_more ∈ BW := (bw (t_6 _ (List.mem_of_getElem? (i := 104) rfl)) rfl)
theorem cw_L_count : Cond.codeWith yL_count cL_count 4 (some .int) [(0, 9, 12, 13)] ∈ BW := bw (t_6 _ (List.mem_of_getElem? (i := 112) rfl)) rfl
theorem mh_L_count : yL_count.cls ≠ "java/lang/invoke/MethodHandle" ∧ yL_count.cls ≠ "java/lang/invoke/VarHandle" ∧ (parseMethodDescriptor yL_count.desc).map (fun d => d.parameters.length) = some 3 := ⟨by decide +kernel, by decide +kernel, by decide +kernel⟩
theorem ms_L_count : Cond.static yL_count ∈ BW := (bw (t_6 _ (List.mem_of_getElem? (i := 111) rfl)) rfl)
def mL_rate (p0 : Int32) (p1 : Int32) (p2 : Int32) (σ : Sto) : Option (Int32 × Sto) := wr hN bZ σ (mX11_rate p0 p1 p2 σ)
def mL_person (p0 : Int32) (p1 : Int32) (σ : Sto) : Option (Int32 × Sto) := wr hN iJ σ (mX11_person p0 p1 σ)
def mL_work (p0 : Int32) (p1 : Int32) (p2 : Int32) (p3 : Int32) (p4 : Int32) (p5 : Int32) (σ : Sto) : Option (Int32 × Sto) := wr hN iJ σ (mX11_work p0 p1 p2 p3 p4 p5 σ)
def mL_joins (p0 : Int32) (p1 : Int32) (p2 : Int32) (σ : Sto) : Option (Int32 × Sto) := wr hN iJ σ (mX11_joins p0 p1 p2 σ)
def mL_society (p0 : Int32) (p1 : Int32) (σ : Sto) : Option (Int32 × Sto) := wr hN iJ σ (mX11_society p0 p1 σ)
def mL_evenings (p0 : Int32) (σ : Sto) : Option (Int32 × Sto) := wr hI iJ σ (mX11_evenings p0 σ)
def mL_death (p0 : Int32) (p1 : Int32) (p2 : Int32) (σ : Sto) : Option (Int32 × Sto) := wr hN iJ σ (mX11_death p0 p1 p2 σ)
def mL_heir (p0 : Int32) (p1 : Int32) (p2 : Int32) (p3 : Int32) (σ : Sto) : Option (Int32 × Sto) := wr hN iJ σ (mX11_heir p0 p1 p2 p3 σ)
def mL_sale (p0 : Int32) (p1 : Int32) (p2 : Int32) (p3 : Int32) (p4 : Int32) (p5 : Int32) (p6 : Int32) (σ : Sto) : Option (Int32 × Sto) := wr hN iJ σ (mX11_sale p0 p1 p2 p3 p4 p5 p6 σ)
def mL_fact (p0 : Int32) (p1 : Int32) (p2 : Int32) (p3 : Int32) (p4 : Int32) (σ : Sto) : Option (Int32 × Sto) := wr hN iJ σ (mX11_fact p0 p1 p2 p3 p4 σ)
def mL_back (p0 : Int32) (p1 : Int32) (σ : Sto) : Option (Int32 × Sto) := wr hN bZ σ (mX11_back p0 p1 σ)
def mL_claim (p0 : Int32) (p1 : Int32) (σ : Sto) : Option (Int32 × Sto) := wr hN bZ σ (mX11_claim p0 p1 σ)
def mL_law (p0 : Int32) (p1 : Int32) (p2 : Int32) (σ : Sto) : Option (Int32 × Sto) := wr hB iJ σ (mX11_law p0 p1 p2 σ)
def mL_sold (p0 : Int32) (p1 : Int32) (p2 : Int32) (σ : Sto) : Option (Int32 × Sto) := wr hB iJ σ (mX11_sold p0 p1 p2 σ)
def mL_has (p0 : Int32) (p1 : Int32) (p2 : Int32) (p3 : Int32) (σ : Sto) : Option (Int32 × Sto) := wr hB iJ σ (mX11_has p0 p1 p2 p3 σ)
def mL_gets (p0 : Int32) (p1 : Int32) (p2 : Int32) (σ : Sto) : Option (Int32 × Sto) := wr hB jJ σ (mX11_gets p0 p1 p2 σ)
def mL_owes (p0 : Int32) (p1 : Int32) (p2 : Int32) (p3 : Int32) (σ : Sto) : Option (Int32 × Sto) := wr hB jJ σ (mX11_owes p0 p1 p2 p3 σ)
def mL_net (p0 : Int32) (p1 : Int32) (p2 : Int32) (σ : Sto) : Option (Int32 × Sto) := wr hB jJ σ (mX11_net p0 p1 p2 σ)
def mL_payments (p0 : Int32) (p1 : Int32) (σ : Sto) : Option (Int32 × Sto) := wr hB iJ σ (mX11_payments p0 p1 σ)
def mL_again (p0 : Int32) (p1 : Int32) (p2 : Int32) (p3 : Int32) (σ : Sto) : Option (Int32 × Sto) := wr hI iJ σ ((mX11_again p0 p1 p2 p3 σ).map (embS σ))
def mL_with (p0 : Int32) (p1 : Int32) (p2 : Int32) (σ : Sto) : Option (Int32 × Sto) := wr hB iJ σ ((mX11_with p0 p1 p2 σ).map (embS σ))
def mL_hidden (p0 : Int32) (p1 : Int32) (p2 : Int32) (p3 : Int32) (σ : Sto) : Option (Int32 × Sto) := wr hB iJ σ ((mX11_hidden p0 p1 p2 p3 σ).map (embS σ))
def mL_attempt (p0 : Int32) (p1 : Int32) (p2 : Int32) (σ : Sto) : Option (Int32 × Sto) := wr hB iJ σ (mX11_attempt p0 p1 p2 σ)
def mL_more (p0 : Int32) (σ : Sto) : Option (Int32 × Sto) := wr hN jJ σ ((mX11_more p0 σ).map (embS σ))
def mL_count (p0 : Int32) (σ : Sto) : Option (Int32 × Sto) := wr hN iJ σ ((mX11_count p0 σ).map (embS σ))
section
variable {p : Program} {l : Launch} {e : Env} {s : State} {m : MethodId} {args : Array Value} {below : List Frame} {meth : Method} {c : Code} {E : Ev} {ad0 : Nat → Nat} {st : Bool}
set_option maxHeartbeats 4000000 in
theorem dL_rate (hlx : l.stackTraces = false) {σ : Sto} {p0 : Int32} {p1 : Int32} {p2 : Int32} {r1 : Int32} {r2 : Sto} (h : mL_rate p0 p1 p2 σ = some (r1, r2)) : MH l yL_rate cL_rate 6 (some .int) [(0, 19, 22, 13)] 8 2 9 E true σ [.ref 32, .int p0, .int p1, .int p2, .ref 146] (QI E true σ r1 r2) := by
  unfold mL_rate at h
  refine MH_of (by decide) (Nat.le_of_ble_eq_true rfl) rfl (fun p e s m args below meth c ad0 C hr ht => ?_)
  refine G_aload C 4 rfl dL_rate_0 ?_
  refine G_iconst C (v := 0) rfl dL_rate_2 ?_
  refine G_aload_n C 0 rfl rfl dL_rate_3 ?_
  refine G_iload_n C 1 rfl rfl dL_rate_4 ?_
  refine G_iload_n C 2 rfl rfl dL_rate_5 ?_
  refine G_iload_n C 3 rfl rfl dL_rate_6 ?_
  rcases wr_elim h with ⟨x, hv, hk, rfl⟩ | ⟨v, σ1, hv, rfl, rfl⟩
  · obtain ⟨rfl, rfl⟩ := hN_out hk
    exact G_catI (hh := [(0, 19, 22, 13)]) (x := 0) (z := 1) (n := 5) (q2 := 24) C ht (Nat.le_of_ble_eq_true rfl) (Nat.le_of_ble_eq_true rfl) (run_Vx C [.int p0, .int p1, .int p2] [.int 0, .ref 146] (dX11_rate hlx hv) ml_X11_rate mv_X11_rate lk_L_7 ⟨(Nat.le_of_ble_eq_true rfl), (Nat.le_of_ble_eq_true rfl)⟩ ⟨(Nat.le_of_ble_eq_true rfl), (Nat.le_of_ble_eq_true rfl)⟩ vq_10 rfl ko_32 rfl (Nat.le_of_ble_eq_true rfl) dL_rate_7) [] ⟨0, 19, 22, 13⟩ [] rfl (fun z hz => absurd hz List.not_mem_nil) (by decide) (by decide) nl_L_13 (by decide) hr (Nat.le_of_ble_eq_true rfl) (Or.inl ⟨dL_rate_22, rfl⟩) dL_rate_24 rfl dL_rate_25
  · refine G_callIx (run_Vx C [.int p0, .int p1, .int p2] [.int 0, .ref 146] (dX11_rate hlx hv) ml_X11_rate mv_X11_rate lk_L_7 ⟨(Nat.le_of_ble_eq_true rfl), (Nat.le_of_ble_eq_true rfl)⟩ ⟨(Nat.le_of_ble_eq_true rfl), (Nat.le_of_ble_eq_true rfl)⟩ vq_10 rfl ko_32 rfl (Nat.le_of_ble_eq_true rfl) dL_rate_7) ?_
    refine G_if_eq (tgt := 17) C rfl dL_rate_10 (fun hz => ?_) (fun hz => ?_)
    · rw [show bZ v = 0 from if_pos hz]
      refine G_lconst C (v := 0) rfl dL_rate_17 ?_
      refine G_lastore C ks_146 ⟨by decide, by decide⟩ dL_rate_18 ?_
      refine G_goto (tgt := 26) C rfl dL_rate_19 ?_
      refine G_iconst C (v := 0) rfl dL_rate_26 ?_
      exact G_iret C hr (Nat.le_of_ble_eq_true rfl) (Nat.le_of_ble_eq_true rfl) dL_rate_27
    · rw [show bZ v = 1 from if_neg hz]
      refine G_lconst C (v := 1) rfl dL_rate_13 ?_
      refine G_goto (tgt := 18) C rfl dL_rate_14 ?_
      refine G_lastore C ks_146 ⟨by decide, by decide⟩ dL_rate_18 ?_
      refine G_goto (tgt := 26) C rfl dL_rate_19 ?_
      refine G_iconst C (v := 0) rfl dL_rate_26 ?_
      exact G_iret C hr (Nat.le_of_ble_eq_true rfl) (Nat.le_of_ble_eq_true rfl) dL_rate_27
set_option maxHeartbeats 4000000 in
theorem dL_person (hlx : l.stackTraces = false) {σ : Sto} {p0 : Int32} {p1 : Int32} {r1 : Int32} {r2 : Sto} (h : mL_person p0 p1 σ = some (r1, r2)) : MH l yL_person cL_person 5 (some .int) [(0, 10, 13, 13)] 8 2 8 E true σ [.ref 32, .int p0, .int p1, .ref 146] (QI E true σ r1 r2) := by
  unfold mL_person at h
  refine MH_of (by decide) (Nat.le_of_ble_eq_true rfl) rfl (fun p e s m args below meth c ad0 C hr ht => ?_)
  refine G_aload_n C 3 rfl rfl dL_person_0 ?_
  refine G_iconst C (v := 0) rfl dL_person_1 ?_
  refine G_aload_n C 0 rfl rfl dL_person_2 ?_
  refine G_iload_n C 1 rfl rfl dL_person_3 ?_
  refine G_iload_n C 2 rfl rfl dL_person_4 ?_
  rcases wr_elim h with ⟨x, hv, hk, rfl⟩ | ⟨v, σ1, hv, rfl, rfl⟩
  · obtain ⟨rfl, rfl⟩ := hN_out hk
    exact G_catI (hh := [(0, 10, 13, 13)]) (x := 0) (z := 1) (n := 4) (q2 := 15) C ht (Nat.le_of_ble_eq_true rfl) (Nat.le_of_ble_eq_true rfl) (run_Vx C [.int p0, .int p1] [.int 0, .ref 146] (dX11_person hlx hv) ml_X11_person mv_X11_person lk_L_15 ⟨(Nat.le_of_ble_eq_true rfl), (Nat.le_of_ble_eq_true rfl)⟩ ⟨(Nat.le_of_ble_eq_true rfl), (Nat.le_of_ble_eq_true rfl)⟩ vq_10 rfl ko_32 rfl (Nat.le_of_ble_eq_true rfl) dL_person_5) [] ⟨0, 10, 13, 13⟩ [] rfl (fun z hz => absurd hz List.not_mem_nil) (by decide) (by decide) nl_L_13 (by decide) hr (Nat.le_of_ble_eq_true rfl) (Or.inl ⟨dL_person_13, rfl⟩) dL_person_15 rfl dL_person_16
  · refine G_callIx (run_Vx C [.int p0, .int p1] [.int 0, .ref 146] (dX11_person hlx hv) ml_X11_person mv_X11_person lk_L_15 ⟨(Nat.le_of_ble_eq_true rfl), (Nat.le_of_ble_eq_true rfl)⟩ ⟨(Nat.le_of_ble_eq_true rfl), (Nat.le_of_ble_eq_true rfl)⟩ vq_10 rfl ko_32 rfl (Nat.le_of_ble_eq_true rfl) dL_person_5) ?_
    refine G_i2l C dL_person_8 ?_
    refine G_lastore C ks_146 ⟨by decide, by decide⟩ dL_person_9 ?_
    refine G_goto (tgt := 17) C rfl dL_person_10 ?_
    refine G_iconst C (v := 0) rfl dL_person_17 ?_
    exact G_iret C hr (Nat.le_of_ble_eq_true rfl) (Nat.le_of_ble_eq_true rfl) dL_person_18
set_option maxHeartbeats 4000000 in
theorem dL_work (hlx : l.stackTraces = false) {σ : Sto} {p0 : Int32} {p1 : Int32} {p2 : Int32} {p3 : Int32} {p4 : Int32} {p5 : Int32} {r1 : Int32} {r2 : Sto} (h : mL_work p0 p1 p2 p3 p4 p5 σ = some (r1, r2)) : MH l yL_work cL_work 9 (some .int) [(0, 18, 21, 13)] 8 4 20 E true σ [.ref 32, .int p0, .int p1, .int p2, .int p3, .int p4, .int p5, .ref 146] (QI E true σ r1 r2) := by
  unfold mL_work at h
  refine MH_of (by decide) (Nat.le_of_ble_eq_true rfl) rfl (fun p e s m args below meth c ad0 C hr ht => ?_)
  refine G_aload C 7 rfl dL_work_0 ?_
  refine G_iconst C (v := 0) rfl dL_work_2 ?_
  refine G_aload_n C 0 rfl rfl dL_work_3 ?_
  refine G_iload_n C 1 rfl rfl dL_work_4 ?_
  refine G_iload_n C 2 rfl rfl dL_work_5 ?_
  refine G_iload_n C 3 rfl rfl dL_work_6 ?_
  refine G_iload C 4 rfl dL_work_7 ?_
  refine G_iload C 5 rfl dL_work_9 ?_
  refine G_iload C 6 rfl dL_work_11 ?_
  rcases wr_elim h with ⟨x, hv, hk, rfl⟩ | ⟨v, σ1, hv, rfl, rfl⟩
  · obtain ⟨rfl, rfl⟩ := hN_out hk
    exact G_catI (hh := [(0, 18, 21, 13)]) (x := 0) (z := 1) (n := 8) (q2 := 23) C ht (Nat.le_of_ble_eq_true rfl) (Nat.le_of_ble_eq_true rfl) (run_Vx C [.int p0, .int p1, .int p2, .int p3, .int p4, .int p5] [.int 0, .ref 146] (dX11_work hlx hv) ml_X11_work mv_X11_work lk_L_19 ⟨(Nat.le_of_ble_eq_true rfl), (Nat.le_of_ble_eq_true rfl)⟩ ⟨(Nat.le_of_ble_eq_true rfl), (Nat.le_of_ble_eq_true rfl)⟩ vq_10 rfl ko_32 rfl (Nat.le_of_ble_eq_true rfl) dL_work_13) [] ⟨0, 18, 21, 13⟩ [] rfl (fun z hz => absurd hz List.not_mem_nil) (by decide) (by decide) nl_L_13 (by decide) hr (Nat.le_of_ble_eq_true rfl) (Or.inl ⟨dL_work_21, rfl⟩) dL_work_23 rfl dL_work_24
  · refine G_callIx (run_Vx C [.int p0, .int p1, .int p2, .int p3, .int p4, .int p5] [.int 0, .ref 146] (dX11_work hlx hv) ml_X11_work mv_X11_work lk_L_19 ⟨(Nat.le_of_ble_eq_true rfl), (Nat.le_of_ble_eq_true rfl)⟩ ⟨(Nat.le_of_ble_eq_true rfl), (Nat.le_of_ble_eq_true rfl)⟩ vq_10 rfl ko_32 rfl (Nat.le_of_ble_eq_true rfl) dL_work_13) ?_
    refine G_i2l C dL_work_16 ?_
    refine G_lastore C ks_146 ⟨by decide, by decide⟩ dL_work_17 ?_
    refine G_goto (tgt := 25) C rfl dL_work_18 ?_
    refine G_iconst C (v := 0) rfl dL_work_25 ?_
    exact G_iret C hr (Nat.le_of_ble_eq_true rfl) (Nat.le_of_ble_eq_true rfl) dL_work_26
set_option maxHeartbeats 4000000 in
theorem dL_joins (hlx : l.stackTraces = false) {σ : Sto} {p0 : Int32} {p1 : Int32} {p2 : Int32} {r1 : Int32} {r2 : Sto} (h : mL_joins p0 p1 p2 σ = some (r1, r2)) : MH l yL_joins cL_joins 6 (some .int) [(0, 12, 15, 13)] 8 2 12 E true σ [.ref 32, .int p0, .int p1, .int p2, .ref 146] (QI E true σ r1 r2) := by
  unfold mL_joins at h
  refine MH_of (by decide) (Nat.le_of_ble_eq_true rfl) rfl (fun p e s m args below meth c ad0 C hr ht => ?_)
  refine G_aload C 4 rfl dL_joins_0 ?_
  refine G_iconst C (v := 0) rfl dL_joins_2 ?_
  refine G_aload_n C 0 rfl rfl dL_joins_3 ?_
  refine G_iload_n C 1 rfl rfl dL_joins_4 ?_
  refine G_iload_n C 2 rfl rfl dL_joins_5 ?_
  refine G_iload_n C 3 rfl rfl dL_joins_6 ?_
  rcases wr_elim h with ⟨x, hv, hk, rfl⟩ | ⟨v, σ1, hv, rfl, rfl⟩
  · obtain ⟨rfl, rfl⟩ := hN_out hk
    exact G_catI (hh := [(0, 12, 15, 13)]) (x := 0) (z := 1) (n := 5) (q2 := 17) C ht (Nat.le_of_ble_eq_true rfl) (Nat.le_of_ble_eq_true rfl) (run_Vx C [.int p0, .int p1, .int p2] [.int 0, .ref 146] (dX11_joins hlx hv) ml_X11_joins mv_X11_joins lk_L_23 ⟨(Nat.le_of_ble_eq_true rfl), (Nat.le_of_ble_eq_true rfl)⟩ ⟨(Nat.le_of_ble_eq_true rfl), (Nat.le_of_ble_eq_true rfl)⟩ vq_10 rfl ko_32 rfl (Nat.le_of_ble_eq_true rfl) dL_joins_7) [] ⟨0, 12, 15, 13⟩ [] rfl (fun z hz => absurd hz List.not_mem_nil) (by decide) (by decide) nl_L_13 (by decide) hr (Nat.le_of_ble_eq_true rfl) (Or.inl ⟨dL_joins_15, rfl⟩) dL_joins_17 rfl dL_joins_18
  · refine G_callIx (run_Vx C [.int p0, .int p1, .int p2] [.int 0, .ref 146] (dX11_joins hlx hv) ml_X11_joins mv_X11_joins lk_L_23 ⟨(Nat.le_of_ble_eq_true rfl), (Nat.le_of_ble_eq_true rfl)⟩ ⟨(Nat.le_of_ble_eq_true rfl), (Nat.le_of_ble_eq_true rfl)⟩ vq_10 rfl ko_32 rfl (Nat.le_of_ble_eq_true rfl) dL_joins_7) ?_
    refine G_i2l C dL_joins_10 ?_
    refine G_lastore C ks_146 ⟨by decide, by decide⟩ dL_joins_11 ?_
    refine G_goto (tgt := 19) C rfl dL_joins_12 ?_
    refine G_iconst C (v := 0) rfl dL_joins_19 ?_
    exact G_iret C hr (Nat.le_of_ble_eq_true rfl) (Nat.le_of_ble_eq_true rfl) dL_joins_20
set_option maxHeartbeats 4000000 in
theorem dL_society (hlx : l.stackTraces = false) {σ : Sto} {p0 : Int32} {p1 : Int32} {r1 : Int32} {r2 : Sto} (h : mL_society p0 p1 σ = some (r1, r2)) : MH l yL_society cL_society 5 (some .int) [(0, 10, 13, 13)] 8 2 8 E true σ [.ref 32, .int p0, .int p1, .ref 146] (QI E true σ r1 r2) := by
  unfold mL_society at h
  refine MH_of (by decide) (Nat.le_of_ble_eq_true rfl) rfl (fun p e s m args below meth c ad0 C hr ht => ?_)
  refine G_aload_n C 3 rfl rfl dL_society_0 ?_
  refine G_iconst C (v := 0) rfl dL_society_1 ?_
  refine G_aload_n C 0 rfl rfl dL_society_2 ?_
  refine G_iload_n C 1 rfl rfl dL_society_3 ?_
  refine G_iload_n C 2 rfl rfl dL_society_4 ?_
  rcases wr_elim h with ⟨x, hv, hk, rfl⟩ | ⟨v, σ1, hv, rfl, rfl⟩
  · obtain ⟨rfl, rfl⟩ := hN_out hk
    exact G_catI (hh := [(0, 10, 13, 13)]) (x := 0) (z := 1) (n := 4) (q2 := 15) C ht (Nat.le_of_ble_eq_true rfl) (Nat.le_of_ble_eq_true rfl) (run_Vx C [.int p0, .int p1] [.int 0, .ref 146] (dX11_society hlx hv) ml_X11_society mv_X11_society lk_L_27 ⟨(Nat.le_of_ble_eq_true rfl), (Nat.le_of_ble_eq_true rfl)⟩ ⟨(Nat.le_of_ble_eq_true rfl), (Nat.le_of_ble_eq_true rfl)⟩ vq_10 rfl ko_32 rfl (Nat.le_of_ble_eq_true rfl) dL_society_5) [] ⟨0, 10, 13, 13⟩ [] rfl (fun z hz => absurd hz List.not_mem_nil) (by decide) (by decide) nl_L_13 (by decide) hr (Nat.le_of_ble_eq_true rfl) (Or.inl ⟨dL_society_13, rfl⟩) dL_society_15 rfl dL_society_16
  · refine G_callIx (run_Vx C [.int p0, .int p1] [.int 0, .ref 146] (dX11_society hlx hv) ml_X11_society mv_X11_society lk_L_27 ⟨(Nat.le_of_ble_eq_true rfl), (Nat.le_of_ble_eq_true rfl)⟩ ⟨(Nat.le_of_ble_eq_true rfl), (Nat.le_of_ble_eq_true rfl)⟩ vq_10 rfl ko_32 rfl (Nat.le_of_ble_eq_true rfl) dL_society_5) ?_
    refine G_i2l C dL_society_8 ?_
    refine G_lastore C ks_146 ⟨by decide, by decide⟩ dL_society_9 ?_
    refine G_goto (tgt := 17) C rfl dL_society_10 ?_
    refine G_iconst C (v := 0) rfl dL_society_17 ?_
    exact G_iret C hr (Nat.le_of_ble_eq_true rfl) (Nat.le_of_ble_eq_true rfl) dL_society_18
set_option maxHeartbeats 4000000 in
theorem dL_evenings (hlx : l.stackTraces = false) {σ : Sto} {p0 : Int32} {r1 : Int32} {r2 : Sto} (h : mL_evenings p0 σ = some (r1, r2)) : MH l yL_evenings cL_evenings 4 (some .int) [(0, 9, 12, 34)] 7 1 6 E true σ [.ref 32, .int p0, .ref 146] (QI E true σ r1 r2) := by
  unfold mL_evenings at h
  refine MH_of (by decide) (Nat.le_of_ble_eq_true rfl) rfl (fun p e s m args below meth c ad0 C hr ht => ?_)
  refine G_aload_n C 2 rfl rfl dL_evenings_0 ?_
  refine G_iconst C (v := 0) rfl dL_evenings_1 ?_
  refine G_aload_n C 0 rfl rfl dL_evenings_2 ?_
  refine G_iload_n C 1 rfl rfl dL_evenings_3 ?_
  rcases wr_elim h with ⟨x, hv, hk, rfl⟩ | ⟨v, σ1, hv, rfl, rfl⟩
  · obtain ⟨rfl, rfl⟩ := hI_out hk
    exact G_catI (hh := [(0, 9, 12, 34)]) (x := 1) (z := 1) (n := 3) (q2 := 13) C ht (Nat.le_of_ble_eq_true rfl) (Nat.le_of_ble_eq_true rfl) (run_Vx C [.int p0] [.int 0, .ref 146] (dX11_evenings hlx hv) ml_X11_evenings mv_X11_evenings lk_L_30 ⟨(Nat.le_of_ble_eq_true rfl), (Nat.le_of_ble_eq_true rfl)⟩ ⟨(Nat.le_of_ble_eq_true rfl), (Nat.le_of_ble_eq_true rfl)⟩ vq_10 rfl ko_32 rfl (Nat.le_of_ble_eq_true rfl) dL_evenings_4) [] ⟨0, 9, 12, 34⟩ [] rfl (fun z hz => absurd hz List.not_mem_nil) (by decide) (by decide) nl_L_34 (by decide) hr (Nat.le_of_ble_eq_true rfl) (Or.inr ⟨3, rfl, dL_evenings_12, rfl⟩) dL_evenings_13 rfl dL_evenings_14
  · refine G_callIx (run_Vx C [.int p0] [.int 0, .ref 146] (dX11_evenings hlx hv) ml_X11_evenings mv_X11_evenings lk_L_30 ⟨(Nat.le_of_ble_eq_true rfl), (Nat.le_of_ble_eq_true rfl)⟩ ⟨(Nat.le_of_ble_eq_true rfl), (Nat.le_of_ble_eq_true rfl)⟩ vq_10 rfl ko_32 rfl (Nat.le_of_ble_eq_true rfl) dL_evenings_4) ?_
    refine G_i2l C dL_evenings_7 ?_
    refine G_lastore C ks_146 ⟨by decide, by decide⟩ dL_evenings_8 ?_
    refine G_goto (tgt := 15) C rfl dL_evenings_9 ?_
    refine G_iconst C (v := 0) rfl dL_evenings_15 ?_
    exact G_iret C hr (Nat.le_of_ble_eq_true rfl) (Nat.le_of_ble_eq_true rfl) dL_evenings_16
set_option maxHeartbeats 4000000 in
theorem dL_death (hlx : l.stackTraces = false) {σ : Sto} {p0 : Int32} {p1 : Int32} {p2 : Int32} {r1 : Int32} {r2 : Sto} (h : mL_death p0 p1 p2 σ = some (r1, r2)) : MH l yL_death cL_death 6 (some .int) [(0, 12, 15, 13)] 8 2 19 E true σ [.ref 32, .int p0, .int p1, .int p2, .ref 146] (QI E true σ r1 r2) := by
  unfold mL_death at h
  refine MH_of (by decide) (Nat.le_of_ble_eq_true rfl) rfl (fun p e s m args below meth c ad0 C hr ht => ?_)
  refine G_aload C 4 rfl dL_death_0 ?_
  refine G_iconst C (v := 0) rfl dL_death_2 ?_
  refine G_aload_n C 0 rfl rfl dL_death_3 ?_
  refine G_iload_n C 1 rfl rfl dL_death_4 ?_
  refine G_iload_n C 2 rfl rfl dL_death_5 ?_
  refine G_iload_n C 3 rfl rfl dL_death_6 ?_
  rcases wr_elim h with ⟨x, hv, hk, rfl⟩ | ⟨v, σ1, hv, rfl, rfl⟩
  · obtain ⟨rfl, rfl⟩ := hN_out hk
    exact G_catI (hh := [(0, 12, 15, 13)]) (x := 0) (z := 1) (n := 5) (q2 := 17) C ht (Nat.le_of_ble_eq_true rfl) (Nat.le_of_ble_eq_true rfl) (run_Vx C [.int p0, .int p1, .int p2] [.int 0, .ref 146] (dX11_death hlx hv) ml_X11_death mv_X11_death lk_L_36 ⟨(Nat.le_of_ble_eq_true rfl), (Nat.le_of_ble_eq_true rfl)⟩ ⟨(Nat.le_of_ble_eq_true rfl), (Nat.le_of_ble_eq_true rfl)⟩ vq_10 rfl ko_32 rfl (Nat.le_of_ble_eq_true rfl) dL_death_7) [] ⟨0, 12, 15, 13⟩ [] rfl (fun z hz => absurd hz List.not_mem_nil) (by decide) (by decide) nl_L_13 (by decide) hr (Nat.le_of_ble_eq_true rfl) (Or.inl ⟨dL_death_15, rfl⟩) dL_death_17 rfl dL_death_18
  · refine G_callIx (run_Vx C [.int p0, .int p1, .int p2] [.int 0, .ref 146] (dX11_death hlx hv) ml_X11_death mv_X11_death lk_L_36 ⟨(Nat.le_of_ble_eq_true rfl), (Nat.le_of_ble_eq_true rfl)⟩ ⟨(Nat.le_of_ble_eq_true rfl), (Nat.le_of_ble_eq_true rfl)⟩ vq_10 rfl ko_32 rfl (Nat.le_of_ble_eq_true rfl) dL_death_7) ?_
    refine G_i2l C dL_death_10 ?_
    refine G_lastore C ks_146 ⟨by decide, by decide⟩ dL_death_11 ?_
    refine G_goto (tgt := 19) C rfl dL_death_12 ?_
    refine G_iconst C (v := 0) rfl dL_death_19 ?_
    exact G_iret C hr (Nat.le_of_ble_eq_true rfl) (Nat.le_of_ble_eq_true rfl) dL_death_20
set_option maxHeartbeats 4000000 in
theorem dL_heir (hlx : l.stackTraces = false) {σ : Sto} {p0 : Int32} {p1 : Int32} {p2 : Int32} {p3 : Int32} {r1 : Int32} {r2 : Sto} (h : mL_heir p0 p1 p2 p3 σ = some (r1, r2)) : MH l yL_heir cL_heir 7 (some .int) [(0, 14, 17, 13)] 8 3 25 E true σ [.ref 32, .int p0, .int p1, .int p2, .int p3, .ref 146] (QI E true σ r1 r2) := by
  unfold mL_heir at h
  refine MH_of (by decide) (Nat.le_of_ble_eq_true rfl) rfl (fun p e s m args below meth c ad0 C hr ht => ?_)
  refine G_aload C 5 rfl dL_heir_0 ?_
  refine G_iconst C (v := 0) rfl dL_heir_2 ?_
  refine G_aload_n C 0 rfl rfl dL_heir_3 ?_
  refine G_iload_n C 1 rfl rfl dL_heir_4 ?_
  refine G_iload_n C 2 rfl rfl dL_heir_5 ?_
  refine G_iload_n C 3 rfl rfl dL_heir_6 ?_
  refine G_iload C 4 rfl dL_heir_7 ?_
  rcases wr_elim h with ⟨x, hv, hk, rfl⟩ | ⟨v, σ1, hv, rfl, rfl⟩
  · obtain ⟨rfl, rfl⟩ := hN_out hk
    exact G_catI (hh := [(0, 14, 17, 13)]) (x := 0) (z := 1) (n := 6) (q2 := 19) C ht (Nat.le_of_ble_eq_true rfl) (Nat.le_of_ble_eq_true rfl) (run_Vx C [.int p0, .int p1, .int p2, .int p3] [.int 0, .ref 146] (dX11_heir hlx hv) ml_X11_heir mv_X11_heir lk_L_39 ⟨(Nat.le_of_ble_eq_true rfl), (Nat.le_of_ble_eq_true rfl)⟩ ⟨(Nat.le_of_ble_eq_true rfl), (Nat.le_of_ble_eq_true rfl)⟩ vq_10 rfl ko_32 rfl (Nat.le_of_ble_eq_true rfl) dL_heir_9) [] ⟨0, 14, 17, 13⟩ [] rfl (fun z hz => absurd hz List.not_mem_nil) (by decide) (by decide) nl_L_13 (by decide) hr (Nat.le_of_ble_eq_true rfl) (Or.inl ⟨dL_heir_17, rfl⟩) dL_heir_19 rfl dL_heir_20
  · refine G_callIx (run_Vx C [.int p0, .int p1, .int p2, .int p3] [.int 0, .ref 146] (dX11_heir hlx hv) ml_X11_heir mv_X11_heir lk_L_39 ⟨(Nat.le_of_ble_eq_true rfl), (Nat.le_of_ble_eq_true rfl)⟩ ⟨(Nat.le_of_ble_eq_true rfl), (Nat.le_of_ble_eq_true rfl)⟩ vq_10 rfl ko_32 rfl (Nat.le_of_ble_eq_true rfl) dL_heir_9) ?_
    refine G_i2l C dL_heir_12 ?_
    refine G_lastore C ks_146 ⟨by decide, by decide⟩ dL_heir_13 ?_
    refine G_goto (tgt := 21) C rfl dL_heir_14 ?_
    refine G_iconst C (v := 0) rfl dL_heir_21 ?_
    exact G_iret C hr (Nat.le_of_ble_eq_true rfl) (Nat.le_of_ble_eq_true rfl) dL_heir_22
set_option maxHeartbeats 4000000 in
theorem dL_sale (hlx : l.stackTraces = false) {σ : Sto} {p0 : Int32} {p1 : Int32} {p2 : Int32} {p3 : Int32} {p4 : Int32} {p5 : Int32} {p6 : Int32} {r1 : Int32} {r2 : Sto} (h : mL_sale p0 p1 p2 p3 p4 p5 p6 σ = some (r1, r2)) : MH l yL_sale cL_sale 10 (some .int) [(0, 20, 23, 13)] 8 5 37 E true σ [.ref 32, .int p0, .int p1, .int p2, .int p3, .int p4, .int p5, .int p6, .ref 146] (QI E true σ r1 r2) := by
  unfold mL_sale at h
  refine MH_of (by decide) (Nat.le_of_ble_eq_true rfl) rfl (fun p e s m args below meth c ad0 C hr ht => ?_)
  refine G_aload C 8 rfl dL_sale_0 ?_
  refine G_iconst C (v := 0) rfl dL_sale_2 ?_
  refine G_aload_n C 0 rfl rfl dL_sale_3 ?_
  refine G_iload_n C 1 rfl rfl dL_sale_4 ?_
  refine G_iload_n C 2 rfl rfl dL_sale_5 ?_
  refine G_iload_n C 3 rfl rfl dL_sale_6 ?_
  refine G_iload C 4 rfl dL_sale_7 ?_
  refine G_iload C 5 rfl dL_sale_9 ?_
  refine G_iload C 6 rfl dL_sale_11 ?_
  refine G_iload C 7 rfl dL_sale_13 ?_
  rcases wr_elim h with ⟨x, hv, hk, rfl⟩ | ⟨v, σ1, hv, rfl, rfl⟩
  · obtain ⟨rfl, rfl⟩ := hN_out hk
    exact G_catI (hh := [(0, 20, 23, 13)]) (x := 0) (z := 1) (n := 9) (q2 := 25) C ht (Nat.le_of_ble_eq_true rfl) (Nat.le_of_ble_eq_true rfl) (run_Vx C [.int p0, .int p1, .int p2, .int p3, .int p4, .int p5, .int p6] [.int 0, .ref 146] (dX11_sale hlx hv) ml_X11_sale mv_X11_sale lk_L_43 ⟨(Nat.le_of_ble_eq_true rfl), (Nat.le_of_ble_eq_true rfl)⟩ ⟨(Nat.le_of_ble_eq_true rfl), (Nat.le_of_ble_eq_true rfl)⟩ vq_10 rfl ko_32 rfl (Nat.le_of_ble_eq_true rfl) dL_sale_15) [] ⟨0, 20, 23, 13⟩ [] rfl (fun z hz => absurd hz List.not_mem_nil) (by decide) (by decide) nl_L_13 (by decide) hr (Nat.le_of_ble_eq_true rfl) (Or.inl ⟨dL_sale_23, rfl⟩) dL_sale_25 rfl dL_sale_26
  · refine G_callIx (run_Vx C [.int p0, .int p1, .int p2, .int p3, .int p4, .int p5, .int p6] [.int 0, .ref 146] (dX11_sale hlx hv) ml_X11_sale mv_X11_sale lk_L_43 ⟨(Nat.le_of_ble_eq_true rfl), (Nat.le_of_ble_eq_true rfl)⟩ ⟨(Nat.le_of_ble_eq_true rfl), (Nat.le_of_ble_eq_true rfl)⟩ vq_10 rfl ko_32 rfl (Nat.le_of_ble_eq_true rfl) dL_sale_15) ?_
    refine G_i2l C dL_sale_18 ?_
    refine G_lastore C ks_146 ⟨by decide, by decide⟩ dL_sale_19 ?_
    refine G_goto (tgt := 27) C rfl dL_sale_20 ?_
    refine G_iconst C (v := 0) rfl dL_sale_27 ?_
    exact G_iret C hr (Nat.le_of_ble_eq_true rfl) (Nat.le_of_ble_eq_true rfl) dL_sale_28
set_option maxHeartbeats 4000000 in
theorem dL_fact (hlx : l.stackTraces = false) {σ : Sto} {p0 : Int32} {p1 : Int32} {p2 : Int32} {p3 : Int32} {p4 : Int32} {r1 : Int32} {r2 : Sto} (h : mL_fact p0 p1 p2 p3 p4 σ = some (r1, r2)) : MH l yL_fact cL_fact 8 (some .int) [(0, 16, 19, 13)] 8 4 31 E true σ [.ref 32, .int p0, .int p1, .int p2, .int p3, .int p4, .ref 146] (QI E true σ r1 r2) := by
  unfold mL_fact at h
  refine MH_of (by decide) (Nat.le_of_ble_eq_true rfl) rfl (fun p e s m args below meth c ad0 C hr ht => ?_)
  refine G_aload C 6 rfl dL_fact_0 ?_
  refine G_iconst C (v := 0) rfl dL_fact_2 ?_
  refine G_aload_n C 0 rfl rfl dL_fact_3 ?_
  refine G_iload_n C 1 rfl rfl dL_fact_4 ?_
  refine G_iload_n C 2 rfl rfl dL_fact_5 ?_
  refine G_iload_n C 3 rfl rfl dL_fact_6 ?_
  refine G_iload C 4 rfl dL_fact_7 ?_
  refine G_iload C 5 rfl dL_fact_9 ?_
  rcases wr_elim h with ⟨x, hv, hk, rfl⟩ | ⟨v, σ1, hv, rfl, rfl⟩
  · obtain ⟨rfl, rfl⟩ := hN_out hk
    exact G_catI (hh := [(0, 16, 19, 13)]) (x := 0) (z := 1) (n := 7) (q2 := 21) C ht (Nat.le_of_ble_eq_true rfl) (Nat.le_of_ble_eq_true rfl) (run_Vx C [.int p0, .int p1, .int p2, .int p3, .int p4] [.int 0, .ref 146] (dX11_fact hlx hv) ml_X11_fact mv_X11_fact lk_L_47 ⟨(Nat.le_of_ble_eq_true rfl), (Nat.le_of_ble_eq_true rfl)⟩ ⟨(Nat.le_of_ble_eq_true rfl), (Nat.le_of_ble_eq_true rfl)⟩ vq_10 rfl ko_32 rfl (Nat.le_of_ble_eq_true rfl) dL_fact_11) [] ⟨0, 16, 19, 13⟩ [] rfl (fun z hz => absurd hz List.not_mem_nil) (by decide) (by decide) nl_L_13 (by decide) hr (Nat.le_of_ble_eq_true rfl) (Or.inl ⟨dL_fact_19, rfl⟩) dL_fact_21 rfl dL_fact_22
  · refine G_callIx (run_Vx C [.int p0, .int p1, .int p2, .int p3, .int p4] [.int 0, .ref 146] (dX11_fact hlx hv) ml_X11_fact mv_X11_fact lk_L_47 ⟨(Nat.le_of_ble_eq_true rfl), (Nat.le_of_ble_eq_true rfl)⟩ ⟨(Nat.le_of_ble_eq_true rfl), (Nat.le_of_ble_eq_true rfl)⟩ vq_10 rfl ko_32 rfl (Nat.le_of_ble_eq_true rfl) dL_fact_11) ?_
    refine G_i2l C dL_fact_14 ?_
    refine G_lastore C ks_146 ⟨by decide, by decide⟩ dL_fact_15 ?_
    refine G_goto (tgt := 23) C rfl dL_fact_16 ?_
    refine G_iconst C (v := 0) rfl dL_fact_23 ?_
    exact G_iret C hr (Nat.le_of_ble_eq_true rfl) (Nat.le_of_ble_eq_true rfl) dL_fact_24
set_option maxHeartbeats 4000000 in
theorem dL_back (hlx : l.stackTraces = false) {σ : Sto} {p0 : Int32} {p1 : Int32} {r1 : Int32} {r2 : Sto} (h : mL_back p0 p1 σ = some (r1, r2)) : MH l yL_back cL_back 5 (some .int) [(0, 17, 20, 13)] 7 1 6 E true σ [.ref 32, .int p0, .int p1, .ref 146] (QI E true σ r1 r2) := by
  unfold mL_back at h
  refine MH_of (by decide) (Nat.le_of_ble_eq_true rfl) rfl (fun p e s m args below meth c ad0 C hr ht => ?_)
  refine G_aload_n C 3 rfl rfl dL_back_0 ?_
  refine G_iconst C (v := 0) rfl dL_back_1 ?_
  refine G_aload_n C 0 rfl rfl dL_back_2 ?_
  refine G_iload_n C 1 rfl rfl dL_back_3 ?_
  refine G_iload_n C 2 rfl rfl dL_back_4 ?_
  rcases wr_elim h with ⟨x, hv, hk, rfl⟩ | ⟨v, σ1, hv, rfl, rfl⟩
  · obtain ⟨rfl, rfl⟩ := hN_out hk
    exact G_catI (hh := [(0, 17, 20, 13)]) (x := 0) (z := 1) (n := 4) (q2 := 22) C ht (Nat.le_of_ble_eq_true rfl) (Nat.le_of_ble_eq_true rfl) (run_Vx C [.int p0, .int p1] [.int 0, .ref 146] (dX11_back hlx hv) ml_X11_back mv_X11_back lk_L_51 ⟨(Nat.le_of_ble_eq_true rfl), (Nat.le_of_ble_eq_true rfl)⟩ ⟨(Nat.le_of_ble_eq_true rfl), (Nat.le_of_ble_eq_true rfl)⟩ vq_10 rfl ko_32 rfl (Nat.le_of_ble_eq_true rfl) dL_back_5) [] ⟨0, 17, 20, 13⟩ [] rfl (fun z hz => absurd hz List.not_mem_nil) (by decide) (by decide) nl_L_13 (by decide) hr (Nat.le_of_ble_eq_true rfl) (Or.inl ⟨dL_back_20, rfl⟩) dL_back_22 rfl dL_back_23
  · refine G_callIx (run_Vx C [.int p0, .int p1] [.int 0, .ref 146] (dX11_back hlx hv) ml_X11_back mv_X11_back lk_L_51 ⟨(Nat.le_of_ble_eq_true rfl), (Nat.le_of_ble_eq_true rfl)⟩ ⟨(Nat.le_of_ble_eq_true rfl), (Nat.le_of_ble_eq_true rfl)⟩ vq_10 rfl ko_32 rfl (Nat.le_of_ble_eq_true rfl) dL_back_5) ?_
    refine G_if_eq (tgt := 15) C rfl dL_back_8 (fun hz => ?_) (fun hz => ?_)
    · rw [show bZ v = 0 from if_pos hz]
      refine G_lconst C (v := 0) rfl dL_back_15 ?_
      refine G_lastore C ks_146 ⟨by decide, by decide⟩ dL_back_16 ?_
      refine G_goto (tgt := 24) C rfl dL_back_17 ?_
      refine G_iconst C (v := 0) rfl dL_back_24 ?_
      exact G_iret C hr (Nat.le_of_ble_eq_true rfl) (Nat.le_of_ble_eq_true rfl) dL_back_25
    · rw [show bZ v = 1 from if_neg hz]
      refine G_lconst C (v := 1) rfl dL_back_11 ?_
      refine G_goto (tgt := 16) C rfl dL_back_12 ?_
      refine G_lastore C ks_146 ⟨by decide, by decide⟩ dL_back_16 ?_
      refine G_goto (tgt := 24) C rfl dL_back_17 ?_
      refine G_iconst C (v := 0) rfl dL_back_24 ?_
      exact G_iret C hr (Nat.le_of_ble_eq_true rfl) (Nat.le_of_ble_eq_true rfl) dL_back_25
set_option maxHeartbeats 4000000 in
theorem dL_claim (hlx : l.stackTraces = false) {σ : Sto} {p0 : Int32} {p1 : Int32} {r1 : Int32} {r2 : Sto} (h : mL_claim p0 p1 σ = some (r1, r2)) : MH l yL_claim cL_claim 5 (some .int) [(0, 17, 20, 13)] 8 3 25 E true σ [.ref 32, .int p0, .int p1, .ref 146] (QI E true σ r1 r2) := by
  unfold mL_claim at h
  refine MH_of (by decide) (Nat.le_of_ble_eq_true rfl) rfl (fun p e s m args below meth c ad0 C hr ht => ?_)
  refine G_aload_n C 3 rfl rfl dL_claim_0 ?_
  refine G_iconst C (v := 0) rfl dL_claim_1 ?_
  refine G_aload_n C 0 rfl rfl dL_claim_2 ?_
  refine G_iload_n C 1 rfl rfl dL_claim_3 ?_
  refine G_iload_n C 2 rfl rfl dL_claim_4 ?_
  rcases wr_elim h with ⟨x, hv, hk, rfl⟩ | ⟨v, σ1, hv, rfl, rfl⟩
  · obtain ⟨rfl, rfl⟩ := hN_out hk
    exact G_catI (hh := [(0, 17, 20, 13)]) (x := 0) (z := 1) (n := 4) (q2 := 22) C ht (Nat.le_of_ble_eq_true rfl) (Nat.le_of_ble_eq_true rfl) (run_Vx C [.int p0, .int p1] [.int 0, .ref 146] (dX11_claim hlx hv) ml_X11_claim mv_X11_claim lk_L_55 ⟨(Nat.le_of_ble_eq_true rfl), (Nat.le_of_ble_eq_true rfl)⟩ ⟨(Nat.le_of_ble_eq_true rfl), (Nat.le_of_ble_eq_true rfl)⟩ vq_10 rfl ko_32 rfl (Nat.le_of_ble_eq_true rfl) dL_claim_5) [] ⟨0, 17, 20, 13⟩ [] rfl (fun z hz => absurd hz List.not_mem_nil) (by decide) (by decide) nl_L_13 (by decide) hr (Nat.le_of_ble_eq_true rfl) (Or.inl ⟨dL_claim_20, rfl⟩) dL_claim_22 rfl dL_claim_23
  · refine G_callIx (run_Vx C [.int p0, .int p1] [.int 0, .ref 146] (dX11_claim hlx hv) ml_X11_claim mv_X11_claim lk_L_55 ⟨(Nat.le_of_ble_eq_true rfl), (Nat.le_of_ble_eq_true rfl)⟩ ⟨(Nat.le_of_ble_eq_true rfl), (Nat.le_of_ble_eq_true rfl)⟩ vq_10 rfl ko_32 rfl (Nat.le_of_ble_eq_true rfl) dL_claim_5) ?_
    refine G_if_eq (tgt := 15) C rfl dL_claim_8 (fun hz => ?_) (fun hz => ?_)
    · rw [show bZ v = 0 from if_pos hz]
      refine G_lconst C (v := 0) rfl dL_claim_15 ?_
      refine G_lastore C ks_146 ⟨by decide, by decide⟩ dL_claim_16 ?_
      refine G_goto (tgt := 24) C rfl dL_claim_17 ?_
      refine G_iconst C (v := 0) rfl dL_claim_24 ?_
      exact G_iret C hr (Nat.le_of_ble_eq_true rfl) (Nat.le_of_ble_eq_true rfl) dL_claim_25
    · rw [show bZ v = 1 from if_neg hz]
      refine G_lconst C (v := 1) rfl dL_claim_11 ?_
      refine G_goto (tgt := 16) C rfl dL_claim_12 ?_
      refine G_lastore C ks_146 ⟨by decide, by decide⟩ dL_claim_16 ?_
      refine G_goto (tgt := 24) C rfl dL_claim_17 ?_
      refine G_iconst C (v := 0) rfl dL_claim_24 ?_
      exact G_iret C hr (Nat.le_of_ble_eq_true rfl) (Nat.le_of_ble_eq_true rfl) dL_claim_25
set_option maxHeartbeats 4000000 in
theorem dL_law (hlx : l.stackTraces = false) {σ : Sto} {p0 : Int32} {p1 : Int32} {p2 : Int32} {r1 : Int32} {r2 : Sto} (h : mL_law p0 p1 p2 σ = some (r1, r2)) : MH l yL_law cL_law 6 (some .int) [(0, 12, 15, 13), (0, 12, 19, 34)] 69 7 624 E true σ [.ref 32, .int p0, .int p1, .int p2, .ref 146] (QI E true σ r1 r2) := by
  unfold mL_law at h
  refine MH_of (by decide) (Nat.le_of_ble_eq_true rfl) rfl (fun p e s m args below meth c ad0 C hr ht => ?_)
  refine G_aload C 4 rfl dL_law_0 ?_
  refine G_iconst C (v := 0) rfl dL_law_2 ?_
  refine G_aload_n C 0 rfl rfl dL_law_3 ?_
  refine G_iload_n C 1 rfl rfl dL_law_4 ?_
  refine G_iload_n C 2 rfl rfl dL_law_5 ?_
  refine G_iload_n C 3 rfl rfl dL_law_6 ?_
  rcases wr_elim h with ⟨x, hv, hk, rfl⟩ | ⟨v, σ1, hv, rfl, rfl⟩
  · rcases hB_out hk with ⟨rfl, rfl⟩ | ⟨rfl, rfl⟩
    · exact G_catI (hh := [(0, 12, 15, 13), (0, 12, 19, 34)]) (x := 0) (z := 1) (n := 5) (q2 := 17) C ht (Nat.le_of_ble_eq_true rfl) (Nat.le_of_ble_eq_true rfl) (run_Vx C [.int p0, .int p1, .int p2] [.int 0, .ref 146] (dX11_law hlx hv) ml_X11_law mv_X11_law lk_L_59 ⟨(Nat.le_of_ble_eq_true rfl), (Nat.le_of_ble_eq_true rfl)⟩ ⟨(Nat.le_of_ble_eq_true rfl), (Nat.le_of_ble_eq_true rfl)⟩ vq_10 rfl ko_32 rfl (Nat.le_of_ble_eq_true rfl) dL_law_7) [] ⟨0, 12, 15, 13⟩ [⟨0, 12, 19, 34⟩] rfl (fun z hz => absurd hz List.not_mem_nil) (by decide) (by decide) nl_L_13 (by decide) hr (Nat.le_of_ble_eq_true rfl) (Or.inl ⟨dL_law_15, rfl⟩) dL_law_17 rfl dL_law_18
    · exact G_catI (hh := [(0, 12, 15, 13), (0, 12, 19, 34)]) (x := 1) (z := 2) (n := 5) (q2 := 21) C ht (Nat.le_of_ble_eq_true rfl) (Nat.le_of_ble_eq_true rfl) (run_Vx C [.int p0, .int p1, .int p2] [.int 0, .ref 146] (dX11_law hlx hv) ml_X11_law mv_X11_law lk_L_59 ⟨(Nat.le_of_ble_eq_true rfl), (Nat.le_of_ble_eq_true rfl)⟩ ⟨(Nat.le_of_ble_eq_true rfl), (Nat.le_of_ble_eq_true rfl)⟩ vq_10 rfl ko_32 rfl (Nat.le_of_ble_eq_true rfl) dL_law_7) [⟨0, 12, 15, 13⟩] ⟨0, 12, 19, 34⟩ [] rfl (fun z hz => by cases List.mem_singleton.mp hz; exact Or.inr ⟨by decide, xn 0, nl_L_13, C.2.2.2.2.2.2.2.1.2.2.2.1⟩) (by decide) (by decide) nl_L_34 (by decide) hr (Nat.le_of_ble_eq_true rfl) (Or.inl ⟨dL_law_19, rfl⟩) dL_law_21 rfl dL_law_22
  · refine G_callIx (run_Vx C [.int p0, .int p1, .int p2] [.int 0, .ref 146] (dX11_law hlx hv) ml_X11_law mv_X11_law lk_L_59 ⟨(Nat.le_of_ble_eq_true rfl), (Nat.le_of_ble_eq_true rfl)⟩ ⟨(Nat.le_of_ble_eq_true rfl), (Nat.le_of_ble_eq_true rfl)⟩ vq_10 rfl ko_32 rfl (Nat.le_of_ble_eq_true rfl) dL_law_7) ?_
    refine G_i2l C dL_law_10 ?_
    refine G_lastore C ks_146 ⟨by decide, by decide⟩ dL_law_11 ?_
    refine G_goto (tgt := 23) C rfl dL_law_12 ?_
    refine G_iconst C (v := 0) rfl dL_law_23 ?_
    exact G_iret C hr (Nat.le_of_ble_eq_true rfl) (Nat.le_of_ble_eq_true rfl) dL_law_24
set_option maxHeartbeats 4000000 in
theorem dL_sold (hlx : l.stackTraces = false) {σ : Sto} {p0 : Int32} {p1 : Int32} {p2 : Int32} {r1 : Int32} {r2 : Sto} (h : mL_sold p0 p1 p2 σ = some (r1, r2)) : MH l yL_sold cL_sold 6 (some .int) [(0, 12, 15, 13), (0, 12, 19, 34)] 8 3 18 E true σ [.ref 32, .int p0, .int p1, .int p2, .ref 146] (QI E true σ r1 r2) := by
  unfold mL_sold at h
  refine MH_of (by decide) (Nat.le_of_ble_eq_true rfl) rfl (fun p e s m args below meth c ad0 C hr ht => ?_)
  refine G_aload C 4 rfl dL_sold_0 ?_
  refine G_iconst C (v := 0) rfl dL_sold_2 ?_
  refine G_aload_n C 0 rfl rfl dL_sold_3 ?_
  refine G_iload_n C 1 rfl rfl dL_sold_4 ?_
  refine G_iload_n C 2 rfl rfl dL_sold_5 ?_
  refine G_iload_n C 3 rfl rfl dL_sold_6 ?_
  rcases wr_elim h with ⟨x, hv, hk, rfl⟩ | ⟨v, σ1, hv, rfl, rfl⟩
  · rcases hB_out hk with ⟨rfl, rfl⟩ | ⟨rfl, rfl⟩
    · exact G_catI (hh := [(0, 12, 15, 13), (0, 12, 19, 34)]) (x := 0) (z := 1) (n := 5) (q2 := 17) C ht (Nat.le_of_ble_eq_true rfl) (Nat.le_of_ble_eq_true rfl) (run_Vx C [.int p0, .int p1, .int p2] [.int 0, .ref 146] (dX11_sold hlx hv) ml_X11_sold mv_X11_sold lk_L_62 ⟨(Nat.le_of_ble_eq_true rfl), (Nat.le_of_ble_eq_true rfl)⟩ ⟨(Nat.le_of_ble_eq_true rfl), (Nat.le_of_ble_eq_true rfl)⟩ vq_10 rfl ko_32 rfl (Nat.le_of_ble_eq_true rfl) dL_sold_7) [] ⟨0, 12, 15, 13⟩ [⟨0, 12, 19, 34⟩] rfl (fun z hz => absurd hz List.not_mem_nil) (by decide) (by decide) nl_L_13 (by decide) hr (Nat.le_of_ble_eq_true rfl) (Or.inl ⟨dL_sold_15, rfl⟩) dL_sold_17 rfl dL_sold_18
    · exact G_catI (hh := [(0, 12, 15, 13), (0, 12, 19, 34)]) (x := 1) (z := 2) (n := 5) (q2 := 21) C ht (Nat.le_of_ble_eq_true rfl) (Nat.le_of_ble_eq_true rfl) (run_Vx C [.int p0, .int p1, .int p2] [.int 0, .ref 146] (dX11_sold hlx hv) ml_X11_sold mv_X11_sold lk_L_62 ⟨(Nat.le_of_ble_eq_true rfl), (Nat.le_of_ble_eq_true rfl)⟩ ⟨(Nat.le_of_ble_eq_true rfl), (Nat.le_of_ble_eq_true rfl)⟩ vq_10 rfl ko_32 rfl (Nat.le_of_ble_eq_true rfl) dL_sold_7) [⟨0, 12, 15, 13⟩] ⟨0, 12, 19, 34⟩ [] rfl (fun z hz => by cases List.mem_singleton.mp hz; exact Or.inr ⟨by decide, xn 0, nl_L_13, C.2.2.2.2.2.2.2.1.2.2.2.1⟩) (by decide) (by decide) nl_L_34 (by decide) hr (Nat.le_of_ble_eq_true rfl) (Or.inl ⟨dL_sold_19, rfl⟩) dL_sold_21 rfl dL_sold_22
  · refine G_callIx (run_Vx C [.int p0, .int p1, .int p2] [.int 0, .ref 146] (dX11_sold hlx hv) ml_X11_sold mv_X11_sold lk_L_62 ⟨(Nat.le_of_ble_eq_true rfl), (Nat.le_of_ble_eq_true rfl)⟩ ⟨(Nat.le_of_ble_eq_true rfl), (Nat.le_of_ble_eq_true rfl)⟩ vq_10 rfl ko_32 rfl (Nat.le_of_ble_eq_true rfl) dL_sold_7) ?_
    refine G_i2l C dL_sold_10 ?_
    refine G_lastore C ks_146 ⟨by decide, by decide⟩ dL_sold_11 ?_
    refine G_goto (tgt := 23) C rfl dL_sold_12 ?_
    refine G_iconst C (v := 0) rfl dL_sold_23 ?_
    exact G_iret C hr (Nat.le_of_ble_eq_true rfl) (Nat.le_of_ble_eq_true rfl) dL_sold_24
set_option maxHeartbeats 4000000 in
theorem dL_has (hlx : l.stackTraces = false) {σ : Sto} {p0 : Int32} {p1 : Int32} {p2 : Int32} {p3 : Int32} {r1 : Int32} {r2 : Sto} (h : mL_has p0 p1 p2 p3 σ = some (r1, r2)) : MH l yL_has cL_has 7 (some .int) [(0, 14, 17, 13), (0, 14, 21, 34)] 8 4 24 E true σ [.ref 32, .int p0, .int p1, .int p2, .int p3, .ref 146] (QI E true σ r1 r2) := by
  unfold mL_has at h
  refine MH_of (by decide) (Nat.le_of_ble_eq_true rfl) rfl (fun p e s m args below meth c ad0 C hr ht => ?_)
  refine G_aload C 5 rfl dL_has_0 ?_
  refine G_iconst C (v := 0) rfl dL_has_2 ?_
  refine G_aload_n C 0 rfl rfl dL_has_3 ?_
  refine G_iload_n C 1 rfl rfl dL_has_4 ?_
  refine G_iload_n C 2 rfl rfl dL_has_5 ?_
  refine G_iload_n C 3 rfl rfl dL_has_6 ?_
  refine G_iload C 4 rfl dL_has_7 ?_
  rcases wr_elim h with ⟨x, hv, hk, rfl⟩ | ⟨v, σ1, hv, rfl, rfl⟩
  · rcases hB_out hk with ⟨rfl, rfl⟩ | ⟨rfl, rfl⟩
    · exact G_catI (hh := [(0, 14, 17, 13), (0, 14, 21, 34)]) (x := 0) (z := 1) (n := 6) (q2 := 19) C ht (Nat.le_of_ble_eq_true rfl) (Nat.le_of_ble_eq_true rfl) (run_Vx C [.int p0, .int p1, .int p2, .int p3] [.int 0, .ref 146] (dX11_has hlx hv) ml_X11_has mv_X11_has lk_L_65 ⟨(Nat.le_of_ble_eq_true rfl), (Nat.le_of_ble_eq_true rfl)⟩ ⟨(Nat.le_of_ble_eq_true rfl), (Nat.le_of_ble_eq_true rfl)⟩ vq_10 rfl ko_32 rfl (Nat.le_of_ble_eq_true rfl) dL_has_9) [] ⟨0, 14, 17, 13⟩ [⟨0, 14, 21, 34⟩] rfl (fun z hz => absurd hz List.not_mem_nil) (by decide) (by decide) nl_L_13 (by decide) hr (Nat.le_of_ble_eq_true rfl) (Or.inl ⟨dL_has_17, rfl⟩) dL_has_19 rfl dL_has_20
    · exact G_catI (hh := [(0, 14, 17, 13), (0, 14, 21, 34)]) (x := 1) (z := 2) (n := 6) (q2 := 23) C ht (Nat.le_of_ble_eq_true rfl) (Nat.le_of_ble_eq_true rfl) (run_Vx C [.int p0, .int p1, .int p2, .int p3] [.int 0, .ref 146] (dX11_has hlx hv) ml_X11_has mv_X11_has lk_L_65 ⟨(Nat.le_of_ble_eq_true rfl), (Nat.le_of_ble_eq_true rfl)⟩ ⟨(Nat.le_of_ble_eq_true rfl), (Nat.le_of_ble_eq_true rfl)⟩ vq_10 rfl ko_32 rfl (Nat.le_of_ble_eq_true rfl) dL_has_9) [⟨0, 14, 17, 13⟩] ⟨0, 14, 21, 34⟩ [] rfl (fun z hz => by cases List.mem_singleton.mp hz; exact Or.inr ⟨by decide, xn 0, nl_L_13, C.2.2.2.2.2.2.2.1.2.2.2.1⟩) (by decide) (by decide) nl_L_34 (by decide) hr (Nat.le_of_ble_eq_true rfl) (Or.inl ⟨dL_has_21, rfl⟩) dL_has_23 rfl dL_has_24
  · refine G_callIx (run_Vx C [.int p0, .int p1, .int p2, .int p3] [.int 0, .ref 146] (dX11_has hlx hv) ml_X11_has mv_X11_has lk_L_65 ⟨(Nat.le_of_ble_eq_true rfl), (Nat.le_of_ble_eq_true rfl)⟩ ⟨(Nat.le_of_ble_eq_true rfl), (Nat.le_of_ble_eq_true rfl)⟩ vq_10 rfl ko_32 rfl (Nat.le_of_ble_eq_true rfl) dL_has_9) ?_
    refine G_i2l C dL_has_12 ?_
    refine G_lastore C ks_146 ⟨by decide, by decide⟩ dL_has_13 ?_
    refine G_goto (tgt := 25) C rfl dL_has_14 ?_
    refine G_iconst C (v := 0) rfl dL_has_25 ?_
    exact G_iret C hr (Nat.le_of_ble_eq_true rfl) (Nat.le_of_ble_eq_true rfl) dL_has_26
set_option maxHeartbeats 4000000 in
theorem dL_gets (hlx : l.stackTraces = false) {σ : Sto} {p0 : Int32} {p1 : Int32} {p2 : Int32} {r1 : Int32} {r2 : Sto} (h : mL_gets p0 p1 p2 σ = some (r1, r2)) : MH l yL_gets cL_gets 6 (some .int) [(0, 11, 14, 13), (0, 11, 18, 34)] 8 3 18 E true σ [.ref 32, .int p0, .int p1, .int p2, .ref 146] (QI E true σ r1 r2) := by
  unfold mL_gets at h
  refine MH_of (by decide) (Nat.le_of_ble_eq_true rfl) rfl (fun p e s m args below meth c ad0 C hr ht => ?_)
  refine G_aload C 4 rfl dL_gets_0 ?_
  refine G_iconst C (v := 0) rfl dL_gets_2 ?_
  refine G_aload_n C 0 rfl rfl dL_gets_3 ?_
  refine G_iload_n C 1 rfl rfl dL_gets_4 ?_
  refine G_iload_n C 2 rfl rfl dL_gets_5 ?_
  refine G_iload_n C 3 rfl rfl dL_gets_6 ?_
  rcases wr_elim h with ⟨x, hv, hk, rfl⟩ | ⟨v, σ1, hv, rfl, rfl⟩
  · rcases hB_out hk with ⟨rfl, rfl⟩ | ⟨rfl, rfl⟩
    · exact G_catL (hh := [(0, 11, 14, 13), (0, 11, 18, 34)]) (x := 0) (z := 1) (n := 5) (q2 := 16) C ht (Nat.le_of_ble_eq_true rfl) (Nat.le_of_ble_eq_true rfl) (run_Vx C [.int p0, .int p1, .int p2] [.int 0, .ref 146] (dX11_gets hlx hv) ml_X11_gets mv_X11_gets lk_L_68 ⟨(Nat.le_of_ble_eq_true rfl), (Nat.le_of_ble_eq_true rfl)⟩ ⟨(Nat.le_of_ble_eq_true rfl), (Nat.le_of_ble_eq_true rfl)⟩ vq_10 rfl ko_32 rfl (Nat.le_of_ble_eq_true rfl) dL_gets_7) [] ⟨0, 11, 14, 13⟩ [⟨0, 11, 18, 34⟩] rfl (fun z hz => absurd hz List.not_mem_nil) (by decide) (by decide) nl_L_13 (by decide) hr (Nat.le_of_ble_eq_true rfl) (Or.inl ⟨dL_gets_14, rfl⟩) dL_gets_16 rfl dL_gets_17
    · exact G_catL (hh := [(0, 11, 14, 13), (0, 11, 18, 34)]) (x := 1) (z := 2) (n := 5) (q2 := 20) C ht (Nat.le_of_ble_eq_true rfl) (Nat.le_of_ble_eq_true rfl) (run_Vx C [.int p0, .int p1, .int p2] [.int 0, .ref 146] (dX11_gets hlx hv) ml_X11_gets mv_X11_gets lk_L_68 ⟨(Nat.le_of_ble_eq_true rfl), (Nat.le_of_ble_eq_true rfl)⟩ ⟨(Nat.le_of_ble_eq_true rfl), (Nat.le_of_ble_eq_true rfl)⟩ vq_10 rfl ko_32 rfl (Nat.le_of_ble_eq_true rfl) dL_gets_7) [⟨0, 11, 14, 13⟩] ⟨0, 11, 18, 34⟩ [] rfl (fun z hz => by cases List.mem_singleton.mp hz; exact Or.inr ⟨by decide, xn 0, nl_L_13, C.2.2.2.2.2.2.2.1.2.2.2.1⟩) (by decide) (by decide) nl_L_34 (by decide) hr (Nat.le_of_ble_eq_true rfl) (Or.inl ⟨dL_gets_18, rfl⟩) dL_gets_20 rfl dL_gets_21
  · refine G_callLx (run_Vx C [.int p0, .int p1, .int p2] [.int 0, .ref 146] (dX11_gets hlx hv) ml_X11_gets mv_X11_gets lk_L_68 ⟨(Nat.le_of_ble_eq_true rfl), (Nat.le_of_ble_eq_true rfl)⟩ ⟨(Nat.le_of_ble_eq_true rfl), (Nat.le_of_ble_eq_true rfl)⟩ vq_10 rfl ko_32 rfl (Nat.le_of_ble_eq_true rfl) dL_gets_7) ?_
    refine G_lastore C ks_146 ⟨by decide, by decide⟩ dL_gets_10 ?_
    refine G_goto (tgt := 22) C rfl dL_gets_11 ?_
    refine G_iconst C (v := 0) rfl dL_gets_22 ?_
    exact G_iret C hr (Nat.le_of_ble_eq_true rfl) (Nat.le_of_ble_eq_true rfl) dL_gets_23
set_option maxHeartbeats 4000000 in
theorem dL_owes (hlx : l.stackTraces = false) {σ : Sto} {p0 : Int32} {p1 : Int32} {p2 : Int32} {p3 : Int32} {r1 : Int32} {r2 : Sto} (h : mL_owes p0 p1 p2 p3 σ = some (r1, r2)) : MH l yL_owes cL_owes 7 (some .int) [(0, 13, 16, 13), (0, 13, 20, 34)] 9 4 24 E true σ [.ref 32, .int p0, .int p1, .int p2, .int p3, .ref 146] (QI E true σ r1 r2) := by
  unfold mL_owes at h
  refine MH_of (by decide) (Nat.le_of_ble_eq_true rfl) rfl (fun p e s m args below meth c ad0 C hr ht => ?_)
  refine G_aload C 5 rfl dL_owes_0 ?_
  refine G_iconst C (v := 0) rfl dL_owes_2 ?_
  refine G_aload_n C 0 rfl rfl dL_owes_3 ?_
  refine G_iload_n C 1 rfl rfl dL_owes_4 ?_
  refine G_iload_n C 2 rfl rfl dL_owes_5 ?_
  refine G_iload_n C 3 rfl rfl dL_owes_6 ?_
  refine G_iload C 4 rfl dL_owes_7 ?_
  rcases wr_elim h with ⟨x, hv, hk, rfl⟩ | ⟨v, σ1, hv, rfl, rfl⟩
  · rcases hB_out hk with ⟨rfl, rfl⟩ | ⟨rfl, rfl⟩
    · exact G_catL (hh := [(0, 13, 16, 13), (0, 13, 20, 34)]) (x := 0) (z := 1) (n := 6) (q2 := 18) C ht (Nat.le_of_ble_eq_true rfl) (Nat.le_of_ble_eq_true rfl) (run_Vx C [.int p0, .int p1, .int p2, .int p3] [.int 0, .ref 146] (dX11_owes hlx hv) ml_X11_owes mv_X11_owes lk_L_72 ⟨(Nat.le_of_ble_eq_true rfl), (Nat.le_of_ble_eq_true rfl)⟩ ⟨(Nat.le_of_ble_eq_true rfl), (Nat.le_of_ble_eq_true rfl)⟩ vq_10 rfl ko_32 rfl (Nat.le_of_ble_eq_true rfl) dL_owes_9) [] ⟨0, 13, 16, 13⟩ [⟨0, 13, 20, 34⟩] rfl (fun z hz => absurd hz List.not_mem_nil) (by decide) (by decide) nl_L_13 (by decide) hr (Nat.le_of_ble_eq_true rfl) (Or.inl ⟨dL_owes_16, rfl⟩) dL_owes_18 rfl dL_owes_19
    · exact G_catL (hh := [(0, 13, 16, 13), (0, 13, 20, 34)]) (x := 1) (z := 2) (n := 6) (q2 := 22) C ht (Nat.le_of_ble_eq_true rfl) (Nat.le_of_ble_eq_true rfl) (run_Vx C [.int p0, .int p1, .int p2, .int p3] [.int 0, .ref 146] (dX11_owes hlx hv) ml_X11_owes mv_X11_owes lk_L_72 ⟨(Nat.le_of_ble_eq_true rfl), (Nat.le_of_ble_eq_true rfl)⟩ ⟨(Nat.le_of_ble_eq_true rfl), (Nat.le_of_ble_eq_true rfl)⟩ vq_10 rfl ko_32 rfl (Nat.le_of_ble_eq_true rfl) dL_owes_9) [⟨0, 13, 16, 13⟩] ⟨0, 13, 20, 34⟩ [] rfl (fun z hz => by cases List.mem_singleton.mp hz; exact Or.inr ⟨by decide, xn 0, nl_L_13, C.2.2.2.2.2.2.2.1.2.2.2.1⟩) (by decide) (by decide) nl_L_34 (by decide) hr (Nat.le_of_ble_eq_true rfl) (Or.inl ⟨dL_owes_20, rfl⟩) dL_owes_22 rfl dL_owes_23
  · refine G_callLx (run_Vx C [.int p0, .int p1, .int p2, .int p3] [.int 0, .ref 146] (dX11_owes hlx hv) ml_X11_owes mv_X11_owes lk_L_72 ⟨(Nat.le_of_ble_eq_true rfl), (Nat.le_of_ble_eq_true rfl)⟩ ⟨(Nat.le_of_ble_eq_true rfl), (Nat.le_of_ble_eq_true rfl)⟩ vq_10 rfl ko_32 rfl (Nat.le_of_ble_eq_true rfl) dL_owes_9) ?_
    refine G_lastore C ks_146 ⟨by decide, by decide⟩ dL_owes_12 ?_
    refine G_goto (tgt := 24) C rfl dL_owes_13 ?_
    refine G_iconst C (v := 0) rfl dL_owes_24 ?_
    exact G_iret C hr (Nat.le_of_ble_eq_true rfl) (Nat.le_of_ble_eq_true rfl) dL_owes_25
set_option maxHeartbeats 4000000 in
theorem dL_net (hlx : l.stackTraces = false) {σ : Sto} {p0 : Int32} {p1 : Int32} {p2 : Int32} {r1 : Int32} {r2 : Sto} (h : mL_net p0 p1 p2 σ = some (r1, r2)) : MH l yL_net cL_net 6 (some .int) [(0, 11, 14, 13), (0, 11, 18, 34)] 9 3 18 E true σ [.ref 32, .int p0, .int p1, .int p2, .ref 146] (QI E true σ r1 r2) := by
  unfold mL_net at h
  refine MH_of (by decide) (Nat.le_of_ble_eq_true rfl) rfl (fun p e s m args below meth c ad0 C hr ht => ?_)
  refine G_aload C 4 rfl dL_net_0 ?_
  refine G_iconst C (v := 0) rfl dL_net_2 ?_
  refine G_aload_n C 0 rfl rfl dL_net_3 ?_
  refine G_iload_n C 1 rfl rfl dL_net_4 ?_
  refine G_iload_n C 2 rfl rfl dL_net_5 ?_
  refine G_iload_n C 3 rfl rfl dL_net_6 ?_
  rcases wr_elim h with ⟨x, hv, hk, rfl⟩ | ⟨v, σ1, hv, rfl, rfl⟩
  · rcases hB_out hk with ⟨rfl, rfl⟩ | ⟨rfl, rfl⟩
    · exact G_catL (hh := [(0, 11, 14, 13), (0, 11, 18, 34)]) (x := 0) (z := 1) (n := 5) (q2 := 16) C ht (Nat.le_of_ble_eq_true rfl) (Nat.le_of_ble_eq_true rfl) (run_Vx C [.int p0, .int p1, .int p2] [.int 0, .ref 146] (dX11_net hlx hv) ml_X11_net mv_X11_net lk_L_76 ⟨(Nat.le_of_ble_eq_true rfl), (Nat.le_of_ble_eq_true rfl)⟩ ⟨(Nat.le_of_ble_eq_true rfl), (Nat.le_of_ble_eq_true rfl)⟩ vq_10 rfl ko_32 rfl (Nat.le_of_ble_eq_true rfl) dL_net_7) [] ⟨0, 11, 14, 13⟩ [⟨0, 11, 18, 34⟩] rfl (fun z hz => absurd hz List.not_mem_nil) (by decide) (by decide) nl_L_13 (by decide) hr (Nat.le_of_ble_eq_true rfl) (Or.inl ⟨dL_net_14, rfl⟩) dL_net_16 rfl dL_net_17
    · exact G_catL (hh := [(0, 11, 14, 13), (0, 11, 18, 34)]) (x := 1) (z := 2) (n := 5) (q2 := 20) C ht (Nat.le_of_ble_eq_true rfl) (Nat.le_of_ble_eq_true rfl) (run_Vx C [.int p0, .int p1, .int p2] [.int 0, .ref 146] (dX11_net hlx hv) ml_X11_net mv_X11_net lk_L_76 ⟨(Nat.le_of_ble_eq_true rfl), (Nat.le_of_ble_eq_true rfl)⟩ ⟨(Nat.le_of_ble_eq_true rfl), (Nat.le_of_ble_eq_true rfl)⟩ vq_10 rfl ko_32 rfl (Nat.le_of_ble_eq_true rfl) dL_net_7) [⟨0, 11, 14, 13⟩] ⟨0, 11, 18, 34⟩ [] rfl (fun z hz => by cases List.mem_singleton.mp hz; exact Or.inr ⟨by decide, xn 0, nl_L_13, C.2.2.2.2.2.2.2.1.2.2.2.1⟩) (by decide) (by decide) nl_L_34 (by decide) hr (Nat.le_of_ble_eq_true rfl) (Or.inl ⟨dL_net_18, rfl⟩) dL_net_20 rfl dL_net_21
  · refine G_callLx (run_Vx C [.int p0, .int p1, .int p2] [.int 0, .ref 146] (dX11_net hlx hv) ml_X11_net mv_X11_net lk_L_76 ⟨(Nat.le_of_ble_eq_true rfl), (Nat.le_of_ble_eq_true rfl)⟩ ⟨(Nat.le_of_ble_eq_true rfl), (Nat.le_of_ble_eq_true rfl)⟩ vq_10 rfl ko_32 rfl (Nat.le_of_ble_eq_true rfl) dL_net_7) ?_
    refine G_lastore C ks_146 ⟨by decide, by decide⟩ dL_net_10 ?_
    refine G_goto (tgt := 22) C rfl dL_net_11 ?_
    refine G_iconst C (v := 0) rfl dL_net_22 ?_
    exact G_iret C hr (Nat.le_of_ble_eq_true rfl) (Nat.le_of_ble_eq_true rfl) dL_net_23
set_option maxHeartbeats 4000000 in
theorem dL_payments (hlx : l.stackTraces = false) {σ : Sto} {p0 : Int32} {p1 : Int32} {r1 : Int32} {r2 : Sto} (h : mL_payments p0 p1 σ = some (r1, r2)) : MH l yL_payments cL_payments 5 (some .int) [(0, 10, 13, 13), (0, 10, 17, 34)] 9 2 12 E true σ [.ref 32, .int p0, .int p1, .ref 146] (QI E true σ r1 r2) := by
  unfold mL_payments at h
  refine MH_of (by decide) (Nat.le_of_ble_eq_true rfl) rfl (fun p e s m args below meth c ad0 C hr ht => ?_)
  refine G_aload_n C 3 rfl rfl dL_payments_0 ?_
  refine G_iconst C (v := 0) rfl dL_payments_1 ?_
  refine G_aload_n C 0 rfl rfl dL_payments_2 ?_
  refine G_iload_n C 1 rfl rfl dL_payments_3 ?_
  refine G_iload_n C 2 rfl rfl dL_payments_4 ?_
  rcases wr_elim h with ⟨x, hv, hk, rfl⟩ | ⟨v, σ1, hv, rfl, rfl⟩
  · rcases hB_out hk with ⟨rfl, rfl⟩ | ⟨rfl, rfl⟩
    · exact G_catI (hh := [(0, 10, 13, 13), (0, 10, 17, 34)]) (x := 0) (z := 1) (n := 4) (q2 := 15) C ht (Nat.le_of_ble_eq_true rfl) (Nat.le_of_ble_eq_true rfl) (run_Vx C [.int p0, .int p1] [.int 0, .ref 146] (dX11_payments hlx hv) ml_X11_payments mv_X11_payments lk_L_79 ⟨(Nat.le_of_ble_eq_true rfl), (Nat.le_of_ble_eq_true rfl)⟩ ⟨(Nat.le_of_ble_eq_true rfl), (Nat.le_of_ble_eq_true rfl)⟩ vq_10 rfl ko_32 rfl (Nat.le_of_ble_eq_true rfl) dL_payments_5) [] ⟨0, 10, 13, 13⟩ [⟨0, 10, 17, 34⟩] rfl (fun z hz => absurd hz List.not_mem_nil) (by decide) (by decide) nl_L_13 (by decide) hr (Nat.le_of_ble_eq_true rfl) (Or.inl ⟨dL_payments_13, rfl⟩) dL_payments_15 rfl dL_payments_16
    · exact G_catI (hh := [(0, 10, 13, 13), (0, 10, 17, 34)]) (x := 1) (z := 2) (n := 4) (q2 := 19) C ht (Nat.le_of_ble_eq_true rfl) (Nat.le_of_ble_eq_true rfl) (run_Vx C [.int p0, .int p1] [.int 0, .ref 146] (dX11_payments hlx hv) ml_X11_payments mv_X11_payments lk_L_79 ⟨(Nat.le_of_ble_eq_true rfl), (Nat.le_of_ble_eq_true rfl)⟩ ⟨(Nat.le_of_ble_eq_true rfl), (Nat.le_of_ble_eq_true rfl)⟩ vq_10 rfl ko_32 rfl (Nat.le_of_ble_eq_true rfl) dL_payments_5) [⟨0, 10, 13, 13⟩] ⟨0, 10, 17, 34⟩ [] rfl (fun z hz => by cases List.mem_singleton.mp hz; exact Or.inr ⟨by decide, xn 0, nl_L_13, C.2.2.2.2.2.2.2.1.2.2.2.1⟩) (by decide) (by decide) nl_L_34 (by decide) hr (Nat.le_of_ble_eq_true rfl) (Or.inl ⟨dL_payments_17, rfl⟩) dL_payments_19 rfl dL_payments_20
  · refine G_callIx (run_Vx C [.int p0, .int p1] [.int 0, .ref 146] (dX11_payments hlx hv) ml_X11_payments mv_X11_payments lk_L_79 ⟨(Nat.le_of_ble_eq_true rfl), (Nat.le_of_ble_eq_true rfl)⟩ ⟨(Nat.le_of_ble_eq_true rfl), (Nat.le_of_ble_eq_true rfl)⟩ vq_10 rfl ko_32 rfl (Nat.le_of_ble_eq_true rfl) dL_payments_5) ?_
    refine G_i2l C dL_payments_8 ?_
    refine G_lastore C ks_146 ⟨by decide, by decide⟩ dL_payments_9 ?_
    refine G_goto (tgt := 21) C rfl dL_payments_10 ?_
    refine G_iconst C (v := 0) rfl dL_payments_21 ?_
    exact G_iret C hr (Nat.le_of_ble_eq_true rfl) (Nat.le_of_ble_eq_true rfl) dL_payments_22
set_option maxHeartbeats 4000000 in
theorem dL_again (hlx : l.stackTraces = false) {σ : Sto} {p0 : Int32} {p1 : Int32} {p2 : Int32} {p3 : Int32} {r1 : Int32} {r2 : Sto} (h : mL_again p0 p1 p2 p3 σ = some (r1, r2)) : MH l yL_again cL_again 7 (some .int) [(0, 14, 17, 34)] 7 1 6 E true σ [.ref 32, .int p0, .int p1, .int p2, .int p3, .ref 146] (QI E true σ r1 r2) := by
  unfold mL_again at h
  refine MH_of (by decide) (Nat.le_of_ble_eq_true rfl) rfl (fun p e s m args below meth c ad0 C hr ht => ?_)
  refine G_aload C 5 rfl dL_again_0 ?_
  refine G_iconst C (v := 0) rfl dL_again_2 ?_
  refine G_aload_n C 0 rfl rfl dL_again_3 ?_
  refine G_iload_n C 1 rfl rfl dL_again_4 ?_
  refine G_iload_n C 2 rfl rfl dL_again_5 ?_
  refine G_iload_n C 3 rfl rfl dL_again_6 ?_
  refine G_iload C 4 rfl dL_again_7 ?_
  rcases wr_elim h with ⟨x, hv0, hk, rfl⟩ | ⟨v, σ1, hv0, rfl, rfl⟩
  · obtain ⟨q0, hv1, hv2⟩ := Option.map_eq_some_iff.mp hv0
    rcases q0 with x0 | v0
    · cases hv2
      have hv := hv1
      obtain ⟨rfl, rfl⟩ := hI_out hk
      exact G_catI (hh := [(0, 14, 17, 34)]) (x := 1) (z := 1) (n := 6) (q2 := 19) C ht (Nat.le_of_ble_eq_true rfl) (Nat.le_of_ble_eq_true rfl) (run_Vx C [.int p0, .int p1, .int p2, .int p3] [.int 0, .ref 146] (dX11_again hlx hv) ml_X11_again mv_X11_again lk_L_82 ⟨(Nat.le_of_ble_eq_true rfl), (Nat.le_of_ble_eq_true rfl)⟩ ⟨(Nat.le_of_ble_eq_true rfl), (Nat.le_of_ble_eq_true rfl)⟩ vq_10 rfl ko_32 rfl (Nat.le_of_ble_eq_true rfl) dL_again_9) [] ⟨0, 14, 17, 34⟩ [] rfl (fun z hz => absurd hz List.not_mem_nil) (by decide) (by decide) nl_L_34 (by decide) hr (Nat.le_of_ble_eq_true rfl) (Or.inl ⟨dL_again_17, rfl⟩) dL_again_19 rfl dL_again_20
    · cases hv2
  · obtain ⟨q0, hv1, hv2⟩ := Option.map_eq_some_iff.mp hv0
    rcases q0 with x0 | v0
    · cases hv2
    · cases hv2
      have hv := hv1
      refine G_callIx (run_Vx C [.int p0, .int p1, .int p2, .int p3] [.int 0, .ref 146] (dX11_again hlx hv) ml_X11_again mv_X11_again lk_L_82 ⟨(Nat.le_of_ble_eq_true rfl), (Nat.le_of_ble_eq_true rfl)⟩ ⟨(Nat.le_of_ble_eq_true rfl), (Nat.le_of_ble_eq_true rfl)⟩ vq_10 rfl ko_32 rfl (Nat.le_of_ble_eq_true rfl) dL_again_9) ?_
      refine G_i2l C dL_again_12 ?_
      refine G_lastore C ks_146 ⟨by decide, by decide⟩ dL_again_13 ?_
      refine G_goto (tgt := 21) C rfl dL_again_14 ?_
      refine G_iconst C (v := 0) rfl dL_again_21 ?_
      exact G_iret C hr (Nat.le_of_ble_eq_true rfl) (Nat.le_of_ble_eq_true rfl) dL_again_22
set_option maxHeartbeats 4000000 in
theorem dL_with (hlx : l.stackTraces = false) {σ : Sto} {p0 : Int32} {p1 : Int32} {p2 : Int32} {r1 : Int32} {r2 : Sto} (h : mL_with p0 p1 p2 σ = some (r1, r2)) : MH l yL_with cL_with 6 (some .int) [(0, 12, 15, 13), (0, 12, 19, 34)] 8 2 12 E true σ [.ref 32, .int p0, .int p1, .int p2, .ref 146] (QI E true σ r1 r2) := by
  unfold mL_with at h
  refine MH_of (by decide) (Nat.le_of_ble_eq_true rfl) rfl (fun p e s m args below meth c ad0 C hr ht => ?_)
  refine G_aload C 4 rfl dL_with_0 ?_
  refine G_iconst C (v := 0) rfl dL_with_2 ?_
  refine G_aload_n C 0 rfl rfl dL_with_3 ?_
  refine G_iload_n C 1 rfl rfl dL_with_4 ?_
  refine G_iload_n C 2 rfl rfl dL_with_5 ?_
  refine G_iload_n C 3 rfl rfl dL_with_6 ?_
  rcases wr_elim h with ⟨x, hv0, hk, rfl⟩ | ⟨v, σ1, hv0, rfl, rfl⟩
  · obtain ⟨q0, hv1, hv2⟩ := Option.map_eq_some_iff.mp hv0
    rcases q0 with x0 | v0
    · cases hv2
      have hv := hv1
      rcases hB_out hk with ⟨rfl, rfl⟩ | ⟨rfl, rfl⟩
      · exact G_catI (hh := [(0, 12, 15, 13), (0, 12, 19, 34)]) (x := 0) (z := 1) (n := 5) (q2 := 17) C ht (Nat.le_of_ble_eq_true rfl) (Nat.le_of_ble_eq_true rfl) (run_Vx C [.int p0, .int p1, .int p2] [.int 0, .ref 146] (dX11_with hlx hv) ml_X11_with mv_X11_with lk_L_85 ⟨(Nat.le_of_ble_eq_true rfl), (Nat.le_of_ble_eq_true rfl)⟩ ⟨(Nat.le_of_ble_eq_true rfl), (Nat.le_of_ble_eq_true rfl)⟩ vq_10 rfl ko_32 rfl (Nat.le_of_ble_eq_true rfl) dL_with_7) [] ⟨0, 12, 15, 13⟩ [⟨0, 12, 19, 34⟩] rfl (fun z hz => absurd hz List.not_mem_nil) (by decide) (by decide) nl_L_13 (by decide) hr (Nat.le_of_ble_eq_true rfl) (Or.inl ⟨dL_with_15, rfl⟩) dL_with_17 rfl dL_with_18
      · exact G_catI (hh := [(0, 12, 15, 13), (0, 12, 19, 34)]) (x := 1) (z := 2) (n := 5) (q2 := 21) C ht (Nat.le_of_ble_eq_true rfl) (Nat.le_of_ble_eq_true rfl) (run_Vx C [.int p0, .int p1, .int p2] [.int 0, .ref 146] (dX11_with hlx hv) ml_X11_with mv_X11_with lk_L_85 ⟨(Nat.le_of_ble_eq_true rfl), (Nat.le_of_ble_eq_true rfl)⟩ ⟨(Nat.le_of_ble_eq_true rfl), (Nat.le_of_ble_eq_true rfl)⟩ vq_10 rfl ko_32 rfl (Nat.le_of_ble_eq_true rfl) dL_with_7) [⟨0, 12, 15, 13⟩] ⟨0, 12, 19, 34⟩ [] rfl (fun z hz => by cases List.mem_singleton.mp hz; exact Or.inr ⟨by decide, xn 0, nl_L_13, C.2.2.2.2.2.2.2.1.2.2.2.1⟩) (by decide) (by decide) nl_L_34 (by decide) hr (Nat.le_of_ble_eq_true rfl) (Or.inl ⟨dL_with_19, rfl⟩) dL_with_21 rfl dL_with_22
    · cases hv2
  · obtain ⟨q0, hv1, hv2⟩ := Option.map_eq_some_iff.mp hv0
    rcases q0 with x0 | v0
    · cases hv2
    · cases hv2
      have hv := hv1
      refine G_callIx (run_Vx C [.int p0, .int p1, .int p2] [.int 0, .ref 146] (dX11_with hlx hv) ml_X11_with mv_X11_with lk_L_85 ⟨(Nat.le_of_ble_eq_true rfl), (Nat.le_of_ble_eq_true rfl)⟩ ⟨(Nat.le_of_ble_eq_true rfl), (Nat.le_of_ble_eq_true rfl)⟩ vq_10 rfl ko_32 rfl (Nat.le_of_ble_eq_true rfl) dL_with_7) ?_
      refine G_i2l C dL_with_10 ?_
      refine G_lastore C ks_146 ⟨by decide, by decide⟩ dL_with_11 ?_
      refine G_goto (tgt := 23) C rfl dL_with_12 ?_
      refine G_iconst C (v := 0) rfl dL_with_23 ?_
      exact G_iret C hr (Nat.le_of_ble_eq_true rfl) (Nat.le_of_ble_eq_true rfl) dL_with_24
set_option maxHeartbeats 4000000 in
theorem dL_hidden (hlx : l.stackTraces = false) {σ : Sto} {p0 : Int32} {p1 : Int32} {p2 : Int32} {p3 : Int32} {r1 : Int32} {r2 : Sto} (h : mL_hidden p0 p1 p2 p3 σ = some (r1, r2)) : MH l yL_hidden cL_hidden 7 (some .int) [(0, 14, 17, 13), (0, 14, 21, 34)] 8 4 24 E true σ [.ref 32, .int p0, .int p1, .int p2, .int p3, .ref 146] (QI E true σ r1 r2) := by
  unfold mL_hidden at h
  refine MH_of (by decide) (Nat.le_of_ble_eq_true rfl) rfl (fun p e s m args below meth c ad0 C hr ht => ?_)
  refine G_aload C 5 rfl dL_hidden_0 ?_
  refine G_iconst C (v := 0) rfl dL_hidden_2 ?_
  refine G_aload_n C 0 rfl rfl dL_hidden_3 ?_
  refine G_iload_n C 1 rfl rfl dL_hidden_4 ?_
  refine G_iload_n C 2 rfl rfl dL_hidden_5 ?_
  refine G_iload_n C 3 rfl rfl dL_hidden_6 ?_
  refine G_iload C 4 rfl dL_hidden_7 ?_
  rcases wr_elim h with ⟨x, hv0, hk, rfl⟩ | ⟨v, σ1, hv0, rfl, rfl⟩
  · obtain ⟨q0, hv1, hv2⟩ := Option.map_eq_some_iff.mp hv0
    rcases q0 with x0 | v0
    · cases hv2
      have hv := hv1
      rcases hB_out hk with ⟨rfl, rfl⟩ | ⟨rfl, rfl⟩
      · exact G_catI (hh := [(0, 14, 17, 13), (0, 14, 21, 34)]) (x := 0) (z := 1) (n := 6) (q2 := 19) C ht (Nat.le_of_ble_eq_true rfl) (Nat.le_of_ble_eq_true rfl) (run_Vx C [.int p0, .int p1, .int p2, .int p3] [.int 0, .ref 146] (dX11_hidden hlx hv) ml_X11_hidden mv_X11_hidden lk_L_88 ⟨(Nat.le_of_ble_eq_true rfl), (Nat.le_of_ble_eq_true rfl)⟩ ⟨(Nat.le_of_ble_eq_true rfl), (Nat.le_of_ble_eq_true rfl)⟩ vq_10 rfl ko_32 rfl (Nat.le_of_ble_eq_true rfl) dL_hidden_9) [] ⟨0, 14, 17, 13⟩ [⟨0, 14, 21, 34⟩] rfl (fun z hz => absurd hz List.not_mem_nil) (by decide) (by decide) nl_L_13 (by decide) hr (Nat.le_of_ble_eq_true rfl) (Or.inl ⟨dL_hidden_17, rfl⟩) dL_hidden_19 rfl dL_hidden_20
      · exact G_catI (hh := [(0, 14, 17, 13), (0, 14, 21, 34)]) (x := 1) (z := 2) (n := 6) (q2 := 23) C ht (Nat.le_of_ble_eq_true rfl) (Nat.le_of_ble_eq_true rfl) (run_Vx C [.int p0, .int p1, .int p2, .int p3] [.int 0, .ref 146] (dX11_hidden hlx hv) ml_X11_hidden mv_X11_hidden lk_L_88 ⟨(Nat.le_of_ble_eq_true rfl), (Nat.le_of_ble_eq_true rfl)⟩ ⟨(Nat.le_of_ble_eq_true rfl), (Nat.le_of_ble_eq_true rfl)⟩ vq_10 rfl ko_32 rfl (Nat.le_of_ble_eq_true rfl) dL_hidden_9) [⟨0, 14, 17, 13⟩] ⟨0, 14, 21, 34⟩ [] rfl (fun z hz => by cases List.mem_singleton.mp hz; exact Or.inr ⟨by decide, xn 0, nl_L_13, C.2.2.2.2.2.2.2.1.2.2.2.1⟩) (by decide) (by decide) nl_L_34 (by decide) hr (Nat.le_of_ble_eq_true rfl) (Or.inl ⟨dL_hidden_21, rfl⟩) dL_hidden_23 rfl dL_hidden_24
    · cases hv2
  · obtain ⟨q0, hv1, hv2⟩ := Option.map_eq_some_iff.mp hv0
    rcases q0 with x0 | v0
    · cases hv2
    · cases hv2
      have hv := hv1
      refine G_callIx (run_Vx C [.int p0, .int p1, .int p2, .int p3] [.int 0, .ref 146] (dX11_hidden hlx hv) ml_X11_hidden mv_X11_hidden lk_L_88 ⟨(Nat.le_of_ble_eq_true rfl), (Nat.le_of_ble_eq_true rfl)⟩ ⟨(Nat.le_of_ble_eq_true rfl), (Nat.le_of_ble_eq_true rfl)⟩ vq_10 rfl ko_32 rfl (Nat.le_of_ble_eq_true rfl) dL_hidden_9) ?_
      refine G_i2l C dL_hidden_12 ?_
      refine G_lastore C ks_146 ⟨by decide, by decide⟩ dL_hidden_13 ?_
      refine G_goto (tgt := 25) C rfl dL_hidden_14 ?_
      refine G_iconst C (v := 0) rfl dL_hidden_25 ?_
      exact G_iret C hr (Nat.le_of_ble_eq_true rfl) (Nat.le_of_ble_eq_true rfl) dL_hidden_26
set_option maxHeartbeats 4000000 in
theorem dL_attempt (hlx : l.stackTraces = false) {σ : Sto} {p0 : Int32} {p1 : Int32} {p2 : Int32} {r1 : Int32} {r2 : Sto} (h : mL_attempt p0 p1 p2 σ = some (r1, r2)) : MH l yL_attempt cL_attempt 6 (some .int) [(0, 12, 15, 13), (0, 12, 19, 34)] 69 2 12 E true σ [.ref 32, .int p0, .int p1, .int p2, .ref 146] (QI E true σ r1 r2) := by
  unfold mL_attempt at h
  refine MH_of (by decide) (Nat.le_of_ble_eq_true rfl) rfl (fun p e s m args below meth c ad0 C hr ht => ?_)
  refine G_aload C 4 rfl dL_attempt_0 ?_
  refine G_iconst C (v := 0) rfl dL_attempt_2 ?_
  refine G_aload_n C 0 rfl rfl dL_attempt_3 ?_
  refine G_iload_n C 1 rfl rfl dL_attempt_4 ?_
  refine G_iload_n C 2 rfl rfl dL_attempt_5 ?_
  refine G_iload_n C 3 rfl rfl dL_attempt_6 ?_
  rcases wr_elim h with ⟨x, hv, hk, rfl⟩ | ⟨v, σ1, hv, rfl, rfl⟩
  · rcases hB_out hk with ⟨rfl, rfl⟩ | ⟨rfl, rfl⟩
    · exact G_catI (hh := [(0, 12, 15, 13), (0, 12, 19, 34)]) (x := 0) (z := 1) (n := 5) (q2 := 17) C ht (Nat.le_of_ble_eq_true rfl) (Nat.le_of_ble_eq_true rfl) (run_Vx C [.int p0, .int p1, .int p2] [.int 0, .ref 146] (dX11_attempt hlx hv) ml_X11_attempt mv_X11_attempt lk_L_91 ⟨(Nat.le_of_ble_eq_true rfl), (Nat.le_of_ble_eq_true rfl)⟩ ⟨(Nat.le_of_ble_eq_true rfl), (Nat.le_of_ble_eq_true rfl)⟩ vq_10 rfl ko_32 rfl (Nat.le_of_ble_eq_true rfl) dL_attempt_7) [] ⟨0, 12, 15, 13⟩ [⟨0, 12, 19, 34⟩] rfl (fun z hz => absurd hz List.not_mem_nil) (by decide) (by decide) nl_L_13 (by decide) hr (Nat.le_of_ble_eq_true rfl) (Or.inl ⟨dL_attempt_15, rfl⟩) dL_attempt_17 rfl dL_attempt_18
    · exact G_catI (hh := [(0, 12, 15, 13), (0, 12, 19, 34)]) (x := 1) (z := 2) (n := 5) (q2 := 21) C ht (Nat.le_of_ble_eq_true rfl) (Nat.le_of_ble_eq_true rfl) (run_Vx C [.int p0, .int p1, .int p2] [.int 0, .ref 146] (dX11_attempt hlx hv) ml_X11_attempt mv_X11_attempt lk_L_91 ⟨(Nat.le_of_ble_eq_true rfl), (Nat.le_of_ble_eq_true rfl)⟩ ⟨(Nat.le_of_ble_eq_true rfl), (Nat.le_of_ble_eq_true rfl)⟩ vq_10 rfl ko_32 rfl (Nat.le_of_ble_eq_true rfl) dL_attempt_7) [⟨0, 12, 15, 13⟩] ⟨0, 12, 19, 34⟩ [] rfl (fun z hz => by cases List.mem_singleton.mp hz; exact Or.inr ⟨by decide, xn 0, nl_L_13, C.2.2.2.2.2.2.2.1.2.2.2.1⟩) (by decide) (by decide) nl_L_34 (by decide) hr (Nat.le_of_ble_eq_true rfl) (Or.inl ⟨dL_attempt_19, rfl⟩) dL_attempt_21 rfl dL_attempt_22
  · refine G_callIx (run_Vx C [.int p0, .int p1, .int p2] [.int 0, .ref 146] (dX11_attempt hlx hv) ml_X11_attempt mv_X11_attempt lk_L_91 ⟨(Nat.le_of_ble_eq_true rfl), (Nat.le_of_ble_eq_true rfl)⟩ ⟨(Nat.le_of_ble_eq_true rfl), (Nat.le_of_ble_eq_true rfl)⟩ vq_10 rfl ko_32 rfl (Nat.le_of_ble_eq_true rfl) dL_attempt_7) ?_
    refine G_i2l C dL_attempt_10 ?_
    refine G_lastore C ks_146 ⟨by decide, by decide⟩ dL_attempt_11 ?_
    refine G_goto (tgt := 23) C rfl dL_attempt_12 ?_
    refine G_iconst C (v := 0) rfl dL_attempt_23 ?_
    exact G_iret C hr (Nat.le_of_ble_eq_true rfl) (Nat.le_of_ble_eq_true rfl) dL_attempt_24
set_option maxHeartbeats 4000000 in
theorem dL_more (hlx : l.stackTraces = false) {σ : Sto} {p0 : Int32} {r1 : Int32} {r2 : Sto} (h : mL_more p0 σ = some (r1, r2)) : MH l yL_more cL_more 4 (some .int) [(0, 8, 11, 13)] 8 1 6 E true σ [.ref 32, .int p0, .ref 146] (QI E true σ r1 r2) := by
  unfold mL_more at h
  refine MH_of (by decide) (Nat.le_of_ble_eq_true rfl) rfl (fun p e s m args below meth c ad0 C hr ht => ?_)
  refine G_aload_n C 2 rfl rfl dL_more_0 ?_
  refine G_iconst C (v := 0) rfl dL_more_1 ?_
  refine G_aload_n C 0 rfl rfl dL_more_2 ?_
  refine G_iload_n C 1 rfl rfl dL_more_3 ?_
  rcases wr_elim h with ⟨x, hv0, hk, rfl⟩ | ⟨v, σ1, hv0, rfl, rfl⟩
  · obtain ⟨q0, hv1, hv2⟩ := Option.map_eq_some_iff.mp hv0
    rcases q0 with x0 | v0
    · cases hv2
      have hv := hv1
      obtain ⟨rfl, rfl⟩ := hN_out hk
      exact G_catL (hh := [(0, 8, 11, 13)]) (x := 0) (z := 1) (n := 3) (q2 := 12) C ht (Nat.le_of_ble_eq_true rfl) (Nat.le_of_ble_eq_true rfl) (run_Vx C [.int p0] [.int 0, .ref 146] (dX11_more hlx hv) ml_X11_more mv_X11_more lk_L_94 ⟨(Nat.le_of_ble_eq_true rfl), (Nat.le_of_ble_eq_true rfl)⟩ ⟨(Nat.le_of_ble_eq_true rfl), (Nat.le_of_ble_eq_true rfl)⟩ vq_10 rfl ko_32 rfl (Nat.le_of_ble_eq_true rfl) dL_more_4) [] ⟨0, 8, 11, 13⟩ [] rfl (fun z hz => absurd hz List.not_mem_nil) (by decide) (by decide) nl_L_13 (by decide) hr (Nat.le_of_ble_eq_true rfl) (Or.inr ⟨3, rfl, dL_more_11, rfl⟩) dL_more_12 rfl dL_more_13
    · cases hv2
  · obtain ⟨q0, hv1, hv2⟩ := Option.map_eq_some_iff.mp hv0
    rcases q0 with x0 | v0
    · cases hv2
    · cases hv2
      have hv := hv1
      refine G_callLx (run_Vx C [.int p0] [.int 0, .ref 146] (dX11_more hlx hv) ml_X11_more mv_X11_more lk_L_94 ⟨(Nat.le_of_ble_eq_true rfl), (Nat.le_of_ble_eq_true rfl)⟩ ⟨(Nat.le_of_ble_eq_true rfl), (Nat.le_of_ble_eq_true rfl)⟩ vq_10 rfl ko_32 rfl (Nat.le_of_ble_eq_true rfl) dL_more_4) ?_
      refine G_lastore C ks_146 ⟨by decide, by decide⟩ dL_more_7 ?_
      refine G_goto (tgt := 14) C rfl dL_more_8 ?_
      refine G_iconst C (v := 0) rfl dL_more_14 ?_
      exact G_iret C hr (Nat.le_of_ble_eq_true rfl) (Nat.le_of_ble_eq_true rfl) dL_more_15
set_option maxHeartbeats 4000000 in
theorem dL_count (hlx : l.stackTraces = false) {σ : Sto} {p0 : Int32} {r1 : Int32} {r2 : Sto} (h : mL_count p0 σ = some (r1, r2)) : MH l yL_count cL_count 4 (some .int) [(0, 9, 12, 13)] 8 1 6 E true σ [.ref 32, .int p0, .ref 146] (QI E true σ r1 r2) := by
  unfold mL_count at h
  refine MH_of (by decide) (Nat.le_of_ble_eq_true rfl) rfl (fun p e s m args below meth c ad0 C hr ht => ?_)
  refine G_aload_n C 2 rfl rfl dL_count_0 ?_
  refine G_iconst C (v := 0) rfl dL_count_1 ?_
  refine G_aload_n C 0 rfl rfl dL_count_2 ?_
  refine G_iload_n C 1 rfl rfl dL_count_3 ?_
  rcases wr_elim h with ⟨x, hv0, hk, rfl⟩ | ⟨v, σ1, hv0, rfl, rfl⟩
  · obtain ⟨q0, hv1, hv2⟩ := Option.map_eq_some_iff.mp hv0
    rcases q0 with x0 | v0
    · cases hv2
      have hv := hv1
      obtain ⟨rfl, rfl⟩ := hN_out hk
      exact G_catI (hh := [(0, 9, 12, 13)]) (x := 0) (z := 1) (n := 3) (q2 := 13) C ht (Nat.le_of_ble_eq_true rfl) (Nat.le_of_ble_eq_true rfl) (run_Vx C [.int p0] [.int 0, .ref 146] (dX11_count hlx hv) ml_X11_count mv_X11_count lk_L_98 ⟨(Nat.le_of_ble_eq_true rfl), (Nat.le_of_ble_eq_true rfl)⟩ ⟨(Nat.le_of_ble_eq_true rfl), (Nat.le_of_ble_eq_true rfl)⟩ vq_10 rfl ko_32 rfl (Nat.le_of_ble_eq_true rfl) dL_count_4) [] ⟨0, 9, 12, 13⟩ [] rfl (fun z hz => absurd hz List.not_mem_nil) (by decide) (by decide) nl_L_13 (by decide) hr (Nat.le_of_ble_eq_true rfl) (Or.inr ⟨3, rfl, dL_count_12, rfl⟩) dL_count_13 rfl dL_count_14
    · cases hv2
  · obtain ⟨q0, hv1, hv2⟩ := Option.map_eq_some_iff.mp hv0
    rcases q0 with x0 | v0
    · cases hv2
    · cases hv2
      have hv := hv1
      refine G_callIx (run_Vx C [.int p0] [.int 0, .ref 146] (dX11_count hlx hv) ml_X11_count mv_X11_count lk_L_98 ⟨(Nat.le_of_ble_eq_true rfl), (Nat.le_of_ble_eq_true rfl)⟩ ⟨(Nat.le_of_ble_eq_true rfl), (Nat.le_of_ble_eq_true rfl)⟩ vq_10 rfl ko_32 rfl (Nat.le_of_ble_eq_true rfl) dL_count_4) ?_
      refine G_i2l C dL_count_7 ?_
      refine G_lastore C ks_146 ⟨by decide, by decide⟩ dL_count_8 ?_
      refine G_goto (tgt := 15) C rfl dL_count_9 ?_
      refine G_iconst C (v := 0) rfl dL_count_15 ?_
      exact G_iret C hr (Nat.le_of_ble_eq_true rfl) (Nat.le_of_ble_eq_true rfl) dL_count_16
end
