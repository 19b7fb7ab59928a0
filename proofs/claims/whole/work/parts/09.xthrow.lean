/-! THROWS. The maker of E passes its text on to the maker of Y by the entry ix, the others as the library's chain has it -/
def xsA (own : String) (ic : Nat) (X : String) (ix : Nat) (bX : ByteArray) (Y : String) (r : List String) : List Cond :=
  Bundle.throwableAtoms ++ Bundle.throwableSAtoms ++ (Bundle.passSAtoms X Y ix bX ++ Bundle.chainSAtoms Y r) ++
  [.methodLink own ic (Bundle.initS X), .instantiable X 6, .castable X X, .selects X Bundle.tFill0 Bundle.tFill0, .selects X Bundle.tFill Bundle.tFill,
   .lays X Bundle.tN "cause" "Ljava/lang/Throwable;", .lays X Bundle.tN "stackTrace" Bundle.steD, .lays X Bundle.tN "suppressedExceptions" Bundle.listD, .lays X Bundle.tN "detailMessage" "Ljava/lang/String;",
   .isRef (.static Bundle.tN "UNASSIGNED_STACK" Bundle.steD), .isRef (.static Bundle.tN "SUPPRESSED_SENTINEL" Bundle.listD),
   .fieldLink Bundle.tN 198 Bundle.tN "backtrace" "Ljava/lang/Object;", .lays Bundle.tN Bundle.tN "backtrace" "Ljava/lang/Object;", .lays X Bundle.tN "backtrace" "Ljava/lang/Object;"]
def pass4 (b : ByteArray) (ix : Nat) : Prop := decode b 0 = .ok (.aload_n 0, 1) ∧ decode b 1 = .ok (.aload_n 1, 1) ∧ decode b 2 = .ok (.invokespecial ix, 3) ∧ decode b 5 = .ok (.return_, 1)
section XC
variable {p : Program} {l : Launch} {e : Env} {R : Room} {s : State} {m₀ : MethodId} {args : Array Value} {below : List Frame} {meth : Method} {c : Code} {W : State} {locs : List Loc} {cells slots : Nat}
set_option maxHeartbeats 2000000 in
/-- the maker's walk and the throw behind it: only what a caller needs of the cell is told (the steps are those of the library's ctorThrowS, over its lemmas; the first link is by the entry ix) -/
theorem xs_ctor (X : Stand p l e R s m₀ args below meth c W locs cells slots) (hexec : p.tables.exec = Jvm.exec) (htr : e.platform.stackTraces = false) {own cls Y : String} {r : List String} {ic ix : Nat} {bX : ByteArray} (hbX : pass4 bX ix)
    (hown : s.vm.findClass own = some m₀.cls) (hcls : Bundle.fit cls = true) (hY : Bundle.fit Y = true) (hr : ∀ n ∈ r, Bundle.fit n = true) (h : ∀ a ∈ xsA own ic cls ix bX Y r, a.before args s = true)
    (hlocs : ∀ x ∈ locs, ∀ cell, s.heap[x.base]? = some cell → cell.vm.isStatics = false)
    {a : Addr} {cX : ClassId} {kX : Class} (hfX : s.vm.findClass cls = some cX) (hkX : s.vm.classes[cX]? = some kX) (hcell : W.heap[a]? = some (freshCell cX kX)) (hnew : s.heap.size ≤ a) {msg : Value} (hmsg : msg.isRef = true)
    {g : JFrame} (hg : g.method = m₀) (hsize : g.locals.size = c.maxLocals) (hlocked : g.locked = none) (hentered : g.entered = []) {rest : List Value} (hstack : g.stack = msg :: .ref a :: .ref a :: rest)
    (hd6 : decode c.code g.pc = .ok (.invokespecial ic, 3)) (hd9 : decode c.code (g.pc + 3) = .ok (.athrow, 1)) (hout : ∀ x ∈ c.exceptionTable.toList, covers x (g.pc + 3) = false)
    (hRf : r.length + 4 < R.frames) (hRl : 2 * g.monitorRoom + ((Value.ref a :: rest).map fun v => v.category).sum + (13 * (r.length + 2) + 42) ≤ R.locals) (hlocks : meth.locks = false) :
    ∃ U : State, Steps p.tables e below (W.setTop g) U ∧ U.status = .running ∧ Ended U below (.threw a) ∧ s.WarmedH U.vm ∧ s.sameButNew ({ U with vm := s.vm } : State) locs cells slots ∧ ∃ ce, U.heap[a]? = some ce ∧ ce.vm = .none ∧ s.vm.findClass cls = some ce.cls := by
  have howns : e.platform.frameOwnsMonitors = true := by rw [X.admits.platform]
  have hfin : e.platform.finalization = false := by rw [X.admits.platform]
  have hpl : e.platform.magicAccessors = ({} : Platform).magicAccessors := by rw [X.admits.platform]
  have a' : ∀ x, x ∈ xsA own ic cls ix bX Y r → x.holds args s none s [] = true := fun x hx => h x hx
  obtain ⟨T, Z0, K, -, Ti⟩ := ThrowableC.of_atoms (args := args) howns hfin hpl (fun x hx => h x (by simp [xsA, hx]))
  obtain ⟨Z, M, LZ, LM, hnZ⟩ := Init0T.ofS_atoms (args := args) hpl K Ti (fun x hx => h x (by simp [xsA, hx]))
  obtain ⟨P1, L1, hP1m, hs1⟩ := PassC.ofS_atoms (args := args) (s := s) hpl (X := cls) (Y := Y) (Bundle.fit_spec hcls).1 (Bundle.fit_spec hY).2 hbX.1 hbX.2.1 hbX.2.2.1 hbX.2.2.2 (fun x hx => h x (by simp [xsA, hx]))
  obtain ⟨P2, Ps, hlen, L2, hL, hP2m, hlink2, hlink⟩ := Bundle.chainS (args := args) hpl hnZ r Y hY hr (fun x hx => h x (by simp [xsA, hx]))
  have hlink1 : P1.sup = P2.m := Option.some.inj (hs1.symm.trans hP2m)
  have hfound : s.vm.findClass cls = some P1.m.cls := findClass_of_methodNamed hP1m
  cases Option.some.inj (hfX.symm.trans hfound)
  obtain ⟨c1, kX', hc1, hk, hord, -, -, hn6⟩ := Cond.instantiable_spec (a' (.instantiable cls 6) (by simp [xsA]))
  cases Option.some.inj (hc1.symm.trans hfound)
  cases Option.some.inj (hkX.symm.trans hk)
  have hsel0 : selectMethod e.platform s.vm P1.m.cls T.fill0 = .method T.fill0 := by
    obtain ⟨c2, r2, m2, q1, q2, q3, q4, -⟩ := Cond.selects_spec (a' (.selects cls Bundle.tFill0 Bundle.tFill0) (by simp [xsA]))
    cases Option.some.inj (q1.symm.trans hfound)
    cases Option.some.inj (q2.symm.trans (State.methodFound?_of_named Ti.fill0 (by decide)))
    cases Option.some.inj (q3.symm.trans Ti.fill0)
    rw [Launch.admits_selectMethod X.admits]; exact q4
  have hselF : selectMethod e.platform s.vm P1.m.cls T.fill = .method T.fill := by
    obtain ⟨c2, r2, m2, q1, q2, q3, q4, -⟩ := Cond.selects_spec (a' (.selects cls Bundle.tFill Bundle.tFill) (by simp [xsA]))
    cases Option.some.inj (q1.symm.trans hfound)
    cases Option.some.inj (q2.symm.trans (State.methodFound?_of_named Ti.fill (by decide)))
    cases Option.some.inj (q3.symm.trans Ti.fill)
    rw [Launch.admits_selectMethod X.admits]; exact q4
  obtain ⟨cellS0, hcS0, hiss⟩ := Ti.statics
  obtain ⟨u0, hu0⟩ := Cond.staticRefV Ti.unassigned K.unassignedStatic K.statics hcS0 hiss (a' (.isRef (.static Bundle.tN "UNASSIGNED_STACK" Bundle.steD)) (by simp [xsA]))
  obtain ⟨sen, hsen⟩ := Cond.staticRefV Ti.sentinel K.sentinelStatic K.statics hcS0 hiss (a' (.isRef (.static Bundle.tN "SUPPRESSED_SENTINEL" Bundle.listD)) (by simp [xsA]))
  obtain ⟨ci198, i198, fB, hk198, hg198, ha198, hsB, -, hnB, htB, hffB⟩ := Cond.ownField (t := .object "java/lang/Object") Ti.found K.cls (by decide +kernel) (a' (.fieldLink Bundle.tN 198 Bundle.tN "backtrace" "Ljava/lang/Object;") (by simp [xsA])) (a' (.lays Bundle.tN Bundle.tN "backtrace" "Ljava/lang/Object;") (by simp [xsA])) e.platform hpl
  obtain ⟨cellS, hcS', heS, -, hkeep⟩ := X.same.2.2.2.2.2 T.aS cellS0 hcS0
  have hcellS : W.heap[T.aS]? = some cellS := hcS'
  have hout' : ∀ i, (⟨T.aS, i⟩ : Loc) ∉ locs := fun i hmem => by
    have := hlocs _ hmem cellS0 hcS0
    rw [hiss] at this; cases this
  have hknownS : cellS.vm ≠ .unknown := by
    rw [heS]; intro hu
    rw [show cellS0.vm = .unknown from hu] at hiss
    cases hiss
  have hneS : T.aS ≠ a := Nat.ne_of_lt (Nat.lt_of_lt_of_le (Array.getElem?_eq_some_iff.mp hcS0).1 hnew)
  obtain ⟨iM, hffM⟩ := Ti.msg
  obtain ⟨tyC, dC, hdC, hdnC⟩ := Cond.laysAt hfound hk Ti.cause (a' (.lays cls Bundle.tN "cause" "Ljava/lang/Throwable;") (by simp [xsA]))
  obtain ⟨tyS, dS, hdS, hdnS⟩ := Cond.laysAt hfound hk Ti.stack (a' (.lays cls Bundle.tN "stackTrace" Bundle.steD) (by simp [xsA]))
  obtain ⟨tyP, dP, hdP, hdnP⟩ := Cond.laysAt hfound hk Ti.supp (a' (.lays cls Bundle.tN "suppressedExceptions" Bundle.listD) (by simp [xsA]))
  obtain ⟨tyM, dM, hdM, hdnM⟩ := Cond.laysAt hfound hk hffM (a' (.lays cls Bundle.tN "detailMessage" "Ljava/lang/String;") (by simp [xsA]))
  obtain ⟨tyB, dB, hdB, hdnB⟩ := Cond.laysAt hfound hk hffB (a' (.lays cls Bundle.tN "backtrace" "Ljava/lang/Object;") (by simp [xsA]))
  have bC := Cond.laysApart hdB hdC hdnB hdnC (by rw [hnB, Ti.causeName]; decide)
  have bS := Cond.laysApart hdB hdS hdnB hdnS (by rw [hnB, Ti.stackName]; decide)
  have bP := Cond.laysApart hdB hdP hdnB hdnP (by rw [hnB, Ti.suppName]; decide)
  have hskip : SkipFacts T e.platform s (fun u => u) u0 ((preparedCellV T.toThrowableT (freshCell P1.m.cls kX) a u0 sen).withEntry W.cur) :=
    ⟨{ ci198 := ci198, i198 := i198, fBack := fB }, ⟨hk198, hg198, ha198, hsB⟩, by
      have := fresh_default (c := P1.m.cls) tyB
      rw [htB] at this
      simpa [preparedCellV, Cell.setSlot, Cell.withEntry, Array.getElem?_setIfInBounds, bC, bS, bP, bC.symm, bS.symm, bP.symm, defaultValue] using this, fun _ _ => rfl⟩
  obtain ⟨tm, methC, cdC, kC, vm₁, hnC, -, -, -, -, -, -, -, hW₁, st1⟩ := Steps.initColdS (tb := p.tables) (e := e) (below := below) (s := s) (U := W) X.here hexec X.warmed hpl hown (t := Bundle.initS cls) rfl rfl (Bundle.fit_spec hcls).2
    (a' (.methodLink own ic (Bundle.initS cls)) (by simp [xsA])) (h (.instanceMethod (Bundle.initS cls)) (by simp [xsA, Bundle.passSAtoms])) (bytes := bX) (maxL := 2) (h (.code (Bundle.initS cls) bX 2 none) (by simp [xsA, Bundle.passSAtoms]))
    (f := g) hg (a := a) (msg := msg) (rest := .ref a :: rest) hstack hd6
  cases Option.some.inj (hnC.symm.trans hP1m)
  have X₁ := X.noted hW₁
  obtain ⟨vm₂, X₂, st2⟩ := X₁.ctorMessageOffV hexec (g := { g with stack := .ref a :: rest }) hg hsize T K Z LZ M LM (P1 :: P2 :: Ps)
    (fun P hP => by
      rcases List.mem_cons.mp hP with rfl | hP
      · exact L1
      · rcases List.mem_cons.mp hP with rfl | hP
        · exact L2
        · exact hL P hP) ⟨hlink1, hlink2, hlink⟩ (u0 := u0) (sen := sen) (self := a) hmsg (cell := freshCell P1.m.cls kX) (cellS := cellS)
    hcell (fun _ => by simp) (by simp) rfl rfl hsel0 hselF hcellS hneS hknownS (by rw [hkeep _ (hout' _)]; exact hu0) (by rw [hkeep _ (hout' _)]; exact hsen)
    (Takes.of_laid hk hord tyC (by rw [Ti.causeType]; rfl)) (Takes.of_laid hk hord tyS (by rw [Ti.stackType]; exact fits_refV_array _ u0)) (Takes.of_laid hk hord tyP (by rw [Ti.suppType]; exact fits_refV_object _ sen))
    (Takes.of_laid hk hord tyM (by rw [Ti.msgType]; exact fits_refV_object _ ⟨msg, hmsg⟩)) Ti.objLocals hskip htr [] hd6
    (by simp only [List.length_cons, hlen]; omega) (by simp only [List.length_cons, hlen]; exact hRl)
  obtain ⟨hwalk, hrun, hended, hWU, hsame⟩ := X₂.athrowLeaves hexec (g := { g with stack := .ref a :: rest, pc := g.pc + 3 }) hg hlocked hentered hout (a := a) (rest := rest) rfl hd9
  have hlt : a < ((W.setVm vm₁).setVm vm₂).heap.size := (Array.getElem?_eq_some_iff.mp hcell).1
  have hU := heapAt_setCell_self (s := (W.setVm vm₁).setVm vm₂) (plainBareV T.toThrowableT (freshCell P1.m.cls kX) a u0 sen msg) hlt
  refine ⟨_, st1 _ (fun acts => ?_), hrun, hended, hWU, hsame.weaken (fun y hy hlt' => ?_) (Nat.le_refl _) (Nat.le_refl _), _, hU, rfl, hfound⟩
  · rw [doInvoke_state]
    exact st2 _ hwalk
  · rcases List.mem_append.mp hy with h1 | h1
    · exact h1
    · exfalso
      have hb : y.base = a := by
        simp only [List.mem_cons, List.not_mem_nil, or_false] at h1
        rcases h1 with rfl | rfl | rfl | rfl | rfl <;> rfl
      rw [hb] at hlt'
      exact Nat.not_lt.mpr hnew hlt'
end XC
def xdl : List Cond := xdecl.map Cond.declares ++ [.castable nsE nsE, .castable iaE iaE]
def xok (w : Cond) : Bool := (decide (w ∈ lw_tbl) && goodWord w) || decide (w ∈ xdl)
def XW (own : String) (ic : Nat) (cls : String) (ix : Nat) (bX : ByteArray) (Y : String) (r : List String) : Prop := ((xsA own ic cls ix bX Y r).filter vx_no).all (fun w => xok w && vx_ot w) = true ∧ pass4 bX ix ∧ Bundle.fit cls = true ∧ Bundle.fit Y = true ∧ (∀ n ∈ r, Bundle.fit n = true)
section XG
variable {p : Program} {l : Launch} {e : Env} {R : Room} {s : State} {m : MethodId} {args : Array Value} {below : List Frame} {meth : Method} {c : Code} {Q : State → Prop} {E : Ev} {st : Bool} {n0 : Nat} {ad0 : Nat → Nat} {nL cells slots : Nat} {σ : Sto} {pc : Nat} {L : List (Nat × Value)} {S : List Value} {cc : ByteArray} {own : String}
theorem xw_here (C : Cx E p s m args meth c cc nL own) {ic ix : Nat} {cls Y : String} {bX : ByteArray} {r : List String} (h : XW own ic cls ix bX Y r) : ∀ w ∈ (xsA own ic cls ix bX Y r).filter vx_no, w.before args s = true ∧ vx_ot w = true := by
  intro w hw
  have h1 := List.all_eq_true.mp h.1 w hw
  simp only [Bool.and_eq_true, xok, Bool.or_eq_true, decide_eq_true_eq] at h1
  refine ⟨?_, h1.2⟩
  rcases h1.1 with ⟨h2, h3⟩ | h2
  · exact C.2.2.2.2.1 _ (bw h2 h3)
  · rcases List.mem_append.mp h2 with h3 | h3
    · obtain ⟨x, hx, rfl⟩ := List.mem_map.mp h3
      exact va_Nw.use rfl (C.2.2.2.2.2.2.2.1.2.1 x hx)
    · simp only [List.mem_cons, List.not_mem_nil, or_false] at h3
      rcases h3 with rfl | rfl
      · exact va_Nw.use rfl (C.2.2.2.2.2.2.2.1.2.2.1 nsE (by simp))
      · exact va_Nw.use rfl (C.2.2.2.2.2.2.2.1.2.2.1 iaE (by simp))
set_option maxHeartbeats 2000000 in
theorem G_throw (C : Cx E p s m args meth c cc nL own) (hlx : l.stackTraces = false) (htb : ∀ x ∈ c.exceptionTable.toList, False) {α : Type} {ik is ic ix x : Nat} {cls text Y : String} {bX : ByteArray} {r : List String} {mc ms : Nat} {Qc : Array Value → State → Outcome → State → Prop} (hown : own = "SalePart") (hx : xn x = cls) (hXW : XW own ic cls ix bX Y r)
    (hk : Cond.classLink own ik cls ∈ BW) (hini : Cond.initialized cls ∈ BW) (hmsg : (is, text) ∈ msgs) (hRf : r.length + 4 < R.frames) (hRl : (S.map fun v => v.category).sum + (13 * (r.length + 2) + 43) ≤ R.locals) (hRc : cells + 1 ≤ R.cells) (hRs : slots + 6 ≤ R.slots) (hc : cells + 1 ≤ mc) (hs : slots + 6 ≤ ms)
    (d0 : decode cc pc = .ok (.new ik, 3)) (d3 : decode cc (pc + 3) = .ok (.dup, 1)) (d4 : decode cc (pc + 4) = .ok (.ldc is, 2)) (d6 : decode cc (pc + 6) = .ok (.invokespecial ic, 3)) (d9 : decode cc (pc + 9) = .ok (.athrow, 1)) :
    G p l e R s m args below meth c E st (sZ σ) ad0 (vx_MQ below Qc (XX E st σ α (.inl x) ad0) args s mc ms (AE E)) nL cells slots σ pc L S := by
  intro ad H locs ls hw hs1 ha hl vl vs
  obtain ⟨hx1, hb, hml, hown1, hts, hlocks, hF⟩ := id C
  obtain ⟨sa, hstr⟩ := hF.2.2.2.2.2.2.2.1 _ hmsg
  rw [← hown] at hstr
  have hXw := xw_here C hXW
  intro T hT X
  have htr : e.platform.stackTraces = false := (show e.platform.stackTraces = l.stackTraces by rw [X.admits.platform]).trans hlx
  have Y9 := vx_rebase X (R' := { frames := R.frames, locals := R.locals, cells := 1, slots := 6 }) (Nat.le_refl _) (Nat.le_refl _) hRc hRs
  obtain ⟨s', hA⟩ : ∃ z, z = (T.setVm s.vm).setFrames (.invoking m args :: below) := ⟨_, rfl⟩
  rw [← hA] at Y9
  have hvm : s'.vm = s.vm := by rw [hA]; rfl
  have hhp : s'.heap = H := by rw [hA]; exact hT
  have hW0 : s.WarmedH s'.vm := by rw [hvm]; exact State.WarmedH.refl s
  have hg1 : ∀ w, vx_ot w = true → w.before args s = true → w.before args s' = true := fun w h1 h2 => vx_ot_at hW0 hvm.symm h1 h2
  have hgb : ∀ w, w ∈ BW → w.before args s' = true := fun w h1 => hg1 w (by simp only [vx_ot, Bool.or_eq_true]; exact Or.inr (List.mem_filter.mp h1).2) (hts w h1)
  have hU' : vx_Zq Bundle.tN "UNASSIGNED_STACK" Bundle.steD (AE E) s' s'.heap := by rw [hhp]; exact vx_Zq.moved hW0.alike (hF.2.2.2.1.kept hs1.2.1)
  have hN' : vx_Zq Bundle.tN "SUPPRESSED_SENTINEL" Bundle.listD (AE E) s' s'.heap := by rw [hhp]; exact vx_Zq.moved hW0.alike (hF.2.2.2.2.1.kept hs1.2.1)
  have h : ∀ w ∈ xsA own ic cls ix bX Y r, w.before args s' = true := vx_own (fun w hw1 => hg1 w (hXw w hw1).2 (hXw w hw1).1) (vx_isRefq hU'.1) (vx_isRefq hN'.1) hU'.2.word hN'.2.word
  have hown' : s'.vm.findClass own = some m.cls := by rw [hvm]; exact hown1
  have hins : (Cond.instantiable cls 6).before args s' = true := h _ (by simp [xsA])
  obtain ⟨vm₁, cX, kX, hfX, hkX, -, -, X₁, st1⟩ := Y9.newCold hx1 (own := own) (C := cls) (index := ik) (n := 6) hown' (hgb _ hk) hins (hgb _ hini)
    (g := F0 m pc ls (S.map (tr ad))) rfl (by rw [hb]; exact d0) (Nat.le_refl _) (Nat.le_refl _)
  generalize hT1 : (T.setVm vm₁).pushCell { cls := cX, slots := kX.instanceTypes.map defaultValue, vm := .none } = T1 at X₁ st1
  have hcat : (Value.ref T.heap.size).category = 1 := rfl
  have hcellA : T1.heap[T.heap.size]? = some (freshCell cX kX) := by rw [← hT1]; exact State.heap_pushCell_size _ _
  have d3' : decode c.code (pc + 3) = .ok (.dup, 1) := by rw [hb]; exact d3
  have d4' : decode c.code (pc + 4) = .ok (.ldc is, 2) := by rw [hb]; exact d4
  have hstr' : vk_R own is text sa s' := vk_R.warm hW0 hstr
  have hsum : ((S.map (tr ad)).map fun v => v.category).sum + (13 * (r.length + 2) + 43) ≤ R.locals := by rw [cat_trS]; exact hRl
  obtain ⟨U, hsteps, hrun, hend, hW, hsame, ce, hce, hv0, hcl0⟩ := xs_ctor X₁ hx1 htr hXW.2.1 (own := own) hown' hXW.2.2.1 hXW.2.2.2.1 hXW.2.2.2.2 h (fun x hx => nomatch hx) hfX hkX hcellA (by rw [hhp, hT]; exact Nat.le_refl _) (msg := .ref sa) rfl
    (g := { method := m, pc := pc + 6, locals := ls, stack := .ref sa :: .ref T.heap.size :: .ref T.heap.size :: S.map (tr ad), locked := none }) rfl (by rw [hml]; exact hl.1) rfl rfl (rest := S.map (tr ad)) rfl
    (by rw [hb]; exact d6) (by rw [hb]; exact d9) (fun x hx => absurd (htb x hx) id) hRf (by
      have e0 : JFrame.monitorRoom { method := m, pc := pc + 6, locals := ls, stack := .ref sa :: .ref T.heap.size :: .ref T.heap.size :: S.map (tr ad), locked := none } = 0 := rfl
      rw [e0]
      simp only [List.map_cons, List.sum_cons, hcat]; omega) hlocks
  obtain ⟨f1, f2⟩ := vx_frame hsame
  rw [hhp] at f1 f2
  have hWs : s.WarmedH U.vm := State.WarmedH.trans hW0 hW
  have hcl : s.vm.findClass cls = some ce.cls := by rw [← hvm]; exact hcl0
  have hall : s.sameButNew ({ U with vm := s.vm } : State) locs mc ms := by
    subst hA
    obtain ⟨e1, e2⟩ := hsame
    rw [State.setFrames_setFrames] at e1
    have h2 : (T.setVm s.vm).sameButNew ({ U with vm := s.vm } : State) [] (0 + 1) (0 + 6) := ⟨e1, e2⟩
    have h3 := X.same.trans h2
    rw [List.append_nil] at h3
    exact h3.mono hc hs
  have hkeep : ∀ q : Nat, q < H.size → U.heap[q]? = H[q]? := fun q hq => f2 q hq (fun z hz => nomatch hz)
  have hXC : XX E st σ α (.inl x) ad0 cls s U := by
    refine ⟨x, rfl, ⟨hx.symm, ?_⟩, ?_⟩
    · refine Wh.agr (ad := ad) (fun a h9 => (ha.2 a h9).symm) ?_
      obtain ⟨w1, w2, w3⟩ := hw
      exact ⟨w1.kept (fun k q hq => hkeep q.1 ((w1 k q hq).lt)), w2, w3⟩
    · exact ⟨Nat.le_trans hs1.1 f1, fun q h1 h2 => by rw [hkeep q (Nat.lt_of_lt_of_le h1 hs1.1)]; exact hs1.2.1 q h1 h2⟩
  refine ⟨U, ?_, .threw T.heap.size, hrun, hend, Or.inr ⟨T.heap.size, rfl, cls, ce, locs, hXC, hce, hv0, hcl, hWs, hall, hs1.2.2⟩⟩
  refine st1 _ ?_
  show Steps p.tables e below (T1.setTop { method := m, pc := pc + 3, locals := ls, stack := .ref T.heap.size :: S.map (tr ad), locked := none }) _
  jvm_step X₁.here [X₁.here.top, hx1, d3', Value.category]
  exact X₁.ldcString hx1 (own := own) (text := text) (index := is) (a := sa) hown' hstr'.1 hstr'.2
    (g := { method := m, pc := pc + 4, locals := ls, stack := .ref T.heap.size :: .ref T.heap.size :: S.map (tr ad), locked := none }) rfl d4' _ hsteps
set_option maxHeartbeats 2000000 in
theorem G_throwW (C : Cx E p s m args meth c cc nL own) (hlx : l.stackTraces = false) (htb : ∀ x ∈ c.exceptionTable.toList, False) {α : Type} {ik is ic ix x : Nat} {cls text Y : String} {bX : ByteArray} {r : List String} {mc ms : Nat} {Qc : Array Value → State → Outcome → State → Prop} (hown : own = "SalePart") (hx : xn x = cls) (hXW : XW own ic cls ix bX Y r)
    (hk : Cond.classLink own ik cls ∈ BW) (hini : Cond.initialized cls ∈ BW) (hmsg : (is, text) ∈ msgs) (hRf : r.length + 4 < R.frames) (hRl : (S.map fun v => v.category).sum + (13 * (r.length + 2) + 43) ≤ R.locals) (hRc : cells + 1 ≤ R.cells) (hRs : slots + 6 ≤ R.slots) (hc : cells + 1 ≤ mc) (hs : slots + 6 ≤ ms)
    (d0 : decode cc pc = .ok (.new ik, 3)) (d3 : decode cc (pc + 3) = .ok (.dup, 1)) (d4 : decode cc (pc + 4) = .ok (.ldc_w is, 3)) (d6 : decode cc (pc + 7) = .ok (.invokespecial ic, 3)) (d9 : decode cc (pc + 10) = .ok (.athrow, 1)) :
    G p l e R s m args below meth c E st (sZ σ) ad0 (vx_MQ below Qc (XX E st σ α (.inl x) ad0) args s mc ms (AE E)) nL cells slots σ pc L S := by
  intro ad H locs ls hw hs1 ha hl vl vs
  obtain ⟨hx1, hb, hml, hown1, hts, hlocks, hF⟩ := id C
  obtain ⟨sa, hstr⟩ := hF.2.2.2.2.2.2.2.1 _ hmsg
  rw [← hown] at hstr
  have hXw := xw_here C hXW
  intro T hT X
  have htr : e.platform.stackTraces = false := (show e.platform.stackTraces = l.stackTraces by rw [X.admits.platform]).trans hlx
  have Y9 := vx_rebase X (R' := { frames := R.frames, locals := R.locals, cells := 1, slots := 6 }) (Nat.le_refl _) (Nat.le_refl _) hRc hRs
  obtain ⟨s', hA⟩ : ∃ z, z = (T.setVm s.vm).setFrames (.invoking m args :: below) := ⟨_, rfl⟩
  rw [← hA] at Y9
  have hvm : s'.vm = s.vm := by rw [hA]; rfl
  have hhp : s'.heap = H := by rw [hA]; exact hT
  have hW0 : s.WarmedH s'.vm := by rw [hvm]; exact State.WarmedH.refl s
  have hg1 : ∀ w, vx_ot w = true → w.before args s = true → w.before args s' = true := fun w h1 h2 => vx_ot_at hW0 hvm.symm h1 h2
  have hgb : ∀ w, w ∈ BW → w.before args s' = true := fun w h1 => hg1 w (by simp only [vx_ot, Bool.or_eq_true]; exact Or.inr (List.mem_filter.mp h1).2) (hts w h1)
  have hU' : vx_Zq Bundle.tN "UNASSIGNED_STACK" Bundle.steD (AE E) s' s'.heap := by rw [hhp]; exact vx_Zq.moved hW0.alike (hF.2.2.2.1.kept hs1.2.1)
  have hN' : vx_Zq Bundle.tN "SUPPRESSED_SENTINEL" Bundle.listD (AE E) s' s'.heap := by rw [hhp]; exact vx_Zq.moved hW0.alike (hF.2.2.2.2.1.kept hs1.2.1)
  have h : ∀ w ∈ xsA own ic cls ix bX Y r, w.before args s' = true := vx_own (fun w hw1 => hg1 w (hXw w hw1).2 (hXw w hw1).1) (vx_isRefq hU'.1) (vx_isRefq hN'.1) hU'.2.word hN'.2.word
  have hown' : s'.vm.findClass own = some m.cls := by rw [hvm]; exact hown1
  have hins : (Cond.instantiable cls 6).before args s' = true := h _ (by simp [xsA])
  obtain ⟨vm₁, cX, kX, hfX, hkX, -, -, X₁, st1⟩ := Y9.newCold hx1 (own := own) (C := cls) (index := ik) (n := 6) hown' (hgb _ hk) hins (hgb _ hini)
    (g := F0 m pc ls (S.map (tr ad))) rfl (by rw [hb]; exact d0) (Nat.le_refl _) (Nat.le_refl _)
  generalize hT1 : (T.setVm vm₁).pushCell { cls := cX, slots := kX.instanceTypes.map defaultValue, vm := .none } = T1 at X₁ st1
  have hcat : (Value.ref T.heap.size).category = 1 := rfl
  have hcellA : T1.heap[T.heap.size]? = some (freshCell cX kX) := by rw [← hT1]; exact State.heap_pushCell_size _ _
  have d3' : decode c.code (pc + 3) = .ok (.dup, 1) := by rw [hb]; exact d3
  have d4' : decode c.code (pc + 4) = .ok (.ldc_w is, 3) := by rw [hb]; exact d4
  have hstr' : vk_R own is text sa s' := vk_R.warm hW0 hstr
  have hsum : ((S.map (tr ad)).map fun v => v.category).sum + (13 * (r.length + 2) + 43) ≤ R.locals := by rw [cat_trS]; exact hRl
  obtain ⟨U, hsteps, hrun, hend, hW, hsame, ce, hce, hv0, hcl0⟩ := xs_ctor X₁ hx1 htr hXW.2.1 (own := own) hown' hXW.2.2.1 hXW.2.2.2.1 hXW.2.2.2.2 h (fun x hx => nomatch hx) hfX hkX hcellA (by rw [hhp, hT]; exact Nat.le_refl _) (msg := .ref sa) rfl
    (g := { method := m, pc := pc + 7, locals := ls, stack := .ref sa :: .ref T.heap.size :: .ref T.heap.size :: S.map (tr ad), locked := none }) rfl (by rw [hml]; exact hl.1) rfl rfl (rest := S.map (tr ad)) rfl
    (by rw [hb]; exact d6) (by rw [hb]; exact d9) (fun x hx => absurd (htb x hx) id) hRf (by
      have e0 : JFrame.monitorRoom { method := m, pc := pc + 7, locals := ls, stack := .ref sa :: .ref T.heap.size :: .ref T.heap.size :: S.map (tr ad), locked := none } = 0 := rfl
      rw [e0]
      simp only [List.map_cons, List.sum_cons, hcat]; omega) hlocks
  obtain ⟨f1, f2⟩ := vx_frame hsame
  rw [hhp] at f1 f2
  have hWs : s.WarmedH U.vm := State.WarmedH.trans hW0 hW
  have hcl : s.vm.findClass cls = some ce.cls := by rw [← hvm]; exact hcl0
  have hall : s.sameButNew ({ U with vm := s.vm } : State) locs mc ms := by
    subst hA
    obtain ⟨e1, e2⟩ := hsame
    rw [State.setFrames_setFrames] at e1
    have h2 : (T.setVm s.vm).sameButNew ({ U with vm := s.vm } : State) [] (0 + 1) (0 + 6) := ⟨e1, e2⟩
    have h3 := X.same.trans h2
    rw [List.append_nil] at h3
    exact h3.mono hc hs
  have hkeep : ∀ q : Nat, q < H.size → U.heap[q]? = H[q]? := fun q hq => f2 q hq (fun z hz => nomatch hz)
  have hXC : XX E st σ α (.inl x) ad0 cls s U := by
    refine ⟨x, rfl, ⟨hx.symm, ?_⟩, ?_⟩
    · refine Wh.agr (ad := ad) (fun a h9 => (ha.2 a h9).symm) ?_
      obtain ⟨w1, w2, w3⟩ := hw
      exact ⟨w1.kept (fun k q hq => hkeep q.1 ((w1 k q hq).lt)), w2, w3⟩
    · exact ⟨Nat.le_trans hs1.1 f1, fun q h1 h2 => by rw [hkeep q (Nat.lt_of_lt_of_le h1 hs1.1)]; exact hs1.2.1 q h1 h2⟩
  refine ⟨U, ?_, .threw T.heap.size, hrun, hend, Or.inr ⟨T.heap.size, rfl, cls, ce, locs, hXC, hce, hv0, hcl, hWs, hall, hs1.2.2⟩⟩
  refine st1 _ ?_
  show Steps p.tables e below (T1.setTop { method := m, pc := pc + 3, locals := ls, stack := .ref T.heap.size :: S.map (tr ad), locked := none }) _
  jvm_step X₁.here [X₁.here.top, hx1, d3', Value.category]
  exact X₁.ldcStringW hx1 (own := own) (text := text) (index := is) (a := sa) hown' hstr'.1 hstr'.2
    (g := { method := m, pc := pc + 4, locals := ls, stack := .ref T.heap.size :: .ref T.heap.size :: S.map (tr ad), locked := none }) rfl d4' _ hsteps
theorem run_Vx (C : Cx E p s m args meth c cc nL own) {y : MethodName} {bytes : ByteArray} {maxL ix d mc ms ci b : Nat} {ret : Option FieldType} {q : vw_C} {α : Type} {r : Nat ⊕ (α × Sto)} {Qc : (Nat → Nat) → Array Value → State → Outcome → State → Prop} (As rest : List Value) {S0 : List Value} (hM : MX l y bytes maxL ret d mc ms E st σ (.ref b :: As) α r Qc)
    (hML : MLc y bytes maxL ret As.length) (hMV : MLv y) (hl : Cond.methodLink own ix y ∈ BW) (hR : d + 1 ≤ R.frames ∧ 8 + (maxL + 11) + 100 * d ≤ R.locals) (hf : cells + mc ≤ R.cells ∧ slots + ms ≤ R.slots) (hq : vwCl[ci]? = some q) (hy : q.1 = y.cls) (hk : KO st σ b (ci + 1)) (hS : S0 = As.reverse ++ .ref b :: rest) (hsum : (rest.map fun v => v.category).sum ≤ 8) (hd : decode cc pc = .ok (.invokevirtual ix, 3)) :
    RunX p l e R s m args below meth c E st nL cells slots σ pc L S0 rest mc ms (fun ad => Qc ad (Value.ref (ad b) :: As.map (tr ad)).toArray) (XX E st σ α r) := by
  refine ⟨⟨As.reverse ++ [.ref b], by rw [hS]; simp⟩, fun ad H locs ls hw hs hl2 vs => ?_⟩
  obtain ⟨hb0, cellB, b1, b2, b3⟩ := recv_here C hw hq hk
  rw [hy] at b3
  subst hS
  have vs1 := vokS_app.mp vs
  have vA : vokS (sZ σ) (.ref b :: As) := ⟨vs1.2.1, vokS_rev.mp vs1.1⟩
  have e0 : (Value.ref b :: As).map (tr ad) = .ref (ad b) :: As.map (tr ad) := by rw [List.map_cons, show tr ad (.ref b) = .ref (ad b) from rv_ne hb0]
  have hp : PreV s H y.cls (ad b) (PcA E st σ (.ref b :: As) ad) (As.map (tr ad)) := ⟨PcA_blind, ⟨cellB, b1, b2, b3⟩, fun U hU hW => by rw [← e0]; exact pre_here C hw hs vA U hU hW⟩
  rw [map_app_rev hb0]
  exact vx_runV (As := As.map (tr ad)) (rest := rest.map (tr ad)) ⟨C.1, C.2.1, C.2.2.1, C.2.2.2.1, C.2.2.2.2.1⟩ (hM ad) ⟨callB_here C hML hl hR, C.2.2.2.2.1 _ hMV.1, C.2.2.2.2.1 _ hMV.2⟩ hp rfl (List.length_map _) hl2.1 rfl (lv_room (by rw [cat_trS]; exact hsum)) hd hf
theorem G_callIx {mc ms : Nat} {rest S0 : List Value} {a : (Nat → Nat) → Array Value} {v : Int32} {σ' : Sto} (hr : RunX p l e R s m args below meth c E st nL cells slots σ pc L S0 rest mc ms (fun ad => QIx E st σ (.inr (v, σ')) ad (a ad)) (XX E st σ Int32 (.inr (v, σ')))) (kk : G p l e R s m args below meth c E st n0 ad0 Q nL (cells + mc) (slots + ms) σ' (pc + 3) L (.int v :: rest)) : G p l e R s m args below meth c E st n0 ad0 Q nL cells slots σ pc L S0 := by
  intro ad H locs ls hw hs ha hl vl vs
  obtain ⟨⟨X, hX⟩, hr⟩ := hr
  have vr : vokS (sZ σ) rest := (vokS_app.mp (by rw [← hX]; exact vs)).2
  refine vx_calli (hr ad H locs ls hw hs hl vs) hs (fun q _ h => h) (fun q h => h) (fun q _ h => h) (fun E9 ce q9 u t H1 locs1 ht hvm hpx => nomatch hpx) (fun r u t H1 locs1 ht hvm hp hB hz hk hs1 => ?_)
  obtain ⟨he, hag, hz9⟩ := hp
  obtain ⟨ad', σ9⟩ := u
  cases he
  have hw1 : Wh E st ad' σ9 H1 := by rw [← ht]; exact hB
  have h9 := G_go kk hw1 hs1 ha hag hz9 hl vl (vokS_mono hz9 vr)
  rw [← trS_agr hag vr]
  exact h9
theorem G_callIx_thr (C : Cx E p s m args meth c cc nL own) (htb : ∀ x ∈ c.exceptionTable.toList, False) {mc ms mc' ms' x : Nat} {β : Type} {Qc : Array Value → State → Outcome → State → Prop} {rest S0 : List Value} {a : (Nat → Nat) → Array Value} (h1 : cells + mc ≤ mc') (h2 : slots + ms ≤ ms') (hr : RunX p l e R s m args below meth c E st nL cells slots σ pc L S0 rest mc ms (fun ad => QIx E st σ (.inl x) ad (a ad)) (XX E st σ Int32 (.inl x))) : G p l e R s m args below meth c E st (sZ σ) ad0 (vx_MQ below Qc (XX E st σ β (.inl x) ad0) args s mc' ms' (AE E)) nL cells slots σ pc L S0 := by
  intro ad H locs ls hw hs ha hl vl vs
  obtain ⟨⟨X, hX⟩, hr⟩ := hr
  refine vx_calli (hr ad H locs ls hw hs hl vs) hs (fun q _ h => h) (fun q h => h) (fun q _ h => h) (fun E9 ce q9 u t H1 locs1 ht hvm hpx hB hz hk hs1 hce hcv hcl => ?_) (fun r u t H1 locs1 ht hvm hp => nomatch hp.1)
  cases hpx
  obtain ⟨hE, hB⟩ := hB
  refine vx_out (fun x hx => absurd (htb x hx) id) C.2.2.2.2.2.1 hce hcv hcl (fun t2 ht2 hvm2 => ⟨_, rfl, ⟨hE, ?_⟩, hs1.F ht2⟩) hs1.2.2 h1 h2
  rw [ht2, ← ht]
  exact Wh.agr (ad := ad) (fun a h9 => (ha.2 a h9).symm) hB
theorem G_callLx {mc ms : Nat} {rest S0 : List Value} {a : (Nat → Nat) → Array Value} {v : Int64} {σ' : Sto} (hr : RunX p l e R s m args below meth c E st nL cells slots σ pc L S0 rest mc ms (fun ad => QLx E st σ (.inr (v, σ')) ad (a ad)) (XX E st σ Int64 (.inr (v, σ')))) (kk : G p l e R s m args below meth c E st n0 ad0 Q nL (cells + mc) (slots + ms) σ' (pc + 3) L (.long v :: rest)) : G p l e R s m args below meth c E st n0 ad0 Q nL cells slots σ pc L S0 := by
  intro ad H locs ls hw hs ha hl vl vs
  obtain ⟨⟨X, hX⟩, hr⟩ := hr
  have vr : vokS (sZ σ) rest := (vokS_app.mp (by rw [← hX]; exact vs)).2
  refine vx_calll (hr ad H locs ls hw hs hl vs) hs (fun q _ h => h) (fun q h => h) (fun q _ h => h) (fun E9 ce q9 u t H1 locs1 ht hvm hpx => nomatch hpx) (fun r u t H1 locs1 ht hvm hp hB hz hk hs1 => ?_)
  obtain ⟨he, hag, hz9⟩ := hp
  obtain ⟨ad', σ9⟩ := u
  cases he
  have hw1 : Wh E st ad' σ9 H1 := by rw [← ht]; exact hB
  have h9 := G_go kk hw1 hs1 ha hag hz9 hl vl (vokS_mono hz9 vr)
  rw [← trS_agr hag vr]
  exact h9
theorem G_callLx_thr (C : Cx E p s m args meth c cc nL own) (htb : ∀ x ∈ c.exceptionTable.toList, False) {mc ms mc' ms' x : Nat} {β : Type} {Qc : Array Value → State → Outcome → State → Prop} {rest S0 : List Value} {a : (Nat → Nat) → Array Value} (h1 : cells + mc ≤ mc') (h2 : slots + ms ≤ ms') (hr : RunX p l e R s m args below meth c E st nL cells slots σ pc L S0 rest mc ms (fun ad => QLx E st σ (.inl x) ad (a ad)) (XX E st σ Int64 (.inl x))) : G p l e R s m args below meth c E st (sZ σ) ad0 (vx_MQ below Qc (XX E st σ β (.inl x) ad0) args s mc' ms' (AE E)) nL cells slots σ pc L S0 := by
  intro ad H locs ls hw hs ha hl vl vs
  obtain ⟨⟨X, hX⟩, hr⟩ := hr
  refine vx_calll (hr ad H locs ls hw hs hl vs) hs (fun q _ h => h) (fun q h => h) (fun q _ h => h) (fun E9 ce q9 u t H1 locs1 ht hvm hpx hB hz hk hs1 hce hcv hcl => ?_) (fun r u t H1 locs1 ht hvm hp => nomatch hp.1)
  cases hpx
  obtain ⟨hE, hB⟩ := hB
  refine vx_out (fun x hx => absurd (htb x hx) id) C.2.2.2.2.2.1 hce hcv hcl (fun t2 ht2 hvm2 => ⟨_, rfl, ⟨hE, ?_⟩, hs1.F ht2⟩) hs1.2.2 h1 h2
  rw [ht2, ← ht]
  exact Wh.agr (ad := ad) (fun a h9 => (ha.2 a h9).symm) hB
theorem G_callVx {mc ms : Nat} {rest S0 : List Value} {a : (Nat → Nat) → Array Value}  {σ' : Sto} (hr : RunX p l e R s m args below meth c E st nL cells slots σ pc L S0 rest mc ms (fun ad => QVx E st σ (.inr ((), σ')) ad (a ad)) (XX E st σ Unit (.inr ((), σ')))) (kk : G p l e R s m args below meth c E st n0 ad0 Q nL (cells + mc) (slots + ms) σ' (pc + 3) L rest) : G p l e R s m args below meth c E st n0 ad0 Q nL cells slots σ pc L S0 := by
  intro ad H locs ls hw hs ha hl vl vs
  obtain ⟨⟨X, hX⟩, hr⟩ := hr
  have vr : vokS (sZ σ) rest := (vokS_app.mp (by rw [← hX]; exact vs)).2
  refine vx_callv (hr ad H locs ls hw hs hl vs) hs (fun q _ h => h) (fun q h => h) (fun q _ h => h) (fun E9 ce q9 u t H1 locs1 ht hvm hpx => nomatch hpx) (fun  u t H1 locs1 ht hvm hp hB hz hk hs1 => ?_)
  obtain ⟨he, hag, hz9⟩ := hp
  obtain ⟨ad', σ9⟩ := u
  cases he
  have hw1 : Wh E st ad' σ9 H1 := by rw [← ht]; exact hB
  have h9 := G_go kk hw1 hs1 ha hag hz9 hl vl (vokS_mono hz9 vr)
  rw [← trS_agr hag vr]
  exact h9
theorem G_callVx_thr (C : Cx E p s m args meth c cc nL own) (htb : ∀ x ∈ c.exceptionTable.toList, False) {mc ms mc' ms' x : Nat} {β : Type} {Qc : Array Value → State → Outcome → State → Prop} {rest S0 : List Value} {a : (Nat → Nat) → Array Value} (h1 : cells + mc ≤ mc') (h2 : slots + ms ≤ ms') (hr : RunX p l e R s m args below meth c E st nL cells slots σ pc L S0 rest mc ms (fun ad => QVx E st σ (.inl x) ad (a ad)) (XX E st σ Unit (.inl x))) : G p l e R s m args below meth c E st (sZ σ) ad0 (vx_MQ below Qc (XX E st σ β (.inl x) ad0) args s mc' ms' (AE E)) nL cells slots σ pc L S0 := by
  intro ad H locs ls hw hs ha hl vl vs
  obtain ⟨⟨X, hX⟩, hr⟩ := hr
  refine vx_callv (hr ad H locs ls hw hs hl vs) hs (fun q _ h => h) (fun q h => h) (fun q _ h => h) (fun E9 ce q9 u t H1 locs1 ht hvm hpx hB hz hk hs1 hce hcv hcl => ?_) (fun  u t H1 locs1 ht hvm hp => nomatch hp.1)
  cases hpx
  obtain ⟨hE, hB⟩ := hB
  refine vx_out (fun x hx => absurd (htb x hx) id) C.2.2.2.2.2.1 hce hcv hcl (fun t2 ht2 hvm2 => ⟨_, rfl, ⟨hE, ?_⟩, hs1.F ht2⟩) hs1.2.2 h1 h2
  rw [ht2, ← ht]
  exact Wh.agr (ad := ad) (fun a h9 => (ha.2 a h9).symm) hB
end XG
def embS {α : Type} (σ : Sto) (r : Nat ⊕ α) : Nat ⊕ (α × Sto) := match r with
  | .inl e => .inl e
  | .inr v => .inr (v, σ)
def bdp {α γ : Type} (x : Option (Nat ⊕ α)) (f : α → Option (Nat ⊕ γ)) : Option (Nat ⊕ γ) := x.bind fun q => match q with
  | .inl e => some (.inl e)
  | .inr v => f v
theorem bdp_elim {α γ : Type} {x : Option (Nat ⊕ α)} {f : α → Option (Nat ⊕ γ)} {r : Nat ⊕ γ} (h : bdp x f = some r) : (∃ e, x = some (.inl e) ∧ r = .inl e) ∨ ∃ v, x = some (.inr v) ∧ f v = some r := by
  cases x with
  | none => cases h
  | some q =>
    cases q with
    | inl e => exact Or.inl ⟨e, rfl, (Option.some.inj h).symm⟩
    | inr v => exact Or.inr ⟨v, rfl, h⟩
theorem xi_0 : Cond.initialized nsE ∈ BW := bw (t_1 _ (List.mem_of_getElem? (i := 17) rfl)) rfl
theorem xi_1 : Cond.initialized iaE ∈ BW := bw (t_1 _ (List.mem_of_getElem? (i := 18) rfl)) rfl
theorem xw_202 : XW RX11 202 nsE 13 prog_29_method_4_code "java/lang/RuntimeException" ["java/lang/Exception"] := ⟨by decide +kernel, ⟨by decide +kernel, by decide +kernel, by decide +kernel, by decide +kernel⟩, by decide +kernel, by decide +kernel, by decide +kernel⟩
theorem xw_155 : XW RX11 155 iaE 7 prog_20_method_2_code "java/lang/RuntimeException" ["java/lang/Exception"] := ⟨by decide +kernel, ⟨by decide +kernel, by decide +kernel, by decide +kernel, by decide +kernel⟩, by decide +kernel, by decide +kernel, by decide +kernel⟩
