/-! THE CLAIM OUT OF ONE WALK OF THE LAW'S BODY. Your part is whole_start (and what it stands on); all else here is the same for every law, but numbers. -/
def R_law : String := "SalePartLaw"
def lw_P (b : Addr) (xs : List Int32) (args : Array Value) (s : State) : Prop := args = #[.ref b] ∧ s.IntsAt b xs ∧ xs.length ≤ 4096 ∧ (Jvm.Cond.and given_1 narrow_1).before args s = true
def lw_Q (_ : Array Value) (s : State) (o : Outcome) (t : State) : Prop := o = .returned (some (.int 1)) ∧ Framed s o t [] room_1.cells room_1.slots
def lw_Z (below : List Frame) (a : Array Value) (s : State) : State → Prop := fun t => ∃ o, t.status = .running ∧ Ended t below o ∧ lw_Q a s o t
/-- the law's own end, with 1 on the stack, nothing written that was there before, its room as the claim has it -/
theorem lw_ret {p : Program} {l : Launch} {e : Env} {s : State} {m : MethodId} {below : List Frame} {meth : Method} {c : Code} {b : Nat} (hx : p.tables.exec = Jvm.exec) (hb : c.code = code) (hr : meth.sig.returnType = ret) (hlocks : meth.locks = false) {pc : Nat} {H : Heap} {ls : Array Slot} (hdg : decode code pc = .ok (.ireturn, 1)) : W p l e room_1 s m #[Value.ref b] below meth c H [] room_1.cells room_1.slots (lw_Z below #[Value.ref b] s) (F0 m pc ls [.int 1]) := by
  intro T hT X
  obtain ⟨fs, hret, hrun, hended, hW, hframe⟩ := X.leave (v := some (.int 1)) (hlocks := hlocks) (fun h => by rw [hr] at h; cases h)
  have hmeth' : T.vm.method? m = some meth := X.method'
  refine ⟨T.setFrames fs, ?_, .returned (some (.int 1)), hrun, hended, rfl, ⟨_, rfl⟩, hW, hframe⟩
  jvm_step X.here [X.here.top, hx, hb, hdg, hmeth', hr, ret, narrow_b1]
  (try refine ⟨rfl, ?_⟩); (try refine ⟨rfl, ?_⟩)
  first | (intro acts; rw [hret _ acts rfl rfl rfl]) | rw [hret _ _ rfl rfl rfl]
  exact Steps.refl _
/-- what holds at the law's entry: the machine, the code, the tables' words (any of lw_tbl by 'hts w (by decide +kernel)'), the script of L ints xs at the cell b, what the Statement gives of the start (any of its parts by flat_of_before) -/
def lw_At (p : Program) (s : State) (m : MethodId) (meth : Method) (c : Code) (b L : Nat) (xs : Nat → Int32) : Prop :=
  p.tables.exec = Jvm.exec ∧ c.code = code ∧ meth.sig.returnType = ret ∧ c.maxLocals = 8 ∧ s.vm.findClass R_law = some m.cls ∧ (∀ w ∈ lw_tbl, w.before #[Value.ref b] s = true) ∧ va_X b L xs s s.heap ∧ b < s.heap.size ∧ meth.locks = false ∧ (Jvm.Cond.and given_1 narrow_1).before #[Value.ref b] s = true
section
variable {p : Program} {l : Launch} {e : Env} {s : State} {m : MethodId} {below : List Frame} {meth : Method} {c : Code} {Q : State → Prop} {E : Ev} {st : Bool} {n0 : Nat} {ad0 : Nat → Nat} {nL cells slots : Nat} {σ : Sto} {pc : Nat} {L : List (Nat × Value)} {S : List Value} {cc : ByteArray} {own : String} {R : Room} {args : Array Value}
theorem rmc {a : Nat} (h : a ≤ 100000) : a ≤ room_1.cells := Nat.le_trans h (Nat.le_of_ble_eq_true rfl)
theorem rms {a : Nat} (h : a ≤ 1000000) : a ≤ room_1.slots := Nat.le_trans h (Nat.le_of_ble_eq_true rfl)
theorem tr_scr {ad : Nat → Nat} {H : Heap} {b xL : Nat} {xs : Nat → Int32} (hx : E.2.2.2.1 = (b, xL, xs)) (hw : Wh E st ad σ H) : tr ad (.ref 1) = .ref b := (rv_ne (a := 1) (by decide)).trans (by rw [hw.2.2.2.2.2.1.1, hx])
theorem scr_at {b xL : Nat} {xs : Nat → Int32} (hx : E.2.2.2.1 = (b, xL, xs)) (C : Cx E p s m args meth c cc nL own) : va_X b xL xs s s.heap ∧ b < s.heap.size ∧ ¬ AE E b := by
  have h1 := C.2.2.2.2.2.2.2.2.2.2.2.2.2.2.1
  have h2 := C.2.2.2.2.2.2.2.2.2.2.2.2.2.2.2.1
  rw [hx] at h1 h2
  obtain ⟨scr, g1, g2⟩ := h1
  exact ⟨⟨scr, g1, g2⟩, (Array.getElem?_eq_some_iff.mp g1).1, h2⟩
theorem G_xlen (C : Cx E p s m args meth c cc nL own) {b xL : Nat} {xs : Nat → Int32} (hx : E.2.2.2.1 = (b, xL, xs)) (hd : decode cc pc = .ok (.arraylength, 1)) (kk : G p l e R s m args below meth c E st n0 ad0 Q nL cells slots σ (pc + 1) L (.int (Int32.ofNat xL) :: S)) : G p l e R s m args below meth c E st n0 ad0 Q nL cells slots σ pc L (.ref 1 :: S) := by
  intro ad H locs ls hw hs ha hl vl vs
  have h := kk ad H locs ls hw hs ha hl vl vs.2
  rw [List.map_cons, tr_scr hx hw]
  obtain ⟨g1, g2, g3⟩ := scr_at hx C
  exact va_slen C.1 C.2.1 g1 g2 g3 hs hd h
theorem G_xld (C : Cx E p s m args meth c cc nL own) {b xL : Nat} {xs : Nat → Int32} {i : Int32} (hx : E.2.2.2.1 = (b, xL, xs)) (hi : inb i xL) (hd : decode cc pc = .ok (.iaload, 1)) (kk : G p l e R s m args below meth c E st n0 ad0 Q nL cells slots σ (pc + 1) L (.int (xs i.toNatClampNeg) :: S)) : G p l e R s m args below meth c E st n0 ad0 Q nL cells slots σ pc L (.int i :: .ref 1 :: S) := by
  intro ad H locs ls hw hs ha hl vl vs
  have h := kk ad H locs ls hw hs ha hl vl vs.2
  rw [List.map_cons, List.map_cons, tr_scr hx hw]
  obtain ⟨g1, g2, g3⟩ := scr_at hx C
  exact va_sld C.1 C.2.1 g1 g2 g3 hs (inb_in hi) hd h
theorem G_lawret {b : Nat} (C : Cx E p s m #[Value.ref b] meth c cL_law_ 8 own) (hE : E.2.2.1 = s.heap.size) (hr : meth.sig.returnType = some .boolean) (h1 : cells ≤ room_1.cells) (h2 : slots ≤ room_1.slots) (hd : decode cL_law_ pc = .ok (.ireturn, 1)) : G p l e room_1 s m #[Value.ref b] below meth c E st n0 ad0 (lw_Z below #[Value.ref b] s) 8 cells slots σ pc L [.int 1] := by
  intro ad H locs ls hw hs ha hl vl vs
  refine va_forget (fun q hq => by have := hs.2.2 q hq; unfold AE at this; rw [hE] at this; exact this) ?_
  refine W.widen h1 h2 ?_
  exact lw_ret C.1 C.2.1 hr C.2.2.2.2.2.1 hd
end
def mL_law_259 (xs : Nat → Int32) (xL : Nat) (f23 : Int32 → Sto → Option Int32) (x4 : Int32) (y0 : Int64) (y1 : Int64) (σ : Sto) : Option Int32 :=
  if (lg_cmp y0 y1) = 0 then (
    f23 (x4 + (8 : Int32)) σ
  ) else (
    some 0
  )
def mL_law_1148 (xs : Nat → Int32) (xL : Nat) (f23 : Int32 → Sto → Option Int32) (x4 : Int32) (y0 : Int64) (y1 : Int64) (σ : Sto) : Option Int32 :=
  if (lg_cmp y0 y1) = 0 then (
    f23 (x4 + (8 : Int32)) σ
  ) else (
    some 0
  )
def mL_law_1108 (xs : Nat → Int32) (xL : Nat) (f23 : Int32 → Sto → Option Int32) (x4 : Int32) (x5 : Int32) (y1 : Int32) (σ : Sto) : Option Int32 :=
  if inb (x4 + (2 : Int32)) xL then
  bd2 (mX12_back y1 (xs ((x4 + (2 : Int32))).toNatClampNeg) σ) fun v122 σ122 =>
  if (mX12_thrown σ122) = x5 then (
    if x5 = 0 then (
      if v122 = 0 then (
        mL_law_1148 xs xL f23 x4 (sL σ122 146 ((0 : Int32)).toNatClampNeg) (0 : Int64) σ122
      ) else (
        mL_law_1148 xs xL f23 x4 (sL σ122 146 ((0 : Int32)).toNatClampNeg) (1 : Int64) σ122
      )
    ) else (
      f23 (x4 + (8 : Int32)) σ122
    )
  ) else (
    some 0
  )
  else none
def mL_law_1081 (xs : Nat → Int32) (xL : Nat) (f23 : Int32 → Sto → Option Int32) (x4 : Int32) (y1 : Int32) (σ : Sto) : Option Int32 :=
  if inb (x4 + (2 : Int32)) xL then
  bd2 (mL_back y1 (xs ((x4 + (2 : Int32))).toNatClampNeg) σ) fun v118 σ118 =>
  if inb (x4 + (1 : Int32)) xL then
  if (xs ((x4 + (1 : Int32))).toNatClampNeg) = 0 then (
    mL_law_1108 xs xL f23 x4 v118 (0 : Int32) σ118
  ) else (
    mL_law_1108 xs xL f23 x4 v118 (1 : Int32) σ118
  )
  else none
  else none
def mL_law_1223 (xs : Nat → Int32) (xL : Nat) (f23 : Int32 → Sto → Option Int32) (x4 : Int32) (y0 : Int64) (y1 : Int64) (σ : Sto) : Option Int32 :=
  if (lg_cmp y0 y1) = 0 then (
    f23 (x4 + (8 : Int32)) σ
  ) else (
    some 0
  )
set_option maxRecDepth 100000 in
def mL_law_23B (xs : Nat → Int32) (xL : Nat) (f23 : Int32 → Sto → Option Int32) (x4 : Int32) (σ : Sto) : Option Int32 :=
  if ((Int32.ofNat xL) - (8 : Int32)) < x4 then (
    some 1
  ) else (
    if inb x4 xL then
    if ((xs (x4).toNatClampNeg) &&& (31 : Int32)) = (0 : Int32) then (
      bd2 (mX11_land σ) fun v4 σ4 =>
      bd2 (mX12_land σ4) fun v5 σ5 =>
      if v4 = v5 then (
        f23 (x4 + (8 : Int32)) σ5
      ) else (
        some 0
      )
    ) else
    if ((xs (x4).toNatClampNeg) &&& (31 : Int32)) = (1 : Int32) then (
      if inb (x4 + (1 : Int32)) xL then
      if inb (x4 + (2 : Int32)) xL then
      if inb (x4 + (3 : Int32)) xL then
      bd2 (mL_rate (xs ((x4 + (1 : Int32))).toNatClampNeg) (xs ((x4 + (2 : Int32))).toNatClampNeg) (xs ((x4 + (3 : Int32))).toNatClampNeg) σ) fun v11 σ11 =>
      bd2 (mX12_rate (xs ((x4 + (1 : Int32))).toNatClampNeg) (xs ((x4 + (2 : Int32))).toNatClampNeg) (xs ((x4 + (3 : Int32))).toNatClampNeg) σ11) fun v12 σ12 =>
      if (mX12_thrown σ12) = v11 then (
        if v11 = 0 then (
          if v12 = 0 then (
            mL_law_259 xs xL f23 x4 (sL σ12 146 ((0 : Int32)).toNatClampNeg) (0 : Int64) σ12
          ) else (
            mL_law_259 xs xL f23 x4 (sL σ12 146 ((0 : Int32)).toNatClampNeg) (1 : Int64) σ12
          )
        ) else (
          f23 (x4 + (8 : Int32)) σ12
        )
      ) else (
        some 0
      )
      else none
      else none
      else none
    ) else
    if ((xs (x4).toNatClampNeg) &&& (31 : Int32)) = (2 : Int32) then (
      if inb (x4 + (1 : Int32)) xL then
      if inb (x4 + (2 : Int32)) xL then
      bd2 (mL_person (xs ((x4 + (1 : Int32))).toNatClampNeg) (xs ((x4 + (2 : Int32))).toNatClampNeg) σ) fun v21 σ21 =>
      bd2 (mX12_person (xs ((x4 + (1 : Int32))).toNatClampNeg) (xs ((x4 + (2 : Int32))).toNatClampNeg) σ21) fun v22 σ22 =>
      if (mX12_thrown σ22) = v21 then (
        if v21 = 0 then (
          if (lg_cmp (sL σ22 146 ((0 : Int32)).toNatClampNeg) (v22).toInt64) = 0 then (
            f23 (x4 + (8 : Int32)) σ22
          ) else (
            some 0
          )
        ) else (
          f23 (x4 + (8 : Int32)) σ22
        )
      ) else (
        some 0
      )
      else none
      else none
    ) else
    if ((xs (x4).toNatClampNeg) &&& (31 : Int32)) = (3 : Int32) then (
      if inb (x4 + (1 : Int32)) xL then
      if inb (x4 + (2 : Int32)) xL then
      if inb (x4 + (3 : Int32)) xL then
      if inb (x4 + (4 : Int32)) xL then
      if inb (x4 + (5 : Int32)) xL then
      if inb (x4 + (6 : Int32)) xL then
      bd2 (mL_work (xs ((x4 + (1 : Int32))).toNatClampNeg) (xs ((x4 + (2 : Int32))).toNatClampNeg) (xs ((x4 + (3 : Int32))).toNatClampNeg) (xs ((x4 + (4 : Int32))).toNatClampNeg) (xs ((x4 + (5 : Int32))).toNatClampNeg) (xs ((x4 + (6 : Int32))).toNatClampNeg) σ) fun v34 σ34 =>
      bd2 (mX12_work (xs ((x4 + (1 : Int32))).toNatClampNeg) (xs ((x4 + (2 : Int32))).toNatClampNeg) (xs ((x4 + (3 : Int32))).toNatClampNeg) (xs ((x4 + (4 : Int32))).toNatClampNeg) (xs ((x4 + (5 : Int32))).toNatClampNeg) (xs ((x4 + (6 : Int32))).toNatClampNeg) σ34) fun v35 σ35 =>
      if (mX12_thrown σ35) = v34 then (
        if v34 = 0 then (
          if (lg_cmp (sL σ35 146 ((0 : Int32)).toNatClampNeg) (v35).toInt64) = 0 then (
            f23 (x4 + (8 : Int32)) σ35
          ) else (
            some 0
          )
        ) else (
          f23 (x4 + (8 : Int32)) σ35
        )
      ) else (
        some 0
      )
      else none
      else none
      else none
      else none
      else none
      else none
    ) else
    if ((xs (x4).toNatClampNeg) &&& (31 : Int32)) = (4 : Int32) then (
      if inb (x4 + (1 : Int32)) xL then
      if inb (x4 + (2 : Int32)) xL then
      if inb (x4 + (3 : Int32)) xL then
      bd2 (mL_joins (xs ((x4 + (1 : Int32))).toNatClampNeg) (xs ((x4 + (2 : Int32))).toNatClampNeg) (xs ((x4 + (3 : Int32))).toNatClampNeg) σ) fun v44 σ44 =>
      bd2 (mX12_joins (xs ((x4 + (1 : Int32))).toNatClampNeg) (xs ((x4 + (2 : Int32))).toNatClampNeg) (xs ((x4 + (3 : Int32))).toNatClampNeg) σ44) fun v45 σ45 =>
      if (mX12_thrown σ45) = v44 then (
        if v44 = 0 then (
          if (lg_cmp (sL σ45 146 ((0 : Int32)).toNatClampNeg) (v45).toInt64) = 0 then (
            f23 (x4 + (8 : Int32)) σ45
          ) else (
            some 0
          )
        ) else (
          f23 (x4 + (8 : Int32)) σ45
        )
      ) else (
        some 0
      )
      else none
      else none
      else none
    ) else
    if ((xs (x4).toNatClampNeg) &&& (31 : Int32)) = (5 : Int32) then (
      if inb (x4 + (1 : Int32)) xL then
      if inb (x4 + (2 : Int32)) xL then
      bd2 (mL_society (xs ((x4 + (1 : Int32))).toNatClampNeg) (xs ((x4 + (2 : Int32))).toNatClampNeg) σ) fun v53 σ53 =>
      bd2 (mX12_society (xs ((x4 + (1 : Int32))).toNatClampNeg) (xs ((x4 + (2 : Int32))).toNatClampNeg) σ53) fun v54 σ54 =>
      if (mX12_thrown σ54) = v53 then (
        if v53 = 0 then (
          if (lg_cmp (sL σ54 146 ((0 : Int32)).toNatClampNeg) (v54).toInt64) = 0 then (
            f23 (x4 + (8 : Int32)) σ54
          ) else (
            some 0
          )
        ) else (
          f23 (x4 + (8 : Int32)) σ54
        )
      ) else (
        some 0
      )
      else none
      else none
    ) else
    if ((xs (x4).toNatClampNeg) &&& (31 : Int32)) = (6 : Int32) then (
      if inb (x4 + (1 : Int32)) xL then
      bd2 (mL_evenings (xs ((x4 + (1 : Int32))).toNatClampNeg) σ) fun v61 σ61 =>
      bd2 (mX12_evenings (xs ((x4 + (1 : Int32))).toNatClampNeg) σ61) fun v62 σ62 =>
      if (mX12_thrown σ62) = v61 then (
        if v61 = 0 then (
          if (lg_cmp (sL σ62 146 ((0 : Int32)).toNatClampNeg) (v62).toInt64) = 0 then (
            f23 (x4 + (8 : Int32)) σ62
          ) else (
            some 0
          )
        ) else (
          f23 (x4 + (8 : Int32)) σ62
        )
      ) else (
        some 0
      )
      else none
    ) else
    if ((xs (x4).toNatClampNeg) &&& (31 : Int32)) = (7 : Int32) then (
      if inb (x4 + (1 : Int32)) xL then
      if inb (x4 + (2 : Int32)) xL then
      if inb (x4 + (3 : Int32)) xL then
      bd2 (mL_death (xs ((x4 + (1 : Int32))).toNatClampNeg) (xs ((x4 + (2 : Int32))).toNatClampNeg) (xs ((x4 + (3 : Int32))).toNatClampNeg) σ) fun v71 σ71 =>
      bd2 (mX12_death (xs ((x4 + (1 : Int32))).toNatClampNeg) (xs ((x4 + (2 : Int32))).toNatClampNeg) (xs ((x4 + (3 : Int32))).toNatClampNeg) σ71) fun v72 σ72 =>
      if (mX12_thrown σ72) = v71 then (
        if v71 = 0 then (
          if (lg_cmp (sL σ72 146 ((0 : Int32)).toNatClampNeg) (v72).toInt64) = 0 then (
            f23 (x4 + (8 : Int32)) σ72
          ) else (
            some 0
          )
        ) else (
          f23 (x4 + (8 : Int32)) σ72
        )
      ) else (
        some 0
      )
      else none
      else none
      else none
    ) else
    if ((xs (x4).toNatClampNeg) &&& (31 : Int32)) = (8 : Int32) then (
      if inb (x4 + (1 : Int32)) xL then
      if inb (x4 + (2 : Int32)) xL then
      if inb (x4 + (3 : Int32)) xL then
      if inb (x4 + (4 : Int32)) xL then
      bd2 (mL_heir (xs ((x4 + (1 : Int32))).toNatClampNeg) (xs ((x4 + (2 : Int32))).toNatClampNeg) (xs ((x4 + (3 : Int32))).toNatClampNeg) (xs ((x4 + (4 : Int32))).toNatClampNeg) σ) fun v82 σ82 =>
      bd2 (mX12_heir (xs ((x4 + (1 : Int32))).toNatClampNeg) (xs ((x4 + (2 : Int32))).toNatClampNeg) (xs ((x4 + (3 : Int32))).toNatClampNeg) (xs ((x4 + (4 : Int32))).toNatClampNeg) σ82) fun v83 σ83 =>
      if (mX12_thrown σ83) = v82 then (
        if v82 = 0 then (
          if (lg_cmp (sL σ83 146 ((0 : Int32)).toNatClampNeg) (v83).toInt64) = 0 then (
            f23 (x4 + (8 : Int32)) σ83
          ) else (
            some 0
          )
        ) else (
          f23 (x4 + (8 : Int32)) σ83
        )
      ) else (
        some 0
      )
      else none
      else none
      else none
      else none
    ) else
    if ((xs (x4).toNatClampNeg) &&& (31 : Int32)) = (9 : Int32) then (
      if inb (x4 + (1 : Int32)) xL then
      if inb (x4 + (2 : Int32)) xL then
      if inb (x4 + (3 : Int32)) xL then
      if inb (x4 + (4 : Int32)) xL then
      if inb (x4 + (5 : Int32)) xL then
      if inb (x4 + (6 : Int32)) xL then
      if inb (x4 + (7 : Int32)) xL then
      bd2 (mL_sale (xs ((x4 + (1 : Int32))).toNatClampNeg) (xs ((x4 + (2 : Int32))).toNatClampNeg) (xs ((x4 + (3 : Int32))).toNatClampNeg) (xs ((x4 + (4 : Int32))).toNatClampNeg) (xs ((x4 + (5 : Int32))).toNatClampNeg) (xs ((x4 + (6 : Int32))).toNatClampNeg) (xs ((x4 + (7 : Int32))).toNatClampNeg) σ) fun v96 σ96 =>
      bd2 (mX12_sale (xs ((x4 + (1 : Int32))).toNatClampNeg) (xs ((x4 + (2 : Int32))).toNatClampNeg) (xs ((x4 + (3 : Int32))).toNatClampNeg) (xs ((x4 + (4 : Int32))).toNatClampNeg) (xs ((x4 + (5 : Int32))).toNatClampNeg) (xs ((x4 + (6 : Int32))).toNatClampNeg) (xs ((x4 + (7 : Int32))).toNatClampNeg) σ96) fun v97 σ97 =>
      if (mX12_thrown σ97) = v96 then (
        if v96 = 0 then (
          if (lg_cmp (sL σ97 146 ((0 : Int32)).toNatClampNeg) (v97).toInt64) = 0 then (
            f23 (x4 + (8 : Int32)) σ97
          ) else (
            some 0
          )
        ) else (
          f23 (x4 + (8 : Int32)) σ97
        )
      ) else (
        some 0
      )
      else none
      else none
      else none
      else none
      else none
      else none
      else none
    ) else
    if ((xs (x4).toNatClampNeg) &&& (31 : Int32)) = (10 : Int32) then (
      if inb (x4 + (1 : Int32)) xL then
      if inb (x4 + (2 : Int32)) xL then
      if inb (x4 + (3 : Int32)) xL then
      if inb (x4 + (4 : Int32)) xL then
      if inb (x4 + (5 : Int32)) xL then
      bd2 (mL_fact (xs ((x4 + (1 : Int32))).toNatClampNeg) (xs ((x4 + (2 : Int32))).toNatClampNeg) (xs ((x4 + (3 : Int32))).toNatClampNeg) (xs ((x4 + (4 : Int32))).toNatClampNeg) (xs ((x4 + (5 : Int32))).toNatClampNeg) σ) fun v108 σ108 =>
      bd2 (mX12_fact (xs ((x4 + (1 : Int32))).toNatClampNeg) (xs ((x4 + (2 : Int32))).toNatClampNeg) (xs ((x4 + (3 : Int32))).toNatClampNeg) (xs ((x4 + (4 : Int32))).toNatClampNeg) (xs ((x4 + (5 : Int32))).toNatClampNeg) σ108) fun v109 σ109 =>
      if (mX12_thrown σ109) = v108 then (
        if v108 = 0 then (
          if (lg_cmp (sL σ109 146 ((0 : Int32)).toNatClampNeg) (v109).toInt64) = 0 then (
            f23 (x4 + (8 : Int32)) σ109
          ) else (
            some 0
          )
        ) else (
          f23 (x4 + (8 : Int32)) σ109
        )
      ) else (
        some 0
      )
      else none
      else none
      else none
      else none
      else none
    ) else
    if ((xs (x4).toNatClampNeg) &&& (31 : Int32)) = (11 : Int32) then (
      if inb (x4 + (1 : Int32)) xL then
      if (xs ((x4 + (1 : Int32))).toNatClampNeg) = 0 then (
        mL_law_1081 xs xL f23 x4 (0 : Int32) σ
      ) else (
        mL_law_1081 xs xL f23 x4 (1 : Int32) σ
      )
      else none
    ) else
    if ((xs (x4).toNatClampNeg) &&& (31 : Int32)) = (12 : Int32) then (
      if inb (x4 + (1 : Int32)) xL then
      if inb (x4 + (2 : Int32)) xL then
      bd2 (mL_claim (xs ((x4 + (1 : Int32))).toNatClampNeg) (xs ((x4 + (2 : Int32))).toNatClampNeg) σ) fun v131 σ131 =>
      bd2 (mX12_claim (xs ((x4 + (1 : Int32))).toNatClampNeg) (xs ((x4 + (2 : Int32))).toNatClampNeg) σ131) fun v132 σ132 =>
      if (mX12_thrown σ132) = v131 then (
        if v131 = 0 then (
          if v132 = 0 then (
            mL_law_1223 xs xL f23 x4 (sL σ132 146 ((0 : Int32)).toNatClampNeg) (0 : Int64) σ132
          ) else (
            mL_law_1223 xs xL f23 x4 (sL σ132 146 ((0 : Int32)).toNatClampNeg) (1 : Int64) σ132
          )
        ) else (
          f23 (x4 + (8 : Int32)) σ132
        )
      ) else (
        some 0
      )
      else none
      else none
    ) else
    if ((xs (x4).toNatClampNeg) &&& (31 : Int32)) = (13 : Int32) then (
      if inb (x4 + (1 : Int32)) xL then
      if inb (x4 + (2 : Int32)) xL then
      if inb (x4 + (3 : Int32)) xL then
      if inb (x4 + (4 : Int32)) xL then
      if inb (x4 + (5 : Int32)) xL then
      bd2 (mX11_feed (xs ((x4 + (1 : Int32))).toNatClampNeg) (xs ((x4 + (2 : Int32))).toNatClampNeg) (xs ((x4 + (3 : Int32))).toNatClampNeg) (xs ((x4 + (4 : Int32))).toNatClampNeg) (xs ((x4 + (5 : Int32))).toNatClampNeg) σ) fun v144 σ144 =>
      bd2 (mX12_feed (xs ((x4 + (1 : Int32))).toNatClampNeg) (xs ((x4 + (2 : Int32))).toNatClampNeg) (xs ((x4 + (3 : Int32))).toNatClampNeg) (xs ((x4 + (4 : Int32))).toNatClampNeg) (xs ((x4 + (5 : Int32))).toNatClampNeg) σ144) fun v145 σ145 =>
      if v144 = v145 then (
        f23 (x4 + (8 : Int32)) σ145
      ) else (
        some 0
      )
      else none
      else none
      else none
      else none
      else none
    ) else
    if ((xs (x4).toNatClampNeg) &&& (31 : Int32)) = (14 : Int32) then (
      if inb (x4 + (1 : Int32)) xL then
      if inb (x4 + (2 : Int32)) xL then
      if inb (x4 + (3 : Int32)) xL then
      bd2 (mL_law (xs ((x4 + (1 : Int32))).toNatClampNeg) (xs ((x4 + (2 : Int32))).toNatClampNeg) (xs ((x4 + (3 : Int32))).toNatClampNeg) σ) fun v151 σ151 =>
      bd2 (mX12_law (xs ((x4 + (1 : Int32))).toNatClampNeg) (xs ((x4 + (2 : Int32))).toNatClampNeg) (xs ((x4 + (3 : Int32))).toNatClampNeg) σ151) fun v152 σ152 =>
      if (mX12_thrown σ152) = v151 then (
        if v151 = 0 then (
          if (lg_cmp (sL σ152 146 ((0 : Int32)).toNatClampNeg) (v152).toInt64) = 0 then (
            f23 (x4 + (8 : Int32)) σ152
          ) else (
            some 0
          )
        ) else (
          f23 (x4 + (8 : Int32)) σ152
        )
      ) else (
        some 0
      )
      else none
      else none
      else none
    ) else
    if ((xs (x4).toNatClampNeg) &&& (31 : Int32)) = (15 : Int32) then (
      bd2 (mX12_fault σ) fun v159 σ159 =>
      if (mX11_fault σ) = v159 then (
        f23 (x4 + (8 : Int32)) σ159
      ) else (
        some 0
      )
    ) else
    if ((xs (x4).toNatClampNeg) &&& (31 : Int32)) = (16 : Int32) then (
      if inb (x4 + (1 : Int32)) xL then
      if inb (x4 + (2 : Int32)) xL then
      if inb (x4 + (3 : Int32)) xL then
      bd2 (mL_sold (xs ((x4 + (1 : Int32))).toNatClampNeg) (xs ((x4 + (2 : Int32))).toNatClampNeg) (xs ((x4 + (3 : Int32))).toNatClampNeg) σ) fun v165 σ165 =>
      bd2 (mX12_sold (xs ((x4 + (1 : Int32))).toNatClampNeg) (xs ((x4 + (2 : Int32))).toNatClampNeg) (xs ((x4 + (3 : Int32))).toNatClampNeg) σ165) fun v166 σ166 =>
      if (mX12_thrown σ166) = v165 then (
        if v165 = 0 then (
          if (lg_cmp (sL σ166 146 ((0 : Int32)).toNatClampNeg) (v166).toInt64) = 0 then (
            f23 (x4 + (8 : Int32)) σ166
          ) else (
            some 0
          )
        ) else (
          f23 (x4 + (8 : Int32)) σ166
        )
      ) else (
        some 0
      )
      else none
      else none
      else none
    ) else
    if ((xs (x4).toNatClampNeg) &&& (31 : Int32)) = (17 : Int32) then (
      if inb (x4 + (1 : Int32)) xL then
      if inb (x4 + (2 : Int32)) xL then
      if inb (x4 + (3 : Int32)) xL then
      if inb (x4 + (4 : Int32)) xL then
      bd2 (mL_has (xs ((x4 + (1 : Int32))).toNatClampNeg) (xs ((x4 + (2 : Int32))).toNatClampNeg) (xs ((x4 + (3 : Int32))).toNatClampNeg) (xs ((x4 + (4 : Int32))).toNatClampNeg) σ) fun v176 σ176 =>
      bd2 (mX12_has (xs ((x4 + (1 : Int32))).toNatClampNeg) (xs ((x4 + (2 : Int32))).toNatClampNeg) (xs ((x4 + (3 : Int32))).toNatClampNeg) (xs ((x4 + (4 : Int32))).toNatClampNeg) σ176) fun v177 σ177 =>
      if (mX12_thrown σ177) = v176 then (
        if v176 = 0 then (
          if (lg_cmp (sL σ177 146 ((0 : Int32)).toNatClampNeg) (v177).toInt64) = 0 then (
            f23 (x4 + (8 : Int32)) σ177
          ) else (
            some 0
          )
        ) else (
          f23 (x4 + (8 : Int32)) σ177
        )
      ) else (
        some 0
      )
      else none
      else none
      else none
      else none
    ) else
    if ((xs (x4).toNatClampNeg) &&& (31 : Int32)) = (18 : Int32) then (
      if inb (x4 + (1 : Int32)) xL then
      if inb (x4 + (2 : Int32)) xL then
      if inb (x4 + (3 : Int32)) xL then
      bd2 (mL_gets (xs ((x4 + (1 : Int32))).toNatClampNeg) (xs ((x4 + (2 : Int32))).toNatClampNeg) (xs ((x4 + (3 : Int32))).toNatClampNeg) σ) fun v186 σ186 =>
      bd2 (mX12_gets (xs ((x4 + (1 : Int32))).toNatClampNeg) (xs ((x4 + (2 : Int32))).toNatClampNeg) (xs ((x4 + (3 : Int32))).toNatClampNeg) σ186) fun v187 σ187 =>
      if (mX12_thrown σ187) = v186 then (
        if v186 = 0 then (
          if (lg_cmp (sL σ187 146 ((0 : Int32)).toNatClampNeg) v187) = 0 then (
            f23 (x4 + (8 : Int32)) σ187
          ) else (
            some 0
          )
        ) else (
          f23 (x4 + (8 : Int32)) σ187
        )
      ) else (
        some 0
      )
      else none
      else none
      else none
    ) else
    if ((xs (x4).toNatClampNeg) &&& (31 : Int32)) = (19 : Int32) then (
      if inb (x4 + (1 : Int32)) xL then
      if inb (x4 + (2 : Int32)) xL then
      if inb (x4 + (3 : Int32)) xL then
      if inb (x4 + (4 : Int32)) xL then
      bd2 (mL_owes (xs ((x4 + (1 : Int32))).toNatClampNeg) (xs ((x4 + (2 : Int32))).toNatClampNeg) (xs ((x4 + (3 : Int32))).toNatClampNeg) (xs ((x4 + (4 : Int32))).toNatClampNeg) σ) fun v197 σ197 =>
      bd2 (mX12_owes (xs ((x4 + (1 : Int32))).toNatClampNeg) (xs ((x4 + (2 : Int32))).toNatClampNeg) (xs ((x4 + (3 : Int32))).toNatClampNeg) (xs ((x4 + (4 : Int32))).toNatClampNeg) σ197) fun v198 σ198 =>
      if (mX12_thrown σ198) = v197 then (
        if v197 = 0 then (
          if (lg_cmp (sL σ198 146 ((0 : Int32)).toNatClampNeg) v198) = 0 then (
            f23 (x4 + (8 : Int32)) σ198
          ) else (
            some 0
          )
        ) else (
          f23 (x4 + (8 : Int32)) σ198
        )
      ) else (
        some 0
      )
      else none
      else none
      else none
      else none
    ) else
    if ((xs (x4).toNatClampNeg) &&& (31 : Int32)) = (20 : Int32) then (
      if inb (x4 + (1 : Int32)) xL then
      if inb (x4 + (2 : Int32)) xL then
      if inb (x4 + (3 : Int32)) xL then
      bd2 (mL_net (xs ((x4 + (1 : Int32))).toNatClampNeg) (xs ((x4 + (2 : Int32))).toNatClampNeg) (xs ((x4 + (3 : Int32))).toNatClampNeg) σ) fun v207 σ207 =>
      bd2 (mX12_net (xs ((x4 + (1 : Int32))).toNatClampNeg) (xs ((x4 + (2 : Int32))).toNatClampNeg) (xs ((x4 + (3 : Int32))).toNatClampNeg) σ207) fun v208 σ208 =>
      if (mX12_thrown σ208) = v207 then (
        if v207 = 0 then (
          if (lg_cmp (sL σ208 146 ((0 : Int32)).toNatClampNeg) v208) = 0 then (
            f23 (x4 + (8 : Int32)) σ208
          ) else (
            some 0
          )
        ) else (
          f23 (x4 + (8 : Int32)) σ208
        )
      ) else (
        some 0
      )
      else none
      else none
      else none
    ) else
    if ((xs (x4).toNatClampNeg) &&& (31 : Int32)) = (21 : Int32) then (
      if inb (x4 + (1 : Int32)) xL then
      if inb (x4 + (2 : Int32)) xL then
      bd2 (mL_payments (xs ((x4 + (1 : Int32))).toNatClampNeg) (xs ((x4 + (2 : Int32))).toNatClampNeg) σ) fun v216 σ216 =>
      bd2 (mX12_payments (xs ((x4 + (1 : Int32))).toNatClampNeg) (xs ((x4 + (2 : Int32))).toNatClampNeg) σ216) fun v217 σ217 =>
      if (mX12_thrown σ217) = v216 then (
        if v216 = 0 then (
          if (lg_cmp (sL σ217 146 ((0 : Int32)).toNatClampNeg) (v217).toInt64) = 0 then (
            f23 (x4 + (8 : Int32)) σ217
          ) else (
            some 0
          )
        ) else (
          f23 (x4 + (8 : Int32)) σ217
        )
      ) else (
        some 0
      )
      else none
      else none
    ) else
    if ((xs (x4).toNatClampNeg) &&& (31 : Int32)) = (22 : Int32) then (
      if inb (x4 + (1 : Int32)) xL then
      if inb (x4 + (2 : Int32)) xL then
      if inb (x4 + (3 : Int32)) xL then
      if inb (x4 + (4 : Int32)) xL then
      bd2 (mL_again (xs ((x4 + (1 : Int32))).toNatClampNeg) (xs ((x4 + (2 : Int32))).toNatClampNeg) (xs ((x4 + (3 : Int32))).toNatClampNeg) (xs ((x4 + (4 : Int32))).toNatClampNeg) σ) fun v227 σ227 =>
      bd2 (mX12_again (xs ((x4 + (1 : Int32))).toNatClampNeg) (xs ((x4 + (2 : Int32))).toNatClampNeg) (xs ((x4 + (3 : Int32))).toNatClampNeg) (xs ((x4 + (4 : Int32))).toNatClampNeg) σ227) fun v228 σ228 =>
      if (mX12_thrown σ228) = v227 then (
        if v227 = 0 then (
          if (lg_cmp (sL σ228 146 ((0 : Int32)).toNatClampNeg) (v228).toInt64) = 0 then (
            f23 (x4 + (8 : Int32)) σ228
          ) else (
            some 0
          )
        ) else (
          f23 (x4 + (8 : Int32)) σ228
        )
      ) else (
        some 0
      )
      else none
      else none
      else none
      else none
    ) else
    if ((xs (x4).toNatClampNeg) &&& (31 : Int32)) = (23 : Int32) then (
      if inb (x4 + (1 : Int32)) xL then
      if inb (x4 + (2 : Int32)) xL then
      if inb (x4 + (3 : Int32)) xL then
      bd2 (mL_with (xs ((x4 + (1 : Int32))).toNatClampNeg) (xs ((x4 + (2 : Int32))).toNatClampNeg) (xs ((x4 + (3 : Int32))).toNatClampNeg) σ) fun v237 σ237 =>
      bd2 (mX12_with (xs ((x4 + (1 : Int32))).toNatClampNeg) (xs ((x4 + (2 : Int32))).toNatClampNeg) (xs ((x4 + (3 : Int32))).toNatClampNeg) σ237) fun v238 σ238 =>
      if (mX12_thrown σ238) = v237 then (
        if v237 = 0 then (
          if (lg_cmp (sL σ238 146 ((0 : Int32)).toNatClampNeg) (v238).toInt64) = 0 then (
            f23 (x4 + (8 : Int32)) σ238
          ) else (
            some 0
          )
        ) else (
          f23 (x4 + (8 : Int32)) σ238
        )
      ) else (
        some 0
      )
      else none
      else none
      else none
    ) else
    if ((xs (x4).toNatClampNeg) &&& (31 : Int32)) = (24 : Int32) then (
      if inb (x4 + (1 : Int32)) xL then
      if inb (x4 + (2 : Int32)) xL then
      if inb (x4 + (3 : Int32)) xL then
      if inb (x4 + (4 : Int32)) xL then
      bd2 (mL_hidden (xs ((x4 + (1 : Int32))).toNatClampNeg) (xs ((x4 + (2 : Int32))).toNatClampNeg) (xs ((x4 + (3 : Int32))).toNatClampNeg) (xs ((x4 + (4 : Int32))).toNatClampNeg) σ) fun v248 σ248 =>
      bd2 (mX12_hidden (xs ((x4 + (1 : Int32))).toNatClampNeg) (xs ((x4 + (2 : Int32))).toNatClampNeg) (xs ((x4 + (3 : Int32))).toNatClampNeg) (xs ((x4 + (4 : Int32))).toNatClampNeg) σ248) fun v249 σ249 =>
      if (mX12_thrown σ249) = v248 then (
        if v248 = 0 then (
          if (lg_cmp (sL σ249 146 ((0 : Int32)).toNatClampNeg) (v249).toInt64) = 0 then (
            f23 (x4 + (8 : Int32)) σ249
          ) else (
            some 0
          )
        ) else (
          f23 (x4 + (8 : Int32)) σ249
        )
      ) else (
        some 0
      )
      else none
      else none
      else none
      else none
    ) else
    if ((xs (x4).toNatClampNeg) &&& (31 : Int32)) = (25 : Int32) then (
      if inb (x4 + (1 : Int32)) xL then
      if inb (x4 + (2 : Int32)) xL then
      if inb (x4 + (3 : Int32)) xL then
      bd2 (mL_attempt (xs ((x4 + (1 : Int32))).toNatClampNeg) (xs ((x4 + (2 : Int32))).toNatClampNeg) (xs ((x4 + (3 : Int32))).toNatClampNeg) σ) fun v258 σ258 =>
      bd2 (mX12_attempt (xs ((x4 + (1 : Int32))).toNatClampNeg) (xs ((x4 + (2 : Int32))).toNatClampNeg) (xs ((x4 + (3 : Int32))).toNatClampNeg) σ258) fun v259 σ259 =>
      if (mX12_thrown σ259) = v258 then (
        if v258 = 0 then (
          if (lg_cmp (sL σ259 146 ((0 : Int32)).toNatClampNeg) (v259).toInt64) = 0 then (
            f23 (x4 + (8 : Int32)) σ259
          ) else (
            some 0
          )
        ) else (
          f23 (x4 + (8 : Int32)) σ259
        )
      ) else (
        some 0
      )
      else none
      else none
      else none
    ) else
    if ((xs (x4).toNatClampNeg) &&& (31 : Int32)) = (26 : Int32) then (
      if inb (x4 + (1 : Int32)) xL then
      bd2 (mL_more (xs ((x4 + (1 : Int32))).toNatClampNeg) σ) fun v266 σ266 =>
      bd2 (mX12_more (xs ((x4 + (1 : Int32))).toNatClampNeg) σ266) fun v267 σ267 =>
      if (mX12_thrown σ267) = v266 then (
        if v266 = 0 then (
          if (lg_cmp (sL σ267 146 ((0 : Int32)).toNatClampNeg) v267) = 0 then (
            f23 (x4 + (8 : Int32)) σ267
          ) else (
            some 0
          )
        ) else (
          f23 (x4 + (8 : Int32)) σ267
        )
      ) else (
        some 0
      )
      else none
    ) else
    if ((xs (x4).toNatClampNeg) &&& (31 : Int32)) = (27 : Int32) then (
      if inb (x4 + (1 : Int32)) xL then
      bd2 (mL_count (xs ((x4 + (1 : Int32))).toNatClampNeg) σ) fun v274 σ274 =>
      bd2 (mX12_count (xs ((x4 + (1 : Int32))).toNatClampNeg) σ274) fun v275 σ275 =>
      if (mX12_thrown σ275) = v274 then (
        if v274 = 0 then (
          if (lg_cmp (sL σ275 146 ((0 : Int32)).toNatClampNeg) (v275).toInt64) = 0 then (
            f23 (x4 + (8 : Int32)) σ275
          ) else (
            some 0
          )
        ) else (
          f23 (x4 + (8 : Int32)) σ275
        )
      ) else (
        some 0
      )
      else none
    ) else
    (
    f23 (x4 + (8 : Int32)) σ
    )
    else none
  )
def mL_law_23 (xs : Nat → Int32) (xL : Nat) : Nat → Int32 → Sto → Option Int32
  | 0, _, _ => none
  | n + 1, x4, σ => mL_law_23B xs xL (mL_law_23 xs xL n) x4 σ
section
variable {p : Program} {l : Launch} {e : Env} {s : State} {m : MethodId} {below : List Frame} {meth : Method} {c : Code} {E : Ev} {ad0 : Nat → Nat}
set_option maxRecDepth 100000 in
set_option maxHeartbeats 4000000 in
theorem eL_law_259 {b xL ck sk : Nat} {xs : Nat → Int32} (hx : E.2.2.2.1 = (b, xL, xs)) (hE : E.2.2.1 = s.heap.size) (hck : ck + 8 ≤ 100000) (hsk : sk + 700 ≤ 1000000) (hlx : l.stackTraces = false) (C : Cx E p s m #[Value.ref b] meth c cL_law_ 8 RL) (hr : meth.sig.returnType = (some .boolean))  {σ : Sto} {f23 : Int32 → Sto → Option Int32} {x4 : Int32} {y0 : Int64} {y1 : Int64} (hf23 : ∀ (x4 : Int32) (σ' : Sto), f23 x4 σ' = some 1 → G p l e room_1 s m #[Value.ref b] below meth c E true 0 ad0 (lw_Z below #[Value.ref b] s) 8 (ck + 8) (sk + 700) σ' 23 [(0, .ref 1), (1, .ref 32), (2, .ref 81), (3, .ref 146), (4, .int x4)] []) (h : mL_law_259 xs xL f23 x4 y0 y1 σ = some 1) : G p l e room_1 s m #[Value.ref b] below meth c E true 0 ad0 (lw_Z below #[Value.ref b] s) 8 (ck + 2) (sk + 9) σ 259 [(0, .ref 1), (1, .ref 32), (2, .ref 81), (3, .ref 146), (4, .int x4)] [.long y1, .long y0] := by
  unfold mL_law_259 at h
  refine G_lcmp C dL_law__259 ?_
  refine G_if_eq (tgt := 265) C rfl dL_law__260 (fun hc17 => ?_) (fun hc17 => ?_)
  · replace h := (if_pos hc17).symm.trans h
    refine G_goto (tgt := 2342) C rfl dL_law__265 ?_
    refine G_iinc (v := 8) (L' := [(4, .int (x4 + (8 : Int32))), (0, .ref 1), (1, .ref 32), (2, .ref 81), (3, .ref 146)]) C 4 rfl rfl (Nat.le_of_ble_eq_true rfl) rfl dL_law__2342 ?_
    refine G_goto (tgt := 23) C rfl dL_law__2345 ?_
    refine G_widen (k1 := ck + 8) (k2 := sk + 700) (by omega) (by omega) ?_
    refine G_sub [1, 2, 3, 4, 0] rfl ?_
    exact hf23 _ _ h
  · replace h := (if_neg hc17).symm.trans h
    refine G_iconst C (v := 0) rfl dL_law__263 ?_
    exact absurd (Option.some.inj h) (by decide)
set_option maxRecDepth 100000 in
set_option maxHeartbeats 4000000 in
theorem eL_law_1148 {b xL ck sk : Nat} {xs : Nat → Int32} (hx : E.2.2.2.1 = (b, xL, xs)) (hE : E.2.2.1 = s.heap.size) (hck : ck + 8 ≤ 100000) (hsk : sk + 700 ≤ 1000000) (hlx : l.stackTraces = false) (C : Cx E p s m #[Value.ref b] meth c cL_law_ 8 RL) (hr : meth.sig.returnType = (some .boolean))  {σ : Sto} {f23 : Int32 → Sto → Option Int32} {x4 : Int32} {y0 : Int64} {y1 : Int64} (hf23 : ∀ (x4 : Int32) (σ' : Sto), f23 x4 σ' = some 1 → G p l e room_1 s m #[Value.ref b] below meth c E true 0 ad0 (lw_Z below #[Value.ref b] s) 8 (ck + 8) (sk + 700) σ' 23 [(0, .ref 1), (1, .ref 32), (2, .ref 81), (3, .ref 146), (4, .int x4)] []) (h : mL_law_1148 xs xL f23 x4 y0 y1 σ = some 1) : G p l e room_1 s m #[Value.ref b] below meth c E true 0 ad0 (lw_Z below #[Value.ref b] s) 8 (ck + 1) (sk + 6) σ 1148 [(0, .ref 1), (1, .ref 32), (2, .ref 81), (3, .ref 146), (4, .int x4)] [.long y1, .long y0] := by
  unfold mL_law_1148 at h
  refine G_lcmp C dL_law__1148 ?_
  refine G_if_eq (tgt := 1154) C rfl dL_law__1149 (fun hc127 => ?_) (fun hc127 => ?_)
  · replace h := (if_pos hc127).symm.trans h
    refine G_goto (tgt := 2342) C rfl dL_law__1154 ?_
    refine G_iinc (v := 8) (L' := [(4, .int (x4 + (8 : Int32))), (0, .ref 1), (1, .ref 32), (2, .ref 81), (3, .ref 146)]) C 4 rfl rfl (Nat.le_of_ble_eq_true rfl) rfl dL_law__2342 ?_
    refine G_goto (tgt := 23) C rfl dL_law__2345 ?_
    refine G_widen (k1 := ck + 8) (k2 := sk + 700) (by omega) (by omega) ?_
    refine G_sub [1, 2, 3, 4, 0] rfl ?_
    exact hf23 _ _ h
  · replace h := (if_neg hc127).symm.trans h
    refine G_iconst C (v := 0) rfl dL_law__1152 ?_
    exact absurd (Option.some.inj h) (by decide)
set_option maxRecDepth 100000 in
set_option maxHeartbeats 4000000 in
theorem eL_law_1108 {b xL ck sk : Nat} {xs : Nat → Int32} (hx : E.2.2.2.1 = (b, xL, xs)) (hE : E.2.2.1 = s.heap.size) (hck : ck + 8 ≤ 100000) (hsk : sk + 700 ≤ 1000000) (hlx : l.stackTraces = false) (C : Cx E p s m #[Value.ref b] meth c cL_law_ 8 RL) (hr : meth.sig.returnType = (some .boolean))  {σ : Sto} {f23 : Int32 → Sto → Option Int32} {x4 : Int32} {x5 : Int32} {y1 : Int32} (hf23 : ∀ (x4 : Int32) (σ' : Sto), f23 x4 σ' = some 1 → G p l e room_1 s m #[Value.ref b] below meth c E true 0 ad0 (lw_Z below #[Value.ref b] s) 8 (ck + 8) (sk + 700) σ' 23 [(0, .ref 1), (1, .ref 32), (2, .ref 81), (3, .ref 146), (4, .int x4)] []) (h : mL_law_1108 xs xL f23 x4 x5 y1 σ = some 1) : G p l e room_1 s m #[Value.ref b] below meth c E true 0 ad0 (lw_Z below #[Value.ref b] s) 8 (ck + 1) (sk + 6) σ 1108 [(0, .ref 1), (1, .ref 32), (2, .ref 81), (3, .ref 146), (4, .int x4), (5, .int x5)] [.int y1, .ref 81] := by
  unfold mL_law_1108 at h
  refine G_aload_n C 0 rfl rfl dL_law__1108 ?_
  refine G_iload C 4 rfl dL_law__1109 ?_
  refine G_iconst C (v := 2) rfl dL_law__1111 ?_
  refine G_iadd C dL_law__1112 ?_
  obtain ⟨hc121, h⟩ := ifn h
  refine G_xld C hx hc121 dL_law__1113 ?_
  obtain ⟨v122, σ122, hv122, h⟩ := bd2_elim h
  refine G_callI (run_V C [.int y1, .int (xs ((x4 + (2 : Int32))).toNatClampNeg)] [] (dX12_back hv122) ml_X12_back mv_X12_back lk_L_155 ⟨(Nat.le_of_ble_eq_true rfl), (Nat.le_of_ble_eq_true rfl)⟩ ⟨rmc (by omega), rms (by omega)⟩ vq_11 rfl ko_81 rfl (Nat.le_of_ble_eq_true rfl) dL_law__1114) ?_
  refine G_istore (L' := [(6, .int v122), (0, .ref 1), (1, .ref 32), (2, .ref 81), (3, .ref 146), (4, .int x4), (5, .int x5)]) C (Nat.le_of_ble_eq_true rfl) rfl dL_law__1117 ?_
  refine G_aload_n C 3 rfl rfl dL_law__1119 ?_
  refine G_callI (run_V C [] [] (dX12_thrown rfl) ml_X12_thrown mv_X12_thrown lk_L_116 ⟨(Nat.le_of_ble_eq_true rfl), (Nat.le_of_ble_eq_true rfl)⟩ ⟨rmc (by omega), rms (by omega)⟩ vq_11 rfl ko_81 rfl (Nat.le_of_ble_eq_true rfl) dL_law__1120) ?_
  refine G_iload C 6 rfl dL_law__1123 ?_
  refine G_icmp_eq (tgt := 1130) C rfl dL_law__1125 (fun hc124 => ?_) (fun hc124 => ?_)
  · replace h := (if_pos hc124).symm.trans h
    refine G_iload C 6 rfl dL_law__1130 ?_
    refine G_if_ne (tgt := 1154) C rfl dL_law__1132 (fun hc125 => ?_) (fun hc125 => ?_)
    · replace h := (if_neg hc125).symm.trans h
      refine G_goto (tgt := 2342) C rfl dL_law__1154 ?_
      refine G_iinc (v := 8) (L' := [(4, .int (x4 + (8 : Int32))), (6, .int v122), (0, .ref 1), (1, .ref 32), (2, .ref 81), (3, .ref 146), (5, .int x5)]) C 5 rfl rfl (Nat.le_of_ble_eq_true rfl) rfl dL_law__2342 ?_
      refine G_goto (tgt := 23) C rfl dL_law__2345 ?_
      refine G_widen (k1 := ck + 8) (k2 := sk + 700) (by omega) (by omega) ?_
      refine G_sub [2, 3, 4, 5, 0] rfl ?_
      exact hf23 _ _ h
    · replace h := (if_pos hc125).symm.trans h
      refine G_aload_n C 4 rfl rfl dL_law__1135 ?_
      refine G_iconst C (v := 0) rfl dL_law__1136 ?_
      refine G_laload C ks_146 ⟨by decide, by decide⟩ dL_law__1137 ?_
      refine G_iload C 0 rfl dL_law__1138 ?_
      refine G_if_eq (tgt := 1147) C rfl dL_law__1140 (fun hc126 => ?_) (fun hc126 => ?_)
      · replace h := (if_pos hc126).symm.trans h
        refine G_lconst C (v := 0) rfl dL_law__1147 ?_
        refine G_sub [1, 2, 3, 4, 5] rfl ?_
        exact eL_law_1148 hx hE hck hsk hlx C hr hf23 h
      · replace h := (if_neg hc126).symm.trans h
        refine G_lconst C (v := 1) rfl dL_law__1143 ?_
        refine G_goto (tgt := 1148) C rfl dL_law__1144 ?_
        refine G_sub [1, 2, 3, 4, 5] rfl ?_
        exact eL_law_1148 hx hE hck hsk hlx C hr hf23 h
  · replace h := (if_neg hc124).symm.trans h
    refine G_iconst C (v := 0) rfl dL_law__1128 ?_
    exact absurd (Option.some.inj h) (by decide)
set_option maxRecDepth 100000 in
set_option maxHeartbeats 4000000 in
theorem eL_law_1081 {b xL ck sk : Nat} {xs : Nat → Int32} (hx : E.2.2.2.1 = (b, xL, xs)) (hE : E.2.2.1 = s.heap.size) (hck : ck + 8 ≤ 100000) (hsk : sk + 700 ≤ 1000000) (hlx : l.stackTraces = false) (C : Cx E p s m #[Value.ref b] meth c cL_law_ 8 RL) (hr : meth.sig.returnType = (some .boolean))  {σ : Sto} {f23 : Int32 → Sto → Option Int32} {x4 : Int32} {y1 : Int32} (hf23 : ∀ (x4 : Int32) (σ' : Sto), f23 x4 σ' = some 1 → G p l e room_1 s m #[Value.ref b] below meth c E true 0 ad0 (lw_Z below #[Value.ref b] s) 8 (ck + 8) (sk + 700) σ' 23 [(0, .ref 1), (1, .ref 32), (2, .ref 81), (3, .ref 146), (4, .int x4)] []) (h : mL_law_1081 xs xL f23 x4 y1 σ = some 1) : G p l e room_1 s m #[Value.ref b] below meth c E true 0 ad0 (lw_Z below #[Value.ref b] s) 8 (ck + 0) (sk + 0) σ 1081 [(0, .ref 1), (1, .ref 32), (2, .ref 81), (3, .ref 146), (4, .int x4)] [.int y1, .ref 32] := by
  unfold mL_law_1081 at h
  refine G_aload_n C 0 rfl rfl dL_law__1081 ?_
  refine G_iload C 4 rfl dL_law__1082 ?_
  refine G_iconst C (v := 2) rfl dL_law__1084 ?_
  refine G_iadd C dL_law__1085 ?_
  obtain ⟨hc117, h⟩ := ifn h
  refine G_xld C hx hc117 dL_law__1086 ?_
  refine G_aload_n C 3 rfl rfl dL_law__1087 ?_
  obtain ⟨v118, σ118, hv118, h⟩ := bd2_elim h
  refine G_callI (run_SH C [.ref 32, .int y1, .int (xs ((x4 + (2 : Int32))).toNatClampNeg), .ref 146] [] (dL_back hlx hv118) cw_L_back in_L mh_L_back ms_L_back lk_L_152 ⟨(Nat.le_of_ble_eq_true rfl), (Nat.le_of_ble_eq_true rfl)⟩ ⟨rmc (by omega), rms (by omega)⟩ rfl (Nat.le_of_ble_eq_true rfl) dL_law__1088) ?_
  refine G_istore (L' := [(5, .int v118), (0, .ref 1), (1, .ref 32), (2, .ref 81), (3, .ref 146), (4, .int x4)]) C (Nat.le_of_ble_eq_true rfl) rfl dL_law__1091 ?_
  refine G_aload_n C 3 rfl rfl dL_law__1093 ?_
  refine G_aload_n C 1 rfl rfl dL_law__1094 ?_
  refine G_iload C 5 rfl dL_law__1095 ?_
  refine G_iconst C (v := 1) rfl dL_law__1097 ?_
  refine G_iadd C dL_law__1098 ?_
  obtain ⟨hc119, h⟩ := ifn h
  refine G_xld C hx hc119 dL_law__1099 ?_
  refine G_if_eq (tgt := 1107) C rfl dL_law__1100 (fun hc120 => ?_) (fun hc120 => ?_)
  · replace h := (if_pos hc120).symm.trans h
    refine G_iconst C (v := 0) rfl dL_law__1107 ?_
    refine G_sub [1, 2, 3, 4, 5, 0] rfl ?_
    exact eL_law_1108 hx hE hck hsk hlx C hr hf23 h
  · replace h := (if_neg hc120).symm.trans h
    refine G_iconst C (v := 1) rfl dL_law__1103 ?_
    refine G_goto (tgt := 1108) C rfl dL_law__1104 ?_
    refine G_sub [1, 2, 3, 4, 5, 0] rfl ?_
    exact eL_law_1108 hx hE hck hsk hlx C hr hf23 h
set_option maxRecDepth 100000 in
set_option maxHeartbeats 4000000 in
theorem eL_law_1223 {b xL ck sk : Nat} {xs : Nat → Int32} (hx : E.2.2.2.1 = (b, xL, xs)) (hE : E.2.2.1 = s.heap.size) (hck : ck + 8 ≤ 100000) (hsk : sk + 700 ≤ 1000000) (hlx : l.stackTraces = false) (C : Cx E p s m #[Value.ref b] meth c cL_law_ 8 RL) (hr : meth.sig.returnType = (some .boolean))  {σ : Sto} {f23 : Int32 → Sto → Option Int32} {x4 : Int32} {y0 : Int64} {y1 : Int64} (hf23 : ∀ (x4 : Int32) (σ' : Sto), f23 x4 σ' = some 1 → G p l e room_1 s m #[Value.ref b] below meth c E true 0 ad0 (lw_Z below #[Value.ref b] s) 8 (ck + 8) (sk + 700) σ' 23 [(0, .ref 1), (1, .ref 32), (2, .ref 81), (3, .ref 146), (4, .int x4)] []) (h : mL_law_1223 xs xL f23 x4 y0 y1 σ = some 1) : G p l e room_1 s m #[Value.ref b] below meth c E true 0 ad0 (lw_Z below #[Value.ref b] s) 8 (ck + 3) (sk + 25) σ 1223 [(0, .ref 1), (1, .ref 32), (2, .ref 81), (3, .ref 146), (4, .int x4)] [.long y1, .long y0] := by
  unfold mL_law_1223 at h
  refine G_lcmp C dL_law__1223 ?_
  refine G_if_eq (tgt := 1229) C rfl dL_law__1224 (fun hc137 => ?_) (fun hc137 => ?_)
  · replace h := (if_pos hc137).symm.trans h
    refine G_goto (tgt := 2342) C rfl dL_law__1229 ?_
    refine G_iinc (v := 8) (L' := [(4, .int (x4 + (8 : Int32))), (0, .ref 1), (1, .ref 32), (2, .ref 81), (3, .ref 146)]) C 4 rfl rfl (Nat.le_of_ble_eq_true rfl) rfl dL_law__2342 ?_
    refine G_goto (tgt := 23) C rfl dL_law__2345 ?_
    refine G_widen (k1 := ck + 8) (k2 := sk + 700) (by omega) (by omega) ?_
    refine G_sub [1, 2, 3, 4, 0] rfl ?_
    exact hf23 _ _ h
  · replace h := (if_neg hc137).symm.trans h
    refine G_iconst C (v := 0) rfl dL_law__1227 ?_
    exact absurd (Option.some.inj h) (by decide)
set_option maxRecDepth 100000 in
set_option maxHeartbeats 4000000 in
theorem eL_law_23B {b xL ck sk : Nat} {xs : Nat → Int32} (hx : E.2.2.2.1 = (b, xL, xs)) (hE : E.2.2.1 = s.heap.size) (hck : ck + 8 ≤ 100000) (hsk : sk + 700 ≤ 1000000) (hlx : l.stackTraces = false) (C : Cx E p s m #[Value.ref b] meth c cL_law_ 8 RL) (hr : meth.sig.returnType = (some .boolean))  {σ : Sto} {f23 : Int32 → Sto → Option Int32} {x4 : Int32} (hf23 : ∀ (x4 : Int32) (σ' : Sto), f23 x4 σ' = some 1 → G p l e room_1 s m #[Value.ref b] below meth c E true 0 ad0 (lw_Z below #[Value.ref b] s) 8 (ck + 8) (sk + 700) σ' 23 [(0, .ref 1), (1, .ref 32), (2, .ref 81), (3, .ref 146), (4, .int x4)] []) (h : mL_law_23B xs xL f23 x4 σ = some 1) : G p l e room_1 s m #[Value.ref b] below meth c E true 0 ad0 (lw_Z below #[Value.ref b] s) 8 ck sk σ 23 [(0, .ref 1), (1, .ref 32), (2, .ref 81), (3, .ref 146), (4, .int x4)] [] := by
  unfold mL_law_23B at h
  refine G_iload C 4 rfl dL_law__23 ?_
  refine G_aload_n C 0 rfl rfl dL_law__25 ?_
  refine G_xlen C hx dL_law__26 ?_
  refine G_bipush C (v := 8) rfl dL_law__27 ?_
  refine G_isub C dL_law__29 ?_
  refine G_icmp_gt (tgt := 2348) C rfl dL_law__30 (fun hc1 => ?_) (fun hc1 => ?_)
  · replace h := (if_pos hc1).symm.trans h
    refine G_iconst C (v := 1) rfl dL_law__2348 ?_
    exact G_lawret C hE hr (rmc (by omega)) (rms (by omega)) dL_law__2349
  · replace h := (if_neg hc1).symm.trans h
    refine G_aload_n C 0 rfl rfl dL_law__33 ?_
    refine G_iload C 4 rfl dL_law__34 ?_
    obtain ⟨hc2, h⟩ := ifn h
    refine G_xld C hx hc2 dL_law__36 ?_
    refine G_bipush C (v := 31) rfl dL_law__37 ?_
    refine G_iand C dL_law__39 ?_
    by_cases hc3 : ((xs (x4).toNatClampNeg) &&& (31 : Int32)) = (0 : Int32)
    · replace h := (if_pos hc3).symm.trans h
      refine G_tswIn (tgt := 168) C (0) 0 hc3 (by decide) (by decide) (by decide) rfl rfl dL_law__40 ?_
      refine G_aload_n C 1 rfl rfl dL_law__168 ?_
      obtain ⟨v4, σ4, hv4, h⟩ := bd2_elim h
      refine G_callI (run_V C [] [] (dX11_land hv4) ml_X11_land mv_X11_land lk_L_105 ⟨(Nat.le_of_ble_eq_true rfl), (Nat.le_of_ble_eq_true rfl)⟩ ⟨rmc (by omega), rms (by omega)⟩ vq_10 rfl ko_32 rfl (Nat.le_of_ble_eq_true rfl) dL_law__169) ?_
      refine G_aload_n C 2 rfl rfl dL_law__172 ?_
      obtain ⟨v5, σ5, hv5, h⟩ := bd2_elim h
      refine G_callI (run_V C [] [.int v4] (dX12_land hv5) ml_X12_land mv_X12_land lk_L_109 ⟨(Nat.le_of_ble_eq_true rfl), (Nat.le_of_ble_eq_true rfl)⟩ ⟨rmc (by omega), rms (by omega)⟩ vq_11 rfl ko_81 rfl (Nat.le_of_ble_eq_true rfl) dL_law__173) ?_
      refine G_icmp_eq (tgt := 2342) C rfl dL_law__176 (fun hc6 => ?_) (fun hc6 => ?_)
      · replace h := (if_pos hc6).symm.trans h
        refine G_iinc (v := 8) (L' := [(4, .int (x4 + (8 : Int32))), (0, .ref 1), (1, .ref 32), (2, .ref 81), (3, .ref 146)]) C 4 rfl rfl (Nat.le_of_ble_eq_true rfl) rfl dL_law__2342 ?_
        refine G_goto (tgt := 23) C rfl dL_law__2345 ?_
        refine G_widen (k1 := ck + 8) (k2 := sk + 700) (by omega) (by omega) ?_
        refine G_sub [1, 2, 3, 4, 0] rfl ?_
        exact hf23 _ _ h
      · replace h := (if_neg hc6).symm.trans h
        refine G_iconst C (v := 0) rfl dL_law__179 ?_
        exact absurd (Option.some.inj h) (by decide)
    replace h := (if_neg hc3).symm.trans h
    by_cases hc7 : ((xs (x4).toNatClampNeg) &&& (31 : Int32)) = (1 : Int32)
    · replace h := (if_pos hc7).symm.trans h
      refine G_tswIn (tgt := 181) C (1) 1 hc7 (by decide) (by decide) (by decide) rfl rfl dL_law__40 ?_
      refine G_aload_n C 1 rfl rfl dL_law__181 ?_
      refine G_aload_n C 0 rfl rfl dL_law__182 ?_
      refine G_iload C 4 rfl dL_law__183 ?_
      refine G_iconst C (v := 1) rfl dL_law__185 ?_
      refine G_iadd C dL_law__186 ?_
      obtain ⟨hc8, h⟩ := ifn h
      refine G_xld C hx hc8 dL_law__187 ?_
      refine G_aload_n C 0 rfl rfl dL_law__188 ?_
      refine G_iload C 4 rfl dL_law__189 ?_
      refine G_iconst C (v := 2) rfl dL_law__191 ?_
      refine G_iadd C dL_law__192 ?_
      obtain ⟨hc9, h⟩ := ifn h
      refine G_xld C hx hc9 dL_law__193 ?_
      refine G_aload_n C 0 rfl rfl dL_law__194 ?_
      refine G_iload C 4 rfl dL_law__195 ?_
      refine G_iconst C (v := 3) rfl dL_law__197 ?_
      refine G_iadd C dL_law__198 ?_
      obtain ⟨hc10, h⟩ := ifn h
      refine G_xld C hx hc10 dL_law__199 ?_
      refine G_aload_n C 3 rfl rfl dL_law__200 ?_
      obtain ⟨v11, σ11, hv11, h⟩ := bd2_elim h
      refine G_callI (run_SH C [.ref 32, .int (xs ((x4 + (1 : Int32))).toNatClampNeg), .int (xs ((x4 + (2 : Int32))).toNatClampNeg), .int (xs ((x4 + (3 : Int32))).toNatClampNeg), .ref 146] [] (dL_rate hlx hv11) cw_L_rate in_L mh_L_rate ms_L_rate lk_L_110 ⟨(Nat.le_of_ble_eq_true rfl), (Nat.le_of_ble_eq_true rfl)⟩ ⟨rmc (by omega), rms (by omega)⟩ rfl (Nat.le_of_ble_eq_true rfl) dL_law__201) ?_
      refine G_istore (L' := [(5, .int v11), (0, .ref 1), (1, .ref 32), (2, .ref 81), (3, .ref 146), (4, .int x4)]) C (Nat.le_of_ble_eq_true rfl) rfl dL_law__204 ?_
      refine G_aload_n C 3 rfl rfl dL_law__206 ?_
      refine G_aload_n C 1 rfl rfl dL_law__207 ?_
      refine G_iload C 5 rfl dL_law__208 ?_
      refine G_iconst C (v := 1) rfl dL_law__210 ?_
      refine G_iadd C dL_law__211 ?_
      refine G_xld C hx hc8 dL_law__212 ?_
      refine G_aload_n C 1 rfl rfl dL_law__213 ?_
      refine G_iload C 5 rfl dL_law__214 ?_
      refine G_iconst C (v := 2) rfl dL_law__216 ?_
      refine G_iadd C dL_law__217 ?_
      refine G_xld C hx hc9 dL_law__218 ?_
      refine G_aload_n C 1 rfl rfl dL_law__219 ?_
      refine G_iload C 5 rfl dL_law__220 ?_
      refine G_iconst C (v := 3) rfl dL_law__222 ?_
      refine G_iadd C dL_law__223 ?_
      refine G_xld C hx hc10 dL_law__224 ?_
      obtain ⟨v12, σ12, hv12, h⟩ := bd2_elim h
      refine G_callI (run_V C [.int (xs ((x4 + (1 : Int32))).toNatClampNeg), .int (xs ((x4 + (2 : Int32))).toNatClampNeg), .int (xs ((x4 + (3 : Int32))).toNatClampNeg)] [] (dX12_rate hv12) ml_X12_rate mv_X12_rate lk_L_115 ⟨(Nat.le_of_ble_eq_true rfl), (Nat.le_of_ble_eq_true rfl)⟩ ⟨rmc (by omega), rms (by omega)⟩ vq_11 rfl ko_81 rfl (Nat.le_of_ble_eq_true rfl) dL_law__225) ?_
      refine G_istore (L' := [(6, .int v12), (5, .int v11), (0, .ref 1), (1, .ref 32), (2, .ref 81), (3, .ref 146), (4, .int x4)]) C (Nat.le_of_ble_eq_true rfl) rfl dL_law__228 ?_
      refine G_aload_n C 4 rfl rfl dL_law__230 ?_
      refine G_callI (run_V C [] [] (dX12_thrown rfl) ml_X12_thrown mv_X12_thrown lk_L_116 ⟨(Nat.le_of_ble_eq_true rfl), (Nat.le_of_ble_eq_true rfl)⟩ ⟨rmc (by omega), rms (by omega)⟩ vq_11 rfl ko_81 rfl (Nat.le_of_ble_eq_true rfl) dL_law__231) ?_
      refine G_iload C 1 rfl dL_law__234 ?_
      refine G_icmp_eq (tgt := 241) C rfl dL_law__236 (fun hc14 => ?_) (fun hc14 => ?_)
      · replace h := (if_pos hc14).symm.trans h
        refine G_iload C 1 rfl dL_law__241 ?_
        refine G_if_ne (tgt := 265) C rfl dL_law__243 (fun hc15 => ?_) (fun hc15 => ?_)
        · replace h := (if_neg hc15).symm.trans h
          refine G_goto (tgt := 2342) C rfl dL_law__265 ?_
          refine G_iinc (v := 8) (L' := [(4, .int (x4 + (8 : Int32))), (6, .int v12), (5, .int v11), (0, .ref 1), (1, .ref 32), (2, .ref 81), (3, .ref 146)]) C 6 rfl rfl (Nat.le_of_ble_eq_true rfl) rfl dL_law__2342 ?_
          refine G_goto (tgt := 23) C rfl dL_law__2345 ?_
          refine G_widen (k1 := ck + 8) (k2 := sk + 700) (by omega) (by omega) ?_
          refine G_sub [3, 4, 5, 6, 0] rfl ?_
          exact hf23 _ _ h
        · replace h := (if_pos hc15).symm.trans h
          refine G_aload_n C 5 rfl rfl dL_law__246 ?_
          refine G_iconst C (v := 0) rfl dL_law__247 ?_
          refine G_laload C ks_146 ⟨by decide, by decide⟩ dL_law__248 ?_
          refine G_iload C 0 rfl dL_law__249 ?_
          refine G_if_eq (tgt := 258) C rfl dL_law__251 (fun hc16 => ?_) (fun hc16 => ?_)
          · replace h := (if_pos hc16).symm.trans h
            refine G_lconst C (v := 0) rfl dL_law__258 ?_
            refine G_sub [2, 3, 4, 5, 6] rfl ?_
            exact eL_law_259 hx hE hck hsk hlx C hr hf23 h
          · replace h := (if_neg hc16).symm.trans h
            refine G_lconst C (v := 1) rfl dL_law__254 ?_
            refine G_goto (tgt := 259) C rfl dL_law__255 ?_
            refine G_sub [2, 3, 4, 5, 6] rfl ?_
            exact eL_law_259 hx hE hck hsk hlx C hr hf23 h
      · replace h := (if_neg hc14).symm.trans h
        refine G_iconst C (v := 0) rfl dL_law__239 ?_
        exact absurd (Option.some.inj h) (by decide)
    replace h := (if_neg hc7).symm.trans h
    by_cases hc18 : ((xs (x4).toNatClampNeg) &&& (31 : Int32)) = (2 : Int32)
    · replace h := (if_pos hc18).symm.trans h
      refine G_tswIn (tgt := 268) C (2) 2 hc18 (by decide) (by decide) (by decide) rfl rfl dL_law__40 ?_
      refine G_aload_n C 1 rfl rfl dL_law__268 ?_
      refine G_aload_n C 0 rfl rfl dL_law__269 ?_
      refine G_iload C 4 rfl dL_law__270 ?_
      refine G_iconst C (v := 1) rfl dL_law__272 ?_
      refine G_iadd C dL_law__273 ?_
      obtain ⟨hc19, h⟩ := ifn h
      refine G_xld C hx hc19 dL_law__274 ?_
      refine G_aload_n C 0 rfl rfl dL_law__275 ?_
      refine G_iload C 4 rfl dL_law__276 ?_
      refine G_iconst C (v := 2) rfl dL_law__278 ?_
      refine G_iadd C dL_law__279 ?_
      obtain ⟨hc20, h⟩ := ifn h
      refine G_xld C hx hc20 dL_law__280 ?_
      refine G_aload_n C 3 rfl rfl dL_law__281 ?_
      obtain ⟨v21, σ21, hv21, h⟩ := bd2_elim h
      refine G_callI (run_SH C [.ref 32, .int (xs ((x4 + (1 : Int32))).toNatClampNeg), .int (xs ((x4 + (2 : Int32))).toNatClampNeg), .ref 146] [] (dL_person hlx hv21) cw_L_person in_L mh_L_person ms_L_person lk_L_119 ⟨(Nat.le_of_ble_eq_true rfl), (Nat.le_of_ble_eq_true rfl)⟩ ⟨rmc (by omega), rms (by omega)⟩ rfl (Nat.le_of_ble_eq_true rfl) dL_law__282) ?_
      refine G_istore (L' := [(5, .int v21), (0, .ref 1), (1, .ref 32), (2, .ref 81), (3, .ref 146), (4, .int x4)]) C (Nat.le_of_ble_eq_true rfl) rfl dL_law__285 ?_
      refine G_aload_n C 3 rfl rfl dL_law__287 ?_
      refine G_aload_n C 1 rfl rfl dL_law__288 ?_
      refine G_iload C 5 rfl dL_law__289 ?_
      refine G_iconst C (v := 1) rfl dL_law__291 ?_
      refine G_iadd C dL_law__292 ?_
      refine G_xld C hx hc19 dL_law__293 ?_
      refine G_aload_n C 1 rfl rfl dL_law__294 ?_
      refine G_iload C 5 rfl dL_law__295 ?_
      refine G_iconst C (v := 2) rfl dL_law__297 ?_
      refine G_iadd C dL_law__298 ?_
      refine G_xld C hx hc20 dL_law__299 ?_
      obtain ⟨v22, σ22, hv22, h⟩ := bd2_elim h
      refine G_callI (run_V C [.int (xs ((x4 + (1 : Int32))).toNatClampNeg), .int (xs ((x4 + (2 : Int32))).toNatClampNeg)] [] (dX12_person hv22) ml_X12_person mv_X12_person lk_L_122 ⟨(Nat.le_of_ble_eq_true rfl), (Nat.le_of_ble_eq_true rfl)⟩ ⟨rmc (by omega), rms (by omega)⟩ vq_11 rfl ko_81 rfl (Nat.le_of_ble_eq_true rfl) dL_law__300) ?_
      refine G_istore (L' := [(6, .int v22), (5, .int v21), (0, .ref 1), (1, .ref 32), (2, .ref 81), (3, .ref 146), (4, .int x4)]) C (Nat.le_of_ble_eq_true rfl) rfl dL_law__303 ?_
      refine G_aload_n C 4 rfl rfl dL_law__305 ?_
      refine G_callI (run_V C [] [] (dX12_thrown rfl) ml_X12_thrown mv_X12_thrown lk_L_116 ⟨(Nat.le_of_ble_eq_true rfl), (Nat.le_of_ble_eq_true rfl)⟩ ⟨rmc (by omega), rms (by omega)⟩ vq_11 rfl ko_81 rfl (Nat.le_of_ble_eq_true rfl) dL_law__306) ?_
      refine G_iload C 1 rfl dL_law__309 ?_
      refine G_icmp_eq (tgt := 316) C rfl dL_law__311 (fun hc24 => ?_) (fun hc24 => ?_)
      · replace h := (if_pos hc24).symm.trans h
        refine G_iload C 1 rfl dL_law__316 ?_
        refine G_if_ne (tgt := 333) C rfl dL_law__318 (fun hc25 => ?_) (fun hc25 => ?_)
        · replace h := (if_neg hc25).symm.trans h
          refine G_goto (tgt := 2342) C rfl dL_law__333 ?_
          refine G_iinc (v := 8) (L' := [(4, .int (x4 + (8 : Int32))), (6, .int v22), (5, .int v21), (0, .ref 1), (1, .ref 32), (2, .ref 81), (3, .ref 146)]) C 6 rfl rfl (Nat.le_of_ble_eq_true rfl) rfl dL_law__2342 ?_
          refine G_goto (tgt := 23) C rfl dL_law__2345 ?_
          refine G_widen (k1 := ck + 8) (k2 := sk + 700) (by omega) (by omega) ?_
          refine G_sub [3, 4, 5, 6, 0] rfl ?_
          exact hf23 _ _ h
        · replace h := (if_pos hc25).symm.trans h
          refine G_aload_n C 5 rfl rfl dL_law__321 ?_
          refine G_iconst C (v := 0) rfl dL_law__322 ?_
          refine G_laload C ks_146 ⟨by decide, by decide⟩ dL_law__323 ?_
          refine G_iload C 0 rfl dL_law__324 ?_
          refine G_i2l C dL_law__326 ?_
          refine G_lcmp C dL_law__327 ?_
          refine G_if_eq (tgt := 333) C rfl dL_law__328 (fun hc26 => ?_) (fun hc26 => ?_)
          · replace h := (if_pos hc26).symm.trans h
            refine G_goto (tgt := 2342) C rfl dL_law__333 ?_
            refine G_iinc (v := 8) (L' := [(4, .int (x4 + (8 : Int32))), (6, .int v22), (5, .int v21), (0, .ref 1), (1, .ref 32), (2, .ref 81), (3, .ref 146)]) C 6 rfl rfl (Nat.le_of_ble_eq_true rfl) rfl dL_law__2342 ?_
            refine G_goto (tgt := 23) C rfl dL_law__2345 ?_
            refine G_widen (k1 := ck + 8) (k2 := sk + 700) (by omega) (by omega) ?_
            refine G_sub [3, 4, 5, 6, 0] rfl ?_
            exact hf23 _ _ h
          · replace h := (if_neg hc26).symm.trans h
            refine G_iconst C (v := 0) rfl dL_law__331 ?_
            exact absurd (Option.some.inj h) (by decide)
      · replace h := (if_neg hc24).symm.trans h
        refine G_iconst C (v := 0) rfl dL_law__314 ?_
        exact absurd (Option.some.inj h) (by decide)
    replace h := (if_neg hc18).symm.trans h
    by_cases hc27 : ((xs (x4).toNatClampNeg) &&& (31 : Int32)) = (3 : Int32)
    · replace h := (if_pos hc27).symm.trans h
      refine G_tswIn (tgt := 336) C (3) 3 hc27 (by decide) (by decide) (by decide) rfl rfl dL_law__40 ?_
      refine G_aload_n C 1 rfl rfl dL_law__336 ?_
      refine G_aload_n C 0 rfl rfl dL_law__337 ?_
      refine G_iload C 4 rfl dL_law__338 ?_
      refine G_iconst C (v := 1) rfl dL_law__340 ?_
      refine G_iadd C dL_law__341 ?_
      obtain ⟨hc28, h⟩ := ifn h
      refine G_xld C hx hc28 dL_law__342 ?_
      refine G_aload_n C 0 rfl rfl dL_law__343 ?_
      refine G_iload C 4 rfl dL_law__344 ?_
      refine G_iconst C (v := 2) rfl dL_law__346 ?_
      refine G_iadd C dL_law__347 ?_
      obtain ⟨hc29, h⟩ := ifn h
      refine G_xld C hx hc29 dL_law__348 ?_
      refine G_aload_n C 0 rfl rfl dL_law__349 ?_
      refine G_iload C 4 rfl dL_law__350 ?_
      refine G_iconst C (v := 3) rfl dL_law__352 ?_
      refine G_iadd C dL_law__353 ?_
      obtain ⟨hc30, h⟩ := ifn h
      refine G_xld C hx hc30 dL_law__354 ?_
      refine G_aload_n C 0 rfl rfl dL_law__355 ?_
      refine G_iload C 4 rfl dL_law__356 ?_
      refine G_iconst C (v := 4) rfl dL_law__358 ?_
      refine G_iadd C dL_law__359 ?_
      obtain ⟨hc31, h⟩ := ifn h
      refine G_xld C hx hc31 dL_law__360 ?_
      refine G_aload_n C 0 rfl rfl dL_law__361 ?_
      refine G_iload C 4 rfl dL_law__362 ?_
      refine G_iconst C (v := 5) rfl dL_law__364 ?_
      refine G_iadd C dL_law__365 ?_
      obtain ⟨hc32, h⟩ := ifn h
      refine G_xld C hx hc32 dL_law__366 ?_
      refine G_aload_n C 0 rfl rfl dL_law__367 ?_
      refine G_iload C 4 rfl dL_law__368 ?_
      refine G_bipush C (v := 6) rfl dL_law__370 ?_
      refine G_iadd C dL_law__372 ?_
      obtain ⟨hc33, h⟩ := ifn h
      refine G_xld C hx hc33 dL_law__373 ?_
      refine G_aload_n C 3 rfl rfl dL_law__374 ?_
      obtain ⟨v34, σ34, hv34, h⟩ := bd2_elim h
      refine G_callI (run_SH C [.ref 32, .int (xs ((x4 + (1 : Int32))).toNatClampNeg), .int (xs ((x4 + (2 : Int32))).toNatClampNeg), .int (xs ((x4 + (3 : Int32))).toNatClampNeg), .int (xs ((x4 + (4 : Int32))).toNatClampNeg), .int (xs ((x4 + (5 : Int32))).toNatClampNeg), .int (xs ((x4 + (6 : Int32))).toNatClampNeg), .ref 146] [] (dL_work hlx hv34) cw_L_work in_L mh_L_work ms_L_work lk_L_123 ⟨(Nat.le_of_ble_eq_true rfl), (Nat.le_of_ble_eq_true rfl)⟩ ⟨rmc (by omega), rms (by omega)⟩ rfl (Nat.le_of_ble_eq_true rfl) dL_law__375) ?_
      refine G_istore (L' := [(5, .int v34), (0, .ref 1), (1, .ref 32), (2, .ref 81), (3, .ref 146), (4, .int x4)]) C (Nat.le_of_ble_eq_true rfl) rfl dL_law__378 ?_
      refine G_aload_n C 3 rfl rfl dL_law__380 ?_
      refine G_aload_n C 1 rfl rfl dL_law__381 ?_
      refine G_iload C 5 rfl dL_law__382 ?_
      refine G_iconst C (v := 1) rfl dL_law__384 ?_
      refine G_iadd C dL_law__385 ?_
      refine G_xld C hx hc28 dL_law__386 ?_
      refine G_aload_n C 1 rfl rfl dL_law__387 ?_
      refine G_iload C 5 rfl dL_law__388 ?_
      refine G_iconst C (v := 2) rfl dL_law__390 ?_
      refine G_iadd C dL_law__391 ?_
      refine G_xld C hx hc29 dL_law__392 ?_
      refine G_aload_n C 1 rfl rfl dL_law__393 ?_
      refine G_iload C 5 rfl dL_law__394 ?_
      refine G_iconst C (v := 3) rfl dL_law__396 ?_
      refine G_iadd C dL_law__397 ?_
      refine G_xld C hx hc30 dL_law__398 ?_
      refine G_aload_n C 1 rfl rfl dL_law__399 ?_
      refine G_iload C 5 rfl dL_law__400 ?_
      refine G_iconst C (v := 4) rfl dL_law__402 ?_
      refine G_iadd C dL_law__403 ?_
      refine G_xld C hx hc31 dL_law__404 ?_
      refine G_aload_n C 1 rfl rfl dL_law__405 ?_
      refine G_iload C 5 rfl dL_law__406 ?_
      refine G_iconst C (v := 5) rfl dL_law__408 ?_
      refine G_iadd C dL_law__409 ?_
      refine G_xld C hx hc32 dL_law__410 ?_
      refine G_aload_n C 1 rfl rfl dL_law__411 ?_
      refine G_iload C 5 rfl dL_law__412 ?_
      refine G_bipush C (v := 6) rfl dL_law__414 ?_
      refine G_iadd C dL_law__416 ?_
      refine G_xld C hx hc33 dL_law__417 ?_
      obtain ⟨v35, σ35, hv35, h⟩ := bd2_elim h
      refine G_callI (run_V C [.int (xs ((x4 + (1 : Int32))).toNatClampNeg), .int (xs ((x4 + (2 : Int32))).toNatClampNeg), .int (xs ((x4 + (3 : Int32))).toNatClampNeg), .int (xs ((x4 + (4 : Int32))).toNatClampNeg), .int (xs ((x4 + (5 : Int32))).toNatClampNeg), .int (xs ((x4 + (6 : Int32))).toNatClampNeg)] [] (dX12_work hv35) ml_X12_work mv_X12_work lk_L_126 ⟨(Nat.le_of_ble_eq_true rfl), (Nat.le_of_ble_eq_true rfl)⟩ ⟨rmc (by omega), rms (by omega)⟩ vq_11 rfl ko_81 rfl (Nat.le_of_ble_eq_true rfl) dL_law__418) ?_
      refine G_istore (L' := [(6, .int v35), (5, .int v34), (0, .ref 1), (1, .ref 32), (2, .ref 81), (3, .ref 146), (4, .int x4)]) C (Nat.le_of_ble_eq_true rfl) rfl dL_law__421 ?_
      refine G_aload_n C 4 rfl rfl dL_law__423 ?_
      refine G_callI (run_V C [] [] (dX12_thrown rfl) ml_X12_thrown mv_X12_thrown lk_L_116 ⟨(Nat.le_of_ble_eq_true rfl), (Nat.le_of_ble_eq_true rfl)⟩ ⟨rmc (by omega), rms (by omega)⟩ vq_11 rfl ko_81 rfl (Nat.le_of_ble_eq_true rfl) dL_law__424) ?_
      refine G_iload C 1 rfl dL_law__427 ?_
      refine G_icmp_eq (tgt := 434) C rfl dL_law__429 (fun hc37 => ?_) (fun hc37 => ?_)
      · replace h := (if_pos hc37).symm.trans h
        refine G_iload C 1 rfl dL_law__434 ?_
        refine G_if_ne (tgt := 451) C rfl dL_law__436 (fun hc38 => ?_) (fun hc38 => ?_)
        · replace h := (if_neg hc38).symm.trans h
          refine G_goto (tgt := 2342) C rfl dL_law__451 ?_
          refine G_iinc (v := 8) (L' := [(4, .int (x4 + (8 : Int32))), (6, .int v35), (5, .int v34), (0, .ref 1), (1, .ref 32), (2, .ref 81), (3, .ref 146)]) C 6 rfl rfl (Nat.le_of_ble_eq_true rfl) rfl dL_law__2342 ?_
          refine G_goto (tgt := 23) C rfl dL_law__2345 ?_
          refine G_widen (k1 := ck + 8) (k2 := sk + 700) (by omega) (by omega) ?_
          refine G_sub [3, 4, 5, 6, 0] rfl ?_
          exact hf23 _ _ h
        · replace h := (if_pos hc38).symm.trans h
          refine G_aload_n C 5 rfl rfl dL_law__439 ?_
          refine G_iconst C (v := 0) rfl dL_law__440 ?_
          refine G_laload C ks_146 ⟨by decide, by decide⟩ dL_law__441 ?_
          refine G_iload C 0 rfl dL_law__442 ?_
          refine G_i2l C dL_law__444 ?_
          refine G_lcmp C dL_law__445 ?_
          refine G_if_eq (tgt := 451) C rfl dL_law__446 (fun hc39 => ?_) (fun hc39 => ?_)
          · replace h := (if_pos hc39).symm.trans h
            refine G_goto (tgt := 2342) C rfl dL_law__451 ?_
            refine G_iinc (v := 8) (L' := [(4, .int (x4 + (8 : Int32))), (6, .int v35), (5, .int v34), (0, .ref 1), (1, .ref 32), (2, .ref 81), (3, .ref 146)]) C 6 rfl rfl (Nat.le_of_ble_eq_true rfl) rfl dL_law__2342 ?_
            refine G_goto (tgt := 23) C rfl dL_law__2345 ?_
            refine G_widen (k1 := ck + 8) (k2 := sk + 700) (by omega) (by omega) ?_
            refine G_sub [3, 4, 5, 6, 0] rfl ?_
            exact hf23 _ _ h
          · replace h := (if_neg hc39).symm.trans h
            refine G_iconst C (v := 0) rfl dL_law__449 ?_
            exact absurd (Option.some.inj h) (by decide)
      · replace h := (if_neg hc37).symm.trans h
        refine G_iconst C (v := 0) rfl dL_law__432 ?_
        exact absurd (Option.some.inj h) (by decide)
    replace h := (if_neg hc27).symm.trans h
    by_cases hc40 : ((xs (x4).toNatClampNeg) &&& (31 : Int32)) = (4 : Int32)
    · replace h := (if_pos hc40).symm.trans h
      refine G_tswIn (tgt := 454) C (4) 4 hc40 (by decide) (by decide) (by decide) rfl rfl dL_law__40 ?_
      refine G_aload_n C 1 rfl rfl dL_law__454 ?_
      refine G_aload_n C 0 rfl rfl dL_law__455 ?_
      refine G_iload C 4 rfl dL_law__456 ?_
      refine G_iconst C (v := 1) rfl dL_law__458 ?_
      refine G_iadd C dL_law__459 ?_
      obtain ⟨hc41, h⟩ := ifn h
      refine G_xld C hx hc41 dL_law__460 ?_
      refine G_aload_n C 0 rfl rfl dL_law__461 ?_
      refine G_iload C 4 rfl dL_law__462 ?_
      refine G_iconst C (v := 2) rfl dL_law__464 ?_
      refine G_iadd C dL_law__465 ?_
      obtain ⟨hc42, h⟩ := ifn h
      refine G_xld C hx hc42 dL_law__466 ?_
      refine G_aload_n C 0 rfl rfl dL_law__467 ?_
      refine G_iload C 4 rfl dL_law__468 ?_
      refine G_iconst C (v := 3) rfl dL_law__470 ?_
      refine G_iadd C dL_law__471 ?_
      obtain ⟨hc43, h⟩ := ifn h
      refine G_xld C hx hc43 dL_law__472 ?_
      refine G_aload_n C 3 rfl rfl dL_law__473 ?_
      obtain ⟨v44, σ44, hv44, h⟩ := bd2_elim h
      refine G_callI (run_SH C [.ref 32, .int (xs ((x4 + (1 : Int32))).toNatClampNeg), .int (xs ((x4 + (2 : Int32))).toNatClampNeg), .int (xs ((x4 + (3 : Int32))).toNatClampNeg), .ref 146] [] (dL_joins hlx hv44) cw_L_joins in_L mh_L_joins ms_L_joins lk_L_127 ⟨(Nat.le_of_ble_eq_true rfl), (Nat.le_of_ble_eq_true rfl)⟩ ⟨rmc (by omega), rms (by omega)⟩ rfl (Nat.le_of_ble_eq_true rfl) dL_law__474) ?_
      refine G_istore (L' := [(5, .int v44), (0, .ref 1), (1, .ref 32), (2, .ref 81), (3, .ref 146), (4, .int x4)]) C (Nat.le_of_ble_eq_true rfl) rfl dL_law__477 ?_
      refine G_aload_n C 3 rfl rfl dL_law__479 ?_
      refine G_aload_n C 1 rfl rfl dL_law__480 ?_
      refine G_iload C 5 rfl dL_law__481 ?_
      refine G_iconst C (v := 1) rfl dL_law__483 ?_
      refine G_iadd C dL_law__484 ?_
      refine G_xld C hx hc41 dL_law__485 ?_
      refine G_aload_n C 1 rfl rfl dL_law__486 ?_
      refine G_iload C 5 rfl dL_law__487 ?_
      refine G_iconst C (v := 2) rfl dL_law__489 ?_
      refine G_iadd C dL_law__490 ?_
      refine G_xld C hx hc42 dL_law__491 ?_
      refine G_aload_n C 1 rfl rfl dL_law__492 ?_
      refine G_iload C 5 rfl dL_law__493 ?_
      refine G_iconst C (v := 3) rfl dL_law__495 ?_
      refine G_iadd C dL_law__496 ?_
      refine G_xld C hx hc43 dL_law__497 ?_
      obtain ⟨v45, σ45, hv45, h⟩ := bd2_elim h
      refine G_callI (run_V C [.int (xs ((x4 + (1 : Int32))).toNatClampNeg), .int (xs ((x4 + (2 : Int32))).toNatClampNeg), .int (xs ((x4 + (3 : Int32))).toNatClampNeg)] [] (dX12_joins hv45) ml_X12_joins mv_X12_joins lk_L_129 ⟨(Nat.le_of_ble_eq_true rfl), (Nat.le_of_ble_eq_true rfl)⟩ ⟨rmc (by omega), rms (by omega)⟩ vq_11 rfl ko_81 rfl (Nat.le_of_ble_eq_true rfl) dL_law__498) ?_
      refine G_istore (L' := [(6, .int v45), (5, .int v44), (0, .ref 1), (1, .ref 32), (2, .ref 81), (3, .ref 146), (4, .int x4)]) C (Nat.le_of_ble_eq_true rfl) rfl dL_law__501 ?_
      refine G_aload_n C 4 rfl rfl dL_law__503 ?_
      refine G_callI (run_V C [] [] (dX12_thrown rfl) ml_X12_thrown mv_X12_thrown lk_L_116 ⟨(Nat.le_of_ble_eq_true rfl), (Nat.le_of_ble_eq_true rfl)⟩ ⟨rmc (by omega), rms (by omega)⟩ vq_11 rfl ko_81 rfl (Nat.le_of_ble_eq_true rfl) dL_law__504) ?_
      refine G_iload C 1 rfl dL_law__507 ?_
      refine G_icmp_eq (tgt := 514) C rfl dL_law__509 (fun hc47 => ?_) (fun hc47 => ?_)
      · replace h := (if_pos hc47).symm.trans h
        refine G_iload C 1 rfl dL_law__514 ?_
        refine G_if_ne (tgt := 531) C rfl dL_law__516 (fun hc48 => ?_) (fun hc48 => ?_)
        · replace h := (if_neg hc48).symm.trans h
          refine G_goto (tgt := 2342) C rfl dL_law__531 ?_
          refine G_iinc (v := 8) (L' := [(4, .int (x4 + (8 : Int32))), (6, .int v45), (5, .int v44), (0, .ref 1), (1, .ref 32), (2, .ref 81), (3, .ref 146)]) C 6 rfl rfl (Nat.le_of_ble_eq_true rfl) rfl dL_law__2342 ?_
          refine G_goto (tgt := 23) C rfl dL_law__2345 ?_
          refine G_widen (k1 := ck + 8) (k2 := sk + 700) (by omega) (by omega) ?_
          refine G_sub [3, 4, 5, 6, 0] rfl ?_
          exact hf23 _ _ h
        · replace h := (if_pos hc48).symm.trans h
          refine G_aload_n C 5 rfl rfl dL_law__519 ?_
          refine G_iconst C (v := 0) rfl dL_law__520 ?_
          refine G_laload C ks_146 ⟨by decide, by decide⟩ dL_law__521 ?_
          refine G_iload C 0 rfl dL_law__522 ?_
          refine G_i2l C dL_law__524 ?_
          refine G_lcmp C dL_law__525 ?_
          refine G_if_eq (tgt := 531) C rfl dL_law__526 (fun hc49 => ?_) (fun hc49 => ?_)
          · replace h := (if_pos hc49).symm.trans h
            refine G_goto (tgt := 2342) C rfl dL_law__531 ?_
            refine G_iinc (v := 8) (L' := [(4, .int (x4 + (8 : Int32))), (6, .int v45), (5, .int v44), (0, .ref 1), (1, .ref 32), (2, .ref 81), (3, .ref 146)]) C 6 rfl rfl (Nat.le_of_ble_eq_true rfl) rfl dL_law__2342 ?_
            refine G_goto (tgt := 23) C rfl dL_law__2345 ?_
            refine G_widen (k1 := ck + 8) (k2 := sk + 700) (by omega) (by omega) ?_
            refine G_sub [3, 4, 5, 6, 0] rfl ?_
            exact hf23 _ _ h
          · replace h := (if_neg hc49).symm.trans h
            refine G_iconst C (v := 0) rfl dL_law__529 ?_
            exact absurd (Option.some.inj h) (by decide)
      · replace h := (if_neg hc47).symm.trans h
        refine G_iconst C (v := 0) rfl dL_law__512 ?_
        exact absurd (Option.some.inj h) (by decide)
    replace h := (if_neg hc40).symm.trans h
    by_cases hc50 : ((xs (x4).toNatClampNeg) &&& (31 : Int32)) = (5 : Int32)
    · replace h := (if_pos hc50).symm.trans h
      refine G_tswIn (tgt := 534) C (5) 5 hc50 (by decide) (by decide) (by decide) rfl rfl dL_law__40 ?_
      refine G_aload_n C 1 rfl rfl dL_law__534 ?_
      refine G_aload_n C 0 rfl rfl dL_law__535 ?_
      refine G_iload C 4 rfl dL_law__536 ?_
      refine G_iconst C (v := 1) rfl dL_law__538 ?_
      refine G_iadd C dL_law__539 ?_
      obtain ⟨hc51, h⟩ := ifn h
      refine G_xld C hx hc51 dL_law__540 ?_
      refine G_aload_n C 0 rfl rfl dL_law__541 ?_
      refine G_iload C 4 rfl dL_law__542 ?_
      refine G_iconst C (v := 2) rfl dL_law__544 ?_
      refine G_iadd C dL_law__545 ?_
      obtain ⟨hc52, h⟩ := ifn h
      refine G_xld C hx hc52 dL_law__546 ?_
      refine G_aload_n C 3 rfl rfl dL_law__547 ?_
      obtain ⟨v53, σ53, hv53, h⟩ := bd2_elim h
      refine G_callI (run_SH C [.ref 32, .int (xs ((x4 + (1 : Int32))).toNatClampNeg), .int (xs ((x4 + (2 : Int32))).toNatClampNeg), .ref 146] [] (dL_society hlx hv53) cw_L_society in_L mh_L_society ms_L_society lk_L_130 ⟨(Nat.le_of_ble_eq_true rfl), (Nat.le_of_ble_eq_true rfl)⟩ ⟨rmc (by omega), rms (by omega)⟩ rfl (Nat.le_of_ble_eq_true rfl) dL_law__548) ?_
      refine G_istore (L' := [(5, .int v53), (0, .ref 1), (1, .ref 32), (2, .ref 81), (3, .ref 146), (4, .int x4)]) C (Nat.le_of_ble_eq_true rfl) rfl dL_law__551 ?_
      refine G_aload_n C 3 rfl rfl dL_law__553 ?_
      refine G_aload_n C 1 rfl rfl dL_law__554 ?_
      refine G_iload C 5 rfl dL_law__555 ?_
      refine G_iconst C (v := 1) rfl dL_law__557 ?_
      refine G_iadd C dL_law__558 ?_
      refine G_xld C hx hc51 dL_law__559 ?_
      refine G_aload_n C 1 rfl rfl dL_law__560 ?_
      refine G_iload C 5 rfl dL_law__561 ?_
      refine G_iconst C (v := 2) rfl dL_law__563 ?_
      refine G_iadd C dL_law__564 ?_
      refine G_xld C hx hc52 dL_law__565 ?_
      obtain ⟨v54, σ54, hv54, h⟩ := bd2_elim h
      refine G_callI (run_V C [.int (xs ((x4 + (1 : Int32))).toNatClampNeg), .int (xs ((x4 + (2 : Int32))).toNatClampNeg)] [] (dX12_society hv54) ml_X12_society mv_X12_society lk_L_132 ⟨(Nat.le_of_ble_eq_true rfl), (Nat.le_of_ble_eq_true rfl)⟩ ⟨rmc (by omega), rms (by omega)⟩ vq_11 rfl ko_81 rfl (Nat.le_of_ble_eq_true rfl) dL_law__566) ?_
      refine G_istore (L' := [(6, .int v54), (5, .int v53), (0, .ref 1), (1, .ref 32), (2, .ref 81), (3, .ref 146), (4, .int x4)]) C (Nat.le_of_ble_eq_true rfl) rfl dL_law__569 ?_
      refine G_aload_n C 4 rfl rfl dL_law__571 ?_
      refine G_callI (run_V C [] [] (dX12_thrown rfl) ml_X12_thrown mv_X12_thrown lk_L_116 ⟨(Nat.le_of_ble_eq_true rfl), (Nat.le_of_ble_eq_true rfl)⟩ ⟨rmc (by omega), rms (by omega)⟩ vq_11 rfl ko_81 rfl (Nat.le_of_ble_eq_true rfl) dL_law__572) ?_
      refine G_iload C 1 rfl dL_law__575 ?_
      refine G_icmp_eq (tgt := 582) C rfl dL_law__577 (fun hc56 => ?_) (fun hc56 => ?_)
      · replace h := (if_pos hc56).symm.trans h
        refine G_iload C 1 rfl dL_law__582 ?_
        refine G_if_ne (tgt := 599) C rfl dL_law__584 (fun hc57 => ?_) (fun hc57 => ?_)
        · replace h := (if_neg hc57).symm.trans h
          refine G_goto (tgt := 2342) C rfl dL_law__599 ?_
          refine G_iinc (v := 8) (L' := [(4, .int (x4 + (8 : Int32))), (6, .int v54), (5, .int v53), (0, .ref 1), (1, .ref 32), (2, .ref 81), (3, .ref 146)]) C 6 rfl rfl (Nat.le_of_ble_eq_true rfl) rfl dL_law__2342 ?_
          refine G_goto (tgt := 23) C rfl dL_law__2345 ?_
          refine G_widen (k1 := ck + 8) (k2 := sk + 700) (by omega) (by omega) ?_
          refine G_sub [3, 4, 5, 6, 0] rfl ?_
          exact hf23 _ _ h
        · replace h := (if_pos hc57).symm.trans h
          refine G_aload_n C 5 rfl rfl dL_law__587 ?_
          refine G_iconst C (v := 0) rfl dL_law__588 ?_
          refine G_laload C ks_146 ⟨by decide, by decide⟩ dL_law__589 ?_
          refine G_iload C 0 rfl dL_law__590 ?_
          refine G_i2l C dL_law__592 ?_
          refine G_lcmp C dL_law__593 ?_
          refine G_if_eq (tgt := 599) C rfl dL_law__594 (fun hc58 => ?_) (fun hc58 => ?_)
          · replace h := (if_pos hc58).symm.trans h
            refine G_goto (tgt := 2342) C rfl dL_law__599 ?_
            refine G_iinc (v := 8) (L' := [(4, .int (x4 + (8 : Int32))), (6, .int v54), (5, .int v53), (0, .ref 1), (1, .ref 32), (2, .ref 81), (3, .ref 146)]) C 6 rfl rfl (Nat.le_of_ble_eq_true rfl) rfl dL_law__2342 ?_
            refine G_goto (tgt := 23) C rfl dL_law__2345 ?_
            refine G_widen (k1 := ck + 8) (k2 := sk + 700) (by omega) (by omega) ?_
            refine G_sub [3, 4, 5, 6, 0] rfl ?_
            exact hf23 _ _ h
          · replace h := (if_neg hc58).symm.trans h
            refine G_iconst C (v := 0) rfl dL_law__597 ?_
            exact absurd (Option.some.inj h) (by decide)
      · replace h := (if_neg hc56).symm.trans h
        refine G_iconst C (v := 0) rfl dL_law__580 ?_
        exact absurd (Option.some.inj h) (by decide)
    replace h := (if_neg hc50).symm.trans h
    by_cases hc59 : ((xs (x4).toNatClampNeg) &&& (31 : Int32)) = (6 : Int32)
    · replace h := (if_pos hc59).symm.trans h
      refine G_tswIn (tgt := 602) C (6) 6 hc59 (by decide) (by decide) (by decide) rfl rfl dL_law__40 ?_
      refine G_aload_n C 1 rfl rfl dL_law__602 ?_
      refine G_aload_n C 0 rfl rfl dL_law__603 ?_
      refine G_iload C 4 rfl dL_law__604 ?_
      refine G_iconst C (v := 1) rfl dL_law__606 ?_
      refine G_iadd C dL_law__607 ?_
      obtain ⟨hc60, h⟩ := ifn h
      refine G_xld C hx hc60 dL_law__608 ?_
      refine G_aload_n C 3 rfl rfl dL_law__609 ?_
      obtain ⟨v61, σ61, hv61, h⟩ := bd2_elim h
      refine G_callI (run_SH C [.ref 32, .int (xs ((x4 + (1 : Int32))).toNatClampNeg), .ref 146] [] (dL_evenings hlx hv61) cw_L_evenings in_L mh_L_evenings ms_L_evenings lk_L_133 ⟨(Nat.le_of_ble_eq_true rfl), (Nat.le_of_ble_eq_true rfl)⟩ ⟨rmc (by omega), rms (by omega)⟩ rfl (Nat.le_of_ble_eq_true rfl) dL_law__610) ?_
      refine G_istore (L' := [(5, .int v61), (0, .ref 1), (1, .ref 32), (2, .ref 81), (3, .ref 146), (4, .int x4)]) C (Nat.le_of_ble_eq_true rfl) rfl dL_law__613 ?_
      refine G_aload_n C 3 rfl rfl dL_law__615 ?_
      refine G_aload_n C 1 rfl rfl dL_law__616 ?_
      refine G_iload C 5 rfl dL_law__617 ?_
      refine G_iconst C (v := 1) rfl dL_law__619 ?_
      refine G_iadd C dL_law__620 ?_
      refine G_xld C hx hc60 dL_law__621 ?_
      obtain ⟨v62, σ62, hv62, h⟩ := bd2_elim h
      refine G_callI (run_V C [.int (xs ((x4 + (1 : Int32))).toNatClampNeg)] [] (dX12_evenings hv62) ml_X12_evenings mv_X12_evenings lk_L_136 ⟨(Nat.le_of_ble_eq_true rfl), (Nat.le_of_ble_eq_true rfl)⟩ ⟨rmc (by omega), rms (by omega)⟩ vq_11 rfl ko_81 rfl (Nat.le_of_ble_eq_true rfl) dL_law__622) ?_
      refine G_istore (L' := [(6, .int v62), (5, .int v61), (0, .ref 1), (1, .ref 32), (2, .ref 81), (3, .ref 146), (4, .int x4)]) C (Nat.le_of_ble_eq_true rfl) rfl dL_law__625 ?_
      refine G_aload_n C 4 rfl rfl dL_law__627 ?_
      refine G_callI (run_V C [] [] (dX12_thrown rfl) ml_X12_thrown mv_X12_thrown lk_L_116 ⟨(Nat.le_of_ble_eq_true rfl), (Nat.le_of_ble_eq_true rfl)⟩ ⟨rmc (by omega), rms (by omega)⟩ vq_11 rfl ko_81 rfl (Nat.le_of_ble_eq_true rfl) dL_law__628) ?_
      refine G_iload C 1 rfl dL_law__631 ?_
      refine G_icmp_eq (tgt := 638) C rfl dL_law__633 (fun hc64 => ?_) (fun hc64 => ?_)
      · replace h := (if_pos hc64).symm.trans h
        refine G_iload C 1 rfl dL_law__638 ?_
        refine G_if_ne (tgt := 655) C rfl dL_law__640 (fun hc65 => ?_) (fun hc65 => ?_)
        · replace h := (if_neg hc65).symm.trans h
          refine G_goto (tgt := 2342) C rfl dL_law__655 ?_
          refine G_iinc (v := 8) (L' := [(4, .int (x4 + (8 : Int32))), (6, .int v62), (5, .int v61), (0, .ref 1), (1, .ref 32), (2, .ref 81), (3, .ref 146)]) C 6 rfl rfl (Nat.le_of_ble_eq_true rfl) rfl dL_law__2342 ?_
          refine G_goto (tgt := 23) C rfl dL_law__2345 ?_
          refine G_widen (k1 := ck + 8) (k2 := sk + 700) (by omega) (by omega) ?_
          refine G_sub [3, 4, 5, 6, 0] rfl ?_
          exact hf23 _ _ h
        · replace h := (if_pos hc65).symm.trans h
          refine G_aload_n C 5 rfl rfl dL_law__643 ?_
          refine G_iconst C (v := 0) rfl dL_law__644 ?_
          refine G_laload C ks_146 ⟨by decide, by decide⟩ dL_law__645 ?_
          refine G_iload C 0 rfl dL_law__646 ?_
          refine G_i2l C dL_law__648 ?_
          refine G_lcmp C dL_law__649 ?_
          refine G_if_eq (tgt := 655) C rfl dL_law__650 (fun hc66 => ?_) (fun hc66 => ?_)
          · replace h := (if_pos hc66).symm.trans h
            refine G_goto (tgt := 2342) C rfl dL_law__655 ?_
            refine G_iinc (v := 8) (L' := [(4, .int (x4 + (8 : Int32))), (6, .int v62), (5, .int v61), (0, .ref 1), (1, .ref 32), (2, .ref 81), (3, .ref 146)]) C 6 rfl rfl (Nat.le_of_ble_eq_true rfl) rfl dL_law__2342 ?_
            refine G_goto (tgt := 23) C rfl dL_law__2345 ?_
            refine G_widen (k1 := ck + 8) (k2 := sk + 700) (by omega) (by omega) ?_
            refine G_sub [3, 4, 5, 6, 0] rfl ?_
            exact hf23 _ _ h
          · replace h := (if_neg hc66).symm.trans h
            refine G_iconst C (v := 0) rfl dL_law__653 ?_
            exact absurd (Option.some.inj h) (by decide)
      · replace h := (if_neg hc64).symm.trans h
        refine G_iconst C (v := 0) rfl dL_law__636 ?_
        exact absurd (Option.some.inj h) (by decide)
    replace h := (if_neg hc59).symm.trans h
    by_cases hc67 : ((xs (x4).toNatClampNeg) &&& (31 : Int32)) = (7 : Int32)
    · replace h := (if_pos hc67).symm.trans h
      refine G_tswIn (tgt := 658) C (7) 7 hc67 (by decide) (by decide) (by decide) rfl rfl dL_law__40 ?_
      refine G_aload_n C 1 rfl rfl dL_law__658 ?_
      refine G_aload_n C 0 rfl rfl dL_law__659 ?_
      refine G_iload C 4 rfl dL_law__660 ?_
      refine G_iconst C (v := 1) rfl dL_law__662 ?_
      refine G_iadd C dL_law__663 ?_
      obtain ⟨hc68, h⟩ := ifn h
      refine G_xld C hx hc68 dL_law__664 ?_
      refine G_aload_n C 0 rfl rfl dL_law__665 ?_
      refine G_iload C 4 rfl dL_law__666 ?_
      refine G_iconst C (v := 2) rfl dL_law__668 ?_
      refine G_iadd C dL_law__669 ?_
      obtain ⟨hc69, h⟩ := ifn h
      refine G_xld C hx hc69 dL_law__670 ?_
      refine G_aload_n C 0 rfl rfl dL_law__671 ?_
      refine G_iload C 4 rfl dL_law__672 ?_
      refine G_iconst C (v := 3) rfl dL_law__674 ?_
      refine G_iadd C dL_law__675 ?_
      obtain ⟨hc70, h⟩ := ifn h
      refine G_xld C hx hc70 dL_law__676 ?_
      refine G_aload_n C 3 rfl rfl dL_law__677 ?_
      obtain ⟨v71, σ71, hv71, h⟩ := bd2_elim h
      refine G_callI (run_SH C [.ref 32, .int (xs ((x4 + (1 : Int32))).toNatClampNeg), .int (xs ((x4 + (2 : Int32))).toNatClampNeg), .int (xs ((x4 + (3 : Int32))).toNatClampNeg), .ref 146] [] (dL_death hlx hv71) cw_L_death in_L mh_L_death ms_L_death lk_L_137 ⟨(Nat.le_of_ble_eq_true rfl), (Nat.le_of_ble_eq_true rfl)⟩ ⟨rmc (by omega), rms (by omega)⟩ rfl (Nat.le_of_ble_eq_true rfl) dL_law__678) ?_
      refine G_istore (L' := [(5, .int v71), (0, .ref 1), (1, .ref 32), (2, .ref 81), (3, .ref 146), (4, .int x4)]) C (Nat.le_of_ble_eq_true rfl) rfl dL_law__681 ?_
      refine G_aload_n C 3 rfl rfl dL_law__683 ?_
      refine G_aload_n C 1 rfl rfl dL_law__684 ?_
      refine G_iload C 5 rfl dL_law__685 ?_
      refine G_iconst C (v := 1) rfl dL_law__687 ?_
      refine G_iadd C dL_law__688 ?_
      refine G_xld C hx hc68 dL_law__689 ?_
      refine G_aload_n C 1 rfl rfl dL_law__690 ?_
      refine G_iload C 5 rfl dL_law__691 ?_
      refine G_iconst C (v := 2) rfl dL_law__693 ?_
      refine G_iadd C dL_law__694 ?_
      refine G_xld C hx hc69 dL_law__695 ?_
      refine G_aload_n C 1 rfl rfl dL_law__696 ?_
      refine G_iload C 5 rfl dL_law__697 ?_
      refine G_iconst C (v := 3) rfl dL_law__699 ?_
      refine G_iadd C dL_law__700 ?_
      refine G_xld C hx hc70 dL_law__701 ?_
      obtain ⟨v72, σ72, hv72, h⟩ := bd2_elim h
      refine G_callI (run_V C [.int (xs ((x4 + (1 : Int32))).toNatClampNeg), .int (xs ((x4 + (2 : Int32))).toNatClampNeg), .int (xs ((x4 + (3 : Int32))).toNatClampNeg)] [] (dX12_death hv72) ml_X12_death mv_X12_death lk_L_139 ⟨(Nat.le_of_ble_eq_true rfl), (Nat.le_of_ble_eq_true rfl)⟩ ⟨rmc (by omega), rms (by omega)⟩ vq_11 rfl ko_81 rfl (Nat.le_of_ble_eq_true rfl) dL_law__702) ?_
      refine G_istore (L' := [(6, .int v72), (5, .int v71), (0, .ref 1), (1, .ref 32), (2, .ref 81), (3, .ref 146), (4, .int x4)]) C (Nat.le_of_ble_eq_true rfl) rfl dL_law__705 ?_
      refine G_aload_n C 4 rfl rfl dL_law__707 ?_
      refine G_callI (run_V C [] [] (dX12_thrown rfl) ml_X12_thrown mv_X12_thrown lk_L_116 ⟨(Nat.le_of_ble_eq_true rfl), (Nat.le_of_ble_eq_true rfl)⟩ ⟨rmc (by omega), rms (by omega)⟩ vq_11 rfl ko_81 rfl (Nat.le_of_ble_eq_true rfl) dL_law__708) ?_
      refine G_iload C 1 rfl dL_law__711 ?_
      refine G_icmp_eq (tgt := 718) C rfl dL_law__713 (fun hc74 => ?_) (fun hc74 => ?_)
      · replace h := (if_pos hc74).symm.trans h
        refine G_iload C 1 rfl dL_law__718 ?_
        refine G_if_ne (tgt := 735) C rfl dL_law__720 (fun hc75 => ?_) (fun hc75 => ?_)
        · replace h := (if_neg hc75).symm.trans h
          refine G_goto (tgt := 2342) C rfl dL_law__735 ?_
          refine G_iinc (v := 8) (L' := [(4, .int (x4 + (8 : Int32))), (6, .int v72), (5, .int v71), (0, .ref 1), (1, .ref 32), (2, .ref 81), (3, .ref 146)]) C 6 rfl rfl (Nat.le_of_ble_eq_true rfl) rfl dL_law__2342 ?_
          refine G_goto (tgt := 23) C rfl dL_law__2345 ?_
          refine G_widen (k1 := ck + 8) (k2 := sk + 700) (by omega) (by omega) ?_
          refine G_sub [3, 4, 5, 6, 0] rfl ?_
          exact hf23 _ _ h
        · replace h := (if_pos hc75).symm.trans h
          refine G_aload_n C 5 rfl rfl dL_law__723 ?_
          refine G_iconst C (v := 0) rfl dL_law__724 ?_
          refine G_laload C ks_146 ⟨by decide, by decide⟩ dL_law__725 ?_
          refine G_iload C 0 rfl dL_law__726 ?_
          refine G_i2l C dL_law__728 ?_
          refine G_lcmp C dL_law__729 ?_
          refine G_if_eq (tgt := 735) C rfl dL_law__730 (fun hc76 => ?_) (fun hc76 => ?_)
          · replace h := (if_pos hc76).symm.trans h
            refine G_goto (tgt := 2342) C rfl dL_law__735 ?_
            refine G_iinc (v := 8) (L' := [(4, .int (x4 + (8 : Int32))), (6, .int v72), (5, .int v71), (0, .ref 1), (1, .ref 32), (2, .ref 81), (3, .ref 146)]) C 6 rfl rfl (Nat.le_of_ble_eq_true rfl) rfl dL_law__2342 ?_
            refine G_goto (tgt := 23) C rfl dL_law__2345 ?_
            refine G_widen (k1 := ck + 8) (k2 := sk + 700) (by omega) (by omega) ?_
            refine G_sub [3, 4, 5, 6, 0] rfl ?_
            exact hf23 _ _ h
          · replace h := (if_neg hc76).symm.trans h
            refine G_iconst C (v := 0) rfl dL_law__733 ?_
            exact absurd (Option.some.inj h) (by decide)
      · replace h := (if_neg hc74).symm.trans h
        refine G_iconst C (v := 0) rfl dL_law__716 ?_
        exact absurd (Option.some.inj h) (by decide)
    replace h := (if_neg hc67).symm.trans h
    by_cases hc77 : ((xs (x4).toNatClampNeg) &&& (31 : Int32)) = (8 : Int32)
    · replace h := (if_pos hc77).symm.trans h
      refine G_tswIn (tgt := 738) C (8) 8 hc77 (by decide) (by decide) (by decide) rfl rfl dL_law__40 ?_
      refine G_aload_n C 1 rfl rfl dL_law__738 ?_
      refine G_aload_n C 0 rfl rfl dL_law__739 ?_
      refine G_iload C 4 rfl dL_law__740 ?_
      refine G_iconst C (v := 1) rfl dL_law__742 ?_
      refine G_iadd C dL_law__743 ?_
      obtain ⟨hc78, h⟩ := ifn h
      refine G_xld C hx hc78 dL_law__744 ?_
      refine G_aload_n C 0 rfl rfl dL_law__745 ?_
      refine G_iload C 4 rfl dL_law__746 ?_
      refine G_iconst C (v := 2) rfl dL_law__748 ?_
      refine G_iadd C dL_law__749 ?_
      obtain ⟨hc79, h⟩ := ifn h
      refine G_xld C hx hc79 dL_law__750 ?_
      refine G_aload_n C 0 rfl rfl dL_law__751 ?_
      refine G_iload C 4 rfl dL_law__752 ?_
      refine G_iconst C (v := 3) rfl dL_law__754 ?_
      refine G_iadd C dL_law__755 ?_
      obtain ⟨hc80, h⟩ := ifn h
      refine G_xld C hx hc80 dL_law__756 ?_
      refine G_aload_n C 0 rfl rfl dL_law__757 ?_
      refine G_iload C 4 rfl dL_law__758 ?_
      refine G_iconst C (v := 4) rfl dL_law__760 ?_
      refine G_iadd C dL_law__761 ?_
      obtain ⟨hc81, h⟩ := ifn h
      refine G_xld C hx hc81 dL_law__762 ?_
      refine G_aload_n C 3 rfl rfl dL_law__763 ?_
      obtain ⟨v82, σ82, hv82, h⟩ := bd2_elim h
      refine G_callI (run_SH C [.ref 32, .int (xs ((x4 + (1 : Int32))).toNatClampNeg), .int (xs ((x4 + (2 : Int32))).toNatClampNeg), .int (xs ((x4 + (3 : Int32))).toNatClampNeg), .int (xs ((x4 + (4 : Int32))).toNatClampNeg), .ref 146] [] (dL_heir hlx hv82) cw_L_heir in_L mh_L_heir ms_L_heir lk_L_140 ⟨(Nat.le_of_ble_eq_true rfl), (Nat.le_of_ble_eq_true rfl)⟩ ⟨rmc (by omega), rms (by omega)⟩ rfl (Nat.le_of_ble_eq_true rfl) dL_law__764) ?_
      refine G_istore (L' := [(5, .int v82), (0, .ref 1), (1, .ref 32), (2, .ref 81), (3, .ref 146), (4, .int x4)]) C (Nat.le_of_ble_eq_true rfl) rfl dL_law__767 ?_
      refine G_aload_n C 3 rfl rfl dL_law__769 ?_
      refine G_aload_n C 1 rfl rfl dL_law__770 ?_
      refine G_iload C 5 rfl dL_law__771 ?_
      refine G_iconst C (v := 1) rfl dL_law__773 ?_
      refine G_iadd C dL_law__774 ?_
      refine G_xld C hx hc78 dL_law__775 ?_
      refine G_aload_n C 1 rfl rfl dL_law__776 ?_
      refine G_iload C 5 rfl dL_law__777 ?_
      refine G_iconst C (v := 2) rfl dL_law__779 ?_
      refine G_iadd C dL_law__780 ?_
      refine G_xld C hx hc79 dL_law__781 ?_
      refine G_aload_n C 1 rfl rfl dL_law__782 ?_
      refine G_iload C 5 rfl dL_law__783 ?_
      refine G_iconst C (v := 3) rfl dL_law__785 ?_
      refine G_iadd C dL_law__786 ?_
      refine G_xld C hx hc80 dL_law__787 ?_
      refine G_aload_n C 1 rfl rfl dL_law__788 ?_
      refine G_iload C 5 rfl dL_law__789 ?_
      refine G_iconst C (v := 4) rfl dL_law__791 ?_
      refine G_iadd C dL_law__792 ?_
      refine G_xld C hx hc81 dL_law__793 ?_
      obtain ⟨v83, σ83, hv83, h⟩ := bd2_elim h
      refine G_callI (run_V C [.int (xs ((x4 + (1 : Int32))).toNatClampNeg), .int (xs ((x4 + (2 : Int32))).toNatClampNeg), .int (xs ((x4 + (3 : Int32))).toNatClampNeg), .int (xs ((x4 + (4 : Int32))).toNatClampNeg)] [] (dX12_heir hv83) ml_X12_heir mv_X12_heir lk_L_143 ⟨(Nat.le_of_ble_eq_true rfl), (Nat.le_of_ble_eq_true rfl)⟩ ⟨rmc (by omega), rms (by omega)⟩ vq_11 rfl ko_81 rfl (Nat.le_of_ble_eq_true rfl) dL_law__794) ?_
      refine G_istore (L' := [(6, .int v83), (5, .int v82), (0, .ref 1), (1, .ref 32), (2, .ref 81), (3, .ref 146), (4, .int x4)]) C (Nat.le_of_ble_eq_true rfl) rfl dL_law__797 ?_
      refine G_aload_n C 4 rfl rfl dL_law__799 ?_
      refine G_callI (run_V C [] [] (dX12_thrown rfl) ml_X12_thrown mv_X12_thrown lk_L_116 ⟨(Nat.le_of_ble_eq_true rfl), (Nat.le_of_ble_eq_true rfl)⟩ ⟨rmc (by omega), rms (by omega)⟩ vq_11 rfl ko_81 rfl (Nat.le_of_ble_eq_true rfl) dL_law__800) ?_
      refine G_iload C 1 rfl dL_law__803 ?_
      refine G_icmp_eq (tgt := 810) C rfl dL_law__805 (fun hc85 => ?_) (fun hc85 => ?_)
      · replace h := (if_pos hc85).symm.trans h
        refine G_iload C 1 rfl dL_law__810 ?_
        refine G_if_ne (tgt := 827) C rfl dL_law__812 (fun hc86 => ?_) (fun hc86 => ?_)
        · replace h := (if_neg hc86).symm.trans h
          refine G_goto (tgt := 2342) C rfl dL_law__827 ?_
          refine G_iinc (v := 8) (L' := [(4, .int (x4 + (8 : Int32))), (6, .int v83), (5, .int v82), (0, .ref 1), (1, .ref 32), (2, .ref 81), (3, .ref 146)]) C 6 rfl rfl (Nat.le_of_ble_eq_true rfl) rfl dL_law__2342 ?_
          refine G_goto (tgt := 23) C rfl dL_law__2345 ?_
          refine G_widen (k1 := ck + 8) (k2 := sk + 700) (by omega) (by omega) ?_
          refine G_sub [3, 4, 5, 6, 0] rfl ?_
          exact hf23 _ _ h
        · replace h := (if_pos hc86).symm.trans h
          refine G_aload_n C 5 rfl rfl dL_law__815 ?_
          refine G_iconst C (v := 0) rfl dL_law__816 ?_
          refine G_laload C ks_146 ⟨by decide, by decide⟩ dL_law__817 ?_
          refine G_iload C 0 rfl dL_law__818 ?_
          refine G_i2l C dL_law__820 ?_
          refine G_lcmp C dL_law__821 ?_
          refine G_if_eq (tgt := 827) C rfl dL_law__822 (fun hc87 => ?_) (fun hc87 => ?_)
          · replace h := (if_pos hc87).symm.trans h
            refine G_goto (tgt := 2342) C rfl dL_law__827 ?_
            refine G_iinc (v := 8) (L' := [(4, .int (x4 + (8 : Int32))), (6, .int v83), (5, .int v82), (0, .ref 1), (1, .ref 32), (2, .ref 81), (3, .ref 146)]) C 6 rfl rfl (Nat.le_of_ble_eq_true rfl) rfl dL_law__2342 ?_
            refine G_goto (tgt := 23) C rfl dL_law__2345 ?_
            refine G_widen (k1 := ck + 8) (k2 := sk + 700) (by omega) (by omega) ?_
            refine G_sub [3, 4, 5, 6, 0] rfl ?_
            exact hf23 _ _ h
          · replace h := (if_neg hc87).symm.trans h
            refine G_iconst C (v := 0) rfl dL_law__825 ?_
            exact absurd (Option.some.inj h) (by decide)
      · replace h := (if_neg hc85).symm.trans h
        refine G_iconst C (v := 0) rfl dL_law__808 ?_
        exact absurd (Option.some.inj h) (by decide)
    replace h := (if_neg hc77).symm.trans h
    by_cases hc88 : ((xs (x4).toNatClampNeg) &&& (31 : Int32)) = (9 : Int32)
    · replace h := (if_pos hc88).symm.trans h
      refine G_tswIn (tgt := 830) C (9) 9 hc88 (by decide) (by decide) (by decide) rfl rfl dL_law__40 ?_
      refine G_aload_n C 1 rfl rfl dL_law__830 ?_
      refine G_aload_n C 0 rfl rfl dL_law__831 ?_
      refine G_iload C 4 rfl dL_law__832 ?_
      refine G_iconst C (v := 1) rfl dL_law__834 ?_
      refine G_iadd C dL_law__835 ?_
      obtain ⟨hc89, h⟩ := ifn h
      refine G_xld C hx hc89 dL_law__836 ?_
      refine G_aload_n C 0 rfl rfl dL_law__837 ?_
      refine G_iload C 4 rfl dL_law__838 ?_
      refine G_iconst C (v := 2) rfl dL_law__840 ?_
      refine G_iadd C dL_law__841 ?_
      obtain ⟨hc90, h⟩ := ifn h
      refine G_xld C hx hc90 dL_law__842 ?_
      refine G_aload_n C 0 rfl rfl dL_law__843 ?_
      refine G_iload C 4 rfl dL_law__844 ?_
      refine G_iconst C (v := 3) rfl dL_law__846 ?_
      refine G_iadd C dL_law__847 ?_
      obtain ⟨hc91, h⟩ := ifn h
      refine G_xld C hx hc91 dL_law__848 ?_
      refine G_aload_n C 0 rfl rfl dL_law__849 ?_
      refine G_iload C 4 rfl dL_law__850 ?_
      refine G_iconst C (v := 4) rfl dL_law__852 ?_
      refine G_iadd C dL_law__853 ?_
      obtain ⟨hc92, h⟩ := ifn h
      refine G_xld C hx hc92 dL_law__854 ?_
      refine G_aload_n C 0 rfl rfl dL_law__855 ?_
      refine G_iload C 4 rfl dL_law__856 ?_
      refine G_iconst C (v := 5) rfl dL_law__858 ?_
      refine G_iadd C dL_law__859 ?_
      obtain ⟨hc93, h⟩ := ifn h
      refine G_xld C hx hc93 dL_law__860 ?_
      refine G_aload_n C 0 rfl rfl dL_law__861 ?_
      refine G_iload C 4 rfl dL_law__862 ?_
      refine G_bipush C (v := 6) rfl dL_law__864 ?_
      refine G_iadd C dL_law__866 ?_
      obtain ⟨hc94, h⟩ := ifn h
      refine G_xld C hx hc94 dL_law__867 ?_
      refine G_aload_n C 0 rfl rfl dL_law__868 ?_
      refine G_iload C 4 rfl dL_law__869 ?_
      refine G_bipush C (v := 7) rfl dL_law__871 ?_
      refine G_iadd C dL_law__873 ?_
      obtain ⟨hc95, h⟩ := ifn h
      refine G_xld C hx hc95 dL_law__874 ?_
      refine G_aload_n C 3 rfl rfl dL_law__875 ?_
      obtain ⟨v96, σ96, hv96, h⟩ := bd2_elim h
      refine G_callI (run_SH C [.ref 32, .int (xs ((x4 + (1 : Int32))).toNatClampNeg), .int (xs ((x4 + (2 : Int32))).toNatClampNeg), .int (xs ((x4 + (3 : Int32))).toNatClampNeg), .int (xs ((x4 + (4 : Int32))).toNatClampNeg), .int (xs ((x4 + (5 : Int32))).toNatClampNeg), .int (xs ((x4 + (6 : Int32))).toNatClampNeg), .int (xs ((x4 + (7 : Int32))).toNatClampNeg), .ref 146] [] (dL_sale hlx hv96) cw_L_sale in_L mh_L_sale ms_L_sale lk_L_144 ⟨(Nat.le_of_ble_eq_true rfl), (Nat.le_of_ble_eq_true rfl)⟩ ⟨rmc (by omega), rms (by omega)⟩ rfl (Nat.le_of_ble_eq_true rfl) dL_law__876) ?_
      refine G_istore (L' := [(5, .int v96), (0, .ref 1), (1, .ref 32), (2, .ref 81), (3, .ref 146), (4, .int x4)]) C (Nat.le_of_ble_eq_true rfl) rfl dL_law__879 ?_
      refine G_aload_n C 3 rfl rfl dL_law__881 ?_
      refine G_aload_n C 1 rfl rfl dL_law__882 ?_
      refine G_iload C 5 rfl dL_law__883 ?_
      refine G_iconst C (v := 1) rfl dL_law__885 ?_
      refine G_iadd C dL_law__886 ?_
      refine G_xld C hx hc89 dL_law__887 ?_
      refine G_aload_n C 1 rfl rfl dL_law__888 ?_
      refine G_iload C 5 rfl dL_law__889 ?_
      refine G_iconst C (v := 2) rfl dL_law__891 ?_
      refine G_iadd C dL_law__892 ?_
      refine G_xld C hx hc90 dL_law__893 ?_
      refine G_aload_n C 1 rfl rfl dL_law__894 ?_
      refine G_iload C 5 rfl dL_law__895 ?_
      refine G_iconst C (v := 3) rfl dL_law__897 ?_
      refine G_iadd C dL_law__898 ?_
      refine G_xld C hx hc91 dL_law__899 ?_
      refine G_aload_n C 1 rfl rfl dL_law__900 ?_
      refine G_iload C 5 rfl dL_law__901 ?_
      refine G_iconst C (v := 4) rfl dL_law__903 ?_
      refine G_iadd C dL_law__904 ?_
      refine G_xld C hx hc92 dL_law__905 ?_
      refine G_aload_n C 1 rfl rfl dL_law__906 ?_
      refine G_iload C 5 rfl dL_law__907 ?_
      refine G_iconst C (v := 5) rfl dL_law__909 ?_
      refine G_iadd C dL_law__910 ?_
      refine G_xld C hx hc93 dL_law__911 ?_
      refine G_aload_n C 1 rfl rfl dL_law__912 ?_
      refine G_iload C 5 rfl dL_law__913 ?_
      refine G_bipush C (v := 6) rfl dL_law__915 ?_
      refine G_iadd C dL_law__917 ?_
      refine G_xld C hx hc94 dL_law__918 ?_
      refine G_aload_n C 1 rfl rfl dL_law__919 ?_
      refine G_iload C 5 rfl dL_law__920 ?_
      refine G_bipush C (v := 7) rfl dL_law__922 ?_
      refine G_iadd C dL_law__924 ?_
      refine G_xld C hx hc95 dL_law__925 ?_
      obtain ⟨v97, σ97, hv97, h⟩ := bd2_elim h
      refine G_callI (run_V C [.int (xs ((x4 + (1 : Int32))).toNatClampNeg), .int (xs ((x4 + (2 : Int32))).toNatClampNeg), .int (xs ((x4 + (3 : Int32))).toNatClampNeg), .int (xs ((x4 + (4 : Int32))).toNatClampNeg), .int (xs ((x4 + (5 : Int32))).toNatClampNeg), .int (xs ((x4 + (6 : Int32))).toNatClampNeg), .int (xs ((x4 + (7 : Int32))).toNatClampNeg)] [] (dX12_sale hv97) ml_X12_sale mv_X12_sale lk_L_147 ⟨(Nat.le_of_ble_eq_true rfl), (Nat.le_of_ble_eq_true rfl)⟩ ⟨rmc (by omega), rms (by omega)⟩ vq_11 rfl ko_81 rfl (Nat.le_of_ble_eq_true rfl) dL_law__926) ?_
      refine G_istore (L' := [(6, .int v97), (5, .int v96), (0, .ref 1), (1, .ref 32), (2, .ref 81), (3, .ref 146), (4, .int x4)]) C (Nat.le_of_ble_eq_true rfl) rfl dL_law__929 ?_
      refine G_aload_n C 4 rfl rfl dL_law__931 ?_
      refine G_callI (run_V C [] [] (dX12_thrown rfl) ml_X12_thrown mv_X12_thrown lk_L_116 ⟨(Nat.le_of_ble_eq_true rfl), (Nat.le_of_ble_eq_true rfl)⟩ ⟨rmc (by omega), rms (by omega)⟩ vq_11 rfl ko_81 rfl (Nat.le_of_ble_eq_true rfl) dL_law__932) ?_
      refine G_iload C 1 rfl dL_law__935 ?_
      refine G_icmp_eq (tgt := 942) C rfl dL_law__937 (fun hc99 => ?_) (fun hc99 => ?_)
      · replace h := (if_pos hc99).symm.trans h
        refine G_iload C 1 rfl dL_law__942 ?_
        refine G_if_ne (tgt := 959) C rfl dL_law__944 (fun hc100 => ?_) (fun hc100 => ?_)
        · replace h := (if_neg hc100).symm.trans h
          refine G_goto (tgt := 2342) C rfl dL_law__959 ?_
          refine G_iinc (v := 8) (L' := [(4, .int (x4 + (8 : Int32))), (6, .int v97), (5, .int v96), (0, .ref 1), (1, .ref 32), (2, .ref 81), (3, .ref 146)]) C 6 rfl rfl (Nat.le_of_ble_eq_true rfl) rfl dL_law__2342 ?_
          refine G_goto (tgt := 23) C rfl dL_law__2345 ?_
          refine G_widen (k1 := ck + 8) (k2 := sk + 700) (by omega) (by omega) ?_
          refine G_sub [3, 4, 5, 6, 0] rfl ?_
          exact hf23 _ _ h
        · replace h := (if_pos hc100).symm.trans h
          refine G_aload_n C 5 rfl rfl dL_law__947 ?_
          refine G_iconst C (v := 0) rfl dL_law__948 ?_
          refine G_laload C ks_146 ⟨by decide, by decide⟩ dL_law__949 ?_
          refine G_iload C 0 rfl dL_law__950 ?_
          refine G_i2l C dL_law__952 ?_
          refine G_lcmp C dL_law__953 ?_
          refine G_if_eq (tgt := 959) C rfl dL_law__954 (fun hc101 => ?_) (fun hc101 => ?_)
          · replace h := (if_pos hc101).symm.trans h
            refine G_goto (tgt := 2342) C rfl dL_law__959 ?_
            refine G_iinc (v := 8) (L' := [(4, .int (x4 + (8 : Int32))), (6, .int v97), (5, .int v96), (0, .ref 1), (1, .ref 32), (2, .ref 81), (3, .ref 146)]) C 6 rfl rfl (Nat.le_of_ble_eq_true rfl) rfl dL_law__2342 ?_
            refine G_goto (tgt := 23) C rfl dL_law__2345 ?_
            refine G_widen (k1 := ck + 8) (k2 := sk + 700) (by omega) (by omega) ?_
            refine G_sub [3, 4, 5, 6, 0] rfl ?_
            exact hf23 _ _ h
          · replace h := (if_neg hc101).symm.trans h
            refine G_iconst C (v := 0) rfl dL_law__957 ?_
            exact absurd (Option.some.inj h) (by decide)
      · replace h := (if_neg hc99).symm.trans h
        refine G_iconst C (v := 0) rfl dL_law__940 ?_
        exact absurd (Option.some.inj h) (by decide)
    replace h := (if_neg hc88).symm.trans h
    by_cases hc102 : ((xs (x4).toNatClampNeg) &&& (31 : Int32)) = (10 : Int32)
    · replace h := (if_pos hc102).symm.trans h
      refine G_tswIn (tgt := 962) C (10) 10 hc102 (by decide) (by decide) (by decide) rfl rfl dL_law__40 ?_
      refine G_aload_n C 1 rfl rfl dL_law__962 ?_
      refine G_aload_n C 0 rfl rfl dL_law__963 ?_
      refine G_iload C 4 rfl dL_law__964 ?_
      refine G_iconst C (v := 1) rfl dL_law__966 ?_
      refine G_iadd C dL_law__967 ?_
      obtain ⟨hc103, h⟩ := ifn h
      refine G_xld C hx hc103 dL_law__968 ?_
      refine G_aload_n C 0 rfl rfl dL_law__969 ?_
      refine G_iload C 4 rfl dL_law__970 ?_
      refine G_iconst C (v := 2) rfl dL_law__972 ?_
      refine G_iadd C dL_law__973 ?_
      obtain ⟨hc104, h⟩ := ifn h
      refine G_xld C hx hc104 dL_law__974 ?_
      refine G_aload_n C 0 rfl rfl dL_law__975 ?_
      refine G_iload C 4 rfl dL_law__976 ?_
      refine G_iconst C (v := 3) rfl dL_law__978 ?_
      refine G_iadd C dL_law__979 ?_
      obtain ⟨hc105, h⟩ := ifn h
      refine G_xld C hx hc105 dL_law__980 ?_
      refine G_aload_n C 0 rfl rfl dL_law__981 ?_
      refine G_iload C 4 rfl dL_law__982 ?_
      refine G_iconst C (v := 4) rfl dL_law__984 ?_
      refine G_iadd C dL_law__985 ?_
      obtain ⟨hc106, h⟩ := ifn h
      refine G_xld C hx hc106 dL_law__986 ?_
      refine G_aload_n C 0 rfl rfl dL_law__987 ?_
      refine G_iload C 4 rfl dL_law__988 ?_
      refine G_iconst C (v := 5) rfl dL_law__990 ?_
      refine G_iadd C dL_law__991 ?_
      obtain ⟨hc107, h⟩ := ifn h
      refine G_xld C hx hc107 dL_law__992 ?_
      refine G_aload_n C 3 rfl rfl dL_law__993 ?_
      obtain ⟨v108, σ108, hv108, h⟩ := bd2_elim h
      refine G_callI (run_SH C [.ref 32, .int (xs ((x4 + (1 : Int32))).toNatClampNeg), .int (xs ((x4 + (2 : Int32))).toNatClampNeg), .int (xs ((x4 + (3 : Int32))).toNatClampNeg), .int (xs ((x4 + (4 : Int32))).toNatClampNeg), .int (xs ((x4 + (5 : Int32))).toNatClampNeg), .ref 146] [] (dL_fact hlx hv108) cw_L_fact in_L mh_L_fact ms_L_fact lk_L_148 ⟨(Nat.le_of_ble_eq_true rfl), (Nat.le_of_ble_eq_true rfl)⟩ ⟨rmc (by omega), rms (by omega)⟩ rfl (Nat.le_of_ble_eq_true rfl) dL_law__994) ?_
      refine G_istore (L' := [(5, .int v108), (0, .ref 1), (1, .ref 32), (2, .ref 81), (3, .ref 146), (4, .int x4)]) C (Nat.le_of_ble_eq_true rfl) rfl dL_law__997 ?_
      refine G_aload_n C 3 rfl rfl dL_law__999 ?_
      refine G_aload_n C 1 rfl rfl dL_law__1000 ?_
      refine G_iload C 5 rfl dL_law__1001 ?_
      refine G_iconst C (v := 1) rfl dL_law__1003 ?_
      refine G_iadd C dL_law__1004 ?_
      refine G_xld C hx hc103 dL_law__1005 ?_
      refine G_aload_n C 1 rfl rfl dL_law__1006 ?_
      refine G_iload C 5 rfl dL_law__1007 ?_
      refine G_iconst C (v := 2) rfl dL_law__1009 ?_
      refine G_iadd C dL_law__1010 ?_
      refine G_xld C hx hc104 dL_law__1011 ?_
      refine G_aload_n C 1 rfl rfl dL_law__1012 ?_
      refine G_iload C 5 rfl dL_law__1013 ?_
      refine G_iconst C (v := 3) rfl dL_law__1015 ?_
      refine G_iadd C dL_law__1016 ?_
      refine G_xld C hx hc105 dL_law__1017 ?_
      refine G_aload_n C 1 rfl rfl dL_law__1018 ?_
      refine G_iload C 5 rfl dL_law__1019 ?_
      refine G_iconst C (v := 4) rfl dL_law__1021 ?_
      refine G_iadd C dL_law__1022 ?_
      refine G_xld C hx hc106 dL_law__1023 ?_
      refine G_aload_n C 1 rfl rfl dL_law__1024 ?_
      refine G_iload C 5 rfl dL_law__1025 ?_
      refine G_iconst C (v := 5) rfl dL_law__1027 ?_
      refine G_iadd C dL_law__1028 ?_
      refine G_xld C hx hc107 dL_law__1029 ?_
      obtain ⟨v109, σ109, hv109, h⟩ := bd2_elim h
      refine G_callI (run_V C [.int (xs ((x4 + (1 : Int32))).toNatClampNeg), .int (xs ((x4 + (2 : Int32))).toNatClampNeg), .int (xs ((x4 + (3 : Int32))).toNatClampNeg), .int (xs ((x4 + (4 : Int32))).toNatClampNeg), .int (xs ((x4 + (5 : Int32))).toNatClampNeg)] [] (dX12_fact hv109) ml_X12_fact mv_X12_fact lk_L_151 ⟨(Nat.le_of_ble_eq_true rfl), (Nat.le_of_ble_eq_true rfl)⟩ ⟨rmc (by omega), rms (by omega)⟩ vq_11 rfl ko_81 rfl (Nat.le_of_ble_eq_true rfl) dL_law__1030) ?_
      refine G_istore (L' := [(6, .int v109), (5, .int v108), (0, .ref 1), (1, .ref 32), (2, .ref 81), (3, .ref 146), (4, .int x4)]) C (Nat.le_of_ble_eq_true rfl) rfl dL_law__1033 ?_
      refine G_aload_n C 4 rfl rfl dL_law__1035 ?_
      refine G_callI (run_V C [] [] (dX12_thrown rfl) ml_X12_thrown mv_X12_thrown lk_L_116 ⟨(Nat.le_of_ble_eq_true rfl), (Nat.le_of_ble_eq_true rfl)⟩ ⟨rmc (by omega), rms (by omega)⟩ vq_11 rfl ko_81 rfl (Nat.le_of_ble_eq_true rfl) dL_law__1036) ?_
      refine G_iload C 1 rfl dL_law__1039 ?_
      refine G_icmp_eq (tgt := 1046) C rfl dL_law__1041 (fun hc111 => ?_) (fun hc111 => ?_)
      · replace h := (if_pos hc111).symm.trans h
        refine G_iload C 1 rfl dL_law__1046 ?_
        refine G_if_ne (tgt := 1063) C rfl dL_law__1048 (fun hc112 => ?_) (fun hc112 => ?_)
        · replace h := (if_neg hc112).symm.trans h
          refine G_goto (tgt := 2342) C rfl dL_law__1063 ?_
          refine G_iinc (v := 8) (L' := [(4, .int (x4 + (8 : Int32))), (6, .int v109), (5, .int v108), (0, .ref 1), (1, .ref 32), (2, .ref 81), (3, .ref 146)]) C 6 rfl rfl (Nat.le_of_ble_eq_true rfl) rfl dL_law__2342 ?_
          refine G_goto (tgt := 23) C rfl dL_law__2345 ?_
          refine G_widen (k1 := ck + 8) (k2 := sk + 700) (by omega) (by omega) ?_
          refine G_sub [3, 4, 5, 6, 0] rfl ?_
          exact hf23 _ _ h
        · replace h := (if_pos hc112).symm.trans h
          refine G_aload_n C 5 rfl rfl dL_law__1051 ?_
          refine G_iconst C (v := 0) rfl dL_law__1052 ?_
          refine G_laload C ks_146 ⟨by decide, by decide⟩ dL_law__1053 ?_
          refine G_iload C 0 rfl dL_law__1054 ?_
          refine G_i2l C dL_law__1056 ?_
          refine G_lcmp C dL_law__1057 ?_
          refine G_if_eq (tgt := 1063) C rfl dL_law__1058 (fun hc113 => ?_) (fun hc113 => ?_)
          · replace h := (if_pos hc113).symm.trans h
            refine G_goto (tgt := 2342) C rfl dL_law__1063 ?_
            refine G_iinc (v := 8) (L' := [(4, .int (x4 + (8 : Int32))), (6, .int v109), (5, .int v108), (0, .ref 1), (1, .ref 32), (2, .ref 81), (3, .ref 146)]) C 6 rfl rfl (Nat.le_of_ble_eq_true rfl) rfl dL_law__2342 ?_
            refine G_goto (tgt := 23) C rfl dL_law__2345 ?_
            refine G_widen (k1 := ck + 8) (k2 := sk + 700) (by omega) (by omega) ?_
            refine G_sub [3, 4, 5, 6, 0] rfl ?_
            exact hf23 _ _ h
          · replace h := (if_neg hc113).symm.trans h
            refine G_iconst C (v := 0) rfl dL_law__1061 ?_
            exact absurd (Option.some.inj h) (by decide)
      · replace h := (if_neg hc111).symm.trans h
        refine G_iconst C (v := 0) rfl dL_law__1044 ?_
        exact absurd (Option.some.inj h) (by decide)
    replace h := (if_neg hc102).symm.trans h
    by_cases hc114 : ((xs (x4).toNatClampNeg) &&& (31 : Int32)) = (11 : Int32)
    · replace h := (if_pos hc114).symm.trans h
      refine G_tswIn (tgt := 1066) C (11) 11 hc114 (by decide) (by decide) (by decide) rfl rfl dL_law__40 ?_
      refine G_aload_n C 1 rfl rfl dL_law__1066 ?_
      refine G_aload_n C 0 rfl rfl dL_law__1067 ?_
      refine G_iload C 4 rfl dL_law__1068 ?_
      refine G_iconst C (v := 1) rfl dL_law__1070 ?_
      refine G_iadd C dL_law__1071 ?_
      obtain ⟨hc115, h⟩ := ifn h
      refine G_xld C hx hc115 dL_law__1072 ?_
      refine G_if_eq (tgt := 1080) C rfl dL_law__1073 (fun hc116 => ?_) (fun hc116 => ?_)
      · replace h := (if_pos hc116).symm.trans h
        refine G_iconst C (v := 0) rfl dL_law__1080 ?_
        exact eL_law_1081 hx hE hck hsk hlx C hr hf23 h
      · replace h := (if_neg hc116).symm.trans h
        refine G_iconst C (v := 1) rfl dL_law__1076 ?_
        refine G_goto (tgt := 1081) C rfl dL_law__1077 ?_
        exact eL_law_1081 hx hE hck hsk hlx C hr hf23 h
    replace h := (if_neg hc114).symm.trans h
    by_cases hc128 : ((xs (x4).toNatClampNeg) &&& (31 : Int32)) = (12 : Int32)
    · replace h := (if_pos hc128).symm.trans h
      refine G_tswIn (tgt := 1157) C (12) 12 hc128 (by decide) (by decide) (by decide) rfl rfl dL_law__40 ?_
      refine G_aload_n C 1 rfl rfl dL_law__1157 ?_
      refine G_aload_n C 0 rfl rfl dL_law__1158 ?_
      refine G_iload C 4 rfl dL_law__1159 ?_
      refine G_iconst C (v := 1) rfl dL_law__1161 ?_
      refine G_iadd C dL_law__1162 ?_
      obtain ⟨hc129, h⟩ := ifn h
      refine G_xld C hx hc129 dL_law__1163 ?_
      refine G_aload_n C 0 rfl rfl dL_law__1164 ?_
      refine G_iload C 4 rfl dL_law__1165 ?_
      refine G_iconst C (v := 2) rfl dL_law__1167 ?_
      refine G_iadd C dL_law__1168 ?_
      obtain ⟨hc130, h⟩ := ifn h
      refine G_xld C hx hc130 dL_law__1169 ?_
      refine G_aload_n C 3 rfl rfl dL_law__1170 ?_
      obtain ⟨v131, σ131, hv131, h⟩ := bd2_elim h
      refine G_callI (run_SH C [.ref 32, .int (xs ((x4 + (1 : Int32))).toNatClampNeg), .int (xs ((x4 + (2 : Int32))).toNatClampNeg), .ref 146] [] (dL_claim hlx hv131) cw_L_claim in_L mh_L_claim ms_L_claim lk_L_156 ⟨(Nat.le_of_ble_eq_true rfl), (Nat.le_of_ble_eq_true rfl)⟩ ⟨rmc (by omega), rms (by omega)⟩ rfl (Nat.le_of_ble_eq_true rfl) dL_law__1171) ?_
      refine G_istore (L' := [(5, .int v131), (0, .ref 1), (1, .ref 32), (2, .ref 81), (3, .ref 146), (4, .int x4)]) C (Nat.le_of_ble_eq_true rfl) rfl dL_law__1174 ?_
      refine G_aload_n C 3 rfl rfl dL_law__1176 ?_
      refine G_aload_n C 1 rfl rfl dL_law__1177 ?_
      refine G_iload C 5 rfl dL_law__1178 ?_
      refine G_iconst C (v := 1) rfl dL_law__1180 ?_
      refine G_iadd C dL_law__1181 ?_
      refine G_xld C hx hc129 dL_law__1182 ?_
      refine G_aload_n C 1 rfl rfl dL_law__1183 ?_
      refine G_iload C 5 rfl dL_law__1184 ?_
      refine G_iconst C (v := 2) rfl dL_law__1186 ?_
      refine G_iadd C dL_law__1187 ?_
      refine G_xld C hx hc130 dL_law__1188 ?_
      obtain ⟨v132, σ132, hv132, h⟩ := bd2_elim h
      refine G_callI (run_V C [.int (xs ((x4 + (1 : Int32))).toNatClampNeg), .int (xs ((x4 + (2 : Int32))).toNatClampNeg)] [] (dX12_claim hv132) ml_X12_claim mv_X12_claim lk_L_158 ⟨(Nat.le_of_ble_eq_true rfl), (Nat.le_of_ble_eq_true rfl)⟩ ⟨rmc (by omega), rms (by omega)⟩ vq_11 rfl ko_81 rfl (Nat.le_of_ble_eq_true rfl) dL_law__1189) ?_
      refine G_istore (L' := [(6, .int v132), (5, .int v131), (0, .ref 1), (1, .ref 32), (2, .ref 81), (3, .ref 146), (4, .int x4)]) C (Nat.le_of_ble_eq_true rfl) rfl dL_law__1192 ?_
      refine G_aload_n C 4 rfl rfl dL_law__1194 ?_
      refine G_callI (run_V C [] [] (dX12_thrown rfl) ml_X12_thrown mv_X12_thrown lk_L_116 ⟨(Nat.le_of_ble_eq_true rfl), (Nat.le_of_ble_eq_true rfl)⟩ ⟨rmc (by omega), rms (by omega)⟩ vq_11 rfl ko_81 rfl (Nat.le_of_ble_eq_true rfl) dL_law__1195) ?_
      refine G_iload C 1 rfl dL_law__1198 ?_
      refine G_icmp_eq (tgt := 1205) C rfl dL_law__1200 (fun hc134 => ?_) (fun hc134 => ?_)
      · replace h := (if_pos hc134).symm.trans h
        refine G_iload C 1 rfl dL_law__1205 ?_
        refine G_if_ne (tgt := 1229) C rfl dL_law__1207 (fun hc135 => ?_) (fun hc135 => ?_)
        · replace h := (if_neg hc135).symm.trans h
          refine G_goto (tgt := 2342) C rfl dL_law__1229 ?_
          refine G_iinc (v := 8) (L' := [(4, .int (x4 + (8 : Int32))), (6, .int v132), (5, .int v131), (0, .ref 1), (1, .ref 32), (2, .ref 81), (3, .ref 146)]) C 6 rfl rfl (Nat.le_of_ble_eq_true rfl) rfl dL_law__2342 ?_
          refine G_goto (tgt := 23) C rfl dL_law__2345 ?_
          refine G_widen (k1 := ck + 8) (k2 := sk + 700) (by omega) (by omega) ?_
          refine G_sub [3, 4, 5, 6, 0] rfl ?_
          exact hf23 _ _ h
        · replace h := (if_pos hc135).symm.trans h
          refine G_aload_n C 5 rfl rfl dL_law__1210 ?_
          refine G_iconst C (v := 0) rfl dL_law__1211 ?_
          refine G_laload C ks_146 ⟨by decide, by decide⟩ dL_law__1212 ?_
          refine G_iload C 0 rfl dL_law__1213 ?_
          refine G_if_eq (tgt := 1222) C rfl dL_law__1215 (fun hc136 => ?_) (fun hc136 => ?_)
          · replace h := (if_pos hc136).symm.trans h
            refine G_lconst C (v := 0) rfl dL_law__1222 ?_
            refine G_sub [2, 3, 4, 5, 6] rfl ?_
            exact eL_law_1223 hx hE hck hsk hlx C hr hf23 h
          · replace h := (if_neg hc136).symm.trans h
            refine G_lconst C (v := 1) rfl dL_law__1218 ?_
            refine G_goto (tgt := 1223) C rfl dL_law__1219 ?_
            refine G_sub [2, 3, 4, 5, 6] rfl ?_
            exact eL_law_1223 hx hE hck hsk hlx C hr hf23 h
      · replace h := (if_neg hc134).symm.trans h
        refine G_iconst C (v := 0) rfl dL_law__1203 ?_
        exact absurd (Option.some.inj h) (by decide)
    replace h := (if_neg hc128).symm.trans h
    by_cases hc138 : ((xs (x4).toNatClampNeg) &&& (31 : Int32)) = (13 : Int32)
    · replace h := (if_pos hc138).symm.trans h
      refine G_tswIn (tgt := 1232) C (13) 13 hc138 (by decide) (by decide) (by decide) rfl rfl dL_law__40 ?_
      refine G_aload_n C 1 rfl rfl dL_law__1232 ?_
      refine G_aload_n C 0 rfl rfl dL_law__1233 ?_
      refine G_iload C 4 rfl dL_law__1234 ?_
      refine G_iconst C (v := 1) rfl dL_law__1236 ?_
      refine G_iadd C dL_law__1237 ?_
      obtain ⟨hc139, h⟩ := ifn h
      refine G_xld C hx hc139 dL_law__1238 ?_
      refine G_aload_n C 0 rfl rfl dL_law__1239 ?_
      refine G_iload C 4 rfl dL_law__1240 ?_
      refine G_iconst C (v := 2) rfl dL_law__1242 ?_
      refine G_iadd C dL_law__1243 ?_
      obtain ⟨hc140, h⟩ := ifn h
      refine G_xld C hx hc140 dL_law__1244 ?_
      refine G_aload_n C 0 rfl rfl dL_law__1245 ?_
      refine G_iload C 4 rfl dL_law__1246 ?_
      refine G_iconst C (v := 3) rfl dL_law__1248 ?_
      refine G_iadd C dL_law__1249 ?_
      obtain ⟨hc141, h⟩ := ifn h
      refine G_xld C hx hc141 dL_law__1250 ?_
      refine G_aload_n C 0 rfl rfl dL_law__1251 ?_
      refine G_iload C 4 rfl dL_law__1252 ?_
      refine G_iconst C (v := 4) rfl dL_law__1254 ?_
      refine G_iadd C dL_law__1255 ?_
      obtain ⟨hc142, h⟩ := ifn h
      refine G_xld C hx hc142 dL_law__1256 ?_
      refine G_aload_n C 0 rfl rfl dL_law__1257 ?_
      refine G_iload C 4 rfl dL_law__1258 ?_
      refine G_iconst C (v := 5) rfl dL_law__1260 ?_
      refine G_iadd C dL_law__1261 ?_
      obtain ⟨hc143, h⟩ := ifn h
      refine G_xld C hx hc143 dL_law__1262 ?_
      obtain ⟨v144, σ144, hv144, h⟩ := bd2_elim h
      refine G_callI (run_V C [.int (xs ((x4 + (1 : Int32))).toNatClampNeg), .int (xs ((x4 + (2 : Int32))).toNatClampNeg), .int (xs ((x4 + (3 : Int32))).toNatClampNeg), .int (xs ((x4 + (4 : Int32))).toNatClampNeg), .int (xs ((x4 + (5 : Int32))).toNatClampNeg)] [] (dX11_feed hv144) ml_X11_feed mv_X11_feed lk_L_159 ⟨(Nat.le_of_ble_eq_true rfl), (Nat.le_of_ble_eq_true rfl)⟩ ⟨rmc (by omega), rms (by omega)⟩ vq_10 rfl ko_32 rfl (Nat.le_of_ble_eq_true rfl) dL_law__1263) ?_
      refine G_aload_n C 2 rfl rfl dL_law__1266 ?_
      refine G_aload_n C 0 rfl rfl dL_law__1267 ?_
      refine G_iload C 4 rfl dL_law__1268 ?_
      refine G_iconst C (v := 1) rfl dL_law__1270 ?_
      refine G_iadd C dL_law__1271 ?_
      refine G_xld C hx hc139 dL_law__1272 ?_
      refine G_aload_n C 0 rfl rfl dL_law__1273 ?_
      refine G_iload C 4 rfl dL_law__1274 ?_
      refine G_iconst C (v := 2) rfl dL_law__1276 ?_
      refine G_iadd C dL_law__1277 ?_
      refine G_xld C hx hc140 dL_law__1278 ?_
      refine G_aload_n C 0 rfl rfl dL_law__1279 ?_
      refine G_iload C 4 rfl dL_law__1280 ?_
      refine G_iconst C (v := 3) rfl dL_law__1282 ?_
      refine G_iadd C dL_law__1283 ?_
      refine G_xld C hx hc141 dL_law__1284 ?_
      refine G_aload_n C 0 rfl rfl dL_law__1285 ?_
      refine G_iload C 4 rfl dL_law__1286 ?_
      refine G_iconst C (v := 4) rfl dL_law__1288 ?_
      refine G_iadd C dL_law__1289 ?_
      refine G_xld C hx hc142 dL_law__1290 ?_
      refine G_aload_n C 0 rfl rfl dL_law__1291 ?_
      refine G_iload C 4 rfl dL_law__1292 ?_
      refine G_iconst C (v := 5) rfl dL_law__1294 ?_
      refine G_iadd C dL_law__1295 ?_
      refine G_xld C hx hc143 dL_law__1296 ?_
      obtain ⟨v145, σ145, hv145, h⟩ := bd2_elim h
      refine G_callI (run_V C [.int (xs ((x4 + (1 : Int32))).toNatClampNeg), .int (xs ((x4 + (2 : Int32))).toNatClampNeg), .int (xs ((x4 + (3 : Int32))).toNatClampNeg), .int (xs ((x4 + (4 : Int32))).toNatClampNeg), .int (xs ((x4 + (5 : Int32))).toNatClampNeg)] [.int v144] (dX12_feed hv145) ml_X12_feed mv_X12_feed lk_L_162 ⟨(Nat.le_of_ble_eq_true rfl), (Nat.le_of_ble_eq_true rfl)⟩ ⟨rmc (by omega), rms (by omega)⟩ vq_11 rfl ko_81 rfl (Nat.le_of_ble_eq_true rfl) dL_law__1297) ?_
      refine G_icmp_eq (tgt := 2342) C rfl dL_law__1300 (fun hc146 => ?_) (fun hc146 => ?_)
      · replace h := (if_pos hc146).symm.trans h
        refine G_iinc (v := 8) (L' := [(4, .int (x4 + (8 : Int32))), (0, .ref 1), (1, .ref 32), (2, .ref 81), (3, .ref 146)]) C 4 rfl rfl (Nat.le_of_ble_eq_true rfl) rfl dL_law__2342 ?_
        refine G_goto (tgt := 23) C rfl dL_law__2345 ?_
        refine G_widen (k1 := ck + 8) (k2 := sk + 700) (by omega) (by omega) ?_
        refine G_sub [1, 2, 3, 4, 0] rfl ?_
        exact hf23 _ _ h
      · replace h := (if_neg hc146).symm.trans h
        refine G_iconst C (v := 0) rfl dL_law__1303 ?_
        exact absurd (Option.some.inj h) (by decide)
    replace h := (if_neg hc138).symm.trans h
    by_cases hc147 : ((xs (x4).toNatClampNeg) &&& (31 : Int32)) = (14 : Int32)
    · replace h := (if_pos hc147).symm.trans h
      refine G_tswIn (tgt := 1305) C (14) 14 hc147 (by decide) (by decide) (by decide) rfl rfl dL_law__40 ?_
      refine G_aload_n C 1 rfl rfl dL_law__1305 ?_
      refine G_aload_n C 0 rfl rfl dL_law__1306 ?_
      refine G_iload C 4 rfl dL_law__1307 ?_
      refine G_iconst C (v := 1) rfl dL_law__1309 ?_
      refine G_iadd C dL_law__1310 ?_
      obtain ⟨hc148, h⟩ := ifn h
      refine G_xld C hx hc148 dL_law__1311 ?_
      refine G_aload_n C 0 rfl rfl dL_law__1312 ?_
      refine G_iload C 4 rfl dL_law__1313 ?_
      refine G_iconst C (v := 2) rfl dL_law__1315 ?_
      refine G_iadd C dL_law__1316 ?_
      obtain ⟨hc149, h⟩ := ifn h
      refine G_xld C hx hc149 dL_law__1317 ?_
      refine G_aload_n C 0 rfl rfl dL_law__1318 ?_
      refine G_iload C 4 rfl dL_law__1319 ?_
      refine G_iconst C (v := 3) rfl dL_law__1321 ?_
      refine G_iadd C dL_law__1322 ?_
      obtain ⟨hc150, h⟩ := ifn h
      refine G_xld C hx hc150 dL_law__1323 ?_
      refine G_aload_n C 3 rfl rfl dL_law__1324 ?_
      obtain ⟨v151, σ151, hv151, h⟩ := bd2_elim h
      refine G_callI (run_SH C [.ref 32, .int (xs ((x4 + (1 : Int32))).toNatClampNeg), .int (xs ((x4 + (2 : Int32))).toNatClampNeg), .int (xs ((x4 + (3 : Int32))).toNatClampNeg), .ref 146] [] (dL_law hlx hv151) cw_L_law in_L mh_L_law ms_L_law lk_L_163 ⟨(Nat.le_of_ble_eq_true rfl), (Nat.le_of_ble_eq_true rfl)⟩ ⟨rmc (by omega), rms (by omega)⟩ rfl (Nat.le_of_ble_eq_true rfl) dL_law__1325) ?_
      refine G_istore (L' := [(5, .int v151), (0, .ref 1), (1, .ref 32), (2, .ref 81), (3, .ref 146), (4, .int x4)]) C (Nat.le_of_ble_eq_true rfl) rfl dL_law__1328 ?_
      refine G_aload_n C 3 rfl rfl dL_law__1330 ?_
      refine G_aload_n C 1 rfl rfl dL_law__1331 ?_
      refine G_iload C 5 rfl dL_law__1332 ?_
      refine G_iconst C (v := 1) rfl dL_law__1334 ?_
      refine G_iadd C dL_law__1335 ?_
      refine G_xld C hx hc148 dL_law__1336 ?_
      refine G_aload_n C 1 rfl rfl dL_law__1337 ?_
      refine G_iload C 5 rfl dL_law__1338 ?_
      refine G_iconst C (v := 2) rfl dL_law__1340 ?_
      refine G_iadd C dL_law__1341 ?_
      refine G_xld C hx hc149 dL_law__1342 ?_
      refine G_aload_n C 1 rfl rfl dL_law__1343 ?_
      refine G_iload C 5 rfl dL_law__1344 ?_
      refine G_iconst C (v := 3) rfl dL_law__1346 ?_
      refine G_iadd C dL_law__1347 ?_
      refine G_xld C hx hc150 dL_law__1348 ?_
      obtain ⟨v152, σ152, hv152, h⟩ := bd2_elim h
      refine G_callI (run_V C [.int (xs ((x4 + (1 : Int32))).toNatClampNeg), .int (xs ((x4 + (2 : Int32))).toNatClampNeg), .int (xs ((x4 + (3 : Int32))).toNatClampNeg)] [] (dX12_law hv152) ml_X12_law mv_X12_law lk_L_165 ⟨(Nat.le_of_ble_eq_true rfl), (Nat.le_of_ble_eq_true rfl)⟩ ⟨rmc (by omega), rms (by omega)⟩ vq_11 rfl ko_81 rfl (Nat.le_of_ble_eq_true rfl) dL_law__1349) ?_
      refine G_istore (L' := [(6, .int v152), (5, .int v151), (0, .ref 1), (1, .ref 32), (2, .ref 81), (3, .ref 146), (4, .int x4)]) C (Nat.le_of_ble_eq_true rfl) rfl dL_law__1352 ?_
      refine G_aload_n C 4 rfl rfl dL_law__1354 ?_
      refine G_callI (run_V C [] [] (dX12_thrown rfl) ml_X12_thrown mv_X12_thrown lk_L_116 ⟨(Nat.le_of_ble_eq_true rfl), (Nat.le_of_ble_eq_true rfl)⟩ ⟨rmc (by omega), rms (by omega)⟩ vq_11 rfl ko_81 rfl (Nat.le_of_ble_eq_true rfl) dL_law__1355) ?_
      refine G_iload C 1 rfl dL_law__1358 ?_
      refine G_icmp_eq (tgt := 1365) C rfl dL_law__1360 (fun hc154 => ?_) (fun hc154 => ?_)
      · replace h := (if_pos hc154).symm.trans h
        refine G_iload C 1 rfl dL_law__1365 ?_
        refine G_if_ne (tgt := 1382) C rfl dL_law__1367 (fun hc155 => ?_) (fun hc155 => ?_)
        · replace h := (if_neg hc155).symm.trans h
          refine G_goto (tgt := 2342) C rfl dL_law__1382 ?_
          refine G_iinc (v := 8) (L' := [(4, .int (x4 + (8 : Int32))), (6, .int v152), (5, .int v151), (0, .ref 1), (1, .ref 32), (2, .ref 81), (3, .ref 146)]) C 6 rfl rfl (Nat.le_of_ble_eq_true rfl) rfl dL_law__2342 ?_
          refine G_goto (tgt := 23) C rfl dL_law__2345 ?_
          refine G_widen (k1 := ck + 8) (k2 := sk + 700) (by omega) (by omega) ?_
          refine G_sub [3, 4, 5, 6, 0] rfl ?_
          exact hf23 _ _ h
        · replace h := (if_pos hc155).symm.trans h
          refine G_aload_n C 5 rfl rfl dL_law__1370 ?_
          refine G_iconst C (v := 0) rfl dL_law__1371 ?_
          refine G_laload C ks_146 ⟨by decide, by decide⟩ dL_law__1372 ?_
          refine G_iload C 0 rfl dL_law__1373 ?_
          refine G_i2l C dL_law__1375 ?_
          refine G_lcmp C dL_law__1376 ?_
          refine G_if_eq (tgt := 1382) C rfl dL_law__1377 (fun hc156 => ?_) (fun hc156 => ?_)
          · replace h := (if_pos hc156).symm.trans h
            refine G_goto (tgt := 2342) C rfl dL_law__1382 ?_
            refine G_iinc (v := 8) (L' := [(4, .int (x4 + (8 : Int32))), (6, .int v152), (5, .int v151), (0, .ref 1), (1, .ref 32), (2, .ref 81), (3, .ref 146)]) C 6 rfl rfl (Nat.le_of_ble_eq_true rfl) rfl dL_law__2342 ?_
            refine G_goto (tgt := 23) C rfl dL_law__2345 ?_
            refine G_widen (k1 := ck + 8) (k2 := sk + 700) (by omega) (by omega) ?_
            refine G_sub [3, 4, 5, 6, 0] rfl ?_
            exact hf23 _ _ h
          · replace h := (if_neg hc156).symm.trans h
            refine G_iconst C (v := 0) rfl dL_law__1380 ?_
            exact absurd (Option.some.inj h) (by decide)
      · replace h := (if_neg hc154).symm.trans h
        refine G_iconst C (v := 0) rfl dL_law__1363 ?_
        exact absurd (Option.some.inj h) (by decide)
    replace h := (if_neg hc147).symm.trans h
    by_cases hc157 : ((xs (x4).toNatClampNeg) &&& (31 : Int32)) = (15 : Int32)
    · replace h := (if_pos hc157).symm.trans h
      refine G_tswIn (tgt := 1385) C (15) 15 hc157 (by decide) (by decide) (by decide) rfl rfl dL_law__40 ?_
      refine G_aload_n C 1 rfl rfl dL_law__1385 ?_
      refine G_callI (run_V C [] [] (dX11_fault rfl) ml_X11_fault mv_X11_fault lk_L_166 ⟨(Nat.le_of_ble_eq_true rfl), (Nat.le_of_ble_eq_true rfl)⟩ ⟨rmc (by omega), rms (by omega)⟩ vq_10 rfl ko_32 rfl (Nat.le_of_ble_eq_true rfl) dL_law__1386) ?_
      refine G_aload_n C 2 rfl rfl dL_law__1389 ?_
      obtain ⟨v159, σ159, hv159, h⟩ := bd2_elim h
      refine G_callI (run_V C [] [.int (mX11_fault σ)] (dX12_fault hv159) ml_X12_fault mv_X12_fault lk_L_169 ⟨(Nat.le_of_ble_eq_true rfl), (Nat.le_of_ble_eq_true rfl)⟩ ⟨rmc (by omega), rms (by omega)⟩ vq_11 rfl ko_81 rfl (Nat.le_of_ble_eq_true rfl) dL_law__1390) ?_
      refine G_icmp_eq (tgt := 2342) C rfl dL_law__1393 (fun hc160 => ?_) (fun hc160 => ?_)
      · replace h := (if_pos hc160).symm.trans h
        refine G_iinc (v := 8) (L' := [(4, .int (x4 + (8 : Int32))), (0, .ref 1), (1, .ref 32), (2, .ref 81), (3, .ref 146)]) C 4 rfl rfl (Nat.le_of_ble_eq_true rfl) rfl dL_law__2342 ?_
        refine G_goto (tgt := 23) C rfl dL_law__2345 ?_
        refine G_widen (k1 := ck + 8) (k2 := sk + 700) (by omega) (by omega) ?_
        refine G_sub [1, 2, 3, 4, 0] rfl ?_
        exact hf23 _ _ h
      · replace h := (if_neg hc160).symm.trans h
        refine G_iconst C (v := 0) rfl dL_law__1396 ?_
        exact absurd (Option.some.inj h) (by decide)
    replace h := (if_neg hc157).symm.trans h
    by_cases hc161 : ((xs (x4).toNatClampNeg) &&& (31 : Int32)) = (16 : Int32)
    · replace h := (if_pos hc161).symm.trans h
      refine G_tswIn (tgt := 1398) C (16) 16 hc161 (by decide) (by decide) (by decide) rfl rfl dL_law__40 ?_
      refine G_aload_n C 1 rfl rfl dL_law__1398 ?_
      refine G_aload_n C 0 rfl rfl dL_law__1399 ?_
      refine G_iload C 4 rfl dL_law__1400 ?_
      refine G_iconst C (v := 1) rfl dL_law__1402 ?_
      refine G_iadd C dL_law__1403 ?_
      obtain ⟨hc162, h⟩ := ifn h
      refine G_xld C hx hc162 dL_law__1404 ?_
      refine G_aload_n C 0 rfl rfl dL_law__1405 ?_
      refine G_iload C 4 rfl dL_law__1406 ?_
      refine G_iconst C (v := 2) rfl dL_law__1408 ?_
      refine G_iadd C dL_law__1409 ?_
      obtain ⟨hc163, h⟩ := ifn h
      refine G_xld C hx hc163 dL_law__1410 ?_
      refine G_aload_n C 0 rfl rfl dL_law__1411 ?_
      refine G_iload C 4 rfl dL_law__1412 ?_
      refine G_iconst C (v := 3) rfl dL_law__1414 ?_
      refine G_iadd C dL_law__1415 ?_
      obtain ⟨hc164, h⟩ := ifn h
      refine G_xld C hx hc164 dL_law__1416 ?_
      refine G_aload_n C 3 rfl rfl dL_law__1417 ?_
      obtain ⟨v165, σ165, hv165, h⟩ := bd2_elim h
      refine G_callI (run_SH C [.ref 32, .int (xs ((x4 + (1 : Int32))).toNatClampNeg), .int (xs ((x4 + (2 : Int32))).toNatClampNeg), .int (xs ((x4 + (3 : Int32))).toNatClampNeg), .ref 146] [] (dL_sold hlx hv165) cw_L_sold in_L mh_L_sold ms_L_sold lk_L_170 ⟨(Nat.le_of_ble_eq_true rfl), (Nat.le_of_ble_eq_true rfl)⟩ ⟨rmc (by omega), rms (by omega)⟩ rfl (Nat.le_of_ble_eq_true rfl) dL_law__1418) ?_
      refine G_istore (L' := [(5, .int v165), (0, .ref 1), (1, .ref 32), (2, .ref 81), (3, .ref 146), (4, .int x4)]) C (Nat.le_of_ble_eq_true rfl) rfl dL_law__1421 ?_
      refine G_aload_n C 3 rfl rfl dL_law__1423 ?_
      refine G_aload_n C 1 rfl rfl dL_law__1424 ?_
      refine G_iload C 5 rfl dL_law__1425 ?_
      refine G_iconst C (v := 1) rfl dL_law__1427 ?_
      refine G_iadd C dL_law__1428 ?_
      refine G_xld C hx hc162 dL_law__1429 ?_
      refine G_aload_n C 1 rfl rfl dL_law__1430 ?_
      refine G_iload C 5 rfl dL_law__1431 ?_
      refine G_iconst C (v := 2) rfl dL_law__1433 ?_
      refine G_iadd C dL_law__1434 ?_
      refine G_xld C hx hc163 dL_law__1435 ?_
      refine G_aload_n C 1 rfl rfl dL_law__1436 ?_
      refine G_iload C 5 rfl dL_law__1437 ?_
      refine G_iconst C (v := 3) rfl dL_law__1439 ?_
      refine G_iadd C dL_law__1440 ?_
      refine G_xld C hx hc164 dL_law__1441 ?_
      obtain ⟨v166, σ166, hv166, h⟩ := bd2_elim h
      refine G_callI (run_V C [.int (xs ((x4 + (1 : Int32))).toNatClampNeg), .int (xs ((x4 + (2 : Int32))).toNatClampNeg), .int (xs ((x4 + (3 : Int32))).toNatClampNeg)] [] (dX12_sold hv166) ml_X12_sold mv_X12_sold lk_L_172 ⟨(Nat.le_of_ble_eq_true rfl), (Nat.le_of_ble_eq_true rfl)⟩ ⟨rmc (by omega), rms (by omega)⟩ vq_11 rfl ko_81 rfl (Nat.le_of_ble_eq_true rfl) dL_law__1442) ?_
      refine G_istore (L' := [(6, .int v166), (5, .int v165), (0, .ref 1), (1, .ref 32), (2, .ref 81), (3, .ref 146), (4, .int x4)]) C (Nat.le_of_ble_eq_true rfl) rfl dL_law__1445 ?_
      refine G_aload_n C 4 rfl rfl dL_law__1447 ?_
      refine G_callI (run_V C [] [] (dX12_thrown rfl) ml_X12_thrown mv_X12_thrown lk_L_116 ⟨(Nat.le_of_ble_eq_true rfl), (Nat.le_of_ble_eq_true rfl)⟩ ⟨rmc (by omega), rms (by omega)⟩ vq_11 rfl ko_81 rfl (Nat.le_of_ble_eq_true rfl) dL_law__1448) ?_
      refine G_iload C 1 rfl dL_law__1451 ?_
      refine G_icmp_eq (tgt := 1458) C rfl dL_law__1453 (fun hc168 => ?_) (fun hc168 => ?_)
      · replace h := (if_pos hc168).symm.trans h
        refine G_iload C 1 rfl dL_law__1458 ?_
        refine G_if_ne (tgt := 1475) C rfl dL_law__1460 (fun hc169 => ?_) (fun hc169 => ?_)
        · replace h := (if_neg hc169).symm.trans h
          refine G_goto (tgt := 2342) C rfl dL_law__1475 ?_
          refine G_iinc (v := 8) (L' := [(4, .int (x4 + (8 : Int32))), (6, .int v166), (5, .int v165), (0, .ref 1), (1, .ref 32), (2, .ref 81), (3, .ref 146)]) C 6 rfl rfl (Nat.le_of_ble_eq_true rfl) rfl dL_law__2342 ?_
          refine G_goto (tgt := 23) C rfl dL_law__2345 ?_
          refine G_widen (k1 := ck + 8) (k2 := sk + 700) (by omega) (by omega) ?_
          refine G_sub [3, 4, 5, 6, 0] rfl ?_
          exact hf23 _ _ h
        · replace h := (if_pos hc169).symm.trans h
          refine G_aload_n C 5 rfl rfl dL_law__1463 ?_
          refine G_iconst C (v := 0) rfl dL_law__1464 ?_
          refine G_laload C ks_146 ⟨by decide, by decide⟩ dL_law__1465 ?_
          refine G_iload C 0 rfl dL_law__1466 ?_
          refine G_i2l C dL_law__1468 ?_
          refine G_lcmp C dL_law__1469 ?_
          refine G_if_eq (tgt := 1475) C rfl dL_law__1470 (fun hc170 => ?_) (fun hc170 => ?_)
          · replace h := (if_pos hc170).symm.trans h
            refine G_goto (tgt := 2342) C rfl dL_law__1475 ?_
            refine G_iinc (v := 8) (L' := [(4, .int (x4 + (8 : Int32))), (6, .int v166), (5, .int v165), (0, .ref 1), (1, .ref 32), (2, .ref 81), (3, .ref 146)]) C 6 rfl rfl (Nat.le_of_ble_eq_true rfl) rfl dL_law__2342 ?_
            refine G_goto (tgt := 23) C rfl dL_law__2345 ?_
            refine G_widen (k1 := ck + 8) (k2 := sk + 700) (by omega) (by omega) ?_
            refine G_sub [3, 4, 5, 6, 0] rfl ?_
            exact hf23 _ _ h
          · replace h := (if_neg hc170).symm.trans h
            refine G_iconst C (v := 0) rfl dL_law__1473 ?_
            exact absurd (Option.some.inj h) (by decide)
      · replace h := (if_neg hc168).symm.trans h
        refine G_iconst C (v := 0) rfl dL_law__1456 ?_
        exact absurd (Option.some.inj h) (by decide)
    replace h := (if_neg hc161).symm.trans h
    by_cases hc171 : ((xs (x4).toNatClampNeg) &&& (31 : Int32)) = (17 : Int32)
    · replace h := (if_pos hc171).symm.trans h
      refine G_tswIn (tgt := 1478) C (17) 17 hc171 (by decide) (by decide) (by decide) rfl rfl dL_law__40 ?_
      refine G_aload_n C 1 rfl rfl dL_law__1478 ?_
      refine G_aload_n C 0 rfl rfl dL_law__1479 ?_
      refine G_iload C 4 rfl dL_law__1480 ?_
      refine G_iconst C (v := 1) rfl dL_law__1482 ?_
      refine G_iadd C dL_law__1483 ?_
      obtain ⟨hc172, h⟩ := ifn h
      refine G_xld C hx hc172 dL_law__1484 ?_
      refine G_aload_n C 0 rfl rfl dL_law__1485 ?_
      refine G_iload C 4 rfl dL_law__1486 ?_
      refine G_iconst C (v := 2) rfl dL_law__1488 ?_
      refine G_iadd C dL_law__1489 ?_
      obtain ⟨hc173, h⟩ := ifn h
      refine G_xld C hx hc173 dL_law__1490 ?_
      refine G_aload_n C 0 rfl rfl dL_law__1491 ?_
      refine G_iload C 4 rfl dL_law__1492 ?_
      refine G_iconst C (v := 3) rfl dL_law__1494 ?_
      refine G_iadd C dL_law__1495 ?_
      obtain ⟨hc174, h⟩ := ifn h
      refine G_xld C hx hc174 dL_law__1496 ?_
      refine G_aload_n C 0 rfl rfl dL_law__1497 ?_
      refine G_iload C 4 rfl dL_law__1498 ?_
      refine G_iconst C (v := 4) rfl dL_law__1500 ?_
      refine G_iadd C dL_law__1501 ?_
      obtain ⟨hc175, h⟩ := ifn h
      refine G_xld C hx hc175 dL_law__1502 ?_
      refine G_aload_n C 3 rfl rfl dL_law__1503 ?_
      obtain ⟨v176, σ176, hv176, h⟩ := bd2_elim h
      refine G_callI (run_SH C [.ref 32, .int (xs ((x4 + (1 : Int32))).toNatClampNeg), .int (xs ((x4 + (2 : Int32))).toNatClampNeg), .int (xs ((x4 + (3 : Int32))).toNatClampNeg), .int (xs ((x4 + (4 : Int32))).toNatClampNeg), .ref 146] [] (dL_has hlx hv176) cw_L_has in_L mh_L_has ms_L_has lk_L_173 ⟨(Nat.le_of_ble_eq_true rfl), (Nat.le_of_ble_eq_true rfl)⟩ ⟨rmc (by omega), rms (by omega)⟩ rfl (Nat.le_of_ble_eq_true rfl) dL_law__1504) ?_
      refine G_istore (L' := [(5, .int v176), (0, .ref 1), (1, .ref 32), (2, .ref 81), (3, .ref 146), (4, .int x4)]) C (Nat.le_of_ble_eq_true rfl) rfl dL_law__1507 ?_
      refine G_aload_n C 3 rfl rfl dL_law__1509 ?_
      refine G_aload_n C 1 rfl rfl dL_law__1510 ?_
      refine G_iload C 5 rfl dL_law__1511 ?_
      refine G_iconst C (v := 1) rfl dL_law__1513 ?_
      refine G_iadd C dL_law__1514 ?_
      refine G_xld C hx hc172 dL_law__1515 ?_
      refine G_aload_n C 1 rfl rfl dL_law__1516 ?_
      refine G_iload C 5 rfl dL_law__1517 ?_
      refine G_iconst C (v := 2) rfl dL_law__1519 ?_
      refine G_iadd C dL_law__1520 ?_
      refine G_xld C hx hc173 dL_law__1521 ?_
      refine G_aload_n C 1 rfl rfl dL_law__1522 ?_
      refine G_iload C 5 rfl dL_law__1523 ?_
      refine G_iconst C (v := 3) rfl dL_law__1525 ?_
      refine G_iadd C dL_law__1526 ?_
      refine G_xld C hx hc174 dL_law__1527 ?_
      refine G_aload_n C 1 rfl rfl dL_law__1528 ?_
      refine G_iload C 5 rfl dL_law__1529 ?_
      refine G_iconst C (v := 4) rfl dL_law__1531 ?_
      refine G_iadd C dL_law__1532 ?_
      refine G_xld C hx hc175 dL_law__1533 ?_
      obtain ⟨v177, σ177, hv177, h⟩ := bd2_elim h
      refine G_callI (run_V C [.int (xs ((x4 + (1 : Int32))).toNatClampNeg), .int (xs ((x4 + (2 : Int32))).toNatClampNeg), .int (xs ((x4 + (3 : Int32))).toNatClampNeg), .int (xs ((x4 + (4 : Int32))).toNatClampNeg)] [] (dX12_has hv177) ml_X12_has mv_X12_has lk_L_175 ⟨(Nat.le_of_ble_eq_true rfl), (Nat.le_of_ble_eq_true rfl)⟩ ⟨rmc (by omega), rms (by omega)⟩ vq_11 rfl ko_81 rfl (Nat.le_of_ble_eq_true rfl) dL_law__1534) ?_
      refine G_istore (L' := [(6, .int v177), (5, .int v176), (0, .ref 1), (1, .ref 32), (2, .ref 81), (3, .ref 146), (4, .int x4)]) C (Nat.le_of_ble_eq_true rfl) rfl dL_law__1537 ?_
      refine G_aload_n C 4 rfl rfl dL_law__1539 ?_
      refine G_callI (run_V C [] [] (dX12_thrown rfl) ml_X12_thrown mv_X12_thrown lk_L_116 ⟨(Nat.le_of_ble_eq_true rfl), (Nat.le_of_ble_eq_true rfl)⟩ ⟨rmc (by omega), rms (by omega)⟩ vq_11 rfl ko_81 rfl (Nat.le_of_ble_eq_true rfl) dL_law__1540) ?_
      refine G_iload C 1 rfl dL_law__1543 ?_
      refine G_icmp_eq (tgt := 1550) C rfl dL_law__1545 (fun hc179 => ?_) (fun hc179 => ?_)
      · replace h := (if_pos hc179).symm.trans h
        refine G_iload C 1 rfl dL_law__1550 ?_
        refine G_if_ne (tgt := 1567) C rfl dL_law__1552 (fun hc180 => ?_) (fun hc180 => ?_)
        · replace h := (if_neg hc180).symm.trans h
          refine G_goto (tgt := 2342) C rfl dL_law__1567 ?_
          refine G_iinc (v := 8) (L' := [(4, .int (x4 + (8 : Int32))), (6, .int v177), (5, .int v176), (0, .ref 1), (1, .ref 32), (2, .ref 81), (3, .ref 146)]) C 6 rfl rfl (Nat.le_of_ble_eq_true rfl) rfl dL_law__2342 ?_
          refine G_goto (tgt := 23) C rfl dL_law__2345 ?_
          refine G_widen (k1 := ck + 8) (k2 := sk + 700) (by omega) (by omega) ?_
          refine G_sub [3, 4, 5, 6, 0] rfl ?_
          exact hf23 _ _ h
        · replace h := (if_pos hc180).symm.trans h
          refine G_aload_n C 5 rfl rfl dL_law__1555 ?_
          refine G_iconst C (v := 0) rfl dL_law__1556 ?_
          refine G_laload C ks_146 ⟨by decide, by decide⟩ dL_law__1557 ?_
          refine G_iload C 0 rfl dL_law__1558 ?_
          refine G_i2l C dL_law__1560 ?_
          refine G_lcmp C dL_law__1561 ?_
          refine G_if_eq (tgt := 1567) C rfl dL_law__1562 (fun hc181 => ?_) (fun hc181 => ?_)
          · replace h := (if_pos hc181).symm.trans h
            refine G_goto (tgt := 2342) C rfl dL_law__1567 ?_
            refine G_iinc (v := 8) (L' := [(4, .int (x4 + (8 : Int32))), (6, .int v177), (5, .int v176), (0, .ref 1), (1, .ref 32), (2, .ref 81), (3, .ref 146)]) C 6 rfl rfl (Nat.le_of_ble_eq_true rfl) rfl dL_law__2342 ?_
            refine G_goto (tgt := 23) C rfl dL_law__2345 ?_
            refine G_widen (k1 := ck + 8) (k2 := sk + 700) (by omega) (by omega) ?_
            refine G_sub [3, 4, 5, 6, 0] rfl ?_
            exact hf23 _ _ h
          · replace h := (if_neg hc181).symm.trans h
            refine G_iconst C (v := 0) rfl dL_law__1565 ?_
            exact absurd (Option.some.inj h) (by decide)
      · replace h := (if_neg hc179).symm.trans h
        refine G_iconst C (v := 0) rfl dL_law__1548 ?_
        exact absurd (Option.some.inj h) (by decide)
    replace h := (if_neg hc171).symm.trans h
    by_cases hc182 : ((xs (x4).toNatClampNeg) &&& (31 : Int32)) = (18 : Int32)
    · replace h := (if_pos hc182).symm.trans h
      refine G_tswIn (tgt := 1570) C (18) 18 hc182 (by decide) (by decide) (by decide) rfl rfl dL_law__40 ?_
      refine G_aload_n C 1 rfl rfl dL_law__1570 ?_
      refine G_aload_n C 0 rfl rfl dL_law__1571 ?_
      refine G_iload C 4 rfl dL_law__1572 ?_
      refine G_iconst C (v := 1) rfl dL_law__1574 ?_
      refine G_iadd C dL_law__1575 ?_
      obtain ⟨hc183, h⟩ := ifn h
      refine G_xld C hx hc183 dL_law__1576 ?_
      refine G_aload_n C 0 rfl rfl dL_law__1577 ?_
      refine G_iload C 4 rfl dL_law__1578 ?_
      refine G_iconst C (v := 2) rfl dL_law__1580 ?_
      refine G_iadd C dL_law__1581 ?_
      obtain ⟨hc184, h⟩ := ifn h
      refine G_xld C hx hc184 dL_law__1582 ?_
      refine G_aload_n C 0 rfl rfl dL_law__1583 ?_
      refine G_iload C 4 rfl dL_law__1584 ?_
      refine G_iconst C (v := 3) rfl dL_law__1586 ?_
      refine G_iadd C dL_law__1587 ?_
      obtain ⟨hc185, h⟩ := ifn h
      refine G_xld C hx hc185 dL_law__1588 ?_
      refine G_aload_n C 3 rfl rfl dL_law__1589 ?_
      obtain ⟨v186, σ186, hv186, h⟩ := bd2_elim h
      refine G_callI (run_SH C [.ref 32, .int (xs ((x4 + (1 : Int32))).toNatClampNeg), .int (xs ((x4 + (2 : Int32))).toNatClampNeg), .int (xs ((x4 + (3 : Int32))).toNatClampNeg), .ref 146] [] (dL_gets hlx hv186) cw_L_gets in_L mh_L_gets ms_L_gets lk_L_176 ⟨(Nat.le_of_ble_eq_true rfl), (Nat.le_of_ble_eq_true rfl)⟩ ⟨rmc (by omega), rms (by omega)⟩ rfl (Nat.le_of_ble_eq_true rfl) dL_law__1590) ?_
      refine G_istore (L' := [(5, .int v186), (0, .ref 1), (1, .ref 32), (2, .ref 81), (3, .ref 146), (4, .int x4)]) C (Nat.le_of_ble_eq_true rfl) rfl dL_law__1593 ?_
      refine G_aload_n C 3 rfl rfl dL_law__1595 ?_
      refine G_aload_n C 1 rfl rfl dL_law__1596 ?_
      refine G_iload C 5 rfl dL_law__1597 ?_
      refine G_iconst C (v := 1) rfl dL_law__1599 ?_
      refine G_iadd C dL_law__1600 ?_
      refine G_xld C hx hc183 dL_law__1601 ?_
      refine G_aload_n C 1 rfl rfl dL_law__1602 ?_
      refine G_iload C 5 rfl dL_law__1603 ?_
      refine G_iconst C (v := 2) rfl dL_law__1605 ?_
      refine G_iadd C dL_law__1606 ?_
      refine G_xld C hx hc184 dL_law__1607 ?_
      refine G_aload_n C 1 rfl rfl dL_law__1608 ?_
      refine G_iload C 5 rfl dL_law__1609 ?_
      refine G_iconst C (v := 3) rfl dL_law__1611 ?_
      refine G_iadd C dL_law__1612 ?_
      refine G_xld C hx hc185 dL_law__1613 ?_
      obtain ⟨v187, σ187, hv187, h⟩ := bd2_elim h
      refine G_callL (run_V C [.int (xs ((x4 + (1 : Int32))).toNatClampNeg), .int (xs ((x4 + (2 : Int32))).toNatClampNeg), .int (xs ((x4 + (3 : Int32))).toNatClampNeg)] [] (dX12_gets hv187) ml_X12_gets mv_X12_gets lk_L_178 ⟨(Nat.le_of_ble_eq_true rfl), (Nat.le_of_ble_eq_true rfl)⟩ ⟨rmc (by omega), rms (by omega)⟩ vq_11 rfl ko_81 rfl (Nat.le_of_ble_eq_true rfl) dL_law__1614) ?_
      refine G_lstore (L' := [(6, .long v187), (5, .int v186), (0, .ref 1), (1, .ref 32), (2, .ref 81), (3, .ref 146), (4, .int x4)]) C (Nat.le_of_ble_eq_true rfl) rfl dL_law__1617 ?_
      refine G_aload_n C 4 rfl rfl dL_law__1619 ?_
      refine G_callI (run_V C [] [] (dX12_thrown rfl) ml_X12_thrown mv_X12_thrown lk_L_116 ⟨(Nat.le_of_ble_eq_true rfl), (Nat.le_of_ble_eq_true rfl)⟩ ⟨rmc (by omega), rms (by omega)⟩ vq_11 rfl ko_81 rfl (Nat.le_of_ble_eq_true rfl) dL_law__1620) ?_
      refine G_iload C 1 rfl dL_law__1623 ?_
      refine G_icmp_eq (tgt := 1630) C rfl dL_law__1625 (fun hc189 => ?_) (fun hc189 => ?_)
      · replace h := (if_pos hc189).symm.trans h
        refine G_iload C 1 rfl dL_law__1630 ?_
        refine G_if_ne (tgt := 1646) C rfl dL_law__1632 (fun hc190 => ?_) (fun hc190 => ?_)
        · replace h := (if_neg hc190).symm.trans h
          refine G_goto (tgt := 2342) C rfl dL_law__1646 ?_
          refine G_iinc (v := 8) (L' := [(4, .int (x4 + (8 : Int32))), (6, .long v187), (5, .int v186), (0, .ref 1), (1, .ref 32), (2, .ref 81), (3, .ref 146)]) C 6 rfl rfl (Nat.le_of_ble_eq_true rfl) rfl dL_law__2342 ?_
          refine G_goto (tgt := 23) C rfl dL_law__2345 ?_
          refine G_widen (k1 := ck + 8) (k2 := sk + 700) (by omega) (by omega) ?_
          refine G_sub [3, 4, 5, 6, 0] rfl ?_
          exact hf23 _ _ h
        · replace h := (if_pos hc190).symm.trans h
          refine G_aload_n C 5 rfl rfl dL_law__1635 ?_
          refine G_iconst C (v := 0) rfl dL_law__1636 ?_
          refine G_laload C ks_146 ⟨by decide, by decide⟩ dL_law__1637 ?_
          refine G_lload C 0 rfl dL_law__1638 ?_
          refine G_lcmp C dL_law__1640 ?_
          refine G_if_eq (tgt := 1646) C rfl dL_law__1641 (fun hc191 => ?_) (fun hc191 => ?_)
          · replace h := (if_pos hc191).symm.trans h
            refine G_goto (tgt := 2342) C rfl dL_law__1646 ?_
            refine G_iinc (v := 8) (L' := [(4, .int (x4 + (8 : Int32))), (6, .long v187), (5, .int v186), (0, .ref 1), (1, .ref 32), (2, .ref 81), (3, .ref 146)]) C 6 rfl rfl (Nat.le_of_ble_eq_true rfl) rfl dL_law__2342 ?_
            refine G_goto (tgt := 23) C rfl dL_law__2345 ?_
            refine G_widen (k1 := ck + 8) (k2 := sk + 700) (by omega) (by omega) ?_
            refine G_sub [3, 4, 5, 6, 0] rfl ?_
            exact hf23 _ _ h
          · replace h := (if_neg hc191).symm.trans h
            refine G_iconst C (v := 0) rfl dL_law__1644 ?_
            exact absurd (Option.some.inj h) (by decide)
      · replace h := (if_neg hc189).symm.trans h
        refine G_iconst C (v := 0) rfl dL_law__1628 ?_
        exact absurd (Option.some.inj h) (by decide)
    replace h := (if_neg hc182).symm.trans h
    by_cases hc192 : ((xs (x4).toNatClampNeg) &&& (31 : Int32)) = (19 : Int32)
    · replace h := (if_pos hc192).symm.trans h
      refine G_tswIn (tgt := 1649) C (19) 19 hc192 (by decide) (by decide) (by decide) rfl rfl dL_law__40 ?_
      refine G_aload_n C 1 rfl rfl dL_law__1649 ?_
      refine G_aload_n C 0 rfl rfl dL_law__1650 ?_
      refine G_iload C 4 rfl dL_law__1651 ?_
      refine G_iconst C (v := 1) rfl dL_law__1653 ?_
      refine G_iadd C dL_law__1654 ?_
      obtain ⟨hc193, h⟩ := ifn h
      refine G_xld C hx hc193 dL_law__1655 ?_
      refine G_aload_n C 0 rfl rfl dL_law__1656 ?_
      refine G_iload C 4 rfl dL_law__1657 ?_
      refine G_iconst C (v := 2) rfl dL_law__1659 ?_
      refine G_iadd C dL_law__1660 ?_
      obtain ⟨hc194, h⟩ := ifn h
      refine G_xld C hx hc194 dL_law__1661 ?_
      refine G_aload_n C 0 rfl rfl dL_law__1662 ?_
      refine G_iload C 4 rfl dL_law__1663 ?_
      refine G_iconst C (v := 3) rfl dL_law__1665 ?_
      refine G_iadd C dL_law__1666 ?_
      obtain ⟨hc195, h⟩ := ifn h
      refine G_xld C hx hc195 dL_law__1667 ?_
      refine G_aload_n C 0 rfl rfl dL_law__1668 ?_
      refine G_iload C 4 rfl dL_law__1669 ?_
      refine G_iconst C (v := 4) rfl dL_law__1671 ?_
      refine G_iadd C dL_law__1672 ?_
      obtain ⟨hc196, h⟩ := ifn h
      refine G_xld C hx hc196 dL_law__1673 ?_
      refine G_aload_n C 3 rfl rfl dL_law__1674 ?_
      obtain ⟨v197, σ197, hv197, h⟩ := bd2_elim h
      refine G_callI (run_SH C [.ref 32, .int (xs ((x4 + (1 : Int32))).toNatClampNeg), .int (xs ((x4 + (2 : Int32))).toNatClampNeg), .int (xs ((x4 + (3 : Int32))).toNatClampNeg), .int (xs ((x4 + (4 : Int32))).toNatClampNeg), .ref 146] [] (dL_owes hlx hv197) cw_L_owes in_L mh_L_owes ms_L_owes lk_L_179 ⟨(Nat.le_of_ble_eq_true rfl), (Nat.le_of_ble_eq_true rfl)⟩ ⟨rmc (by omega), rms (by omega)⟩ rfl (Nat.le_of_ble_eq_true rfl) dL_law__1675) ?_
      refine G_istore (L' := [(5, .int v197), (0, .ref 1), (1, .ref 32), (2, .ref 81), (3, .ref 146), (4, .int x4)]) C (Nat.le_of_ble_eq_true rfl) rfl dL_law__1678 ?_
      refine G_aload_n C 3 rfl rfl dL_law__1680 ?_
      refine G_aload_n C 1 rfl rfl dL_law__1681 ?_
      refine G_iload C 5 rfl dL_law__1682 ?_
      refine G_iconst C (v := 1) rfl dL_law__1684 ?_
      refine G_iadd C dL_law__1685 ?_
      refine G_xld C hx hc193 dL_law__1686 ?_
      refine G_aload_n C 1 rfl rfl dL_law__1687 ?_
      refine G_iload C 5 rfl dL_law__1688 ?_
      refine G_iconst C (v := 2) rfl dL_law__1690 ?_
      refine G_iadd C dL_law__1691 ?_
      refine G_xld C hx hc194 dL_law__1692 ?_
      refine G_aload_n C 1 rfl rfl dL_law__1693 ?_
      refine G_iload C 5 rfl dL_law__1694 ?_
      refine G_iconst C (v := 3) rfl dL_law__1696 ?_
      refine G_iadd C dL_law__1697 ?_
      refine G_xld C hx hc195 dL_law__1698 ?_
      refine G_aload_n C 1 rfl rfl dL_law__1699 ?_
      refine G_iload C 5 rfl dL_law__1700 ?_
      refine G_iconst C (v := 4) rfl dL_law__1702 ?_
      refine G_iadd C dL_law__1703 ?_
      refine G_xld C hx hc196 dL_law__1704 ?_
      obtain ⟨v198, σ198, hv198, h⟩ := bd2_elim h
      refine G_callL (run_V C [.int (xs ((x4 + (1 : Int32))).toNatClampNeg), .int (xs ((x4 + (2 : Int32))).toNatClampNeg), .int (xs ((x4 + (3 : Int32))).toNatClampNeg), .int (xs ((x4 + (4 : Int32))).toNatClampNeg)] [] (dX12_owes hv198) ml_X12_owes mv_X12_owes lk_L_181 ⟨(Nat.le_of_ble_eq_true rfl), (Nat.le_of_ble_eq_true rfl)⟩ ⟨rmc (by omega), rms (by omega)⟩ vq_11 rfl ko_81 rfl (Nat.le_of_ble_eq_true rfl) dL_law__1705) ?_
      refine G_lstore (L' := [(6, .long v198), (5, .int v197), (0, .ref 1), (1, .ref 32), (2, .ref 81), (3, .ref 146), (4, .int x4)]) C (Nat.le_of_ble_eq_true rfl) rfl dL_law__1708 ?_
      refine G_aload_n C 4 rfl rfl dL_law__1710 ?_
      refine G_callI (run_V C [] [] (dX12_thrown rfl) ml_X12_thrown mv_X12_thrown lk_L_116 ⟨(Nat.le_of_ble_eq_true rfl), (Nat.le_of_ble_eq_true rfl)⟩ ⟨rmc (by omega), rms (by omega)⟩ vq_11 rfl ko_81 rfl (Nat.le_of_ble_eq_true rfl) dL_law__1711) ?_
      refine G_iload C 1 rfl dL_law__1714 ?_
      refine G_icmp_eq (tgt := 1721) C rfl dL_law__1716 (fun hc200 => ?_) (fun hc200 => ?_)
      · replace h := (if_pos hc200).symm.trans h
        refine G_iload C 1 rfl dL_law__1721 ?_
        refine G_if_ne (tgt := 1737) C rfl dL_law__1723 (fun hc201 => ?_) (fun hc201 => ?_)
        · replace h := (if_neg hc201).symm.trans h
          refine G_goto (tgt := 2342) C rfl dL_law__1737 ?_
          refine G_iinc (v := 8) (L' := [(4, .int (x4 + (8 : Int32))), (6, .long v198), (5, .int v197), (0, .ref 1), (1, .ref 32), (2, .ref 81), (3, .ref 146)]) C 6 rfl rfl (Nat.le_of_ble_eq_true rfl) rfl dL_law__2342 ?_
          refine G_goto (tgt := 23) C rfl dL_law__2345 ?_
          refine G_widen (k1 := ck + 8) (k2 := sk + 700) (by omega) (by omega) ?_
          refine G_sub [3, 4, 5, 6, 0] rfl ?_
          exact hf23 _ _ h
        · replace h := (if_pos hc201).symm.trans h
          refine G_aload_n C 5 rfl rfl dL_law__1726 ?_
          refine G_iconst C (v := 0) rfl dL_law__1727 ?_
          refine G_laload C ks_146 ⟨by decide, by decide⟩ dL_law__1728 ?_
          refine G_lload C 0 rfl dL_law__1729 ?_
          refine G_lcmp C dL_law__1731 ?_
          refine G_if_eq (tgt := 1737) C rfl dL_law__1732 (fun hc202 => ?_) (fun hc202 => ?_)
          · replace h := (if_pos hc202).symm.trans h
            refine G_goto (tgt := 2342) C rfl dL_law__1737 ?_
            refine G_iinc (v := 8) (L' := [(4, .int (x4 + (8 : Int32))), (6, .long v198), (5, .int v197), (0, .ref 1), (1, .ref 32), (2, .ref 81), (3, .ref 146)]) C 6 rfl rfl (Nat.le_of_ble_eq_true rfl) rfl dL_law__2342 ?_
            refine G_goto (tgt := 23) C rfl dL_law__2345 ?_
            refine G_widen (k1 := ck + 8) (k2 := sk + 700) (by omega) (by omega) ?_
            refine G_sub [3, 4, 5, 6, 0] rfl ?_
            exact hf23 _ _ h
          · replace h := (if_neg hc202).symm.trans h
            refine G_iconst C (v := 0) rfl dL_law__1735 ?_
            exact absurd (Option.some.inj h) (by decide)
      · replace h := (if_neg hc200).symm.trans h
        refine G_iconst C (v := 0) rfl dL_law__1719 ?_
        exact absurd (Option.some.inj h) (by decide)
    replace h := (if_neg hc192).symm.trans h
    by_cases hc203 : ((xs (x4).toNatClampNeg) &&& (31 : Int32)) = (20 : Int32)
    · replace h := (if_pos hc203).symm.trans h
      refine G_tswIn (tgt := 1740) C (20) 20 hc203 (by decide) (by decide) (by decide) rfl rfl dL_law__40 ?_
      refine G_aload_n C 1 rfl rfl dL_law__1740 ?_
      refine G_aload_n C 0 rfl rfl dL_law__1741 ?_
      refine G_iload C 4 rfl dL_law__1742 ?_
      refine G_iconst C (v := 1) rfl dL_law__1744 ?_
      refine G_iadd C dL_law__1745 ?_
      obtain ⟨hc204, h⟩ := ifn h
      refine G_xld C hx hc204 dL_law__1746 ?_
      refine G_aload_n C 0 rfl rfl dL_law__1747 ?_
      refine G_iload C 4 rfl dL_law__1748 ?_
      refine G_iconst C (v := 2) rfl dL_law__1750 ?_
      refine G_iadd C dL_law__1751 ?_
      obtain ⟨hc205, h⟩ := ifn h
      refine G_xld C hx hc205 dL_law__1752 ?_
      refine G_aload_n C 0 rfl rfl dL_law__1753 ?_
      refine G_iload C 4 rfl dL_law__1754 ?_
      refine G_iconst C (v := 3) rfl dL_law__1756 ?_
      refine G_iadd C dL_law__1757 ?_
      obtain ⟨hc206, h⟩ := ifn h
      refine G_xld C hx hc206 dL_law__1758 ?_
      refine G_aload_n C 3 rfl rfl dL_law__1759 ?_
      obtain ⟨v207, σ207, hv207, h⟩ := bd2_elim h
      refine G_callI (run_SH C [.ref 32, .int (xs ((x4 + (1 : Int32))).toNatClampNeg), .int (xs ((x4 + (2 : Int32))).toNatClampNeg), .int (xs ((x4 + (3 : Int32))).toNatClampNeg), .ref 146] [] (dL_net hlx hv207) cw_L_net in_L mh_L_net ms_L_net lk_L_182 ⟨(Nat.le_of_ble_eq_true rfl), (Nat.le_of_ble_eq_true rfl)⟩ ⟨rmc (by omega), rms (by omega)⟩ rfl (Nat.le_of_ble_eq_true rfl) dL_law__1760) ?_
      refine G_istore (L' := [(5, .int v207), (0, .ref 1), (1, .ref 32), (2, .ref 81), (3, .ref 146), (4, .int x4)]) C (Nat.le_of_ble_eq_true rfl) rfl dL_law__1763 ?_
      refine G_aload_n C 3 rfl rfl dL_law__1765 ?_
      refine G_aload_n C 1 rfl rfl dL_law__1766 ?_
      refine G_iload C 5 rfl dL_law__1767 ?_
      refine G_iconst C (v := 1) rfl dL_law__1769 ?_
      refine G_iadd C dL_law__1770 ?_
      refine G_xld C hx hc204 dL_law__1771 ?_
      refine G_aload_n C 1 rfl rfl dL_law__1772 ?_
      refine G_iload C 5 rfl dL_law__1773 ?_
      refine G_iconst C (v := 2) rfl dL_law__1775 ?_
      refine G_iadd C dL_law__1776 ?_
      refine G_xld C hx hc205 dL_law__1777 ?_
      refine G_aload_n C 1 rfl rfl dL_law__1778 ?_
      refine G_iload C 5 rfl dL_law__1779 ?_
      refine G_iconst C (v := 3) rfl dL_law__1781 ?_
      refine G_iadd C dL_law__1782 ?_
      refine G_xld C hx hc206 dL_law__1783 ?_
      obtain ⟨v208, σ208, hv208, h⟩ := bd2_elim h
      refine G_callL (run_V C [.int (xs ((x4 + (1 : Int32))).toNatClampNeg), .int (xs ((x4 + (2 : Int32))).toNatClampNeg), .int (xs ((x4 + (3 : Int32))).toNatClampNeg)] [] (dX12_net hv208) ml_X12_net mv_X12_net lk_L_184 ⟨(Nat.le_of_ble_eq_true rfl), (Nat.le_of_ble_eq_true rfl)⟩ ⟨rmc (by omega), rms (by omega)⟩ vq_11 rfl ko_81 rfl (Nat.le_of_ble_eq_true rfl) dL_law__1784) ?_
      refine G_lstore (L' := [(6, .long v208), (5, .int v207), (0, .ref 1), (1, .ref 32), (2, .ref 81), (3, .ref 146), (4, .int x4)]) C (Nat.le_of_ble_eq_true rfl) rfl dL_law__1787 ?_
      refine G_aload_n C 4 rfl rfl dL_law__1789 ?_
      refine G_callI (run_V C [] [] (dX12_thrown rfl) ml_X12_thrown mv_X12_thrown lk_L_116 ⟨(Nat.le_of_ble_eq_true rfl), (Nat.le_of_ble_eq_true rfl)⟩ ⟨rmc (by omega), rms (by omega)⟩ vq_11 rfl ko_81 rfl (Nat.le_of_ble_eq_true rfl) dL_law__1790) ?_
      refine G_iload C 1 rfl dL_law__1793 ?_
      refine G_icmp_eq (tgt := 1800) C rfl dL_law__1795 (fun hc210 => ?_) (fun hc210 => ?_)
      · replace h := (if_pos hc210).symm.trans h
        refine G_iload C 1 rfl dL_law__1800 ?_
        refine G_if_ne (tgt := 1816) C rfl dL_law__1802 (fun hc211 => ?_) (fun hc211 => ?_)
        · replace h := (if_neg hc211).symm.trans h
          refine G_goto (tgt := 2342) C rfl dL_law__1816 ?_
          refine G_iinc (v := 8) (L' := [(4, .int (x4 + (8 : Int32))), (6, .long v208), (5, .int v207), (0, .ref 1), (1, .ref 32), (2, .ref 81), (3, .ref 146)]) C 6 rfl rfl (Nat.le_of_ble_eq_true rfl) rfl dL_law__2342 ?_
          refine G_goto (tgt := 23) C rfl dL_law__2345 ?_
          refine G_widen (k1 := ck + 8) (k2 := sk + 700) (by omega) (by omega) ?_
          refine G_sub [3, 4, 5, 6, 0] rfl ?_
          exact hf23 _ _ h
        · replace h := (if_pos hc211).symm.trans h
          refine G_aload_n C 5 rfl rfl dL_law__1805 ?_
          refine G_iconst C (v := 0) rfl dL_law__1806 ?_
          refine G_laload C ks_146 ⟨by decide, by decide⟩ dL_law__1807 ?_
          refine G_lload C 0 rfl dL_law__1808 ?_
          refine G_lcmp C dL_law__1810 ?_
          refine G_if_eq (tgt := 1816) C rfl dL_law__1811 (fun hc212 => ?_) (fun hc212 => ?_)
          · replace h := (if_pos hc212).symm.trans h
            refine G_goto (tgt := 2342) C rfl dL_law__1816 ?_
            refine G_iinc (v := 8) (L' := [(4, .int (x4 + (8 : Int32))), (6, .long v208), (5, .int v207), (0, .ref 1), (1, .ref 32), (2, .ref 81), (3, .ref 146)]) C 6 rfl rfl (Nat.le_of_ble_eq_true rfl) rfl dL_law__2342 ?_
            refine G_goto (tgt := 23) C rfl dL_law__2345 ?_
            refine G_widen (k1 := ck + 8) (k2 := sk + 700) (by omega) (by omega) ?_
            refine G_sub [3, 4, 5, 6, 0] rfl ?_
            exact hf23 _ _ h
          · replace h := (if_neg hc212).symm.trans h
            refine G_iconst C (v := 0) rfl dL_law__1814 ?_
            exact absurd (Option.some.inj h) (by decide)
      · replace h := (if_neg hc210).symm.trans h
        refine G_iconst C (v := 0) rfl dL_law__1798 ?_
        exact absurd (Option.some.inj h) (by decide)
    replace h := (if_neg hc203).symm.trans h
    by_cases hc213 : ((xs (x4).toNatClampNeg) &&& (31 : Int32)) = (21 : Int32)
    · replace h := (if_pos hc213).symm.trans h
      refine G_tswIn (tgt := 1819) C (21) 21 hc213 (by decide) (by decide) (by decide) rfl rfl dL_law__40 ?_
      refine G_aload_n C 1 rfl rfl dL_law__1819 ?_
      refine G_aload_n C 0 rfl rfl dL_law__1820 ?_
      refine G_iload C 4 rfl dL_law__1821 ?_
      refine G_iconst C (v := 1) rfl dL_law__1823 ?_
      refine G_iadd C dL_law__1824 ?_
      obtain ⟨hc214, h⟩ := ifn h
      refine G_xld C hx hc214 dL_law__1825 ?_
      refine G_aload_n C 0 rfl rfl dL_law__1826 ?_
      refine G_iload C 4 rfl dL_law__1827 ?_
      refine G_iconst C (v := 2) rfl dL_law__1829 ?_
      refine G_iadd C dL_law__1830 ?_
      obtain ⟨hc215, h⟩ := ifn h
      refine G_xld C hx hc215 dL_law__1831 ?_
      refine G_aload_n C 3 rfl rfl dL_law__1832 ?_
      obtain ⟨v216, σ216, hv216, h⟩ := bd2_elim h
      refine G_callI (run_SH C [.ref 32, .int (xs ((x4 + (1 : Int32))).toNatClampNeg), .int (xs ((x4 + (2 : Int32))).toNatClampNeg), .ref 146] [] (dL_payments hlx hv216) cw_L_payments in_L mh_L_payments ms_L_payments lk_L_185 ⟨(Nat.le_of_ble_eq_true rfl), (Nat.le_of_ble_eq_true rfl)⟩ ⟨rmc (by omega), rms (by omega)⟩ rfl (Nat.le_of_ble_eq_true rfl) dL_law__1833) ?_
      refine G_istore (L' := [(5, .int v216), (0, .ref 1), (1, .ref 32), (2, .ref 81), (3, .ref 146), (4, .int x4)]) C (Nat.le_of_ble_eq_true rfl) rfl dL_law__1836 ?_
      refine G_aload_n C 3 rfl rfl dL_law__1838 ?_
      refine G_aload_n C 1 rfl rfl dL_law__1839 ?_
      refine G_iload C 5 rfl dL_law__1840 ?_
      refine G_iconst C (v := 1) rfl dL_law__1842 ?_
      refine G_iadd C dL_law__1843 ?_
      refine G_xld C hx hc214 dL_law__1844 ?_
      refine G_aload_n C 1 rfl rfl dL_law__1845 ?_
      refine G_iload C 5 rfl dL_law__1846 ?_
      refine G_iconst C (v := 2) rfl dL_law__1848 ?_
      refine G_iadd C dL_law__1849 ?_
      refine G_xld C hx hc215 dL_law__1850 ?_
      obtain ⟨v217, σ217, hv217, h⟩ := bd2_elim h
      refine G_callI (run_V C [.int (xs ((x4 + (1 : Int32))).toNatClampNeg), .int (xs ((x4 + (2 : Int32))).toNatClampNeg)] [] (dX12_payments hv217) ml_X12_payments mv_X12_payments lk_L_187 ⟨(Nat.le_of_ble_eq_true rfl), (Nat.le_of_ble_eq_true rfl)⟩ ⟨rmc (by omega), rms (by omega)⟩ vq_11 rfl ko_81 rfl (Nat.le_of_ble_eq_true rfl) dL_law__1851) ?_
      refine G_istore (L' := [(6, .int v217), (5, .int v216), (0, .ref 1), (1, .ref 32), (2, .ref 81), (3, .ref 146), (4, .int x4)]) C (Nat.le_of_ble_eq_true rfl) rfl dL_law__1854 ?_
      refine G_aload_n C 4 rfl rfl dL_law__1856 ?_
      refine G_callI (run_V C [] [] (dX12_thrown rfl) ml_X12_thrown mv_X12_thrown lk_L_116 ⟨(Nat.le_of_ble_eq_true rfl), (Nat.le_of_ble_eq_true rfl)⟩ ⟨rmc (by omega), rms (by omega)⟩ vq_11 rfl ko_81 rfl (Nat.le_of_ble_eq_true rfl) dL_law__1857) ?_
      refine G_iload C 1 rfl dL_law__1860 ?_
      refine G_icmp_eq (tgt := 1867) C rfl dL_law__1862 (fun hc219 => ?_) (fun hc219 => ?_)
      · replace h := (if_pos hc219).symm.trans h
        refine G_iload C 1 rfl dL_law__1867 ?_
        refine G_if_ne (tgt := 1884) C rfl dL_law__1869 (fun hc220 => ?_) (fun hc220 => ?_)
        · replace h := (if_neg hc220).symm.trans h
          refine G_goto (tgt := 2342) C rfl dL_law__1884 ?_
          refine G_iinc (v := 8) (L' := [(4, .int (x4 + (8 : Int32))), (6, .int v217), (5, .int v216), (0, .ref 1), (1, .ref 32), (2, .ref 81), (3, .ref 146)]) C 6 rfl rfl (Nat.le_of_ble_eq_true rfl) rfl dL_law__2342 ?_
          refine G_goto (tgt := 23) C rfl dL_law__2345 ?_
          refine G_widen (k1 := ck + 8) (k2 := sk + 700) (by omega) (by omega) ?_
          refine G_sub [3, 4, 5, 6, 0] rfl ?_
          exact hf23 _ _ h
        · replace h := (if_pos hc220).symm.trans h
          refine G_aload_n C 5 rfl rfl dL_law__1872 ?_
          refine G_iconst C (v := 0) rfl dL_law__1873 ?_
          refine G_laload C ks_146 ⟨by decide, by decide⟩ dL_law__1874 ?_
          refine G_iload C 0 rfl dL_law__1875 ?_
          refine G_i2l C dL_law__1877 ?_
          refine G_lcmp C dL_law__1878 ?_
          refine G_if_eq (tgt := 1884) C rfl dL_law__1879 (fun hc221 => ?_) (fun hc221 => ?_)
          · replace h := (if_pos hc221).symm.trans h
            refine G_goto (tgt := 2342) C rfl dL_law__1884 ?_
            refine G_iinc (v := 8) (L' := [(4, .int (x4 + (8 : Int32))), (6, .int v217), (5, .int v216), (0, .ref 1), (1, .ref 32), (2, .ref 81), (3, .ref 146)]) C 6 rfl rfl (Nat.le_of_ble_eq_true rfl) rfl dL_law__2342 ?_
            refine G_goto (tgt := 23) C rfl dL_law__2345 ?_
            refine G_widen (k1 := ck + 8) (k2 := sk + 700) (by omega) (by omega) ?_
            refine G_sub [3, 4, 5, 6, 0] rfl ?_
            exact hf23 _ _ h
          · replace h := (if_neg hc221).symm.trans h
            refine G_iconst C (v := 0) rfl dL_law__1882 ?_
            exact absurd (Option.some.inj h) (by decide)
      · replace h := (if_neg hc219).symm.trans h
        refine G_iconst C (v := 0) rfl dL_law__1865 ?_
        exact absurd (Option.some.inj h) (by decide)
    replace h := (if_neg hc213).symm.trans h
    by_cases hc222 : ((xs (x4).toNatClampNeg) &&& (31 : Int32)) = (22 : Int32)
    · replace h := (if_pos hc222).symm.trans h
      refine G_tswIn (tgt := 1887) C (22) 22 hc222 (by decide) (by decide) (by decide) rfl rfl dL_law__40 ?_
      refine G_aload_n C 1 rfl rfl dL_law__1887 ?_
      refine G_aload_n C 0 rfl rfl dL_law__1888 ?_
      refine G_iload C 4 rfl dL_law__1889 ?_
      refine G_iconst C (v := 1) rfl dL_law__1891 ?_
      refine G_iadd C dL_law__1892 ?_
      obtain ⟨hc223, h⟩ := ifn h
      refine G_xld C hx hc223 dL_law__1893 ?_
      refine G_aload_n C 0 rfl rfl dL_law__1894 ?_
      refine G_iload C 4 rfl dL_law__1895 ?_
      refine G_iconst C (v := 2) rfl dL_law__1897 ?_
      refine G_iadd C dL_law__1898 ?_
      obtain ⟨hc224, h⟩ := ifn h
      refine G_xld C hx hc224 dL_law__1899 ?_
      refine G_aload_n C 0 rfl rfl dL_law__1900 ?_
      refine G_iload C 4 rfl dL_law__1901 ?_
      refine G_iconst C (v := 3) rfl dL_law__1903 ?_
      refine G_iadd C dL_law__1904 ?_
      obtain ⟨hc225, h⟩ := ifn h
      refine G_xld C hx hc225 dL_law__1905 ?_
      refine G_aload_n C 0 rfl rfl dL_law__1906 ?_
      refine G_iload C 4 rfl dL_law__1907 ?_
      refine G_iconst C (v := 4) rfl dL_law__1909 ?_
      refine G_iadd C dL_law__1910 ?_
      obtain ⟨hc226, h⟩ := ifn h
      refine G_xld C hx hc226 dL_law__1911 ?_
      refine G_aload_n C 3 rfl rfl dL_law__1912 ?_
      obtain ⟨v227, σ227, hv227, h⟩ := bd2_elim h
      refine G_callI (run_SH C [.ref 32, .int (xs ((x4 + (1 : Int32))).toNatClampNeg), .int (xs ((x4 + (2 : Int32))).toNatClampNeg), .int (xs ((x4 + (3 : Int32))).toNatClampNeg), .int (xs ((x4 + (4 : Int32))).toNatClampNeg), .ref 146] [] (dL_again hlx hv227) cw_L_again in_L mh_L_again ms_L_again lk_L_188 ⟨(Nat.le_of_ble_eq_true rfl), (Nat.le_of_ble_eq_true rfl)⟩ ⟨rmc (by omega), rms (by omega)⟩ rfl (Nat.le_of_ble_eq_true rfl) dL_law__1913) ?_
      refine G_istore (L' := [(5, .int v227), (0, .ref 1), (1, .ref 32), (2, .ref 81), (3, .ref 146), (4, .int x4)]) C (Nat.le_of_ble_eq_true rfl) rfl dL_law__1916 ?_
      refine G_aload_n C 3 rfl rfl dL_law__1918 ?_
      refine G_aload_n C 1 rfl rfl dL_law__1919 ?_
      refine G_iload C 5 rfl dL_law__1920 ?_
      refine G_iconst C (v := 1) rfl dL_law__1922 ?_
      refine G_iadd C dL_law__1923 ?_
      refine G_xld C hx hc223 dL_law__1924 ?_
      refine G_aload_n C 1 rfl rfl dL_law__1925 ?_
      refine G_iload C 5 rfl dL_law__1926 ?_
      refine G_iconst C (v := 2) rfl dL_law__1928 ?_
      refine G_iadd C dL_law__1929 ?_
      refine G_xld C hx hc224 dL_law__1930 ?_
      refine G_aload_n C 1 rfl rfl dL_law__1931 ?_
      refine G_iload C 5 rfl dL_law__1932 ?_
      refine G_iconst C (v := 3) rfl dL_law__1934 ?_
      refine G_iadd C dL_law__1935 ?_
      refine G_xld C hx hc225 dL_law__1936 ?_
      refine G_aload_n C 1 rfl rfl dL_law__1937 ?_
      refine G_iload C 5 rfl dL_law__1938 ?_
      refine G_iconst C (v := 4) rfl dL_law__1940 ?_
      refine G_iadd C dL_law__1941 ?_
      refine G_xld C hx hc226 dL_law__1942 ?_
      obtain ⟨v228, σ228, hv228, h⟩ := bd2_elim h
      refine G_callI (run_V C [.int (xs ((x4 + (1 : Int32))).toNatClampNeg), .int (xs ((x4 + (2 : Int32))).toNatClampNeg), .int (xs ((x4 + (3 : Int32))).toNatClampNeg), .int (xs ((x4 + (4 : Int32))).toNatClampNeg)] [] (dX12_again hv228) ml_X12_again mv_X12_again lk_L_190 ⟨(Nat.le_of_ble_eq_true rfl), (Nat.le_of_ble_eq_true rfl)⟩ ⟨rmc (by omega), rms (by omega)⟩ vq_11 rfl ko_81 rfl (Nat.le_of_ble_eq_true rfl) dL_law__1943) ?_
      refine G_istore (L' := [(6, .int v228), (5, .int v227), (0, .ref 1), (1, .ref 32), (2, .ref 81), (3, .ref 146), (4, .int x4)]) C (Nat.le_of_ble_eq_true rfl) rfl dL_law__1946 ?_
      refine G_aload_n C 4 rfl rfl dL_law__1948 ?_
      refine G_callI (run_V C [] [] (dX12_thrown rfl) ml_X12_thrown mv_X12_thrown lk_L_116 ⟨(Nat.le_of_ble_eq_true rfl), (Nat.le_of_ble_eq_true rfl)⟩ ⟨rmc (by omega), rms (by omega)⟩ vq_11 rfl ko_81 rfl (Nat.le_of_ble_eq_true rfl) dL_law__1949) ?_
      refine G_iload C 1 rfl dL_law__1952 ?_
      refine G_icmp_eq (tgt := 1959) C rfl dL_law__1954 (fun hc230 => ?_) (fun hc230 => ?_)
      · replace h := (if_pos hc230).symm.trans h
        refine G_iload C 1 rfl dL_law__1959 ?_
        refine G_if_ne (tgt := 1976) C rfl dL_law__1961 (fun hc231 => ?_) (fun hc231 => ?_)
        · replace h := (if_neg hc231).symm.trans h
          refine G_goto (tgt := 2342) C rfl dL_law__1976 ?_
          refine G_iinc (v := 8) (L' := [(4, .int (x4 + (8 : Int32))), (6, .int v228), (5, .int v227), (0, .ref 1), (1, .ref 32), (2, .ref 81), (3, .ref 146)]) C 6 rfl rfl (Nat.le_of_ble_eq_true rfl) rfl dL_law__2342 ?_
          refine G_goto (tgt := 23) C rfl dL_law__2345 ?_
          refine G_widen (k1 := ck + 8) (k2 := sk + 700) (by omega) (by omega) ?_
          refine G_sub [3, 4, 5, 6, 0] rfl ?_
          exact hf23 _ _ h
        · replace h := (if_pos hc231).symm.trans h
          refine G_aload_n C 5 rfl rfl dL_law__1964 ?_
          refine G_iconst C (v := 0) rfl dL_law__1965 ?_
          refine G_laload C ks_146 ⟨by decide, by decide⟩ dL_law__1966 ?_
          refine G_iload C 0 rfl dL_law__1967 ?_
          refine G_i2l C dL_law__1969 ?_
          refine G_lcmp C dL_law__1970 ?_
          refine G_if_eq (tgt := 1976) C rfl dL_law__1971 (fun hc232 => ?_) (fun hc232 => ?_)
          · replace h := (if_pos hc232).symm.trans h
            refine G_goto (tgt := 2342) C rfl dL_law__1976 ?_
            refine G_iinc (v := 8) (L' := [(4, .int (x4 + (8 : Int32))), (6, .int v228), (5, .int v227), (0, .ref 1), (1, .ref 32), (2, .ref 81), (3, .ref 146)]) C 6 rfl rfl (Nat.le_of_ble_eq_true rfl) rfl dL_law__2342 ?_
            refine G_goto (tgt := 23) C rfl dL_law__2345 ?_
            refine G_widen (k1 := ck + 8) (k2 := sk + 700) (by omega) (by omega) ?_
            refine G_sub [3, 4, 5, 6, 0] rfl ?_
            exact hf23 _ _ h
          · replace h := (if_neg hc232).symm.trans h
            refine G_iconst C (v := 0) rfl dL_law__1974 ?_
            exact absurd (Option.some.inj h) (by decide)
      · replace h := (if_neg hc230).symm.trans h
        refine G_iconst C (v := 0) rfl dL_law__1957 ?_
        exact absurd (Option.some.inj h) (by decide)
    replace h := (if_neg hc222).symm.trans h
    by_cases hc233 : ((xs (x4).toNatClampNeg) &&& (31 : Int32)) = (23 : Int32)
    · replace h := (if_pos hc233).symm.trans h
      refine G_tswIn (tgt := 1979) C (23) 23 hc233 (by decide) (by decide) (by decide) rfl rfl dL_law__40 ?_
      refine G_aload_n C 1 rfl rfl dL_law__1979 ?_
      refine G_aload_n C 0 rfl rfl dL_law__1980 ?_
      refine G_iload C 4 rfl dL_law__1981 ?_
      refine G_iconst C (v := 1) rfl dL_law__1983 ?_
      refine G_iadd C dL_law__1984 ?_
      obtain ⟨hc234, h⟩ := ifn h
      refine G_xld C hx hc234 dL_law__1985 ?_
      refine G_aload_n C 0 rfl rfl dL_law__1986 ?_
      refine G_iload C 4 rfl dL_law__1987 ?_
      refine G_iconst C (v := 2) rfl dL_law__1989 ?_
      refine G_iadd C dL_law__1990 ?_
      obtain ⟨hc235, h⟩ := ifn h
      refine G_xld C hx hc235 dL_law__1991 ?_
      refine G_aload_n C 0 rfl rfl dL_law__1992 ?_
      refine G_iload C 4 rfl dL_law__1993 ?_
      refine G_iconst C (v := 3) rfl dL_law__1995 ?_
      refine G_iadd C dL_law__1996 ?_
      obtain ⟨hc236, h⟩ := ifn h
      refine G_xld C hx hc236 dL_law__1997 ?_
      refine G_aload_n C 3 rfl rfl dL_law__1998 ?_
      obtain ⟨v237, σ237, hv237, h⟩ := bd2_elim h
      refine G_callI (run_SH C [.ref 32, .int (xs ((x4 + (1 : Int32))).toNatClampNeg), .int (xs ((x4 + (2 : Int32))).toNatClampNeg), .int (xs ((x4 + (3 : Int32))).toNatClampNeg), .ref 146] [] (dL_with hlx hv237) cw_L_with in_L mh_L_with ms_L_with lk_L_191 ⟨(Nat.le_of_ble_eq_true rfl), (Nat.le_of_ble_eq_true rfl)⟩ ⟨rmc (by omega), rms (by omega)⟩ rfl (Nat.le_of_ble_eq_true rfl) dL_law__1999) ?_
      refine G_istore (L' := [(5, .int v237), (0, .ref 1), (1, .ref 32), (2, .ref 81), (3, .ref 146), (4, .int x4)]) C (Nat.le_of_ble_eq_true rfl) rfl dL_law__2002 ?_
      refine G_aload_n C 3 rfl rfl dL_law__2004 ?_
      refine G_aload_n C 1 rfl rfl dL_law__2005 ?_
      refine G_iload C 5 rfl dL_law__2006 ?_
      refine G_iconst C (v := 1) rfl dL_law__2008 ?_
      refine G_iadd C dL_law__2009 ?_
      refine G_xld C hx hc234 dL_law__2010 ?_
      refine G_aload_n C 1 rfl rfl dL_law__2011 ?_
      refine G_iload C 5 rfl dL_law__2012 ?_
      refine G_iconst C (v := 2) rfl dL_law__2014 ?_
      refine G_iadd C dL_law__2015 ?_
      refine G_xld C hx hc235 dL_law__2016 ?_
      refine G_aload_n C 1 rfl rfl dL_law__2017 ?_
      refine G_iload C 5 rfl dL_law__2018 ?_
      refine G_iconst C (v := 3) rfl dL_law__2020 ?_
      refine G_iadd C dL_law__2021 ?_
      refine G_xld C hx hc236 dL_law__2022 ?_
      obtain ⟨v238, σ238, hv238, h⟩ := bd2_elim h
      refine G_callI (run_V C [.int (xs ((x4 + (1 : Int32))).toNatClampNeg), .int (xs ((x4 + (2 : Int32))).toNatClampNeg), .int (xs ((x4 + (3 : Int32))).toNatClampNeg)] [] (dX12_with hv238) ml_X12_with mv_X12_with lk_L_193 ⟨(Nat.le_of_ble_eq_true rfl), (Nat.le_of_ble_eq_true rfl)⟩ ⟨rmc (by omega), rms (by omega)⟩ vq_11 rfl ko_81 rfl (Nat.le_of_ble_eq_true rfl) dL_law__2023) ?_
      refine G_istore (L' := [(6, .int v238), (5, .int v237), (0, .ref 1), (1, .ref 32), (2, .ref 81), (3, .ref 146), (4, .int x4)]) C (Nat.le_of_ble_eq_true rfl) rfl dL_law__2026 ?_
      refine G_aload_n C 4 rfl rfl dL_law__2028 ?_
      refine G_callI (run_V C [] [] (dX12_thrown rfl) ml_X12_thrown mv_X12_thrown lk_L_116 ⟨(Nat.le_of_ble_eq_true rfl), (Nat.le_of_ble_eq_true rfl)⟩ ⟨rmc (by omega), rms (by omega)⟩ vq_11 rfl ko_81 rfl (Nat.le_of_ble_eq_true rfl) dL_law__2029) ?_
      refine G_iload C 1 rfl dL_law__2032 ?_
      refine G_icmp_eq (tgt := 2039) C rfl dL_law__2034 (fun hc240 => ?_) (fun hc240 => ?_)
      · replace h := (if_pos hc240).symm.trans h
        refine G_iload C 1 rfl dL_law__2039 ?_
        refine G_if_ne (tgt := 2056) C rfl dL_law__2041 (fun hc241 => ?_) (fun hc241 => ?_)
        · replace h := (if_neg hc241).symm.trans h
          refine G_goto (tgt := 2342) C rfl dL_law__2056 ?_
          refine G_iinc (v := 8) (L' := [(4, .int (x4 + (8 : Int32))), (6, .int v238), (5, .int v237), (0, .ref 1), (1, .ref 32), (2, .ref 81), (3, .ref 146)]) C 6 rfl rfl (Nat.le_of_ble_eq_true rfl) rfl dL_law__2342 ?_
          refine G_goto (tgt := 23) C rfl dL_law__2345 ?_
          refine G_widen (k1 := ck + 8) (k2 := sk + 700) (by omega) (by omega) ?_
          refine G_sub [3, 4, 5, 6, 0] rfl ?_
          exact hf23 _ _ h
        · replace h := (if_pos hc241).symm.trans h
          refine G_aload_n C 5 rfl rfl dL_law__2044 ?_
          refine G_iconst C (v := 0) rfl dL_law__2045 ?_
          refine G_laload C ks_146 ⟨by decide, by decide⟩ dL_law__2046 ?_
          refine G_iload C 0 rfl dL_law__2047 ?_
          refine G_i2l C dL_law__2049 ?_
          refine G_lcmp C dL_law__2050 ?_
          refine G_if_eq (tgt := 2056) C rfl dL_law__2051 (fun hc242 => ?_) (fun hc242 => ?_)
          · replace h := (if_pos hc242).symm.trans h
            refine G_goto (tgt := 2342) C rfl dL_law__2056 ?_
            refine G_iinc (v := 8) (L' := [(4, .int (x4 + (8 : Int32))), (6, .int v238), (5, .int v237), (0, .ref 1), (1, .ref 32), (2, .ref 81), (3, .ref 146)]) C 6 rfl rfl (Nat.le_of_ble_eq_true rfl) rfl dL_law__2342 ?_
            refine G_goto (tgt := 23) C rfl dL_law__2345 ?_
            refine G_widen (k1 := ck + 8) (k2 := sk + 700) (by omega) (by omega) ?_
            refine G_sub [3, 4, 5, 6, 0] rfl ?_
            exact hf23 _ _ h
          · replace h := (if_neg hc242).symm.trans h
            refine G_iconst C (v := 0) rfl dL_law__2054 ?_
            exact absurd (Option.some.inj h) (by decide)
      · replace h := (if_neg hc240).symm.trans h
        refine G_iconst C (v := 0) rfl dL_law__2037 ?_
        exact absurd (Option.some.inj h) (by decide)
    replace h := (if_neg hc233).symm.trans h
    by_cases hc243 : ((xs (x4).toNatClampNeg) &&& (31 : Int32)) = (24 : Int32)
    · replace h := (if_pos hc243).symm.trans h
      refine G_tswIn (tgt := 2059) C (24) 24 hc243 (by decide) (by decide) (by decide) rfl rfl dL_law__40 ?_
      refine G_aload_n C 1 rfl rfl dL_law__2059 ?_
      refine G_aload_n C 0 rfl rfl dL_law__2060 ?_
      refine G_iload C 4 rfl dL_law__2061 ?_
      refine G_iconst C (v := 1) rfl dL_law__2063 ?_
      refine G_iadd C dL_law__2064 ?_
      obtain ⟨hc244, h⟩ := ifn h
      refine G_xld C hx hc244 dL_law__2065 ?_
      refine G_aload_n C 0 rfl rfl dL_law__2066 ?_
      refine G_iload C 4 rfl dL_law__2067 ?_
      refine G_iconst C (v := 2) rfl dL_law__2069 ?_
      refine G_iadd C dL_law__2070 ?_
      obtain ⟨hc245, h⟩ := ifn h
      refine G_xld C hx hc245 dL_law__2071 ?_
      refine G_aload_n C 0 rfl rfl dL_law__2072 ?_
      refine G_iload C 4 rfl dL_law__2073 ?_
      refine G_iconst C (v := 3) rfl dL_law__2075 ?_
      refine G_iadd C dL_law__2076 ?_
      obtain ⟨hc246, h⟩ := ifn h
      refine G_xld C hx hc246 dL_law__2077 ?_
      refine G_aload_n C 0 rfl rfl dL_law__2078 ?_
      refine G_iload C 4 rfl dL_law__2079 ?_
      refine G_iconst C (v := 4) rfl dL_law__2081 ?_
      refine G_iadd C dL_law__2082 ?_
      obtain ⟨hc247, h⟩ := ifn h
      refine G_xld C hx hc247 dL_law__2083 ?_
      refine G_aload_n C 3 rfl rfl dL_law__2084 ?_
      obtain ⟨v248, σ248, hv248, h⟩ := bd2_elim h
      refine G_callI (run_SH C [.ref 32, .int (xs ((x4 + (1 : Int32))).toNatClampNeg), .int (xs ((x4 + (2 : Int32))).toNatClampNeg), .int (xs ((x4 + (3 : Int32))).toNatClampNeg), .int (xs ((x4 + (4 : Int32))).toNatClampNeg), .ref 146] [] (dL_hidden hlx hv248) cw_L_hidden in_L mh_L_hidden ms_L_hidden lk_L_194 ⟨(Nat.le_of_ble_eq_true rfl), (Nat.le_of_ble_eq_true rfl)⟩ ⟨rmc (by omega), rms (by omega)⟩ rfl (Nat.le_of_ble_eq_true rfl) dL_law__2085) ?_
      refine G_istore (L' := [(5, .int v248), (0, .ref 1), (1, .ref 32), (2, .ref 81), (3, .ref 146), (4, .int x4)]) C (Nat.le_of_ble_eq_true rfl) rfl dL_law__2088 ?_
      refine G_aload_n C 3 rfl rfl dL_law__2090 ?_
      refine G_aload_n C 1 rfl rfl dL_law__2091 ?_
      refine G_iload C 5 rfl dL_law__2092 ?_
      refine G_iconst C (v := 1) rfl dL_law__2094 ?_
      refine G_iadd C dL_law__2095 ?_
      refine G_xld C hx hc244 dL_law__2096 ?_
      refine G_aload_n C 1 rfl rfl dL_law__2097 ?_
      refine G_iload C 5 rfl dL_law__2098 ?_
      refine G_iconst C (v := 2) rfl dL_law__2100 ?_
      refine G_iadd C dL_law__2101 ?_
      refine G_xld C hx hc245 dL_law__2102 ?_
      refine G_aload_n C 1 rfl rfl dL_law__2103 ?_
      refine G_iload C 5 rfl dL_law__2104 ?_
      refine G_iconst C (v := 3) rfl dL_law__2106 ?_
      refine G_iadd C dL_law__2107 ?_
      refine G_xld C hx hc246 dL_law__2108 ?_
      refine G_aload_n C 1 rfl rfl dL_law__2109 ?_
      refine G_iload C 5 rfl dL_law__2110 ?_
      refine G_iconst C (v := 4) rfl dL_law__2112 ?_
      refine G_iadd C dL_law__2113 ?_
      refine G_xld C hx hc247 dL_law__2114 ?_
      obtain ⟨v249, σ249, hv249, h⟩ := bd2_elim h
      refine G_callI (run_V C [.int (xs ((x4 + (1 : Int32))).toNatClampNeg), .int (xs ((x4 + (2 : Int32))).toNatClampNeg), .int (xs ((x4 + (3 : Int32))).toNatClampNeg), .int (xs ((x4 + (4 : Int32))).toNatClampNeg)] [] (dX12_hidden hv249) ml_X12_hidden mv_X12_hidden lk_L_196 ⟨(Nat.le_of_ble_eq_true rfl), (Nat.le_of_ble_eq_true rfl)⟩ ⟨rmc (by omega), rms (by omega)⟩ vq_11 rfl ko_81 rfl (Nat.le_of_ble_eq_true rfl) dL_law__2115) ?_
      refine G_istore (L' := [(6, .int v249), (5, .int v248), (0, .ref 1), (1, .ref 32), (2, .ref 81), (3, .ref 146), (4, .int x4)]) C (Nat.le_of_ble_eq_true rfl) rfl dL_law__2118 ?_
      refine G_aload_n C 4 rfl rfl dL_law__2120 ?_
      refine G_callI (run_V C [] [] (dX12_thrown rfl) ml_X12_thrown mv_X12_thrown lk_L_116 ⟨(Nat.le_of_ble_eq_true rfl), (Nat.le_of_ble_eq_true rfl)⟩ ⟨rmc (by omega), rms (by omega)⟩ vq_11 rfl ko_81 rfl (Nat.le_of_ble_eq_true rfl) dL_law__2121) ?_
      refine G_iload C 1 rfl dL_law__2124 ?_
      refine G_icmp_eq (tgt := 2131) C rfl dL_law__2126 (fun hc251 => ?_) (fun hc251 => ?_)
      · replace h := (if_pos hc251).symm.trans h
        refine G_iload C 1 rfl dL_law__2131 ?_
        refine G_if_ne (tgt := 2148) C rfl dL_law__2133 (fun hc252 => ?_) (fun hc252 => ?_)
        · replace h := (if_neg hc252).symm.trans h
          refine G_goto (tgt := 2342) C rfl dL_law__2148 ?_
          refine G_iinc (v := 8) (L' := [(4, .int (x4 + (8 : Int32))), (6, .int v249), (5, .int v248), (0, .ref 1), (1, .ref 32), (2, .ref 81), (3, .ref 146)]) C 6 rfl rfl (Nat.le_of_ble_eq_true rfl) rfl dL_law__2342 ?_
          refine G_goto (tgt := 23) C rfl dL_law__2345 ?_
          refine G_widen (k1 := ck + 8) (k2 := sk + 700) (by omega) (by omega) ?_
          refine G_sub [3, 4, 5, 6, 0] rfl ?_
          exact hf23 _ _ h
        · replace h := (if_pos hc252).symm.trans h
          refine G_aload_n C 5 rfl rfl dL_law__2136 ?_
          refine G_iconst C (v := 0) rfl dL_law__2137 ?_
          refine G_laload C ks_146 ⟨by decide, by decide⟩ dL_law__2138 ?_
          refine G_iload C 0 rfl dL_law__2139 ?_
          refine G_i2l C dL_law__2141 ?_
          refine G_lcmp C dL_law__2142 ?_
          refine G_if_eq (tgt := 2148) C rfl dL_law__2143 (fun hc253 => ?_) (fun hc253 => ?_)
          · replace h := (if_pos hc253).symm.trans h
            refine G_goto (tgt := 2342) C rfl dL_law__2148 ?_
            refine G_iinc (v := 8) (L' := [(4, .int (x4 + (8 : Int32))), (6, .int v249), (5, .int v248), (0, .ref 1), (1, .ref 32), (2, .ref 81), (3, .ref 146)]) C 6 rfl rfl (Nat.le_of_ble_eq_true rfl) rfl dL_law__2342 ?_
            refine G_goto (tgt := 23) C rfl dL_law__2345 ?_
            refine G_widen (k1 := ck + 8) (k2 := sk + 700) (by omega) (by omega) ?_
            refine G_sub [3, 4, 5, 6, 0] rfl ?_
            exact hf23 _ _ h
          · replace h := (if_neg hc253).symm.trans h
            refine G_iconst C (v := 0) rfl dL_law__2146 ?_
            exact absurd (Option.some.inj h) (by decide)
      · replace h := (if_neg hc251).symm.trans h
        refine G_iconst C (v := 0) rfl dL_law__2129 ?_
        exact absurd (Option.some.inj h) (by decide)
    replace h := (if_neg hc243).symm.trans h
    by_cases hc254 : ((xs (x4).toNatClampNeg) &&& (31 : Int32)) = (25 : Int32)
    · replace h := (if_pos hc254).symm.trans h
      refine G_tswIn (tgt := 2151) C (25) 25 hc254 (by decide) (by decide) (by decide) rfl rfl dL_law__40 ?_
      refine G_aload_n C 1 rfl rfl dL_law__2151 ?_
      refine G_aload_n C 0 rfl rfl dL_law__2152 ?_
      refine G_iload C 4 rfl dL_law__2153 ?_
      refine G_iconst C (v := 1) rfl dL_law__2155 ?_
      refine G_iadd C dL_law__2156 ?_
      obtain ⟨hc255, h⟩ := ifn h
      refine G_xld C hx hc255 dL_law__2157 ?_
      refine G_aload_n C 0 rfl rfl dL_law__2158 ?_
      refine G_iload C 4 rfl dL_law__2159 ?_
      refine G_iconst C (v := 2) rfl dL_law__2161 ?_
      refine G_iadd C dL_law__2162 ?_
      obtain ⟨hc256, h⟩ := ifn h
      refine G_xld C hx hc256 dL_law__2163 ?_
      refine G_aload_n C 0 rfl rfl dL_law__2164 ?_
      refine G_iload C 4 rfl dL_law__2165 ?_
      refine G_iconst C (v := 3) rfl dL_law__2167 ?_
      refine G_iadd C dL_law__2168 ?_
      obtain ⟨hc257, h⟩ := ifn h
      refine G_xld C hx hc257 dL_law__2169 ?_
      refine G_aload_n C 3 rfl rfl dL_law__2170 ?_
      obtain ⟨v258, σ258, hv258, h⟩ := bd2_elim h
      refine G_callI (run_SH C [.ref 32, .int (xs ((x4 + (1 : Int32))).toNatClampNeg), .int (xs ((x4 + (2 : Int32))).toNatClampNeg), .int (xs ((x4 + (3 : Int32))).toNatClampNeg), .ref 146] [] (dL_attempt hlx hv258) cw_L_attempt in_L mh_L_attempt ms_L_attempt lk_L_197 ⟨(Nat.le_of_ble_eq_true rfl), (Nat.le_of_ble_eq_true rfl)⟩ ⟨rmc (by omega), rms (by omega)⟩ rfl (Nat.le_of_ble_eq_true rfl) dL_law__2171) ?_
      refine G_istore (L' := [(5, .int v258), (0, .ref 1), (1, .ref 32), (2, .ref 81), (3, .ref 146), (4, .int x4)]) C (Nat.le_of_ble_eq_true rfl) rfl dL_law__2174 ?_
      refine G_aload_n C 3 rfl rfl dL_law__2176 ?_
      refine G_aload_n C 1 rfl rfl dL_law__2177 ?_
      refine G_iload C 5 rfl dL_law__2178 ?_
      refine G_iconst C (v := 1) rfl dL_law__2180 ?_
      refine G_iadd C dL_law__2181 ?_
      refine G_xld C hx hc255 dL_law__2182 ?_
      refine G_aload_n C 1 rfl rfl dL_law__2183 ?_
      refine G_iload C 5 rfl dL_law__2184 ?_
      refine G_iconst C (v := 2) rfl dL_law__2186 ?_
      refine G_iadd C dL_law__2187 ?_
      refine G_xld C hx hc256 dL_law__2188 ?_
      refine G_aload_n C 1 rfl rfl dL_law__2189 ?_
      refine G_iload C 5 rfl dL_law__2190 ?_
      refine G_iconst C (v := 3) rfl dL_law__2192 ?_
      refine G_iadd C dL_law__2193 ?_
      refine G_xld C hx hc257 dL_law__2194 ?_
      obtain ⟨v259, σ259, hv259, h⟩ := bd2_elim h
      refine G_callI (run_V C [.int (xs ((x4 + (1 : Int32))).toNatClampNeg), .int (xs ((x4 + (2 : Int32))).toNatClampNeg), .int (xs ((x4 + (3 : Int32))).toNatClampNeg)] [] (dX12_attempt hv259) ml_X12_attempt mv_X12_attempt lk_L_199 ⟨(Nat.le_of_ble_eq_true rfl), (Nat.le_of_ble_eq_true rfl)⟩ ⟨rmc (by omega), rms (by omega)⟩ vq_11 rfl ko_81 rfl (Nat.le_of_ble_eq_true rfl) dL_law__2195) ?_
      refine G_istore (L' := [(6, .int v259), (5, .int v258), (0, .ref 1), (1, .ref 32), (2, .ref 81), (3, .ref 146), (4, .int x4)]) C (Nat.le_of_ble_eq_true rfl) rfl dL_law__2198 ?_
      refine G_aload_n C 4 rfl rfl dL_law__2200 ?_
      refine G_callI (run_V C [] [] (dX12_thrown rfl) ml_X12_thrown mv_X12_thrown lk_L_116 ⟨(Nat.le_of_ble_eq_true rfl), (Nat.le_of_ble_eq_true rfl)⟩ ⟨rmc (by omega), rms (by omega)⟩ vq_11 rfl ko_81 rfl (Nat.le_of_ble_eq_true rfl) dL_law__2201) ?_
      refine G_iload C 1 rfl dL_law__2204 ?_
      refine G_icmp_eq (tgt := 2211) C rfl dL_law__2206 (fun hc261 => ?_) (fun hc261 => ?_)
      · replace h := (if_pos hc261).symm.trans h
        refine G_iload C 1 rfl dL_law__2211 ?_
        refine G_if_ne (tgt := 2228) C rfl dL_law__2213 (fun hc262 => ?_) (fun hc262 => ?_)
        · replace h := (if_neg hc262).symm.trans h
          refine G_goto (tgt := 2342) C rfl dL_law__2228 ?_
          refine G_iinc (v := 8) (L' := [(4, .int (x4 + (8 : Int32))), (6, .int v259), (5, .int v258), (0, .ref 1), (1, .ref 32), (2, .ref 81), (3, .ref 146)]) C 6 rfl rfl (Nat.le_of_ble_eq_true rfl) rfl dL_law__2342 ?_
          refine G_goto (tgt := 23) C rfl dL_law__2345 ?_
          refine G_widen (k1 := ck + 8) (k2 := sk + 700) (by omega) (by omega) ?_
          refine G_sub [3, 4, 5, 6, 0] rfl ?_
          exact hf23 _ _ h
        · replace h := (if_pos hc262).symm.trans h
          refine G_aload_n C 5 rfl rfl dL_law__2216 ?_
          refine G_iconst C (v := 0) rfl dL_law__2217 ?_
          refine G_laload C ks_146 ⟨by decide, by decide⟩ dL_law__2218 ?_
          refine G_iload C 0 rfl dL_law__2219 ?_
          refine G_i2l C dL_law__2221 ?_
          refine G_lcmp C dL_law__2222 ?_
          refine G_if_eq (tgt := 2228) C rfl dL_law__2223 (fun hc263 => ?_) (fun hc263 => ?_)
          · replace h := (if_pos hc263).symm.trans h
            refine G_goto (tgt := 2342) C rfl dL_law__2228 ?_
            refine G_iinc (v := 8) (L' := [(4, .int (x4 + (8 : Int32))), (6, .int v259), (5, .int v258), (0, .ref 1), (1, .ref 32), (2, .ref 81), (3, .ref 146)]) C 6 rfl rfl (Nat.le_of_ble_eq_true rfl) rfl dL_law__2342 ?_
            refine G_goto (tgt := 23) C rfl dL_law__2345 ?_
            refine G_widen (k1 := ck + 8) (k2 := sk + 700) (by omega) (by omega) ?_
            refine G_sub [3, 4, 5, 6, 0] rfl ?_
            exact hf23 _ _ h
          · replace h := (if_neg hc263).symm.trans h
            refine G_iconst C (v := 0) rfl dL_law__2226 ?_
            exact absurd (Option.some.inj h) (by decide)
      · replace h := (if_neg hc261).symm.trans h
        refine G_iconst C (v := 0) rfl dL_law__2209 ?_
        exact absurd (Option.some.inj h) (by decide)
    replace h := (if_neg hc254).symm.trans h
    by_cases hc264 : ((xs (x4).toNatClampNeg) &&& (31 : Int32)) = (26 : Int32)
    · replace h := (if_pos hc264).symm.trans h
      refine G_tswIn (tgt := 2231) C (26) 26 hc264 (by decide) (by decide) (by decide) rfl rfl dL_law__40 ?_
      refine G_aload_n C 1 rfl rfl dL_law__2231 ?_
      refine G_aload_n C 0 rfl rfl dL_law__2232 ?_
      refine G_iload C 4 rfl dL_law__2233 ?_
      refine G_iconst C (v := 1) rfl dL_law__2235 ?_
      refine G_iadd C dL_law__2236 ?_
      obtain ⟨hc265, h⟩ := ifn h
      refine G_xld C hx hc265 dL_law__2237 ?_
      refine G_aload_n C 3 rfl rfl dL_law__2238 ?_
      obtain ⟨v266, σ266, hv266, h⟩ := bd2_elim h
      refine G_callI (run_SH C [.ref 32, .int (xs ((x4 + (1 : Int32))).toNatClampNeg), .ref 146] [] (dL_more hlx hv266) cw_L_more in_L mh_L_more ms_L_more lk_L_200 ⟨(Nat.le_of_ble_eq_true rfl), (Nat.le_of_ble_eq_true rfl)⟩ ⟨rmc (by omega), rms (by omega)⟩ rfl (Nat.le_of_ble_eq_true rfl) dL_law__2239) ?_
      refine G_istore (L' := [(5, .int v266), (0, .ref 1), (1, .ref 32), (2, .ref 81), (3, .ref 146), (4, .int x4)]) C (Nat.le_of_ble_eq_true rfl) rfl dL_law__2242 ?_
      refine G_aload_n C 3 rfl rfl dL_law__2244 ?_
      refine G_aload_n C 1 rfl rfl dL_law__2245 ?_
      refine G_iload C 5 rfl dL_law__2246 ?_
      refine G_iconst C (v := 1) rfl dL_law__2248 ?_
      refine G_iadd C dL_law__2249 ?_
      refine G_xld C hx hc265 dL_law__2250 ?_
      obtain ⟨v267, σ267, hv267, h⟩ := bd2_elim h
      refine G_callL (run_V C [.int (xs ((x4 + (1 : Int32))).toNatClampNeg)] [] (dX12_more hv267) ml_X12_more mv_X12_more lk_L_202 ⟨(Nat.le_of_ble_eq_true rfl), (Nat.le_of_ble_eq_true rfl)⟩ ⟨rmc (by omega), rms (by omega)⟩ vq_11 rfl ko_81 rfl (Nat.le_of_ble_eq_true rfl) dL_law__2251) ?_
      refine G_lstore (L' := [(6, .long v267), (5, .int v266), (0, .ref 1), (1, .ref 32), (2, .ref 81), (3, .ref 146), (4, .int x4)]) C (Nat.le_of_ble_eq_true rfl) rfl dL_law__2254 ?_
      refine G_aload_n C 4 rfl rfl dL_law__2256 ?_
      refine G_callI (run_V C [] [] (dX12_thrown rfl) ml_X12_thrown mv_X12_thrown lk_L_116 ⟨(Nat.le_of_ble_eq_true rfl), (Nat.le_of_ble_eq_true rfl)⟩ ⟨rmc (by omega), rms (by omega)⟩ vq_11 rfl ko_81 rfl (Nat.le_of_ble_eq_true rfl) dL_law__2257) ?_
      refine G_iload C 1 rfl dL_law__2260 ?_
      refine G_icmp_eq (tgt := 2267) C rfl dL_law__2262 (fun hc269 => ?_) (fun hc269 => ?_)
      · replace h := (if_pos hc269).symm.trans h
        refine G_iload C 1 rfl dL_law__2267 ?_
        refine G_if_ne (tgt := 2283) C rfl dL_law__2269 (fun hc270 => ?_) (fun hc270 => ?_)
        · replace h := (if_neg hc270).symm.trans h
          refine G_goto (tgt := 2342) C rfl dL_law__2283 ?_
          refine G_iinc (v := 8) (L' := [(4, .int (x4 + (8 : Int32))), (6, .long v267), (5, .int v266), (0, .ref 1), (1, .ref 32), (2, .ref 81), (3, .ref 146)]) C 6 rfl rfl (Nat.le_of_ble_eq_true rfl) rfl dL_law__2342 ?_
          refine G_goto (tgt := 23) C rfl dL_law__2345 ?_
          refine G_widen (k1 := ck + 8) (k2 := sk + 700) (by omega) (by omega) ?_
          refine G_sub [3, 4, 5, 6, 0] rfl ?_
          exact hf23 _ _ h
        · replace h := (if_pos hc270).symm.trans h
          refine G_aload_n C 5 rfl rfl dL_law__2272 ?_
          refine G_iconst C (v := 0) rfl dL_law__2273 ?_
          refine G_laload C ks_146 ⟨by decide, by decide⟩ dL_law__2274 ?_
          refine G_lload C 0 rfl dL_law__2275 ?_
          refine G_lcmp C dL_law__2277 ?_
          refine G_if_eq (tgt := 2283) C rfl dL_law__2278 (fun hc271 => ?_) (fun hc271 => ?_)
          · replace h := (if_pos hc271).symm.trans h
            refine G_goto (tgt := 2342) C rfl dL_law__2283 ?_
            refine G_iinc (v := 8) (L' := [(4, .int (x4 + (8 : Int32))), (6, .long v267), (5, .int v266), (0, .ref 1), (1, .ref 32), (2, .ref 81), (3, .ref 146)]) C 6 rfl rfl (Nat.le_of_ble_eq_true rfl) rfl dL_law__2342 ?_
            refine G_goto (tgt := 23) C rfl dL_law__2345 ?_
            refine G_widen (k1 := ck + 8) (k2 := sk + 700) (by omega) (by omega) ?_
            refine G_sub [3, 4, 5, 6, 0] rfl ?_
            exact hf23 _ _ h
          · replace h := (if_neg hc271).symm.trans h
            refine G_iconst C (v := 0) rfl dL_law__2281 ?_
            exact absurd (Option.some.inj h) (by decide)
      · replace h := (if_neg hc269).symm.trans h
        refine G_iconst C (v := 0) rfl dL_law__2265 ?_
        exact absurd (Option.some.inj h) (by decide)
    replace h := (if_neg hc264).symm.trans h
    by_cases hc272 : ((xs (x4).toNatClampNeg) &&& (31 : Int32)) = (27 : Int32)
    · replace h := (if_pos hc272).symm.trans h
      refine G_tswIn (tgt := 2286) C (27) 27 hc272 (by decide) (by decide) (by decide) rfl rfl dL_law__40 ?_
      refine G_aload_n C 1 rfl rfl dL_law__2286 ?_
      refine G_aload_n C 0 rfl rfl dL_law__2287 ?_
      refine G_iload C 4 rfl dL_law__2288 ?_
      refine G_iconst C (v := 1) rfl dL_law__2290 ?_
      refine G_iadd C dL_law__2291 ?_
      obtain ⟨hc273, h⟩ := ifn h
      refine G_xld C hx hc273 dL_law__2292 ?_
      refine G_aload_n C 3 rfl rfl dL_law__2293 ?_
      obtain ⟨v274, σ274, hv274, h⟩ := bd2_elim h
      refine G_callI (run_SH C [.ref 32, .int (xs ((x4 + (1 : Int32))).toNatClampNeg), .ref 146] [] (dL_count hlx hv274) cw_L_count in_L mh_L_count ms_L_count lk_L_203 ⟨(Nat.le_of_ble_eq_true rfl), (Nat.le_of_ble_eq_true rfl)⟩ ⟨rmc (by omega), rms (by omega)⟩ rfl (Nat.le_of_ble_eq_true rfl) dL_law__2294) ?_
      refine G_istore (L' := [(5, .int v274), (0, .ref 1), (1, .ref 32), (2, .ref 81), (3, .ref 146), (4, .int x4)]) C (Nat.le_of_ble_eq_true rfl) rfl dL_law__2297 ?_
      refine G_aload_n C 3 rfl rfl dL_law__2299 ?_
      refine G_aload_n C 1 rfl rfl dL_law__2300 ?_
      refine G_iload C 5 rfl dL_law__2301 ?_
      refine G_iconst C (v := 1) rfl dL_law__2303 ?_
      refine G_iadd C dL_law__2304 ?_
      refine G_xld C hx hc273 dL_law__2305 ?_
      obtain ⟨v275, σ275, hv275, h⟩ := bd2_elim h
      refine G_callI (run_V C [.int (xs ((x4 + (1 : Int32))).toNatClampNeg)] [] (dX12_count hv275) ml_X12_count mv_X12_count lk_L_205 ⟨(Nat.le_of_ble_eq_true rfl), (Nat.le_of_ble_eq_true rfl)⟩ ⟨rmc (by omega), rms (by omega)⟩ vq_11 rfl ko_81 rfl (Nat.le_of_ble_eq_true rfl) dL_law__2306) ?_
      refine G_istore (L' := [(6, .int v275), (5, .int v274), (0, .ref 1), (1, .ref 32), (2, .ref 81), (3, .ref 146), (4, .int x4)]) C (Nat.le_of_ble_eq_true rfl) rfl dL_law__2309 ?_
      refine G_aload_n C 4 rfl rfl dL_law__2311 ?_
      refine G_callI (run_V C [] [] (dX12_thrown rfl) ml_X12_thrown mv_X12_thrown lk_L_116 ⟨(Nat.le_of_ble_eq_true rfl), (Nat.le_of_ble_eq_true rfl)⟩ ⟨rmc (by omega), rms (by omega)⟩ vq_11 rfl ko_81 rfl (Nat.le_of_ble_eq_true rfl) dL_law__2312) ?_
      refine G_iload C 1 rfl dL_law__2315 ?_
      refine G_icmp_eq (tgt := 2322) C rfl dL_law__2317 (fun hc277 => ?_) (fun hc277 => ?_)
      · replace h := (if_pos hc277).symm.trans h
        refine G_iload C 1 rfl dL_law__2322 ?_
        refine G_if_ne (tgt := 2339) C rfl dL_law__2324 (fun hc278 => ?_) (fun hc278 => ?_)
        · replace h := (if_neg hc278).symm.trans h
          refine G_goto (tgt := 2342) C rfl dL_law__2339 ?_
          refine G_iinc (v := 8) (L' := [(4, .int (x4 + (8 : Int32))), (6, .int v275), (5, .int v274), (0, .ref 1), (1, .ref 32), (2, .ref 81), (3, .ref 146)]) C 6 rfl rfl (Nat.le_of_ble_eq_true rfl) rfl dL_law__2342 ?_
          refine G_goto (tgt := 23) C rfl dL_law__2345 ?_
          refine G_widen (k1 := ck + 8) (k2 := sk + 700) (by omega) (by omega) ?_
          refine G_sub [3, 4, 5, 6, 0] rfl ?_
          exact hf23 _ _ h
        · replace h := (if_pos hc278).symm.trans h
          refine G_aload_n C 5 rfl rfl dL_law__2327 ?_
          refine G_iconst C (v := 0) rfl dL_law__2328 ?_
          refine G_laload C ks_146 ⟨by decide, by decide⟩ dL_law__2329 ?_
          refine G_iload C 0 rfl dL_law__2330 ?_
          refine G_i2l C dL_law__2332 ?_
          refine G_lcmp C dL_law__2333 ?_
          refine G_if_eq (tgt := 2339) C rfl dL_law__2334 (fun hc279 => ?_) (fun hc279 => ?_)
          · replace h := (if_pos hc279).symm.trans h
            refine G_goto (tgt := 2342) C rfl dL_law__2339 ?_
            refine G_iinc (v := 8) (L' := [(4, .int (x4 + (8 : Int32))), (6, .int v275), (5, .int v274), (0, .ref 1), (1, .ref 32), (2, .ref 81), (3, .ref 146)]) C 6 rfl rfl (Nat.le_of_ble_eq_true rfl) rfl dL_law__2342 ?_
            refine G_goto (tgt := 23) C rfl dL_law__2345 ?_
            refine G_widen (k1 := ck + 8) (k2 := sk + 700) (by omega) (by omega) ?_
            refine G_sub [3, 4, 5, 6, 0] rfl ?_
            exact hf23 _ _ h
          · replace h := (if_neg hc279).symm.trans h
            refine G_iconst C (v := 0) rfl dL_law__2337 ?_
            exact absurd (Option.some.inj h) (by decide)
      · replace h := (if_neg hc277).symm.trans h
        refine G_iconst C (v := 0) rfl dL_law__2320 ?_
        exact absurd (Option.some.inj h) (by decide)
    replace h := (if_neg hc272).symm.trans h
    have ht280 : ∀ j : Nat, j < 28 → ((xs (x4).toNatClampNeg) &&& (31 : Int32)) ≠ Int32.ofInt (0 + (j : Int)) := by
      intro j hj
      rcases (show j = 0 ∨ j = 1 ∨ j = 2 ∨ j = 3 ∨ j = 4 ∨ j = 5 ∨ j = 6 ∨ j = 7 ∨ j = 8 ∨ j = 9 ∨ j = 10 ∨ j = 11 ∨ j = 12 ∨ j = 13 ∨ j = 14 ∨ j = 15 ∨ j = 16 ∨ j = 17 ∨ j = 18 ∨ j = 19 ∨ j = 20 ∨ j = 21 ∨ j = 22 ∨ j = 23 ∨ j = 24 ∨ j = 25 ∨ j = 26 ∨ j = 27 by omega) with rfl | rfl | rfl | rfl | rfl | rfl | rfl | rfl | rfl | rfl | rfl | rfl | rfl | rfl | rfl | rfl | rfl | rfl | rfl | rfl | rfl | rfl | rfl | rfl | rfl | rfl | rfl | rfl
      · exact hc3
      · exact hc7
      · exact hc18
      · exact hc27
      · exact hc40
      · exact hc50
      · exact hc59
      · exact hc67
      · exact hc77
      · exact hc88
      · exact hc102
      · exact hc114
      · exact hc128
      · exact hc138
      · exact hc147
      · exact hc157
      · exact hc161
      · exact hc171
      · exact hc182
      · exact hc192
      · exact hc203
      · exact hc213
      · exact hc222
      · exact hc233
      · exact hc243
      · exact hc254
      · exact hc264
      · exact hc272
    refine G_tswOut (tgt := 2342) C 28 ht280 (by decide) (by decide) rfl dL_law__40 ?_
    refine G_iinc (v := 8) (L' := [(4, .int (x4 + (8 : Int32))), (0, .ref 1), (1, .ref 32), (2, .ref 81), (3, .ref 146)]) C 4 rfl rfl (Nat.le_of_ble_eq_true rfl) rfl dL_law__2342 ?_
    refine G_goto (tgt := 23) C rfl dL_law__2345 ?_
    refine G_widen (k1 := ck + 8) (k2 := sk + 700) (by omega) (by omega) ?_
    refine G_sub [1, 2, 3, 4, 0] rfl ?_
    exact hf23 _ _ h
set_option maxRecDepth 100000 in
set_option maxHeartbeats 4000000 in
theorem eL_law_23 {b xL : Nat} {xs : Nat → Int32} (hx : E.2.2.2.1 = (b, xL, xs)) (hE : E.2.2.1 = s.heap.size) (hlx : l.stackTraces = false) (C : Cx E p s m #[Value.ref b] meth c cL_law_ 8 RL) (hr : meth.sig.returnType = (some .boolean)) : ∀ (n : Nat) (x4 : Int32) (σ : Sto) (ck sk : Nat), ck + 8 * n ≤ 100000 → sk + 700 * n ≤ 1000000 → mL_law_23 xs xL n x4 σ = some 1 → G p l e room_1 s m #[Value.ref b] below meth c E true 0 ad0 (lw_Z below #[Value.ref b] s) 8 ck sk σ 23 [(0, .ref 1), (1, .ref 32), (2, .ref 81), (3, .ref 146), (4, .int x4)] []
  | 0, _, _, _, _, _, _, h => nomatch (show (none : Option Int32) = some 1 from h)
  | n + 1, x4, σ, ck, sk, h1, h2, h => eL_law_23B hx hE (by omega) (by omega) hlx C hr (fun z0 σ9 h9 => eL_law_23 hx hE hlx C hr n z0 σ9 (ck + 8) (sk + 700) (by omega) (by omega) h9) h
end
