/-! the texts of the reader: the JDK's text methods -/
theorem ml_J0_length_8abf5 : MLc yJ0_length_8abf5 cJ0_length_8abf5 1 (some .int) 0 := ⟨bw (t_4 _ (List.mem_of_getElem? (i := 138) rfl)) rfl, (bw (t_1 _ (List.mem_of_getElem? (i := 20) rfl)) rfl), by decide +kernel, by decide +kernel, by decide +kernel⟩
theorem mv_J0_length_8abf5 : MLv yJ0_length_8abf5 := ⟨(bw (t_4 _ (List.mem_of_getElem? (i := 136) rfl)) rfl), (bw (t_4 _ (List.mem_of_getElem? (i := 137) rfl)) rfl)⟩
theorem ml_J0_charAt_5068e : MLc yJ0_charAt_5068e cJ0_charAt_5068e 2 (some .char) 1 := ⟨bw (t_4 _ (List.mem_of_getElem? (i := 218) rfl)) rfl, (bw (t_1 _ (List.mem_of_getElem? (i := 20) rfl)) rfl), by decide +kernel, by decide +kernel, by decide +kernel⟩
theorem mv_J0_charAt_5068e : MLv yJ0_charAt_5068e := ⟨(bw (t_4 _ (List.mem_of_getElem? (i := 216) rfl)) rfl), (bw (t_4 _ (List.mem_of_getElem? (i := 217) rfl)) rfl)⟩
theorem ml_J0_indexOf_0f7a4 : MLc yJ0_indexOf_0f7a4 cJ0_indexOf_0f7a4 2 (some .int) 1 := ⟨bw (t_4 _ (List.mem_of_getElem? (i := 124) rfl)) rfl, (bw (t_1 _ (List.mem_of_getElem? (i := 20) rfl)) rfl), by decide +kernel, by decide +kernel, by decide +kernel⟩
theorem mv_J0_indexOf_0f7a4 : MLv yJ0_indexOf_0f7a4 := ⟨(bw (t_4 _ (List.mem_of_getElem? (i := 122) rfl)) rfl), (bw (t_4 _ (List.mem_of_getElem? (i := 123) rfl)) rfl)⟩
theorem ml_J0_indexOf_7cf53 : MLc yJ0_indexOf_7cf53 cJ0_indexOf_7cf53 3 (some .int) 2 := ⟨bw (t_4 _ (List.mem_of_getElem? (i := 128) rfl)) rfl, (bw (t_1 _ (List.mem_of_getElem? (i := 20) rfl)) rfl), by decide +kernel, by decide +kernel, by decide +kernel⟩
theorem mv_J0_indexOf_7cf53 : MLv yJ0_indexOf_7cf53 := ⟨(bw (t_4 _ (List.mem_of_getElem? (i := 126) rfl)) rfl), (bw (t_4 _ (List.mem_of_getElem? (i := 127) rfl)) rfl)⟩
theorem ml_J0_coder_7d493 : MLc yJ0_coder_7d493 cJ0_coder_7d493 1 (some .byte) 0 := ⟨bw (t_4 _ (List.mem_of_getElem? (i := 142) rfl)) rfl, (bw (t_1 _ (List.mem_of_getElem? (i := 20) rfl)) rfl), by decide +kernel, by decide +kernel, by decide +kernel⟩
theorem mv_J0_coder_7d493 : MLv yJ0_coder_7d493 := ⟨(bw (t_4 _ (List.mem_of_getElem? (i := 140) rfl)) rfl), (bw (t_4 _ (List.mem_of_getElem? (i := 141) rfl)) rfl)⟩
theorem ml_J0_isLatin1_aae02 : MLc yJ0_isLatin1_aae02 cJ0_isLatin1_aae02 1 (some .boolean) 0 := ⟨bw (t_4 _ (List.mem_of_getElem? (i := 132) rfl)) rfl, (bw (t_1 _ (List.mem_of_getElem? (i := 20) rfl)) rfl), by decide +kernel, by decide +kernel, by decide +kernel⟩
theorem mv_J0_isLatin1_aae02 : MLv yJ0_isLatin1_aae02 := ⟨(bw (t_4 _ (List.mem_of_getElem? (i := 130) rfl)) rfl), (bw (t_4 _ (List.mem_of_getElem? (i := 131) rfl)) rfl)⟩
theorem ml_J0_checkIndex_df160 : MLc yJ0_checkIndex_df160 cJ0_checkIndex_df160 2 none 2 := ⟨bw (t_4 _ (List.mem_of_getElem? (i := 224) rfl)) rfl, (bw (t_1 _ (List.mem_of_getElem? (i := 20) rfl)) rfl), by decide +kernel, by decide +kernel, by decide +kernel⟩
theorem ms_J0_checkIndex_df160 : Cond.static yJ0_checkIndex_df160 ∈ BW := (bw (t_4 _ (List.mem_of_getElem? (i := 223) rfl)) rfl)
theorem ml_J1_charAt_3b067 : MLc yJ1_charAt_3b067 cJ1_charAt_3b067 2 (some .char) 2 := ⟨bw (t_4 _ (List.mem_of_getElem? (i := 221) rfl)) rfl, (bw (t_1 _ (List.mem_of_getElem? (i := 21) rfl)) rfl), by decide +kernel, by decide +kernel, by decide +kernel⟩
theorem ms_J1_charAt_3b067 : Cond.static yJ1_charAt_3b067 ∈ BW := (bw (t_4 _ (List.mem_of_getElem? (i := 220) rfl)) rfl)
theorem ml_J1_canEncode_9a6ad : MLc yJ1_canEncode_9a6ad cJ1_canEncode_9a6ad 1 (some .boolean) 1 := ⟨bw (t_4 _ (List.mem_of_getElem? (i := 148) rfl)) rfl, (bw (t_1 _ (List.mem_of_getElem? (i := 21) rfl)) rfl), by decide +kernel, by decide +kernel, by decide +kernel⟩
theorem ms_J1_canEncode_9a6ad : Cond.static yJ1_canEncode_9a6ad ∈ BW := (bw (t_4 _ (List.mem_of_getElem? (i := 147) rfl)) rfl)
theorem ml_J1_indexOf_4cfef : MLc yJ1_indexOf_4cfef cJ1_indexOf_4cfef 4 (some .int) 4 := ⟨bw (t_4 _ (List.mem_of_getElem? (i := 145) rfl)) rfl, (bw (t_1 _ (List.mem_of_getElem? (i := 21) rfl)) rfl), by decide +kernel, by decide +kernel, by decide +kernel⟩
theorem ms_J1_indexOf_4cfef : Cond.static yJ1_indexOf_4cfef ∈ BW := (bw (t_4 _ (List.mem_of_getElem? (i := 144) rfl)) rfl)
theorem ml_J1_indexOfChar_4cfef : MLc yJ1_indexOfChar_4cfef cJ1_indexOfChar_4cfef 6 (some .int) 4 := ⟨bw (t_4 _ (List.mem_of_getElem? (i := 155) rfl)) rfl, (bw (t_1 _ (List.mem_of_getElem? (i := 21) rfl)) rfl), by decide +kernel, by decide +kernel, by decide +kernel⟩
theorem ms_J1_indexOfChar_4cfef : Cond.static yJ1_indexOfChar_4cfef ∈ BW := (bw (t_4 _ (List.mem_of_getElem? (i := 154) rfl)) rfl)
theorem ml_J3_checkIndex_8e157 : MLc yJ3_checkIndex_8e157 cJ3_checkIndex_8e157 3 (some .int) 3 := ⟨bw (t_4 _ (List.mem_of_getElem? (i := 227) rfl)) rfl, (bw (t_1 _ (List.mem_of_getElem? (i := 23) rfl)) rfl), by decide +kernel, by decide +kernel, by decide +kernel⟩
theorem ms_J3_checkIndex_8e157 : Cond.static yJ3_checkIndex_8e157 ∈ BW := (bw (t_4 _ (List.mem_of_getElem? (i := 226) rfl)) rfl)
theorem lk_J0_335 : Cond.methodLink RJ0 335 yJ0_coder_7d493 ∈ BW := (bw (t_4 _ (List.mem_of_getElem? (i := 139) rfl)) rfl)
theorem lk_J0_492 : Cond.methodLink RJ0 492 yJ0_isLatin1_aae02 ∈ BW := (bw (t_4 _ (List.mem_of_getElem? (i := 129) rfl)) rfl)
theorem lk_J0_505 : Cond.methodLink RJ0 505 yJ0_length_8abf5 ∈ BW := (bw (t_4 _ (List.mem_of_getElem? (i := 135) rfl)) rfl)
theorem lk_J0_633 : Cond.methodLink RJ0 633 yJ0_indexOf_7cf53 ∈ BW := (bw (t_4 _ (List.mem_of_getElem? (i := 125) rfl)) rfl)
theorem lk_J0_637 : Cond.methodLink RJ0 637 yJ1_indexOf_4cfef ∈ BW := (bw (t_4 _ (List.mem_of_getElem? (i := 143) rfl)) rfl)
theorem lk_J0_495 : Cond.methodLink RJ0 495 yJ1_charAt_3b067 ∈ BW := (bw (t_4 _ (List.mem_of_getElem? (i := 219) rfl)) rfl)
theorem lk_J1_88 : Cond.methodLink RJ1 88 yJ1_canEncode_9a6ad ∈ BW := (bw (t_4 _ (List.mem_of_getElem? (i := 146) rfl)) rfl)
theorem lk_J1_95 : Cond.methodLink RJ1 95 yJ1_indexOfChar_4cfef ∈ BW := (bw (t_4 _ (List.mem_of_getElem? (i := 153) rfl)) rfl)
theorem lk_J1_9 : Cond.methodLink RJ1 9 yJ0_checkIndex_df160 ∈ BW := (bw (t_4 _ (List.mem_of_getElem? (i := 222) rfl)) rfl)
theorem lk_J0_1059 : Cond.methodLink RJ0 1059 yJ3_checkIndex_8e157 ∈ BW := (bw (t_4 _ (List.mem_of_getElem? (i := 225) rfl)) rfl)
theorem lk_J1_92 : Cond.methodLink RJ1 92 Lib.Math.max.name ∈ BW := (bw (t_4 _ (List.mem_of_getElem? (i := 149) rfl)) rfl)
theorem lk_J1_38 : Cond.methodLink RJ1 38 Lib.Math.min.name ∈ BW := (bw (t_4 _ (List.mem_of_getElem? (i := 152) rfl)) rfl)
theorem lk_X7_68 : Cond.methodLink RX7 68 yJ0_indexOf_0f7a4 ∈ BW := (bw (t_4 _ (List.mem_of_getElem? (i := 121) rfl)) rfl)
theorem lk_X7_74 : Cond.methodLink RX7 74 yJ0_length_8abf5 ∈ BW := (bw (t_4 _ (List.mem_of_getElem? (i := 214) rfl)) rfl)
theorem lk_X7_77 : Cond.methodLink RX7 77 yJ0_charAt_5068e ∈ BW := (bw (t_4 _ (List.mem_of_getElem? (i := 215) rfl)) rfl)
theorem fj_15 : Cond.fieldLink RJ0 15 "java/lang/String" "coder" "B" ∈ BW := (bw (t_9 _ (List.mem_of_getElem? (i := 64) rfl)) rfl)
theorem fj_9 : Cond.fieldLink RJ0 9 "java/lang/String" "value" "[B" ∈ BW := (bw (t_9 _ (List.mem_of_getElem? (i := 65) rfl)) rfl)
theorem fj_38 : Cond.fieldLink RJ0 38 "java/lang/String" "COMPACT_STRINGS" "Z" ∈ BW := (bw (t_4 _ (List.mem_of_getElem? (i := 133) rfl)) rfl)
theorem fj_1053 : Cond.fieldLink RJ0 1053 "jdk/internal/util/Preconditions" "SIOOBE_FORMATTER" "Ljava/util/function/BiFunction;" ∈ BW := (bw (t_4 _ (List.mem_of_getElem? (i := 174) rfl)) rfl)
section GT
variable {p : Program} {l : Launch} {e : Env} {R : Room} {s : State} {m : MethodId} {args : Array Value} {below : List Frame} {meth : Method} {c : Code} {Q : State → Prop} {E : Ev} {st : Bool} {n0 : Nat} {ad0 : Nat → Nat} {nL cells slots : Nat} {σ : Sto} {pc : Nat} {L : List (Nat × Value)} {S : List Value} {cc : ByteArray} {own : String}
theorem Wh.rs {ad : Nat → Nat} {H : Heap} (hw : Wh E st ad σ H) {k : Nat} (hk : k < 32) : k < sZ σ := Nat.lt_of_lt_of_le hk hw.2.2.1
theorem tr_txK {ad : Nat → Nat} {H : Heap} (hw : Wh E st ad σ H) {k : Nat} (hk : k < 6) : tr ad (.ref (2 + k)) = .ref (E.2.2.2.2.1 k) := (rv_ne (a := 2 + k) (by omega)).trans (by rw [(hw.2.2.2.2.2.1.2 k hk).1])
theorem tr_txV {ad : Nat → Nat} {H : Heap} (hw : Wh E st ad σ H) {k : Nat} (hk : k < 6) : tr ad (.ref (8 + k)) = .ref (E.2.2.2.2.2 k) := (rv_ne (a := 8 + k) (by omega)).trans (by rw [(hw.2.2.2.2.2.1.2 k hk).2])

theorem G_ldcS (C : Cx E p s m args meth c cc nL own) {ix k : Nat} {tx : String} (ho : own = "SalePart$Reader") (hk : k < 6) (hm : (ix, tx, k) ∈ rtx) (hd : decode cc pc = .ok (.ldc ix, 2)) (kk : G p l e R s m args below meth c E st n0 ad0 Q nL cells slots σ (pc + 2) L (.ref (2 + k) :: S)) : G p l e R s m args below meth c E st n0 ad0 Q nL cells slots σ pc L S := by
  intro ad H locs ls hw hs ha hl vl vs
  have h := kk ad H locs ls hw hs ha hl vl ⟨hw.rs (by omega), vs⟩
  rw [List.map_cons, tr_txK hw hk] at h
  subst ho
  exact va_ldcS C.1 C.2.1 C.2.2.2.1 (C.2.2.2.2.2.2.2.2.2.2.2.2.1 _ hm) hd h
theorem G_sval (C : Cx E p s m args meth c cc nL "java/lang/String") {k : Nat} (hk : k < 6) (hd : decode cc pc = .ok (.getfield 9, 3)) (kk : G p l e R s m args below meth c E st n0 ad0 Q nL cells slots σ (pc + 3) L (.ref (8 + k) :: S)) : G p l e R s m args below meth c E st n0 ad0 Q nL cells slots σ pc L (.ref (2 + k) :: S) := by
  intro ad H locs ls hw hs ha hl vl vs
  have h := kk ad H locs ls hw hs ha hl vl ⟨hw.rs (by omega), vs.2⟩
  rw [List.map_cons, tr_txV hw hk] at h
  rw [List.map_cons, tr_txK hw hk]
  exact vk_getf C.1 C.2.1 (C.2.2.2.2.2.2.2.2.2.2.2.1.1 k hk).2.2.1 hs C.2.2.2.1 (C.2.2.2.2.1 _ fj_9) (fun x hx => hx) hd h
theorem G_scod (C : Cx E p s m args meth c cc nL "java/lang/String") {k : Nat} (hk : k < 6) (hd : decode cc pc = .ok (.getfield 15, 3)) (kk : G p l e R s m args below meth c E st n0 ad0 Q nL cells slots σ (pc + 3) L (.int 0 :: S)) : G p l e R s m args below meth c E st n0 ad0 Q nL cells slots σ pc L (.ref (2 + k) :: S) := by
  intro ad H locs ls hw hs ha hl vl vs
  have h := kk ad H locs ls hw hs ha hl vl vs.2
  rw [List.map_cons, tr_txK hw hk]
  exact vk_getf C.1 C.2.1 (C.2.2.2.2.2.2.2.2.2.2.2.1.1 k hk).2.1 hs C.2.2.2.1 (C.2.2.2.2.1 _ fj_15) (fun x hx => hx) hd h
theorem G_tlen (C : Cx E p s m args meth c cc nL own) {k : Nat} (hk : k < 6) (hd : decode cc pc = .ok (.arraylength, 1)) (kk : G p l e R s m args below meth c E st n0 ad0 Q nL cells slots σ (pc + 1) L (.int (Int32.ofNat (txLen.getD k 0)) :: S)) : G p l e R s m args below meth c E st n0 ad0 Q nL cells slots σ pc L (.ref (8 + k) :: S) := by
  intro ad H locs ls hw hs ha hl vl vs
  have h := kk ad H locs ls hw hs ha hl vl vs.2
  rw [List.map_cons, tr_txV hw hk]
  exact va_tlen C.1 C.2.1 (C.2.2.2.2.2.2.2.2.2.2.2.1.1 k hk).2.2.2 hs rfl hd h
theorem G_tbal (C : Cx E p s m args meth c cc nL own) {k : Nat} {i : Int32} (hk : k < 6) (hi : inb i (txLen.getD k 0)) (hd : decode cc pc = .ok (.baload, 1)) (kk : G p l e R s m args below meth c E st n0 ad0 Q nL cells slots σ (pc + 1) L (.int ((txByt.getD k []).getD i.toNatClampNeg 0) :: S)) : G p l e R s m args below meth c E st n0 ad0 Q nL cells slots σ pc L (.int i :: .ref (8 + k) :: S) := by
  intro ad H locs ls hw hs ha hl vl vs
  have h := kk ad H locs ls hw hs ha hl vl vs.2
  rw [List.map_cons, List.map_cons, tr_txV hw hk]
  exact va_tb C.1 C.2.1 (C.2.2.2.2.2.2.2.2.2.2.2.1.1 k hk).2.2.2 hs (inb_in hi) rfl hd h
theorem G_gets (C : Cx E p s m args meth c cc nL "java/lang/String") (hd : decode cc pc = .ok (.getstatic 38, 3)) (kk : G p l e R s m args below meth c E st n0 ad0 Q nL cells slots σ (pc + 3) L (.int 1 :: S)) : G p l e R s m args below meth c E st n0 ad0 Q nL cells slots σ pc L S :=
  fun ad H locs ls hw hs ha hl vl vs => va_gets C.1 C.2.1 C.2.2.2.2.2.2.2.1.2.2.2.2.1 hs C.2.2.2.1 (C.2.2.2.2.1 _ fj_38) (fun x hx => hx) hd (kk ad H locs ls hw hs ha hl vl vs)
theorem G_i2b (C : Cx E p s m args meth c cc nL own) {x : Int32} (hd : decode cc pc = .ok (.i2b, 1)) (kk : G p l e R s m args below meth c E st n0 ad0 Q nL cells slots σ (pc + 1) L (.int x.toInt8.toInt32 :: S)) : G p l e R s m args below meth c E st n0 ad0 Q nL cells slots σ pc L (.int x :: S) :=
  fun ad H locs ls hw hs ha hl vl vs => lv_i2b C.1 C.2.1 hd rfl (kk ad H locs ls hw hs ha hl vl vs)
theorem G_nret (C : Cx E p s m args meth c cc nL own) {σ0 : Sto} {mc ms : Nat} {v : Int32} {ty : FieldType} (hb : narrow ty (.int v) = .int v) (hr : meth.sig.returnType = some ty) (h1 : cells ≤ mc) (h2 : slots ≤ ms) (hd : decode cc pc = .ok (.ireturn, 1)) : G p l e R s m args below meth c E st (sZ σ0) ad0 (MQ below (QI E st σ0 v σ ad0) args s mc ms (AE E)) nL cells slots σ pc L [.int v] := by
  intro ad H locs ls hw hs ha hl vl vs
  refine W.widen h1 h2 ?_
  exact W.zret (v := v) (ty := ty) C.1 C.2.1 hr hb (fun t ht hW => ⟨⟨v, ad, rfl, ⟨rfl, ha.2, ha.1⟩, (show Wh E st ad σ t.heap by rw [ht]; exact hw)⟩, hs.F ht⟩) hs.2.2 hd (hlocks := C.2.2.2.2.2.1)
theorem run_T (C : Cx E p s m args meth c cc nL own) {y : MethodName} {bytes : ByteArray} {maxL ix d mc ms k : Nat} {ret : Option FieldType} {Qc : (Nat → Nat) → Array Value → State → Outcome → State → Prop} (As rest : List Value) {S0 : List Value} (hM : MM l y bytes maxL ret d mc ms E st σ (.ref (2 + k) :: As) Qc)
    (hML : MLc y bytes maxL ret As.length) (hMV : MLv y) (hl : Cond.methodLink own ix y ∈ BW) (hR : d + 1 ≤ R.frames ∧ 8 + (maxL + 11) + 100 * d ≤ R.locals) (hf : cells + mc ≤ R.cells ∧ slots + ms ≤ R.slots) (hk : k < 6) (hy : "java/lang/String" = y.cls) (hS : S0 = As.reverse ++ .ref (2 + k) :: rest) (hsum : (rest.map fun v => v.category).sum ≤ 8) (hd : decode cc pc = .ok (.invokevirtual ix, 3)) :
    RunOK p l e R s m args below meth c E st nL cells slots σ pc L S0 rest mc ms (fun ad => Qc ad (Value.ref (ad (2 + k)) :: As.map (tr ad)).toArray) := by
  refine ⟨⟨As.reverse ++ [.ref (2 + k)], by rw [hS]; simp⟩, fun ad H locs ls hw hs hl2 vs => ?_⟩
  have hb0 : 2 + k ≠ 0 := by omega
  obtain ⟨cellB, b1, b2, b3⟩ := vk_recv C.2.2.2.2.2.2.2.2.2.2.2.1 hk hs
  rw [← (hw.2.2.2.2.2.1.2 k hk).1] at b1
  rw [hy] at b3
  subst hS
  have vs1 := vokS_app.mp vs
  have vA : vokS (sZ σ) (.ref (2 + k) :: As) := ⟨vs1.2.1, vokS_rev.mp vs1.1⟩
  have e0 : (Value.ref (2 + k) :: As).map (tr ad) = .ref (ad (2 + k)) :: As.map (tr ad) := by rw [List.map_cons, show tr ad (.ref (2 + k)) = .ref (ad (2 + k)) from rv_ne hb0]
  have hp : PreV s H y.cls (ad (2 + k)) (PcA E st σ (.ref (2 + k) :: As) ad) (As.map (tr ad)) := ⟨PcA_blind, ⟨cellB, b1, b2, b3⟩, fun U hU hW => by rw [← e0]; exact pre_here C hw hs vA U hU hW⟩
  rw [map_app_rev hb0]
  exact va_runV (As := As.map (tr ad)) (rest := rest.map (tr ad)) ⟨C.1, C.2.1, C.2.2.1, C.2.2.2.1, C.2.2.2.2.1⟩ (hM ad) ⟨callB_here C hML hl hR, C.2.2.2.2.1 _ hMV.1, C.2.2.2.2.1 _ hMV.2⟩ hp rfl (List.length_map _) hl2.1 rfl (lv_room (by rw [cat_trS]; exact hsum)) hd hf
end GT
section
variable {p : Program} {l : Launch} {e : Env} {s : State} {m : MethodId} {args : Array Value} {below : List Frame} {meth : Method} {c : Code} {E : Ev} {ad0 : Nat → Nat} {st : Bool}
theorem dS_coder {σ : Sto} {k : Nat} (hk : k < 6) : MM l yJ0_coder_7d493 cJ0_coder_7d493 1 (some .byte) 1 0 0 E st σ [.ref (2 + k)] (QI E st σ 0 σ) := by
  refine MM_of (by decide) (Nat.le_of_ble_eq_true rfl) rfl (fun p e s m args below meth c ad0 C hr hn => ?_)
  refine G_gets C dJ0_coder_7d493_0 ?_
  refine G_if_eq (tgt := 13) C rfl dJ0_coder_7d493_3 (fun h => absurd h (by decide)) (fun _ => ?_)
  refine G_aload_n C 0 rfl rfl dJ0_coder_7d493_6 ?_
  refine G_scod C hk dJ0_coder_7d493_7 ?_
  refine G_goto (tgt := 14) C rfl dJ0_coder_7d493_10 ?_
  exact G_nret C rfl hr (Nat.le_of_ble_eq_true rfl) (Nat.le_of_ble_eq_true rfl) dJ0_coder_7d493_14
theorem dS_isLatin1 {σ : Sto} {k : Nat} (hk : k < 6) : MM l yJ0_isLatin1_aae02 cJ0_isLatin1_aae02 1 (some .boolean) 1 0 0 E st σ [.ref (2 + k)] (QI E st σ 1 σ) := by
  refine MM_of (by decide) (Nat.le_of_ble_eq_true rfl) rfl (fun p e s m args below meth c ad0 C hr hn => ?_)
  refine G_gets C dJ0_isLatin1_aae02_0 ?_
  refine G_if_eq (tgt := 17) C rfl dJ0_isLatin1_aae02_3 (fun h => absurd h (by decide)) (fun _ => ?_)
  refine G_aload_n C 0 rfl rfl dJ0_isLatin1_aae02_6 ?_
  refine G_scod C hk dJ0_isLatin1_aae02_7 ?_
  refine G_if_ne (tgt := 17) C rfl dJ0_isLatin1_aae02_10 (fun h => absurd rfl h) (fun _ => ?_)
  refine G_iconst C (v := 1) rfl dJ0_isLatin1_aae02_13 ?_
  refine G_goto (tgt := 18) C rfl dJ0_isLatin1_aae02_14 ?_
  exact G_zret C (by decide) hr (Nat.le_of_ble_eq_true rfl) (Nat.le_of_ble_eq_true rfl) dJ0_isLatin1_aae02_18
theorem sh_len : ∀ k, k < 6 → Int32.ofNat (txLen.getD k 0) >>> ((0 : Int32) &&& 31) = Int32.ofNat (txLen.getD k 0) := by decide +kernel
theorem dS_length {σ : Sto} {k : Nat} (hk : k < 6) : MM l yJ0_length_8abf5 cJ0_length_8abf5 1 (some .int) 2 0 0 E st σ [.ref (2 + k)] (QI E st σ (Int32.ofNat (txLen.getD k 0)) σ) := by
  refine MM_of (by decide) (Nat.le_of_ble_eq_true rfl) rfl (fun p e s m args below meth c ad0 C hr hn => ?_)
  refine G_aload_n C 0 rfl rfl dJ0_length_8abf5_0 ?_
  refine G_sval C hk dJ0_length_8abf5_1 ?_
  refine G_tlen C hk dJ0_length_8abf5_4 ?_
  refine G_aload_n C 0 rfl rfl dJ0_length_8abf5_5 ?_
  refine G_callI (run_T C [] [.int (Int32.ofNat (txLen.getD k 0))] (dS_coder hk) ml_J0_coder_7d493 mv_J0_coder_7d493 lk_J0_335 ⟨(Nat.le_of_ble_eq_true rfl), (Nat.le_of_ble_eq_true rfl)⟩ ⟨(Nat.le_of_ble_eq_true rfl), (Nat.le_of_ble_eq_true rfl)⟩ hk rfl rfl (Nat.le_of_ble_eq_true rfl) dJ0_length_8abf5_6) ?_
  refine G_ishr C dJ0_length_8abf5_9 ?_
  rw [sh_len k hk]
  exact G_iret C hr (Nat.le_of_ble_eq_true rfl) (Nat.le_of_ble_eq_true rfl) dJ0_length_8abf5_10
/-! the check of an index: the formatter is only carried -/
def PcR (E : Ev) (st : Bool) (σ : Sto) (ad : Nat → Nat) (av : List Value) : Array Value → State → Prop := va_Pc av (fun U => Fk E U U.heap ∧ Wh E st ad σ U.heap)
theorem PcR_blind {σ : Sto} {ad : Nat → Nat} {av : List Value} : FrameBlind (PcR E st σ ad av) := fun a U g mk q => by
  obtain ⟨q1, q2, q3⟩ := q
  exact ⟨q1, Fk.warm (s := U) (U := U.calling g mk a) (State.WarmedH.refl U) q2, q3⟩
theorem met_pre {σ : Sto} {i n : Int32} {v : Value} (hi : ¬ i < 0) (hn : i < n) (hv : (lg_sl [Value.int i, Value.int n, v]).length ≤ 3) (ad : Nat → Nat) : Met l yJ3_checkIndex_8e157 (wsY yJ3_checkIndex_8e157 cJ3_checkIndex_8e157 3 (some .int)) (rmd 1 0 0) (PcR E st σ ad [.int i, .int n, v]) (QI E st σ i σ ad) 0 0 (AE E) := by
  refine Met.ofW (cc := cJ3_checkIndex_8e157) (maxL := 3) (ret := some .int) (by decide) rfl ?_
  intro p e s m args below meth c s₁ B hml hp
  obtain ⟨rfl, hF, hW⟩ := hp
  have hts := atoms_spec (ws := wsY yJ3_checkIndex_8e157 cJ3_checkIndex_8e157 3 (some .int)) B.pre
  have C : Cx E p s m [Value.int i, Value.int n, v].toArray meth c cJ3_checkIndex_8e157 3 "jdk/internal/util/Preconditions" := ⟨B.exec, B.bytes, hml, findClass_of_methodNamed B.named, fun w hw => hts w (List.mem_cons_of_mem _ hw), B.notSynchronized, hF⟩
  rw [lg_entry_eq]
  have hl := lv_entry [Value.int i, Value.int n, v] (n := 3) hv
  have hs0 : va_S (AE E) s.heap s.heap [] := va_S.rf
  refine lv_iload_n C.1 C.2.1 dJ3_checkIndex_8e157_0 (i := 0) rfl (lv_at hl 0 rfl) ?_
  refine lv_if_lt (tgt := 9) C.1 C.2.1 dJ3_checkIndex_8e157_1 rfl (fun h => absurd h hi) (fun _ => ?_)
  refine lv_iload_n C.1 C.2.1 dJ3_checkIndex_8e157_4 (i := 0) rfl (lv_at hl 0 rfl) ?_
  refine lv_iload_n C.1 C.2.1 dJ3_checkIndex_8e157_5 (i := 1) rfl (lv_at hl 1 rfl) ?_
  refine lv_icmp_lt (tgt := 16) C.1 C.2.1 dJ3_checkIndex_8e157_6 rfl (fun _ => ?_) (fun h => absurd hn h)
  refine lv_iload_n C.1 C.2.1 dJ3_checkIndex_8e157_16 (i := 0) rfl (lv_at hl 0 rfl) ?_
  exact W.iret (v := i) C.1 C.2.1 B.returns (fun t ht hW2 => ⟨⟨i, ad, rfl, ⟨rfl, fun _ _ => rfl, Nat.le_refl _⟩, (show Wh E st ad σ t.heap by rw [ht]; exact hW)⟩, hs0.F ht⟩) hs0.2.2 dJ3_checkIndex_8e157_17 (hlocks := B.notSynchronized)
theorem dS_check {σ : Sto} {i n : Int32} (hi : ¬ i < 0) (hn : i < n) : MM l yJ0_checkIndex_df160 cJ0_checkIndex_df160 2 none 2 0 0 E st σ [.int i, .int n] (QV E st σ σ) := by
  refine MM_of (by decide) (Nat.le_of_ble_eq_true rfl) rfl (fun p e s m args below meth c ad0 C hr hnm => ?_)
  refine G_iload_n C 0 rfl rfl dJ0_checkIndex_df160_0 ?_
  refine G_iload_n C 1 rfl rfl dJ0_checkIndex_df160_1 ?_
  intro ad H locs ls hw hs ha hl vl vs
  have key : ∀ v : Value, v = .null ∨ (∃ t, v = .ref t) → va_Z "jdk/internal/util/Preconditions" "SIOOBE_FORMATTER" "Ljava/util/function/BiFunction;" v (AE E) s s.heap → W p l e (rmd 2 0 0) s m args below meth c H locs 0 0 (MQ below (QV E st σ σ ad0) args s 0 0 (AE E)) (F0 m 2 ls [.int n, .int i]) := by
    intro v hvv hZ
    have hc : v.category = 1 := by rcases hvv with rfl | ⟨t, rfl⟩ <;> rfl
    have h3 : (lg_sl [Value.int i, Value.int n, v]).length ≤ 3 := by rcases hvv with rfl | ⟨t, rfl⟩ <;> exact (Nat.le_of_ble_eq_true rfl)
    refine va_gets C.1 C.2.1 hZ hs C.2.2.2.1 (C.2.2.2.2.1 _ fj_1053) (fun x hx => hx) dJ0_checkIndex_df160_2 ?_
    have hp : PreS s H (PcR E st σ ad [.int i, .int n, v]) [.int i, .int n, v] := ⟨PcR_blind, fun U hU hW => ⟨rfl, by rw [hU]; exact Fk.warm hW (Fk_here C hs), by rw [hU]; exact hw⟩⟩
    refine va_calli (va_runS (As := [.int i, .int n, v]) (rest := []) ⟨C.1, C.2.1, C.2.2.1, C.2.2.2.1, C.2.2.2.2.1⟩ (met_pre hi hn h3 ad) ⟨callB_here C ml_J3_checkIndex_8e157 lk_J0_1059 ⟨(Nat.le_of_ble_eq_true rfl), (Nat.le_of_ble_eq_true rfl)⟩, C.2.2.2.2.1 _ ms_J3_checkIndex_8e157⟩ hp rfl rfl hl.1 rfl (Nat.le_of_ble_eq_true rfl) dJ0_checkIndex_df160_5 ⟨(Nat.le_of_ble_eq_true rfl), (Nat.le_of_ble_eq_true rfl)⟩) hs (fun q _ h => h) (fun q h => h) (fun r ad' t H1 locs1 ht hvm hp hB hz hk hs1 => ?_)
    obtain ⟨rfl, hag, hz9⟩ := hp
    have hw1 : Wh E st ad' σ H1 := by rw [← ht]; exact hB
    refine lv_pop C.1 C.2.1 dJ0_checkIndex_df160_8 rfl ?_
    exact W.vret C.1 C.2.1 hr (fun t ht hW => ⟨⟨ad', rfl, ⟨fun a h => (hag a h).trans (ha.2 a h), Nat.le_refl _⟩, (show Wh E st ad' σ t.heap by rw [ht]; exact hw1)⟩, hs1.F ht⟩) hs1.2.2 dJ0_checkIndex_df160_9 (hlocks := C.2.2.2.2.2.1)
  rcases C.2.2.2.2.2.2.2.1.2.2.2.2.2 with h | ⟨t, h⟩
  · exact key .null (Or.inl rfl) h
  · exact key (.ref t) (Or.inr ⟨t, rfl⟩) h
theorem tx_ok : ∀ k, k < 6 → ∀ j, j < txLen.getD k 0 → (((txByt.getD k []).getD j 0 &&& 255).toUInt32 % 65536).toInt32 = (txByt.getD k []).getD j 0 ∧ narrow .char (.int ((txByt.getD k []).getD j 0)) = .int ((txByt.getD k []).getD j 0) := by
  have h : ∀ k, k < 6 → ∀ j, j < txLen.getD k 0 → (((txByt.getD k []).getD j 0 &&& 255).toUInt32 % 65536).toInt32 = (txByt.getD k []).getD j 0 ∧ ((txByt.getD k []).getD j 0).toUInt32.toUInt16.toUInt32.toInt32 = (txByt.getD k []).getD j 0 := by decide +kernel
  exact fun k hk j hj => ⟨(h k hk j hj).1, by show Value.int _ = _; rw [(h k hk j hj).2]⟩
theorem tx_lt : ∀ k, k < 6 → txLen.getD k 0 < 64 := by decide +kernel
theorem inb_lt {i : Int32} {n : Nat} (hn : n < 2147483648) (h : inb i n) : i < Int32.ofNat n := by
  have h0 : (0 : Int) ≤ i.toInt := by
    have := Int32.not_lt.mp h.1
    simpa using Int32.le_iff_toInt_le.mp this
  have h1 : i.toInt.toNat < n := h.2
  rw [Int32.lt_iff_toInt_lt, Int32.toInt_ofNat_of_lt (by omega)]
  omega
theorem dS_charAt1 {σ : Sto} {k : Nat} {i : Int32} (hk : k < 6) (hi : inb i (txLen.getD k 0)) : MM l yJ1_charAt_3b067 cJ1_charAt_3b067 2 (some .char) 3 0 0 E st σ [.ref (8 + k), .int i] (QI E st σ ((txByt.getD k []).getD i.toNatClampNeg 0) σ) := by
  refine MM_of (by decide) (Nat.le_of_ble_eq_true rfl) rfl (fun p e s m args below meth c ad0 C hr hn => ?_)
  have hlt : i < Int32.ofNat (txLen.getD k 0) := inb_lt (Nat.lt_trans (tx_lt k hk) (by decide)) hi
  refine G_iload_n C 1 rfl rfl dJ1_charAt_3b067_0 ?_
  refine G_aload_n C 0 rfl rfl dJ1_charAt_3b067_1 ?_
  refine G_tlen C hk dJ1_charAt_3b067_2 ?_
  refine G_callV (run_S C [.int i, .int (Int32.ofNat (txLen.getD k 0))] [] (dS_check hi.1 hlt) ml_J0_checkIndex_df160 ms_J0_checkIndex_df160 lk_J1_9 ⟨(Nat.le_of_ble_eq_true rfl), (Nat.le_of_ble_eq_true rfl)⟩ ⟨(Nat.le_of_ble_eq_true rfl), (Nat.le_of_ble_eq_true rfl)⟩ rfl (Nat.le_of_ble_eq_true rfl) dJ1_charAt_3b067_3) ?_
  refine G_aload_n C 0 rfl rfl dJ1_charAt_3b067_6 ?_
  refine G_iload_n C 1 rfl rfl dJ1_charAt_3b067_7 ?_
  refine G_tbal C hk hi dJ1_charAt_3b067_8 ?_
  refine G_sipush C (v := 255) rfl dJ1_charAt_3b067_9 ?_
  refine G_iand C dJ1_charAt_3b067_12 ?_
  refine G_i2c C dJ1_charAt_3b067_13 ?_
  rw [(tx_ok k hk _ hi.2).1]
  exact G_nret C (tx_ok k hk _ hi.2).2 hr (Nat.le_of_ble_eq_true rfl) (Nat.le_of_ble_eq_true rfl) dJ1_charAt_3b067_14
theorem dS_charAt {σ : Sto} {k : Nat} {i : Int32} (hk : k < 6) (hi : inb i (txLen.getD k 0)) : MM l yJ0_charAt_5068e cJ0_charAt_5068e 2 (some .char) 4 0 0 E st σ [.ref (2 + k), .int i] (QI E st σ ((txByt.getD k []).getD i.toNatClampNeg 0) σ) := by
  refine MM_of (by decide) (Nat.le_of_ble_eq_true rfl) rfl (fun p e s m args below meth c ad0 C hr hn => ?_)
  refine G_aload_n C 0 rfl rfl dJ0_charAt_5068e_0 ?_
  refine G_callI (run_T C [] [] (dS_isLatin1 hk) ml_J0_isLatin1_aae02 mv_J0_isLatin1_aae02 lk_J0_492 ⟨(Nat.le_of_ble_eq_true rfl), (Nat.le_of_ble_eq_true rfl)⟩ ⟨(Nat.le_of_ble_eq_true rfl), (Nat.le_of_ble_eq_true rfl)⟩ hk rfl rfl (Nat.le_of_ble_eq_true rfl) dJ0_charAt_5068e_1) ?_
  refine G_if_eq (tgt := 16) C rfl dJ0_charAt_5068e_4 (fun h => absurd h (by decide)) (fun _ => ?_)
  refine G_aload_n C 0 rfl rfl dJ0_charAt_5068e_7 ?_
  refine G_sval C hk dJ0_charAt_5068e_8 ?_
  refine G_iload_n C 1 rfl rfl dJ0_charAt_5068e_11 ?_
  refine G_callI (run_S C [.ref (8 + k), .int i] [] (dS_charAt1 hk hi) ml_J1_charAt_3b067 ms_J1_charAt_3b067 lk_J0_495 ⟨(Nat.le_of_ble_eq_true rfl), (Nat.le_of_ble_eq_true rfl)⟩ ⟨(Nat.le_of_ble_eq_true rfl), (Nat.le_of_ble_eq_true rfl)⟩ rfl (Nat.le_of_ble_eq_true rfl) dJ0_charAt_5068e_12) ?_
  exact G_nret C (tx_ok k hk _ hi.2).2 hr (Nat.le_of_ble_eq_true rfl) (Nat.le_of_ble_eq_true rfl) dJ0_charAt_5068e_15
/-! the place of a byte among the SIGNS -/
def mS_can (x : Int32) : Int32 := if x < 0 then 0 else if 255 < x then 0 else 1
def mS_ioc (x : Int32) : Nat → Int32 → Option Int32
  | 0, _ => none
  | n + 1, i => if 9 ≤ i then some (-1) else if inb i 9 then (if (txByt.getD 0 []).getD i.toNatClampNeg 0 = x then some i else mS_ioc x n (i + 1)) else none
def mS_indexOf (x : Int32) : Option Int32 := if mS_can x = 0 then some (-1) else mS_ioc x.toInt8.toInt32 10 0
theorem dS_can {σ : Sto} {x : Int32} : MM l yJ1_canEncode_9a6ad cJ1_canEncode_9a6ad 1 (some .boolean) 1 0 0 E st σ [.int x] (QI E st σ (mS_can x) σ) := by
  refine MM_of (by decide) (Nat.le_of_ble_eq_true rfl) rfl (fun p e s m args below meth c ad0 C hr hn => ?_)
  refine G_iload_n C 0 rfl rfl dJ1_canEncode_9a6ad_0 ?_
  refine G_if_lt (tgt := 15) C rfl dJ1_canEncode_9a6ad_1 (fun h => ?_) (fun h => ?_)
  · refine G_iconst C (v := 0) rfl dJ1_canEncode_9a6ad_15 ?_
    rw [mS_can, if_pos h]
    exact G_zret C (by decide) hr (Nat.le_of_ble_eq_true rfl) (Nat.le_of_ble_eq_true rfl) dJ1_canEncode_9a6ad_16
  · refine G_iload_n C 0 rfl rfl dJ1_canEncode_9a6ad_4 ?_
    refine G_sipush C (v := 255) rfl dJ1_canEncode_9a6ad_5 ?_
    refine G_icmp_gt (tgt := 15) C rfl dJ1_canEncode_9a6ad_8 (fun h2 => ?_) (fun h2 => ?_)
    · refine G_iconst C (v := 0) rfl dJ1_canEncode_9a6ad_15 ?_
      rw [mS_can, if_neg h, if_pos h2]
      exact G_zret C (by decide) hr (Nat.le_of_ble_eq_true rfl) (Nat.le_of_ble_eq_true rfl) dJ1_canEncode_9a6ad_16
    · refine G_iconst C (v := 1) rfl dJ1_canEncode_9a6ad_11 ?_
      refine G_goto (tgt := 16) C rfl dJ1_canEncode_9a6ad_12 ?_
      rw [mS_can, if_neg h, if_neg h2]
      exact G_zret C (by decide) hr (Nat.le_of_ble_eq_true rfl) (Nat.le_of_ble_eq_true rfl) dJ1_canEncode_9a6ad_16
theorem eS_ioc {σ : Sto} {x : Int32} (C : Cx E p s m args meth c cJ1_indexOfChar_4cfef 6 "java/lang/StringLatin1") (hr : meth.sig.returnType = some .int) {r : Int32} : ∀ (n : Nat) (i : Int32), mS_ioc x n i = some r → G p l e (rmd 1 0 0) s m args below meth c E st (sZ σ) ad0 (MQ below (QI E st σ r σ ad0) args s 0 0 (AE E)) 6 0 0 σ 7 [(5, .int i), (4, .int x), (3, .int 9), (0, .ref (8 + 0))] [] := by
  intro n
  induction n with
  | zero => intro i h; cases h
  | succ n ih =>
    intro i h
    rw [mS_ioc] at h
    refine G_iload C 0 rfl dJ1_indexOfChar_4cfef_7 ?_
    refine G_iload_n C 2 rfl rfl dJ1_indexOfChar_4cfef_9 ?_
    refine G_icmp_ge (tgt := 31) C rfl dJ1_indexOfChar_4cfef_10 (fun h1 => ?_) (fun h1 => ?_)
    · rw [if_pos h1] at h
      cases h
      refine G_iconst C (v := -1) rfl dJ1_indexOfChar_4cfef_31 ?_
      exact G_iret C hr (Nat.le_of_ble_eq_true rfl) (Nat.le_of_ble_eq_true rfl) dJ1_indexOfChar_4cfef_32
    · rw [if_neg h1] at h
      obtain ⟨h2, h⟩ := ifn h
      refine G_aload_n C 3 rfl rfl dJ1_indexOfChar_4cfef_13 ?_
      refine G_iload C 0 rfl dJ1_indexOfChar_4cfef_14 ?_
      refine G_tbal (k := 0) C (by decide) h2 dJ1_indexOfChar_4cfef_16 ?_
      refine G_iload C 1 rfl dJ1_indexOfChar_4cfef_17 ?_
      refine G_icmp_ne (tgt := 25) C rfl dJ1_indexOfChar_4cfef_19 (fun h3 => ?_) (fun h3 => ?_)
      · rw [if_neg h3] at h
        refine G_iinc (v := 1) (L' := [(5, .int (i + 1)), (4, .int x), (3, .int 9), (0, .ref (8 + 0))]) C 0 rfl rfl (Nat.le_of_ble_eq_true rfl) rfl dJ1_indexOfChar_4cfef_25 ?_
        refine G_goto (tgt := 7) C rfl dJ1_indexOfChar_4cfef_28 ?_
        exact ih _ h
      · rw [if_pos h3] at h
        cases h
        refine G_iload C 0 rfl dJ1_indexOfChar_4cfef_22 ?_
        exact G_iret C hr (Nat.le_of_ble_eq_true rfl) (Nat.le_of_ble_eq_true rfl) dJ1_indexOfChar_4cfef_24
theorem dS_ioc {σ : Sto} {x r : Int32} (h : mS_ioc x.toInt8.toInt32 10 0 = some r) : MM l yJ1_indexOfChar_4cfef cJ1_indexOfChar_4cfef 6 (some .int) 1 0 0 E st σ [.ref (8 + 0), .int x, .int 0, .int 9] (QI E st σ r σ) := by
  refine MM_of (by decide) (Nat.le_of_ble_eq_true rfl) rfl (fun p e s m args below meth c ad0 C hr hn => ?_)
  refine G_iload_n C 1 rfl rfl dJ1_indexOfChar_4cfef_0 ?_
  refine G_i2b C dJ1_indexOfChar_4cfef_1 ?_
  refine G_istore (L' := [(4, .int x.toInt8.toInt32), (0, .ref (8 + 0)), (1, .int x), (2, .int 0), (3, .int 9)]) C (Nat.le_of_ble_eq_true rfl) rfl dJ1_indexOfChar_4cfef_2 ?_
  refine G_iload_n C 3 rfl rfl dJ1_indexOfChar_4cfef_4 ?_
  refine G_istore (L' := [(5, .int 0), (4, .int x.toInt8.toInt32), (0, .ref (8 + 0)), (1, .int x), (2, .int 0), (3, .int 9)]) C (Nat.le_of_ble_eq_true rfl) rfl dJ1_indexOfChar_4cfef_5 ?_
  refine G_sub [0, 1, 5, 2] rfl ?_
  exact eS_ioc C hr 10 0 h
theorem dS_io1 {σ : Sto} {x r : Int32} (h : mS_indexOf x = some r) : MM l yJ1_indexOf_4cfef cJ1_indexOf_4cfef 4 (some .int) 2 0 0 E st σ [.ref (8 + 0), .int x, .int 0, .int 9] (QI E st σ r σ) := by
  refine MM_of (by decide) (Nat.le_of_ble_eq_true rfl) rfl (fun p e s m args below meth c ad0 C hr hn => ?_)
  refine G_iload_n C 1 rfl rfl dJ1_indexOf_4cfef_0 ?_
  refine G_callI (run_S C [.int x] [] dS_can ml_J1_canEncode_9a6ad ms_J1_canEncode_9a6ad lk_J1_88 ⟨(Nat.le_of_ble_eq_true rfl), (Nat.le_of_ble_eq_true rfl)⟩ ⟨(Nat.le_of_ble_eq_true rfl), (Nat.le_of_ble_eq_true rfl)⟩ rfl (Nat.le_of_ble_eq_true rfl) dJ1_indexOf_4cfef_1) ?_
  unfold mS_indexOf at h
  refine G_if_ne (tgt := 9) C rfl dJ1_indexOf_4cfef_4 (fun h1 => ?_) (fun h1 => ?_)
  · rw [if_neg h1] at h
    refine G_iload_n C 2 rfl rfl dJ1_indexOf_4cfef_9 ?_
    refine G_iconst C (v := 0) rfl dJ1_indexOf_4cfef_10 ?_
    refine G_mmax C lk_J1_92 mj_max_i.1 mj_ini mj_max_i.2 (Nat.le_of_ble_eq_true rfl) (Nat.le_of_ble_eq_true rfl) (Nat.le_of_ble_eq_true rfl) (Nat.le_of_ble_eq_true rfl) dJ1_indexOf_4cfef_11 ?_
    refine G_istore_n (L' := [(2, .int 0), (0, .ref (8 + 0)), (1, .int x), (3, .int 9)]) C rfl (Nat.le_of_ble_eq_true rfl) rfl dJ1_indexOf_4cfef_14 ?_
    refine G_iload_n C 3 rfl rfl dJ1_indexOf_4cfef_15 ?_
    refine G_aload_n C 1 rfl rfl dJ1_indexOf_4cfef_16 ?_
    refine G_tlen (k := 0) C (by decide) dJ1_indexOf_4cfef_17 ?_
    refine G_mmin C lk_J1_38 mj_min_i.1 mj_ini mj_min_i.2 (Nat.le_of_ble_eq_true rfl) (Nat.le_of_ble_eq_true rfl) (Nat.le_of_ble_eq_true rfl) (Nat.le_of_ble_eq_true rfl) dJ1_indexOf_4cfef_18 ?_
    refine G_istore_n (L' := [(3, .int 9), (2, .int 0), (0, .ref (8 + 0)), (1, .int x)]) C rfl (Nat.le_of_ble_eq_true rfl) rfl dJ1_indexOf_4cfef_21 ?_
    refine G_iload_n C 1 rfl rfl dJ1_indexOf_4cfef_22 ?_
    refine G_iload_n C 0 rfl rfl dJ1_indexOf_4cfef_23 ?_
    refine G_icmp_lt (tgt := 29) C rfl dJ1_indexOf_4cfef_24 (fun _ => ?_) (fun h2 => absurd (by decide) h2)
    refine G_aload_n C 2 rfl rfl dJ1_indexOf_4cfef_29 ?_
    refine G_iload_n C 3 rfl rfl dJ1_indexOf_4cfef_30 ?_
    refine G_iload_n C 1 rfl rfl dJ1_indexOf_4cfef_31 ?_
    refine G_iload_n C 0 rfl rfl dJ1_indexOf_4cfef_32 ?_
    refine G_callI (run_S C [.ref (8 + 0), .int x, .int 0, .int 9] [] (dS_ioc h) ml_J1_indexOfChar_4cfef ms_J1_indexOfChar_4cfef lk_J1_95 ⟨(Nat.le_of_ble_eq_true rfl), (Nat.le_of_ble_eq_true rfl)⟩ ⟨(Nat.le_of_ble_eq_true rfl), (Nat.le_of_ble_eq_true rfl)⟩ rfl (Nat.le_of_ble_eq_true rfl) dJ1_indexOf_4cfef_33) ?_
    exact G_iret C hr (Nat.le_of_ble_eq_true rfl) (Nat.le_of_ble_eq_true rfl) dJ1_indexOf_4cfef_36
  · rw [if_pos h1] at h
    cases h
    refine G_iconst C (v := -1) rfl dJ1_indexOf_4cfef_7 ?_
    exact G_iret C hr (Nat.le_of_ble_eq_true rfl) (Nat.le_of_ble_eq_true rfl) dJ1_indexOf_4cfef_8
theorem dS_io2 {σ : Sto} {x r : Int32} (h : mS_indexOf x = some r) : MM l yJ0_indexOf_7cf53 cJ0_indexOf_7cf53 3 (some .int) 3 0 0 E st σ [.ref (2 + 0), .int x, .int 0] (QI E st σ r σ) := by
  refine MM_of (by decide) (Nat.le_of_ble_eq_true rfl) rfl (fun p e s m args below meth c ad0 C hr hn => ?_)
  refine G_aload_n C 0 rfl rfl dJ0_indexOf_7cf53_0 ?_
  refine G_callI (run_T (k := 0) C [] [] (dS_isLatin1 (by decide)) ml_J0_isLatin1_aae02 mv_J0_isLatin1_aae02 lk_J0_492 ⟨(Nat.le_of_ble_eq_true rfl), (Nat.le_of_ble_eq_true rfl)⟩ ⟨(Nat.le_of_ble_eq_true rfl), (Nat.le_of_ble_eq_true rfl)⟩ (by decide) rfl rfl (Nat.le_of_ble_eq_true rfl) dJ0_indexOf_7cf53_1) ?_
  refine G_if_eq (tgt := 23) C rfl dJ0_indexOf_7cf53_4 (fun h => absurd h (by decide)) (fun _ => ?_)
  refine G_aload_n C 0 rfl rfl dJ0_indexOf_7cf53_7 ?_
  refine G_sval (k := 0) C (by decide) dJ0_indexOf_7cf53_8 ?_
  refine G_iload_n C 1 rfl rfl dJ0_indexOf_7cf53_11 ?_
  refine G_iload_n C 2 rfl rfl dJ0_indexOf_7cf53_12 ?_
  refine G_aload_n C 0 rfl rfl dJ0_indexOf_7cf53_13 ?_
  refine G_callI (run_T (k := 0) C [] [.int 0, .int x, .ref (8 + 0)] (dS_length (by decide)) ml_J0_length_8abf5 mv_J0_length_8abf5 lk_J0_505 ⟨(Nat.le_of_ble_eq_true rfl), (Nat.le_of_ble_eq_true rfl)⟩ ⟨(Nat.le_of_ble_eq_true rfl), (Nat.le_of_ble_eq_true rfl)⟩ (by decide) rfl rfl (Nat.le_of_ble_eq_true rfl) dJ0_indexOf_7cf53_14) ?_
  refine G_callI (run_S C [.ref (8 + 0), .int x, .int 0, .int 9] [] (dS_io1 h) ml_J1_indexOf_4cfef ms_J1_indexOf_4cfef lk_J0_637 ⟨(Nat.le_of_ble_eq_true rfl), (Nat.le_of_ble_eq_true rfl)⟩ ⟨(Nat.le_of_ble_eq_true rfl), (Nat.le_of_ble_eq_true rfl)⟩ rfl (Nat.le_of_ble_eq_true rfl) dJ0_indexOf_7cf53_17) ?_
  refine G_goto (tgt := 36) C rfl dJ0_indexOf_7cf53_20 ?_
  exact G_iret C hr (Nat.le_of_ble_eq_true rfl) (Nat.le_of_ble_eq_true rfl) dJ0_indexOf_7cf53_36
theorem dS_indexOf {σ : Sto} {x r : Int32} (h : mS_indexOf x = some r) : MM l yJ0_indexOf_0f7a4 cJ0_indexOf_0f7a4 2 (some .int) 4 0 0 E st σ [.ref (2 + 0), .int x] (QI E st σ r σ) := by
  refine MM_of (by decide) (Nat.le_of_ble_eq_true rfl) rfl (fun p e s m args below meth c ad0 C hr hn => ?_)
  refine G_aload_n C 0 rfl rfl dJ0_indexOf_0f7a4_0 ?_
  refine G_iload_n C 1 rfl rfl dJ0_indexOf_0f7a4_1 ?_
  refine G_iconst C (v := 0) rfl dJ0_indexOf_0f7a4_2 ?_
  refine G_callI (run_T (k := 0) C [.int x, .int 0] [] (dS_io2 h) ml_J0_indexOf_7cf53 mv_J0_indexOf_7cf53 lk_J0_633 ⟨(Nat.le_of_ble_eq_true rfl), (Nat.le_of_ble_eq_true rfl)⟩ ⟨(Nat.le_of_ble_eq_true rfl), (Nat.le_of_ble_eq_true rfl)⟩ (by decide) rfl rfl (Nat.le_of_ble_eq_true rfl) dJ0_indexOf_0f7a4_3) ?_
  exact G_iret C hr (Nat.le_of_ble_eq_true rfl) (Nat.le_of_ble_eq_true rfl) dJ0_indexOf_0f7a4_6
/-- an own address of a text -/
abbrev isT (a : Nat) : Prop := 2 ≤ a ∧ a < 8
def tlen (a : Nat) : Int32 := Int32.ofNat (txLen.getD (a - 2) 0)
def tchr (a : Nat) (i : Int32) : Int32 := (txByt.getD (a - 2) []).getD i.toNatClampNeg 0
theorem isT.out {a : Nat} (h : isT a) : ∃ k, a - 2 = k ∧ a = 2 + k ∧ k < 6 := ⟨a - 2, rfl, by omega, by omega⟩
theorem dT_length {σ : Sto} {a : Nat} (h : isT a) : MM l yJ0_length_8abf5 cJ0_length_8abf5 1 (some .int) 2 0 0 E st σ [.ref a] (QI E st σ (tlen a) σ) := by
  obtain ⟨k, h1, h2, h3⟩ := h.out
  unfold tlen
  rw [h1, h2]
  exact dS_length h3
theorem dT_charAt {σ : Sto} {a : Nat} {i : Int32} (h : isT a) (hi : inb i (txLen.getD (a - 2) 0)) : MM l yJ0_charAt_5068e cJ0_charAt_5068e 2 (some .char) 4 0 0 E st σ [.ref a, .int i] (QI E st σ (tchr a i) σ) := by
  obtain ⟨k, h1, h2, h3⟩ := h.out
  unfold tchr
  rw [h1] at hi ⊢
  rw [h2]
  exact dS_charAt h3 hi
theorem run_TT {R : Room} {nL cells slots : Nat} {σ : Sto} {pc : Nat} {L : List (Nat × Value)} {cc : ByteArray} {own : String} (C : Cx E p s m args meth c cc nL own) {y : MethodName} {bytes : ByteArray} {maxL ix d mc ms a : Nat} {ret : Option FieldType} {Qc : (Nat → Nat) → Array Value → State → Outcome → State → Prop} (As rest : List Value) {S0 : List Value} (hM : MM l y bytes maxL ret d mc ms E st σ (.ref a :: As) Qc)
    (hML : MLc y bytes maxL ret As.length) (hMV : MLv y) (hl : Cond.methodLink own ix y ∈ BW) (hR : d + 1 ≤ R.frames ∧ 8 + (maxL + 11) + 100 * d ≤ R.locals) (hf : cells + mc ≤ R.cells ∧ slots + ms ≤ R.slots) (hk : isT a) (hy : "java/lang/String" = y.cls) (hS : S0 = As.reverse ++ .ref a :: rest) (hsum : (rest.map fun v => v.category).sum ≤ 8) (hd : decode cc pc = .ok (.invokevirtual ix, 3)) :
    RunOK p l e R s m args below meth c E st nL cells slots σ pc L S0 rest mc ms (fun ad => Qc ad (Value.ref (ad a) :: As.map (tr ad)).toArray) := by
  obtain ⟨k, -, rfl, h3⟩ := hk.out
  exact run_T C As rest hM hML hMV hl hR hf h3 hy hS hsum hd
theorem rml {a b d mc ms : Nat} (h1 : a + 1 ≤ d) (h2 : 8 + (b + 11) + 100 * a ≤ 100 * d) : a + 1 ≤ (rmd d mc ms).frames ∧ 8 + (b + 11) + 100 * a ≤ (rmd d mc ms).locals := ⟨h1, h2⟩
def EH (l : Launch) (E : Ev) (fE : Int32 → Sto → Option Sto) (D : Nat) : Prop := ∀ (x : Int32) (σ r : Sto), fE x σ = some r → MM l yX7_readExpr cX7_readExpr 3 none D 0 0 E true σ [.ref 67, .int x] (QV E true σ r)
end
