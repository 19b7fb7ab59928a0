def σ0 : Sto := (fun _ _ => 0, fun _ _ => 0, fun _ _ => 0, fun _ => 0, fun _ => 0, 32)
def sA : Sto := nwK σ0 (10 + 1) 0
def sB : Sto := (mX11_init 32 sA).getD σ0
def sC : Sto := nwK sB (11 + 1) 0
def sD : Sto := (mX12_init 81 sC).getD σ0
/-- the store behind the constructors -/
def sS : Sto := nwK sD (100 + 1) 1
theorem getD_some {α : Type} {o : Option α} {d : α} (h : o.isSome = true) : o = some (o.getD d) := by
  cases o with
  | none => cases h
  | some v => rfl
set_option maxRecDepth 100000 in
theorem sB_ok : mX11_init 32 sA = some sB := getD_some (by decide +kernel)
set_option maxRecDepth 100000 in
theorem sB_Z : sZ sB = 81 := by decide +kernel
set_option maxRecDepth 100000 in
theorem sD_ok : mX12_init 81 sC = some sD := getD_some (by decide +kernel)
set_option maxRecDepth 100000 in
theorem sD_Z : sZ sD = 146 := by decide +kernel
set_option maxRecDepth 100000 in
theorem sS_stat : ∀ q ∈ STAT, sK sS q.1 = q.2.1 ∧ sN sS q.1 = q.2.2 := by decide +kernel
set_option maxRecDepth 100000 in
theorem sS_finl : ∀ q ∈ FINL, sK sS q.1 = q.2.1 + 1 ∧ sR sS q.1 q.2.2.1 = q.2.2.2 := by decide +kernel
theorem sS_fin : SFin sS := ⟨sS_stat, sS_finl⟩
section
variable {p : Program} {l : Launch} {e : Env} {R : Room} {s : State} {m : MethodId} {args : Array Value} {below : List Frame} {meth : Method} {c : Code} {Q : State → Prop} {E : Ev} {st : Bool} {n0 : Nat} {ad0 : Nat → Nat} {nL cells slots : Nat} {σ : Sto} {pc : Nat} {L : List (Nat × Value)} {S : List Value} {cc : ByteArray} {own : String}
theorem G_stat (hf : SFin σ) (k : G p l e R s m args below meth c E true n0 ad0 Q nL cells slots σ pc L S) : G p l e R s m args below meth c E false n0 ad0 Q nL cells slots σ pc L S := fun ad H locs ls hw hs ha hl vl vs => k ad H locs ls ⟨hw.1, hw.2.1, hw.2.2.1, hw.2.2.2.1, hw.2.2.2.2.1, hw.2.2.2.2.2.1, fun _ => hf⟩ hs ha hl vl vs
set_option maxRecDepth 100000 in
set_option maxHeartbeats 4000000 in
theorem law_pro {b xL : Nat} {xs : Nat → Int32} (hx : E.2.2.2.1 = (b, xL, xs)) (hE : E.2.2.1 = s.heap.size) (hlx : l.stackTraces = false) (C : Cx E p s m #[Value.ref b] meth c cL_law_ 8 RL) (hr : meth.sig.returnType = (some .boolean)) (h : mL_law_23 xs xL 513 0 sS = some 1) :
    G p l e room_1 s m #[Value.ref b] below meth c E false 0 ad0 (lw_Z below #[Value.ref b] s) 8 0 0 σ0 0 [(0, .ref 1)] [] := by
  refine G_new C vq_10 uw_X11 nl_L_8 ni_X11.1 ni_X11.2 (Nat.le_of_ble_eq_true rfl) (Nat.le_of_ble_eq_true rfl) dL_law__0 ?_
  refine G_dup C rfl dL_law__3 ?_
  have hkA : sK sA 32 = 11 := rfl
  refine G_callV (run_I (kd := 11) C [] [.ref 32] (dX11_init hkA sB_ok) ml_X11_init mi_X11_init lk_L_101 ⟨(Nat.le_of_ble_eq_true rfl), (Nat.le_of_ble_eq_true rfl)⟩ ⟨(Nat.le_of_ble_eq_true rfl), (Nat.le_of_ble_eq_true rfl)⟩ (by decide) (KO.dy hkA) rfl (Nat.le_of_ble_eq_true rfl) dL_law__4) ?_
  refine G_astore_n (L' := [(1, .ref 32), (0, .ref 1)]) C rfl (Nat.le_of_ble_eq_true rfl) rfl dL_law__7 ?_
  refine G_new C vq_11 uw_X12 nl_L_102 ni_X12.1 ni_X12.2 (Nat.le_of_ble_eq_true rfl) (Nat.le_of_ble_eq_true rfl) dL_law__8 ?_
  rw [sB_Z]
  refine G_dup C rfl dL_law__11 ?_
  have hkC : sK sC 81 = 12 := by
    have e : sK sC 81 = if 81 = sZ sB then 12 else sK sB 81 := rfl
    rw [e, sB_Z]
    rfl
  refine G_callV (run_I (kd := 12) C [] [.ref 81] (dX12_init hkC sD_ok) ml_X12_init mi_X12_init lk_L_104 ⟨(Nat.le_of_ble_eq_true rfl), (Nat.le_of_ble_eq_true rfl)⟩ ⟨(Nat.le_of_ble_eq_true rfl), (Nat.le_of_ble_eq_true rfl)⟩ (by decide) (KO.dy hkC) rfl (Nat.le_of_ble_eq_true rfl) dL_law__12) ?_
  refine G_astore_n (L' := [(2, .ref 81), (1, .ref 32), (0, .ref 1)]) C rfl (Nat.le_of_ble_eq_true rfl) rfl dL_law__15 ?_
  refine G_iconst C (v := 1) rfl dL_law__16 ?_
  refine G_newJ (N := 1) C na_J (by decide) rfl (Nat.le_of_ble_eq_true rfl) (Nat.le_of_ble_eq_true rfl) (Nat.le_of_ble_eq_true rfl) dL_law__17 ?_
  rw [sD_Z]
  refine G_astore_n (L' := [(3, .ref 146), (2, .ref 81), (1, .ref 32), (0, .ref 1)]) C rfl (Nat.le_of_ble_eq_true rfl) rfl dL_law__19 ?_
  refine G_iconst C (v := 0) rfl dL_law__20 ?_
  refine G_istore (L' := [(4, .int 0), (3, .ref 146), (2, .ref 81), (1, .ref 32), (0, .ref 1)]) C (Nat.le_of_ble_eq_true rfl) rfl dL_law__21 ?_
  refine G_sub (L' := [(0, .ref 1), (1, .ref 32), (2, .ref 81), (3, .ref 146), (4, .int 0)]) [4, 3, 2, 1, 0] rfl ?_
  refine G_widen (k1 := 1000) (k2 := 30000) (Nat.le_of_ble_eq_true rfl) (Nat.le_of_ble_eq_true rfl) ?_
  refine G_stat (σ := sS) sS_fin ?_
  exact eL_law_23 hx hE hlx C hr 513 0 sS 1000 30000 (by decide) (by decide) h
end
/-- the machine's side, whole: what is left is the law's function -/
theorem whole_start_of {p : Program} {e : Env} {s : State} {m : MethodId} {below : List Frame} {meth : Method} {c : Code} (l : Launch) (hflags : l.flags = flags0) {b L : Nat} {xs : Nat → Int32} (hT : mL_law_23 xs L 513 0 sS = some 1) (C0 : lw_At p s m meth c b L xs) : W p l e room_1 s m #[Value.ref b] below meth c s.heap [] 0 0 (lw_Z below #[Value.ref b] s) (entryFrame m ([Value.ref b] : List Value).toArray 8) := by
  obtain ⟨E, hE1, hE2, hF⟩ := st_Fk C0
  have hlx : l.stackTraces = false := by
    first
      | (unfold Launch.stackTraces; rw [hflags]; rfl)
      | (unfold Launch.stackTraces; rw [hflags]; decide)
  obtain ⟨hx, hb, hr, hml, hown, hts, hX, hbl, hlocks, hgv⟩ := C0
  have C : Cx E p s m #[Value.ref b] meth c cL_law_ 8 RL := ⟨hx, hb, hml, hown, fun w hw => hts w (List.mem_filter.mp hw).1, hlocks, hF⟩
  have hW : Wh E false (fun a => if a = 1 then b else if a < 8 then E.2.2.2.2.1 (a - 2) else E.2.2.2.2.2 (a - 8)) σ0 s.heap := by
    refine ⟨(fun k q h => nomatch h), ⟨(fun i j p q h => nomatch h), (fun k q h => nomatch h)⟩, Nat.le_refl _, fun _ _ => (show 0 < 32 by decide), fun a h => absurd rfl h, ⟨?_, fun i hi => ⟨?_, ?_⟩⟩, (fun h => nomatch h)⟩
    · show b = E.2.2.2.1.1
      rw [hE2]
    · show (if 2 + i = 1 then b else if 2 + i < 8 then E.2.2.2.2.1 (2 + i - 2) else E.2.2.2.2.2 (2 + i - 8)) = _
      rw [if_neg (by omega), if_pos (by omega), Nat.add_sub_cancel_left]
    · show (if 8 + i = 1 then b else if 8 + i < 8 then E.2.2.2.2.1 (8 + i - 2) else E.2.2.2.2.2 (8 + i - 8)) = _
      rw [if_neg (by omega), if_neg (by omega), Nat.add_sub_cancel_left]
  rw [lg_entry_eq]
  exact law_pro (ad0 := fun _ => 0) hE2 hE1 hlx C hr hT _ s.heap [] _ hW va_S.rf ⟨Nat.zero_le _, fun a h => absurd h (Nat.not_lt_zero _)⟩ (lv_entry ([.ref b]) (n := 8) (Nat.le_of_ble_eq_true rfl)) (fun q hq => by cases List.mem_singleton.mp hq; exact (show 1 < 32 by decide)) trivial
