/-! HEAP ROWS in the words of the store -/
def isRf : FieldType → Bool
  | .object _ => true
  | .array _ => true
  | _ => false
abbrev isB (v : Int32) : Prop := v = 0 ∨ v = 1
/-- the two stores are the same outside the cell a -/
def Same (σ σ' : Sto) (a : Nat) : Prop := sZ σ' = sZ σ ∧ (∀ b, sK σ' b = sK σ b) ∧ (∀ b, sN σ' b = sN σ b) ∧ ∀ b, b ≠ a → sI σ' b = sI σ b ∧ sL σ' b = sL σ b ∧ sR σ' b = sR σ b
theorem ent_same {cA : Nat → ClassId} {ad : Nat → Nat} {σ σ' : Sto} {a b : Nat} (h : Same σ σ' a) (hb : b ≠ a) : ent cA ad σ' b = ent cA ad σ b := by
  obtain ⟨h1, h2, h3, h4⟩ := h
  obtain ⟨e1, e2, e3⟩ := h4 b hb
  have ef : ∀ ci, fv ad σ' b ci = fv ad σ b ci := fun ci => funext fun k => by simp only [fv, e1, e2, e3]
  simp only [ent, fvs, arr, h2, h3, e1, e2, e3, ef]
theorem same_wI (σ : Sto) (a k : Nat) (v : Int32) : Same σ (wI σ a k v) a := ⟨rfl, fun _ => rfl, fun _ => rfl, fun b hb => ⟨funext fun j => by show (if b = a ∧ j = k then v else σ.1 b j) = _; rw [if_neg (fun q => hb q.1)]; rfl, rfl, rfl⟩⟩
theorem same_wL (σ : Sto) (a k : Nat) (v : Int64) : Same σ (wL σ a k v) a := ⟨rfl, fun _ => rfl, fun _ => rfl, fun b hb => ⟨rfl, funext fun j => by show (if b = a ∧ j = k then v else σ.2.1 b j) = _; rw [if_neg (fun q => hb q.1)]; rfl, rfl⟩⟩
theorem same_wR (σ : Sto) (a k : Nat) (v : Nat) : Same σ (wR σ a k v) a := ⟨rfl, fun _ => rfl, fun _ => rfl, fun b hb => ⟨rfl, rfl, funext fun j => by show (if b = a ∧ j = k then v else σ.2.2.1 b j) = _; rw [if_neg (fun q => hb q.1)]; rfl⟩⟩
theorem sI_wI (σ : Sto) (a k : Nat) (v : Int32) (b j : Nat) : sI (wI σ a k v) b j = if b = a ∧ j = k then v else sI σ b j := rfl
theorem sL_wL (σ : Sto) (a k : Nat) (v : Int64) (b j : Nat) : sL (wL σ a k v) b j = if b = a ∧ j = k then v else sL σ b j := rfl
theorem sR_wR (σ : Sto) (a k v : Nat) (b j : Nat) : sR (wR σ a k v) b j = if b = a ∧ j = k then v else sR σ b j := rfl
/-- no fast field is the field k of a class ci -/
def finfree (ci k : Nat) : Bool := FINL.all fun q => !(q.2.1 == ci && q.2.2.1 == k)
theorem SFin_wR {σ : Sto} {a ci k v : Nat} (h : SFin σ) (hk : sK σ a = ci + 1) (hf : finfree ci k = true) : SFin (wR σ a k v) := by
  refine ⟨h.1, fun q hq => ⟨(h.2 q hq).1, ?_⟩⟩
  rw [sR_wR, if_neg, (h.2 q hq).2]
  rintro ⟨e1, e2⟩
  have h1 := List.all_eq_true.mp hf q hq
  have h2 := (h.2 q hq).1
  rw [e1, hk] at h2
  have h3 : ci = q.2.1 := by omega
  subst h3; subst e2
  simp at h1
theorem SFin_wRa {σ : Sto} {a k v : Nat} (h : SFin σ) (hk : 100 ≤ sK σ a) (hc : ∀ q ∈ FINL, q.2.1 < 12) : SFin (wR σ a k v) := by
  refine ⟨h.1, fun q hq => ⟨(h.2 q hq).1, ?_⟩⟩
  rw [sR_wR, if_neg, (h.2 q hq).2]
  rintro ⟨e1, -⟩
  have h2 := (h.2 q hq).1
  rw [e1] at h2
  have := hc q hq
  omega
theorem fin_cls : ∀ q ∈ FINL, q.2.1 < 12 := by decide +kernel
theorem fv_i {ad : Nat → Nat} {σ : Sto} {a ci k : Nat} (ht : fty ci k = .int ∨ fty ci k = .boolean) : fv ad σ a ci k = .int (sI σ a k) := by
  rcases ht with h | h <;> rw [fv, h]
theorem fv_l {ad : Nat → Nat} {σ : Sto} {a ci k : Nat} (ht : fty ci k = .long) : fv ad σ a ci k = .long (sL σ a k) := by rw [fv, ht]
theorem fv_r {ad : Nat → Nat} {σ : Sto} {a ci k : Nat} (ht : isRf (fty ci k) = true) : fv ad σ a ci k = rv ad (sR σ a k) := by
  unfold fv
  cases h : fty ci k <;> rw [h] at ht <;> first | rfl | cases ht
theorem fits_r {ad : Nat → Nat} {t : FieldType} {v : Nat} (ht : isRf t = true) : fits t (rv ad v) = true ∧ narrow t (rv ad v) = rv ad v := by
  rcases rv_or ad v with h | ⟨q, h⟩ <;> rw [h] <;> cases t <;> first | exact ⟨rfl, rfl⟩ | cases ht
theorem fits_i {v : Int32} {t : FieldType} (ht : t = .int ∨ (t = .boolean ∧ isB v)) : fits t (.int v) = true ∧ narrow t (.int v) = .int v := by
  rcases ht with rfl | ⟨rfl, rfl | rfl⟩ <;> exact ⟨rfl, rfl⟩
theorem nar_b {v : Int32} (h : isB v) : vp_nar .boolean v = v := by
  rcases h with rfl | rfl <;> rfl
theorem Wh.lt {E : Ev} {st : Bool} {ad : Nat → Nat} {σ : Sto} {H : Heap} (hw : Wh E st ad σ H) {a kd : Nat} (h : sK σ a = kd) (hz : kd ≠ 0) : RS ≤ a ∧ a < sZ σ ∧ a ≠ 0 := by
  obtain ⟨h1, h2⟩ := hw.2.2.2.2.1 a (by rw [h]; exact hz)
  exact ⟨h1, h2, fun q => by subst q; exact absurd h1 (by decide)⟩
/-- a cell written: the world of the new store -/
theorem Wh.put {E : Ev} {st : Bool} {ad : Nat → Nat} {σ σ' : Sto} {H H1 : Heap} {a : Nat} {x : va_E} (hw : Wh E st ad σ H) (h1 : RS ≤ a) (h2 : a < sZ σ) (hs : Same σ σ' a) (hx : ent E.2.1 ad σ' a = x)
    (hR : ∀ b k, sR σ' b k < sZ σ) (hF : st = true → SFin σ') (hP : va_P E.1 vwCl ((wsOf E.2.1 ad σ).set (a - RS) (ad a, x)) H1) (hD : va_D (AE E) ((wsOf E.2.1 ad σ).set (a - RS) (ad a, x))) : Wh E st ad σ' H1 := by
  have e := ws_set (cA := E.2.1) (ad := ad) hs.1 h1 h2 hx (fun b hb => ent_same hs hb)
  rw [e] at hP hD
  refine ⟨hP, hD, by rw [hs.1]; exact hw.2.2.1, fun b k => by rw [hs.1]; exact hR b k, fun b hb => by rw [hs.1]; exact hw.2.2.2.2.1 b (by rw [← hs.2.1]; exact hb), hw.2.2.2.2.2.1, hF⟩
section GH
variable {p : Program} {l : Launch} {e : Env} {R : Room} {s : State} {m : MethodId} {args : Array Value} {below : List Frame} {meth : Method} {c : Code} {Q : State → Prop} {E : Ev} {st : Bool} {n0 : Nat} {ad0 : Nat → Nat} {nL cells slots : Nat} {σ : Sto} {pc : Nat} {L : List (Nat × Value)} {S : List Value} {cc : ByteArray} {own : String}
theorem G_getV (C : Cx E p s m args meth c cc nL own) {ix ci k a : Nat} {v : Value} (F : FL own ix ci k) (hk : KO st σ a (ci + 1)) (hv : ∀ (ad : Nat → Nat) (H : Heap), Wh E st ad σ H → fv ad σ a ci k = tr ad v ∧ vok (sZ σ) v)
    (hd : decode cc pc = .ok (.getfield ix, 3)) (kk : G p l e R s m args below meth c E st n0 ad0 Q nL cells slots σ (pc + 3) L (v :: S)) : G p l e R s m args below meth c E st n0 ad0 Q nL cells slots σ pc L (.ref a :: S) := by
  intro ad H locs ls hw hs ha hl vl vs
  obtain ⟨q, ref, hc, hin, hk0, hlink, hsame⟩ := F
  obtain ⟨hc12, hN, -, -⟩ := cl_ok ci q hc
  have hka := hk E ad H hw
  obtain ⟨g1, g2, g3⟩ := hw.lt hka (by omega)
  obtain ⟨hv1, hv2⟩ := hv ad H hw
  have he := ws_at (cA := E.2.1) (ad := ad) g1 g2
  rw [ent_o hka hc12] at he
  have k1 : W p l e R s m args below meth c H locs cells slots Q (F0 m (pc + 3) ls (tr ad v :: S.map (tr ad))) := kk ad H locs ls hw hs ha hl vl (vokS_cons.mpr ⟨hv2, vs.2⟩)
  show W p l e R s m args below meth c H locs cells slots Q (F0 m pc ls (rv ad a :: S.map (tr ad)))
  rw [rv_ne g3]
  refine va_get (C := q.1) (T := q.2.1) (N := q.2.2) (ref := ref) (index := ix) C.1 C.2.1 C.2.2.2.2.1 hin C.2.2.2.1 C.2.2.2.2.2.2.1 hw.1 (a - RS) he hc k hk0 (C.2.2.2.2.1 _ hlink) ?_ (v := tr ad v) (by rw [fvs_at (by rw [← hN]; exact hk0), hv1]) hd k1
  rcases hsame with h | h
  · intro x hx; rw [h]; exact hx
  · exact fun x hx => u_same (C.2.2.2.2.1 _ h) x hx
theorem G_getI (C : Cx E p s m args meth c cc nL own) {ix ci k a : Nat} (F : FL own ix ci k) (ht : fty ci k = .int ∨ fty ci k = .boolean) (hk : KO st σ a (ci + 1)) (hd : decode cc pc = .ok (.getfield ix, 3)) (kk : G p l e R s m args below meth c E st n0 ad0 Q nL cells slots σ (pc + 3) L (.int (sI σ a k) :: S)) : G p l e R s m args below meth c E st n0 ad0 Q nL cells slots σ pc L (.ref a :: S) :=
  G_getV (v := .int (sI σ a k)) C F hk (fun _ _ _ => ⟨fv_i ht, trivial⟩) hd kk
theorem G_getL (C : Cx E p s m args meth c cc nL own) {ix ci k a : Nat} (F : FL own ix ci k) (ht : fty ci k = .long) (hk : KO st σ a (ci + 1)) (hd : decode cc pc = .ok (.getfield ix, 3)) (kk : G p l e R s m args below meth c E st n0 ad0 Q nL cells slots σ (pc + 3) L (.long (sL σ a k) :: S)) : G p l e R s m args below meth c E st n0 ad0 Q nL cells slots σ pc L (.ref a :: S) :=
  G_getV (v := .long (sL σ a k)) C F hk (fun _ _ _ => ⟨fv_l ht, trivial⟩) hd kk
theorem G_getR (C : Cx E p s m args meth c cc nL own) {ix ci k a : Nat} (F : FL own ix ci k) (ht : isRf (fty ci k) = true) (hk : KO st σ a (ci + 1)) (hd : decode cc pc = .ok (.getfield ix, 3)) (kk : G p l e R s m args below meth c E st n0 ad0 Q nL cells slots σ (pc + 3) L (.ref (sR σ a k) :: S)) : G p l e R s m args below meth c E st n0 ad0 Q nL cells slots σ pc L (.ref a :: S) :=
  G_getV (v := .ref (sR σ a k)) C F hk (fun _ _ hw => ⟨fv_r ht, hw.2.2.2.1 a k⟩) hd kk
/-- a final field of a thing that is made once -/
theorem G_getF (C : Cx E p s m args meth c cc nL own) {ix ci k a b : Nat} (F : FL own ix ci k) (ht : isRf (fty ci k) = true) (hst : st = true) (hq : (a, ci, k, b) ∈ FINL) (hd : decode cc pc = .ok (.getfield ix, 3)) (kk : G p l e R s m args below meth c E st n0 ad0 Q nL cells slots σ (pc + 3) L (.ref b :: S)) : G p l e R s m args below meth c E st n0 ad0 Q nL cells slots σ pc L (.ref a :: S) :=
  G_getV (v := .ref b) C F (fun _ _ _ hw => ((hw.2.2.2.2.2.2 hst).2 _ hq).1) (fun ad _ hw => by
    have e : sR σ a k = b := ((hw.2.2.2.2.2.2 hst).2 _ hq).2
    exact ⟨by rw [fv_r ht, e]; rfl, by show b < sZ σ; rw [← e]; exact hw.2.2.2.1 a k⟩) hd kk
theorem G_putV (C : Cx E p s m args meth c cc nL own) {ix ci k a : Nat} {v : Value} {fin : Bool} {σ' : Sto} (F : FL own ix ci k) (P : FP own ci k fin) (hfin : fin = false ∨ meth.name = "<init>") (hk : KO st σ a (ci + 1)) (hS : Same σ σ' a)
    (hn : ∀ ad : Nat → Nat, fits (fty ci k) (tr ad v) = true ∧ narrow (fty ci k) (tr ad v) = tr ad v) (hv : ∀ ad : Nat → Nat, fv ad σ' a ci k = tr ad v ∧ ∀ j, j ≠ k → fv ad σ' a ci j = fv ad σ a ci j)
    (hR : ∀ n, (∀ b j, sR σ b j < n) → vok n v → ∀ b j, sR σ' b j < n) (hF : st = true → sK σ a = ci + 1 → SFin σ → SFin σ')
    (hd : decode cc pc = .ok (.putfield ix, 3)) (kk : G p l e R s m args below meth c E st n0 ad0 Q nL cells slots σ' (pc + 3) L S) : G p l e R s m args below meth c E st n0 ad0 Q nL cells slots σ pc L (v :: .ref a :: S) := by
  intro ad H locs ls hw hs ha hl vl vs
  obtain ⟨q, ref, hc, hin, hk0, hlink, hsame⟩ := F
  obtain ⟨q', hc', hf1, hf2⟩ := P
  cases Option.some.inj (hc.symm.trans hc')
  obtain ⟨hc12, hN, hty, hnm⟩ := cl_ok ci q hc
  have hka := hk E ad H hw
  obtain ⟨g1, g2, g3⟩ := hw.lt hka (by omega)
  obtain ⟨hv1, hv2⟩ := hv ad
  have vs1 := vokS_cons.mp vs
  have he := ws_at (cA := E.2.1) (ad := ad) g1 g2
  rw [ent_o hka hc12] at he
  have hka' : sK σ' a = ci + 1 := by rw [hS.2.1]; exact hka
  have hfs : (fvs ad σ a ci).set k (tr ad v) = fvs ad σ' a ci := fvs_set hv1 hv2
  have hkl : k < (fvs ad σ a ci).length := by rw [fvs, List.length_map, List.length_range, ← hN]; exact hk0
  have k1 : ∀ (H1 : Heap) (locs1 : List Loc), va_P E.1 vwCl ((wsOf E.2.1 ad σ).set (a - RS) (ad a, .inr (ci, (fvs ad σ a ci).set k (tr ad v)))) H1 → va_D (AE E) ((wsOf E.2.1 ad σ).set (a - RS) (ad a, .inr (ci, (fvs ad σ a ci).set k (tr ad v)))) → va_S (AE E) s.heap H1 locs1 → W p l e R s m args below meth c H1 locs1 cells slots Q (F0 m (pc + 3) ls (S.map (tr ad))) := by
    intro H1 locs1 hP hD hS1
    rw [hfs] at hP hD
    refine kk ad H1 locs1 ls (hw.put g1 g2 hS (ent_o hka' hc12) (hR _ hw.2.2.2.1 vs1.1) (fun z => hF z hka (hw.2.2.2.2.2.2 z)) hP hD) hS1 ⟨by rw [hS.1]; exact ha.1, ha.2⟩ hl (by rw [hS.1]; exact vl) (by rw [hS.1]; exact vs1.2.2)
  show W p l e R s m args below meth c H locs cells slots Q (F0 m pc ls (tr ad v :: rv ad a :: S.map (tr ad)))
  rw [rv_ne g3]
  have hsm : ∀ x, s.fieldFound? (q.2.1 k).1 (q.2.1 k).2.1 (q.2.1 k).2.2.1 = some x → s.fieldFound? ref (q.2.1 k).2.1 (q.2.1 k).2.2.1 = some x := by
    rcases hsame with h | h
    · intro x hx; rw [h]; exact hx
    · exact fun x hx => u_same (C.2.2.2.2.1 _ h) x hx
  cases hfc : fin with
  | false => exact va_put (C := q.1) (T := q.2.1) (N := q.2.2) (ref := ref) (index := ix) C.1 C.2.1 C.2.2.2.2.1 hin (fty ci) hty hnm C.2.2.2.1 C.2.2.2.2.2.2.1 hw.1 hw.2.1 hs (a - RS) he hc k hk0 (C.2.2.2.2.1 _ hlink) hsm (hf1.trans hfc) (hty k hk0) (hn ad).2 (hn ad).1 hkl hd k1
  | true =>
    have hin2 : meth.name = "<init>" := by rcases hfin with h | h; (rw [hfc] at h; cases h); exact h
    exact va_putF (C := q.1) (T := q.2.1) (N := q.2.2) (ref := ref) (index := ix) C.1 C.2.1 C.2.2.2.2.1 hin (fty ci) hty hnm C.2.2.2.1 C.2.2.2.2.2.2.1 hw.1 hw.2.1 hs (a - RS) he hc k hk0 (C.2.2.2.2.1 _ hlink) hsm (hf1.trans hfc) hin2 (hf2 hfc) (hty k hk0) (hn ad).2 (hn ad).1 hkl hd k1
theorem G_putI (C : Cx E p s m args meth c cc nL own) {ix ci k a : Nat} {v : Int32} {fin : Bool} (F : FL own ix ci k) (P : FP own ci k fin) (hfin : fin = false ∨ meth.name = "<init>") (ht : fty ci k = .int ∨ (fty ci k = .boolean ∧ isB v)) (hk : KO st σ a (ci + 1)) (hd : decode cc pc = .ok (.putfield ix, 3)) (kk : G p l e R s m args below meth c E st n0 ad0 Q nL cells slots (wI σ a k v) (pc + 3) L S) : G p l e R s m args below meth c E st n0 ad0 Q nL cells slots σ pc L (.int v :: .ref a :: S) :=
  G_putV C F P hfin hk (same_wI σ a k v) (fun _ => fits_i ht) (fun ad => ⟨by rw [fv_i (ht.imp id And.left), sI_wI, if_pos ⟨rfl, rfl⟩]; rfl, fun j hj => by simp only [fv, sI_wI, hj, and_false, if_false]; rfl⟩) (fun _ h _ => h) (fun _ _ h => h) hd kk
theorem G_putL (C : Cx E p s m args meth c cc nL own) {ix ci k a : Nat} {v : Int64} {fin : Bool} (F : FL own ix ci k) (P : FP own ci k fin) (hfin : fin = false ∨ meth.name = "<init>") (ht : fty ci k = .long) (hk : KO st σ a (ci + 1)) (hd : decode cc pc = .ok (.putfield ix, 3)) (kk : G p l e R s m args below meth c E st n0 ad0 Q nL cells slots (wL σ a k v) (pc + 3) L S) : G p l e R s m args below meth c E st n0 ad0 Q nL cells slots σ pc L (.long v :: .ref a :: S) :=
  G_putV C F P hfin hk (same_wL σ a k v) (fun _ => by rw [ht]; exact ⟨rfl, rfl⟩) (fun ad => ⟨by rw [fv_l ht, sL_wL, if_pos ⟨rfl, rfl⟩]; rfl, fun j hj => by simp only [fv, sL_wL, hj, and_false, if_false]; rfl⟩) (fun _ h _ => h) (fun _ _ h => h) hd kk
theorem G_putR (C : Cx E p s m args meth c cc nL own) {ix ci k a v : Nat} {fin : Bool} (F : FL own ix ci k) (P : FP own ci k fin) (hfin : fin = false ∨ meth.name = "<init>") (ht : isRf (fty ci k) = true) (hff : st = true → finfree ci k = true) (hk : KO st σ a (ci + 1)) (hd : decode cc pc = .ok (.putfield ix, 3)) (kk : G p l e R s m args below meth c E st n0 ad0 Q nL cells slots (wR σ a k v) (pc + 3) L S) : G p l e R s m args below meth c E st n0 ad0 Q nL cells slots σ pc L (.ref v :: .ref a :: S) :=
  G_putV C F P hfin hk (same_wR σ a k v) (fun _ => fits_r ht) (fun ad => ⟨by rw [fv_r ht, sR_wR, if_pos ⟨rfl, rfl⟩]; rfl, fun j hj => by simp only [fv, sR_wR, hj, and_false, if_false]; rfl⟩) (fun _ h hv b j => by rw [sR_wR]; split; exact hv; exact h b j) (fun z hka h => SFin_wR h hka (hff z)) hd kk
theorem G_alen (C : Cx E p s m args meth c cc nL own) {a t n : Nat} {v : Int32} (ht : t < 9) (hk : KD st σ a (100 + t) n) (hv : Int32.ofNat n = v) (hd : decode cc pc = .ok (.arraylength, 1)) (kk : G p l e R s m args below meth c E st n0 ad0 Q nL cells slots σ (pc + 1) L (.int v :: S)) : G p l e R s m args below meth c E st n0 ad0 Q nL cells slots σ pc L (.ref a :: S) := by
  intro ad H locs ls hw hs ha hl vl vs
  obtain ⟨hka, hn⟩ := hk E ad H hw
  obtain ⟨g1, g2, g3⟩ := hw.lt hka (by omega)
  have he := ws_at (cA := E.2.1) (ad := ad) g1 g2
  rw [ent_a hka, hn] at he
  show W p l e R s m args below meth c H locs cells slots Q (F0 m pc ls (rv ad a :: S.map (tr ad)))
  rw [rv_ne g3]
  exact va_alen C.1 C.2.1 C.2.2.2.2.2.2.1 hw.1 (a - RS) t he (tys_at ht) hv hd (kk ad H locs ls hw hs ha hl vl vs.2)
theorem G_iaload (C : Cx E p s m args meth c cc nL own) {a n : Nat} {i : Int32} (hk : KD st σ a (100 + 0) n) (hi : inb i n) (hd : decode cc pc = .ok (.iaload, 1)) (kk : G p l e R s m args below meth c E st n0 ad0 Q nL cells slots σ (pc + 1) L (.int (sI σ a i.toNatClampNeg) :: S)) : G p l e R s m args below meth c E st n0 ad0 Q nL cells slots σ pc L (.int i :: .ref a :: S) := by
  intro ad H locs ls hw hs ha hl vl vs
  obtain ⟨hka, hn⟩ := hk E ad H hw
  obtain ⟨g1, g2, g3⟩ := hw.lt hka (by omega)
  have he := ws_at (cA := E.2.1) (ad := ad) g1 g2
  rw [ent_a hka, hn] at he
  show W p l e R s m args below meth c H locs cells slots Q (F0 m pc ls (.int i :: rv ad a :: S.map (tr ad)))
  rw [rv_ne g3]
  exact va_iald C.1 C.2.1 C.2.2.2.2.2.2.1 hw.1 (a - RS) 0 he (tys_at (by decide)) (inb_in hi) hd (kk ad H locs ls hw hs ha hl vl vs.2)
theorem G_laload (C : Cx E p s m args meth c cc nL own) {a n : Nat} {i : Int32} (hk : KD st σ a (100 + 1) n) (hi : inb i n) (hd : decode cc pc = .ok (.laload, 1)) (kk : G p l e R s m args below meth c E st n0 ad0 Q nL cells slots σ (pc + 1) L (.long (sL σ a i.toNatClampNeg) :: S)) : G p l e R s m args below meth c E st n0 ad0 Q nL cells slots σ pc L (.int i :: .ref a :: S) := by
  intro ad H locs ls hw hs ha hl vl vs
  obtain ⟨hka, hn⟩ := hk E ad H hw
  obtain ⟨g1, g2, g3⟩ := hw.lt hka (by omega)
  have he := ws_at (cA := E.2.1) (ad := ad) g1 g2
  rw [ent_a hka, hn] at he
  show W p l e R s m args below meth c H locs cells slots Q (F0 m pc ls (.int i :: rv ad a :: S.map (tr ad)))
  rw [rv_ne g3]
  exact va_lald C.1 C.2.1 C.2.2.2.2.2.2.1 hw.1 (a - RS) 1 he (tys_at (by decide)) (inb_in hi) hd (kk ad H locs ls hw hs ha hl vl vs.2)
theorem G_zaload (C : Cx E p s m args meth c cc nL own) {a n : Nat} {i : Int32} (hk : KD st σ a (100 + 2) n) (hi : inb i n) (hd : decode cc pc = .ok (.baload, 1)) (kk : G p l e R s m args below meth c E st n0 ad0 Q nL cells slots σ (pc + 1) L (.int (sI σ a i.toNatClampNeg) :: S)) : G p l e R s m args below meth c E st n0 ad0 Q nL cells slots σ pc L (.int i :: .ref a :: S) := by
  intro ad H locs ls hw hs ha hl vl vs
  obtain ⟨hka, hn⟩ := hk E ad H hw
  obtain ⟨g1, g2, g3⟩ := hw.lt hka (by omega)
  have he := ws_at (cA := E.2.1) (ad := ad) g1 g2
  rw [ent_a hka, hn] at he
  show W p l e R s m args below meth c H locs cells slots Q (F0 m pc ls (.int i :: rv ad a :: S.map (tr ad)))
  rw [rv_ne g3]
  exact va_zald C.1 C.2.1 C.2.2.2.2.2.2.1 hw.1 (a - RS) 2 he (tys_at (by decide)) (inb_in hi) hd (kk ad H locs ls hw hs ha hl vl vs.2)
theorem G_aaload (C : Cx E p s m args meth c cc nL own) {a t n : Nat} {i : Int32} (ht : t < 9 ∧ 3 ≤ t) (hk : KD st σ a (100 + t) n) (hi : inb i n) (hd : decode cc pc = .ok (.aaload, 1)) (kk : G p l e R s m args below meth c E st n0 ad0 Q nL cells slots σ (pc + 1) L (.ref (sR σ a i.toNatClampNeg) :: S)) : G p l e R s m args below meth c E st n0 ad0 Q nL cells slots σ pc L (.int i :: .ref a :: S) := by
  intro ad H locs ls hw hs ha hl vl vs
  obtain ⟨hka, hn⟩ := hk E ad H hw
  obtain ⟨g1, g2, g3⟩ := hw.lt hka (by omega)
  have he := ws_at (cA := E.2.1) (ad := ad) g1 g2
  obtain ⟨CN, hCN, -⟩ := C.2.2.2.2.2.2.2.2.1 t ht.1 ht.2
  have hty := tys_at (cA := E.2.1) ht.1
  rw [hCN] at hty
  rw [ent_a hka, hn, arr, if_neg (by omega), if_neg (by omega)] at he
  show W p l e R s m args below meth c H locs cells slots Q (F0 m pc ls (.int i :: rv ad a :: S.map (tr ad)))
  rw [rv_ne g3]
  exact va_aldq C.1 C.2.1 C.2.2.2.2.2.2.1 hw.1 (a - RS) t he hty (inb_in hi) hd (kk ad H locs ls hw hs ha hl vl ⟨hw.2.2.2.1 a _, vs.2⟩)
theorem G_iastore (C : Cx E p s m args meth c cc nL own) {a n : Nat} {i : Int32} {x : Int32} (hk : KD st σ a (100 + 0) n) (hi : inb i n) (hd : decode cc pc = .ok (.iastore, 1)) (kk : G p l e R s m args below meth c E st n0 ad0 Q nL cells slots (wI σ a i.toNatClampNeg x) (pc + 1) L S) : G p l e R s m args below meth c E st n0 ad0 Q nL cells slots σ pc L (.int x :: .int i :: .ref a :: S) := by
  intro ad H locs ls hw hs ha hl vl vs
  obtain ⟨hka, hn⟩ := hk E ad H hw
  obtain ⟨g1, g2, g3⟩ := hw.lt hka (by omega)
  have he := ws_at (cA := E.2.1) (ad := ad) g1 g2
  rw [ent_a hka, hn] at he
  have hS := same_wI σ a i.toNatClampNeg x
  show W p l e R s m args below meth c H locs cells slots Q (F0 m pc ls (.int x :: .int i :: rv ad a :: S.map (tr ad)))
  rw [rv_ne g3]
  refine va_iast C.1 C.2.1 C.2.2.2.2.2.2.1 hw.1 hw.2.1 hs (a - RS) 0 he (tys_at (by decide)) (inb_in hi) hd (fun H1 locs1 hP hD hS1 => ?_)
  refine kk ad H1 locs1 ls (hw.put g1 g2 hS ?_ hw.2.2.2.1 (fun z => hw.2.2.2.2.2.2 z) hP hD) hS1 ha hl vl vs.2
  rw [ent_a (t := 0) (by rw [hS.2.1]; exact hka), hS.2.2.1, hn]
  refine congrArg (fun z => Sum.inl (E.2.1 0, n, z)) ?_
  refine congrArg (Sum.inl) ?_
  funext j
  show (if a = a ∧ j = i.toNatClampNeg then x else σ.1 a j) = _
  by_cases hj : j = i.toNatClampNeg
  · rw [if_pos ⟨rfl, hj⟩]; simp only [upd, hj, if_true]
  · rw [if_neg (fun q => hj q.2)]; simp only [upd, hj, if_false]; rfl
theorem G_lastore (C : Cx E p s m args meth c cc nL own) {a n : Nat} {i : Int32} {x : Int64} (hk : KD st σ a (100 + 1) n) (hi : inb i n) (hd : decode cc pc = .ok (.lastore, 1)) (kk : G p l e R s m args below meth c E st n0 ad0 Q nL cells slots (wL σ a i.toNatClampNeg x) (pc + 1) L S) : G p l e R s m args below meth c E st n0 ad0 Q nL cells slots σ pc L (.long x :: .int i :: .ref a :: S) := by
  intro ad H locs ls hw hs ha hl vl vs
  obtain ⟨hka, hn⟩ := hk E ad H hw
  obtain ⟨g1, g2, g3⟩ := hw.lt hka (by omega)
  have he := ws_at (cA := E.2.1) (ad := ad) g1 g2
  rw [ent_a hka, hn] at he
  have hS := same_wL σ a i.toNatClampNeg x
  show W p l e R s m args below meth c H locs cells slots Q (F0 m pc ls (.long x :: .int i :: rv ad a :: S.map (tr ad)))
  rw [rv_ne g3]
  refine va_last C.1 C.2.1 C.2.2.2.2.2.2.1 hw.1 hw.2.1 hs (a - RS) 1 he (tys_at (by decide)) (inb_in hi) hd (fun H1 locs1 hP hD hS1 => ?_)
  refine kk ad H1 locs1 ls (hw.put g1 g2 hS ?_ hw.2.2.2.1 (fun z => hw.2.2.2.2.2.2 z) hP hD) hS1 ha hl vl vs.2
  rw [ent_a (t := 1) (by rw [hS.2.1]; exact hka), hS.2.2.1, hn]
  refine congrArg (fun z => Sum.inl (E.2.1 1, n, z)) ?_
  refine congrArg (fun (z : Nat → Int64) => (Sum.inr (Sum.inl z) : (Nat → Int32) ⊕ (Nat → Int64) ⊕ (Nat → UInt32) ⊕ (Nat → UInt64) ⊕ (Nat → Option Nat))) ?_
  funext j
  show (if a = a ∧ j = i.toNatClampNeg then x else σ.2.1 a j) = _
  by_cases hj : j = i.toNatClampNeg
  · rw [if_pos ⟨rfl, hj⟩]; simp only [vp_updL, hj, if_true]
  · rw [if_neg (fun q => hj q.2)]; simp only [vp_updL, hj, if_false]; rfl
theorem G_zastore (C : Cx E p s m args meth c cc nL own) {a n : Nat} {i : Int32} {x : Int32} (hk : KD st σ a (100 + 2) n) (hi : inb i n) (hb : isB x) (hd : decode cc pc = .ok (.bastore, 1)) (kk : G p l e R s m args below meth c E st n0 ad0 Q nL cells slots (wI σ a i.toNatClampNeg x) (pc + 1) L S) : G p l e R s m args below meth c E st n0 ad0 Q nL cells slots σ pc L (.int x :: .int i :: .ref a :: S) := by
  intro ad H locs ls hw hs ha hl vl vs
  obtain ⟨hka, hn⟩ := hk E ad H hw
  obtain ⟨g1, g2, g3⟩ := hw.lt hka (by omega)
  have he := ws_at (cA := E.2.1) (ad := ad) g1 g2
  rw [ent_a hka, hn] at he
  have hS := same_wI σ a i.toNatClampNeg x
  show W p l e R s m args below meth c H locs cells slots Q (F0 m pc ls (.int x :: .int i :: rv ad a :: S.map (tr ad)))
  rw [rv_ne g3]
  refine va_zast C.1 C.2.1 C.2.2.2.2.2.2.1 hw.1 hw.2.1 hs (a - RS) 2 he (tys_at (by decide)) (inb_in hi) hd (fun H1 locs1 hP hD hS1 => ?_)
  refine kk ad H1 locs1 ls (hw.put g1 g2 hS ?_ hw.2.2.2.1 (fun z => hw.2.2.2.2.2.2 z) hP hD) hS1 ha hl vl vs.2
  rw [ent_a (t := 2) (by rw [hS.2.1]; exact hka), hS.2.2.1, hn]
  refine congrArg (fun z => Sum.inl (E.2.1 2, n, z)) ?_
  refine congrArg (Sum.inl) ?_
  funext j
  show (if a = a ∧ j = i.toNatClampNeg then x else σ.1 a j) = _
  rw [nar_b hb]
  by_cases hj : j = i.toNatClampNeg
  · rw [if_pos ⟨rfl, hj⟩]; simp only [upd, hj, if_true]
  · rw [if_neg (fun q => hj q.2)]; simp only [upd, hj, if_false]; rfl
theorem G_aastore (C : Cx E p s m args meth c cc nL own) {a t n ci v : Nat} {i : Int32} {q : vw_C} (ht : t < 9 ∧ 3 ≤ t) (hc : vwCl[ci]? = some q) (hq : aty t = .object q.1) (hk : KD st σ a (100 + t) n) (hv : KO st σ v (ci + 1)) (hi : inb i n) (hd : decode cc pc = .ok (.aastore, 1)) (kk : G p l e R s m args below meth c E st n0 ad0 Q nL cells slots (wR σ a i.toNatClampNeg v) (pc + 1) L S) : G p l e R s m args below meth c E st n0 ad0 Q nL cells slots σ pc L (.ref v :: .int i :: .ref a :: S) := by
  intro ad H locs ls hw hs ha hl vl vs
  obtain ⟨hka, hn⟩ := hk E ad H hw
  have hkv := hv E ad H hw
  obtain ⟨g1, g2, g3⟩ := hw.lt hka (by omega)
  obtain ⟨f1, f2, f3⟩ := hw.lt hkv (by omega)
  have he := ws_at (cA := E.2.1) (ad := ad) g1 g2
  have hf := ws_at (cA := E.2.1) (ad := ad) f1 f2
  obtain ⟨hc12, -, -, -⟩ := cl_ok ci q hc
  have hty := tys_at (cA := E.2.1) ht.1
  rw [hq] at hty
  rw [ent_a hka, hn, arr, if_neg (by omega), if_neg (by omega)] at he
  rw [ent_o hkv hc12] at hf
  have hS := same_wR σ a i.toNatClampNeg v
  show W p l e R s m args below meth c H locs cells slots Q (F0 m pc ls (rv ad v :: .int i :: rv ad a :: S.map (tr ad)))
  rw [rv_ne g3, rv_ne f3]
  refine va_astq (r := q) C.1 C.2.1 C.2.2.2.2.2.2.1 hw.1 hw.2.1 hs (a - RS) t (v - RS) ci he hty hf hc (inb_in hi) hd (fun H1 locs1 hP hD hS1 => ?_)
  refine kk ad H1 locs1 ls (hw.put g1 g2 hS ?_ (fun b j => by rw [sR_wR]; split; exact vs.1; exact hw.2.2.2.1 b j) (fun z => SFin_wRa (hw.2.2.2.2.2.2 z) (by omega) fin_cls) hP hD) hS1 ha hl vl vs.2.2
  rw [ent_a (t := t) (by rw [hS.2.1]; exact hka), hS.2.2.1, hn, arr, if_neg (by omega), if_neg (by omega)]
  refine congrArg (fun z => Sum.inl (E.2.1 t, n, Sum.inr (Sum.inr (Sum.inr (Sum.inr z))))) ?_
  funext j
  rw [sR_wR]
  by_cases hj : j = i.toNatClampNeg
  · rw [if_pos ⟨rfl, hj⟩]; simp only [va_up, hj, if_true, ro, f3, if_false]
  · rw [if_neg (fun q => hj q.2)]; simp only [va_up, hj, if_false]
end GH
