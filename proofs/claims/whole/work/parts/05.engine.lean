/-! THE STORE: what the class's and the reference's cells hold, by addresses of our own (0 is null; below RS: the script and the texts) -/
abbrev Sto : Type := (Nat → Nat → Int32) × (Nat → Nat → Int64) × (Nat → Nat → Nat) × (Nat → Nat) × (Nat → Nat) × Nat
def sI (σ : Sto) (a k : Nat) : Int32 := σ.1 a k
def sL (σ : Sto) (a k : Nat) : Int64 := σ.2.1 a k
def sR (σ : Sto) (a k : Nat) : Nat := σ.2.2.1 a k
def sK (σ : Sto) (a : Nat) : Nat := σ.2.2.2.1 a
def sN (σ : Sto) (a : Nat) : Nat := σ.2.2.2.2.1 a
def sZ (σ : Sto) : Nat := σ.2.2.2.2.2
def up1 {α : Type} (f : Nat → α) (a : Nat) (v : α) : Nat → α := fun b => if b = a then v else f b
def up2 {α : Type} (f : Nat → Nat → α) (a k : Nat) (v : α) : Nat → Nat → α := fun b j => if b = a ∧ j = k then v else f b j
def wI (σ : Sto) (a k : Nat) (v : Int32) : Sto := (up2 σ.1 a k v, σ.2)
def wL (σ : Sto) (a k : Nat) (v : Int64) : Sto := (σ.1, up2 σ.2.1 a k v, σ.2.2)
def wR (σ : Sto) (a k : Nat) (v : Nat) : Sto := (σ.1, σ.2.1, up2 σ.2.2.1 a k v, σ.2.2.2)
def nwK (σ : Sto) (kd len : Nat) : Sto := (fun b j => if b = sZ σ then 0 else σ.1 b j, fun b j => if b = sZ σ then 0 else σ.2.1 b j, fun b j => if b = sZ σ then 0 else σ.2.2.1 b j, up1 σ.2.2.2.1 (sZ σ) kd, up1 σ.2.2.2.2.1 (sZ σ) len, sZ σ + 1)
def RS : Nat := 32
/-- the fields' types, by the classes' numbers; the arrays' types -/
def fty : Nat → Nat → FieldType := fun ci => match ci with
  | 0 => tyX0
  | 1 => tyX1
  | 2 => tyX2
  | 3 => tyX3
  | 4 => tyX4
  | 5 => tyX5
  | 6 => tyX6
  | 7 => tyX7
  | 8 => tyX8
  | 9 => tyX10
  | 10 => tyX11
  | _ => tyX12
def nF : Nat → Nat := fun ci => match ci with
  | 0 => 19
  | 1 => 16
  | 2 => 5
  | 3 => 13
  | 4 => 16
  | 5 => 2
  | 6 => 3
  | 7 => 11
  | 8 => 2
  | 9 => 8
  | 10 => 9
  | _ => 101
def aty : Nat → FieldType := fun t => match t with
  | 0 => .int
  | 1 => .long
  | 2 => .boolean
  | 3 => .object RX5
  | 4 => .object RX10
  | 5 => .object RX8
  | 6 => .object RX6
  | 7 => .object RX3
  | _ => .object RX4
def ro (ad : Nat → Nat) (r : Nat) : Option Nat := if r = 0 then none else some (ad r)
def rv (ad : Nat → Nat) (r : Nat) : Value := va_rf (ro ad r)
def tr (ad : Nat → Nat) (v : Value) : Value := match v with
  | .ref a => rv ad a
  | .int x => .int x
  | .long x => .long x
  | .float x => .float x
  | .double x => .double x
  | .null => .null
  | .retAddr x => .retAddr x
def trp (ad : Nat → Nat) (q : Nat × Value) : Nat × Value := (q.1, tr ad q.2)
def fv (ad : Nat → Nat) (σ : Sto) (a ci k : Nat) : Value := match fty ci k with
  | .long => .long (sL σ a k)
  | .int => .int (sI σ a k)
  | .boolean => .int (sI σ a k)
  | _ => rv ad (sR σ a k)
def fvs (ad : Nat → Nat) (σ : Sto) (a ci : Nat) : List Value := (List.range (nF ci)).map (fv ad σ a ci)
def arr (ad : Nat → Nat) (σ : Sto) (a t : Nat) : (Nat → Int32) ⊕ (Nat → Int64) ⊕ (Nat → UInt32) ⊕ (Nat → UInt64) ⊕ (Nat → Option Nat) :=
  if t = 1 then .inr (.inl (sL σ a)) else if t = 0 ∨ t = 2 then .inl (sI σ a) else .inr (.inr (.inr (.inr (fun j => ro ad (sR σ a j)))))
def ent (cA : Nat → ClassId) (ad : Nat → Nat) (σ : Sto) (a : Nat) : va_E :=
  if sK σ a < 100 then .inr (sK σ a - 1, fvs ad σ a (sK σ a - 1)) else .inl (cA (sK σ a - 100), sN σ a, arr ad σ a (sK σ a - 100))
def wsOf (cA : Nat → ClassId) (ad : Nat → Nat) (σ : Sto) : va_W := (List.range (sZ σ - RS)).map (fun i => (ad (RS + i), ent cA ad σ (RS + i)))
def tysA (cA : Nat → ClassId) : List (ClassId × FieldType) := (List.range 9).map (fun t => (cA t, aty t))
/-- D, the array classes, the heap's size at the very start, the script's cell, length and ints, the texts' cells and their byte rows -/
abbrev Ev : Type := va_G × (Nat → ClassId) × Nat × (Nat × Nat × (Nat → Int32)) × (Nat → Nat) × (Nat → Nat)
def AE (E : Ev) : Nat → Prop := fun q => E.2.2.1 ≤ q
/-- the reader's texts, by their numbers: lengths, bytes -/
def txLen : List Nat := [9, 43, 3, 59, 3, 2]
def txByt : List (List Int32) := [[59, 40, 41, 43, 45, 42, 47, 60, 61], [100, 117, 101, 32, 115, 116, 101, 112, 32, 114, 101, 115, 116, 32, 108, 101, 97, 115, 116, 32, 109, 111, 115, 116, 32, 121, 101, 97, 114, 115, 32, 99, 108, 97, 105, 109, 32, 97, 103, 114, 101, 101, 115], [110, 111, 116], [112, 114, 105, 99, 101, 32, 115, 101, 108, 108, 101, 114, 32, 98, 117, 121, 101, 114, 32, 104, 111, 119, 32, 97, 114, 116, 105, 115, 116, 32, 104, 101, 108, 100, 32, 102, 114, 111, 109, 32, 97, 103, 97, 105, 110, 32, 106, 111, 105, 110, 116, 32, 101, 100, 105, 116, 105, 111, 110], [97, 110, 100], [111, 114]]
def STAT : List (Nat × Nat × Nat) := [(32, 11, 0), (33, 2, 0), (34, 103, 31), (35, 104, 31), (36, 105, 6), (37, 106, 61), (38, 107, 201), (39, 107, 201), (40, 108, 13), (41, 6, 0), (42, 10, 0), (43, 100, 3), (44, 100, 3), (45, 9, 0), (46, 7, 0), (47, 4, 0), (48, 5, 0), (49, 100, 16), (50, 100, 16), (51, 100, 500), (52, 100, 64), (53, 1, 0), (54, 100, 30), (55, 100, 30), (56, 100, 10), (57, 100, 30), (58, 100, 30), (59, 100, 30), (60, 100, 30), (61, 100, 30), (62, 100, 30), (63, 3, 0), (64, 101, 25), (65, 101, 32), (66, 100, 32), (67, 8, 0), (68, 100, 0), (69, 5, 0), (70, 100, 16), (71, 100, 16), (72, 100, 500), (73, 100, 64), (74, 100, 500), (75, 5, 0), (76, 100, 16), (77, 100, 16), (78, 100, 500), (79, 100, 64), (80, 101, 30), (81, 12, 0), (82, 100, 30), (83, 100, 30), (84, 100, 30), (85, 100, 90), (86, 100, 90), (87, 100, 30), (88, 100, 30), (89, 100, 30), (90, 100, 30), (91, 102, 30), (92, 100, 5), (93, 100, 5), (94, 100, 60), (95, 100, 60), (96, 100, 60), (97, 100, 200), (98, 100, 200), (99, 100, 200), (100, 100, 200), (101, 100, 200), (102, 100, 200), (103, 100, 200), (104, 100, 200), (105, 100, 200), (106, 100, 200), (107, 100, 200), (108, 100, 200), (109, 100, 200), (110, 100, 200), (111, 100, 500), (112, 100, 13), (113, 100, 13), (114, 100, 13), (115, 100, 13), (116, 100, 13), (117, 100, 13), (118, 100, 13), (119, 100, 13), (120, 100, 13), (121, 100, 13), (122, 100, 13), (123, 100, 13), (124, 100, 208), (125, 100, 208), (126, 100, 15800), (127, 100, 520), (128, 102, 9), (129, 100, 30), (130, 100, 30), (131, 100, 31), (132, 100, 200), (133, 100, 10), (134, 100, 520), (135, 100, 30), (136, 100, 30), (137, 100, 30), (138, 100, 30), (139, 100, 30), (140, 100, 30), (141, 100, 30), (142, 101, 25), (143, 100, 32), (144, 100, 200), (145, 101, 30), (146, 101, 1)]
def FINL : List (Nat × Nat × Nat × Nat) := [(32, 10, 0, 33), (32, 10, 1, 53), (32, 10, 2, 63), (32, 10, 3, 67), (32, 10, 4, 74), (32, 10, 8, 80), (33, 1, 2, 34), (33, 1, 4, 35), (33, 1, 6, 36), (33, 1, 8, 37), (33, 1, 10, 38), (33, 1, 12, 39), (33, 1, 14, 40), (53, 0, 0, 33), (53, 0, 2, 54), (53, 0, 3, 55), (53, 0, 4, 56), (53, 0, 13, 57), (53, 0, 14, 58), (53, 0, 15, 59), (53, 0, 16, 60), (53, 0, 17, 61), (53, 0, 18, 62), (63, 2, 0, 33), (63, 2, 1, 53), (63, 2, 2, 64), (63, 2, 3, 65), (63, 2, 4, 66), (81, 11, 9, 82), (81, 11, 10, 83), (81, 11, 11, 84), (81, 11, 12, 85), (81, 11, 13, 86), (81, 11, 14, 87), (81, 11, 15, 88), (81, 11, 16, 89), (81, 11, 17, 90), (81, 11, 18, 91), (81, 11, 19, 92), (81, 11, 20, 93), (81, 11, 21, 94), (81, 11, 22, 95), (81, 11, 23, 96), (81, 11, 24, 97), (81, 11, 25, 98), (81, 11, 26, 99), (81, 11, 27, 100), (81, 11, 28, 101), (81, 11, 29, 102), (81, 11, 30, 103), (81, 11, 31, 104), (81, 11, 32, 105), (81, 11, 33, 106), (81, 11, 34, 107), (81, 11, 35, 108), (81, 11, 36, 109), (81, 11, 37, 110), (81, 11, 38, 111), (81, 11, 55, 112), (81, 11, 56, 113), (81, 11, 57, 114), (81, 11, 58, 115), (81, 11, 59, 116), (81, 11, 60, 117), (81, 11, 61, 118), (81, 11, 62, 119), (81, 11, 63, 120), (81, 11, 64, 121), (81, 11, 65, 122), (81, 11, 66, 123), (81, 11, 67, 124), (81, 11, 68, 125), (81, 11, 69, 126), (81, 11, 70, 127), (81, 11, 71, 128), (81, 11, 74, 129), (81, 11, 75, 130), (81, 11, 76, 131), (81, 11, 77, 132), (81, 11, 87, 133), (81, 11, 88, 134), (81, 11, 89, 135), (81, 11, 90, 136), (81, 11, 91, 137), (81, 11, 92, 138), (81, 11, 93, 139), (81, 11, 94, 140), (81, 11, 95, 141), (81, 11, 96, 142), (81, 11, 97, 143), (81, 11, 99, 144), (81, 11, 100, 145)]

abbrev inb (i : Int32) (n : Nat) : Prop := ¬ i < 0 ∧ i.toNatClampNeg < n
theorem inb_in {i : Int32} {n : Nat} (h : inb i n) : vp_in i n := fun q => q.elim h.1 (fun z => Nat.not_le.mpr h.2 z)
theorem ifn {p : Prop} [Decidable p] {α : Type} {x : Option α} {r : α} (h : (if p then x else none) = some r) : p ∧ x = some r := by
  by_cases hp : p
  · exact ⟨hp, by rw [if_pos hp] at h; exact h⟩
  · rw [if_neg hp] at h; cases h
theorem bnd {α β : Type} {x : Option α} {f : α → Option β} {r : β} (h : x.bind f = some r) : ∃ v, x = some v ∧ f v = some r := by
  cases x with
  | none => cases h
  | some v => exact ⟨v, rfl, h⟩
/-! words -/
def BW : List Cond := lw_tbl.filter goodWord
theorem bw {w : Cond} (h : w ∈ lw_tbl) (g : goodWord w = true) : w ∈ BW := List.mem_filter.mpr ⟨h, g⟩
theorem bw_good {w : Cond} (h : w ∈ BW) : (w.onTables && w.keeps) = true ∨ ∃ ty, w = .arrayClass ty := good_of_word (List.mem_filter.mp h).2
theorem bw_in {ws : List Cond} (h : ∀ w ∈ ws, w ∈ BW) : GoodIn BW ws := fun w hw => ⟨h w hw, bw_good (h w hw)⟩
def wsY (y : MethodName) (bytes : ByteArray) (maxL : Nat) (ret : Option FieldType) : List Cond := .code y bytes maxL ret :: BW
def rmd (d mc ms : Nat) : Room := { frames := d, cells := mc, slots := ms, locals := 100 * d }
/-! what stands fast -/
def rtx : List (Nat × String × Nat) := [(66, ";()+-*/<=", 0), (89, "due step rest least most years claim agrees", 1), (152, "not", 2), (163, "price seller buyer how artist held from again joint edition", 3), (150, "and", 4), (138, "or", 5)]
def msgs : List (Nat × String) := [(360, "no such LAND"), (362, "no such PERSON"), (364, "no such WORK"), (153, "so many EVENINGS can't go by"), (200, "no such kind"), (366, "no such society"), (212, "no such FACT or LAW"), (371, "no such SALE"), (380, "the tape has not so many bytes"), (373, "no such what"), (377, "no such EVENING"), (375, "no such YEAR"), (331, "within is below 0"), (337, "no such DAY"), (355, "there is none HIDDEN of that number")]
def nests : List (String × Nat × MethodName) := [("SalePart$Fact", 3, yX9_init), ("SalePart$Law", 3, yX9_init), ("SalePart", 36, yX7_init), ("SalePart$Books", 120, yX11_twelfths), ("SalePart$Account", 102, yX11_isWithin), ("SalePart$Clearing", 79, yX11_isWithin)]
def nsE : String := "java/util/NoSuchElementException"
def iaE : String := "java/lang/IllegalArgumentException"
def xdecl : List MethodName := [⟨"java/lang/RuntimeException", "<init>", "(Ljava/lang/String;)V"⟩, ⟨"java/lang/Exception", "<init>", "(Ljava/lang/String;)V"⟩, ⟨"java/lang/Throwable", "<init>", "(Ljava/lang/String;)V"⟩]
/-- the tables' words that are not 'good' ones: nest mates, what is declared, castable, and not castable; the JDK's statics -/
def Xk (E : Ev) (U : State) (H : Heap) : Prop :=
  (∀ q ∈ nests, va_Nw (.methodLinkNest q.1 q.2.1 q.2.2 "SalePart") U) ∧ (∀ x ∈ xdecl, va_Nw (.declares x) U) ∧ (∀ C ∈ [nsE, iaE], va_Nw (.castable C C) U) ∧ va_Nc iaE nsE U ∧
  va_Z "java/lang/String" "COMPACT_STRINGS" "Z" (.int 1) (AE E) U H ∧ va_Zq "jdk/internal/util/Preconditions" "SIOOBE_FORMATTER" "Ljava/util/function/BiFunction;" (AE E) U H
theorem Xk.kept {E : Ev} {U : State} {H H1 : Heap} (h : Xk E U H) (hq : ∀ a : Nat, a < H.size → ¬ AE E a → H1[a]? = H[a]?) : Xk E U H1 := by
  obtain ⟨h1, h2, h3, h4, h5, h6⟩ := h
  exact ⟨h1, h2, h3, h4, h5.kept hq, h6.kept hq⟩
theorem Xk.warm {E : Ev} {s U : State} {H : Heap} (hW : s.WarmedH U.vm) (h : Xk E s H) : Xk E U H := by
  obtain ⟨h1, h2, h3, h4, h5, h6⟩ := h
  exact ⟨fun q hq => va_Nw.warmM hW (h1 q hq), fun x hx => va_Nw.warmD hW (h2 x hx), fun C hC => va_Nw.warmC hW (h3 C hC), h4.moved hW.alike, h5.moved hW.alike, h6.moved hW.alike⟩
def Fk (E : Ev) (U : State) (H : Heap) : Prop :=
  va_K E.1 vwCl (tysA E.2.1) U ∧ Xk E U H ∧ (∀ t, t < 9 → 3 ≤ t → ∃ C, aty t = .object C ∧ va_AO C U) ∧
  vx_Zq Bundle.tN "UNASSIGNED_STACK" Bundle.steD (AE E) U H ∧ vx_Zq Bundle.tN "SUPPRESSED_SENTINEL" Bundle.listD (AE E) U H ∧
  vk_S 6 txLen txByt E.2.2.2.2.1 E.2.2.2.2.2 (AE E) U H ∧ (∀ q ∈ rtx, vk_R "SalePart$Reader" q.1 q.2.1 (E.2.2.2.2.1 q.2.2) U) ∧ (∀ q ∈ msgs, ∃ sa, vk_R "SalePart" q.1 q.2 sa U) ∧
  va_X E.2.2.2.1.1 E.2.2.2.1.2.1 E.2.2.2.1.2.2 U H ∧ ¬ AE E E.2.2.2.1.1 ∧ E.2.2.1 ≤ H.size
theorem Fk.kept {E : Ev} {U : State} {H H1 : Heap} (h : Fk E U H) (hz : H.size ≤ H1.size) (hq : ∀ a : Nat, a < H.size → ¬ AE E a → H1[a]? = H[a]?) : Fk E U H1 := by
  obtain ⟨h1, h2, h3, h4, h5, h6, h7, h8, h9, h10, h11⟩ := h
  refine ⟨h1, h2.kept hq, h3, h4.kept hq, h5.kept hq, h6.kept hq, h7, h8, ?_, h10, Nat.le_trans h11 hz⟩
  obtain ⟨scr, g1, g2⟩ := h9
  exact ⟨scr, by rw [hq _ (Array.getElem?_eq_some_iff.mp g1).1 h10]; exact g1, g2⟩
theorem va_AO.warm {C : String} {s U : State} (hW : s.WarmedH U.vm) (h : va_AO C s) : va_AO C U := va_AO.moved hW.alike h
theorem Fk.warm {E : Ev} {s U : State} {H : Heap} (hW : s.WarmedH U.vm) (h : Fk E s H) : Fk E U H := by
  obtain ⟨h1, h2, h3, h4, h5, h6, h7, h8, h9, h10⟩ := h
  refine ⟨va_K.moved hW.alike h1, h2.warm hW, fun t a b => ?_, vx_Zq.moved hW.alike h4, vx_Zq.moved hW.alike h5, vk_S.moved hW.alike h6, fun q hq => vk_R.warm hW (h7 q hq), fun q hq => ?_, va_X.moved hW.alike h9, h10⟩
  · obtain ⟨C, e1, e2⟩ := h3 t a b
    exact ⟨C, e1, va_AO.warm hW e2⟩
  · obtain ⟨sa, e⟩ := h8 q hq
    exact ⟨sa, vk_R.warm hW e⟩
/-! the world of a store -/
def SFin (σ : Sto) : Prop := (∀ q ∈ STAT, sK σ q.1 = q.2.1 ∧ sN σ q.1 = q.2.2) ∧ ∀ q ∈ FINL, sK σ q.1 = q.2.1 + 1 ∧ sR σ q.1 q.2.2.1 = q.2.2.2
def Wh (E : Ev) (st : Bool) (ad : Nat → Nat) (σ : Sto) (H : Heap) : Prop :=
  va_P E.1 vwCl (wsOf E.2.1 ad σ) H ∧ va_D (AE E) (wsOf E.2.1 ad σ) ∧ RS ≤ sZ σ ∧ (∀ a k, sR σ a k < sZ σ) ∧ (∀ a, sK σ a ≠ 0 → RS ≤ a ∧ a < sZ σ) ∧ (ad 1 = E.2.2.2.1.1 ∧ ∀ i, i < 6 → ad (2 + i) = E.2.2.2.2.1 i ∧ ad (8 + i) = E.2.2.2.2.2 i) ∧ (st = true → SFin σ)
def vok (n : Nat) (v : Value) : Prop := match v with
  | .ref a => a < n
  | _ => True
def vokS (n : Nat) : List Value → Prop
  | [] => True
  | .ref a :: t => a < n ∧ vokS n t
  | .int _ :: t => vokS n t
  | .long _ :: t => vokS n t
  | .float _ :: t => vokS n t
  | .double _ :: t => vokS n t
  | .null :: t => vokS n t
  | .retAddr _ :: t => vokS n t
def vokL (n : Nat) (L : List (Nat × Value)) : Prop := ∀ q ∈ L, vok n q.2
def agr (n : Nat) (ad ad' : Nat → Nat) : Prop := ∀ a, a < n → ad' a = ad a
theorem vokS_cons {n : Nat} {v : Value} {t : List Value} : vokS n (v :: t) ↔ vok n v ∧ vokS n t := by
  cases v <;> simp [vokS, vok]
theorem vokS_app {n : Nat} {a b : List Value} : vokS n (a ++ b) ↔ vokS n a ∧ vokS n b := by
  induction a with
  | nil => simp [vokS]
  | cons v t ih => rw [List.cons_append, vokS_cons, vokS_cons, ih, and_assoc]
theorem vokS_rev {n : Nat} {a : List Value} : vokS n a.reverse ↔ vokS n a := by
  induction a with
  | nil => simp
  | cons v t ih => rw [List.reverse_cons, vokS_app, vokS_cons, vokS_cons, ih]; simp [vokS, and_comm]
theorem vok_mono {n n' : Nat} {v : Value} (h : n ≤ n') (hv : vok n v) : vok n' v := by
  cases v <;> first | exact trivial | exact Nat.lt_of_lt_of_le hv h
theorem vokS_mono {n n' : Nat} {S : List Value} (h : n ≤ n') (hv : vokS n S) : vokS n' S := by
  induction S with
  | nil => trivial
  | cons v t ih => exact vokS_cons.mpr ⟨vok_mono h (vokS_cons.mp hv).1, ih (vokS_cons.mp hv).2⟩
theorem vokL_mono {n n' : Nat} {L : List (Nat × Value)} (h : n ≤ n') (hv : vokL n L) : vokL n' L := fun q hq => vok_mono h (hv q hq)
theorem tr_agr {n : Nat} {ad ad' : Nat → Nat} (h : agr n ad ad') {v : Value} (hv : vok n v) : tr ad' v = tr ad v := by
  cases v <;> try rfl
  rename_i a
  simp only [tr, rv, ro, h a hv]
theorem trS_agr {n : Nat} {ad ad' : Nat → Nat} (h : agr n ad ad') {S : List Value} (hv : vokS n S) : S.map (tr ad') = S.map (tr ad) := by
  induction S with
  | nil => rfl
  | cons v t ih => rw [List.map_cons, List.map_cons, tr_agr h (vokS_cons.mp hv).1, ih (vokS_cons.mp hv).2]
theorem trL_agr {n : Nat} {ad ad' : Nat → Nat} (h : agr n ad ad') {L : List (Nat × Value)} (hv : vokL n L) : L.map (trp ad') = L.map (trp ad) :=
  List.map_congr_left fun q hq => by simp only [trp, tr_agr h (hv q hq)]
theorem cat_tr (ad : Nat → Nat) (v : Value) : (tr ad v).category = v.category := by
  cases v <;> try rfl
  rename_i a
  simp only [tr, rv, ro]
  by_cases h : a = 0
  · subst h; rfl
  · rw [if_neg h]; rfl
theorem cat_trS (ad : Nat → Nat) (S : List Value) : (S.map (tr ad)).map (fun v => v.category) = S.map (fun v => v.category) := by
  rw [List.map_map]
  exact List.map_congr_left fun v _ => cat_tr ad v
theorem rv_ne {ad : Nat → Nat} {a : Nat} (h : a ≠ 0) : rv ad a = .ref (ad a) := by simp only [rv, ro, if_neg h, va_rf]
theorem rv_or (ad : Nat → Nat) (a : Nat) : rv ad a = .null ∨ ∃ q, rv ad a = .ref q := va_rf_or _
theorem lv_args_tr (ad : Nat → Nat) (vs : List Value) : ∀ i, lv_args i (vs.map (tr ad)) = (lv_args i vs).map (trp ad) := by
  induction vs with
  | nil => intro i; rfl
  | cons v t ih => intro i; simp only [List.map_cons, lv_args, cat_tr, ih, trp]
theorem vokL_args {n : Nat} {vs : List Value} (h : vokS n vs) : ∀ i, vokL n (lv_args i vs) := by
  induction vs with
  | nil => intro i q hq; cases hq
  | cons v t ih =>
    intro i q hq
    rcases List.mem_cons.mp hq with rfl | hq
    · exact (vokS_cons.mp h).1
    · exact ih (vokS_cons.mp h).2 _ q hq
theorem lv_trp {ls : Array Slot} {nL : Nat} {ad : Nat → Nat} {L : List (Nat × Value)} (h : lv_has ls nL (L.map (trp ad))) (k : Nat) {i : Nat} {v : Value} (hk : L[k]? = some (i, v)) : ls[i]? = some (.val (tr ad v)) :=
  lv_at h k (by rw [List.getElem?_map, hk]; rfl)
theorem fil_tr (ad : Nat → Nat) (L : List (Nat × Value)) (i : Nat) : (L.map (trp ad)).filter (fun q => !(q.1 == i) && !(q.1 + 1 == i && q.2.category == 2)) = (L.filter (fun q => !(q.1 == i) && !(q.1 + 1 == i && q.2.category == 2))).map (trp ad) := by
  rw [List.filter_map]
  congr 1
  exact List.filter_congr fun q _ => by simp only [Function.comp, trp, cat_tr]
theorem fil_tr2 (ad : Nat → Nat) (L : List (Nat × Value)) (i : Nat) : (L.map (trp ad)).filter (fun q => !(q.1 == i) && (!(q.1 == i + 1) && !(q.1 + 1 == i && q.2.category == 2))) = (L.filter (fun q => !(q.1 == i) && (!(q.1 == i + 1) && !(q.1 + 1 == i && q.2.category == 2)))).map (trp ad) := by
  rw [List.filter_map]
  congr 1
  exact List.filter_congr fun q _ => by simp only [Function.comp, trp, cat_tr]
theorem vokL_st {n i : Nat} {v : Value} {L : List (Nat × Value)} {f : Nat × Value → Bool} (hv : vok n v) (h : vokL n L) : vokL n ((i, v) :: L.filter f) := fun q hq => by
  rcases List.mem_cons.mp hq with rfl | hq
  · exact hv
  · exact h q (List.mem_filter.mp hq).1
theorem vokL_at {n k i : Nat} {v : Value} {L : List (Nat × Value)} (h : vokL n L) (hk : L[k]? = some (i, v)) : vok n v := h (i, v) (List.mem_of_getElem? hk)
/-! cells of a store -/
theorem ws_at {cA : Nat → ClassId} {ad : Nat → Nat} {σ : Sto} {a : Nat} (h1 : RS ≤ a) (h2 : a < sZ σ) : (wsOf cA ad σ)[a - RS]? = some (ad a, ent cA ad σ a) := by
  rw [wsOf, List.getElem?_map, List.getElem?_range (by omega)]
  simp only [Option.map_some, Nat.add_sub_cancel' h1]
theorem ws_set {cA : Nat → ClassId} {ad : Nat → Nat} {σ σ' : Sto} {a : Nat} {x : va_E} (hz : sZ σ' = sZ σ) (h1 : RS ≤ a) (h2 : a < sZ σ) (hx : ent cA ad σ' a = x) (hne : ∀ b, b ≠ a → ent cA ad σ' b = ent cA ad σ b) : (wsOf cA ad σ).set (a - RS) (ad a, x) = wsOf cA ad σ' := by
  subst hx
  refine List.ext_getElem? fun i => ?_
  simp only [wsOf, List.getElem?_set, List.getElem?_map, List.length_map, List.length_range, hz]
  by_cases hi : a - RS = i
  · subst hi
    rw [if_pos rfl, if_pos (by omega), List.getElem?_range (by omega)]
    simp only [Option.map_some, Nat.add_sub_cancel' h1]
  · rw [if_neg hi]
    by_cases hl : i < sZ σ - RS
    · rw [List.getElem?_range hl]
      simp only [Option.map_some, hne (RS + i) (by omega)]
    · rw [List.getElem?_eq_none (by simp; omega)]; rfl
theorem ws_push {cA : Nat → ClassId} {ad ad' : Nat → Nat} {σ σ' : Sto} {q : Nat} {x : va_E} (hz : sZ σ' = sZ σ + 1) (h1 : RS ≤ sZ σ) (hq : ad' (sZ σ) = q) (hx : ent cA ad' σ' (sZ σ) = x) (hne : ∀ b, b < sZ σ → ad' b = ad b ∧ ent cA ad' σ' b = ent cA ad σ b) : wsOf cA ad σ ++ [(q, x)] = wsOf cA ad' σ' := by
  subst hx; subst hq
  rw [wsOf, wsOf, hz, show sZ σ + 1 - RS = (sZ σ - RS) + 1 by omega, List.range_succ, List.map_append]
  congr 1
  · refine List.map_congr_left fun i hi => ?_
    have := List.mem_range.mp hi
    obtain ⟨e1, e2⟩ := hne (RS + i) (by omega)
    rw [e1, e2]
  · simp only [List.map_cons, List.map_nil, Nat.add_sub_cancel' h1]
theorem ent_agr {cA : Nat → ClassId} {ad ad' : Nat → Nat} {σ : Sto} {b n : Nat} (h : agr n ad ad') (hR : ∀ a k, sR σ a k < n) : ent cA ad' σ b = ent cA ad σ b := by
  have e1 : ∀ j, ro ad' (sR σ b j) = ro ad (sR σ b j) := fun j => by simp only [ro, h _ (hR b j)]
  have e2 : ∀ ci k, fv ad' σ b ci k = fv ad σ b ci k := fun ci k => by simp only [fv, rv, e1]
  have e3 : ∀ ci, fv ad' σ b ci = fv ad σ b ci := fun ci => funext fun k => e2 ci k
  simp only [ent, fvs, arr, e1, e3]
theorem Wh.agr {E : Ev} {st : Bool} {ad ad' : Nat → Nat} {σ : Sto} {H : Heap} (h : agr (sZ σ) ad ad') (hw : Wh E st ad σ H) : Wh E st ad' σ H := by
  obtain ⟨h1, h2, h3, h4, h5, h6, h7⟩ := hw
  have e : wsOf E.2.1 ad' σ = wsOf E.2.1 ad σ := List.map_congr_left fun i hi => by
    have := List.mem_range.mp hi
    rw [h (RS + i) (by omega), ent_agr h h4]
  refine ⟨by rw [e]; exact h1, by rw [e]; exact h2, h3, h4, h5, ⟨?_, fun i hi => ?_⟩, h7⟩
  · rw [h 1 (Nat.lt_of_lt_of_le (by decide) h3)]; exact h6.1
  · rw [h (2 + i) (Nat.lt_of_lt_of_le (show 2 + i < RS by simp only [RS]; omega) h3), h (8 + i) (Nat.lt_of_lt_of_le (show 8 + i < RS by simp only [RS]; omega) h3)]; exact h6.2 i hi
/-- what kind a cell is of: read off the store, or fast -/
def KD (st : Bool) (σ : Sto) (a kd n : Nat) : Prop := ∀ (E : Ev) (ad : Nat → Nat) (H : Heap), Wh E st ad σ H → sK σ a = kd ∧ sN σ a = n
def KO (st : Bool) (σ : Sto) (a kd : Nat) : Prop := ∀ (E : Ev) (ad : Nat → Nat) (H : Heap), Wh E st ad σ H → sK σ a = kd
theorem KD.dy {st : Bool} {σ : Sto} {a kd : Nat} (h : sK σ a = kd) : KD st σ a kd (sN σ a) := fun _ _ _ _ => ⟨h, rfl⟩
theorem KD.st {σ : Sto} {a kd n : Nat} (h : (a, kd, n) ∈ STAT) : KD true σ a kd n := fun _ _ _ hw => (hw.2.2.2.2.2.2 rfl).1 _ h
theorem KD.nz {σ : Sto} {a kd n : Nat} {st : Bool} (h : sK σ a = kd) (hn : sN σ a = n) : KD st σ a kd n := fun _ _ _ _ => ⟨h, hn⟩
theorem KO.dy {st : Bool} {σ : Sto} {a kd : Nat} (h : sK σ a = kd) : KO st σ a kd := fun _ _ _ _ => h
theorem KO.st {σ : Sto} {a kd n : Nat} (h : (a, kd, n) ∈ STAT) : KO true σ a kd := fun _ _ _ hw => ((hw.2.2.2.2.2.2 rfl).1 _ h).1
/-! fields -/
theorem cl_ok : ∀ (ci : Nat) (q : vw_C), vwCl[ci]? = some q → ci < 12 ∧ q.2.2 = nF ci ∧ (∀ k, k < q.2.2 → parseFieldDescriptor (q.2.1 k).2.2.1 = some (fty ci k)) ∧ (∀ a, a < q.2.2 → ∀ b, b < q.2.2 → a ≠ b → (q.2.1 a).2.1 ≠ (q.2.1 b).2.1)
  | 0, _, h => by cases h; exact ⟨by decide, rfl, tyX0_ok, nmX0⟩
  | 1, _, h => by cases h; exact ⟨by decide, rfl, tyX1_ok, nmX1⟩
  | 2, _, h => by cases h; exact ⟨by decide, rfl, tyX2_ok, nmX2⟩
  | 3, _, h => by cases h; exact ⟨by decide, rfl, tyX3_ok, nmX3⟩
  | 4, _, h => by cases h; exact ⟨by decide, rfl, tyX4_ok, nmX4⟩
  | 5, _, h => by cases h; exact ⟨by decide, rfl, tyX5_ok, nmX5⟩
  | 6, _, h => by cases h; exact ⟨by decide, rfl, tyX6_ok, nmX6⟩
  | 7, _, h => by cases h; exact ⟨by decide, rfl, tyX7_ok, nmX7⟩
  | 8, _, h => by cases h; exact ⟨by decide, rfl, tyX8_ok, nmX8⟩
  | 9, _, h => by cases h; exact ⟨by decide, rfl, tyX10_ok, nmX10⟩
  | 10, _, h => by cases h; exact ⟨by decide, rfl, tyX11_ok, nmX11⟩
  | 11, _, h => by cases h; exact ⟨by decide, rfl, tyX12_ok, nmX12⟩
  | n + 12, _, h => by cases h
def FL (own : String) (index ci k : Nat) : Prop := ∃ (q : vw_C) (ref : String), vwCl[ci]? = some q ∧ (∀ w ∈ u_ws q.1 q.2.1 q.2.2, w ∈ BW) ∧ k < q.2.2 ∧ Cond.fieldLink own index ref (q.2.1 k).2.1 (q.2.1 k).2.2.1 ∈ BW ∧ (ref = (q.2.1 k).1 ∨ Cond.sameField ref (q.2.1 k).1 (q.2.1 k).2.1 (q.2.1 k).2.2.1 ∈ BW)
def FP (own : String) (ci k : Nat) (fin : Bool) : Prop := ∃ q : vw_C, vwCl[ci]? = some q ∧ (q.2.1 k).2.2.2 = fin ∧ (fin = true → (q.2.1 k).1 = own)
theorem ent_o {cA : Nat → ClassId} {ad : Nat → Nat} {σ : Sto} {a ci : Nat} (h : sK σ a = ci + 1) (hc : ci < 12) : ent cA ad σ a = .inr (ci, fvs ad σ a ci) := by
  rw [ent, if_pos (by omega), h]; rfl
theorem ent_a {cA : Nat → ClassId} {ad : Nat → Nat} {σ : Sto} {a t : Nat} (h : sK σ a = 100 + t) : ent cA ad σ a = .inl (cA t, sN σ a, arr ad σ a t) := by
  rw [ent, if_neg (by omega), h, Nat.add_sub_cancel_left]
theorem fvs_at {ad : Nat → Nat} {σ : Sto} {a ci k : Nat} (h : k < nF ci) : (fvs ad σ a ci)[k]? = some (fv ad σ a ci k) := by
  rw [fvs, List.getElem?_map, List.getElem?_range h]; rfl
theorem fvs_set {ad : Nat → Nat} {σ σ' : Sto} {a ci k : Nat} {v : Value} (hv : fv ad σ' a ci k = v) (hne : ∀ j, j ≠ k → fv ad σ' a ci j = fv ad σ a ci j) : (fvs ad σ a ci).set k v = fvs ad σ' a ci := by
  refine List.ext_getElem? fun i => ?_
  simp only [fvs, List.getElem?_set, List.getElem?_map, List.length_map, List.length_range]
  by_cases hi : k = i
  · subst hi
    rw [if_pos rfl]
    by_cases hl : k < nF ci
    · rw [if_pos hl, List.getElem?_range hl, ← hv]; rfl
    · rw [if_neg hl, List.getElem?_eq_none (by simp; omega)]; rfl
  · rw [if_neg hi]
    by_cases hl : i < nF ci
    · rw [List.getElem?_range hl]
      simp only [Option.map_some, hne i (Ne.symm hi)]
    · rw [List.getElem?_eq_none (by simp; omega)]; rfl
theorem tys_at {cA : Nat → ClassId} {t : Nat} (h : t < 9) : (tysA cA)[t]? = some (cA t, aty t) := by
  rw [tysA, List.getElem?_map, List.getElem?_range h]; rfl
/-! the judgement -/
def Cx (E : Ev) (p : Program) (s : State) (m : MethodId) (args : Array Value) (meth : Method) (c : Code) (cc : ByteArray) (nL : Nat) (own : String) : Prop :=
  p.tables.exec = Jvm.exec ∧ c.code = cc ∧ c.maxLocals = nL ∧ s.vm.findClass own = some m.cls ∧ (∀ w ∈ BW, w.before args s = true) ∧ meth.locks = false ∧ Fk E s s.heap
def G (p : Program) (l : Launch) (e : Env) (R : Room) (s : State) (m : MethodId) (args : Array Value) (below : List Frame) (meth : Method) (c : Code) (E : Ev) (st : Bool) (n0 : Nat) (ad0 : Nat → Nat) (Q : State → Prop) (nL cells slots : Nat) (σ : Sto) (pc : Nat) (L : List (Nat × Value)) (S : List Value) : Prop :=
  ∀ (ad : Nat → Nat) (H : Heap) (locs : List Loc) (ls : Array Slot), Wh E st ad σ H → va_S (AE E) s.heap H locs → n0 ≤ sZ σ ∧ agr n0 ad0 ad → lv_has ls nL (L.map (trp ad)) → vokL (sZ σ) L → vokS (sZ σ) S →
    W p l e R s m args below meth c H locs cells slots Q (F0 m pc ls (S.map (tr ad)))
section GR
variable {p : Program} {l : Launch} {e : Env} {R : Room} {s : State} {m : MethodId} {args : Array Value} {below : List Frame} {meth : Method} {c : Code} {Q : State → Prop} {E : Ev} {st : Bool} {n0 : Nat} {ad0 : Nat → Nat} {nL cells slots : Nat} {σ : Sto} {pc : Nat} {L : List (Nat × Value)} {S : List Value} {cc : ByteArray} {own : String}
theorem G_iconst (C : Cx E p s m args meth c cc nL own) {n : Int} {v : Int32} (hv : Int32.ofInt n = v) (hd : decode cc pc = .ok (.iconst n, 1)) (k : G p l e R s m args below meth c E st n0 ad0 Q nL cells slots σ (pc + 1) L (.int v :: S)) : G p l e R s m args below meth c E st n0 ad0 Q nL cells slots σ pc L S :=
  fun ad H locs ls hw hs ha hl vl vs => lv_iconst C.1 C.2.1 hd hv (k ad H locs ls hw hs ha hl vl vs)
theorem G_bipush (C : Cx E p s m args meth c cc nL own) {n : Int} {v : Int32} (hv : (Int8.ofInt n).toInt32 = v) (hd : decode cc pc = .ok (.bipush n, 2)) (k : G p l e R s m args below meth c E st n0 ad0 Q nL cells slots σ (pc + 2) L (.int v :: S)) : G p l e R s m args below meth c E st n0 ad0 Q nL cells slots σ pc L S :=
  fun ad H locs ls hw hs ha hl vl vs => lv_bipush C.1 C.2.1 hd hv (k ad H locs ls hw hs ha hl vl vs)
theorem G_sipush (C : Cx E p s m args meth c cc nL own) {n : Int} {v : Int32} (hv : (Int16.ofInt n).toInt32 = v) (hd : decode cc pc = .ok (.sipush n, 3)) (k : G p l e R s m args below meth c E st n0 ad0 Q nL cells slots σ (pc + 3) L (.int v :: S)) : G p l e R s m args below meth c E st n0 ad0 Q nL cells slots σ pc L S :=
  fun ad H locs ls hw hs ha hl vl vs => lv_sipush C.1 C.2.1 hd hv (k ad H locs ls hw hs ha hl vl vs)
theorem G_lconst (C : Cx E p s m args meth c cc nL own) {n : Fin 2} {v : Int64} (hv : Int64.ofNat (n : Nat) = v) (hd : decode cc pc = .ok (.lconst n, 1)) (k : G p l e R s m args below meth c E st n0 ad0 Q nL cells slots σ (pc + 1) L (.long v :: S)) : G p l e R s m args below meth c E st n0 ad0 Q nL cells slots σ pc L S :=
  fun ad H locs ls hw hs ha hl vl vs => lv_lconst C.1 C.2.1 hd hv (k ad H locs ls hw hs ha hl vl vs)
theorem G_ldc (C : Cx E p s m args meth c cc nL own) {ix : Nat} {v : Int32} (hc : Cond.constant own ix v ∈ BW) (hd : decode cc pc = .ok (.ldc ix, 2)) (k : G p l e R s m args below meth c E st n0 ad0 Q nL cells slots σ (pc + 2) L (.int v :: S)) : G p l e R s m args below meth c E st n0 ad0 Q nL cells slots σ pc L S :=
  fun ad H locs ls hw hs ha hl vl vs => lv_ldc C.1 C.2.1 C.2.2.2.1 (C.2.2.2.2.1 _ hc) hd (k ad H locs ls hw hs ha hl vl vs)
theorem G_ldcw (C : Cx E p s m args meth c cc nL own) {ix : Nat} {v : Int32} (hc : Cond.constant own ix v ∈ BW) (hd : decode cc pc = .ok (.ldc_w ix, 3)) (k : G p l e R s m args below meth c E st n0 ad0 Q nL cells slots σ (pc + 3) L (.int v :: S)) : G p l e R s m args below meth c E st n0 ad0 Q nL cells slots σ pc L S :=
  fun ad H locs ls hw hs ha hl vl vs => lv_ldcw C.1 C.2.1 C.2.2.2.1 (C.2.2.2.2.1 _ hc) hd (k ad H locs ls hw hs ha hl vl vs)
theorem G_ldc2 (C : Cx E p s m args meth c cc nL own) {ix : Nat} {v : Int64} (hc : Cond.constantLong own ix v ∈ BW) (hd : decode cc pc = .ok (.ldc2_w ix, 3)) (k : G p l e R s m args below meth c E st n0 ad0 Q nL cells slots σ (pc + 3) L (.long v :: S)) : G p l e R s m args below meth c E st n0 ad0 Q nL cells slots σ pc L S :=
  fun ad H locs ls hw hs ha hl vl vs => lv_ldc2 C.1 C.2.1 C.2.2.2.1 (C.2.2.2.2.1 _ hc) hd (k ad H locs ls hw hs ha hl vl vs)
theorem G_iload (C : Cx E p s m args meth c cc nL own) {i : Nat} {x : Int32} (q : Nat) (hk : L[q]? = some (i, .int x)) (hd : decode cc pc = .ok (.iload i, 2)) (k : G p l e R s m args below meth c E st n0 ad0 Q nL cells slots σ (pc + 2) L (.int x :: S)) : G p l e R s m args below meth c E st n0 ad0 Q nL cells slots σ pc L S :=
  fun ad H locs ls hw hs ha hl vl vs => lv_iload C.1 C.2.1 hd (lv_trp hl q hk) (k ad H locs ls hw hs ha hl vl vs)
theorem G_iload_n (C : Cx E p s m args meth c cc nL own) {j : Fin 4} {i : Nat} {x : Int32} (q : Nat) (hi : (j : Nat) = i) (hk : L[q]? = some (i, .int x)) (hd : decode cc pc = .ok (.iload_n j, 1)) (k : G p l e R s m args below meth c E st n0 ad0 Q nL cells slots σ (pc + 1) L (.int x :: S)) : G p l e R s m args below meth c E st n0 ad0 Q nL cells slots σ pc L S :=
  fun ad H locs ls hw hs ha hl vl vs => lv_iload_n C.1 C.2.1 hd hi (lv_trp hl q hk) (k ad H locs ls hw hs ha hl vl vs)
theorem G_lload (C : Cx E p s m args meth c cc nL own) {i : Nat} {x : Int64} (q : Nat) (hk : L[q]? = some (i, .long x)) (hd : decode cc pc = .ok (.lload i, 2)) (k : G p l e R s m args below meth c E st n0 ad0 Q nL cells slots σ (pc + 2) L (.long x :: S)) : G p l e R s m args below meth c E st n0 ad0 Q nL cells slots σ pc L S :=
  fun ad H locs ls hw hs ha hl vl vs => lv_lload C.1 C.2.1 hd (lv_trp hl q hk) (k ad H locs ls hw hs ha hl vl vs)
theorem G_lload_n (C : Cx E p s m args meth c cc nL own) {j : Fin 4} {i : Nat} {x : Int64} (q : Nat) (hi : (j : Nat) = i) (hk : L[q]? = some (i, .long x)) (hd : decode cc pc = .ok (.lload_n j, 1)) (k : G p l e R s m args below meth c E st n0 ad0 Q nL cells slots σ (pc + 1) L (.long x :: S)) : G p l e R s m args below meth c E st n0 ad0 Q nL cells slots σ pc L S :=
  fun ad H locs ls hw hs ha hl vl vs => lv_lload_n C.1 C.2.1 hd hi (lv_trp hl q hk) (k ad H locs ls hw hs ha hl vl vs)
theorem G_aload (C : Cx E p s m args meth c cc nL own) {i : Nat} {x : Nat} (q : Nat) (hk : L[q]? = some (i, .ref x)) (hd : decode cc pc = .ok (.aload i, 2)) (k : G p l e R s m args below meth c E st n0 ad0 Q nL cells slots σ (pc + 2) L (.ref x :: S)) : G p l e R s m args below meth c E st n0 ad0 Q nL cells slots σ pc L S := by
  intro ad H locs ls hw hs ha hl vl vs
  have k1 := k ad H locs ls hw hs ha hl vl ⟨vokL_at vl hk, vs⟩
  have hg := lv_trp hl q hk
  rcases rv_or ad x with h | ⟨a, h⟩
  · have k2 : W p l e R s m args below meth c H locs cells slots Q (F0 m (pc + 2) ls (rv ad x :: S.map (tr ad))) := k1
    rw [h] at k2
    exact lv_aloadN C.1 C.2.1 hd (by rw [hg]; exact congrArg (fun z => some (Slot.val z)) h) k2
  · have k2 : W p l e R s m args below meth c H locs cells slots Q (F0 m (pc + 2) ls (rv ad x :: S.map (tr ad))) := k1
    rw [h] at k2
    exact lv_aload C.1 C.2.1 hd (by rw [hg]; exact congrArg (fun z => some (Slot.val z)) h) k2
theorem G_aload_n (C : Cx E p s m args meth c cc nL own) {j : Fin 4} {i : Nat} {x : Nat} (q : Nat) (hi : (j : Nat) = i) (hk : L[q]? = some (i, .ref x)) (hd : decode cc pc = .ok (.aload_n j, 1)) (k : G p l e R s m args below meth c E st n0 ad0 Q nL cells slots σ (pc + 1) L (.ref x :: S)) : G p l e R s m args below meth c E st n0 ad0 Q nL cells slots σ pc L S := by
  intro ad H locs ls hw hs ha hl vl vs
  have k1 := k ad H locs ls hw hs ha hl vl ⟨vokL_at vl hk, vs⟩
  have hg := lv_trp hl q hk
  rcases rv_or ad x with h | ⟨a, h⟩
  · have k2 : W p l e R s m args below meth c H locs cells slots Q (F0 m (pc + 1) ls (rv ad x :: S.map (tr ad))) := k1
    rw [h] at k2
    exact lv_aload_nN C.1 C.2.1 hd hi (by rw [hg]; exact congrArg (fun z => some (Slot.val z)) h) k2
  · have k2 : W p l e R s m args below meth c H locs cells slots Q (F0 m (pc + 1) ls (rv ad x :: S.map (tr ad))) := k1
    rw [h] at k2
    exact lv_aload_n C.1 C.2.1 hd hi (by rw [hg]; exact congrArg (fun z => some (Slot.val z)) h) k2
theorem G_istore (C : Cx E p s m args meth c cc nL own) {i : Nat} {x : Int32} {L' : List (Nat × Value)} (hn : i < nL) (hL : (i, Value.int x) :: L.filter (fun q => !(q.1 == i) && !(q.1 + 1 == i && q.2.category == 2)) = L') (hd : decode cc pc = .ok (.istore i, 2)) (k : G p l e R s m args below meth c E st n0 ad0 Q nL cells slots σ (pc + 2) L' S) : G p l e R s m args below meth c E st n0 ad0 Q nL cells slots σ pc L (.int x :: S) := by
  intro ad H locs ls hw hs ha hl vl vs
  subst hL
  exact lv_istore C.1 C.2.1 hd hl hn (by rw [fil_tr]; rfl) (fun ls' hl' => k ad H locs ls' hw hs ha hl' (vokL_st trivial vl) vs)
theorem G_istore_n (C : Cx E p s m args meth c cc nL own) {j : Fin 4} {i : Nat} {x : Int32} {L' : List (Nat × Value)} (hi : (j : Nat) = i) (hn : i < nL) (hL : (i, Value.int x) :: L.filter (fun q => !(q.1 == i) && !(q.1 + 1 == i && q.2.category == 2)) = L') (hd : decode cc pc = .ok (.istore_n j, 1)) (k : G p l e R s m args below meth c E st n0 ad0 Q nL cells slots σ (pc + 1) L' S) : G p l e R s m args below meth c E st n0 ad0 Q nL cells slots σ pc L (.int x :: S) := by
  intro ad H locs ls hw hs ha hl vl vs
  subst hL
  exact lv_istore_n C.1 C.2.1 hd hi hl hn (by rw [fil_tr]; rfl) (fun ls' hl' => k ad H locs ls' hw hs ha hl' (vokL_st trivial vl) vs)
theorem G_lstore (C : Cx E p s m args meth c cc nL own) {i : Nat} {x : Int64} {L' : List (Nat × Value)} (hn : i + 1 < nL) (hL : (i, Value.long x) :: L.filter (fun q => !(q.1 == i) && (!(q.1 == i + 1) && !(q.1 + 1 == i && q.2.category == 2))) = L') (hd : decode cc pc = .ok (.lstore i, 2)) (k : G p l e R s m args below meth c E st n0 ad0 Q nL cells slots σ (pc + 2) L' S) : G p l e R s m args below meth c E st n0 ad0 Q nL cells slots σ pc L (.long x :: S) := by
  intro ad H locs ls hw hs ha hl vl vs
  subst hL
  exact lv_lstore C.1 C.2.1 hd hl hn (by rw [fil_tr2]; rfl) (fun ls' hl' => k ad H locs ls' hw hs ha hl' (vokL_st trivial vl) vs)
theorem G_lstore_n (C : Cx E p s m args meth c cc nL own) {j : Fin 4} {i : Nat} {x : Int64} {L' : List (Nat × Value)} (hi : (j : Nat) = i) (hn : i + 1 < nL) (hL : (i, Value.long x) :: L.filter (fun q => !(q.1 == i) && (!(q.1 == i + 1) && !(q.1 + 1 == i && q.2.category == 2))) = L') (hd : decode cc pc = .ok (.lstore_n j, 1)) (k : G p l e R s m args below meth c E st n0 ad0 Q nL cells slots σ (pc + 1) L' S) : G p l e R s m args below meth c E st n0 ad0 Q nL cells slots σ pc L (.long x :: S) := by
  intro ad H locs ls hw hs ha hl vl vs
  subst hL
  exact lv_lstore_n C.1 C.2.1 hd hi hl hn (by rw [fil_tr2]; rfl) (fun ls' hl' => k ad H locs ls' hw hs ha hl' (vokL_st trivial vl) vs)
theorem G_astore (C : Cx E p s m args meth c cc nL own) {i : Nat} {x : Nat} {L' : List (Nat × Value)} (hn : i < nL) (hL : (i, Value.ref x) :: L.filter (fun q => !(q.1 == i) && !(q.1 + 1 == i && q.2.category == 2)) = L') (hd : decode cc pc = .ok (.astore i, 2)) (k : G p l e R s m args below meth c E st n0 ad0 Q nL cells slots σ (pc + 2) L' S) : G p l e R s m args below meth c E st n0 ad0 Q nL cells slots σ pc L (.ref x :: S) := by
  intro ad H locs ls hw hs ha hl vl vs
  subst hL
  have k1 : ∀ ls', lv_has ls' nL ((i, rv ad x) :: (L.map (trp ad)).filter (fun q => !(q.1 == i) && !(q.1 + 1 == i && q.2.category == 2))) → W p l e R s m args below meth c H locs cells slots Q (F0 m (pc + 2) ls' (S.map (tr ad))) := fun ls' hl' => k ad H locs ls' hw hs ha (by rw [fil_tr] at hl'; exact hl') (vokL_st vs.1 vl) vs.2
  show W p l e R s m args below meth c H locs cells slots Q (F0 m pc ls (rv ad x :: S.map (tr ad)))
  rcases rv_or ad x with h | ⟨a, h⟩
  · rw [h] at k1 ⊢
    exact lv_astoreN C.1 C.2.1 hd hl hn rfl k1
  · rw [h] at k1 ⊢
    exact lv_astore C.1 C.2.1 hd hl hn rfl k1
theorem G_astore_n (C : Cx E p s m args meth c cc nL own) {j : Fin 4} {i : Nat} {x : Nat} {L' : List (Nat × Value)} (hi : (j : Nat) = i) (hn : i < nL) (hL : (i, Value.ref x) :: L.filter (fun q => !(q.1 == i) && !(q.1 + 1 == i && q.2.category == 2)) = L') (hd : decode cc pc = .ok (.astore_n j, 1)) (k : G p l e R s m args below meth c E st n0 ad0 Q nL cells slots σ (pc + 1) L' S) : G p l e R s m args below meth c E st n0 ad0 Q nL cells slots σ pc L (.ref x :: S) := by
  intro ad H locs ls hw hs ha hl vl vs
  subst hL
  have k1 : ∀ ls', lv_has ls' nL ((i, rv ad x) :: (L.map (trp ad)).filter (fun q => !(q.1 == i) && !(q.1 + 1 == i && q.2.category == 2))) → W p l e R s m args below meth c H locs cells slots Q (F0 m (pc + 1) ls' (S.map (tr ad))) := fun ls' hl' => k ad H locs ls' hw hs ha (by rw [fil_tr] at hl'; exact hl') (vokL_st vs.1 vl) vs.2
  show W p l e R s m args below meth c H locs cells slots Q (F0 m pc ls (rv ad x :: S.map (tr ad)))
  rcases rv_or ad x with h | ⟨a, h⟩
  · rw [h] at k1 ⊢
    exact lv_astore_nN C.1 C.2.1 hd hi hl hn rfl k1
  · rw [h] at k1 ⊢
    exact lv_astore_n C.1 C.2.1 hd hi hl hn rfl k1
theorem G_iinc (C : Cx E p s m args meth c cc nL own) {i : Nat} {n : Int} {x v : Int32} {L' : List (Nat × Value)} (q : Nat) (hk : L[q]? = some (i, .int x)) (hv : Int32.ofInt n = v) (hn : i < nL) (hL : (i, Value.int (x + v)) :: L.filter (fun q => !(q.1 == i) && !(q.1 + 1 == i && q.2.category == 2)) = L') (hd : decode cc pc = .ok (.iinc i n, 3)) (k : G p l e R s m args below meth c E st n0 ad0 Q nL cells slots σ (pc + 3) L' S) : G p l e R s m args below meth c E st n0 ad0 Q nL cells slots σ pc L S := by
  intro ad H locs ls hw hs ha hl vl vs
  subst hL; subst hv
  exact lv_iinc (k := q) C.1 C.2.1 hd hl (by rw [List.getElem?_map, hk]; rfl) rfl hn (by rw [fil_tr]; rfl) (fun ls' hl' => k ad H locs ls' hw hs ha hl' (vokL_st trivial vl) vs)
theorem G_dup (C : Cx E p s m args meth c cc nL own) {v : Value} (hv : v.category = 1) (hd : decode cc pc = .ok (.dup, 1)) (k : G p l e R s m args below meth c E st n0 ad0 Q nL cells slots σ (pc + 1) L (v :: v :: S)) : G p l e R s m args below meth c E st n0 ad0 Q nL cells slots σ pc L (v :: S) :=
  fun ad H locs ls hw hs ha hl vl vs => lv_dup C.1 C.2.1 hd (by rw [cat_tr]; exact hv) (k ad H locs ls hw hs ha hl vl (vokS_cons.mpr ⟨(vokS_cons.mp vs).1, vs⟩))
theorem G_dup2 (C : Cx E p s m args meth c cc nL own) {v u : Value} (hv : v.category = 1) (hu : u.category = 1) (hd : decode cc pc = .ok (.dup2, 1)) (k : G p l e R s m args below meth c E st n0 ad0 Q nL cells slots σ (pc + 1) L (v :: u :: v :: u :: S)) : G p l e R s m args below meth c E st n0 ad0 Q nL cells slots σ pc L (v :: u :: S) :=
  fun ad H locs ls hw hs ha hl vl vs => lv_dup2_11 C.1 C.2.1 hd (by rw [cat_tr]; exact hv) (by rw [cat_tr]; exact hu) (k ad H locs ls hw hs ha hl vl (vokS_cons.mpr ⟨(vokS_cons.mp vs).1, vokS_cons.mpr ⟨(vokS_cons.mp (vokS_cons.mp vs).2).1, vs⟩⟩))
theorem G_pop (C : Cx E p s m args meth c cc nL own) {v : Value} (hv : v.category = 1) (hd : decode cc pc = .ok (.pop, 1)) (k : G p l e R s m args below meth c E st n0 ad0 Q nL cells slots σ (pc + 1) L S) : G p l e R s m args below meth c E st n0 ad0 Q nL cells slots σ pc L (v :: S) :=
  fun ad H locs ls hw hs ha hl vl vs => lv_pop C.1 C.2.1 hd (by rw [cat_tr]; exact hv) (k ad H locs ls hw hs ha hl vl (vokS_cons.mp vs).2)
theorem G_iadd (C : Cx E p s m args meth c cc nL own) {x y : Int32} (hd : decode cc pc = .ok (.iadd, 1)) (k : G p l e R s m args below meth c E st n0 ad0 Q nL cells slots σ (pc + 1) L (.int (x + y) :: S)) : G p l e R s m args below meth c E st n0 ad0 Q nL cells slots σ pc L (.int y :: .int x :: S) :=
  fun ad H locs ls hw hs ha hl vl vs => lv_iadd C.1 C.2.1 hd (k ad H locs ls hw hs ha hl vl vs)
theorem G_isub (C : Cx E p s m args meth c cc nL own) {x y : Int32} (hd : decode cc pc = .ok (.isub, 1)) (k : G p l e R s m args below meth c E st n0 ad0 Q nL cells slots σ (pc + 1) L (.int (x - y) :: S)) : G p l e R s m args below meth c E st n0 ad0 Q nL cells slots σ pc L (.int y :: .int x :: S) :=
  fun ad H locs ls hw hs ha hl vl vs => lv_isub C.1 C.2.1 hd (k ad H locs ls hw hs ha hl vl vs)
theorem G_imul (C : Cx E p s m args meth c cc nL own) {x y : Int32} (hd : decode cc pc = .ok (.imul, 1)) (k : G p l e R s m args below meth c E st n0 ad0 Q nL cells slots σ (pc + 1) L (.int (x * y) :: S)) : G p l e R s m args below meth c E st n0 ad0 Q nL cells slots σ pc L (.int y :: .int x :: S) :=
  fun ad H locs ls hw hs ha hl vl vs => lv_imul C.1 C.2.1 hd (k ad H locs ls hw hs ha hl vl vs)
theorem G_iand (C : Cx E p s m args meth c cc nL own) {x y : Int32} (hd : decode cc pc = .ok (.iand, 1)) (k : G p l e R s m args below meth c E st n0 ad0 Q nL cells slots σ (pc + 1) L (.int (x &&& y) :: S)) : G p l e R s m args below meth c E st n0 ad0 Q nL cells slots σ pc L (.int y :: .int x :: S) :=
  fun ad H locs ls hw hs ha hl vl vs => lv_iand C.1 C.2.1 hd (k ad H locs ls hw hs ha hl vl vs)
theorem G_ior (C : Cx E p s m args meth c cc nL own) {x y : Int32} (hd : decode cc pc = .ok (.ior, 1)) (k : G p l e R s m args below meth c E st n0 ad0 Q nL cells slots σ (pc + 1) L (.int (x ||| y) :: S)) : G p l e R s m args below meth c E st n0 ad0 Q nL cells slots σ pc L (.int y :: .int x :: S) :=
  fun ad H locs ls hw hs ha hl vl vs => lv_ior C.1 C.2.1 hd (k ad H locs ls hw hs ha hl vl vs)
theorem G_ixor (C : Cx E p s m args meth c cc nL own) {x y : Int32} (hd : decode cc pc = .ok (.ixor, 1)) (k : G p l e R s m args below meth c E st n0 ad0 Q nL cells slots σ (pc + 1) L (.int (x ^^^ y) :: S)) : G p l e R s m args below meth c E st n0 ad0 Q nL cells slots σ pc L (.int y :: .int x :: S) :=
  fun ad H locs ls hw hs ha hl vl vs => lv_ixor C.1 C.2.1 hd (k ad H locs ls hw hs ha hl vl vs)
theorem G_ishl (C : Cx E p s m args meth c cc nL own) {x y : Int32} (hd : decode cc pc = .ok (.ishl, 1)) (k : G p l e R s m args below meth c E st n0 ad0 Q nL cells slots σ (pc + 1) L (.int (x <<< (y &&& 31)) :: S)) : G p l e R s m args below meth c E st n0 ad0 Q nL cells slots σ pc L (.int y :: .int x :: S) :=
  fun ad H locs ls hw hs ha hl vl vs => lv_ishl C.1 C.2.1 hd (k ad H locs ls hw hs ha hl vl vs)
theorem G_ishr (C : Cx E p s m args meth c cc nL own) {x y : Int32} (hd : decode cc pc = .ok (.ishr, 1)) (k : G p l e R s m args below meth c E st n0 ad0 Q nL cells slots σ (pc + 1) L (.int (x >>> (y &&& 31)) :: S)) : G p l e R s m args below meth c E st n0 ad0 Q nL cells slots σ pc L (.int y :: .int x :: S) :=
  fun ad H locs ls hw hs ha hl vl vs => lv_ishr C.1 C.2.1 hd (k ad H locs ls hw hs ha hl vl vs)
theorem G_idiv (C : Cx E p s m args meth c cc nL own) {x y : Int32} (hne : ¬ y = 0) (hd : decode cc pc = .ok (.idiv, 1)) (k : G p l e R s m args below meth c E st n0 ad0 Q nL cells slots σ (pc + 1) L (.int (x / y) :: S)) : G p l e R s m args below meth c E st n0 ad0 Q nL cells slots σ pc L (.int y :: .int x :: S) :=
  fun ad H locs ls hw hs ha hl vl vs => lv_idiv C.1 C.2.1 hd hne (k ad H locs ls hw hs ha hl vl vs)
theorem G_ladd (C : Cx E p s m args meth c cc nL own) {x y : Int64} (hd : decode cc pc = .ok (.ladd, 1)) (k : G p l e R s m args below meth c E st n0 ad0 Q nL cells slots σ (pc + 1) L (.long (x + y) :: S)) : G p l e R s m args below meth c E st n0 ad0 Q nL cells slots σ pc L (.long y :: .long x :: S) :=
  fun ad H locs ls hw hs ha hl vl vs => lv_ladd C.1 C.2.1 hd (k ad H locs ls hw hs ha hl vl vs)
theorem G_lsub (C : Cx E p s m args meth c cc nL own) {x y : Int64} (hd : decode cc pc = .ok (.lsub, 1)) (k : G p l e R s m args below meth c E st n0 ad0 Q nL cells slots σ (pc + 1) L (.long (x - y) :: S)) : G p l e R s m args below meth c E st n0 ad0 Q nL cells slots σ pc L (.long y :: .long x :: S) :=
  fun ad H locs ls hw hs ha hl vl vs => lv_lsub C.1 C.2.1 hd (k ad H locs ls hw hs ha hl vl vs)
theorem G_lmul (C : Cx E p s m args meth c cc nL own) {x y : Int64} (hd : decode cc pc = .ok (.lmul, 1)) (k : G p l e R s m args below meth c E st n0 ad0 Q nL cells slots σ (pc + 1) L (.long (x * y) :: S)) : G p l e R s m args below meth c E st n0 ad0 Q nL cells slots σ pc L (.long y :: .long x :: S) :=
  fun ad H locs ls hw hs ha hl vl vs => lv_lmul C.1 C.2.1 hd (k ad H locs ls hw hs ha hl vl vs)
theorem G_lor (C : Cx E p s m args meth c cc nL own) {x y : Int64} (hd : decode cc pc = .ok (.lor, 1)) (k : G p l e R s m args below meth c E st n0 ad0 Q nL cells slots σ (pc + 1) L (.long (x ||| y) :: S)) : G p l e R s m args below meth c E st n0 ad0 Q nL cells slots σ pc L (.long y :: .long x :: S) :=
  fun ad H locs ls hw hs ha hl vl vs => lv_lor C.1 C.2.1 hd (k ad H locs ls hw hs ha hl vl vs)
theorem G_ldiv (C : Cx E p s m args meth c cc nL own) {x y : Int64} (hne : ¬ y = 0) (hd : decode cc pc = .ok (.ldiv, 1)) (k : G p l e R s m args below meth c E st n0 ad0 Q nL cells slots σ (pc + 1) L (.long (x / y) :: S)) : G p l e R s m args below meth c E st n0 ad0 Q nL cells slots σ pc L (.long y :: .long x :: S) :=
  fun ad H locs ls hw hs ha hl vl vs => lv_ldiv C.1 C.2.1 hd hne (k ad H locs ls hw hs ha hl vl vs)
theorem G_lshl (C : Cx E p s m args meth c cc nL own) {x : Int64} {y : Int32} (hd : decode cc pc = .ok (.lshl, 1)) (k : G p l e R s m args below meth c E st n0 ad0 Q nL cells slots σ (pc + 1) L (.long (x <<< (y.toInt64 &&& 63)) :: S)) : G p l e R s m args below meth c E st n0 ad0 Q nL cells slots σ pc L (.int y :: .long x :: S) :=
  fun ad H locs ls hw hs ha hl vl vs => lv_lshl C.1 C.2.1 hd rfl (k ad H locs ls hw hs ha hl vl vs)
theorem G_lneg (C : Cx E p s m args meth c cc nL own) {x : Int64} (hd : decode cc pc = .ok (.lneg, 1)) (k : G p l e R s m args below meth c E st n0 ad0 Q nL cells slots σ (pc + 1) L (.long (-x) :: S)) : G p l e R s m args below meth c E st n0 ad0 Q nL cells slots σ pc L (.long x :: S) :=
  fun ad H locs ls hw hs ha hl vl vs => lv_lneg C.1 C.2.1 hd (k ad H locs ls hw hs ha hl vl vs)
theorem G_i2l (C : Cx E p s m args meth c cc nL own) {x : Int32} (hd : decode cc pc = .ok (.i2l, 1)) (k : G p l e R s m args below meth c E st n0 ad0 Q nL cells slots σ (pc + 1) L (.long x.toInt64 :: S)) : G p l e R s m args below meth c E st n0 ad0 Q nL cells slots σ pc L (.int x :: S) :=
  fun ad H locs ls hw hs ha hl vl vs => lv_i2l C.1 C.2.1 hd rfl (k ad H locs ls hw hs ha hl vl vs)
theorem G_l2i (C : Cx E p s m args meth c cc nL own) {x : Int64} (hd : decode cc pc = .ok (.l2i, 1)) (k : G p l e R s m args below meth c E st n0 ad0 Q nL cells slots σ (pc + 1) L (.int x.toInt32 :: S)) : G p l e R s m args below meth c E st n0 ad0 Q nL cells slots σ pc L (.long x :: S) :=
  fun ad H locs ls hw hs ha hl vl vs => lv_l2i C.1 C.2.1 hd rfl (k ad H locs ls hw hs ha hl vl vs)
theorem G_i2c (C : Cx E p s m args meth c cc nL own) {x : Int32} (hd : decode cc pc = .ok (.i2c, 1)) (k : G p l e R s m args below meth c E st n0 ad0 Q nL cells slots σ (pc + 1) L (.int (x.toUInt32 % 65536).toInt32 :: S)) : G p l e R s m args below meth c E st n0 ad0 Q nL cells slots σ pc L (.int x :: S) :=
  fun ad H locs ls hw hs ha hl vl vs => lv_i2c C.1 C.2.1 hd rfl (k ad H locs ls hw hs ha hl vl vs)
theorem G_lcmp (C : Cx E p s m args meth c cc nL own) {x y : Int64} (hd : decode cc pc = .ok (.lcmp, 1)) (k : G p l e R s m args below meth c E st n0 ad0 Q nL cells slots σ (pc + 1) L (.int (lg_cmp x y) :: S)) : G p l e R s m args below meth c E st n0 ad0 Q nL cells slots σ pc L (.long y :: .long x :: S) :=
  fun ad H locs ls hw hs ha hl vl vs => W.lcmp C.1 C.2.1 hd (k ad H locs ls hw hs ha hl vl vs)
theorem G_goto (C : Cx E p s m args meth c cc nL own) {off : Int} {tgt : Nat} (ht : (pc : Int) + off = (tgt : Int)) (hd : decode cc pc = .ok (.goto off, 3)) (k : G p l e R s m args below meth c E st n0 ad0 Q nL cells slots σ tgt L S) : G p l e R s m args below meth c E st n0 ad0 Q nL cells slots σ pc L S :=
  fun ad H locs ls hw hs ha hl vl vs => lv_goto C.1 C.2.1 hd ht (k ad H locs ls hw hs ha hl vl vs)
theorem G_if_eq (C : Cx E p s m args meth c cc nL own) {x : Int32} {off : Int} {tgt : Nat} (ht : (pc : Int) + off = (tgt : Int)) (hd : decode cc pc = .ok (.ifCond .eq off, 3)) (kt : x = 0 → G p l e R s m args below meth c E st n0 ad0 Q nL cells slots σ tgt L S) (kf : ¬ x = 0 → G p l e R s m args below meth c E st n0 ad0 Q nL cells slots σ (pc + 3) L S) : G p l e R s m args below meth c E st n0 ad0 Q nL cells slots σ pc L (.int x :: S) :=
  fun ad H locs ls hw hs ha hl vl vs => lv_if_eq C.1 C.2.1 hd ht (fun h => kt h ad H locs ls hw hs ha hl vl vs) (fun h => kf h ad H locs ls hw hs ha hl vl vs)
theorem G_if_ne (C : Cx E p s m args meth c cc nL own) {x : Int32} {off : Int} {tgt : Nat} (ht : (pc : Int) + off = (tgt : Int)) (hd : decode cc pc = .ok (.ifCond .ne off, 3)) (kt : ¬ x = 0 → G p l e R s m args below meth c E st n0 ad0 Q nL cells slots σ tgt L S) (kf : x = 0 → G p l e R s m args below meth c E st n0 ad0 Q nL cells slots σ (pc + 3) L S) : G p l e R s m args below meth c E st n0 ad0 Q nL cells slots σ pc L (.int x :: S) :=
  fun ad H locs ls hw hs ha hl vl vs => lv_if_ne C.1 C.2.1 hd ht (fun h => kt h ad H locs ls hw hs ha hl vl vs) (fun h => kf h ad H locs ls hw hs ha hl vl vs)
theorem G_if_lt (C : Cx E p s m args meth c cc nL own) {x : Int32} {off : Int} {tgt : Nat} (ht : (pc : Int) + off = (tgt : Int)) (hd : decode cc pc = .ok (.ifCond .lt off, 3)) (kt : x < 0 → G p l e R s m args below meth c E st n0 ad0 Q nL cells slots σ tgt L S) (kf : ¬ x < 0 → G p l e R s m args below meth c E st n0 ad0 Q nL cells slots σ (pc + 3) L S) : G p l e R s m args below meth c E st n0 ad0 Q nL cells slots σ pc L (.int x :: S) :=
  fun ad H locs ls hw hs ha hl vl vs => lv_if_lt C.1 C.2.1 hd ht (fun h => kt h ad H locs ls hw hs ha hl vl vs) (fun h => kf h ad H locs ls hw hs ha hl vl vs)
theorem G_if_ge (C : Cx E p s m args meth c cc nL own) {x : Int32} {off : Int} {tgt : Nat} (ht : (pc : Int) + off = (tgt : Int)) (hd : decode cc pc = .ok (.ifCond .ge off, 3)) (kt : 0 ≤ x → G p l e R s m args below meth c E st n0 ad0 Q nL cells slots σ tgt L S) (kf : ¬ 0 ≤ x → G p l e R s m args below meth c E st n0 ad0 Q nL cells slots σ (pc + 3) L S) : G p l e R s m args below meth c E st n0 ad0 Q nL cells slots σ pc L (.int x :: S) :=
  fun ad H locs ls hw hs ha hl vl vs => lv_if_ge C.1 C.2.1 hd ht (fun h => kt h ad H locs ls hw hs ha hl vl vs) (fun h => kf h ad H locs ls hw hs ha hl vl vs)
theorem G_if_gt (C : Cx E p s m args meth c cc nL own) {x : Int32} {off : Int} {tgt : Nat} (ht : (pc : Int) + off = (tgt : Int)) (hd : decode cc pc = .ok (.ifCond .gt off, 3)) (kt : 0 < x → G p l e R s m args below meth c E st n0 ad0 Q nL cells slots σ tgt L S) (kf : ¬ 0 < x → G p l e R s m args below meth c E st n0 ad0 Q nL cells slots σ (pc + 3) L S) : G p l e R s m args below meth c E st n0 ad0 Q nL cells slots σ pc L (.int x :: S) :=
  fun ad H locs ls hw hs ha hl vl vs => lv_if_gt C.1 C.2.1 hd ht (fun h => kt h ad H locs ls hw hs ha hl vl vs) (fun h => kf h ad H locs ls hw hs ha hl vl vs)
theorem G_if_le (C : Cx E p s m args meth c cc nL own) {x : Int32} {off : Int} {tgt : Nat} (ht : (pc : Int) + off = (tgt : Int)) (hd : decode cc pc = .ok (.ifCond .le off, 3)) (kt : x ≤ 0 → G p l e R s m args below meth c E st n0 ad0 Q nL cells slots σ tgt L S) (kf : ¬ x ≤ 0 → G p l e R s m args below meth c E st n0 ad0 Q nL cells slots σ (pc + 3) L S) : G p l e R s m args below meth c E st n0 ad0 Q nL cells slots σ pc L (.int x :: S) :=
  fun ad H locs ls hw hs ha hl vl vs => lv_if_le C.1 C.2.1 hd ht (fun h => kt h ad H locs ls hw hs ha hl vl vs) (fun h => kf h ad H locs ls hw hs ha hl vl vs)
theorem G_icmp_eq (C : Cx E p s m args meth c cc nL own) {x y : Int32} {off : Int} {tgt : Nat} (ht : (pc : Int) + off = (tgt : Int)) (hd : decode cc pc = .ok (.if_icmp .eq off, 3)) (kt : x = y → G p l e R s m args below meth c E st n0 ad0 Q nL cells slots σ tgt L S) (kf : ¬ x = y → G p l e R s m args below meth c E st n0 ad0 Q nL cells slots σ (pc + 3) L S) : G p l e R s m args below meth c E st n0 ad0 Q nL cells slots σ pc L (.int y :: .int x :: S) :=
  fun ad H locs ls hw hs ha hl vl vs => lv_icmp_eq C.1 C.2.1 hd ht (fun h => kt h ad H locs ls hw hs ha hl vl vs) (fun h => kf h ad H locs ls hw hs ha hl vl vs)
theorem G_icmp_ne (C : Cx E p s m args meth c cc nL own) {x y : Int32} {off : Int} {tgt : Nat} (ht : (pc : Int) + off = (tgt : Int)) (hd : decode cc pc = .ok (.if_icmp .ne off, 3)) (kt : ¬ x = y → G p l e R s m args below meth c E st n0 ad0 Q nL cells slots σ tgt L S) (kf : x = y → G p l e R s m args below meth c E st n0 ad0 Q nL cells slots σ (pc + 3) L S) : G p l e R s m args below meth c E st n0 ad0 Q nL cells slots σ pc L (.int y :: .int x :: S) :=
  fun ad H locs ls hw hs ha hl vl vs => lv_icmp_ne C.1 C.2.1 hd ht (fun h => kt h ad H locs ls hw hs ha hl vl vs) (fun h => kf h ad H locs ls hw hs ha hl vl vs)
theorem G_icmp_lt (C : Cx E p s m args meth c cc nL own) {x y : Int32} {off : Int} {tgt : Nat} (ht : (pc : Int) + off = (tgt : Int)) (hd : decode cc pc = .ok (.if_icmp .lt off, 3)) (kt : x < y → G p l e R s m args below meth c E st n0 ad0 Q nL cells slots σ tgt L S) (kf : ¬ x < y → G p l e R s m args below meth c E st n0 ad0 Q nL cells slots σ (pc + 3) L S) : G p l e R s m args below meth c E st n0 ad0 Q nL cells slots σ pc L (.int y :: .int x :: S) :=
  fun ad H locs ls hw hs ha hl vl vs => lv_icmp_lt C.1 C.2.1 hd ht (fun h => kt h ad H locs ls hw hs ha hl vl vs) (fun h => kf h ad H locs ls hw hs ha hl vl vs)
theorem G_icmp_ge (C : Cx E p s m args meth c cc nL own) {x y : Int32} {off : Int} {tgt : Nat} (ht : (pc : Int) + off = (tgt : Int)) (hd : decode cc pc = .ok (.if_icmp .ge off, 3)) (kt : y ≤ x → G p l e R s m args below meth c E st n0 ad0 Q nL cells slots σ tgt L S) (kf : ¬ y ≤ x → G p l e R s m args below meth c E st n0 ad0 Q nL cells slots σ (pc + 3) L S) : G p l e R s m args below meth c E st n0 ad0 Q nL cells slots σ pc L (.int y :: .int x :: S) :=
  fun ad H locs ls hw hs ha hl vl vs => lv_icmp_ge C.1 C.2.1 hd ht (fun h => kt h ad H locs ls hw hs ha hl vl vs) (fun h => kf h ad H locs ls hw hs ha hl vl vs)
theorem G_icmp_gt (C : Cx E p s m args meth c cc nL own) {x y : Int32} {off : Int} {tgt : Nat} (ht : (pc : Int) + off = (tgt : Int)) (hd : decode cc pc = .ok (.if_icmp .gt off, 3)) (kt : y < x → G p l e R s m args below meth c E st n0 ad0 Q nL cells slots σ tgt L S) (kf : ¬ y < x → G p l e R s m args below meth c E st n0 ad0 Q nL cells slots σ (pc + 3) L S) : G p l e R s m args below meth c E st n0 ad0 Q nL cells slots σ pc L (.int y :: .int x :: S) :=
  fun ad H locs ls hw hs ha hl vl vs => lv_icmp_gt C.1 C.2.1 hd ht (fun h => kt h ad H locs ls hw hs ha hl vl vs) (fun h => kf h ad H locs ls hw hs ha hl vl vs)
theorem G_icmp_le (C : Cx E p s m args meth c cc nL own) {x y : Int32} {off : Int} {tgt : Nat} (ht : (pc : Int) + off = (tgt : Int)) (hd : decode cc pc = .ok (.if_icmp .le off, 3)) (kt : x ≤ y → G p l e R s m args below meth c E st n0 ad0 Q nL cells slots σ tgt L S) (kf : ¬ x ≤ y → G p l e R s m args below meth c E st n0 ad0 Q nL cells slots σ (pc + 3) L S) : G p l e R s m args below meth c E st n0 ad0 Q nL cells slots σ pc L (.int y :: .int x :: S) :=
  fun ad H locs ls hw hs ha hl vl vs => lv_icmp_le C.1 C.2.1 hd ht (fun h => kt h ad H locs ls hw hs ha hl vl vs) (fun h => kf h ad H locs ls hw hs ha hl vl vs)
theorem G_sub {L' : List (Nat × Value)} (ks : List Nat) (hL : lv_pick L ks = L') (k : G p l e R s m args below meth c E st n0 ad0 Q nL cells slots σ pc L' S) : G p l e R s m args below meth c E st n0 ad0 Q nL cells slots σ pc L S := by
  intro ad H locs ls hw hs ha hl vl vs
  subst hL
  refine k ad H locs ls hw hs ha (lv_sub hl ks ?_) (fun q hq => ?_) vs
  · simp only [lv_pick, List.getElem?_map, List.map_filterMap]
    
  · obtain ⟨i, -, hi⟩ := List.mem_filterMap.mp hq
    exact vl q (List.mem_of_getElem? hi)
theorem G_widen {k1 k2 : Nat} (h1 : cells ≤ k1) (h2 : slots ≤ k2) (k : G p l e R s m args below meth c E st n0 ad0 Q nL k1 k2 σ pc L S) : G p l e R s m args below meth c E st n0 ad0 Q nL cells slots σ pc L S :=
  fun ad H locs ls hw hs ha hl vl vs => W.widen h1 h2 (k ad H locs ls hw hs ha hl vl vs)
end GR
