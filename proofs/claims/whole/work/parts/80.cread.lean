/-! the class reads: its own state against what the text says -/
theorem LwAt.ex {S : Nat → Nat → Prop} {σ σ' : Sto} {a : Nat} (h : LwAt σ a) (x : Ex S σ σ') : LwAt σ' a := by
  obtain ⟨r, hz, hk, ⟨p1, p2, p3, p4⟩, ⟨a1, b1⟩, ⟨a2, b2⟩, ⟨a3, b3⟩, a4, b4⟩ := h
  have k := x.2.1
  have l := x.2.2.1
  have q := x.2.2.2.1
  exact ⟨r, by rw [x.1]; exact hz, (k _).trans hk, ⟨(q _ _).trans p1, (q _ _).trans p2, (q _ _).trans p3, (q _ _).trans p4⟩, ⟨(k _).trans a1, (l _).trans b1⟩, ⟨(k _).trans a2, (l _).trans b2⟩, ⟨(k _).trans a3, (l _).trans b3⟩, (k _).trans a4, (l _).trans b4⟩
def SE (d : Nat) (x j : Nat) : Prop := (x = 67 ∧ 4 ≤ j ∧ j ≤ 10) ∨ (x = d ∧ j = 14) ∨ x = d + 3
theorem SE_ec {d : Nat} (hd : 75 ≤ d) : ∀ x j, SE d x j → x ≠ 74 ∧ ¬ (x = 67 ∧ j = 1) := fun x j h => by unfold SE at h; omega
theorem S67_SE {d : Nat} : ∀ x j, S67 x j → SE d x j := fun x j h => by unfold S67 at h; unfold SE; omega
def CE (b : Nat → Nat) (n d : Nat) (σ : Sto) : Prop := EC b n σ ∧ sR σ 67 3 = d ∧ LwAt σ d ∧ 75 ≤ d
theorem CE.ex {b : Nat → Nat} {n d : Nat} {S : Nat → Nat → Prop} {σ σ' : Sto} (h : CE b n d σ) (x : Ex S σ σ') (hS : ∀ x j, S x j → x ≠ 74 ∧ ¬ (x = 67 ∧ j = 1)) : CE b n d σ' := ⟨h.1.ex x hS, (x.2.2.2.1 _ _).trans h.2.1, h.2.2.1.ex x, h.2.2.2⟩
theorem CE.se {b : Nat → Nat} {n d : Nat} {σ σ' : Sto} (h : CE b n d σ) (x : Ex (SE d) σ σ') : CE b n d σ' := h.ex x (SE_ec h.2.2.2)
def cI (c : Nat × Nat) : Int32 := if c.1 = 0 then Int32.ofNat c.2 else if c.1 = 1 then -1 - Int32.ofNat c.2 else if c.1 = 2 then -13 else (opT.getD c.2 (0, 0)).1
def LF (f : Nat → Int32) : Nat → List (Nat × Nat) → Prop
  | _, [] => True
  | j, c :: r => f j = cI c ∧ LF f (j + 1) r
theorem LF.snoc {f : Nat → Int32} {x : Nat × Nat} : ∀ {l : List (Nat × Nat)} {j : Nat}, LF f j l → f (j + l.length) = cI x → LF f j (l ++ [x])
  | [], _, _, h => ⟨h, trivial⟩
  | c :: r, j, h, g => ⟨h.1, LF.snoc (l := r) (j := j + 1) h.2 (by
    rw [show j + 1 + r.length = j + (r.length + 1) by omega]; exact g)⟩
theorem LF.congr {f f' : Nat → Int32} : ∀ {l : List (Nat × Nat)} {j : Nat}, LF f j l → (∀ i, i < j + l.length → f' i = f i) → LF f' j l
  | [], _, _, _ => trivial
  | c :: r, j, h, g => ⟨(g j (by show j < j + (r.length + 1); omega)).trans h.1, LF.congr (l := r) (j := j + 1) h.2 (fun i hi => g i (by show i < j + (r.length + 1); omega))⟩
def CR (b : Nat → Nat) (n d : Nat) (t : Zt) (σ : Sto) : Prop := match t with
  | .inr q => q.1 ≤ n ∧ TSC b n q.1 σ ∧ sI σ 67 4 = 0 ∧ sI σ d 14 = Int32.ofNat (q.2.take 500).length ∧ LF (fun j => sI σ (d + 3) j) 0 (q.2.take 500) ∧ sI σ 67 5 = -1
  | .inl e => (∃ s, s ≤ n ∧ TSC b n s σ) ∧ (1 ≤ e.1 ∧ e.1 ≤ 4) ∧ sI σ 67 4 = Int32.ofNat e.1 ∧ sI σ 67 5 = Int32.ofNat e.2 ∧ ∃ m, m ≤ 500 ∧ sI σ d 14 = Int32.ofNat m
theorem CR.tok {b : Nat → Nat} {n d : Nat} {t : Zt} {σ : Sto} (h : CR b n d t σ) : ∃ s, s ≤ n ∧ TSC b n s σ ∧ ∀ s' l', t = .inr (s', l') → s' = s := by
  cases t with
  | inl e => obtain ⟨s, h1, h2⟩ := h.1; exact ⟨s, h1, h2, fun _ _ q => by cases q⟩
  | inr q => exact ⟨q.1, h.1, h.2.1, fun _ _ q => by cases q; rfl⟩
theorem CR.flt {b : Nat → Nat} {n d : Nat} {e : Nat × Nat} {σ : Sto} (h : CR b n d (.inl e) σ) : ¬ sI σ 67 4 = 0 := by
  obtain ⟨-, h2, h3, -⟩ := h
  rw [h3]
  intro q
  have := (oI_eq (j := e.1) (n := 0) (by omega) (by decide)).mp q
  omega
def CC (b : Nat → Nat) (n d : Nat) (G : Sto → Option Sto) (g : Zg) : Prop := ∀ t σ, CE b n d σ → CR b n d t σ → ∃ σ', G σ = some σ' ∧ Ex (SE d) σ σ' ∧ CR b n d (stN t g) σ'
theorem TSC.ex {b : Nat → Nat} {n s : Nat} {S : Nat → Nat → Prop} {σ σ' : Sto} (h : TSC b n s σ) (x : Ex S σ σ') (hS : ∀ j, 6 ≤ j → j ≤ 10 → ¬ S 67 j) : TSC b n s σ' := by
  have r : ∀ j, 6 ≤ j → j ≤ 10 → sI σ' 67 j = sI σ 67 j := fun j h1 h2 => x.2.2.2.2.2 67 j (hS j h1 h2)
  obtain ⟨h1, h2, h3, h4, h5⟩ := h
  exact ⟨(r 6 (by decide) (by decide)).trans h1, (r 7 (by decide) (by decide)).trans h2, (r 8 (by decide) (by decide)).trans h3, (r 9 (by decide) (by decide)).trans h4, (r 10 (by decide) (by decide)).trans h5⟩
theorem CC.bind {b : Nat → Nat} {n d : Nat} {G H : Sto → Option Sto} {g h : Zg} (hG : CC b n d G g) (hH : CC b n d H h) : CC b n d (fun σ => (G σ).bind H) (fun s l => stN (g s l) h) := fun t σ hC hR => by
  obtain ⟨σ1, e1, x1, r1⟩ := hG t σ hC hR
  obtain ⟨σ2, e2, x2, r2⟩ := hH _ σ1 (hC.se x1) r1
  refine ⟨σ2, by show (G σ).bind H = _; rw [e1]; exact e2, x1.tr x2, ?_⟩
  cases t with
  | inl e => exact r2
  | inr q => exact r2
theorem C_nxt {b : Nat → Nat} {n d : Nat} (hn : n ≤ 500) (hb : ∀ j, b j < 256) : CC b n d mX7_next (fun s l => .inr (nx b n s, l)) := fun t σ hC hR => by
  have hd := hC.2.2.2
  obtain ⟨s, hs, hT, hx⟩ := hR.tok
  obtain ⟨σ', e, x, r⟩ := C_nx hn hb hs hC.1 hT
  have k := x.2.2.2.2.2
  have k4 := k 67 4 (by unfold S67; omega)
  have k5 := k 67 5 (by unfold S67; omega)
  have kd : ∀ a j, 75 ≤ a → sI σ' a j = sI σ a j := fun a j ha => k a j (by unfold S67; omega)
  refine ⟨σ', e, x.mono S67_SE, ?_⟩
  have hle := (nx_le (b := b) hs).2.1
  cases t with
  | inl e =>
    obtain ⟨-, h2, h3, h4, m, h5, h6⟩ := hR
    exact ⟨⟨_, hle, r⟩, h2, k4.trans h3, k5.trans h4, m, h5, (kd _ _ hd).trans h6⟩
  | inr q =>
    obtain ⟨s', l⟩ := q
    have := hx s' l rfl
    subst this
    obtain ⟨-, -, h3, h4, h5⟩ := hR
    exact ⟨hle, r, k4.trans h3, (kd _ _ hd).trans h4, h5.1.congr (fun i _ => kd _ _ (by omega)), k5.trans h5.2⟩
theorem C_ref {b : Nat → Nat} {n d k : Nat} (h1 : 1 ≤ k) (h4 : k ≤ 4) : CC b n d (mX7_refuse (Int32.ofNat k)) (fun s _ => .inl (k, s)) := fun t σ hC hR => by
  have hd := hC.2.2.2
  cases t with
  | inl e =>
    refine ⟨σ, ?_, Ex.rf, hR⟩
    unfold mX7_refuse
    rw [if_neg hR.flt]
  | inr q =>
    obtain ⟨s, l⟩ := q
    obtain ⟨g1, g2, g3, g4, g5⟩ := hR
    have x : Ex (SE d) σ (wI (wI σ 67 4 (Int32.ofNat k)) 67 5 (sI σ 67 7)) := (Ex.rf.w (S := SE d) _ (Or.inl ⟨rfl, by decide, by decide⟩)).w _ (Or.inl ⟨rfl, by decide, by decide⟩)
    have x' : Ex (fun a j => a = 67 ∧ (j = 4 ∨ j = 5)) σ (wI (wI σ 67 4 (Int32.ofNat k)) 67 5 (sI σ 67 7)) := (Ex.rf.w (S := fun a j => a = 67 ∧ (j = 4 ∨ j = 5)) _ ⟨rfl, Or.inl rfl⟩).w _ ⟨rfl, Or.inr rfl⟩
    refine ⟨_, ?_, x, ⟨s, g1, g2.ex x' (fun j _ _ z => by omega)⟩, ⟨h1, h4⟩, rfl, g2.2.1, (l.take 500).length, ?_, ?_⟩
    · unfold mX7_refuse
      rw [if_pos g3]
      rfl
    · rw [List.length_take]; exact Nat.min_le_left _ _
    · rw [x'.2.2.2.2.2 d 14 (by omega)]; exact g4
theorem take_lt {α : Type} {l : List α} {x : α} (h : l.length < 500) : (l ++ [x]).take 500 = l ++ [x] ∧ l.take 500 = l :=
  ⟨List.take_of_length_le (by rw [List.length_append]; show l.length + 1 ≤ 500; omega), List.take_of_length_le (by omega)⟩
theorem take_ge {α : Type} {l : List α} {x : α} (h : 500 ≤ l.length) : (l ++ [x]).take 500 = l.take 500 ∧ (l.take 500).length = 500 :=
  ⟨List.take_append_of_le_length h, by rw [List.length_take]; omega⟩
/-- a sign more; where a fault was, any -/
theorem C_addF {b : Nat → Nat} {n d : Nat} {e : Nat × Nat} {σ : Sto} (hC : CE b n d σ) (hR : CR b n d (.inl e) σ) (y : Int32) : ∃ σ', mX4_addDue d y σ = some σ' ∧ Ex (SE d) σ σ' ∧ CR b n d (.inl e) σ' := by
  have hd := hC.2.2.2
  obtain ⟨-, -, -, ⟨-, -, p3, -⟩, -, -, ⟨a3, b3⟩, -, -⟩ := hC.2.2.1
  obtain ⟨⟨s, h1, hT⟩, h2, h3, h4, m, h5, h6⟩ := id hR
  unfold mX4_addDue
  rw [p3, if_pos a3, b3, h6]
  by_cases c : 500 ≤ m
  · rw [if_pos ((oI_le (by decide) (by omega)).mpr c)]
    exact ⟨σ, rfl, Ex.rf, hR⟩
  · rw [if_neg (fun q => c ((oI_le (by decide) (by omega)).mp q)), if_pos (oI_inb (by omega) (by decide)), oI_cl (j := m) (by omega)]
    have x : Ex (fun a j => (a = d ∧ j = 14) ∨ a = d + 3) σ (wI (wI σ (d + 3) m y) d 14 (Int32.ofNat (m + 1))) := (Ex.rf.w (S := fun a j => (a = d ∧ j = 14) ∨ a = d + 3) _ (Or.inr rfl)).w _ (Or.inl ⟨rfl, rfl⟩)
    have k := x.2.2.2.2.2
    refine ⟨_, ?_, x.mono (fun a j z => Or.inr z), ⟨s, h1, hT.ex x (fun j _ _ z => by omega)⟩, h2, (k 67 4 (by omega)).trans h3, (k 67 5 (by omega)).trans h4, m + 1, by omega, by rw [sI_wI, if_pos ⟨rfl, rfl⟩]⟩
    show some (wI (wI σ (d + 3) m y) d 14 (sI (wI σ (d + 3) m y) d 14 + 1)) = _
    rw [sI_wI, if_neg (by omega), h6, oI_s]
theorem C_addD {b : Nat → Nat} {n d : Nat} {t : Zt} {σ : Sto} (hC : CE b n d σ) (hR : CR b n d t σ) (c : Nat × Nat) : ∃ σ', mX4_addDue d (cI c) σ = some σ' ∧ Ex (SE d) σ σ' ∧ CR b n d (stN t fun s l => .inr (s, l ++ [c])) σ' := by
  cases t with
  | inl e => exact C_addF hC hR _
  | inr q =>
    obtain ⟨s, l⟩ := q
    have hd := hC.2.2.2
    obtain ⟨-, -, -, ⟨-, -, p3, -⟩, -, -, ⟨a3, b3⟩, -, -⟩ := hC.2.2.1
    obtain ⟨h1, hT, h3, h4, h5⟩ := hR
    show ∃ σ', _ ∧ _ ∧ CR b n d (.inr (s, l ++ [c])) σ'
    unfold mX4_addDue
    rw [p3, if_pos a3, b3, show sI σ d 14 = Int32.ofNat (l.take 500).length from h4]
    by_cases q : l.length < 500
    · obtain ⟨t1, t2⟩ := take_lt (x := c) q
      rw [t2] at h4 h5
      rw [t2, if_neg (fun q' => absurd ((oI_le (by decide) (by omega)).mp q') (by omega)), if_pos (oI_inb (by omega) (by decide)), oI_cl (j := l.length) (by omega)]
      have x : Ex (fun a j => (a = d ∧ j = 14) ∨ (a = d + 3 ∧ j = l.length)) σ (wI (wI σ (d + 3) l.length (cI c)) d 14 (Int32.ofNat (l.length + 1))) := (Ex.rf.w (S := fun a j => (a = d ∧ j = 14) ∨ (a = d + 3 ∧ j = l.length)) _ (Or.inr ⟨rfl, rfl⟩)).w _ (Or.inl ⟨rfl, rfl⟩)
      have k := x.2.2.2.2.2
      refine ⟨_, ?_, x.mono (fun a j z => Or.inr (z.imp id And.left)), h1, hT.ex x (fun j _ _ z => by omega), (k 67 4 (by omega)).trans h3, ?_, ?_⟩
      · show some (wI (wI σ (d + 3) l.length (cI c)) d 14 (sI (wI σ (d + 3) l.length (cI c)) d 14 + 1)) = _
        rw [sI_wI, if_neg (by omega), h4, oI_s]
      · show _ = Int32.ofNat ((l ++ [c]).take 500).length
        rw [t1, List.length_append, sI_wI, if_pos ⟨rfl, rfl⟩]
        rfl
      · refine ⟨?_, (k 67 5 (by omega)).trans h5.2⟩
        show LF _ 0 ((l ++ [c]).take 500)
        rw [t1]
        refine LF.snoc (h5.1.congr fun i hi => k _ _ ?_) ?_
        · rw [Nat.zero_add] at hi
          omega
        · show sI _ (d + 3) (0 + l.length) = _
          rw [Nat.zero_add, sI_wI, if_neg (by omega), sI_wI, if_pos ⟨rfl, rfl⟩]
    · obtain ⟨t1, t2⟩ := take_ge (x := c) (Nat.not_lt.mp q)
      rw [t2, if_pos ((oI_le (by decide) (by decide)).mpr (Nat.le_refl _))]
      refine ⟨σ, rfl, Ex.rf, h1, hT, h3, ?_, ?_⟩
      · show _ = Int32.ofNat ((l ++ [c]).take 500).length
        rw [t1]; exact h4
      · refine ⟨?_, h5.2⟩
        show LF _ 0 ((l ++ [c]).take 500)
        rw [t1]; exact h5.1
theorem C_addC {b : Nat → Nat} {n d : Nat} (c : Nat × Nat) : CC b n d (fun σ => if sK σ (sR σ 67 3) = 5 then (mX4_addDue (sR σ 67 3) (cI c) σ).bind some else none) (fun s l => .inr (s, l ++ [c])) := fun t σ hC hR => by
  obtain ⟨σ', e, x, r⟩ := C_addD hC hR c
  have hk := hC.2.2.1.2.2.1
  refine ⟨σ', ?_, x, r⟩
  show (if sK σ (sR σ 67 3) = 5 then (mX4_addDue (sR σ 67 3) (cI c) σ).bind some else none) = _
  rw [hC.2.1, if_pos hk, e, bnd_some]
theorem tc_256 {b : Nat → Nat} (hb : ∀ j, b j < 256) (n s : Nat) : tc b n s < 256 := by
  unfold tc
  by_cases c1 : n ≤ s
  · rw [if_pos c1]; decide
  · rw [if_neg c1]
    cases ltB b s with
    | true => rw [if_pos rfl]; decide
    | false =>
      rw [if_neg (by decide)]
      cases dgB b s with
      | true => rw [if_pos rfl]; decide
      | false =>
        rw [if_neg (by decide)]
        cases sgB (b s) with
        | true => rw [if_pos rfl]; exact hb s
        | false => rw [if_neg (by decide)]; decide
theorem tcE {b : Nat → Nat} (hb : ∀ j, b j < 256) {n s m : Nat} {v : Int32} (hv : v = Int32.ofNat m) (hm : m < 256) : (Int32.ofNat (tc b n s) = v) ↔ tc b n s = m := eq_lit hv (by have := tc_256 hb n s; omega) (by omega)
theorem C_sign {b : Nat → Nat} {n d c : Nat} {v : Int32} (hn : n ≤ 500) (hb : ∀ j, b j < 256) (hv : v = Int32.ofNat c) (hc : c < 256) : CC b n d (mX7_takeSign v) (fun s l => if tc b n s = c then .inr (nx b n s, l) else .inl (1, s)) := fun t σ hC hR => by
  obtain ⟨s, hs, hT, hx⟩ := hR.tok
  unfold mX7_takeSign mX7_takeSign_13
  rw [hT.1]
  by_cases q : tc b n s = c
  · rw [if_pos ((tcE hb hv hc).mpr q)]
    obtain ⟨σ', e, x, r⟩ := C_nxt hn hb t σ hC hR
    rw [e, bnd_some]
    refine ⟨σ', rfl, x, ?_⟩
    cases t with
    | inl e => exact r
    | inr w =>
      obtain ⟨s', l⟩ := w
      have := hx s' l rfl
      subst this
      rw [stN_r, if_pos q]
      exact r
  · rw [if_neg (fun z => q ((tcE hb hv hc).mp z))]
    obtain ⟨σ', e, x, r⟩ := (C_ref (k := 1) (by decide) (by decide)).bind (C_nxt hn hb) t σ hC hR
    have e' : (mX7_refuse 1 σ).bind mX7_next = some σ' := e
    refine ⟨σ', ?_, x, ?_⟩
    · show ((mX7_refuse 1 σ).bind fun σ3 => (mX7_next σ3).bind fun σ2 => some σ2) = _
      cases q2 : mX7_refuse 1 σ with
      | none => rw [q2] at e'; cases e'
      | some σ3 =>
        rw [q2] at e'
        have e2 : mX7_next σ3 = some σ' := e'
        rw [bnd_some, e2, bnd_some]
    · cases t with
      | inl e => exact r
      | inr w =>
        obtain ⟨s', l⟩ := w
        have := hx s' l rfl
        subst this
        rw [stN_r, if_neg q]
        exact r
def zNum (b : Nat → Nat) (n lo hi : Nat) : Zg := fun s l => if tc b n s = 3 then (if 8 < tkE b n s - s then .inl (2, s) else if nv b n s < lo ∨ hi < nv b n s then .inl (2, s) else .inr (nx b n s, l)) else .inl (1, s)
theorem C_num {b : Nat → Nat} {n d lo hi : Nat} {p0 p1 : Int32} (hn : n ≤ 500) (hb : ∀ j, b j < 256) (h0 : p0 = Int32.ofNat lo) (h1 : p1 = Int32.ofNat hi) (hl : lo < 200000000) (hh : hi < 200000000) {t : Zt} {σ : Sto} (hC : CE b n d σ) (hR : CR b n d t σ) :
    ∃ v σ', mX7_takeNumber p0 p1 σ = some (v, σ') ∧ Ex (SE d) σ σ' ∧ CR b n d (stN t (zNum b n lo hi)) σ' ∧ (∀ s l, t = .inr (s, l) → v = Int32.ofNat (nv b n s)) := by
  obtain ⟨s, hs, hT, hx⟩ := hR.tok
  obtain ⟨t6, t7, t8, t9, t10⟩ := hT
  have hnv := nv_lt (b := b) hs
  have hE := (tkE_le (b := b) hs).2.1
  have good : (∀ l, zNum b n lo hi s l = .inr (nx b n s, l)) → ∃ v σ', mX7_takeNumber_51 (sI σ 67 9) σ = some (v, σ') ∧ Ex (SE d) σ σ' ∧ CR b n d (stN t (zNum b n lo hi)) σ' ∧ (∀ s l, t = .inr (s, l) → v = Int32.ofNat (nv b n s)) := fun hg => by
    obtain ⟨σ', e, x, r⟩ := C_nxt hn hb t σ hC hR
    refine ⟨sI σ 67 9, σ', ?_, x, ?_, fun s' l q => by rw [hx s' l q]; exact t9⟩
    · unfold mX7_takeNumber_51; rw [e, bnd_some]
    · cases t with
      | inl e => exact r
      | inr w =>
        obtain ⟨s', l⟩ := w
        have := hx s' l rfl
        subst this
        rw [stN_r, hg]
        exact r
  have bad : ∀ k (v : Int32), v = Int32.ofNat k → 1 ≤ k → k ≤ 4 → (∀ l, zNum b n lo hi s l = .inl (k, s)) → ∃ w σ', ((mX7_refuse v σ).bind fun σ3 => mX7_takeNumber_51 (sI σ 67 9) σ3) = some (w, σ') ∧ Ex (SE d) σ σ' ∧ CR b n d (stN t (zNum b n lo hi)) σ' ∧ (∀ s l, t = .inr (s, l) → w = Int32.ofNat (nv b n s)) := fun k v hv k1 k4 hg => by
    obtain ⟨σ1, e1, x1, r1⟩ := C_ref (b := b) (n := n) (d := d) k1 k4 t σ hC hR
    obtain ⟨σ', e2, x2, r2⟩ := C_nxt hn hb _ σ1 (hC.se x1) r1
    refine ⟨sI σ 67 9, σ', ?_, x1.tr x2, ?_, fun s' l q => by rw [hx s' l q]; exact t9⟩
    · rw [hv, e1, bnd_some]; unfold mX7_takeNumber_51; rw [e2, bnd_some]
    · cases t with
      | inl e => exact r2
      | inr w =>
        obtain ⟨s', l⟩ := w
        have := hx s' l rfl
        subst this
        rw [stN_r, hg]
        exact r2
  unfold mX7_takeNumber mX7_takeNumber_46
  rw [t6]
  by_cases c3 : tc b n s = 3
  · rw [if_pos ((tcE (v := 3) hb rfl (by decide)).mpr c3), t10, if_pos c3]
    by_cases c8 : 8 < tkE b n s - s
    · rw [if_pos ((lit_lt (v := 8) (m := 8) rfl (by decide) (by omega)).mpr c8)]
      exact bad 2 2 rfl (by decide) (by decide) (fun l => by unfold zNum; rw [if_pos c3, if_pos c8])
    · rw [if_neg (fun q => c8 ((lit_lt (v := 8) (m := 8) rfl (by decide) (by omega)).mp q))]
      by_cases c0 : nv b n s < lo
      · rw [if_pos (show sI σ 67 9 < p0 by rw [t9, h0]; exact (oI_lt (by omega) (by omega)).mpr c0)]
        exact bad 2 2 rfl (by decide) (by decide) (fun l => by unfold zNum; rw [if_pos c3, if_neg c8, if_pos (Or.inl c0)])
      · rw [if_neg (show ¬ sI σ 67 9 < p0 by rw [t9, h0]; exact fun q => c0 ((oI_lt (by omega) (by omega)).mp q))]
        by_cases c1 : hi < nv b n s
        · rw [if_neg (show ¬ sI σ 67 9 ≤ p1 by rw [t9, h1]; exact fun q => absurd ((oI_le (by omega) (by omega)).mp q) (by omega))]
          exact bad 2 2 rfl (by decide) (by decide) (fun l => by unfold zNum; rw [if_pos c3, if_neg c8, if_pos (Or.inr c1)])
        · rw [if_pos (show sI σ 67 9 ≤ p1 by rw [t9, h1]; exact (oI_le (by omega) (by omega)).mpr (by omega))]
          exact good (fun l => by unfold zNum; rw [if_pos c3, if_neg c8, if_neg (fun q => q.elim c0 c1)])
  · rw [if_neg (fun q => c3 ((tcE (v := 3) hb rfl (by decide)).mp q))]
    exact bad 1 1 rfl (by decide) (by decide) (fun l => by unfold zNum; rw [if_neg c3])
