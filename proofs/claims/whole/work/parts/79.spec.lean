/-! what a text says, by its tokens -/
abbrev Zt : Type := (Nat × Nat) ⊕ (Nat × List (Nat × Nat))
abbrev Zg : Type := Nat → List (Nat × Nat) → Zt
def stN (t : Zt) (f : Zg) : Zt := match t with
  | .inl e => .inl e
  | .inr q => f q.1 q.2
theorem stN_l (e : Nat × Nat) (f : Zg) : stN (.inl e) f = .inl e := rfl
theorem stN_r (s : Nat) (l : List (Nat × Nat)) (f : Zg) : stN (.inr (s, l)) f = f s l := rfl
/-- a token's bytes -/
def tkL (b : Nat → Nat) (n s : Nat) : List Nat := (List.range (tkE b n s - s)).map fun j => b (s + j)
def wixL : List (List Nat) → Nat → List Nat → Nat
  | [], _, _ => 99
  | w :: r, i, L => if w = L then i else wixL r (i + 1) L
def wsL : List (List Nat) := [[100, 117, 101], [115, 116, 101, 112], [114, 101, 115, 116], [108, 101, 97, 115, 116], [109, 111, 115, 116], [121, 101, 97, 114, 115], [99, 108, 97, 105, 109], [97, 103, 114, 101, 101, 115], [97, 110, 100], [111, 114], [110, 111, 116], [112, 114, 105, 99, 101], [115, 101, 108, 108, 101, 114], [98, 117, 121, 101, 114], [104, 111, 119], [97, 114, 116, 105, 115, 116], [104, 101, 108, 100], [102, 114, 111, 109], [97, 103, 97, 105, 110], [106, 111, 105, 110, 116], [101, 100, 105, 116, 105, 111, 110]]
theorem wixL_b : ∀ (r : List (List Nat)) (i : Nat) (L : List Nat), wixL r i L = 99 ∨ (i ≤ wixL r i L ∧ wixL r i L < i + r.length)
  | [], _, _ => Or.inl rfl
  | w :: r, i, L => by
    show (if w = L then i else wixL r (i + 1) L) = 99 ∨ (i ≤ (if w = L then i else wixL r (i + 1) L) ∧ (if w = L then i else wixL r (i + 1) L) < i + (r.length + 1))
    by_cases c : w = L
    · rw [if_pos c]; exact Or.inr ⟨Nat.le_refl _, by omega⟩
    · rw [if_neg c]
      rcases wixL_b r (i + 1) L with h | h
      · exact Or.inl h
      · exact Or.inr ⟨by omega, by omega⟩
/-- which word of the language stands there (99: none) -/
def wd (b : Nat → Nat) (n s : Nat) : Nat := if tc b n s = 2 then wixL wsL 0 (tkL b n s) else 99
theorem wd_b (b : Nat → Nat) (n s : Nat) : wd b n s = 99 ∨ wd b n s < 21 := by
  unfold wd
  by_cases c : tc b n s = 2
  · rw [if_pos c]
    rcases wixL_b wsL 0 (tkL b n s) with h | h
    · exact Or.inl h
    · have h2 : wsL.length = 21 := rfl
      exact Or.inr (by omega)
  · rw [if_neg c]; exact Or.inl rfl
theorem wd_w {b : Nat → Nat} {n s : Nat} (h : wd b n s ≠ 99) : tc b n s = 2 := by
  by_cases c : tc b n s = 2
  · exact c
  · unfold wd at h; rw [if_neg c] at h; exact absurd rfl h
theorem tc_lt {b : Nat → Nat} {n s : Nat} (h : tc b n s ≠ 0) : s < n := by
  by_cases c : n ≤ s
  · unfold tc at h; rw [if_pos c] at h; exact absurd rfl h
  · omega
/-- which operator stands there (its sign's number; 99: none) -/
def opP (b : Nat → Nat) (n s : Nat) : Nat := if tc b n s = 42 then 6 else if tc b n s = 47 then 7 else 99
def opS (b : Nat → Nat) (n s : Nat) : Nat := if tc b n s = 43 then 4 else if tc b n s = 45 then 5 else 99
def opC (b : Nat → Nat) (n s : Nat) : Nat := if tc b n s = 60 then 2 else if tc b n s = 61 then 3 else 99
def opA (b : Nat → Nat) (n s : Nat) : Nat := if wd b n s = 8 then 1 else 99
def opO (b : Nat → Nat) (n s : Nat) : Nat := if wd b n s = 9 then 0 else 99
theorem opP_i {b : Nat → Nat} {n s : Nat} (h : opP b n s ≠ 99) : (tc b n s = 42 ∧ opP b n s = 6) ∨ (tc b n s = 47 ∧ opP b n s = 7) := by
  unfold opP at h ⊢
  by_cases c : tc b n s = 42
  · exact Or.inl ⟨c, if_pos c⟩
  · rw [if_neg c] at h ⊢
    by_cases c2 : tc b n s = 47
    · exact Or.inr ⟨c2, if_pos c2⟩
    · rw [if_neg c2] at h; exact absurd rfl h
theorem opS_i {b : Nat → Nat} {n s : Nat} (h : opS b n s ≠ 99) : (tc b n s = 43 ∧ opS b n s = 4) ∨ (tc b n s = 45 ∧ opS b n s = 5) := by
  unfold opS at h ⊢
  by_cases c : tc b n s = 43
  · exact Or.inl ⟨c, if_pos c⟩
  · rw [if_neg c] at h ⊢
    by_cases c2 : tc b n s = 45
    · exact Or.inr ⟨c2, if_pos c2⟩
    · rw [if_neg c2] at h; exact absurd rfl h
theorem opC_i {b : Nat → Nat} {n s : Nat} (h : opC b n s ≠ 99) : (tc b n s = 60 ∧ opC b n s = 2) ∨ (tc b n s = 61 ∧ opC b n s = 3) := by
  unfold opC at h ⊢
  by_cases c : tc b n s = 60
  · exact Or.inl ⟨c, if_pos c⟩
  · rw [if_neg c] at h ⊢
    by_cases c2 : tc b n s = 61
    · exact Or.inr ⟨c2, if_pos c2⟩
    · rw [if_neg c2] at h; exact absurd rfl h
theorem opA_i {b : Nat → Nat} {n s : Nat} (h : opA b n s ≠ 99) : wd b n s = 8 ∧ opA b n s = 1 := by
  unfold opA at h ⊢
  by_cases c : wd b n s = 8
  · exact ⟨c, if_pos c⟩
  · rw [if_neg c] at h; exact absurd rfl h
theorem opO_i {b : Nat → Nat} {n s : Nat} (h : opO b n s ≠ 99) : wd b n s = 9 ∧ opO b n s = 0 := by
  unfold opO at h ⊢
  by_cases c : wd b n s = 9
  · exact ⟨c, if_pos c⟩
  · rw [if_neg c] at h; exact absurd rfl h
/-- an operator is a token, and one of eight -/
def OpG (b : Nat → Nat) (n : Nat) (op : Nat → Nat) : Prop := ∀ s, op s ≠ 99 → op s < 8 ∧ tc b n s ≠ 0
theorem opP_g (b : Nat → Nat) (n : Nat) : OpG b n (opP b n) := fun s h => by
  rcases opP_i h with ⟨h1, h2⟩ | ⟨h1, h2⟩ <;> exact ⟨by omega, by omega⟩
theorem opS_g (b : Nat → Nat) (n : Nat) : OpG b n (opS b n) := fun s h => by
  rcases opS_i h with ⟨h1, h2⟩ | ⟨h1, h2⟩ <;> exact ⟨by omega, by omega⟩
theorem opC_g (b : Nat → Nat) (n : Nat) : OpG b n (opC b n) := fun s h => by
  rcases opC_i h with ⟨h1, h2⟩ | ⟨h1, h2⟩ <;> exact ⟨by omega, by omega⟩
theorem opA_g (b : Nat → Nat) (n : Nat) : OpG b n (opA b n) := fun s h => by
  have h2 := wd_w (b := b) (n := n) (s := s) (by have := (opA_i h).1; omega)
  exact ⟨by have := (opA_i h).2; omega, by omega⟩
theorem opO_g (b : Nat → Nat) (n : Nat) : OpG b n (opO b n) := fun s h => by
  have h2 := wd_w (b := b) (n := n) (s := s) (by have := (opO_i h).1; omega)
  exact ⟨by have := (opO_i h).2; omega, by omega⟩
/-! the grammar. A sign of the law's reckoning: (0, v) a number, (1, k) a VALUE, (2, 0) not, (3, o) an operator -/
def zPart (b : Nat → Nat) (n : Nat) (E : Zg) : Zg := fun s l =>
  if tc b n s = 3 then (if 8 < tkE b n s - s then .inl (2, s) else .inr (nx b n s, l ++ [(0, nv b n s)]))
  else if tc b n s = 2 then (if 11 ≤ wd b n s ∧ wd b n s ≤ 20 then .inr (nx b n s, l ++ [(1, wd b n s - 11)]) else .inl (3, s))
  else if tc b n s = 40 then stN (E (nx b n s) l) fun s' l' => if tc b n s' = 41 then .inr (nx b n s', l') else .inl (1, s')
  else .inl (1, s)
def zLoop (b : Nat → Nat) (n : Nat) (g : Zg) (op : Nat → Nat) : Nat → Zg
  | 0, s, l => .inr (s, l)
  | f + 1, s, l => if op s = 99 then .inr (s, l) else stN (g (nx b n s) l) fun s' l' => zLoop b n g op f s' (l' ++ [(3, op s)])
def zRow (b : Nat → Nat) (n : Nat) (g : Zg) (op : Nat → Nat) : Zg := fun s l => stN (g s l) fun s' l' => zLoop b n g op n s' l'
def zProd (b : Nat → Nat) (n : Nat) (E : Zg) : Zg := zRow b n (zPart b n E) (opP b n)
def zSum (b : Nat → Nat) (n : Nat) (E : Zg) : Zg := zRow b n (zProd b n E) (opS b n)
def zTest (b : Nat → Nat) (n : Nat) (E : Zg) : Zg := fun s l => stN (zSum b n E s l) fun s1 l1 => if opC b n s1 = 99 then .inr (s1, l1) else stN (zSum b n E (nx b n s1) l1) fun s2 l2 => .inr (s2, l2 ++ [(3, opC b n s1)])
def zCmp (b : Nat → Nat) (n : Nat) (E : Zg) (k : Nat) : Zg := fun s l => stN (zTest b n E s l) fun s3 l3 => .inr (s3, l3 ++ List.replicate k (2, 0))
def zNots (b : Nat → Nat) (n : Nat) (E : Zg) : Nat → Nat → Zg
  | 0, k, s, l => if wd b n s = 10 then .inl (2, s) else zCmp b n E k s l
  | f + 1, k, s, l => if wd b n s = 10 then zNots b n E f (k + 1) (nx b n s) l else zCmp b n E k s l
def zNot (b : Nat → Nat) (n : Nat) (E : Zg) : Zg := zNots b n E 6 0
def zAnd (b : Nat → Nat) (n : Nat) (E : Zg) : Zg := zRow b n (zNot b n E) (opA b n)
def zOr (b : Nat → Nat) (n : Nat) (E : Zg) : Zg := zRow b n (zAnd b n E) (opO b n)
def zExprO (b : Nat → Nat) (n : Nat) (E : Zg) (w : Nat) : Zg := fun s l => if 6 ≤ w ∧ (tc b n s = 3 ∨ tc b n s = 2 ∨ tc b n s = 40) then .inl (2, s) else zOr b n E s l
def zExpr (b : Nat → Nat) (n : Nat) : Nat → Nat → Zg
  | 0, _, _, _ => .inl (1, 0)
  | g + 1, w, s, l => zExprO b n (zExpr b n g (w + 1)) w s l
/-! what it keeps to -/
def GL : List (Nat × Nat) → Nat → Prop
  | [], dep => 1 ≤ dep
  | c :: r, dep => dep ≤ 64 ∧ ((c.1 = 0 ∧ c.2 < 100000000 ∧ dep < 64 ∧ GL r (dep + 1)) ∨ (c.1 = 1 ∧ c.2 < 10 ∧ dep < 64 ∧ GL r (dep + 1)) ∨ (c.1 = 2 ∧ 0 < dep ∧ GL r dep) ∨ (c.1 = 3 ∧ c.2 < 8 ∧ 1 < dep ∧ GL r (dep - 1)))
/-- a reckoning of one number, m deep -/
def PV (x : List (Nat × Nat)) (m : Nat) : Prop := ∀ r dep, dep + m ≤ 64 → GL r (dep + 1) → GL (x ++ r) dep
theorem PV.mono {x : List (Nat × Nat)} {m m' : Nat} (h : PV x m) (hm : m ≤ m') : PV x m' := fun r dep hd hr => h r dep (by omega) hr
theorem PV.num {v : Nat} (hv : v < 100000000) : PV [(0, v)] 1 := fun _ dep hd hr => ⟨by omega, Or.inl ⟨rfl, hv, by omega, hr⟩⟩
theorem PV.val {v : Nat} (hv : v < 10) : PV [(1, v)] 1 := fun _ dep hd hr => ⟨by omega, Or.inr (Or.inl ⟨rfl, hv, by omega, hr⟩)⟩
theorem PV.op {x y : List (Nat × Nat)} {m m' o : Nat} (hx : PV x m) (hy : PV y m') (h1 : 1 ≤ m') (hm : m' + 1 ≤ m) (ho : o < 8) : PV (x ++ (y ++ [(3, o)])) m := fun r dep hd hr => by
  rw [List.append_assoc, List.append_assoc]
  refine hx _ dep hd (hy _ (dep + 1) (by omega) ⟨by omega, Or.inr (Or.inr (Or.inr ⟨rfl, ho, by omega, ?_⟩))⟩)
  exact hr
theorem GL_nots {r : List (Nat × Nat)} {dep : Nat} (h1 : 1 ≤ dep) (h2 : dep ≤ 64) (hr : GL r dep) : ∀ k, GL (List.replicate k (2, 0) ++ r) dep
  | 0 => hr
  | k + 1 => ⟨h2, Or.inr (Or.inr (Or.inl ⟨rfl, by omega, GL_nots h1 h2 hr k⟩))⟩
theorem PV.nots {x : List (Nat × Nat)} {m : Nat} (hx : PV x m) (h1 : 1 ≤ m) (k : Nat) : PV (x ++ List.replicate k (2, 0)) m := fun r dep hd hr => by
  rw [List.append_assoc]
  exact hx _ dep hd (GL_nots (by omega) (by omega) hr k)
def ZOk (b : Nat → Nat) (n s : Nat) (l : List (Nat × Nat)) (m : Nat) (stop : Nat → Prop) (t : Zt) : Prop :=
  (∀ e, t = .inl e → 1 ≤ e.1 ∧ e.1 ≤ 3 ∧ e.2 ≤ n) ∧ ∀ s' l', t = .inr (s', l') → s < s' ∧ s' ≤ n ∧ stop s' ∧ ∃ x, l' = l ++ x ∧ x.length ≤ s' - s ∧ PV x m
def ZP (b : Nat → Nat) (n m : Nat) (stop : Nat → Prop) (g : Zg) : Prop := ∀ s l, s ≤ n → ZOk b n s l m stop (g s l)
theorem ZOk.l {b : Nat → Nat} {n s m : Nat} {l : List (Nat × Nat)} {stop : Nat → Prop} {k p : Nat} (h : 1 ≤ k) (h2 : k ≤ 3) (h3 : p ≤ n) : ZOk b n s l m stop (.inl (k, p)) := ⟨fun e q => by cases q; exact ⟨h, h2, h3⟩, fun _ _ q => by cases q⟩
theorem ZOk.r {b : Nat → Nat} {n s m : Nat} {l x : List (Nat × Nat)} {stop : Nat → Prop} {s' : Nat} (h : s < s') (h2 : s' ≤ n) (h3 : stop s') (h4 : x.length ≤ s' - s) (h5 : PV x m) : ZOk b n s l m stop (.inr (s', l ++ x)) := ⟨(fun e q => by cases q), fun _ _ q => by cases q; exact ⟨h, h2, h3, x, rfl, h4, h5⟩⟩
theorem zPart_ok {b : Nat → Nat} {n m : Nat} {E : Zg} {stop : Nat → Prop} (hm : 1 ≤ m) (hE : ZP b n m stop E) : ZP b n m (fun _ => True) (zPart b n E) := fun s l hs => by
  have hnx := nx_le (b := b) (n := n) hs
  unfold zPart
  by_cases c3 : tc b n s = 3
  · rw [if_pos c3]
    have hsn : s < n := tc_lt (b := b) (by omega)
    by_cases c8 : 8 < tkE b n s - s
    · rw [if_pos c8]; exact ZOk.l (by decide) (by decide) hs
    · rw [if_neg c8]; exact ZOk.r (hnx.2.2 hsn) hnx.2.1 trivial (by have := hnx.2.2 hsn; show 1 ≤ _; omega) ((PV.num (nv_lt hs)).mono hm)
  · rw [if_neg c3]
    by_cases c2 : tc b n s = 2
    · rw [if_pos c2]
      have hsn : s < n := tc_lt (b := b) (by omega)
      by_cases c8 : 11 ≤ wd b n s ∧ wd b n s ≤ 20
      · rw [if_pos c8]; exact ZOk.r (hnx.2.2 hsn) hnx.2.1 trivial (by have := hnx.2.2 hsn; show 1 ≤ _; omega) ((PV.val (by omega)).mono hm)
      · rw [if_neg c8]; exact ZOk.l (by decide) (by decide) hs
    · rw [if_neg c2]
      by_cases c4 : tc b n s = 40
      · rw [if_pos c4]
        have hsn : s < n := tc_lt (b := b) (by omega)
        have h := hE (nx b n s) l hnx.2.1
        cases q : E (nx b n s) l with
        | inl e => rw [stN_l]; exact ⟨fun e' q' => by cases q'; exact h.1 e q, fun _ _ q' => by cases q'⟩
        | inr r =>
          obtain ⟨s', l'⟩ := r
          rw [stN_r]
          obtain ⟨h1, h2, -, x, rfl, h5, h6⟩ := h.2 s' l' q
          by_cases c5 : tc b n s' = 41
          · rw [if_pos c5]
            have hsn' : s' < n := tc_lt (b := b) (by omega)
            have hnx' := nx_le (b := b) (n := n) h2
            have := hnx.2.2 hsn
            have := hnx'.2.2 hsn'
            exact ZOk.r (by omega) hnx'.2.1 trivial (by omega) h6
          · rw [if_neg c5]; exact ZOk.l (by decide) (by decide) h2
      · rw [if_neg c4]; exact ZOk.l (by decide) (by decide) hs
theorem zLoop_ok {b : Nat → Nat} {n m M s0 : Nat} {g : Zg} {op : Nat → Nat} {stop : Nat → Prop} {l0 : List (Nat × Nat)} (hm : 1 ≤ m) (hM : m + 1 ≤ M) (hg : ZP b n m stop g) (ho : OpG b n op) : ∀ f s x, s ≤ n → n ≤ s + f → s0 < s → stop s → x.length ≤ s - s0 → PV x M → ZOk b n s0 l0 M (fun s => stop s ∧ op s = 99) (zLoop b n g op f s (l0 ++ x))
  | 0, s, x, h1, h2, h3, h4, h5, h6 => by
    refine ZOk.r h3 h1 ⟨h4, ?_⟩ h5 h6
    by_cases c : op s = 99
    · exact c
    · have := tc_lt (ho s c).2
      omega
  | f + 1, s, x, h1, h2, h3, h4, h5, h6 => by
    show ZOk b n s0 l0 M _ (if op s = 99 then .inr (s, l0 ++ x) else stN (g (nx b n s) (l0 ++ x)) fun s' l' => zLoop b n g op f s' (l' ++ [(3, op s)]))
    by_cases c : op s = 99
    · rw [if_pos c]; exact ZOk.r h3 h1 ⟨h4, c⟩ h5 h6
    · rw [if_neg c]
      have hnx := nx_le (b := b) (n := n) h1
      have hsn := tc_lt (ho s c).2
      have hlt := hnx.2.2 hsn
      have h := hg (nx b n s) (l0 ++ x) hnx.2.1
      cases q : g (nx b n s) (l0 ++ x) with
      | inl e => rw [stN_l]; exact ⟨fun e' q' => by cases q'; exact h.1 e q, fun _ _ q' => by cases q'⟩
      | inr r =>
        obtain ⟨s', l'⟩ := r
        rw [stN_r]
        obtain ⟨k1, k2, k3, y, rfl, k5, k6⟩ := h.2 s' l' q
        rw [List.append_assoc, List.append_assoc]
        refine zLoop_ok hm hM hg ho f s' _ k2 (by omega) (by omega) k3 ?_ (PV.op h6 k6 hm hM (ho s c).1)
        rw [List.length_append, List.length_append]
        show x.length + (y.length + 1) ≤ s' - s0
        omega
theorem zRow_ok {b : Nat → Nat} {n m M : Nat} {g : Zg} {op : Nat → Nat} {stop : Nat → Prop} (hm : 1 ≤ m) (hM : m + 1 ≤ M) (hg : ZP b n m stop g) (ho : OpG b n op) : ZP b n M (fun s => stop s ∧ op s = 99) (zRow b n g op) := fun s l hs => by
  unfold zRow
  have h := hg s l hs
  cases q : g s l with
  | inl e => rw [stN_l]; exact ⟨fun e' q' => by cases q'; exact h.1 e q, fun _ _ q' => by cases q'⟩
  | inr r =>
    obtain ⟨s', l'⟩ := r
    rw [stN_r]
    obtain ⟨k1, k2, k3, y, rfl, k5, k6⟩ := h.2 s' l' q
    exact zLoop_ok hm hM hg ho n s' y k2 (by omega) k1 k3 k5 (k6.mono (by omega))
def stS (b : Nat → Nat) (n : Nat) : Nat → Prop := fun s => opP b n s = 99 ∧ opS b n s = 99
theorem zSum_ok {b : Nat → Nat} {n m : Nat} {E : Zg} {stop : Nat → Prop} (hm : 1 ≤ m) (hE : ZP b n m stop E) : ZP b n (m + 2) (stS b n) (zSum b n E) := by
  have h := zRow_ok (M := m + 2) (by omega) (by omega) (zRow_ok (M := m + 1) hm (by omega) (zPart_ok hm hE) (opP_g b n)) (opS_g b n)
  intro s l hs
  have k := h s l hs
  refine ⟨k.1, fun s' l' q => ?_⟩
  obtain ⟨k1, k2, k3, k4⟩ := k.2 s' l' q
  exact ⟨k1, k2, ⟨k3.1.2, k3.2⟩, k4⟩
theorem zCmp_ok {b : Nat → Nat} {n m : Nat} {E : Zg} {stop : Nat → Prop} (hm : 1 ≤ m) (hE : ZP b n m stop E) (k s0 : Nat) (l : List (Nat × Nat)) (s : Nat) (hs : s ≤ n) (hk : k ≤ s - s0) (h0 : s0 ≤ s) : ZOk b n s0 l (m + 3) (stS b n) (zCmp b n E k s l) := by
  have hS := zSum_ok hm hE
  have h := hS s l hs
  have fin : ∀ s3 x, s < s3 → s3 ≤ n → stS b n s3 → x.length ≤ s3 - s → PV x (m + 3) → ZOk b n s0 l (m + 3) (stS b n) (.inr (s3, (l ++ x) ++ List.replicate k (2, 0))) := fun s3 x a1 a2 a3 a4 a5 => by
    rw [List.append_assoc]
    refine ZOk.r (by omega) a2 a3 ?_ (a5.nots (by omega) k)
    rw [List.length_append, List.length_replicate]
    omega
  unfold zCmp zTest
  cases q : zSum b n E s l with
  | inl e => rw [stN_l, stN_l]; exact ⟨fun e' q' => by cases q'; exact h.1 e q, fun _ _ q' => by cases q'⟩
  | inr r =>
    obtain ⟨s1, l1⟩ := r
    obtain ⟨k1, k2, k3, x, rfl, k5, k6⟩ := h.2 s1 l1 q
    rw [stN_r]
    by_cases c : opC b n s1 = 99
    · rw [if_pos c, stN_r]
      exact fin s1 x k1 k2 k3 k5 (k6.mono (by omega))
    · rw [if_neg c]
      have hsn := tc_lt (opC_g b n s1 c).2
      have hnx := nx_le (b := b) (n := n) k2
      have hlt := hnx.2.2 hsn
      have h2 := hS (nx b n s1) (l ++ x) hnx.2.1
      cases q2 : zSum b n E (nx b n s1) (l ++ x) with
      | inl e => rw [stN_l, stN_l]; exact ⟨fun e' q' => by cases q'; exact h2.1 e q2, fun _ _ q' => by cases q'⟩
      | inr r =>
        obtain ⟨s2, l2⟩ := r
        obtain ⟨j1, j2, j3, y, rfl, j5, j6⟩ := h2.2 s2 l2 q2
        rw [stN_r, stN_r, show ((l ++ x) ++ y) ++ [(3, opC b n s1)] = l ++ (x ++ (y ++ [(3, opC b n s1)])) by simp only [List.append_assoc]]
        refine fin s2 _ (by omega) j2 j3 ?_ (PV.op (k6.mono (by omega)) j6 (by omega) (by omega) (opC_g b n s1 c).1)
        rw [List.length_append, List.length_append]
        show x.length + (y.length + 1) ≤ s2 - s
        omega
theorem zNots_ok {b : Nat → Nat} {n m : Nat} {E : Zg} {stop : Nat → Prop} (hm : 1 ≤ m) (hE : ZP b n m stop E) (s0 : Nat) (l : List (Nat × Nat)) : ∀ f k s, s ≤ n → s0 ≤ s → k ≤ s - s0 → ZOk b n s0 l (m + 3) (stS b n) (zNots b n E f k s l)
  | 0, k, s, hs, h0, hk => by
    show ZOk b n s0 l (m + 3) (stS b n) (if wd b n s = 10 then .inl (2, s) else zCmp b n E k s l)
    by_cases c : wd b n s = 10
    · rw [if_pos c]; exact ZOk.l (by decide) (by decide) hs
    · rw [if_neg c]; exact zCmp_ok hm hE k s0 l s hs hk h0
  | f + 1, k, s, hs, h0, hk => by
    show ZOk b n s0 l (m + 3) (stS b n) (if wd b n s = 10 then zNots b n E f (k + 1) (nx b n s) l else zCmp b n E k s l)
    by_cases c : wd b n s = 10
    · rw [if_pos c]
      have hnx := nx_le (b := b) (n := n) hs
      have hlt := hnx.2.2 (tc_lt (b := b) (by rw [wd_w (by omega)]; decide))
      exact zNots_ok hm hE s0 l f (k + 1) (nx b n s) hnx.2.1 (by omega) (by omega)
    · rw [if_neg c]; exact zCmp_ok hm hE k s0 l s hs hk h0
theorem zNot_ok {b : Nat → Nat} {n m : Nat} {E : Zg} {stop : Nat → Prop} (hm : 1 ≤ m) (hE : ZP b n m stop E) : ZP b n (m + 3) (stS b n) (zNot b n E) := fun s l hs => zNots_ok hm hE s l 6 0 s hs (Nat.le_refl _) (by omega)
def stO (b : Nat → Nat) (n : Nat) : Nat → Prop := fun s => stS b n s ∧ opA b n s = 99 ∧ opO b n s = 99
theorem zOr_ok {b : Nat → Nat} {n m : Nat} {E : Zg} {stop : Nat → Prop} (hm : 1 ≤ m) (hE : ZP b n m stop E) : ZP b n (m + 5) (stO b n) (zOr b n E) := by
  have h := zRow_ok (M := m + 5) (by omega) (by omega) (zRow_ok (M := m + 4) (by omega) (by omega) (zNot_ok hm hE) (opA_g b n)) (opO_g b n)
  intro s l hs
  have k := h s l hs
  refine ⟨k.1, fun s' l' q => ?_⟩
  obtain ⟨k1, k2, k3, k4⟩ := k.2 s' l' q
  exact ⟨k1, k2, ⟨k3.1.1, k3.1.2, k3.2⟩, k4⟩
theorem zExpr_ok {b : Nat → Nat} {n : Nat} : ∀ g w, ZP b n (1 + 5 * g) (stO b n) (zExpr b n g w)
  | 0, w => fun s l hs => ZOk.l (by decide) (by decide) (Nat.zero_le _)
  | g + 1, w => fun s l hs => by
    show ZOk b n s l (1 + 5 * (g + 1)) (stO b n) (zExprO b n (zExpr b n g (w + 1)) w s l)
    unfold zExprO
    by_cases c : 6 ≤ w ∧ (tc b n s = 3 ∨ tc b n s = 2 ∨ tc b n s = 40)
    · rw [if_pos c]; exact ZOk.l (by decide) (by decide) hs
    · rw [if_neg c]
      have h := zOr_ok (by omega) (zExpr_ok (b := b) (n := n) g (w + 1)) s l hs
      rw [show 1 + 5 * g + 5 = 1 + 5 * (g + 1) by omega] at h
      exact h
/-- at six within others nothing begins -/
theorem zExpr_6 {b : Nat → Nat} {n : Nat} (g s : Nat) (l : List (Nat × Nat)) : zExpr b n (g + 1) 6 s l = .inl (if tc b n s = 3 ∨ tc b n s = 2 ∨ tc b n s = 40 then 2 else 1, s) := by
  show zExprO b n (zExpr b n g 7) 6 s l = _
  unfold zExprO
  by_cases c : tc b n s = 3 ∨ tc b n s = 2 ∨ tc b n s = 40
  · rw [if_pos ⟨Nat.le_refl _, c⟩, if_pos c]
  · rw [if_neg (fun q => c q.2), if_neg c]
    have hw : ¬ wd b n s = 10 := fun q => c (Or.inr (Or.inl (wd_w (by omega))))
    have hp : zPart b n (zExpr b n g 7) s l = .inl (1, s) := by
      unfold zPart
      rw [if_neg (fun q => c (Or.inl q)), if_neg (fun q => c (Or.inr (Or.inl q))), if_neg (fun q => c (Or.inr (Or.inr q)))]
    have hS : zSum b n (zExpr b n g 7) s l = .inl (1, s) := by
      unfold zSum zRow zProd zRow
      rw [hp, stN_l, stN_l]
    have hN : zNot b n (zExpr b n g 7) s l = .inl (1, s) := by
      show (if wd b n s = 10 then _ else zCmp b n (zExpr b n g 7) 0 s l) = _
      rw [if_neg hw]
      unfold zCmp zTest
      rw [hS, stN_l, stN_l]
    unfold zOr zRow zAnd zRow
    rw [hN, stN_l, stN_l]
