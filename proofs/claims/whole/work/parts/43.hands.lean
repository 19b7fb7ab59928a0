/-! hands of a work, by days -/
def dN (A : Ab) (x : Nat) : Nat := (A 101 x).toNatClampNeg
theorem day_n {A : Ab} (hr : IRow A) {i : Nat} (hi : i < cT 4 A) : dN A i < 36500 ∧ A 101 i = Int32.ofNat (dN A i) := (hr 4 (by decide) i hi).2.1.nat (by decide)
def hdP (A : Ab) (w k i : Nat) : Prop := (A 97 i = 2 ∨ A 97 i = 3 ∨ A 97 i = 4) ∧ A 98 i = Int32.ofNat w ∧ knB A i k = true
def hdB (A : Ab) (w k i : Nat) : Bool := (A 97 i == 2 || (A 97 i == 3 || A 97 i == 4)) && (A 98 i == Int32.ofNat w && knB A i k)
theorem hdB_iff {A : Ab} {w k i : Nat} : hdB A w k i = true ↔ hdP A w k i := by
  unfold hdB hdP
  rw [Bool.and_eq_true, Bool.and_eq_true, Bool.or_eq_true, Bool.or_eq_true, beq_iff_eq, beq_iff_eq, beq_iff_eq, beq_iff_eq]
def insL (A : Ab) (f : Nat) : List Nat → List Nat
  | [] => [f]
  | x :: xs => if dN A f < dN A x then f :: x :: xs else x :: insL A f xs
def handL (A : Ab) (w k : Nat) : Nat → List Nat
  | 0 => []
  | n + 1 => if hdB A w k n then insL A n (handL A w k n) else handL A w k n
theorem insL_len {A : Ab} {f : Nat} : ∀ L, (insL A f L).length = L.length + 1
  | [] => rfl
  | x :: xs => by
    unfold insL
    by_cases c : dN A f < dN A x
    · rw [if_pos c]; rfl
    · rw [if_neg c, List.length_cons, insL_len xs, List.length_cons]
theorem insL_mem {A : Ab} {f y : Nat} : ∀ L, y ∈ insL A f L ↔ y = f ∨ y ∈ L
  | [] => by unfold insL; rw [List.mem_singleton]; exact ⟨Or.inl, fun h => h.elim id (fun z => by cases z)⟩
  | x :: xs => by
    unfold insL
    by_cases c : dN A f < dN A x
    · rw [if_pos c, List.mem_cons]
    · rw [if_neg c, List.mem_cons, insL_mem xs, List.mem_cons]
      constructor
      · rintro (h | h | h)
        · exact Or.inr (Or.inl h)
        · exact Or.inl h
        · exact Or.inr (Or.inr h)
      · rintro (h | h | h)
        · exact Or.inr (Or.inl h)
        · exact Or.inl h
        · exact Or.inr (Or.inr h)
theorem handL_len {A : Ab} {w k : Nat} : ∀ n, (handL A w k n).length ≤ n
  | 0 => Nat.le_refl _
  | n + 1 => by
    have := handL_len (A := A) (w := w) (k := k) n
    unfold handL
    by_cases c : hdB A w k n = true
    · rw [if_pos c, insL_len]; omega
    · rw [if_neg c]; omega
theorem handL_mem {A : Ab} {w k y : Nat} : ∀ n, y ∈ handL A w k n ↔ y < n ∧ hdB A w k y = true
  | 0 => ⟨fun h => (by cases h), fun h => by omega⟩
  | n + 1 => by
    have ih := handL_mem (A := A) (w := w) (k := k) (y := y) n
    unfold handL
    by_cases c : hdB A w k n = true
    · rw [if_pos c, insL_mem, ih]
      constructor
      · rintro (h | h)
        · subst h; exact ⟨by omega, c⟩
        · exact ⟨by omega, h.2⟩
      · rintro ⟨h1, h2⟩
        by_cases e : y = n
        · exact Or.inl e
        · exact Or.inr ⟨by omega, h2⟩
    · rw [if_neg c, ih]
      constructor
      · rintro ⟨h1, h2⟩; exact ⟨by omega, h2⟩
      · rintro ⟨h1, h2⟩
        refine ⟨?_, h2⟩
        have : y ≠ n := fun e => c (e ▸ h2)
        omega
/-- by days, of like days by number -/
def lessK (A : Ab) (x y : Nat) : Prop := dN A x < dN A y ∨ (dN A x = dN A y ∧ x < y)
def Srt (A : Ab) (L : List Nat) : Prop := L.Pairwise (lessK A)
theorem insL_srt {A : Ab} {f : Nat} : ∀ L, Srt A L → (∀ y ∈ L, y < f) → Srt A (insL A f L)
  | [], _, _ => List.pairwise_singleton _ _
  | x :: xs, h, hl => by
    obtain ⟨h1, h2⟩ := List.pairwise_cons.mp h
    unfold insL
    by_cases c : dN A f < dN A x
    · rw [if_pos c]
      refine List.pairwise_cons.mpr ⟨fun y hy => ?_, h⟩
      rcases List.mem_cons.mp hy with e | e
      · subst e; exact Or.inl c
      · have := h1 y e
        unfold lessK at this ⊢
        omega
    · rw [if_neg c]
      refine List.pairwise_cons.mpr ⟨fun y hy => ?_, insL_srt xs h2 (fun y hy => hl y (List.mem_cons_of_mem _ hy))⟩
      rcases (insL_mem xs).mp hy with e | e
      · subst e
        have := hl x List.mem_cons_self
        unfold lessK
        omega
      · exact h1 y e
theorem handL_srt {A : Ab} {w k : Nat} : ∀ n, Srt A (handL A w k n)
  | 0 => List.Pairwise.nil
  | n + 1 => by
    unfold handL
    by_cases c : hdB A w k n = true
    · rw [if_pos c]
      exact insL_srt _ (handL_srt n) (fun y hy => ((handL_mem n).mp hy).1)
    · rw [if_neg c]; exact handL_srt n
/-- the last one of a day or ahead of it -/
def oo : Option Nat → Option Nat → Option Nat
  | some y, _ => some y
  | none, e => e
def lastL (A : Ab) (d : Nat) : List Nat → Option Nat
  | [] => none
  | x :: xs => oo (lastL A d xs) (if dN A x ≤ d then some x else none)
theorem lastL_c {A : Ab} {d x : Nat} {xs : List Nat} : lastL A d (x :: xs) = oo (lastL A d xs) (if dN A x ≤ d then some x else none) := rfl
theorem lastL_mem {A : Ab} {d y : Nat} : ∀ L, lastL A d L = some y → y ∈ L
  | [], h => by cases h
  | x :: xs, h => by
    rw [lastL_c] at h
    cases e : lastL A d xs with
    | some z =>
      rw [e] at h
      have h' : some z = some y := h
      cases h'
      exact List.mem_cons_of_mem _ (lastL_mem xs e)
    | none =>
      rw [e] at h
      have h' : (if dN A x ≤ d then some x else none) = some y := h
      by_cases c : dN A x ≤ d
      · rw [if_pos c] at h'; cases h'; exact List.mem_cons_self
      · rw [if_neg c] at h'; cases h'
def okL (A : Ab) (n : Nat) : Option Nat → Bool
  | none => true
  | some y => decide (dN A y ≤ dN A n)
theorem lastL_ins {A : Ab} {d n : Nat} : ∀ L, Srt A L → lastL A d (insL A n L) = if dN A n ≤ d ∧ okL A n (lastL A d L) = true then some n else lastL A d L
  | [], _ => by
    show (if dN A n ≤ d then some n else none) = if dN A n ≤ d ∧ true = true then some n else none
    by_cases c : dN A n ≤ d
    · rw [if_pos c, if_pos ⟨c, rfl⟩]
    · rw [if_neg c, if_neg (fun z => c z.1)]
  | x :: xs, h => by
    obtain ⟨h1, h2⟩ := List.pairwise_cons.mp h
    have ih := lastL_ins (d := d) (n := n) xs h2
    by_cases c : dN A n < dN A x
    · have e : insL A n (x :: xs) = n :: x :: xs := if_pos c
      rw [e, lastL_c]
      cases q : lastL A d (x :: xs) with
      | some y =>
        have hy := lastL_mem _ q
        have : dN A x ≤ dN A y := by
          rcases List.mem_cons.mp hy with z | z
          · subst z; exact Nat.le_refl _
          · have := h1 y z; unfold lessK at this; omega
        show some y = if dN A n ≤ d ∧ okL A n (some y) = true then some n else some y
        rw [if_neg]
        rintro ⟨z1, z2⟩
        have := of_decide_eq_true (show decide (dN A y ≤ dN A n) = true from z2)
        omega
      | none =>
        show (if dN A n ≤ d then some n else none) = if dN A n ≤ d ∧ true = true then some n else none
        by_cases c2 : dN A n ≤ d
        · rw [if_pos c2, if_pos ⟨c2, rfl⟩]
        · rw [if_neg c2, if_neg (fun z => c2 z.1)]
    · have e : insL A n (x :: xs) = x :: insL A n xs := if_neg c
      rw [e, lastL_c, lastL_c, ih]
      cases q : lastL A d xs with
      | some y =>
        show oo (if dN A n ≤ d ∧ okL A n (some y) = true then some n else some y) _ = if dN A n ≤ d ∧ okL A n (some y) = true then some n else some y
        by_cases c3 : dN A n ≤ d ∧ okL A n (some y) = true
        · rw [if_pos c3]; rfl
        · rw [if_neg c3]; rfl
      | none =>
        show oo (if dN A n ≤ d ∧ true = true then some n else none) (if dN A x ≤ d then some x else none) = if dN A n ≤ d ∧ okL A n (if dN A x ≤ d then some x else none) = true then some n else (if dN A x ≤ d then some x else none)
        by_cases c2 : dN A n ≤ d
        · rw [if_pos (show dN A n ≤ d ∧ true = true from ⟨c2, rfl⟩)]
          show some n = _
          by_cases c4 : dN A x ≤ d
          · rw [if_pos c4, if_pos (show dN A n ≤ d ∧ okL A n (some x) = true from ⟨c2, decide_eq_true (by omega)⟩)]
          · rw [if_neg c4, if_pos (show dN A n ≤ d ∧ okL A n none = true from ⟨c2, rfl⟩)]
        · rw [if_neg (fun z : dN A n ≤ d ∧ true = true => c2 z.1), if_neg (fun z : dN A n ≤ d ∧ okL A n (if dN A x ≤ d then some x else none) = true => c2 z.1)]
          rfl
/-- the first one behind a key -/
def firstL (A : Ab) (dy : Int) (nu : Int) : List Nat → Option Nat
  | [] => none
  | x :: xs => if dy < dN A x ∨ (dy = dN A x ∧ nu < x) then some x else firstL A dy nu xs
theorem firstL_mem {A : Ab} {dy nu : Int} {y : Nat} : ∀ L, firstL A dy nu L = some y → y ∈ L
  | [], h => by cases h
  | x :: xs, h => by
    unfold firstL at h
    by_cases c : dy < dN A x ∨ (dy = dN A x ∧ nu < x)
    · rw [if_pos c] at h; cases h; exact List.mem_cons_self
    · rw [if_neg c] at h; exact List.mem_cons_of_mem _ (firstL_mem xs h)
def okF (A : Ab) (n : Nat) : Option Nat → Bool
  | none => true
  | some y => decide (dN A n < dN A y)
theorem firstL_ins {A : Ab} {dy nu : Int} {n : Nat} : ∀ L, Srt A L → (∀ y ∈ L, y < n) → firstL A dy nu (insL A n L) = if (dy < dN A n ∨ (dy = dN A n ∧ nu < n)) ∧ okF A n (firstL A dy nu L) = true then some n else firstL A dy nu L
  | [], _, _ => by
    unfold insL firstL firstL okF
    by_cases c : dy < dN A n ∨ (dy = dN A n ∧ nu < n)
    · rw [if_pos c, if_pos ⟨c, rfl⟩]
    · rw [if_neg c, if_neg (fun z => c z.1)]
  | x :: xs, h, hl => by
    obtain ⟨h1, h2⟩ := List.pairwise_cons.mp h
    have ih := firstL_ins (dy := dy) (nu := nu) (n := n) xs h2 (fun y hy => hl y (List.mem_cons_of_mem _ hy))
    by_cases c : dN A n < dN A x
    · have e : insL A n (x :: xs) = n :: x :: xs := if_pos c
      rw [e]
      have e2 : firstL A dy nu (n :: x :: xs) = if dy < dN A n ∨ (dy = dN A n ∧ nu < n) then some n else firstL A dy nu (x :: xs) := rfl
      rw [e2]
      by_cases c2 : dy < dN A n ∨ (dy = dN A n ∧ nu < n)
      · have e3 : firstL A dy nu (x :: xs) = some x := if_pos (by omega)
        rw [if_pos c2, e3, if_pos ⟨c2, decide_eq_true c⟩]
      · rw [if_neg c2, if_neg (fun z => c2 z.1)]
    · have e : insL A n (x :: xs) = x :: insL A n xs := if_neg c
      rw [e]
      have e2 : firstL A dy nu (x :: insL A n xs) = if dy < dN A x ∨ (dy = dN A x ∧ nu < x) then some x else firstL A dy nu (insL A n xs) := rfl
      have e3 : firstL A dy nu (x :: xs) = if dy < dN A x ∨ (dy = dN A x ∧ nu < x) then some x else firstL A dy nu xs := rfl
      rw [e2, e3]
      by_cases c2 : dy < dN A x ∨ (dy = dN A x ∧ nu < x)
      · have e4 : ¬ ((dy < dN A n ∨ (dy = dN A n ∧ nu < n)) ∧ okF A n (some x) = true) := fun z => c (of_decide_eq_true (show decide (dN A n < dN A x) = true from z.2))
        rw [if_pos c2, if_pos c2, if_neg e4]
      · rw [if_neg c2, if_neg c2, ih]
/-- in a row by keys, the first behind one is its neighbour -/
theorem firstL_next {A : Ab} : ∀ (xs ys : List Nat) (x : Nat), Srt A (xs ++ x :: ys) → firstL A (dN A x) x (xs ++ x :: ys) = ys.head?
  | [], ys, x, h => by
    obtain ⟨h1, h2⟩ := List.pairwise_cons.mp h
    show (if ((dN A x : Nat) : Int) < dN A x ∨ (((dN A x : Nat) : Int) = dN A x ∧ ((x : Nat) : Int) < x) then some x else firstL A (dN A x) x ys) = _
    rw [if_neg (by omega)]
    cases ys with
    | nil => rfl
    | cons y ys' =>
      have := h1 y List.mem_cons_self
      unfold lessK at this
      show (if ((dN A x : Nat) : Int) < dN A y ∨ (((dN A x : Nat) : Int) = dN A y ∧ ((x : Nat) : Int) < y) then some y else _) = _
      rw [if_pos (by omega)]
      rfl
  | z :: xs, ys, x, h => by
    obtain ⟨h1, h2⟩ := List.pairwise_cons.mp h
    have := h1 x (List.mem_append_right _ List.mem_cons_self)
    unfold lessK at this
    show (if ((dN A x : Nat) : Int) < dN A z ∨ (((dN A x : Nat) : Int) = dN A z ∧ ((x : Nat) : Int) < z) then some z else firstL A (dN A x) x (xs ++ x :: ys)) = _
    rw [if_neg (by omega)]
    exact firstL_next xs ys x h2
theorem firstL_head {A : Ab} : ∀ L : List Nat, firstL A (-1) (-1) L = L.head?
  | [] => rfl
  | x :: xs => if_pos (by omega)
