/-! a whole text: its CLAUSES -/
/-- a law as read: the plain numbers by the class's fields, the steps (how many, their ends, their parts), the last due -/
abbrev Zl : Type := (Nat → Int32) × (Nat × (Nat → Nat) × (Nat → Nat)) × List (Nat × Nat)
abbrev Zs : Type := (Nat × Nat) ⊕ (Nat × Zl)
def stz (t : Zt) (f : Nat → List (Nat × Nat) → Zs) : Zs := match t with
  | .inl e => .inl e
  | .inr q => f q.1 q.2
def szN (t : Zs) (f : Nat → Zl → Zs) : Zs := match t with
  | .inl e => .inl e
  | .inr q => f q.1 q.2
def zUp (R : Zl) (k : Nat) (x : Int32) : Zl := (fun j => if j = k then x else R.1 j, R.2)
def zSt (R : Zl) (a c : Nat) : Zl := (R.1, (R.2.1.1 + 1, (fun j => if j = R.2.1.1 then a else R.2.1.2.1 j), fun j => if j = R.2.1.1 then c else R.2.1.2.2 j), R.2.2)
def zDu (R : Zl) (l : List (Nat × Nat)) : Zl := (R.1, R.2.1, l)
def zLast (R : Zl) : Nat := if R.2.1.1 = 0 then 0 else R.2.1.2.1 (R.2.1.1 - 1)
def zN (b : Nat → Nat) (n lo hi fl s : Nat) (k : Zs) : Zs := if tc b n s = 3 then (if 8 < tkE b n s - s then .inl (2, s) else if nv b n s < lo ∨ hi < nv b n s then .inl (fl, s) else k) else .inl (1, s)
def hiV (v : Nat) : Nat := if v = 2 then 10000 else if v = 5 then 200 else 99999999
def zAg (R : Zl) (v : Nat) : Zl := zUp R 12 (R.1 12 ||| ((1 : Int32) <<< (Int32.ofNat v &&& 31)))
def zBody (b : Nat → Nat) (n lands v s : Nat) (R : Zl) : Zs :=
  if v = 0 then stz (zExpr b n 8 0 s []) fun s2 l => .inr (s2, zDu R l)
  else if v = 1 then zN b n (zLast R + 1) 99999999 2 s (zN b n 0 10000 2 (nx b n s) (.inr (nx b n (nx b n s), zSt R (nv b n s) (nv b n (nx b n s)))))
  else if v = 7 then zN b n 0 (lands - 1) 4 s (.inr (nx b n s, zAg R (nv b n s)))
  else zN b n 0 (hiV v) 2 s (.inr (nx b n s, zUp R (v + 5) (Int32.ofNat (nv b n s))))
def zSemi (b : Nat → Nat) (n s : Nat) (R : Zl) : Zs := if tc b n s = 59 then .inr (nx b n s, R) else .inl (1, s)
def zClause (b : Nat → Nat) (n lands ahead s : Nat) (R : Zl) : Zs :=
  if wd b n s < 8 then (if ahead = 16 then .inl (2, s) else szN (zBody b n lands (wd b n s) (nx b n s) R) (zSemi b n)) else .inl (1, s)
def zRead (b : Nat → Nat) (n lands : Nat) : Nat → Nat → Nat → Zl → Zs
  | 0, _, _, _ => .inl (1, 0)
  | f + 1, ahead, s, R => if tc b n s = 0 then .inr (s, R) else szN (zClause b n lands ahead s R) fun s' R' => zRead b n lands f (ahead + 1) s' R'
def zBlank : Zl := (fun k => if k = 9 then -1 else if k = 10 then 70 else if k = 11 then 300 else 0, (0, (fun _ => 0), fun _ => 0), [])
/-- the whole text -/
def zLaw (b : Nat → Nat) (n lands : Nat) : Zs := zRead b n lands 17 0 (rn (bkB b) n 0) zBlank
/-- what a law as read keeps to -/
def LOK (R : Zl) : Prop := (inR (R.1 7) 10001 ∧ inR (R.1 8) 100000000 ∧ (R.1 9 = -1 ∨ inR (R.1 9) 100000000) ∧ inR (R.1 10) 201 ∧ inR (R.1 11) 100000000) ∧ (∀ j, j < R.2.1.1 → R.2.1.2.1 j < 100000000 ∧ R.2.1.2.2 j < 10001) ∧ (∀ j, j + 1 < R.2.1.1 → R.2.1.2.1 j < R.2.1.2.1 (j + 1)) ∧ (R.2.2 = [] ∨ (GL R.2.2 0 ∧ R.2.2 ≠ []))
def ZsOk (n s N : Nat) (t : Zs) : Prop := (∀ e, t = .inl e → 1 ≤ e.1 ∧ e.1 ≤ 4 ∧ e.2 ≤ n) ∧ ∀ s' R', t = .inr (s', R') → s < s' ∧ s' ≤ n ∧ LOK R' ∧ R'.2.1.1 ≤ N ∧ R'.2.2.length ≤ s'
theorem ZsOk.l {n s N k p : Nat} (h : 1 ≤ k) (h2 : k ≤ 4) (h3 : p ≤ n) : ZsOk n s N (.inl (k, p)) := ⟨(fun e q => by cases q; exact ⟨h, h2, h3⟩), fun _ _ q => by cases q⟩
theorem ZsOk.r {n s N s' : Nat} {R : Zl} (h1 : s < s') (h2 : s' ≤ n) (h3 : LOK R) (h4 : R.2.1.1 ≤ N) (h5 : R.2.2.length ≤ s') : ZsOk n s N (.inr (s', R)) := ⟨(fun e q => by cases q), fun _ _ q => by cases q; exact ⟨h1, h2, h3, h4, h5⟩⟩
theorem zN_ok {b : Nat → Nat} {n lo hi fl s N : Nat} {k : Zs} (hs : s ≤ n) (hf : 1 ≤ fl ∧ fl ≤ 4) (hk : tc b n s = 3 → ¬ nv b n s < lo → ¬ hi < nv b n s → ZsOk n s N k) : ZsOk n s N (zN b n lo hi fl s k) := by
  unfold zN
  by_cases c3 : tc b n s = 3
  · rw [if_pos c3]
    by_cases c8 : 8 < tkE b n s - s
    · rw [if_pos c8]; exact ZsOk.l (by decide) (by decide) hs
    · rw [if_neg c8]
      by_cases c : nv b n s < lo ∨ hi < nv b n s
      · rw [if_pos c]; exact ZsOk.l hf.1 hf.2 hs
      · rw [if_neg c]; exact hk c3 (fun q => c (Or.inl q)) (fun q => c (Or.inr q))
  · rw [if_neg c3]; exact ZsOk.l (by decide) (by decide) hs
theorem LOK.up {R : Zl} {k : Nat} {x : Int32} (h : LOK R) (hx : (k = 7 → inR x 10001) ∧ (k = 8 → inR x 100000000) ∧ (k = 9 → x = -1 ∨ inR x 100000000) ∧ (k = 10 → inR x 201) ∧ (k = 11 → inR x 100000000)) : LOK (zUp R k x) := by
  obtain ⟨⟨h7, h8, h9, h10, h11⟩, h2⟩ := h
  have e : ∀ j, (zUp R k x).1 j = if j = k then x else R.1 j := fun _ => rfl
  refine ⟨⟨?_, ?_, ?_, ?_, ?_⟩, h2⟩
  · rw [e]
    by_cases c : 7 = k
    · rw [if_pos c]; exact hx.1 c.symm
    · rw [if_neg c]; exact h7
  · rw [e]
    by_cases c : 8 = k
    · rw [if_pos c]; exact hx.2.1 c.symm
    · rw [if_neg c]; exact h8
  · rw [e]
    by_cases c : 9 = k
    · rw [if_pos c]; exact hx.2.2.1 c.symm
    · rw [if_neg c]; exact h9
  · rw [e]
    by_cases c : 10 = k
    · rw [if_pos c]; exact hx.2.2.2.1 c.symm
    · rw [if_neg c]; exact h10
  · rw [e]
    by_cases c : 11 = k
    · rw [if_pos c]; exact hx.2.2.2.2 c.symm
    · rw [if_neg c]; exact h11
theorem zBody_ok {b : Nat → Nat} {n lands v s ahead : Nat} {R : Zl} (hs : s ≤ n) (hv : v < 8) (hR : LOK R) (hN : R.2.1.1 ≤ ahead) (hl : R.2.2.length ≤ s) : ZsOk n s (ahead + 1) (zBody b n lands v s R) := by
  have hnx := nx_le (b := b) (n := n) hs
  have hnv := nv_lt (b := b) hs
  have inr : ∀ m, nv b n s < m → inR (Int32.ofNat (nv b n s)) m := fun m h => ⟨_, h, rfl⟩
  unfold zBody
  by_cases c0 : v = 0
  · rw [if_pos c0]
    have h := zExpr_ok (b := b) (n := n) 8 0 s [] hs
    cases q : zExpr b n 8 0 s [] with
    | inl e => exact ⟨(fun e' q' => by cases q'; have := h.1 e q; exact ⟨this.1, by omega, this.2.2⟩), fun _ _ q' => by cases q'⟩
    | inr w =>
      obtain ⟨s2, l⟩ := w
      obtain ⟨h1, h2, -, x, h4, h5, h6⟩ := h.2 s2 l q
      rw [List.nil_append] at h4
      subst h4
      have hG : GL l 0 := by
        have := h6 [] 0 (by omega) (Nat.le_refl 1)
        rw [List.append_nil] at this
        exact this
      refine ZsOk.r h1 h2 ⟨hR.1, hR.2.1, hR.2.2.1, Or.inr ⟨hG, fun q2 => ?_⟩⟩ (by show R.2.1.1 ≤ ahead + 1; omega) (by show l.length ≤ s2; omega)
      have e2 : l = [] := q2
      rw [e2] at hG
      exact absurd hG (by show ¬ (1 ≤ 0); omega)
  rw [if_neg c0]
  by_cases c1 : v = 1
  · rw [if_pos c1]
    refine zN_ok hs ⟨by decide, by decide⟩ (fun k3 k0 k1 => ?_)
    have hlt := hnx.2.2 (tc_lt (b := b) (by omega))
    have hnx2 := nx_le (b := b) (n := n) hnx.2.1
    have inner : ZsOk n (nx b n s) (ahead + 1) (zN b n 0 10000 2 (nx b n s) (.inr (nx b n (nx b n s), zSt R (nv b n s) (nv b n (nx b n s))))) := by
      refine zN_ok hnx.2.1 ⟨by decide, by decide⟩ (fun j3 j0 j1 => ?_)
      have hlt2 := hnx2.2.2 (tc_lt (b := b) (by omega))
      refine ZsOk.r hlt2 hnx2.2.1 ⟨hR.1, fun j hj => ?_, fun j hj => ?_, hR.2.2.2⟩ (by show R.2.1.1 + 1 ≤ ahead + 1; omega) (by show R.2.2.length ≤ _; omega)
      · have hj' : j < R.2.1.1 + 1 := hj
        show (if j = R.2.1.1 then nv b n s else R.2.1.2.1 j) < 100000000 ∧ (if j = R.2.1.1 then nv b n (nx b n s) else R.2.1.2.2 j) < 10001
        by_cases c : j = R.2.1.1
        · rw [if_pos c, if_pos c]; exact ⟨hnv, by omega⟩
        · rw [if_neg c, if_neg c]; exact hR.2.1 j (by omega)
      · have hj' : j + 1 < R.2.1.1 + 1 := hj
        show (if j = R.2.1.1 then nv b n s else R.2.1.2.1 j) < (if j + 1 = R.2.1.1 then nv b n s else R.2.1.2.1 (j + 1))
        rw [if_neg (by omega)]
        by_cases c : j + 1 = R.2.1.1
        · rw [if_pos c]
          unfold zLast at k0
          rw [if_neg (by omega), ← c, Nat.add_sub_cancel] at k0
          omega
        · rw [if_neg c]; exact hR.2.2.1 j (by omega)
    exact ⟨inner.1, fun s' R' q => by obtain ⟨i1, i2⟩ := inner.2 s' R' q; exact ⟨by omega, i2⟩⟩
  rw [if_neg c1]
  by_cases c7 : v = 7
  · rw [if_pos c7]
    refine zN_ok hs ⟨by decide, by decide⟩ (fun k3 k0 k1 => ?_)
    have hlt := hnx.2.2 (tc_lt (b := b) (by omega))
    exact ZsOk.r hlt hnx.2.1 (hR.up ⟨(fun q => absurd q (by decide)), (fun q => absurd q (by decide)), (fun q => absurd q (by decide)), (fun q => absurd q (by decide)), (fun q => absurd q (by decide))⟩) (by show R.2.1.1 ≤ ahead + 1; omega) (by show R.2.2.length ≤ _; omega)
  rw [if_neg c7]
  refine zN_ok hs ⟨by decide, by decide⟩ (fun k3 k0 k1 => ?_)
  have hlt := hnx.2.2 (tc_lt (b := b) (by omega))
  refine ZsOk.r hlt hnx.2.1 (hR.up ⟨fun q => inr _ ?_, fun q => inr _ hnv, fun q => Or.inr (inr _ hnv), fun q => inr _ ?_, fun q => inr _ hnv⟩) (by show R.2.1.1 ≤ ahead + 1; omega) (by show R.2.2.length ≤ _; omega)
  · unfold hiV at k1; rw [if_pos (by omega)] at k1; omega
  · unfold hiV at k1; rw [if_neg (by omega), if_pos (by omega)] at k1; omega
theorem zClause_ok {b : Nat → Nat} {n lands s ahead : Nat} {R : Zl} (hs : s ≤ n) (hR : LOK R) (hN : R.2.1.1 ≤ ahead) (hl : R.2.2.length ≤ s) : ZsOk n s (ahead + 1) (zClause b n lands ahead s R) := by
  have hnx := nx_le (b := b) (n := n) hs
  unfold zClause
  by_cases c : wd b n s < 8
  · rw [if_pos c]
    have hlt := hnx.2.2 (tc_lt (b := b) (by rw [wd_w (by omega)]; decide))
    by_cases c16 : ahead = 16
    · rw [if_pos c16]; exact ZsOk.l (by decide) (by decide) hs
    · rw [if_neg c16]
      have h := zBody_ok (b := b) (n := n) (lands := lands) hnx.2.1 c hR hN (by omega)
      cases q : zBody b n lands (wd b n s) (nx b n s) R with
      | inl e => exact ⟨(fun e' q' => by cases q'; exact h.1 e q), fun _ _ q' => by cases q'⟩
      | inr w =>
        obtain ⟨s2, R2⟩ := w
        obtain ⟨h1, h2, h3, h4, h5⟩ := h.2 s2 R2 q
        have hnx2 := nx_le (b := b) (n := n) h2
        show ZsOk n s (ahead + 1) (if tc b n s2 = 59 then .inr (nx b n s2, R2) else .inl (1, s2))
        by_cases c2 : tc b n s2 = 59
        · rw [if_pos c2]
          have hlt2 := hnx2.2.2 (tc_lt (b := b) (by omega))
          exact ZsOk.r (by omega) hnx2.2.1 h3 h4 (by omega)
        · rw [if_neg c2]; exact ZsOk.l (by decide) (by decide) h2
  · rw [if_neg c]; exact ZsOk.l (by decide) (by decide) hs
theorem zClause_16 {b : Nat → Nat} {n lands s : Nat} {R : Zl} : ∃ e, zClause b n lands 16 s R = .inl e := by
  unfold zClause
  by_cases c : wd b n s < 8
  · rw [if_pos c, if_pos rfl]; exact ⟨_, rfl⟩
  · rw [if_neg c]; exact ⟨_, rfl⟩
theorem LOK_blank : LOK zBlank := ⟨⟨⟨0, by decide, rfl⟩, ⟨0, by decide, rfl⟩, Or.inl rfl, ⟨70, by decide, rfl⟩, ⟨300, by decide, rfl⟩⟩, (fun j hj => absurd hj (Nat.not_lt_zero j)), (fun j hj => absurd hj (Nat.not_lt_zero _)), Or.inl rfl⟩
