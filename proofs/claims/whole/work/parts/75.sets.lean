/-! sets of societies that come to nothing together -/
def sV (N : Nat → Int64) (s : Nat) : Nat → Int64
  | 0 => 0
  | a + 1 => if s.testBit a then sV N s a + N a else sV N s a
def zB (N : Nat → Int64) (s : Nat) : Bool := decide (sV N s 5 = 0)
abbrev sub (x s : Nat) : Prop := x &&& s = x
theorem sub_b {x s : Nat} : sub x s ↔ ∀ i, x.testBit i = true → s.testBit i = true := by
  constructor
  · intro h i hi
    have := congrArg (fun y => y.testBit i) h
    simp only [Nat.testBit_and] at this
    rw [hi] at this
    simpa using this
  · intro h
    refine Nat.eq_of_testBit_eq fun i => ?_
    rw [Nat.testBit_and]
    cases e : x.testBit i with
    | false => rfl
    | true => rw [h i e]; rfl
theorem dis_b {x s : Nat} : x &&& s = 0 ↔ ∀ i, x.testBit i = true → s.testBit i = false := by
  constructor
  · intro h i hi
    have := congrArg (fun y => y.testBit i) h
    simp only [Nat.testBit_and, Nat.zero_testBit] at this
    rw [hi] at this
    simpa using this
  · intro h
    refine Nat.eq_of_testBit_eq fun i => ?_
    rw [Nat.testBit_and, Nat.zero_testBit]
    cases e : x.testBit i with
    | false => rfl
    | true => rw [h i e]; rfl
theorem sub_tr {x y z : Nat} (h : sub x y) (g : sub y z) : sub x z := sub_b.mpr fun i hi => sub_b.mp g i (sub_b.mp h i hi)
theorem sub_0 (s : Nat) : sub 0 s := Nat.zero_and s
theorem dis_x {u s : Nat} : u &&& (s ^^^ u) = 0 ∨ ¬ sub u s := by
  by_cases h : sub u s
  · refine Or.inl (dis_b.mpr fun i hi => ?_)
    rw [Nat.testBit_xor, hi, sub_b.mp h i hi]; rfl
  · exact Or.inr h
theorem or_x {u s : Nat} (h : sub u s) : u ||| (s ^^^ u) = s := by
  refine Nat.eq_of_testBit_eq fun i => ?_
  rw [Nat.testBit_or, Nat.testBit_xor]
  have := sub_b.mp h i
  cases e : u.testBit i with
  | false => simp
  | true => rw [this e]; rfl
theorem sub_x {u s : Nat} (h : sub u s) : sub (s ^^^ u) s := sub_b.mpr fun i hi => by
  rw [Nat.testBit_xor] at hi
  cases e : s.testBit i with
  | true => rfl
  | false =>
    rw [e] at hi
    cases e2 : u.testBit i with
    | true => rw [sub_b.mp h i e2] at e; cases e
    | false => rw [e2] at hi; cases hi
theorem sub_in {u v s : Nat} (hd : u &&& v = 0) (h : sub v s) : sub v (s ^^^ u) := sub_b.mpr fun i hi => by
  rw [Nat.testBit_xor, sub_b.mp h i hi]
  cases e : u.testBit i with
  | false => rfl
  | true => rw [dis_b.mp hd i e] at hi; cases hi
theorem sub_l {u v s : Nat} (h : sub (u ||| v) s) : sub u s ∧ sub v s := ⟨sub_b.mpr fun i hi => sub_b.mp h i (by rw [Nat.testBit_or, hi]; rfl), sub_b.mpr fun i hi => sub_b.mp h i (by rw [Nat.testBit_or, hi, Bool.or_true])⟩
theorem sub_or {u v s : Nat} (h : sub u s) (g : sub v s) : sub (u ||| v) s := sub_b.mpr fun i hi => by
  rw [Nat.testBit_or, Bool.or_eq_true] at hi
  exact hi.elim (sub_b.mp h i) (sub_b.mp g i)
theorem dis_sub {u v v' : Nat} (hd : u &&& v = 0) (h : sub v' v) : u &&& v' = 0 := dis_b.mpr fun i hi => by
  have := dis_b.mp hd i hi
  cases e : v'.testBit i with
  | false => rfl
  | true => rw [sub_b.mp h i e] at this; cases this
theorem dis_of {u v s : Nat} (h : sub v (s ^^^ u)) (g : sub u s) : u &&& v = 0 := dis_b.mpr fun i hi => by
  cases e : v.testBit i with
  | false => rfl
  | true =>
    have := sub_b.mp h i e
    rw [Nat.testBit_xor, hi, sub_b.mp g i hi] at this
    cases this
theorem or_lt {u v : Nat} (h : u < 32) (g : v < 32) : u ||| v < 32 := Nat.or_lt_two_pow (n := 5) h g
theorem xor_lt {u v : Nat} (h : u < 32) (g : v < 32) : u ^^^ v < 32 := Nat.xor_lt_two_pow (n := 5) h g
theorem sub_lt {u s : Nat} (h : sub u s) : u ≤ s := h ▸ Nat.and_le_right
theorem bit_s : ∀ s, s < 32 → ∀ a, a < 5 → ((s.testBit a = true) ↔ sub (2 ^ a) s) := by decide +kernel
theorem bit_lt : ∀ s, s < 32 → ∀ a, a < 5 → s.testBit a = true → s ^^^ 2 ^ a < s := by decide +kernel
theorem pow_lt : ∀ a, a < 5 → 2 ^ a < 32 ∧ 2 ^ a ≠ 0 := by decide
theorem xor_lt2 : ∀ s, s < 32 → ∀ u, u < 32 → u ≠ 0 → u &&& s = u → s ^^^ u < s := by decide +kernel
theorem bit_ex : ∀ u, u < 32 → u ≠ 0 → ∃ a, a < 5 ∧ u.testBit a = true := by decide +kernel
theorem sV_or {N : Nat → Int64} {u v : Nat} (hd : u &&& v = 0) : ∀ n, sV N (u ||| v) n = sV N u n + sV N v n
  | 0 => rfl
  | n + 1 => by
    unfold sV
    rw [sV_or hd n, Nat.testBit_or]
    cases e : u.testBit n with
    | true =>
      rw [dis_b.mp hd n e]
      show sV N u n + sV N v n + N n = sV N u n + N n + sV N v n
      rw [Int64.add_assoc, Int64.add_comm (sV N v n), ← Int64.add_assoc]
    | false =>
      cases e2 : v.testBit n with
      | true =>
        show sV N u n + sV N v n + N n = sV N u n + (sV N v n + N n)
        rw [Int64.add_assoc]
      | false => rfl
/-- what groups that come to nothing keep to -/
def ZC (z : Nat → Bool) : Prop := z 0 = true ∧ (∀ u v, u &&& v = 0 → z u = true → z v = true → z (u ||| v) = true) ∧ ∀ u s, sub u s → z s = true → z u = true → z (s ^^^ u) = true
theorem zB_ok (N : Nat → Int64) : ZC (zB N) := by
  have z : ∀ s, zB N s = true ↔ sV N s 5 = 0 := fun s => by unfold zB; exact decide_eq_true_iff
  refine ⟨(z 0).mpr ?_, fun u v hd hu hv => ?_, fun u s h hs hu => ?_⟩
  · have : ∀ n, sV N 0 n = 0 := fun n => by
      induction n with
      | zero => rfl
      | succ n ih =>
        unfold sV
        rw [Nat.zero_testBit, ih]; rfl
    exact this 5
  · rw [z] at *
    rw [sV_or hd, hu, hv]; rfl
  · rw [z] at *
    have e := sV_or (N := N) (u := u) (v := s ^^^ u) (dis_x.resolve_right fun q => q h) 5
    rw [or_x h, hs, hu, Int64.zero_add] at e
    exact e.symm
/-- k groups, unlike, that come to nothing, make w -/
def RK (z : Nat → Bool) : Nat → Nat → Prop
  | 0, w => w = 0
  | k + 1, w => ∃ u v, u < 32 ∧ v < 32 ∧ u &&& v = 0 ∧ w = u ||| v ∧ u ≠ 0 ∧ z u = true ∧ RK z k v
theorem RK_z {z : Nat → Bool} (hz : ZC z) : ∀ k w, RK z k w → z w = true ∧ w < 32
  | 0, w, h => by
    have : w = 0 := h
    subst this
    exact ⟨hz.1, by decide⟩
  | k + 1, w, ⟨u, v, h1, h2, h3, h4, h5, h6, h7⟩ => by
    rw [h4]
    exact ⟨hz.2.1 u v h3 h6 (RK_z hz k v h7).1, or_lt h1 h2⟩
/-- the class's way: one less, and one more where it comes to nothing -/
def gM (g : Nat → Nat) (s : Nat) : Nat → Nat
  | 0 => 0
  | a + 1 => if s.testBit a then max (gM g s a) (g (s ^^^ 2 ^ a)) else gM g s a
def gT (z : Nat → Bool) : Nat → Nat → Nat
  | 0 => fun _ => 0
  | n + 1 => fun s => if s = n then (if n = 0 then 0 else gM (gT z n) n 5 + (if z n then 1 else 0)) else gT z n s
def gr (z : Nat → Bool) (s : Nat) : Nat := gT z (s + 1) s
theorem gT_st {z : Nat → Bool} {s : Nat} : ∀ n, s < n → gT z n s = gr z s
  | 0, h => by omega
  | n + 1, h => by
    by_cases e : s = n
    · subst e; rfl
    · show (if s = n then _ else gT z n s) = _
      rw [if_neg e]
      exact gT_st n (by omega)
theorem gM_eq {g g' : Nat → Nat} {s : Nat} (hs : s < 32) (h : ∀ t, t < s → g t = g' t) : ∀ n, n ≤ 5 → gM g s n = gM g' s n
  | 0, _ => rfl
  | n + 1, hn => by
    unfold gM
    rw [gM_eq hs h n (by omega)]
    by_cases c : s.testBit n = true
    · rw [if_pos c, if_pos c, h _ (bit_lt s hs n (by omega) c)]
    · rw [if_neg c, if_neg c]
theorem gr_eq {z : Nat → Bool} {s : Nat} (hs : s < 32) (h0 : s ≠ 0) : gr z s = gM (gr z) s 5 + (if z s then 1 else 0) := by
  show (if s = s then (if s = 0 then 0 else gM (gT z s) s 5 + (if z s then 1 else 0)) else gT z s s) = _
  rw [if_pos rfl, if_neg h0, gM_eq hs (g' := gr z) (fun t ht => gT_st s ht) 5 (Nat.le_refl _)]
theorem gM_ge {g : Nat → Nat} {s a : Nat} (hb : s.testBit a = true) : ∀ n, a < n → g (s ^^^ 2 ^ a) ≤ gM g s n
  | 0, h => by omega
  | n + 1, h => by
    unfold gM
    by_cases e : a = n
    · subst e
      rw [if_pos hb]
      exact Nat.le_max_right _ _
    · have := gM_ge hb (g := g) n (by omega)
      by_cases c : s.testBit n = true
      · rw [if_pos c]; exact Nat.le_trans this (Nat.le_max_left _ _)
      · rw [if_neg c]; exact this
theorem gM_at {g : Nat → Nat} {s : Nat} : ∀ n, gM g s n = 0 ∨ ∃ a, a < n ∧ s.testBit a = true ∧ gM g s n = g (s ^^^ 2 ^ a)
  | 0 => Or.inl rfl
  | n + 1 => by
    unfold gM
    by_cases c : s.testBit n = true
    · rw [if_pos c]
      rcases Nat.le_total (gM g s n) (g (s ^^^ 2 ^ n)) with q | q
      · rw [Nat.max_eq_right q]
        exact Or.inr ⟨n, by omega, c, rfl⟩
      · rw [Nat.max_eq_left q]
        exact (gM_at n).imp id fun ⟨a, a1, a2, a3⟩ => ⟨a, by omega, a2, a3⟩
    · rw [if_neg c]
      exact (gM_at n).imp id fun ⟨a, a1, a2, a3⟩ => ⟨a, by omega, a2, a3⟩
theorem gr_le {z : Nat → Bool} : ∀ n s, s < n → s < 32 → gr z s ≤ s
  | 0, _, h, _ => by omega
  | n + 1, s, h, hs => by
    by_cases h0 : s = 0
    · subst h0; exact Nat.le_refl _
    · rw [gr_eq hs h0]
      have h1 : gM (gr z) s 5 ≤ s - 1 := by
        rcases gM_at (g := gr z) (s := s) 5 with q | ⟨a, a1, a2, a3⟩
        · omega
        · have hl := bit_lt s hs a a1 a2
          have := gr_le (z := z) n (s ^^^ 2 ^ a) (by omega) (by omega)
          omega
      by_cases c : z s = true
      · rw [if_pos c]; omega
      · rw [if_neg c]; omega
theorem gr_mono {z : Nat → Bool} : ∀ n s w, s < n → s < 32 → sub w s → gr z w ≤ gr z s
  | 0, _, _, h, _, _ => by omega
  | n + 1, s, w, h, hs, hw => by
    by_cases e : w = s
    · subst e; exact Nat.le_refl _
    · have hwl := sub_lt hw
      have hx : s ^^^ w ≠ 0 := fun q => by
        have := or_x hw
        rw [q, Nat.or_zero] at this
        exact e this
      obtain ⟨a, a1, a2⟩ := bit_ex (s ^^^ w) (xor_lt hs (by omega)) hx
      have sa : s.testBit a = true := sub_b.mp (sub_x hw) a a2
      have wa : sub w (s ^^^ 2 ^ a) := by
        refine sub_in ?_ hw
        have h1 : sub (2 ^ a) (s ^^^ w) := (bit_s _ (xor_lt hs (by omega)) a a1).mp a2
        have h2 := (dis_x (u := w) (s := s)).resolve_right (fun q => q hw)
        have h3 := dis_sub h2 h1
        rw [Nat.and_comm] at h3
        exact h3
      have hl := bit_lt s hs a a1 sa
      refine Nat.le_trans (gr_mono n (s ^^^ 2 ^ a) w (by omega) (by omega) wa) ?_
      rw [gr_eq hs (by omega) (z := z) (s := s)]
      exact Nat.le_trans (gM_ge sa 5 a1) (Nat.le_add_right _ _)
theorem gr_up {z : Nat → Bool} (hz : ZC z) : ∀ k w, RK z k w → k ≤ gr z w
  | 0, _, _ => Nat.zero_le _
  | k + 1, w, h => by
    have hw := RK_z hz _ _ h
    obtain ⟨u, v, h1, h2, h3, h4, h5, h6, h7⟩ := h
    have ih := gr_up hz k v h7
    obtain ⟨a, a1, a2⟩ := bit_ex u h1 h5
    have wa : w.testBit a = true := by rw [h4, Nat.testBit_or, a2]; rfl
    have hw0 : w ≠ 0 := fun q => by rw [q, Nat.zero_testBit] at wa; cases wa
    have hv : sub v (w ^^^ 2 ^ a) := by
      refine sub_in ?_ (sub_l (u := u) (s := w) (by rw [h4]; exact Nat.and_self _)).2
      have := dis_sub (u := v) (v := u) (v' := 2 ^ a) (by rw [Nat.and_comm]; exact h3) ((bit_s u h1 a a1).mp a2)
      rw [Nat.and_comm] at this
      exact this
    have hl := bit_lt w hw.2 a a1 wa
    have m1 := gr_mono (z := z) 32 (w ^^^ 2 ^ a) v (by omega) (by omega) hv
    rw [gr_eq hw.2 hw0, if_pos hw.1]
    have m2 := gM_ge (g := gr z) wa 5 a1
    omega
theorem gr_lo {z : Nat → Bool} (hz : ZC z) : ∀ n s, s < n → s < 32 → ∃ w, sub w s ∧ RK z (gr z s) w
  | 0, _, h, _ => by omega
  | n + 1, s, h, hs => by
    by_cases h0 : s = 0
    · subst h0; exact ⟨0, rfl, rfl⟩
    · have base : ∃ w, sub w s ∧ w ≠ s ∧ RK z (gM (gr z) s 5) w := by
        rcases gM_at (g := gr z) (s := s) 5 with q | ⟨a, a1, a2, a3⟩
        · rw [q]; exact ⟨0, sub_0 s, fun y => h0 y.symm, rfl⟩
        · have hl := bit_lt s hs a a1 a2
          obtain ⟨w, w1, w2⟩ := gr_lo hz n (s ^^^ 2 ^ a) (by omega) (by omega)
          rw [a3]
          have := sub_lt w1
          exact ⟨w, sub_tr w1 (sub_x ((bit_s s hs a a1).mp a2)), by omega, w2⟩
      obtain ⟨w, w1, w2, w3⟩ := base
      rw [gr_eq hs h0]
      by_cases c : z s = true
      · rw [if_pos c]
        have wz := RK_z hz _ _ w3
        refine ⟨s, Nat.and_self _, s ^^^ w, w, xor_lt hs wz.2, wz.2, ?_, ?_, ?_, hz.2.2 w s w1 c wz.1, w3⟩
        · rw [Nat.and_comm]; exact dis_x.resolve_right fun q => q w1
        · rw [Nat.or_comm]; exact (or_x w1).symm
        · intro q
          have := or_x w1
          rw [q, Nat.or_zero] at this
          exact w2 this
      · rw [if_neg c]; exact ⟨w, w1, w3⟩
/-- the reference's way: over all that are in it -/
def pL (z : Nat → Bool) (p : Nat → Nat) (s : Nat) : Nat → Nat → Nat → Nat
  | 0, _, c => c
  | f + 1, x, c => if x = 0 then c else pL z p s f ((x - 1) &&& s) (if z x then max c (p (s ^^^ x) + 1) else c)
def pT (z : Nat → Bool) : Nat → Nat → Nat
  | 0 => fun _ => 0
  | n + 1 => fun s => if s = n then pL z (pT z n) n FU n 0 else pT z n s
def pr' (z : Nat → Bool) (s : Nat) : Nat := pT z (s + 1) s
theorem pT_st {z : Nat → Bool} {s : Nat} : ∀ n, s < n → pT z n s = pr' z s
  | 0, h => by omega
  | n + 1, h => by
    by_cases e : s = n
    · subst e; rfl
    · show (if s = n then _ else pT z n s) = _
      rw [if_neg e]
      exact pT_st n (by omega)
theorem nx_key : ((List.range 32).all fun s => (List.range 32).all fun x => (List.range 32).all fun u => !((x &&& s == x) && (u &&& s == u) && decide (u ≤ x) && !(u == x)) || decide (u ≤ ((x - 1) &&& s))) = true := by decide +kernel
theorem nx_s (s : Nat) (hs : s < 32) (x : Nat) (hx : x < 32) (u : Nat) (hu : u < 32) (h1 : x &&& s = x) (h2 : u &&& s = u) (h3 : u ≤ x) (h4 : u ≠ x) : u ≤ (x - 1) &&& s := by
  have k := nx_key
  rw [List.all_eq_true] at k
  have k1 := k s (List.mem_range.mpr hs)
  rw [List.all_eq_true] at k1
  have k2 := k1 x (List.mem_range.mpr hx)
  rw [List.all_eq_true] at k2
  have k3 := k2 u (List.mem_range.mpr hu)
  rw [h1, h2, beq_self_eq_true, beq_self_eq_true, decide_eq_true h3, beq_false_of_ne h4] at k3
  exact of_decide_eq_true k3
theorem sub_and (x s : Nat) : sub (x &&& s) s := by
  show x &&& s &&& s = x &&& s
  rw [Nat.and_assoc, Nat.and_self]
theorem pL_c {z : Nat → Bool} {p : Nat → Nat} {s : Nat} : ∀ f x c, c ≤ pL z p s f x c
  | 0, _, _ => Nat.le_refl _
  | f + 1, x, c => by
    unfold pL
    by_cases e : x = 0
    · rw [if_pos e]; exact Nat.le_refl _
    · rw [if_neg e]
      refine Nat.le_trans ?_ (pL_c f _ _)
      by_cases d : z x = true
      · rw [if_pos d]; exact Nat.le_max_left _ _
      · rw [if_neg d]; exact Nat.le_refl _
theorem pL_ge {z : Nat → Bool} {p : Nat → Nat} {s u : Nat} (hs : s < 32) (hu : sub u s) (h0 : u ≠ 0) (hz : z u = true) : ∀ f x c, x < f → sub x s → u ≤ x → p (s ^^^ u) + 1 ≤ pL z p s f x c
  | 0, _, _, h, _, _ => by omega
  | f + 1, x, c, h, hx, hux => by
    have xs := sub_lt hx
    unfold pL
    rw [if_neg (by omega)]
    by_cases e : u = x
    · subst e
      rw [if_pos hz]
      exact Nat.le_trans (Nat.le_max_right _ _) (pL_c _ _ _)
    · have n1 := nx_s s hs x (by omega) u (by omega) hx hu hux e
      have n2 : (x - 1) &&& s ≤ x - 1 := Nat.and_le_left
      exact pL_ge hs hu h0 hz f _ _ (by omega) (sub_and _ _) n1
theorem pL_at {z : Nat → Bool} {p : Nat → Nat} {s : Nat} : ∀ f x c, sub x s → pL z p s f x c = c ∨ ∃ u, sub u s ∧ u ≠ 0 ∧ z u = true ∧ pL z p s f x c = p (s ^^^ u) + 1
  | 0, _, _, _ => Or.inl rfl
  | f + 1, x, c, hx => by
    unfold pL
    by_cases e : x = 0
    · rw [if_pos e]; exact Or.inl rfl
    · rw [if_neg e]
      by_cases d : z x = true
      · rw [if_pos d]
        rcases pL_at f ((x - 1) &&& s) (max c (p (s ^^^ x) + 1)) (sub_and _ _) with q | q
        · rw [q]
          rcases Nat.le_total c (p (s ^^^ x) + 1) with y | y
          · rw [Nat.max_eq_right y]; exact Or.inr ⟨x, hx, e, d, rfl⟩
          · rw [Nat.max_eq_left y]; exact Or.inl rfl
        · exact Or.inr q
      · rw [if_neg d]
        exact pL_at f _ c (sub_and _ _)
theorem pL_eq {z : Nat → Bool} {p p' : Nat → Nat} {s : Nat} (hs : s < 32) (h : ∀ t, t < s → p t = p' t) : ∀ f x c, sub x s → pL z p s f x c = pL z p' s f x c
  | 0, _, _, _ => rfl
  | f + 1, x, c, hx => by
    unfold pL
    by_cases e : x = 0
    · rw [if_pos e, if_pos e]
    · rw [if_neg e, if_neg e, h _ (xor_lt2 s hs x (by have := sub_lt hx; omega) e hx)]
      exact pL_eq hs h f _ _ (sub_and _ _)
theorem pr_eq {z : Nat → Bool} {s : Nat} (hs : s < 32) : pr' z s = pL z (pr' z) s FU s 0 := by
  show (if s = s then pL z (pT z s) s FU s 0 else pT z s s) = _
  rw [if_pos rfl]
  exact pL_eq hs (fun t ht => pT_st s ht) FU s 0 (Nat.and_self _)
theorem pr_le {z : Nat → Bool} : ∀ n s, s < n → s < 32 → pr' z s ≤ s
  | 0, _, h, _ => by omega
  | n + 1, s, h, hs => by
    rw [pr_eq hs]
    rcases pL_at (z := z) (p := pr' z) FU s 0 (Nat.and_self _) with q | ⟨u, u1, u2, u3, u4⟩
    · omega
    · have hl := xor_lt2 s hs u (by have := sub_lt u1; omega) u2 u1
      have := pr_le (z := z) n (s ^^^ u) (by omega) (by omega)
      omega
theorem pr_up {z : Nat → Bool} : ∀ k w s, RK z k w → sub w s → s < 32 → k ≤ pr' z s
  | 0, _, _, _, _, _ => Nat.zero_le _
  | k + 1, w, s, ⟨u, v, h1, h2, h3, h4, h5, h6, h7⟩, hw, hs => by
    rw [h4] at hw
    obtain ⟨g1, g2⟩ := sub_l hw
    have ih := pr_up k v (s ^^^ u) h7 (sub_in h3 g2) (xor_lt hs h1)
    rw [pr_eq hs]
    exact Nat.le_trans (Nat.add_le_add_right ih 1) (pL_ge hs g1 h5 h6 FU s 0 (show s < 5000 by omega) (Nat.and_self _) (sub_lt g1))
theorem pr_lo {z : Nat → Bool} : ∀ n s, s < n → s < 32 → ∃ w, sub w s ∧ RK z (pr' z s) w
  | 0, _, h, _ => by omega
  | n + 1, s, h, hs => by
    rw [pr_eq hs]
    rcases pL_at (z := z) (p := pr' z) FU s 0 (Nat.and_self _) with q | ⟨u, u1, u2, u3, u4⟩
    · rw [q]; exact ⟨0, sub_0 s, rfl⟩
    · have hu : u < 32 := by have := sub_lt u1; omega
      have hl := xor_lt2 s hs u hu u2 u1
      obtain ⟨w, w1, w2⟩ := pr_lo n (s ^^^ u) (by omega) (by omega)
      rw [u4]
      have hw : w < 32 := by have := sub_lt w1; omega
      exact ⟨u ||| w, sub_or u1 (sub_tr w1 (sub_x u1)), u, w, hu, hw, dis_of w1 u1, rfl, u2, u3, w2⟩
/-- both ways come to the same -/
theorem gr_pr {z : Nat → Bool} (hz : ZC z) {s : Nat} (hs : s < 32) : gr z s = pr' z s := by
  refine Nat.le_antisymm ?_ ?_
  · obtain ⟨w, w1, w2⟩ := gr_lo hz 32 s hs hs
    exact pr_up _ w s w2 w1 hs
  · obtain ⟨w, w1, w2⟩ := pr_lo (z := z) 32 s hs hs
    exact Nat.le_trans (gr_up hz _ w w2) (gr_mono 32 s w hs hs w1)
/-- a group less, where one of its goes -/
theorem RK_less {z : Nat → Bool} {a : Nat} (ha : a < 5) : ∀ k w, RK z k w → w.testBit a = true → ∃ v, RK z (k - 1) v ∧ sub v (w ^^^ 2 ^ a) ∧ 0 < k
  | 0, w, h, hb => by
    have : w = 0 := h
    rw [this, Nat.zero_testBit] at hb; cases hb
  | k + 1, w, ⟨u, v, h1, h2, h3, h4, h5, h6, h7⟩, hb => by
    rw [h4, Nat.testBit_or, Bool.or_eq_true] at hb
    have hsw : sub u w ∧ sub v w := sub_l (by rw [h4]; exact Nat.and_self _)
    cases e : u.testBit a with
    | true =>
      refine ⟨v, h7, sub_in ?_ hsw.2, by omega⟩
      have := dis_sub (u := v) (v := u) (v' := 2 ^ a) (by rw [Nat.and_comm]; exact h3) ((bit_s u h1 a ha).mp e)
      rw [Nat.and_comm] at this
      exact this
    | false =>
      have hv : v.testBit a = true := hb.resolve_left (by rw [e]; decide)
      obtain ⟨v', g1, g2, g3⟩ := RK_less ha k v h7 hv
      have av : sub (2 ^ a) v := (bit_s v h2 a ha).mp hv
      have s1 : sub v' v := sub_tr g2 (sub_x av)
      have hv' : v' < 32 := by have := sub_lt s1; omega
      refine ⟨u ||| v', ?_, sub_or ?_ ?_, by omega⟩
      · rw [show k + 1 - 1 = (k - 1) + 1 by omega]
        exact ⟨u, v', h1, hv', dis_sub h3 s1, rfl, h5, h6, g1⟩
      · refine sub_in ?_ hsw.1
        have := dis_sub h3 av
        rw [Nat.and_comm] at this
        exact this
      · refine sub_in ?_ (sub_tr s1 hsw.2)
        exact dis_of g2 av
theorem pr_one {z : Nat → Bool} {s a : Nat} (hs : s < 32) (ha : a < 5) (hb : s.testBit a = true) (hz1 : z (2 ^ a) = true) : pr' z s = pr' z (s ^^^ 2 ^ a) + 1 := by
  have as := (bit_s s hs a ha).mp hb
  have hp := pow_lt a ha
  have hx : s ^^^ 2 ^ a < 32 := xor_lt hs hp.1
  refine Nat.le_antisymm ?_ ?_
  · obtain ⟨w, w1, w2⟩ := pr_lo (z := z) 32 s hs hs
    cases e : w.testBit a with
    | true =>
      obtain ⟨v, v1, v2, v3⟩ := RK_less ha _ w w2 e
      have hwl : w < 32 := by have := sub_lt w1; omega
      have aw := (bit_s w hwl a ha).mp e
      have : sub v (s ^^^ 2 ^ a) := sub_in (dis_of v2 aw) (sub_tr (sub_tr v2 (sub_x aw)) w1)
      have := pr_up _ v _ v1 this hx
      omega
    | false =>
      have hwl : w < 32 := by have := sub_lt w1; omega
      have : 2 ^ a &&& w = 0 := dis_b.mpr fun i hi => by
        have hi' : i = a := by
          rw [Nat.testBit_two_pow] at hi
          exact (of_decide_eq_true hi).symm
        rw [hi']; exact e
      have := pr_up _ w _ w2 (sub_in this w1) hx
      omega
  · obtain ⟨w, w1, w2⟩ := pr_lo (z := z) 32 (s ^^^ 2 ^ a) hx hx
    have hwl : w < 32 := by have := sub_lt w1; omega
    exact pr_up (pr' z (s ^^^ 2 ^ a) + 1) (2 ^ a ||| w) s ⟨2 ^ a, w, hp.1, hwl, dis_of w1 as, rfl, hp.2, hz1, w2⟩ (sub_or as (sub_tr w1 (sub_x as))) hs
/-- those with a net, and how many they are -/
def alM (N : Nat → Int64) : Nat → Nat
  | 0 => 0
  | a + 1 => if N a = 0 then alM N a else alM N a ||| 2 ^ a
def nnM (N : Nat → Int64) : Nat → Nat
  | 0 => 0
  | a + 1 => if N a = 0 then nnM N a else nnM N a + 1
def hiM : Nat → Nat := fun j => match j with
  | 0 => 31
  | 1 => 30
  | 2 => 28
  | 3 => 24
  | 4 => 16
  | _ => 0
theorem hi_ok : ∀ j, j < 5 → ∀ x, x < 2 ^ j → ((x ||| 2 ^ j) ||| hiM (j + 1) = x ||| hiM j) ∧ (x ||| hiM (j + 1) = (x ||| hiM j) ^^^ 2 ^ j) ∧ ((x ||| hiM j).testBit j = true) ∧ x ||| hiM j < 32 ∧ (x ||| 2 ^ j) < 2 ^ (j + 1) ∧ x < 2 ^ (j + 1) := by decide +kernel
theorem sV_one : ∀ (N : Nat → Int64) a, a < 5 → sV N (2 ^ a) 5 = N a := by
  intro N a ha
  have z : (0 : Int64) + N a = N a := Int64.zero_add _
  rcases (show a = 0 ∨ a = 1 ∨ a = 2 ∨ a = 3 ∨ a = 4 by omega) with rfl | rfl | rfl | rfl | rfl <;> exact z
theorem al_lt {N : Nat → Int64} : ∀ j, j ≤ 5 → alM N j < 2 ^ j ∧ nnM N j ≤ j
  | 0, _ => ⟨show 0 < 2 ^ 0 by decide, Nat.le_refl _⟩
  | j + 1, hj => by
    obtain ⟨h1, h2⟩ := al_lt (N := N) j (by omega)
    have h3 := hi_ok j (by omega) _ h1
    unfold alM nnM
    by_cases c : N j = 0
    · rw [if_pos c, if_pos c]; exact ⟨h3.2.2.2.2.2, by omega⟩
    · rw [if_neg c, if_neg c]; exact ⟨h3.2.2.2.2.1, by omega⟩
theorem pr_all {N : Nat → Int64} : ∀ j, j ≤ 5 → pr' (zB N) 31 = pr' (zB N) (alM N j ||| hiM j) + (j - nnM N j)
  | 0, _ => by rw [show alM N 0 = 0 from rfl, show hiM 0 = 31 from rfl, Nat.zero_or, show 0 - nnM N 0 = 0 from rfl, Nat.add_zero]
  | j + 1, hj => by
    have ih := pr_all (N := N) j (by omega)
    obtain ⟨h1, h2⟩ := al_lt (N := N) j (by omega)
    obtain ⟨e1, e2, e3, e4, -, -⟩ := hi_ok j (by omega) _ h1
    unfold alM nnM
    by_cases c : N j = 0
    · rw [if_pos c, if_pos c, e2, ih, pr_one e4 (by omega) e3 (by unfold zB; rw [sV_one N j (by omega)]; exact decide_eq_true c)]
      omega
    · rw [if_neg c, if_neg c, e1, ih]
      omega
theorem pay_eq (N : Nat → Int64) : gr (zB N) 31 = pr' (zB N) (alM N 5) + (5 - nnM N 5) := by
  rw [gr_pr (zB_ok N) (by decide), pr_all 5 (Nat.le_refl _)]
  show pr' (zB N) (alM N 5 ||| 0) + _ = _
  rw [Nat.or_zero]
