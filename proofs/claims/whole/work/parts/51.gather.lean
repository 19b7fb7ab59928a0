/-! the reference gathers deaths and heirs -/
/-- a list in the reference's row of heirs from a place on -/
def AH (ρ : Sto) (o : Nat) (L : List Nat) : Prop := ∀ as x bs, L = as ++ x :: bs → sI ρ 132 (o + as.length) = Int32.ofNat x
theorem AH.app {ρ : Sto} {o : Nat} {xs ys : List Nat} : AH ρ o (xs ++ ys) ↔ AH ρ o xs ∧ AH ρ (o + xs.length) ys := by
  constructor
  · intro h
    refine ⟨fun as x bs e => h as x (bs ++ ys) (by rw [e, List.append_assoc, List.cons_append]), fun as x bs e => ?_⟩
    have := h (xs ++ as) x bs (by rw [e, List.append_assoc])
    rw [List.length_append] at this
    rw [Nat.add_assoc]
    exact this
  · rintro ⟨h1, h2⟩ as x bs e
    rcases List.append_eq_append_iff.mp e with ⟨cs, e1, e2⟩ | ⟨cs, e1, e2⟩
    · -- as = xs ++ cs
      rw [e1, List.length_append, ← Nat.add_assoc]
      exact h2 cs x bs e2
    · -- xs = as ++ cs, x :: bs = cs ++ ys
      cases cs with
      | nil =>
        rw [List.nil_append] at e2
        rw [List.append_nil] at e1
        have := h2 [] x bs (by rw [← e2, List.nil_append])
        rw [e1] at this
        exact this
      | cons c cs' =>
        rw [List.cons_append] at e2
        injection e2 with e3 e4
        subst e3
        exact h1 as x cs' e1
theorem AH.one {ρ : Sto} {o x : Nat} : AH ρ o [x] ↔ sI ρ 132 o = Int32.ofNat x := by
  constructor
  · intro h; exact h [] x [] rfl
  · intro h as y bs e
    cases as with
    | nil => injection e with e1 e2; subst e1; exact h
    | cons a as' => cases as' <;> cases e
theorem AH.cons {ρ : Sto} {o x : Nat} {xs : List Nat} : AH ρ o (x :: xs) ↔ sI ρ 132 o = Int32.ofNat x ∧ AH ρ (o + 1) xs := by
  have := AH.app (ρ := ρ) (o := o) (xs := [x]) (ys := xs)
  rw [AH.one] at this
  exact this
theorem AH.w {ρ : Sto} {o j : Nat} {v : Int32} {L : List Nat} (h : AH ρ o L) (hj : j < o ∨ o + L.length ≤ j) : AH (wI ρ 132 j v) o L := fun as x bs e => by
  have hl : L.length = as.length + 1 + bs.length := by rw [e, List.length_append, List.length_cons]; omega
  rw [sI_wI, if_neg (by omega)]
  exact h as x bs e
theorem AH.w2 {ρ : Sto} {o a j : Nat} {v : Int32} {L : List Nat} (h : AH ρ o L) (ha : a ≠ 132) : AH (wI ρ a j v) o L := fun as x bs e => by
  rw [sI_wI, if_neg (fun z => ha z.1.symm)]
  exact h as x bs e
theorem AH.eq {ρ ρ' : Sto} {o : Nat} {L : List Nat} (h : AH ρ o L) (he : ∀ j, sI ρ' 132 j = sI ρ 132 j) : AH ρ' o L := fun as x bs e => by rw [he]; exact h as x bs e
def hrL (A : Ab) (k p : Nat) : Nat → List Nat
  | 0 => []
  | n + 1 => if isHeir A p k n then hrL A k p n ++ [n] else hrL A k p n
def offR (A : Ab) (k : Nat) (n : Nat) : Nat → Nat
  | 0 => 0
  | p + 1 => offR A k n p + (hrL A k p n).length
def eR (A : Ab) (k n : Nat) : Nat → Nat
  | 0 => 0
  | p + 1 => eR A k n p + if isHeir A p k n then 1 else 0
theorem eR_le {A : Ab} {k n : Nat} : ∀ p, p ≤ 1000 → eR A k n p ≤ 1 ∧ (eR A k n p = 1 → ∃ q, q < p ∧ isHeir A q k n = true)
  | 0, _ => ⟨Nat.zero_le _, fun h => by cases h⟩
  | p + 1, hp => by
    obtain ⟨h1, h2⟩ := eR_le (A := A) (k := k) (n := n) p (by omega)
    unfold eR
    by_cases c : isHeir A p k n = true
    · have h0 : eR A k n p = 0 := by
        rcases Nat.lt_or_ge (eR A k n p) 1 with z | z
        · omega
        · obtain ⟨q, q1, q2⟩ := h2 (by omega)
          have e := (isHeir_iff.mp q2).2.1.symm.trans (isHeir_iff.mp c).2.1
          have := (oI_eq (by omega) (by omega)).mp e
          omega
      rw [if_pos c, h0]
      exact ⟨Nat.le_refl _, fun _ => ⟨p, by omega, c⟩⟩
    · rw [if_neg c]
      exact ⟨h1, fun h => by obtain ⟨q, q1, q2⟩ := h2 h; exact ⟨q, by omega, q2⟩⟩
theorem offR_s {A : Ab} {k n : Nat} : ∀ p, offR A k (n + 1) p = offR A k n p + eR A k n p
  | 0 => rfl
  | p + 1 => by
    unfold offR eR
    rw [offR_s p]
    have : (hrL A k p (n + 1)).length = (hrL A k p n).length + if isHeir A p k n then 1 else 0 := by
      show (if isHeir A p k n then hrL A k p n ++ [n] else hrL A k p n).length = _
      by_cases c : isHeir A p k n = true
      · rw [if_pos c, if_pos c, List.length_append, List.length_singleton]
      · rw [if_neg c, if_neg c, Nat.add_zero]
    rw [this]
    omega
theorem offR_0 {A : Ab} {k : Nat} : ∀ p, offR A k 0 p = 0
  | 0 => rfl
  | p + 1 => by unfold offR; rw [offR_0 p]; rfl
theorem offR_le {A : Ab} {k p : Nat} (hp : p ≤ 1000) : ∀ n, offR A k n p ≤ n
  | 0 => by rw [offR_0]; exact Nat.le_refl _
  | n + 1 => by
    have h1 := offR_le (A := A) (k := k) hp n
    have h2 := (eR_le (A := A) (k := k) (n := n) p hp).1
    rw [offR_s]
    omega
theorem hrL_le {A : Ab} {k p : Nat} : ∀ m n, (hrL A k p n).length ≤ (hrL A k p (n + m)).length
  | 0, n => Nat.le_refl _
  | m + 1, n => by
    have h := hrL_le (A := A) (k := k) (p := p) m n
    refine Nat.le_trans h ?_
    show _ ≤ (if isHeir A p k (n + m) then hrL A k p (n + m) ++ [n + m] else hrL A k p (n + m)).length
    by_cases c : isHeir A p k (n + m) = true
    · rw [if_pos c, List.length_append]; omega
    · rw [if_neg c]; exact Nat.le_refl _
theorem hrL_mem {A : Ab} {k p y : Nat} : ∀ n, y ∈ hrL A k p n ↔ y < n ∧ isHeir A p k y = true
  | 0 => ⟨fun h => (by cases h), fun h => by omega⟩
  | n + 1 => by
    have ih := hrL_mem (A := A) (k := k) (p := p) (y := y) n
    unfold hrL
    by_cases c : isHeir A p k n = true
    · rw [if_pos c, List.mem_append, ih, List.mem_singleton]
      constructor
      · rintro (h | h)
        · exact ⟨by omega, h.2⟩
        · subst h; exact ⟨by omega, c⟩
      · rintro ⟨h1, h2⟩
        by_cases e : y = n
        · exact Or.inr e
        · exact Or.inl ⟨by omega, h2⟩
    · rw [if_neg c, ih]
      constructor
      · rintro ⟨h1, h2⟩; exact ⟨by omega, h2⟩
      · rintro ⟨h1, h2⟩
        refine ⟨?_, h2⟩
        have : y ≠ n := fun e => c (e ▸ h2)
        omega
def fdM (A : Ab) : Option Nat → Int32
  | none => -1
  | some i => A 101 i
def ldM (A : Ab) : Option Nat → Int32
  | none => -1
  | some i => A 102 i
/-- the reference has gathered at an evening -/
def GA (A : Ab) (k : Nat) (ρ : Sto) : Prop := sI ρ 81 72 = Int32.ofNat k ∧ (∀ p, p < 30 → sI ρ 129 p = fdM A (dth A k p) ∧ sI ρ 130 p = ldM A (dth A k p)) ∧ (∀ p, p ≤ 30 → sI ρ 131 p = Int32.ofNat (offR A k (cT 4 A) p)) ∧ ∀ p, p < 30 → AH ρ (offR A k (cT 4 A) p) (hrL A k p (cT 4 A))
def dtI (A : Ab) (k p i q : Nat) : Option Nat := if q < p then dth A k q else if q = p then dtR A p k i else none
def GI (A : Ab) (k p i : Nat) (ρ : Sto) : Prop := sI ρ 81 72 = Int32.ofNat k ∧ (∀ q, q < 30 → sI ρ 129 q = fdM A (dtI A k p i q) ∧ sI ρ 130 q = ldM A (dtI A k p i q)) ∧ (∀ q, q ≤ p → sI ρ 131 q = Int32.ofNat (offR A k (cT 4 A) q)) ∧ (∀ q, q < p → AH ρ (offR A k (cT 4 A) q) (hrL A k q (cT 4 A))) ∧ AH ρ (offR A k (cT 4 A) p) (hrL A k p i)
theorem no_one {A : Ab} (hr : IRow A) {p i : Nat} (hB : IB A) (hi : i < cT 4 A) (hp : cT 0 A ≤ p) (hp2 : p ≤ 1000) : A 99 i ≠ Int32.ofNat p := fun e => by
  obtain ⟨j, j1, j2⟩ := (hr 4 (by decide) i hi).1
  have hl := (hB.le (c := 0) (by decide)).1
  have hM : cM 0 = 30 := rfl
  have := (oI_eq (by omega) (by omega)).mp (j2.symm.trans e)
  omega
theorem hrL_none {A : Ab} (hr : IRow A) (hB : IB A) {p k : Nat} (hp : cT 0 A ≤ p) (hp2 : p ≤ 1000) : ∀ n, n ≤ cT 4 A → hrL A k p n = [] ∧ dtR A p k n = none
  | 0, _ => ⟨rfl, rfl⟩
  | n + 1, hn => by
    obtain ⟨h1, h2⟩ := hrL_none hr hB (k := k) hp hp2 n (by omega)
    have no := no_one hr hB (i := n) (by omega) hp hp2
    unfold hrL dtR
    rw [if_neg (fun z => no (isHeir_iff.mp z).2.1), if_neg (fun z => no (dtB_iff.mp z).2.1)]
    exact ⟨h1, h2⟩
set_option maxHeartbeats 1000000 in
theorem M_gath_l {A : Ab} (hB : IB A) (hr : IRow A) {k : Nat} (hk : k ≤ 999) {f37 : Int32 → Int32 → Int32 → Sto → Option Sto} {p : Nat} (hp : p < 30) : ∀ m i fuel ρ, i + m = cT 4 A → m < fuel → RM A ρ → GI A k p i ρ → ∃ ρ', mX12_gathers_53 f37 fuel (Int32.ofNat k) (Int32.ofNat (offR A k (cT 4 A) p + (hrL A k p i).length)) (Int32.ofNat p) (Int32.ofNat i) ρ = f37 (Int32.ofNat k) (Int32.ofNat (offR A k (cT 4 A) (p + 1))) (Int32.ofNat (p + 1)) ρ' ∧ OnlyM ρ ρ' ∧ RM A ρ' ∧ sI ρ' 81 0 = sI ρ 81 0 ∧ sI ρ' 81 73 = sI ρ 81 73 ∧ GI A k p (cT 4 A) ρ' := by
  have hl : cT 4 A ≤ 200 := (hB.le (c := 4) (by decide)).1
  have hlp : cT 0 A ≤ 30 := (hB.le (c := 0) (by decide)).1
  have hof := offR_le (A := A) (k := k) (p := p + 1) (by omega) (cT 4 A)
  have hos : offR A k (cT 4 A) (p + 1) = offR A k (cT 4 A) p + (hrL A k p (cT 4 A)).length := rfl
  intro m
  induction m with
  | zero =>
    intro i fuel ρ hi hf hm hg
    obtain ⟨n, rfl⟩ : ∃ n, fuel = n + 1 := ⟨fuel - 1, by omega⟩
    have e : i = cT 4 A := by omega
    subst e
    have hn : sI ρ 81 7 = Int32.ofNat (cT 4 A) := (hm 81 7 rfl).trans (hB.le (c := 4) (by decide)).2
    refine ⟨ρ, ?_, OnlyM.rf, hm, rfl, rfl, hg⟩
    refine Eq.trans (b := mX12_gathers_53B f37 (mX12_gathers_53 f37 n) (Int32.ofNat k) (Int32.ofNat (offR A k (cT 4 A) p + (hrL A k p (cT 4 A)).length)) (Int32.ofNat p) (Int32.ofNat (cT 4 A)) ρ) rfl ?_
    unfold mX12_gathers_53B
    rw [hn, if_pos ((oI_le (by omega) (by omega)).mpr (Nat.le_refl _)), oI_s, ← hos]
  | succ m ih =>
    intro i fuel ρ hi hf hm hg
    obtain ⟨n, rfl⟩ : ∃ n, fuel = n + 1 := ⟨fuel - 1, by omega⟩
    have hi2 : i < cT 4 A := by omega
    have hn : sI ρ 81 7 = Int32.ofNat (cT 4 A) := (hm 81 7 rfl).trans (hB.le (c := 4) (by decide)).2
    have hn3 : sI ρ 81 3 = Int32.ofNat (cT 0 A) := (hm 81 3 rfl).trans (hB.le (c := 0) (by decide)).2
    have hll : (hrL A k p i).length ≤ (hrL A k p (cT 4 A)).length := by
      have := hrL_le (A := A) (k := k) (p := p) (m + 1) i
      rw [hi] at this; exact this
    by_cases c0 : cT 0 A ≤ p
    · obtain ⟨z1, z2⟩ := hrL_none hr hB (k := k) c0 (by omega) (cT 4 A) (Nat.le_refl _)
      obtain ⟨z3, z4⟩ := hrL_none hr hB (k := k) c0 (by omega) i (by omega)
      refine ⟨ρ, ?_, OnlyM.rf, hm, rfl, rfl, ?_⟩
      · refine Eq.trans (b := mX12_gathers_53B f37 (mX12_gathers_53 f37 n) (Int32.ofNat k) (Int32.ofNat (offR A k (cT 4 A) p + (hrL A k p i).length)) (Int32.ofNat p) (Int32.ofNat i) ρ) rfl ?_
        unfold mX12_gathers_53B
        rw [hn, if_neg (fun q => absurd ((oI_le (by omega) (by omega)).mp q) (by omega)), hn3, if_pos ((oI_le (by omega) (by omega)).mpr c0), oI_s, hos, z1, z3]
      · obtain ⟨g1, g2, g3, g4, g5⟩ := hg
        refine ⟨g1, fun q hq => ?_, g3, g4, by rw [z1]; rw [z3] at g5; exact g5⟩
        have : dtI A k p (cT 4 A) q = dtI A k p i q := by unfold dtI; rw [z2, z4]
        rw [this]; exact g2 q hq
    · have sk : isHeir A p k i = false → dtB A p k i = false → ∃ ρ', mX12_gathers_53 f37 n (Int32.ofNat k) (Int32.ofNat (offR A k (cT 4 A) p + (hrL A k p i).length)) (Int32.ofNat p) (Int32.ofNat i + 1) ρ = f37 (Int32.ofNat k) (Int32.ofNat (offR A k (cT 4 A) (p + 1))) (Int32.ofNat (p + 1)) ρ' ∧ OnlyM ρ ρ' ∧ RM A ρ' ∧ sI ρ' 81 0 = sI ρ 81 0 ∧ sI ρ' 81 73 = sI ρ 81 73 ∧ GI A k p (cT 4 A) ρ' := fun e1 e2 => by
        have y1 : hrL A k p (i + 1) = hrL A k p i := if_neg (by rw [e1]; decide)
        have y2 : dtR A p k (i + 1) = dtR A p k i := by
          show (if dtB A p k i then some i else dtR A p k i) = _
          rw [if_neg (by rw [e2]; decide)]
        have g := ih (i + 1) n ρ (by omega) (by omega) hm (by
          obtain ⟨g1, g2, g3, g4, g5⟩ := hg
          refine ⟨g1, fun q hq => ?_, g3, g4, by rw [y1]; exact g5⟩
          have : dtI A k p (i + 1) q = dtI A k p i q := by unfold dtI; rw [y2]
          rw [this]; exact g2 q hq)
        rw [y1] at g
        rw [oI_s]
        exact g
      have step : mX12_gathers_53 f37 (n + 1) (Int32.ofNat k) (Int32.ofNat (offR A k (cT 4 A) p + (hrL A k p i).length)) (Int32.ofNat p) (Int32.ofNat i) ρ = mX12_gathers_53B f37 (mX12_gathers_53 f37 n) (Int32.ofNat k) (Int32.ofNat (offR A k (cT 4 A) p + (hrL A k p i).length)) (Int32.ofNat p) (Int32.ofNat i) ρ := rfl
      rw [step]
      unfold mX12_gathers_53B
      rw [hn, if_neg (fun q => absurd ((oI_le (by omega) (by omega)).mp q) (by omega)), hn3, if_neg (fun q => c0 ((oI_le (by omega) (by omega)).mp q)), if_pos (oI_inb (j := i) (n := 200) (by omega) (by decide)), oI_cl (j := i) (by omega), hm 99 i rfl, hm 97 i rfl]
      by_cases c1 : A 99 i = Int32.ofNat p
      · rw [if_pos c1]
        by_cases c2 : A 97 i = 1
        · rw [if_pos c2]
          unfold mX12_gathers_102
          rw [M_known hB hr hm hi2 hk, bnd_some]
          have nd : dtB A p k i = false := by
            cases e : dtB A p k i with
            | false => rfl
            | true => have := (dtB_iff.mp e).1; rw [c2] at this; exact absurd this (by decide)
          cases c3 : knB A i k with
          | false =>
            rw [if_pos (show (if false = true then (1 : Int32) else 0) = 0 from rfl)]
            exact sk (by
              cases e : isHeir A p k i with
              | false => rfl
              | true => rw [(isHeir_iff.mp e).2.2] at c3; cases c3) nd
          | true =>
            rw [if_neg (show ¬ (if true = true then (1 : Int32) else 0) = 0 from i10), if_pos (oI_inb (j := i) (n := 200) (by omega) (by decide)), oI_cl (j := i) (by omega), hm 97 i rfl, if_neg (by rw [c2]; decide)]
            have hh : isHeir A p k i = true := isHeir_iff.mpr ⟨c2, c1, c3⟩
            have y1 : hrL A k p (i + 1) = hrL A k p i ++ [i] := by
              show (if isHeir A p k i then hrL A k p i ++ [i] else hrL A k p i) = _
              rw [if_pos hh]
            have y2 : dtR A p k (i + 1) = dtR A p k i := by
              show (if dtB A p k i then some i else dtR A p k i) = _
              rw [if_neg (by rw [nd]; decide)]
            have hll2 : (hrL A k p i).length + 1 ≤ (hrL A k p (cT 4 A)).length := by
              have := hrL_le (A := A) (k := k) (p := p) m (i + 1)
              rw [y1, List.length_append, List.length_singleton, show i + 1 + m = cT 4 A by omega] at this
              exact this
            rw [if_pos (oI_inb (j := offR A k (cT 4 A) p + (hrL A k p i).length) (n := 200) (by omega) (by decide)), oI_cl (j := offR A k (cT 4 A) p + (hrL A k p i).length) (by omega), oI_s, oI_s]
            simp only [stp]
            obtain ⟨g1, g2, g3, g4, g5⟩ := hg
            obtain ⟨ρ', e1, e2, e3, e4, e5, e6⟩ := ih (i + 1) n (wI ρ 132 (offR A k (cT 4 A) p + (hrL A k p i).length) (Int32.ofNat i)) (by omega) (by omega) (hm.np 132 _ _ (by unfold pr; rfl)) (by
              refine ⟨g1, fun q hq => ?_, g3, fun q hq => ?_, ?_⟩
              · have : dtI A k p (i + 1) q = dtI A k p i q := by unfold dtI; rw [y2]
                rw [this]; exact g2 q hq
              · refine (g4 q hq).w (Or.inr ?_)
                have mono : ∀ a b, a ≤ b → offR A k (cT 4 A) a ≤ offR A k (cT 4 A) b := by
                  intro a b hab
                  induction hab with
                  | refl => exact Nat.le_refl _
                  | step _ ih2 => exact Nat.le_trans ih2 (Nat.le_add_right _ _)
                have := mono (q + 1) p (by omega)
                have e : offR A k (cT 4 A) (q + 1) = offR A k (cT 4 A) q + (hrL A k q (cT 4 A)).length := rfl
                omega
              · rw [y1]
                refine AH.app.mpr ⟨g5.w (Or.inr (Nat.le_refl _)), AH.one.mpr ?_⟩
                rw [sI_wI, if_pos ⟨rfl, rfl⟩])
            rw [y1, List.length_append, List.length_singleton, ← Nat.add_assoc] at e1
            exact ⟨ρ', e1, (OnlyM.rf.w 132 _ _ (by decide)).tr e2, e3, e4, e5, e6⟩
        · rw [if_neg c2]
          have nh : isHeir A p k i = false := by
            cases e : isHeir A p k i with
            | false => rfl
            | true => exact absurd (isHeir_iff.mp e).1 c2
          by_cases c4 : A 97 i = 0
          · rw [if_pos c4]
            unfold mX12_gathers_102
            rw [M_known hB hr hm hi2 hk, bnd_some]
            cases c3 : knB A i k with
            | false =>
              rw [if_pos (show (if false = true then (1 : Int32) else 0) = 0 from rfl)]
              exact sk nh (by
                cases e : dtB A p k i with
                | false => rfl
                | true => rw [(dtB_iff.mp e).2.2] at c3; cases c3)
            | true =>
              rw [if_neg (show ¬ (if true = true then (1 : Int32) else 0) = 0 from i10), if_pos (oI_inb (j := i) (n := 200) (by omega) (by decide)), oI_cl (j := i) (by omega), hm 97 i rfl, if_pos c4, if_pos (oI_inb (j := p) (n := 30) (by omega) (by decide)), oI_cl (j := p) (by omega), hm 101 i rfl]
              simp only [stp]
              rw [show sI (wI ρ 129 p (A 101 i)) 102 i = sI ρ 102 i from by rw [sI_wI, if_neg (by omega)], hm 102 i rfl, oI_s]
              have hd : dtB A p k i = true := dtB_iff.mpr ⟨c4, c1, c3⟩
              have y1 : hrL A k p (i + 1) = hrL A k p i := if_neg (by rw [nh]; decide)
              have y2 : dtR A p k (i + 1) = some i := by
                show (if dtB A p k i then some i else dtR A p k i) = _
                rw [if_pos hd]
              obtain ⟨g1, g2, g3, g4, g5⟩ := hg
              obtain ⟨ρ', e1, e2, e3, e4, e5, e6⟩ := ih (i + 1) n (wI (wI ρ 129 p (A 101 i)) 130 p (A 102 i)) (by omega) (by omega) ((hm.np 129 _ _ (by unfold pr; rfl)).np 130 _ _ (by unfold pr; rfl)) (by
                refine ⟨g1, fun q hq => ?_, g3, fun q hq => ((g4 q hq).w2 (by decide)).w2 (by decide), ?_⟩
                · rw [sI_wI, if_neg (show ¬ (129 = 130 ∧ q = p) by omega), sI_wI, sI_wI]
                  by_cases eq : q = p
                  · have : dtI A k p (i + 1) q = some i := by unfold dtI; rw [if_neg (by omega), if_pos eq, y2]
                    rw [if_pos (show 129 = 129 ∧ q = p from ⟨rfl, eq⟩), if_pos (show 130 = 130 ∧ q = p from ⟨rfl, eq⟩), this]
                    exact ⟨rfl, rfl⟩
                  · have : dtI A k p (i + 1) q = dtI A k p i q := by unfold dtI; rw [if_neg eq, if_neg eq]
                    rw [if_neg (show ¬ (129 = 129 ∧ q = p) from fun z => eq z.2), if_neg (show ¬ (130 = 130 ∧ q = p) from fun z => eq z.2), this, sI_wI, if_neg (by omega)]
                    exact g2 q hq
                · rw [y1]; exact (g5.w2 (by decide)).w2 (by decide))
              rw [y1] at e1
              exact ⟨ρ', e1, ((OnlyM.rf.w 129 _ _ (by decide)).w 130 _ _ (by decide)).tr e2, e3, e4, e5, e6⟩
          · rw [if_neg c4]
            exact sk nh (by
              cases e : dtB A p k i with
              | false => rfl
              | true => exact absurd (dtB_iff.mp e).1 c4)
      · rw [if_neg c1]
        exact sk (by
          cases e : isHeir A p k i with
          | false => rfl
          | true => exact absurd (isHeir_iff.mp e).2.1 c1) (by
          cases e : dtB A p k i with
          | false => rfl
          | true => exact absurd (dtB_iff.mp e).2.1 c1)
theorem M_gath_p {A : Ab} (hB : IB A) (hr : IRow A) {k : Nat} (hk : k ≤ 999) : ∀ m p fuel ρ, p + m = 30 → m < fuel → RM A ρ → sI ρ 81 72 = Int32.ofNat k → (∀ q, q < 30 → sI ρ 129 q = fdM A (if q < p then dth A k q else none) ∧ sI ρ 130 q = ldM A (if q < p then dth A k q else none)) → (∀ q, q < p → sI ρ 131 q = Int32.ofNat (offR A k (cT 4 A) q)) → (∀ q, q < p → AH ρ (offR A k (cT 4 A) q) (hrL A k q (cT 4 A))) → ∃ ρ', mX12_gathers_37 fuel (Int32.ofNat k) (Int32.ofNat (offR A k (cT 4 A) p)) (Int32.ofNat p) ρ = some ρ' ∧ OnlyM ρ ρ' ∧ RM A ρ' ∧ sI ρ' 81 0 = sI ρ 81 0 ∧ sI ρ' 81 73 = sI ρ 81 73 ∧ GA A k ρ' := by
  have hl : cT 4 A ≤ 200 := (hB.le (c := 4) (by decide)).1
  intro m
  induction m with
  | zero =>
    intro p fuel ρ hp hf hm g1 g2 g3 g4
    obtain ⟨n, rfl⟩ : ∃ n, fuel = n + 1 := ⟨fuel - 1, by omega⟩
    have e : p = 30 := by omega
    subst e
    refine ⟨wI ρ 131 30 (Int32.ofNat (offR A k (cT 4 A) 30)), ?_, OnlyM.rf.w 131 _ _ (by decide), hm.np 131 _ _ (by unfold pr; rfl), rfl, rfl, g1, fun q hq => ?_, fun q hq => ?_, fun q hq => (g4 q hq).w2 (by decide)⟩
    · refine Eq.trans (b := mX12_gathers_37B (mX12_gathers_37 n) (Int32.ofNat k) (Int32.ofNat (offR A k (cT 4 A) 30)) (Int32.ofNat 30) ρ) rfl ?_
      unfold mX12_gathers_37B
      rw [if_pos (by decide)]
      rfl
    · have := g2 q hq
      rw [if_pos hq] at this
      rw [sI_wI, if_neg (by omega), sI_wI, if_neg (by omega)]
      exact this
    · rw [sI_wI]
      by_cases eq : q = 30
      · rw [if_pos ⟨rfl, eq⟩, eq]
      · rw [if_neg (fun z => eq z.2)]; exact g3 q (by omega)
  | succ m ih =>
    intro p fuel ρ hp hf hm g1 g2 g3 g4
    obtain ⟨n, rfl⟩ : ∃ n, fuel = n + 1 := ⟨fuel - 1, by omega⟩
    have q1 : ¬ (30 : Int32) ≤ Int32.ofNat p := fun q => absurd ((oI_le (j := 30) (by decide) (by omega)).mp q) (by omega)
    have step : mX12_gathers_37 (n + 1) (Int32.ofNat k) (Int32.ofNat (offR A k (cT 4 A) p)) (Int32.ofNat p) ρ = mX12_gathers_53 (mX12_gathers_37 n) FU (Int32.ofNat k) (Int32.ofNat (offR A k (cT 4 A) p)) (Int32.ofNat p) 0 (wI ρ 131 p (Int32.ofNat (offR A k (cT 4 A) p))) := by
      refine Eq.trans (b := mX12_gathers_37B (mX12_gathers_37 n) (Int32.ofNat k) (Int32.ofNat (offR A k (cT 4 A) p)) (Int32.ofNat p) ρ) rfl ?_
      unfold mX12_gathers_37B
      rw [if_neg q1, if_pos (oI_inb (by omega) (by decide)), oI_cl (by omega)]
    obtain ⟨ρ1, e1, e2, e3, e4, e5, h1, h2, h3, h4, h5⟩ := M_gath_l hB hr hk (f37 := mX12_gathers_37 n) (p := p) (by omega) (cT 4 A) 0 FU (wI ρ 131 p (Int32.ofNat (offR A k (cT 4 A) p))) (by omega) (show cT 4 A < 5000 by omega) (hm.np 131 _ _ (by unfold pr; rfl)) (by
      refine ⟨g1, fun q hq => ?_, fun q hq => ?_, fun q hq => (g4 q hq).w2 (by decide), fun as x bs e => by cases as <;> cases e⟩
      · have := g2 q hq
        rw [sI_wI, if_neg (by omega), sI_wI, if_neg (by omega)]
        have e : dtI A k p 0 q = if q < p then dth A k q else none := by
          unfold dtI
          by_cases z : q < p
          · rw [if_pos z, if_pos z]
          · rw [if_neg z, if_neg z]
            by_cases y : q = p
            · rw [if_pos y]; rfl
            · rw [if_neg y]
        rw [e]; exact this
      · rw [sI_wI]
        by_cases eq : q = p
        · rw [if_pos ⟨rfl, eq⟩, eq]
        · rw [if_neg (fun z => eq z.2)]; exact g3 q (by omega))
    obtain ⟨ρ', f1, f2, f3, f4, f5, f6⟩ := ih (p + 1) n ρ1 (by omega) (by omega) e3 h1 (fun q hq => by
      have := h2 q hq
      have e : dtI A k p (cT 4 A) q = if q < p + 1 then dth A k q else none := by
        unfold dtI
        by_cases z : q < p
        · rw [if_pos z, if_pos (by omega)]
        · rw [if_neg z]
          by_cases y : q = p
          · rw [if_pos y, if_pos (by omega), y]; rfl
          · rw [if_neg y, if_neg (by omega)]
      rw [← e]; exact this) (fun q hq => h3 q (by omega)) (fun q hq => by
        by_cases y : q = p
        · rw [y]; exact h5
        · exact h4 q (by omega))
    exact ⟨ρ', step.trans (e1.trans f1), ((OnlyM.rf.w 131 _ _ (by decide)).tr e2).tr f2, f3, f4.trans e4, f5.trans e5, f6⟩
theorem M_gath_0 {A : Ab} (hB : IB A) (hr : IRow A) {k : Nat} (hk : k ≤ 999) : ∀ m p fuel ρ, p + m = 30 → m < fuel → RM A ρ → sI ρ 81 72 = Int32.ofNat k → (∀ q, q < p → sI ρ 129 q = -1 ∧ sI ρ 130 q = -1) → ∃ ρ', mX12_gathers_7 fuel (Int32.ofNat k) (Int32.ofNat p) ρ = some ρ' ∧ OnlyM ρ ρ' ∧ RM A ρ' ∧ sI ρ' 81 0 = sI ρ 81 0 ∧ sI ρ' 81 73 = sI ρ 81 73 ∧ GA A k ρ' := by
  intro m
  induction m with
  | zero =>
    intro p fuel ρ hp hf hm g1 g2
    obtain ⟨n, rfl⟩ : ∃ n, fuel = n + 1 := ⟨fuel - 1, by omega⟩
    have e : p = 30 := by omega
    subst e
    have step : mX12_gathers_7 (n + 1) (Int32.ofNat k) (Int32.ofNat 30) ρ = mX12_gathers_37 FU (Int32.ofNat k) 0 0 ρ := by
      refine Eq.trans (b := mX12_gathers_7B (mX12_gathers_7 n) (Int32.ofNat k) (Int32.ofNat 30) ρ) rfl ?_
      unfold mX12_gathers_7B
      rw [if_pos (by decide)]
    rw [step]
    exact M_gath_p hB hr hk 30 0 FU ρ rfl (show 30 < 5000 by omega) hm g1 (fun q hq => by rw [if_neg (by omega)]; exact g2 q hq) (fun q hq => by omega) (fun q hq => by omega)
  | succ m ih =>
    intro p fuel ρ hp hf hm g1 g2
    obtain ⟨n, rfl⟩ : ∃ n, fuel = n + 1 := ⟨fuel - 1, by omega⟩
    have q1 : ¬ (30 : Int32) ≤ Int32.ofNat p := fun q => absurd ((oI_le (j := 30) (by decide) (by omega)).mp q) (by omega)
    have step : mX12_gathers_7 (n + 1) (Int32.ofNat k) (Int32.ofNat p) ρ = mX12_gathers_7 n (Int32.ofNat k) (Int32.ofNat (p + 1)) (wI (wI ρ 129 p (-1)) 130 p (-1)) := by
      refine Eq.trans (b := mX12_gathers_7B (mX12_gathers_7 n) (Int32.ofNat k) (Int32.ofNat p) ρ) rfl ?_
      unfold mX12_gathers_7B
      rw [if_neg q1, if_pos (oI_inb (by omega) (by decide)), oI_cl (by omega), oI_s]
    rw [step]
    obtain ⟨ρ', f1, f2, f3, f4, f5, f6⟩ := ih (p + 1) n (wI (wI ρ 129 p (-1)) 130 p (-1)) (by omega) (by omega) ((hm.np 129 _ _ (by unfold pr; rfl)).np 130 _ _ (by unfold pr; rfl)) g1 (fun q hq => by
      rw [sI_wI, if_neg (show ¬ (129 = 130 ∧ q = p) by omega), sI_wI, sI_wI]
      by_cases eq : q = p
      · rw [if_pos (show 129 = 129 ∧ q = p from ⟨rfl, eq⟩), if_pos (show 130 = 130 ∧ q = p from ⟨rfl, eq⟩)]; exact ⟨rfl, rfl⟩
      · rw [if_neg (show ¬ (129 = 129 ∧ q = p) from fun z => eq z.2), if_neg (show ¬ (130 = 130 ∧ q = p) from fun z => eq z.2), sI_wI, if_neg (by omega)]
        exact g2 q (by omega))
    exact ⟨ρ', f1, ((OnlyM.rf.w 129 _ _ (by decide)).w 130 _ _ (by decide)).tr f2, f3, f4, f5, f6⟩
theorem M_gath {A : Ab} {ρ : Sto} (hB : IB A) (hr : IRow A) {k : Nat} (hk : k ≤ 999) (hm : RM A ρ) : ∃ ρ', mX12_gathers (Int32.ofNat k) ρ = some ρ' ∧ OnlyM ρ ρ' ∧ RM A ρ' ∧ sI ρ' 81 0 = sI ρ 81 0 ∧ sI ρ' 81 73 = sI ρ 81 73 ∧ GA A k ρ' := by
  obtain ⟨ρ', f1, f2, f3, f4, f5, f6⟩ := M_gath_0 hB hr hk 30 0 FU (wI ρ 81 72 (Int32.ofNat k)) rfl (show 30 < 5000 by omega) (hm.np 81 72 _ rfl) rfl (fun q hq => by omega)
  exact ⟨ρ', f1, (OnlyM.rf.w 81 72 _ (by decide)).tr f2, f3, f4, f5, f6⟩
