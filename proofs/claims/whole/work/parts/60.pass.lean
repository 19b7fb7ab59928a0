/-! what goes on: plain numbers -/
def sm (f : Nat → Nat) : Nat → Nat
  | 0 => 0
  | n + 1 => sm f n + f n
theorem sm_le {f g : Nat → Nat} : ∀ n, (∀ i, i < n → f i ≤ g i) → sm f n ≤ sm g n
  | 0, _ => Nat.le_refl _
  | n + 1, h => Nat.add_le_add (sm_le n (fun i hi => h i (by omega))) (h n (by omega))
theorem sm_eq {f g : Nat → Nat} : ∀ n, (∀ i, i < n → f i = g i) → sm f n = sm g n
  | 0, _ => rfl
  | n + 1, h => by
    show sm f n + f n = sm g n + g n
    rw [sm_eq n (fun i hi => h i (by omega)), h n (by omega)]
theorem sm_add {f g : Nat → Nat} : ∀ n, sm (fun i => f i + g i) n = sm f n + sm g n
  | 0 => rfl
  | n + 1 => by
    show sm (fun i => f i + g i) n + (f n + g n) = sm f n + f n + (sm g n + g n)
    rw [sm_add n]; omega
theorem sm_zero : ∀ n, sm (fun _ => 0) n = 0
  | 0 => rfl
  | n + 1 => by show sm (fun _ => 0) n + 0 = 0; rw [sm_zero n]
theorem sm_z {f : Nat → Nat} (n : Nat) (h : ∀ i, i < n → f i = 0) : sm f n = 0 := (sm_eq n h).trans (sm_zero n)
/-- two sums change their places -/
theorem sm_swap {f : Nat → Nat → Nat} {m : Nat} : ∀ n, sm (fun i => sm (fun j => f i j) m) n = sm (fun j => sm (fun i => f i j) n) m
  | 0 => (sm_zero m).symm
  | n + 1 => by
    show sm (fun i => sm (fun j => f i j) m) n + sm (fun j => f n j) m = sm (fun j => sm (fun i => f i j) n + f n j) m
    rw [sm_swap n, sm_add]
/-- a sum with one term alone -/
theorem sm_one {t v : Nat} : ∀ n, sm (fun i => if i = t then v else 0) n = if t < n then v else 0
  | 0 => rfl
  | n + 1 => by
    show sm (fun i => if i = t then v else 0) n + (if n = t then v else 0) = _
    rw [sm_one n]
    by_cases c : n = t
    · subst c; rw [if_neg (by omega), if_pos rfl, if_pos (by omega), Nat.zero_add]
    · rw [if_neg c, Nat.add_zero]
      by_cases d : t < n
      · rw [if_pos d, if_pos (by omega)]
      · rw [if_neg d, if_neg (by omega)]
theorem sm_ge {f : Nat → Nat} {t : Nat} : ∀ n, t < n → f t ≤ sm f n
  | 0, h => by omega
  | n + 1, h => by
    by_cases c : t = n
    · subst c; exact Nat.le_add_left _ _
    · exact Nat.le_trans (sm_ge n (by omega)) (Nat.le_add_right _ _)
def deadB (A : Ab) (s k p : Nat) : Bool := match dth A k p with
  | none => false
  | some j => decide (A 102 j ≤ A 101 s)
/-- what an heir's fact takes of those who are dead -/
def isH (A : Ab) (s k i : Nat) : Bool := A 97 i == 1 && (knB A i k && deadB A s k (A 99 i).toNatClampNeg)
def vN (A : Ab) (g : Nat → Nat) (i : Nat) : Nat := g (A 99 i).toNatClampNeg * (A 104 i).toNatClampNeg / (A 105 i).toNatClampNeg
def vI (A : Ab) (s k : Nat) (g : Nat → Nat) (i : Nat) : Nat := if isH A s k i then vN A g i else 0
def toI (A : Ab) (i : Nat) : Nat := (A 100 i).toNatClampNeg
def ofI (A : Ab) (i : Nat) : Nat := (A 99 i).toNatClampNeg
def comN (A : Ab) (s k : Nat) (g : Nat → Nat) (t n : Nat) : Nat := sm (fun i => if t = toI A i then vI A s k g i else 0) n
def pasN (A : Ab) (s k : Nat) (g : Nat → Nat) (n : Nat) : Nat := sm (fun i => vI A s k g i) n
def fromN (A : Ab) (s k : Nat) (g : Nat → Nat) (o n : Nat) : Nat := sm (fun i => if o = ofI A i then vI A s k g i else 0) n
def fromT (A : Ab) (s k : Nat) (g : Nat → Nat) (o t n : Nat) : Nat := sm (fun i => if o = ofI A i then (if t = toI A i then vI A s k g i else 0) else 0) n
def dedN (A : Ab) (s k : Nat) (g : Nat → Nat) (n : Nat) : Nat := sm (fun p => if deadB A s k p then g p else 0) n
def rnd (A : Ab) (s k : Nat) (g : Nat → Nat) (t : Nat) : Nat := (if deadB A s k t then 0 else g t) + comN A s k g t (cT 4 A)
theorem isH_iff {A : Ab} {s k i : Nat} : isH A s k i = true ↔ A 97 i = 1 ∧ knB A i k = true ∧ deadB A s k (ofI A i) = true := by
  unfold isH ofI
  rw [Bool.and_eq_true, Bool.and_eq_true, beq_iff_eq]
theorem heir_n {A : Ab} (hB : IB A) (hr : IRow A) {i : Nat} (hi : i < cT 4 A) (hk : A 97 i = 1) : ofI A i < 30 ∧ A 99 i = Int32.ofNat (ofI A i) ∧ toI A i < 30 ∧ A 100 i = Int32.ofNat (toI A i) ∧ 1 ≤ (A 104 i).toNatClampNeg ∧ (A 104 i).toNatClampNeg ≤ (A 105 i).toNatClampNeg ∧ (A 105 i).toNatClampNeg ≤ 12 ∧ A 104 i = Int32.ofNat (A 104 i).toNatClampNeg ∧ A 105 i = Int32.ofNat (A 105 i).toNatClampNeg := by
  have hlp : cT 0 A ≤ 30 := (hB.le (c := 0) (by decide)).1
  obtain ⟨⟨t, t1, t2⟩, -, p, q, p1, p2, p3, p4, p5⟩ := heir_kind hr hi hk
  obtain ⟨o, o1, o2⟩ := (hr 4 (by decide) i hi).1
  unfold ofI toI
  rw [o2, t2, p4, p5, oI_cl (by omega), oI_cl (by omega), oI_cl (by omega), oI_cl (by omega)]
  exact ⟨by omega, rfl, by omega, rfl, p1, p2, p3, rfl, rfl⟩
/-- all that comes is all that was passed on -/
theorem com_all {A : Ab} (hB : IB A) (hr : IRow A) {s k : Nat} {g : Nat → Nat} {n : Nat} (hn : n ≤ cT 4 A) : sm (fun t => comN A s k g t n) 30 = pasN A s k g n := by
  unfold comN pasN
  rw [← sm_swap (f := fun i t => if t = toI A i then vI A s k g i else 0)]
  refine sm_eq n (fun i hi => ?_)
  rw [sm_one]
  by_cases c : isH A s k i = true
  · rw [if_pos (heir_n hB hr (by omega) (isH_iff.mp c).1).2.2.1]
  · have : vI A s k g i = 0 := if_neg c
    rw [this, ite_self]
/-- all that was passed on came from those who are dead -/
theorem pas_from {A : Ab} (hB : IB A) (hr : IRow A) {s k : Nat} {g : Nat → Nat} {n : Nat} (hn : n ≤ cT 4 A) : sm (fun o => if deadB A s k o then fromN A s k g o n else 0) 30 = pasN A s k g n := by
  have e : sm (fun o => if deadB A s k o then fromN A s k g o n else 0) 30 = sm (fun o => fromN A s k g o n) 30 := sm_eq 30 (fun o _ => by
    by_cases c : deadB A s k o = true
    · rw [if_pos c]
    · rw [if_neg c]
      refine (sm_z n (fun i hi => ?_)).symm
      by_cases e : o = ofI A i
      · rw [if_pos e]
        exact if_neg (fun z => c (by rw [e]; exact (isH_iff.mp z).2.2))
      · rw [if_neg e])
  rw [e]
  unfold fromN pasN
  rw [← sm_swap (f := fun i o => if o = ofI A i then vI A s k g i else 0)]
  refine sm_eq n (fun i hi => ?_)
  rw [sm_one]
  by_cases c : isH A s k i = true
  · rw [if_pos (heir_n hB hr (by omega) (isH_iff.mp c).1).1]
  · have : vI A s k g i = 0 := if_neg c
    rw [this, ite_self]
theorem com_from {A : Ab} (hB : IB A) (hr : IRow A) {s k : Nat} {g : Nat → Nat} {t n : Nat} (hn : n ≤ cT 4 A) : sm (fun o => if deadB A s k o then fromT A s k g o t n else 0) 30 = comN A s k g t n := by
  have e : sm (fun o => if deadB A s k o then fromT A s k g o t n else 0) 30 = sm (fun o => fromT A s k g o t n) 30 := sm_eq 30 (fun o _ => by
    by_cases c : deadB A s k o = true
    · rw [if_pos c]
    · rw [if_neg c]
      refine (sm_z n (fun i hi => ?_)).symm
      by_cases e : o = ofI A i
      · rw [if_pos e]
        have : vI A s k g i = 0 := if_neg (fun z => c (by rw [e]; exact (isH_iff.mp z).2.2))
        rw [this, ite_self]
      · rw [if_neg e])
  rw [e]
  unfold fromT comN
  rw [← sm_swap (f := fun i o => if o = ofI A i then (if t = toI A i then vI A s k g i else 0) else 0)]
  refine sm_eq n (fun i hi => ?_)
  rw [sm_one]
  by_cases c : isH A s k i = true
  · rw [if_pos (heir_n hB hr (by omega) (isH_iff.mp c).1).1]
  · have : vI A s k g i = 0 := if_neg c
    rw [this, ite_self, ite_self]
/-- heirs take no more than there is -/
theorem from_le {A : Ab} (hB : IB A) (hr : IRow A) (hh : IHeir A) {s k : Nat} {g : Nat → Nat} {o : Nat} (ho : o < 30) : fromN A s k g o (cT 4 A) ≤ g o := by
  have key : ∀ n, n ≤ cT 4 A → fromN A s k g o n * 27720 ≤ g o * heirS A o k n := by
    intro n
    induction n with
    | zero =>
      intro _
      rw [show fromN A s k g o 0 = 0 from rfl, Nat.zero_mul]
      exact Nat.zero_le _
    | succ n ih =>
      intro hn
      have h1 := ih (by omega)
      show (fromN A s k g o n + (if o = ofI A n then vI A s k g n else 0)) * 27720 ≤ g o * (heirS A o k n + if isHeir A o k n then heirQ A n else 0)
      by_cases c : o = ofI A n ∧ isH A s k n = true
      · obtain ⟨c1, c2⟩ := c
        obtain ⟨d1, d2, d3⟩ := isH_iff.mp c2
        obtain ⟨e1, e2, e3, e4, e5, e6, e7, e8, e9⟩ := heir_n hB hr (by omega) d1
        have hI : isHeir A o k n = true := isHeir_iff.mpr ⟨d1, by rw [c1]; exact e2, d2⟩
        rw [if_pos c1, if_pos hI]
        have ev : vI A s k g n = g o * (A 104 n).toNatClampNeg / (A 105 n).toNatClampNeg := by
          have : vI A s k g n = vN A g n := if_pos c2
          rw [this, c1]; rfl
        rw [ev]
        unfold heirQ
        generalize (A 104 n).toNatClampNeg = p at *
        generalize (A 105 n).toNatClampNeg = q at *
        have hq : q ∣ 27720 := by
          have kk : ∀ q, q ≤ 12 → 1 ≤ q → q ∣ 27720 := by decide
          exact kk q e7 (by omega)
        obtain ⟨z, hz⟩ := hq
        have hdiv : 27720 / q = z := by rw [hz, Nat.mul_div_cancel_left _ (by omega)]
        rw [hdiv]
        have h2 : g o * p / q * q ≤ g o * p := Nat.div_mul_le_self _ _
        have h3 : g o * p / q * 27720 ≤ g o * (z * p) := by
          rw [hz, ← Nat.mul_assoc]
          calc g o * p / q * q * z ≤ g o * p * z := Nat.mul_le_mul_right z h2
            _ = g o * (z * p) := by rw [Nat.mul_assoc, Nat.mul_comm p z]
        rw [Nat.add_mul, Nat.mul_add]
        exact Nat.add_le_add h1 h3
      · have z : (if o = ofI A n then vI A s k g n else 0) = 0 := by
          by_cases c1 : o = ofI A n
          · rw [if_pos c1]; exact if_neg (fun y => c ⟨c1, y⟩)
          · rw [if_neg c1]
        rw [z, Nat.add_zero]
        exact Nat.le_trans h1 (Nat.mul_le_mul_left _ (Nat.le_add_right _ _))
  have h1 := key (cT 4 A) (Nat.le_refl _)
  have h2 := hh o k
  have h3 : g o * heirS A o k (cT 4 A) ≤ g o * 27720 := Nat.mul_le_mul_left _ h2
  exact Nat.le_of_mul_le_mul_right (Nat.le_trans h1 h3) (by decide)
theorem pas_le {A : Ab} (hB : IB A) (hr : IRow A) (hh : IHeir A) {s k : Nat} {g : Nat → Nat} : pasN A s k g (cT 4 A) ≤ dedN A s k g 30 := by
  rw [← pas_from hB hr (Nat.le_refl _)]
  refine sm_le 30 (fun o ho => ?_)
  by_cases c : deadB A s k o = true
  · rw [if_pos c, if_pos c]; exact from_le hB hr hh ho
  · rw [if_neg c, if_neg c]; exact Nat.le_refl _
/-- nothing grows -/
theorem rnd_le {A : Ab} (hB : IB A) (hr : IRow A) (hh : IHeir A) {s k : Nat} {g : Nat → Nat} : sm (rnd A s k g) 30 ≤ sm g 30 := by
  have e : sm (rnd A s k g) 30 = sm (fun t => if deadB A s k t then 0 else g t) 30 + sm (fun t => comN A s k g t (cT 4 A)) 30 := sm_add 30
  rw [e, com_all hB hr (Nat.le_refl _)]
  have h1 := pas_le hB hr hh (s := s) (k := k) (g := g)
  have h2 : sm (fun t => if deadB A s k t then 0 else g t) 30 + dedN A s k g 30 = sm g 30 := by
    unfold dedN
    rw [← sm_add]
    refine sm_eq 30 (fun i _ => ?_)
    by_cases c : deadB A s k i = true
    · rw [if_pos c, if_pos c, Nat.zero_add]
    · rw [if_neg c, if_neg c]; rfl
  omega
/-- where none who is dead has anything, nothing goes on -/
def still (A : Ab) (s k : Nat) (g : Nat → Nat) : Prop := ∀ p, p < 30 → deadB A s k p = true → g p = 0
theorem still_v {A : Ab} (hB : IB A) (hr : IRow A) {s k : Nat} {g : Nat → Nat} (h : still A s k g) {i : Nat} (hi : i < cT 4 A) : vI A s k g i = 0 := by
  by_cases c : isH A s k i = true
  · obtain ⟨d1, d2, d3⟩ := isH_iff.mp c
    obtain ⟨e1, -⟩ := heir_n hB hr hi d1
    have : vI A s k g i = vN A g i := if_pos c
    rw [this]
    unfold vN
    rw [show g (A 99 i).toNatClampNeg = 0 from h _ e1 d3, Nat.zero_mul, Nat.zero_div]
  · exact if_neg c
theorem still_rnd {A : Ab} (hB : IB A) (hr : IRow A) {s k : Nat} {g : Nat → Nat} (h : still A s k g) {t : Nat} (ht : t < 30) : rnd A s k g t = g t := by
  unfold rnd
  have e : comN A s k g t (cT 4 A) = 0 := sm_z _ (fun i hi => by rw [still_v hB hr h hi, ite_self])
  rw [e, Nat.add_zero]
  by_cases c : deadB A s k t = true
  · rw [if_pos c, h t ht c]
  · rw [if_neg c]
theorem still_d {A : Ab} {s k : Nat} {g : Nat → Nat} (h : still A s k g) : dedN A s k g 30 = 0 := sm_z _ (fun p hp => by
  by_cases c : deadB A s k p = true
  · rw [if_pos c]; exact h p hp c
  · rw [if_neg c])
/-- both depend on what is below 30 alone -/
theorem vI_congr {A : Ab} (hB : IB A) (hr : IRow A) {s k : Nat} {g g' : Nat → Nat} (h : ∀ p, p < 30 → g p = g' p) {i : Nat} (hi : i < cT 4 A) : vI A s k g i = vI A s k g' i := by
  by_cases c : isH A s k i = true
  · obtain ⟨d1, -⟩ := isH_iff.mp c
    have e := (heir_n hB hr hi d1).1
    have e1 : vI A s k g i = vN A g i := if_pos c
    have e2 : vI A s k g' i = vN A g' i := if_pos c
    rw [e1, e2]
    unfold vN
    rw [show g (A 99 i).toNatClampNeg = g' (A 99 i).toNatClampNeg from h _ e]
  · have e1 : vI A s k g i = 0 := if_neg c
    have e2 : vI A s k g' i = 0 := if_neg c
    rw [e1, e2]
theorem rnd_congr {A : Ab} (hB : IB A) (hr : IRow A) {s k : Nat} {g g' : Nat → Nat} (h : ∀ p, p < 30 → g p = g' p) {t : Nat} (ht : t < 30) : rnd A s k g t = rnd A s k g' t := by
  unfold rnd comN
  rw [h t ht, sm_eq (cT 4 A) (fun i hi => by rw [vI_congr hB hr h hi])]
/-- rounds: what each has, what is held -/
def itG (A : Ab) (s k : Nat) (g : Nat → Nat) : Nat → Nat → Nat
  | 0 => g
  | n + 1 => rnd A s k (itG A s k g n)
def itH (A : Ab) (s k : Nat) (g : Nat → Nat) (H : Nat) : Nat → Nat
  | 0 => H
  | n + 1 => itH A s k g H n + (dedN A s k (itG A s k g n) 30 - pasN A s k (itG A s k g n) (cT 4 A))
theorem itG_le {A : Ab} (hB : IB A) (hr : IRow A) (hh : IHeir A) {s k : Nat} {g : Nat → Nat} : ∀ n, sm (itG A s k g n) 30 ≤ sm g 30
  | 0 => Nat.le_refl _
  | n + 1 => Nat.le_trans (rnd_le hB hr hh) (itG_le hB hr hh n)
theorem it_still {A : Ab} (hB : IB A) (hr : IRow A) {s k : Nat} {g : Nat → Nat} {H : Nat} {n : Nat} (h : still A s k (itG A s k g n)) : ∀ m, (∀ p, p < 30 → itG A s k g (n + m) p = itG A s k g n p) ∧ itH A s k g H (n + m) = itH A s k g H n
  | 0 => ⟨fun _ _ => rfl, rfl⟩
  | m + 1 => by
    obtain ⟨h1, h2⟩ := it_still hB hr (H := H) h m
    have hs : still A s k (itG A s k g (n + m)) := fun p hp hd => by rw [h1 p hp]; exact h p hp hd
    refine ⟨fun p hp => ?_, ?_⟩
    · show rnd A s k (itG A s k g (n + m)) p = _
      rw [still_rnd hB hr hs hp]; exact h1 p hp
    · show itH A s k g H (n + m) + (dedN A s k (itG A s k g (n + m)) 30 - pasN A s k (itG A s k g (n + m)) (cT 4 A)) = _
      rw [still_d hs, Nat.zero_sub, Nat.add_zero]; exact h2
