/-! the class's cells against the books. Categories: 0 persons, 1 works, 2 societies, 3 rates, 4 facts, 5 claims, 6 laws -/
/-- the row of references, the kind of its cells, how many rows, where the number of those told lies -/
def cR : Nat → Nat := fun c => 34 + c
def cK : Nat → Nat := fun c => match c with
  | 0 => 6
  | 1 => 10
  | 2 => 9
  | 3 => 7
  | 4 => 4
  | 5 => 4
  | _ => 5
def cM : Nat → Nat := fun c => match c with
  | 0 => 30
  | 1 => 30
  | 2 => 5
  | 3 => 60
  | 4 => 200
  | 5 => 200
  | _ => 12
def cN : Nat → Nat := fun c => match c with
  | 0 => 3
  | 1 => 4
  | 2 => 5
  | 3 => 6
  | 4 => 7
  | 5 => 8
  | _ => 50
/-- which fields are told of here (a law's are told of elsewhere, but for when it was told and taken back, its land and its day) -/
def cF : Nat → List Nat := fun c => match c with
  | 0 => [0, 1]
  | 1 => [0, 1, 2, 3, 6]
  | 2 => [0, 1]
  | 3 => [0, 1, 2]
  | 4 => [0, 1, 2, 3, 4, 5, 6, 7, 8, 9, 10, 11, 12]
  | 5 => [0, 1, 2, 3, 4, 5, 6, 7, 8, 9, 10, 11, 12]
  | _ => []
/-- never, in the class's words -/
def nev (v : Int32) : Int32 := if v = -1 then 1000000 else v
/-- a field of a fact, in the class's words -/
def fcv (A : Ab) (i k : Nat) : Int32 := match k with
  | 0 => A 106 i
  | 1 => nev (A 107 i)
  | 2 => A 97 i
  | 3 => A 98 i
  | 4 => A 99 i
  | 5 => if A 97 i = 4 then A 99 i else A 100 i
  | 6 => if A 97 i = 1 then -1 else A 101 i
  | 7 => if A 97 i = 0 then A 102 i else -1
  | 8 => if A 97 i = 1 then A 104 i else 0
  | 9 => if A 97 i = 1 then A 105 i else 1
  | 10 => if A 97 i = 2 then A 103 i else -1
  | 11 => if A 97 i = 2 then A 104 i else 0
  | _ => if A 97 i = 2 then A 105 i else 0
def ccv (A : Ab) (i k : Nat) : Int32 := match k with
  | 0 => A 110 i
  | 1 => 1000000
  | 2 => 6
  | 3 => A 109 i
  | 4 => A 108 i
  | 5 => -1
  | 6 => -1
  | 7 => -1
  | 8 => 0
  | 9 => 1
  | 10 => -1
  | 11 => 0
  | _ => 0
def cV (c : Nat) (A : Ab) (i k : Nat) : Int32 := match c with
  | 0 => A (82 + k) i
  | 1 => if k = 6 then A 84 i else A (87 + k) i
  | 2 => A (92 + k) i
  | 3 => A (94 + k) i
  | 4 => fcv A i k
  | 5 => ccv A i k
  | _ => 0
/-- what a blank row holds -/
def cB (c k : Nat) : Int32 := match c with
  | 0 => -1
  | 1 => 0
  | 2 => if k = 0 then -1 else 0
  | 3 => if k = 2 then 1000 else -1
  | 4 => if k ≤ 1 then 1000000 else if k = 8 ∨ k = 11 ∨ k = 12 then 0 else if k = 9 then 1 else -1
  | 5 => if k ≤ 1 then 1000000 else if k = 8 ∨ k = 11 ∨ k = 12 then 0 else if k = 9 then 1 else -1
  | _ => 0
/-- how many were told -/
def cT (c : Nat) (A : Ab) : Nat := (A 81 (cN c)).toNatClampNeg
/-- a cell that the class makes at need: none of its own rows of work -/
def reg (a : Nat) : Prop := (41 ≤ a ∧ a ≤ 52) ∨ (69 ≤ a ∧ a ≤ 73) ∨ (75 ≤ a ∧ a ≤ 79) ∨ 147 ≤ a
def ROne (c : Nat) (A : Ab) (σ : Sto) (i : Nat) : Prop :=
  reg (sR σ (cR c) i) ∧ sR σ (cR c) i < sZ σ ∧ sK σ (sR σ (cR c) i) = cK c ∧ ∀ k ∈ cF c, sI σ (sR σ (cR c) i) k = if i < cT c A then cV c A i k else cB c k
def RObj (A : Ab) (σ : Sto) : Prop := ∀ c, c < 7 → ∀ i, i ≤ cM c → ROne c A σ i
/-- the plain numbers -/
def cntOf : Nat → Nat × Nat := fun j => match j with
  | 0 => (33, 0)
  | 1 => (33, 1)
  | 2 => (33, 3)
  | 3 => (33, 5)
  | 4 => (33, 7)
  | 5 => (33, 9)
  | 6 => (33, 11)
  | 7 => (33, 13)
  | 8 => (33, 15)
  | 9 => (32, 5)
  | _ => (32, 6)
def cntAt : Nat → Nat := fun j => match j with
  | 0 => 1
  | 1 => 2
  | 2 => 3
  | 3 => 4
  | 4 => 5
  | 5 => 6
  | 6 => 7
  | 7 => 8
  | 8 => 50
  | 9 => 39
  | _ => 41
def RCnt (A : Ab) (σ : Sto) : Prop := ∀ j, j < 11 → sI σ (cntOf j).1 (cntOf j).2 = A 81 (cntAt j)
/-- v is one of the numbers 0 .. n-1 -/
def inR (v : Int32) (n : Nat) : Prop := ∃ j, j < n ∧ v = Int32.ofNat j
def RTape (A : Ab) (σ : Sto) : Prop := ∀ j, j < 500 → sI σ 74 j = A 111 j ∧ inR (A 111 j) 256
/-- what the numbers keep to -/
def Bnd (A : Ab) (k n : Nat) : Prop := ∃ j, j ≤ n ∧ A 81 k = Int32.ofNat j
def IB (A : Ab) : Prop := Bnd A 1 999 ∧ Bnd A 2 6 ∧ Bnd A 3 30 ∧ Bnd A 4 30 ∧ Bnd A 5 5 ∧ Bnd A 6 60 ∧ Bnd A 7 200 ∧ Bnd A 8 200 ∧ Bnd A 50 12 ∧ Bnd A 39 500 ∧ (A 81 73 = 0 ∨ A 81 73 = 1)
theorem Bnd.cl {A : Ab} {k n : Nat} (h : Bnd A k n) (hn : n < 2147483648) : (A 81 k).toNatClampNeg ≤ n ∧ A 81 k = Int32.ofNat (A 81 k).toNatClampNeg := by
  obtain ⟨j, h1, h2⟩ := h
  rw [h2, oI_cl (by omega)]
  exact ⟨h1, rfl⟩
/-- what kinds stand fast: the class's own rows are none of those that it makes at need -/
theorem reg_ne {a b : Nat} (h : reg a) (hb : ¬ reg b) : a ≠ b := fun e => hb (e ▸ h)
/-- a row of a category stays when neither its cell nor its reference was written -/
theorem ROne.keep {c : Nat} {A A' : Ab} {σ σ' : Sto} {i : Nat} (h : ROne c A σ i) (hr : sR σ' (cR c) i = sR σ (cR c) i) (hz : sZ σ ≤ sZ σ') (hk : sK σ' (sR σ (cR c) i) = sK σ (sR σ (cR c) i)) (hI : ∀ k ∈ cF c, sI σ' (sR σ (cR c) i) k = sI σ (sR σ (cR c) i) k)
    (hA : ∀ k ∈ cF c, (if i < cT c A' then cV c A' i k else cB c k) = if i < cT c A then cV c A i k else cB c k) : ROne c A' σ' i := by
  obtain ⟨h1, h2, h3, h4⟩ := h
  refine ⟨by rw [hr]; exact h1, by rw [hr]; omega, by rw [hr, hk]; exact h3, fun k hk2 => ?_⟩
  rw [hr, hI k hk2, h4 k hk2, hA k hk2]
/-- one more row of a category: a fresh cell -/
theorem RObj.onM {A : Ab} {σ σ' : Sto} (h : RObj A σ) (hm : OnlyM σ σ') : RObj A σ' := fun c hc i hi => by
  have h0 := h c hc i hi
  refine h0.keep (hm.2.2.2.1 _ _) (Nat.le_of_eq hm.1.symm) (hm.2.1 _) (fun k _ => ?_) (fun _ _ => rfl)
  refine (hm.2.2.2.2.2 _ ?_).1 k
  have := h0.1
  unfold reg at this
  omega
theorem RCnt.onM {A : Ab} {σ σ' : Sto} (h : RCnt A σ) (hm : OnlyM σ σ') : RCnt A σ' := fun j hj => by
  rw [← h j hj]
  refine (hm.2.2.2.2.2 _ (Or.inl ?_)).1 _
  rcases (show j = 0 ∨ j = 1 ∨ j = 2 ∨ j = 3 ∨ j = 4 ∨ j = 5 ∨ j = 6 ∨ j = 7 ∨ j = 8 ∨ j = 9 ∨ j = 10 by omega) with rfl | rfl | rfl | rfl | rfl | rfl | rfl | rfl | rfl | rfl | rfl <;> decide
theorem RTape.onM {A : Ab} {σ σ' : Sto} (h : RTape A σ) (hm : OnlyM σ σ') : RTape A σ' := fun j hj => by
  rw [(hm.2.2.2.2.2 74 (Or.inl (by decide))).1 j]
  exact h j hj
/-! what else stands: kinds of what is made once, the gains, the books' own order -/
def RStat (σ : Sto) : Prop := ∀ q ∈ STAT, sK σ q.1 = q.2.1 ∧ sN σ q.1 = q.2.2
theorem stat_lt : ∀ q ∈ STAT, q.1 < 147 := by decide +kernel
theorem RStat.onM {σ σ' : Sto} (h : RStat σ) (hm : OnlyM σ σ') : RStat σ' := fun q hq => ⟨(hm.2.1 _).trans (h q hq).1, (hm.2.2.1 _).trans (h q hq).2⟩
theorem RStat.onC {σ σ' : Sto} (h : RStat σ) (hz : 147 ≤ sZ σ) (hc : OnlyC σ σ') : RStat σ' := fun q hq => by
  have g := hc.2.1 q.1 (Nat.lt_of_lt_of_le (stat_lt q hq) hz)
  exact ⟨g.1.trans (h q hq).1, g.2.trans (h q hq).2⟩
/-- the gains are the same; the fewest payments' first group is none -/
def RGain (σ : Sto) : Prop := (∀ p, p < 30 → sL σ 80 p = sL σ 145 p) ∧ sI σ 66 0 = 0
theorem RGain.onM {σ σ' : Sto} (h : RGain σ) (hm : OnlyM σ σ') : RGain σ' := ⟨fun p hp => by
  rw [hm.2.2.2.2.1 p, (hm.2.2.2.2.2 80 (Or.inl (by decide))).2 p]
  exact h.1 p hp, by rw [(hm.2.2.2.2.2 66 (Or.inl (by decide))).1 0]; exact h.2⟩
theorem RGain.onC {σ σ' : Sto} (h : RGain σ) (hc : OnlyC σ σ') : RGain σ' := ⟨fun p hp => by
  rw [hc.2.2.1.1 p, (hc.2.2.2 145 (by decide) (by decide)).2 p]
  exact h.1 p hp, hc.2.2.1.2.trans h.2⟩
