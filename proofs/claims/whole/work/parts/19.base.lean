/-! THE LAW'S FUNCTION IS TRUE: numbers, stores, the abstract books -/
theorem oI_toInt {j : Nat} (hj : j < 2147483648) : (Int32.ofNat j).toInt = (j : Int) := Int32.toInt_ofNat_of_lt hj
theorem oI_lt {j n : Nat} (hj : j < 2147483648) (hn : n < 2147483648) : (Int32.ofNat j < Int32.ofNat n) ↔ j < n := by
  rw [Int32.lt_iff_toInt_lt, oI_toInt hj, oI_toInt hn]; omega
theorem oI_le {j n : Nat} (hj : j < 2147483648) (hn : n < 2147483648) : (Int32.ofNat j ≤ Int32.ofNat n) ↔ j ≤ n := by
  rw [Int32.le_iff_toInt_le, oI_toInt hj, oI_toInt hn]; omega
theorem oI_eq {j n : Nat} (hj : j < 2147483648) (hn : n < 2147483648) : (Int32.ofNat j = Int32.ofNat n) ↔ j = n := by
  rw [← Int32.toInt_inj, oI_toInt hj, oI_toInt hn]; omega
theorem oI_s (j : Nat) : Int32.ofNat j + 1 = Int32.ofNat (j + 1) := (Int32.ofNat_add j 1).symm
theorem oI_p (j : Nat) : Int32.ofNat (j + 1) - 1 = Int32.ofNat j := by rw [← oI_s, Int32.add_sub_cancel]
theorem oI_cl {j : Nat} (hj : j < 2147483648) : (Int32.ofNat j).toNatClampNeg = j := Int32.toNatClampNeg_ofNat_of_lt hj
theorem oI_nn {j : Nat} (hj : j < 2147483648) : ¬ Int32.ofNat j < 0 := by
  rw [Int32.lt_iff_toInt_lt, oI_toInt hj]
  show ¬ ((j : Int) < 0)
  omega
theorem oI_inb {j n : Nat} (hj : j < n) (hn : n ≤ 2147483648) : inb (Int32.ofNat j) n := ⟨oI_nn (by omega), by rw [oI_cl (by omega)]; exact hj⟩
theorem oI_of {x : Int32} {n : Nat} (hn : n < 2147483648) (h0 : ¬ x < 0) (h1 : x < Int32.ofNat n) : ∃ j, j < n ∧ x = Int32.ofNat j := by
  rw [Int32.lt_iff_toInt_lt, oI_toInt hn] at h1
  have h2 : (0 : Int) ≤ x.toInt := by
    have := Int32.not_lt.mp h0
    simpa using Int32.le_iff_toInt_le.mp this
  refine ⟨x.toInt.toNat, by omega, ?_⟩
  rw [← Int32.toInt_inj, oI_toInt (by omega)]
  omega
theorem nlt {x y : Int32} : ¬ x < y ↔ y ≤ x := Int32.not_lt
theorem nle {x y : Int32} : ¬ x ≤ y ↔ y < x := Int32.not_le
theorem oI_pred {n : Nat} (hn : n < 2147483648) (x : Int32) : (Int32.ofNat n - 1 < x) ↔ Int32.ofNat n ≤ x := by
  cases n with
  | zero =>
    rw [Int32.lt_iff_toInt_lt, Int32.le_iff_toInt_le]
    show ((-1 : Int) < x.toInt) ↔ ((0 : Int) ≤ x.toInt)
    omega
  | succ m =>
    rw [oI_p, Int32.lt_iff_toInt_lt, Int32.le_iff_toInt_le, oI_toInt hn, oI_toInt (by omega)]
    omega
/-! stores -/
theorem sR_wI (σ : Sto) (a k : Nat) (v : Int32) (b j : Nat) : sR (wI σ a k v) b j = sR σ b j := rfl
theorem sL_wI (σ : Sto) (a k : Nat) (v : Int32) (b j : Nat) : sL (wI σ a k v) b j = sL σ b j := rfl
theorem sK_wI (σ : Sto) (a k : Nat) (v : Int32) (b : Nat) : sK (wI σ a k v) b = sK σ b := rfl
theorem sN_wI (σ : Sto) (a k : Nat) (v : Int32) (b : Nat) : sN (wI σ a k v) b = sN σ b := rfl
theorem sZ_wI (σ : Sto) (a k : Nat) (v : Int32) : sZ (wI σ a k v) = sZ σ := rfl
theorem sI_wL (σ : Sto) (a k : Nat) (v : Int64) (b j : Nat) : sI (wL σ a k v) b j = sI σ b j := rfl
theorem sR_wL (σ : Sto) (a k : Nat) (v : Int64) (b j : Nat) : sR (wL σ a k v) b j = sR σ b j := rfl
theorem sK_wL (σ : Sto) (a k : Nat) (v : Int64) (b : Nat) : sK (wL σ a k v) b = sK σ b := rfl
theorem sN_wL (σ : Sto) (a k : Nat) (v : Int64) (b : Nat) : sN (wL σ a k v) b = sN σ b := rfl
theorem sZ_wL (σ : Sto) (a k : Nat) (v : Int64) : sZ (wL σ a k v) = sZ σ := rfl
theorem sI_wR (σ : Sto) (a k v : Nat) (b j : Nat) : sI (wR σ a k v) b j = sI σ b j := rfl
theorem sL_wR (σ : Sto) (a k v : Nat) (b j : Nat) : sL (wR σ a k v) b j = sL σ b j := rfl
theorem sK_wR (σ : Sto) (a k v : Nat) (b : Nat) : sK (wR σ a k v) b = sK σ b := rfl
theorem sN_wR (σ : Sto) (a k v : Nat) (b : Nat) : sN (wR σ a k v) b = sN σ b := rfl
theorem sZ_wR (σ : Sto) (a k v : Nat) : sZ (wR σ a k v) = sZ σ := rfl
/-- only the reference's cells were written -/
def OnlyM (σ σ' : Sto) : Prop := sZ σ' = sZ σ ∧ (∀ b, sK σ' b = sK σ b) ∧ (∀ b, sN σ' b = sN σ b) ∧ (∀ b k, sR σ' b k = sR σ b k) ∧ (∀ k, sL σ' 145 k = sL σ 145 k) ∧ ∀ b, (b < 81 ∨ 145 < b) → (∀ k, sI σ' b k = sI σ b k) ∧ (∀ k, sL σ' b k = sL σ b k)
theorem OnlyM.rf {σ : Sto} : OnlyM σ σ := ⟨rfl, fun _ => rfl, fun _ => rfl, fun _ _ => rfl, fun _ => rfl, fun _ _ => ⟨fun _ => rfl, fun _ => rfl⟩⟩
theorem OnlyM.tr {a b c : Sto} (h : OnlyM a b) (g : OnlyM b c) : OnlyM a c :=
  ⟨g.1.trans h.1, fun x => (g.2.1 x).trans (h.2.1 x), fun x => (g.2.2.1 x).trans (h.2.2.1 x), fun x k => (g.2.2.2.1 x k).trans (h.2.2.2.1 x k), fun k => (g.2.2.2.2.1 k).trans (h.2.2.2.2.1 k), fun x hx => ⟨fun k => ((g.2.2.2.2.2 x hx).1 k).trans ((h.2.2.2.2.2 x hx).1 k), fun k => ((g.2.2.2.2.2 x hx).2 k).trans ((h.2.2.2.2.2 x hx).2 k)⟩⟩
theorem OnlyM.w {σ σ0 : Sto} (h : OnlyM σ σ0) (a k : Nat) (v : Int32) (ha : 81 ≤ a ∧ a ≤ 145) : OnlyM σ (wI σ0 a k v) :=
  h.tr ⟨rfl, fun _ => rfl, fun _ => rfl, fun _ _ => rfl, fun _ => rfl, fun b hb => ⟨fun j => by rw [sI_wI, if_neg (by omega)], fun _ => rfl⟩⟩
theorem OnlyM.wl {σ σ0 : Sto} (h : OnlyM σ σ0) (a k : Nat) (v : Int64) (ha : 81 ≤ a ∧ a < 145) : OnlyM σ (wL σ0 a k v) :=
  h.tr ⟨rfl, fun _ => rfl, fun _ => rfl, fun _ _ => rfl, fun j => by rw [sL_wL, if_neg (by omega)], fun b hb => ⟨fun _ => rfl, fun j => by rw [sL_wL, if_neg (by omega)]⟩⟩
/-- the reference's cells were not written, and nothing was lost -/
def OnlyC (σ σ' : Sto) : Prop := sZ σ ≤ sZ σ' ∧ (∀ b, b < sZ σ → sK σ' b = sK σ b ∧ sN σ' b = sN σ b) ∧ ((∀ k, sL σ' 80 k = sL σ 80 k) ∧ sI σ' 66 0 = sI σ 66 0) ∧ ∀ b, 81 ≤ b → b ≤ 145 → (∀ k, sI σ' b k = sI σ b k) ∧ (∀ k, sL σ' b k = sL σ b k)
theorem OnlyC.rf {σ : Sto} : OnlyC σ σ := ⟨Nat.le_refl _, fun _ _ => ⟨rfl, rfl⟩, ⟨fun _ => rfl, rfl⟩, fun _ _ _ => ⟨fun _ => rfl, fun _ => rfl⟩⟩
theorem OnlyC.tr {a b c : Sto} (h : OnlyC a b) (g : OnlyC b c) : OnlyC a c :=
  ⟨Nat.le_trans h.1 g.1, fun x hx => ⟨(g.2.1 x (Nat.lt_of_lt_of_le hx h.1)).1.trans (h.2.1 x hx).1, (g.2.1 x (Nat.lt_of_lt_of_le hx h.1)).2.trans (h.2.1 x hx).2⟩, ⟨fun k => (g.2.2.1.1 k).trans (h.2.2.1.1 k), g.2.2.1.2.trans h.2.2.1.2⟩, fun x h1 h2 => ⟨fun k => ((g.2.2.2 x h1 h2).1 k).trans ((h.2.2.2 x h1 h2).1 k), fun k => ((g.2.2.2 x h1 h2).2 k).trans ((h.2.2.2 x h1 h2).2 k)⟩⟩
theorem OnlyC.w {σ σ0 : Sto} (h : OnlyC σ σ0) (a k : Nat) (v : Int32) (ha : (a < 81 ∧ a ≠ 66) ∨ 145 < a) : OnlyC σ (wI σ0 a k v) :=
  h.tr ⟨Nat.le_refl _, fun _ _ => ⟨rfl, rfl⟩, ⟨fun _ => rfl, by rw [sI_wI, if_neg (by omega)]⟩, fun b h1 h2 => ⟨fun j => by rw [sI_wI, if_neg (by omega)], fun _ => rfl⟩⟩
theorem OnlyC.wl {σ σ0 : Sto} (h : OnlyC σ σ0) (a k : Nat) (v : Int64) (ha : a < 80 ∨ 145 < a) : OnlyC σ (wL σ0 a k v) :=
  h.tr ⟨Nat.le_refl _, fun _ _ => ⟨rfl, rfl⟩, ⟨fun j => by rw [sL_wL, if_neg (by omega)], rfl⟩, fun b h1 h2 => ⟨fun _ => rfl, fun j => by rw [sL_wL, if_neg (by omega)]⟩⟩
theorem OnlyC.wr {σ σ0 : Sto} (h : OnlyC σ σ0) (a k v : Nat) : OnlyC σ (wR σ0 a k v) := h.tr ⟨Nat.le_refl _, fun _ _ => ⟨rfl, rfl⟩, ⟨fun _ => rfl, rfl⟩, fun _ _ _ => ⟨fun _ => rfl, fun _ => rfl⟩⟩
theorem OnlyC.nw {σ σ0 : Sto} (h : OnlyC σ σ0) (kd n : Nat) (hz : 147 ≤ sZ σ0) : OnlyC σ (nwK σ0 kd n) :=
  h.tr ⟨by rw [nwK_Z]; omega, fun b hb => ⟨by rw [nwK_K, if_neg (by omega)], by rw [nwK_N, if_neg (by omega)]⟩, ⟨fun j => by rw [nwK_L, if_neg (by omega)], by rw [nwK_I, if_neg (by omega)]⟩, fun b h1 h2 => ⟨fun j => by rw [nwK_I, if_neg (by omega)], fun j => by rw [nwK_L, if_neg (by omega)]⟩⟩
/-! the abstract books: what lies in the reference's cells and stays -/
abbrev Ab : Type := Nat → Nat → Int32
def pr (a k : Nat) : Bool := (a == 81 && (k == 1 || k == 2 || k == 3 || k == 4 || k == 5 || k == 6 || k == 7 || k == 8 || k == 39 || k == 41 || k == 50 || k == 73)) || (decide (82 ≤ a) && decide (a ≤ 126))
theorem pr_rng {a k : Nat} (h : pr a k = true) : 81 ≤ a ∧ a ≤ 126 := by
  unfold pr at h
  simp only [Bool.or_eq_true, Bool.and_eq_true, beq_iff_eq, decide_eq_true_eq] at h
  omega
def RM (A : Ab) (σ : Sto) : Prop := ∀ a k, pr a k = true → sI σ a k = A a k
theorem RM.w {A : Ab} {σ : Sto} (h : RM A σ) (a k : Nat) (v : Int32) : RM (up2 A a k v) (wI σ a k v) := fun b j hp => by
  rw [sI_wI]
  show _ = if b = a ∧ j = k then v else A b j
  rw [h b j hp]
theorem RM.np {A : Ab} {σ : Sto} (h : RM A σ) (a k : Nat) (v : Int32) (hn : pr a k = false) : RM A (wI σ a k v) := fun b j hp => by
  rw [sI_wI, if_neg, h b j hp]
  rintro ⟨rfl, rfl⟩
  rw [hn] at hp; cases hp
theorem RM.wl {A : Ab} {σ : Sto} (h : RM A σ) (a k : Nat) (v : Int64) : RM A (wL σ a k v) := h
theorem RM.onC {A : Ab} {σ σ' : Sto} (h : RM A σ) (hc : OnlyC σ σ') : RM A σ' := fun b j hp => by
  have hr := pr_rng hp
  rw [(hc.2.2.2 b hr.1 (by omega)).1 j, h b j hp]
theorem up2_eq {α : Type} (f : Nat → Nat → α) (a k : Nat) (v : α) (b j : Nat) : up2 f a k v b j = if b = a ∧ j = k then v else f b j := rfl
/-! the class's cells against the books -/
def PersonAt (σ : Sto) (a : Nat) (x y : Int32) : Prop := a < sZ σ ∧ sK σ a = 6 ∧ sI σ a 0 = x ∧ sI σ a 1 = y
def SocAt (σ : Sto) (a : Nat) (x y : Int32) : Prop := a < sZ σ ∧ sK σ a = 9 ∧ sI σ a 0 = x ∧ sI σ a 1 = y
def RateAt (σ : Sto) (a : Nat) (x y z : Int32) : Prop := a < sZ σ ∧ sK σ a = 7 ∧ sI σ a 0 = x ∧ sI σ a 1 = y ∧ sI σ a 2 = z
