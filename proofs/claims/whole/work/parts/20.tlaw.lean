/-! works and laws in the store; heirs; what was sold -/
def WkAt (σ : Sto) (a : Nat) : Prop := reg a ∧ reg (a + 1) ∧ reg (a + 2) ∧ a + 2 < sZ σ ∧ sK σ a = 10 ∧ sR σ a 4 = a + 1 ∧ sR σ a 5 = a + 2 ∧ sK σ (a + 1) = 100 ∧ sN σ (a + 1) = 3 ∧ sK σ (a + 2) = 100 ∧ sN σ (a + 2) = 3
def wsum (A : Ab) (i : Nat) : Nat → Nat
  | 0 => 0
  | m + 1 => wsum A i m + (A 86 (3 * i + m)).toNatClampNeg
def WkC (A : Ab) (σ : Sto) (i a : Nat) : Prop := (∀ j, j < (A 84 i).toNatClampNeg → sI σ (a + 1) j = A 85 (3 * i + j) ∧ sI σ (a + 2) j = A 86 (3 * i + j)) ∧ sI σ a 7 = Int32.ofNat (wsum A i (A 84 i).toNatClampNeg)
def RWork (A : Ab) (σ : Sto) : Prop := (∀ i, i ≤ 30 → WkAt σ (sR σ 35 i)) ∧ (∀ i, i < cT 1 A → WkC A σ i (sR σ 35 i) ∧ 147 ≤ sR σ 35 i) ∧ ∀ i j, i < j → j < cT 1 A → sR σ 35 i + 2 < sR σ 35 j
def LwAt (σ : Sto) (a : Nat) : Prop := (reg a ∧ reg (a + 1) ∧ reg (a + 2) ∧ reg (a + 3) ∧ reg (a + 4)) ∧ a + 4 < sZ σ ∧ sK σ a = 5 ∧ (sR σ a 4 = a + 1 ∧ sR σ a 5 = a + 2 ∧ sR σ a 13 = a + 3 ∧ sR σ a 15 = a + 4) ∧ (sK σ (a + 1) = 100 ∧ sN σ (a + 1) = 16) ∧ (sK σ (a + 2) = 100 ∧ sN σ (a + 2) = 16) ∧ (sK σ (a + 3) = 100 ∧ sN σ (a + 3) = 500) ∧ sK σ (a + 4) = 100 ∧ sN σ (a + 4) = 64
/-- signs of a law's last due: the class's, the reference's -/
def opT : List (Int32 × Int32) := [(-11, 5), (-12, 4), (-14, 6), (-15, 7), (-16, 8), (-17, 9), (-18, 10), (-19, 11)]
/-- the class's row f from j on, n of them, and the reference's row g from q on say the same; dep wait so far -/
def CodeR (f g : Nat → Int32) (hi : Nat) : Nat → Nat → Nat → Nat → Prop
  | 0, _, q, dep => q < hi ∧ g q = 0 ∧ 1 ≤ dep
  | n + 1, j, q, dep => q + 1 < hi ∧ dep ≤ 64 ∧
    ((∃ v, v < 100000000 ∧ f j = Int32.ofNat v ∧ g q = 1 ∧ g (q + 1) = Int32.ofNat v ∧ dep < 64 ∧ CodeR f g hi n (j + 1) (q + 2) (dep + 1)) ∨
     (∃ v, v < 10 ∧ f j = -1 - Int32.ofNat v ∧ g q = 2 ∧ g (q + 1) = Int32.ofNat v ∧ dep < 64 ∧ CodeR f g hi n (j + 1) (q + 2) (dep + 1)) ∨
     (f j = -13 ∧ g q = 3 ∧ 0 < dep ∧ CodeR f g hi n (j + 1) (q + 1) dep) ∨
     (∃ o, o ∈ opT ∧ f j = o.1 ∧ g q = o.2 ∧ 1 < dep ∧ CodeR f g hi n (j + 1) (q + 1) (dep - 1)))
def LawC (A : Ab) (σ : Sto) (i a : Nat) : Prop :=
  (sI σ a 2 = A 112 i ∧ sI σ a 3 = A 113 i ∧ sI σ a 7 = A 117 i ∧ sI σ a 8 = A 118 i ∧ sI σ a 9 = A 119 i ∧ sI σ a 10 = A 120 i ∧ sI σ a 11 = A 121 i ∧ sI σ a 12 = A 122 i) ∧
  (inR (A 112 i) (nLs A) ∧ inR (A 113 i) 36500 ∧ inR (A 117 i) 10001 ∧ inR (A 118 i) 100000000 ∧ (A 119 i = -1 ∨ inR (A 119 i) 100000000) ∧ inR (A 120 i) 201 ∧ inR (A 121 i) 100000000) ∧
  (∃ n, n ≤ 16 ∧ sI σ a 6 = Int32.ofNat n ∧ A 116 i = Int32.ofNat n ∧ (∀ j, j < n → sI σ (a + 1) j = A 124 (16 * i + j) ∧ sI σ (a + 2) j = A 125 (16 * i + j) ∧ inR (A 124 (16 * i + j)) 100000000 ∧ inR (A 125 (16 * i + j)) 10001) ∧ ∀ j, j + 1 < n → A 124 (16 * i + j) < A 124 (16 * i + j + 1)) ∧
  ∃ n, n ≤ 500 ∧ sI σ a 14 = Int32.ofNat n ∧ ((n = 0 ∧ A 123 i = -1) ∨ (0 < n ∧ ∃ q, q < 15800 ∧ A 123 i = Int32.ofNat q ∧ CodeR (fun j => sI σ (a + 3) j) (fun j => A 126 j) (1210 * (i + 1)) n 0 q 0))
def LawT (A : Ab) (σ : Sto) (i a : Nat) : Prop := sI σ a 0 = A 114 i ∧ sI σ a 1 = nev (A 115 i) ∧ ∃ t, t ≤ nTn A ∧ A 114 i = Int32.ofNat t ∧ (A 115 i = -1 ∨ ∃ b, t ≤ b ∧ b ≤ nTn A ∧ A 115 i = Int32.ofNat b)
def RLaw (A : Ab) (σ : Sto) : Prop :=
  (LwAt σ (sR σ 32 7) ∧ 75 ≤ sR σ 32 7 ∧ sI σ (sR σ 32 7) 1 = 1000000) ∧ (∀ i, i ≤ 12 → LwAt σ (sR σ 40 i)) ∧
  (∀ i, i < cT 6 A → 75 ≤ sR σ 40 i ∧ sR σ 40 i + 4 < sR σ 32 7 ∧ LawC A σ i (sR σ 40 i) ∧ LawT A σ i (sR σ 40 i)) ∧
  (∀ i j, i < j → j < cT 6 A → sR σ 40 i + 4 < sR σ 40 j) ∧
  ∀ i, cT 6 A ≤ i → i ≤ 12 → sI σ (sR σ 40 i) 0 = 1000000 ∧ sI σ (sR σ 40 i) 1 = 1000000 ∧ sI σ (sR σ 40 i) 2 = -1 ∧ sI σ (sR σ 40 i) 3 = -1 ∧ sR σ 40 i < 75
/-- known on an evening -/
def knB (A : Ab) (i k : Nat) : Bool := decide ((A 106 i).toNatClampNeg ≤ k) && (A 107 i == -1 || decide (k < (A 107 i).toNatClampNeg))
def heirQ (A : Ab) (i : Nat) : Nat := 27720 / (A 105 i).toNatClampNeg * (A 104 i).toNatClampNeg
def isHeir (A : Ab) (p k i : Nat) : Bool := A 97 i == 1 && A 99 i == Int32.ofNat p && knB A i k
def heirS (A : Ab) (p k : Nat) : Nat → Nat
  | 0 => 0
  | n + 1 => heirS A p k n + if isHeir A p k n then heirQ A n else 0
def IHeir (A : Ab) : Prop := ∀ p k, heirS A p k (cT 4 A) ≤ 27720
def ISold (A : Ab) : Prop := ∀ w, w < cT 1 A → (A 91 w = 0 ∨ A 91 w = 1) ∧ (A 91 w = 1 ↔ ∃ f, f < cT 4 A ∧ A 97 f = 2 ∧ A 98 f = Int32.ofNat w)
/-- no claim is told twice -/
def IClaim (A : Ab) : Prop := ∀ i j, i < j → j < cT 5 A → ¬ (A 108 i = A 108 j ∧ A 109 i = A 109 j)
theorem IClaim.same {A A' : Ab} (h : IClaim A) (hT : cT 5 A' = cT 5 A) (hA : ∀ a i, 108 ≤ a → a ≤ 109 → A' a i = A a i) : IClaim A' := fun i j hij hj => by
  rw [hT] at hj
  rw [hA 108 i (by decide) (by decide), hA 108 j (by decide) (by decide), hA 109 i (by decide) (by decide), hA 109 j (by decide) (by decide)]
  exact h i j hij hj
theorem heirS_congr {A A' : Ab} {p k : Nat} : ∀ n, (∀ a i, 97 ≤ a → a ≤ 107 → i < n → A' a i = A a i) → heirS A' p k n = heirS A p k n
  | 0, _ => rfl
  | n + 1, h => by
    have e : heirS A' p k n = heirS A p k n := heirS_congr n (fun a i h1 h2 h3 => h a i h1 h2 (by omega))
    have e97 := h 97 n (by decide) (by decide) (by omega)
    have e99 := h 99 n (by decide) (by decide) (by omega)
    have e104 := h 104 n (by decide) (by decide) (by omega)
    have e105 := h 105 n (by decide) (by decide) (by omega)
    have e106 := h 106 n (by decide) (by decide) (by omega)
    have e107 := h 107 n (by decide) (by decide) (by omega)
    have f1 : isHeir A' p k n = isHeir A p k n := by simp only [isHeir, knB, e97, e99, e106, e107]
    have f2 : heirQ A' n = heirQ A n := by simp only [heirQ, e104, e105]
    show heirS A' p k n + (if isHeir A' p k n then heirQ A' n else 0) = heirS A p k n + (if isHeir A p k n then heirQ A n else 0)
    rw [e, f1, f2]
theorem IHeir.same {A A' : Ab} (h : IHeir A) (hT : cT 4 A' = cT 4 A) (hA : ∀ a i, 97 ≤ a → a ≤ 107 → A' a i = A a i) : IHeir A' := fun p k => by
  rw [hT, heirS_congr _ (fun a i h1 h2 _ => hA a i h1 h2)]
  exact h p k
theorem ISold.same {A A' : Ab} (h : ISold A) (hT : cT 4 A' = cT 4 A) (hT1 : cT 1 A' = cT 1 A) (hA : ∀ a i, 91 ≤ a → a ≤ 107 → A' a i = A a i) (hA1 : True) : ISold A' := fun w hw => by
  rw [hT1] at hw
  have h0 := h w hw
  refine ⟨by rw [hA 91 w (by decide) (by decide)]; exact h0.1, ?_⟩
  rw [hA 91 w (by decide) (by decide), hT, h0.2]
  constructor
  · rintro ⟨f, h1, h2, h3⟩
    exact ⟨f, h1, by rw [hA 97 f (by decide) (by decide)]; exact h2, by rw [hA 98 f (by decide) (by decide)]; exact h3⟩
  · rintro ⟨f, h1, h2, h3⟩
    exact ⟨f, h1, by rw [← hA 97 f (by decide) (by decide)]; exact h2, by rw [← hA 98 f (by decide) (by decide)]; exact h3⟩
/-! the frame: what was made at need stays (but for what a law's reckoning writes down) -/
def Fr (σ σ' : Sto) : Prop := sZ σ ≤ sZ σ' ∧ (∀ b, b < sZ σ → sK σ' b = sK σ b ∧ sN σ' b = sN σ b) ∧ (∀ b, b < sZ σ → reg b → ¬ (sK σ b = 100 ∧ sN σ b = 64) → ∀ k, sI σ' b k = sI σ b k) ∧ ∀ b, b < sZ σ → reg b → ∀ k, sR σ' b k = sR σ b k
theorem Fr.rf {σ : Sto} : Fr σ σ := ⟨Nat.le_refl _, fun _ _ => ⟨rfl, rfl⟩, fun _ _ _ _ _ => rfl, fun _ _ _ _ => rfl⟩
theorem Fr.tr {a b c : Sto} (h : Fr a b) (g : Fr b c) : Fr a c :=
  ⟨Nat.le_trans h.1 g.1, fun x hx => ⟨(g.2.1 x (Nat.lt_of_lt_of_le hx h.1)).1.trans (h.2.1 x hx).1, (g.2.1 x (Nat.lt_of_lt_of_le hx h.1)).2.trans (h.2.1 x hx).2⟩,
   fun x hx hr hn k => (g.2.2.1 x (Nat.lt_of_lt_of_le hx h.1) hr (by rw [(h.2.1 x hx).1, (h.2.1 x hx).2]; exact hn) k).trans (h.2.2.1 x hx hr hn k),
   fun x hx hr k => (g.2.2.2 x (Nat.lt_of_lt_of_le hx h.1) hr k).trans (h.2.2.2 x hx hr k)⟩
theorem Fr.w {σ σ0 : Sto} (h : Fr σ σ0) (a k : Nat) (v : Int32) (ha : ¬ reg a) : Fr σ (wI σ0 a k v) :=
  h.tr ⟨Nat.le_refl _, fun _ _ => ⟨rfl, rfl⟩, fun b _ hr _ j => by rw [sI_wI, if_neg (fun q : b = a ∧ j = k => ha (q.1 ▸ hr))], fun _ _ _ _ => rfl⟩
theorem Fr.wp {σ σ0 : Sto} (h : Fr σ σ0) (a k : Nat) (v : Int32) (h1 : sK σ0 a = 100) (h2 : sN σ0 a = 64) : Fr σ (wI σ0 a k v) :=
  h.tr ⟨Nat.le_refl _, fun _ _ => ⟨rfl, rfl⟩, fun b _ hr hn j => by rw [sI_wI, if_neg (fun q : b = a ∧ j = k => hn (by rw [q.1]; exact ⟨h1, h2⟩))], fun _ _ _ _ => rfl⟩
theorem Fr.wl {σ σ0 : Sto} (h : Fr σ σ0) (a k : Nat) (v : Int64) : Fr σ (wL σ0 a k v) := h.tr ⟨Nat.le_refl _, fun _ _ => ⟨rfl, rfl⟩, fun _ _ _ _ _ => rfl, fun _ _ _ _ => rfl⟩
theorem Fr.wr {σ σ0 : Sto} (h : Fr σ σ0) (a k v : Nat) (ha : ¬ reg a) : Fr σ (wR σ0 a k v) :=
  h.tr ⟨Nat.le_refl _, fun _ _ => ⟨rfl, rfl⟩, fun _ _ _ _ _ => rfl, fun b _ hr j => by rw [sR_wR, if_neg (fun q : b = a ∧ j = k => ha (q.1 ▸ hr))]⟩
theorem OnlyM.fr {σ σ' : Sto} (h : OnlyM σ σ') : Fr σ σ' := ⟨Nat.le_of_eq h.1.symm, fun b _ => ⟨h.2.1 b, h.2.2.1 b⟩, fun b _ hr _ k => (h.2.2.2.2.2 b (by unfold reg at hr; omega)).1 k, fun b _ _ k => h.2.2.2.1 b k⟩
theorem WkAt.fr {σ σ' : Sto} {a : Nat} (h : WkAt σ a) (f : Fr σ σ') : WkAt σ' a := by
  obtain ⟨h1, h2, h3, h4, h5, h6, h7, h8, h9, h10, h11⟩ := h
  have f1 := f.2.1 a (by omega)
  have f2 := f.2.1 (a + 1) (by omega)
  have f3 := f.2.1 (a + 2) (by omega)
  exact ⟨h1, h2, h3, Nat.lt_of_lt_of_le h4 f.1, f1.1.trans h5, (f.2.2.2 a (by omega) h1 _).trans h6, (f.2.2.2 a (by omega) h1 _).trans h7, f2.1.trans h8, f2.2.trans h9, f3.1.trans h10, f3.2.trans h11⟩
theorem LwAt.fr {σ σ' : Sto} {a : Nat} (h : LwAt σ a) (f : Fr σ σ') : LwAt σ' a := by
  obtain ⟨⟨r0, r1, r2, r3, r4⟩, hz, hk, ⟨p1, p2, p3, p4⟩, ⟨a1, b1⟩, ⟨a2, b2⟩, ⟨a3, b3⟩, a4, b4⟩ := h
  have f0 := f.2.1 a (by omega)
  have f1 := f.2.1 (a + 1) (by omega)
  have f2 := f.2.1 (a + 2) (by omega)
  have f3 := f.2.1 (a + 3) (by omega)
  have f4 := f.2.1 (a + 4) (by omega)
  have fr := f.2.2.2 a (by omega) r0
  exact ⟨⟨r0, r1, r2, r3, r4⟩, Nat.lt_of_lt_of_le hz f.1, f0.1.trans hk, ⟨(fr _).trans p1, (fr _).trans p2, (fr _).trans p3, (fr _).trans p4⟩, ⟨f1.1.trans a1, f1.2.trans b1⟩, ⟨f2.1.trans a2, f2.2.trans b2⟩, ⟨f3.1.trans a3, f3.2.trans b3⟩, f4.1.trans a4, f4.2.trans b4⟩
theorem wsum_congr {A A' : Ab} {i : Nat} : ∀ m, (∀ j, j < m → A' 86 (3 * i + j) = A 86 (3 * i + j)) → wsum A' i m = wsum A i m
  | 0, _ => rfl
  | m + 1, h => by
    simp only [wsum, wsum_congr m (fun j hj => h j (by omega)), h m (by omega)]
theorem WkAt.keepI {σ σ' : Sto} {a : Nat} (h : WkAt σ a) (f : Fr σ σ') : (∀ k, sI σ' a k = sI σ a k) ∧ (∀ k, sI σ' (a + 1) k = sI σ (a + 1) k) ∧ ∀ k, sI σ' (a + 2) k = sI σ (a + 2) k := by
  obtain ⟨h1, h2, h3, h4, h5, h6, h7, h8, h9, h10, h11⟩ := h
  refine ⟨f.2.2.1 a (by omega) h1 (by rw [h5]; rintro ⟨q, _⟩; cases q), f.2.2.1 _ (by omega) h2 (by rw [h9]; rintro ⟨_, q⟩; cases q), f.2.2.1 _ (by omega) h3 (by rw [h11]; rintro ⟨_, q⟩; cases q)⟩
theorem LwAt.keepI {σ σ' : Sto} {a : Nat} (h : LwAt σ a) (f : Fr σ σ') : (∀ k, sI σ' a k = sI σ a k) ∧ (∀ k, sI σ' (a + 1) k = sI σ (a + 1) k) ∧ (∀ k, sI σ' (a + 2) k = sI σ (a + 2) k) ∧ ∀ k, sI σ' (a + 3) k = sI σ (a + 3) k := by
  obtain ⟨⟨r0, r1, r2, r3, r4⟩, hz, hk, _, ⟨a1, b1⟩, ⟨a2, b2⟩, ⟨a3, b3⟩, _⟩ := h
  refine ⟨f.2.2.1 a (by omega) r0 (by rw [hk]; rintro ⟨q, _⟩; cases q), f.2.2.1 _ (by omega) r1 (by rw [b1]; rintro ⟨_, q⟩; cases q), f.2.2.1 _ (by omega) r2 (by rw [b2]; rintro ⟨_, q⟩; cases q), f.2.2.1 _ (by omega) r3 (by rw [b3]; rintro ⟨_, q⟩; cases q)⟩
theorem WkC.fr {A A' : Ab} {σ σ' : Sto} {i a : Nat} (h : WkC A σ i a) (hw : WkAt σ a) (f : Fr σ σ') (hA : ∀ c, 84 ≤ c → c ≤ 86 → ∀ j, A' c j = A c j) : WkC A' σ' i a := by
  obtain ⟨k0, k1, k2⟩ := hw.keepI f
  have e84 := hA 84 (by decide) (by decide) i
  refine ⟨fun j hj => ?_, ?_⟩
  · rw [e84] at hj
    rw [k1, k2, hA 85 (by decide) (by decide), hA 86 (by decide) (by decide)]
    exact h.1 j hj
  · rw [k0, e84, wsum_congr _ (fun j _ => hA 86 (by decide) (by decide) _)]
    exact h.2
theorem RWork.fr {A A' : Ab} {σ σ' : Sto} (h : RWork A σ) (f : Fr σ σ') (hrow : ∀ i, sR σ' 35 i = sR σ 35 i) (hT : cT 1 A' = cT 1 A) (hA : ∀ c, 84 ≤ c → c ≤ 86 → ∀ j, A' c j = A c j) (hle : cT 1 A ≤ 30) : RWork A' σ' := by
  refine ⟨fun i hi => by rw [hrow]; exact (h.1 i hi).fr f, fun i hi => ?_, fun i j hij hj => ?_⟩
  · rw [hT] at hi
    rw [hrow]
    exact ⟨(h.2.1 i hi).1.fr (h.1 i (by omega)) f hA, (h.2.1 i hi).2⟩
  · rw [hT] at hj
    rw [hrow, hrow]
    exact h.2.2 i j hij hj
theorem CodeR.congr {f g f' g' : Nat → Int32} {hi : Nat} : ∀ {n j q dep : Nat}, CodeR f g hi n j q dep → (∀ x, j ≤ x → x < j + n → f' x = f x) → (∀ x, q ≤ x → x < hi → g' x = g x) → CodeR f' g' hi n j q dep
  | 0, j, q, dep, h, hf, hg => ⟨h.1, by rw [hg q (Nat.le_refl _) h.1]; exact h.2.1, h.2.2⟩
  | n + 1, j, q, dep, h, hf, hg => by
    obtain ⟨h1, h2, h3⟩ := h
    have ef := hf j (Nat.le_refl _) (by omega)
    have eg := hg q (Nat.le_refl _) (by omega)
    have eg1 := hg (q + 1) (by omega) h1
    refine ⟨h1, h2, ?_⟩
    rcases h3 with ⟨v, v1, v2, v3, v4, v5, v6⟩ | ⟨v, v1, v2, v3, v4, v5, v6⟩ | ⟨v2, v3, v5, v6⟩ | ⟨o, o1, o2, o3, o4, o5⟩
    · exact Or.inl ⟨v, v1, by rw [ef]; exact v2, by rw [eg]; exact v3, by rw [eg1]; exact v4, v5, CodeR.congr v6 (fun x a b => hf x (by omega) (by omega)) (fun x a b => hg x (by omega) b)⟩
    · exact Or.inr (Or.inl ⟨v, v1, by rw [ef]; exact v2, by rw [eg]; exact v3, by rw [eg1]; exact v4, v5, CodeR.congr v6 (fun x a b => hf x (by omega) (by omega)) (fun x a b => hg x (by omega) b)⟩)
    · exact Or.inr (Or.inr (Or.inl ⟨by rw [ef]; exact v2, by rw [eg]; exact v3, v5, CodeR.congr v6 (fun x a b => hf x (by omega) (by omega)) (fun x a b => hg x (by omega) b)⟩))
    · exact Or.inr (Or.inr (Or.inr ⟨o, o1, by rw [ef]; exact o2, by rw [eg]; exact o3, o4, CodeR.congr o5 (fun x a b => hf x (by omega) (by omega)) (fun x a b => hg x (by omega) b)⟩))
/-- a law's row goes on when its cells and the reference's rows of its number stay -/
theorem LawC.keep {A A' : Ab} {σ σ' : Sto} {i a : Nat} (h : LawC A σ i a) (k0 : ∀ k, 2 ≤ k → sI σ' a k = sI σ a k) (k1 : ∀ k, sI σ' (a + 1) k = sI σ (a + 1) k) (k2 : ∀ k, sI σ' (a + 2) k = sI σ (a + 2) k) (k3 : ∀ k, sI σ' (a + 3) k = sI σ (a + 3) k)
    (hg : nLs A ≤ nLs A') (hA : ∀ c, 112 ≤ c → c ≤ 123 → c ≠ 114 → c ≠ 115 → A' c i = A c i) (hA2 : ∀ c, 124 ≤ c → c ≤ 125 → ∀ j, j < 16 → A' c (16 * i + j) = A c (16 * i + j)) (hA3 : ∀ q, q < 1210 * (i + 1) → A' 126 q = A 126 q) : LawC A' σ' i a := by
  obtain ⟨⟨a1, a2, a3, a4, a5, a6, a7, a8⟩, ⟨b1, b2, b3, b4, b5, b6, b7⟩, ⟨n, n1, n2, n3, n4, n5⟩, ⟨m, m1, m2, m3⟩⟩ := h
  have e112 := hA 112 (by decide) (by decide) (by decide) (by decide)
  have e113 := hA 113 (by decide) (by decide) (by decide) (by decide)
  have e116 := hA 116 (by decide) (by decide) (by decide) (by decide)
  have e117 := hA 117 (by decide) (by decide) (by decide) (by decide)
  have e118 := hA 118 (by decide) (by decide) (by decide) (by decide)
  have e119 := hA 119 (by decide) (by decide) (by decide) (by decide)
  have e120 := hA 120 (by decide) (by decide) (by decide) (by decide)
  have e121 := hA 121 (by decide) (by decide) (by decide) (by decide)
  have e122 := hA 122 (by decide) (by decide) (by decide) (by decide)
  have e123 := hA 123 (by decide) (by decide) (by decide) (by decide)
  unfold LawC
  rw [e112, e113, e116, e117, e118, e119, e120, e121, e122, e123, k0 2 (by decide), k0 3 (by decide), k0 6 (by decide), k0 7 (by decide), k0 8 (by decide), k0 9 (by decide), k0 10 (by decide), k0 11 (by decide), k0 12 (by decide), k0 14 (by decide)]
  refine ⟨⟨a1, a2, a3, a4, a5, a6, a7, a8⟩, ⟨b1.mono hg, b2, b3, b4, b5, b6, b7⟩, ⟨n, n1, n2, n3, fun j hj => ?_, fun j hj => ?_⟩, ⟨m, m1, m2, ?_⟩⟩
  · rw [k1, k2, hA2 124 (by decide) (by decide) j (by omega), hA2 125 (by decide) (by decide) j (by omega)]
    exact n4 j hj
  · rw [hA2 124 (by decide) (by decide) j (by omega), show 16 * i + j + 1 = 16 * i + (j + 1) from rfl, hA2 124 (by decide) (by decide) (j + 1) (by omega)]
    exact n5 j hj
  · rcases m3 with m3 | ⟨m4, q, q1, q2, q3⟩
    · exact Or.inl m3
    · exact Or.inr ⟨m4, q, q1, q2, q3.congr (fun x _ _ => k3 x) (fun x _ hx => hA3 x hx)⟩
theorem LawT.keep {A A' : Ab} {σ σ' : Sto} {i a : Nat} (h : LawT A σ i a) (k0 : sI σ' a 0 = sI σ a 0) (k1 : sI σ' a 1 = sI σ a 1) (hg : nTn A ≤ nTn A') (hA : A' 114 i = A 114 i) (hA1 : A' 115 i = A 115 i) : LawT A' σ' i a := by
  obtain ⟨h1, h2, t, t1, t2, t3⟩ := h
  unfold LawT
  rw [k0, k1, hA, hA1]
  exact ⟨h1, h2, t, by omega, t2, t3.imp id fun ⟨b, b1, b2, b3⟩ => ⟨b, b1, by omega, b3⟩⟩
theorem RLaw.fr {A A' : Ab} {σ σ' : Sto} (h : RLaw A σ) (f : Fr σ σ') (hrow : ∀ i, sR σ' 40 i = sR σ 40 i) (hD : sR σ' 32 7 = sR σ 32 7) (hT : cT 6 A' = cT 6 A) (hle : cT 6 A ≤ 12) (hg : nLs A ≤ nLs A') (hg2 : nTn A ≤ nTn A') (hA : ∀ c, 112 ≤ c → c ≤ 126 → ∀ j, A' c j = A c j) : RLaw A' σ' := by
  obtain ⟨⟨d1, d2, d3⟩, h2, h3, h4, h5⟩ := h
  refine ⟨?_, fun i hi => ?_, fun i hi => ?_, fun i j hij hj => ?_, fun i hi hi2 => ?_⟩
  · rw [hD]
    exact ⟨d1.fr f, d2, by rw [(d1.keepI f).1]; exact d3⟩
  · rw [hrow]; exact (h2 i hi).fr f
  · rw [hT] at hi
    rw [hrow, hD]
    obtain ⟨g1, g2, g3, g4⟩ := h3 i hi
    obtain ⟨k0, k1, k2, k3⟩ := (h2 i (by omega)).keepI f
    exact ⟨g1, g2, g3.keep (fun k _ => k0 k) k1 k2 k3 hg (fun c c1 c2 _ _ => hA c c1 (by omega) i) (fun c c1 c2 j _ => hA c (by omega) (by omega) _) (fun q _ => hA 126 (by decide) (by decide) q), g4.keep (k0 0) (k0 1) hg2 (hA 114 (by decide) (by decide) i) (hA 115 (by decide) (by decide) i)⟩
  · rw [hT] at hj
    rw [hrow, hrow]
    exact h4 i j hij hj
  · rw [hT] at hi
    rw [hrow]
    have k0 := ((h2 i hi2).keepI f).1
    rw [k0, k0, k0, k0]
    exact h5 i hi hi2
/-- facts and claims lie apart -/
def RAp (A : Ab) (σ : Sto) : Prop := (∀ c, 4 ≤ c → c ≤ 5 → ∀ i, i ≤ 200 → (147 ≤ sR σ (34 + c) i ↔ i < cT c A)) ∧ ∀ c c', 4 ≤ c → c ≤ 5 → 4 ≤ c' → c' ≤ 5 → ∀ i i', i < cT c A → i' < cT c' A → sR σ (34 + c) i = sR σ (34 + c') i' → c = c' ∧ i = i'
theorem RAp.same {A A' : Ab} {σ σ' : Sto} (h : RAp A σ) (hr : ∀ c, 4 ≤ c → c ≤ 5 → ∀ i, sR σ' (34 + c) i = sR σ (34 + c) i) (hT : ∀ c, 4 ≤ c → c ≤ 5 → cT c A' = cT c A) : RAp A' σ' := by
  refine ⟨fun c h1 h2 i hi => ?_, fun c c' h1 h2 h3 h4 i i' hi hi' => ?_⟩
  · rw [hr c h1 h2, hT c h1 h2]; exact h.1 c h1 h2 i hi
  · rw [hT c h1 h2] at hi
    rw [hT c' h3 h4] at hi'
    rw [hr c h1 h2, hr c' h3 h4]
    exact h.2 c c' h1 h2 h3 h4 i i' hi hi'
/-- the rest of the relation -/
def RelX (A : Ab) (σ : Sto) : Prop := RStat σ ∧ RGain σ ∧ IRow A ∧ RWork A σ ∧ RLaw A σ ∧ IHeir A ∧ ISold A ∧ IClaim A ∧ RAp A σ ∧ A 81 73 = 0
/-- nothing of works and laws was told -/
theorem RelX.keep {A A' : Ab} {σ σ1 σ2 : Sto} (h : RelX A σ) (hB : IB A) (hz : 147 ≤ sZ σ) (hc : OnlyC σ σ1) (hm : OnlyM σ1 σ2) (f : Fr σ σ1) (h35 : ∀ i, sR σ1 35 i = sR σ 35 i) (h40 : ∀ i, sR σ1 40 i = sR σ 40 i) (hD : sR σ1 32 7 = sR σ 32 7)
    (hT1 : cT 1 A' = cT 1 A) (hT6 : cT 6 A' = cT 6 A) (hg : nLs A ≤ nLs A') (hg2 : nTn A ≤ nTn A') (hA : ∀ c, (84 ≤ c ∧ c ≤ 86) ∨ (112 ≤ c ∧ c ≤ 126) → ∀ j, A' c j = A c j) (hi : IRow A') (hh : IHeir A') (hs : ISold A') (hcl : IClaim A') (hap : RAp A' σ1) (h73 : A' 81 73 = 0) : RelX A' σ2 := by
  have ff := f.tr hm.fr
  refine ⟨(h.1.onC hz hc).onM hm, (h.2.1.onC hc).onM hm, hi, h.2.2.2.1.fr ff (fun i => (hm.2.2.2.1 _ _).trans (h35 i)) hT1 (fun c c1 c2 => hA c (Or.inl ⟨c1, c2⟩)) ?_, h.2.2.2.2.1.fr ff (fun i => (hm.2.2.2.1 _ _).trans (h40 i)) ((hm.2.2.2.1 _ _).trans hD) hT6 ?_ hg hg2 (fun c c1 c2 => hA c (Or.inr ⟨c1, c2⟩)), hh, hs, hcl, hap.same (fun _ _ _ _ => hm.2.2.2.1 _ _) (fun _ _ _ => rfl), h73⟩
  · exact (hB.2.2.2.1.cl (by decide)).1
  · exact (hB.2.2.2.2.2.2.2.2.1.cl (by decide)).1
