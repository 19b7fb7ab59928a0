/-! the class's books as they are read -/
def CB (A : Ab) (σ : Sto) : Prop := IB A ∧ 147 ≤ sZ σ ∧ RObj A σ ∧ RCnt A σ ∧ RStat σ ∧ IRow A ∧ RWork A σ ∧ RLaw A σ
theorem Rel.cb {A : Ab} {σ : Sto} (h : Rel A σ) : CB A σ := ⟨h.1, h.2.1, h.2.2.2.1, h.2.2.2.2.1, h.stat, h.row, h.wk, h.lw⟩
theorem reg_nz {a : Nat} (h : reg a) : ¬ a = 0 := fun q => by
  unfold reg at h
  omega
theorem CB.kind {A : Ab} {σ : Sto} (h : CB A σ) {c i : Nat} (hc : c < 7) (hi : i ≤ cM c) : sK σ (sR σ (34 + c) i) = cK c := (h.2.2.1 c hc i hi).2.2.1
theorem CB.rg {A : Ab} {σ : Sto} (h : CB A σ) {c i : Nat} (hc : c < 7) (hi : i ≤ cM c) : reg (sR σ (34 + c) i) := (h.2.2.1 c hc i hi).1
theorem CB.fld {A : Ab} {σ : Sto} (h : CB A σ) {c i k : Nat} (hc : c < 7) (hm : cT c A ≤ cM c) (hi : i < cT c A) (hk : k ∈ cF c) : sI σ (sR σ (34 + c) i) k = cV c A i k := by
  have g := (h.2.2.1 c hc i (by omega)).2.2.2 k hk
  rw [if_pos hi] at g
  exact g
theorem CB.bld {A : Ab} {σ : Sto} (h : CB A σ) {c i k : Nat} (hc : c < 7) (hm : cT c A ≤ i) (hi : i ≤ cM c) (hk : k ∈ cF c) : sI σ (sR σ (34 + c) i) k = cB c k := by
  have g := (h.2.2.1 c hc i hi).2.2.2 k hk
  rw [if_neg (by omega)] at g
  exact g
theorem IB.le {A : Ab} (h : IB A) {c : Nat} (hc : c < 7) : cT c A ≤ cM c ∧ A 81 (cN c) = Int32.ofNat (cT c A) := by
  obtain ⟨b1, b2, b3, b4, b5, b6, b7, b8, b9, b10⟩ := h
  rcases (show c = 0 ∨ c = 1 ∨ c = 2 ∨ c = 3 ∨ c = 4 ∨ c = 5 ∨ c = 6 by omega) with rfl | rfl | rfl | rfl | rfl | rfl | rfl
  · exact b3.cl (by decide)
  · exact b4.cl (by decide)
  · exact b5.cl (by decide)
  · exact b6.cl (by decide)
  · exact b7.cl (by decide)
  · exact b8.cl (by decide)
  · exact b9.cl (by decide)
theorem IB.tn {A : Ab} (h : IB A) : nTn A ≤ 999 ∧ A 81 1 = Int32.ofNat (nTn A) := h.1.cl (by decide)
theorem IB.ln {A : Ab} (h : IB A) : nLs A ≤ 6 ∧ A 81 2 = Int32.ofNat (nLs A) := h.2.1.cl (by decide)
theorem cM_le {c : Nat} (hc : c < 7) : cM c ≤ 200 := (by decide : ∀ c, c < 7 → cM c ≤ 200) c hc
theorem CB.num {A : Ab} {σ : Sto} (h : CB A σ) {c : Nat} (hc : c < 7) : sI σ 33 (2 * c + 3) = Int32.ofNat (cT c A) := by
  rw [← (h.1.le hc).2]
  rcases (show c = 0 ∨ c = 1 ∨ c = 2 ∨ c = 3 ∨ c = 4 ∨ c = 5 ∨ c = 6 by omega) with rfl | rfl | rfl | rfl | rfl | rfl | rfl
  · exact h.2.2.2.1 2 (by decide)
  · exact h.2.2.2.1 3 (by decide)
  · exact h.2.2.2.1 4 (by decide)
  · exact h.2.2.2.1 5 (by decide)
  · exact h.2.2.2.1 6 (by decide)
  · exact h.2.2.2.1 7 (by decide)
  · exact h.2.2.2.1 8 (by decide)
theorem CB.tn {A : Ab} {σ : Sto} (h : CB A σ) : sI σ 33 0 = Int32.ofNat (nTn A) := (h.2.2.2.1 0 (by decide)).trans h.1.tn.2
theorem CB.at0 {A : Ab} {σ : Sto} (h : CB A σ) {i : Nat} (hi : i < cT 0 A) : mX1_personAt (Int32.ofNat i) σ = some (sR σ 34 i) := by
  have hl := (h.1.le (c := 0) (by decide)).1
  have hn : sI σ 33 3 = Int32.ofNat (cT 0 A) := h.num (c := 0) (by decide)
  have hm : cM 0 = 30 := rfl
  have hz : ¬ sR σ 34 i = 0 := reg_nz (h.rg (c := 0) (by decide) (by omega))
  unfold mX1_personAt
  rw [if_neg (oI_nn (by omega)), hn, if_neg (fun q => absurd ((oI_le (by omega) (by omega)).mp q) (by omega)), if_pos (oI_inb (by omega) (by decide)), oI_cl (by omega), if_pos hz]
theorem CB.no0 {A : Ab} {σ : Sto} (h : CB A σ) {p : Int32} (hp : ¬ nu p (cT 0 A)) : mX1_personAt p σ = some (sR σ 34 30) := by
  have hn : sI σ 33 3 = Int32.ofNat (cT 0 A) := h.num (c := 0) (by decide)
  have hz2 : ¬ sR σ 34 30 = 0 := reg_nz (h.rg (c := 0) (by decide) (Nat.le_refl _))
  unfold mX1_personAt
  show (if p < 0 then (if ¬ sR σ 34 30 = 0 then some (sR σ 34 30) else none) else if sI σ 33 3 ≤ p then (if ¬ sR σ 34 30 = 0 then some (sR σ 34 30) else none) else _) = _
  by_cases q : p < 0
  · rw [if_pos q, if_pos hz2]
  · rw [if_neg q, hn, if_pos (nlt.mp fun z => hp ⟨q, z⟩), if_pos hz2]
theorem CB.at1 {A : Ab} {σ : Sto} (h : CB A σ) {i : Nat} (hi : i < cT 1 A) : mX1_workAt (Int32.ofNat i) σ = some (sR σ 35 i) := by
  have hl := (h.1.le (c := 1) (by decide)).1
  have hn : sI σ 33 5 = Int32.ofNat (cT 1 A) := h.num (c := 1) (by decide)
  have hm : cM 1 = 30 := rfl
  have hz : ¬ sR σ 35 i = 0 := reg_nz (h.rg (c := 1) (by decide) (by omega))
  unfold mX1_workAt
  rw [if_neg (oI_nn (by omega)), hn, if_neg (fun q => absurd ((oI_le (by omega) (by omega)).mp q) (by omega)), if_pos (oI_inb (by omega) (by decide)), oI_cl (by omega), if_pos hz]
theorem CB.no1 {A : Ab} {σ : Sto} (h : CB A σ) {p : Int32} (hp : ¬ nu p (cT 1 A)) : mX1_workAt p σ = some (sR σ 35 30) := by
  have hn : sI σ 33 5 = Int32.ofNat (cT 1 A) := h.num (c := 1) (by decide)
  have hz2 : ¬ sR σ 35 30 = 0 := reg_nz (h.rg (c := 1) (by decide) (Nat.le_refl _))
  unfold mX1_workAt
  show (if p < 0 then (if ¬ sR σ 35 30 = 0 then some (sR σ 35 30) else none) else if sI σ 33 5 ≤ p then (if ¬ sR σ 35 30 = 0 then some (sR σ 35 30) else none) else _) = _
  by_cases q : p < 0
  · rw [if_pos q, if_pos hz2]
  · rw [if_neg q, hn, if_pos (nlt.mp fun z => hp ⟨q, z⟩), if_pos hz2]
theorem CB.at2 {A : Ab} {σ : Sto} (h : CB A σ) {i : Nat} (hi : i < cT 2 A) : mX1_societyAt (Int32.ofNat i) σ = some (sR σ 36 i) := by
  have hl := (h.1.le (c := 2) (by decide)).1
  have hn : sI σ 33 7 = Int32.ofNat (cT 2 A) := h.num (c := 2) (by decide)
  have hm : cM 2 = 5 := rfl
  have hz : ¬ sR σ 36 i = 0 := reg_nz (h.rg (c := 2) (by decide) (by omega))
  unfold mX1_societyAt
  rw [if_neg (oI_nn (by omega)), hn, if_neg (fun q => absurd ((oI_le (by omega) (by omega)).mp q) (by omega)), if_pos (oI_inb (by omega) (by decide)), oI_cl (by omega), if_pos hz]
theorem CB.no2 {A : Ab} {σ : Sto} (h : CB A σ) {p : Int32} (hp : ¬ nu p (cT 2 A)) : mX1_societyAt p σ = some (sR σ 36 5) := by
  have hn : sI σ 33 7 = Int32.ofNat (cT 2 A) := h.num (c := 2) (by decide)
  have hz2 : ¬ sR σ 36 5 = 0 := reg_nz (h.rg (c := 2) (by decide) (Nat.le_refl _))
  unfold mX1_societyAt
  show (if p < 0 then (if ¬ sR σ 36 5 = 0 then some (sR σ 36 5) else none) else if sI σ 33 7 ≤ p then (if ¬ sR σ 36 5 = 0 then some (sR σ 36 5) else none) else _) = _
  by_cases q : p < 0
  · rw [if_pos q, if_pos hz2]
  · rw [if_neg q, hn, if_pos (nlt.mp fun z => hp ⟨q, z⟩), if_pos hz2]
theorem CB.at3 {A : Ab} {σ : Sto} (h : CB A σ) {i : Nat} (hi : i < cT 3 A) : mX1_rateAt (Int32.ofNat i) σ = some (sR σ 37 i) := by
  have hl := (h.1.le (c := 3) (by decide)).1
  have hn : sI σ 33 9 = Int32.ofNat (cT 3 A) := h.num (c := 3) (by decide)
  have hm : cM 3 = 60 := rfl
  have hz : ¬ sR σ 37 i = 0 := reg_nz (h.rg (c := 3) (by decide) (by omega))
  unfold mX1_rateAt
  rw [if_neg (oI_nn (by omega)), hn, if_neg (fun q => absurd ((oI_le (by omega) (by omega)).mp q) (by omega)), if_pos (oI_inb (by omega) (by decide)), oI_cl (by omega), if_pos hz]
theorem CB.no3 {A : Ab} {σ : Sto} (h : CB A σ) {p : Int32} (hp : ¬ nu p (cT 3 A)) : mX1_rateAt p σ = some (sR σ 37 60) := by
  have hn : sI σ 33 9 = Int32.ofNat (cT 3 A) := h.num (c := 3) (by decide)
  have hz2 : ¬ sR σ 37 60 = 0 := reg_nz (h.rg (c := 3) (by decide) (Nat.le_refl _))
  unfold mX1_rateAt
  show (if p < 0 then (if ¬ sR σ 37 60 = 0 then some (sR σ 37 60) else none) else if sI σ 33 9 ≤ p then (if ¬ sR σ 37 60 = 0 then some (sR σ 37 60) else none) else _) = _
  by_cases q : p < 0
  · rw [if_pos q, if_pos hz2]
  · rw [if_neg q, hn, if_pos (nlt.mp fun z => hp ⟨q, z⟩), if_pos hz2]
theorem CB.at4 {A : Ab} {σ : Sto} (h : CB A σ) {i : Nat} (hi : i < cT 4 A) : mX1_factAt (Int32.ofNat i) σ = some (sR σ 38 i) := by
  have hl := (h.1.le (c := 4) (by decide)).1
  have hn : sI σ 33 11 = Int32.ofNat (cT 4 A) := h.num (c := 4) (by decide)
  have hm : cM 4 = 200 := rfl
  have hz : ¬ sR σ 38 i = 0 := reg_nz (h.rg (c := 4) (by decide) (by omega))
  unfold mX1_factAt
  rw [if_neg (oI_nn (by omega)), hn, if_neg (fun q => absurd ((oI_le (by omega) (by omega)).mp q) (by omega)), if_pos (oI_inb (by omega) (by decide)), oI_cl (by omega), if_pos hz]
theorem CB.no4 {A : Ab} {σ : Sto} (h : CB A σ) {p : Int32} (hp : ¬ nu p (cT 4 A)) : mX1_factAt p σ = some (sR σ 38 200) := by
  have hn : sI σ 33 11 = Int32.ofNat (cT 4 A) := h.num (c := 4) (by decide)
  have hz2 : ¬ sR σ 38 200 = 0 := reg_nz (h.rg (c := 4) (by decide) (Nat.le_refl _))
  unfold mX1_factAt
  show (if p < 0 then (if ¬ sR σ 38 200 = 0 then some (sR σ 38 200) else none) else if sI σ 33 11 ≤ p then (if ¬ sR σ 38 200 = 0 then some (sR σ 38 200) else none) else _) = _
  by_cases q : p < 0
  · rw [if_pos q, if_pos hz2]
  · rw [if_neg q, hn, if_pos (nlt.mp fun z => hp ⟨q, z⟩), if_pos hz2]
theorem CB.at5 {A : Ab} {σ : Sto} (h : CB A σ) {i : Nat} (hi : i < cT 5 A) : mX1_claimAt (Int32.ofNat i) σ = some (sR σ 39 i) := by
  have hl := (h.1.le (c := 5) (by decide)).1
  have hn : sI σ 33 13 = Int32.ofNat (cT 5 A) := h.num (c := 5) (by decide)
  have hm : cM 5 = 200 := rfl
  have hz : ¬ sR σ 39 i = 0 := reg_nz (h.rg (c := 5) (by decide) (by omega))
  unfold mX1_claimAt
  rw [if_neg (oI_nn (by omega)), hn, if_neg (fun q => absurd ((oI_le (by omega) (by omega)).mp q) (by omega)), if_pos (oI_inb (by omega) (by decide)), oI_cl (by omega), if_pos hz]
theorem CB.no5 {A : Ab} {σ : Sto} (h : CB A σ) {p : Int32} (hp : ¬ nu p (cT 5 A)) : mX1_claimAt p σ = some (sR σ 39 200) := by
  have hn : sI σ 33 13 = Int32.ofNat (cT 5 A) := h.num (c := 5) (by decide)
  have hz2 : ¬ sR σ 39 200 = 0 := reg_nz (h.rg (c := 5) (by decide) (Nat.le_refl _))
  unfold mX1_claimAt
  show (if p < 0 then (if ¬ sR σ 39 200 = 0 then some (sR σ 39 200) else none) else if sI σ 33 13 ≤ p then (if ¬ sR σ 39 200 = 0 then some (sR σ 39 200) else none) else _) = _
  by_cases q : p < 0
  · rw [if_pos q, if_pos hz2]
  · rw [if_neg q, hn, if_pos (nlt.mp fun z => hp ⟨q, z⟩), if_pos hz2]
theorem CB.at6 {A : Ab} {σ : Sto} (h : CB A σ) {i : Nat} (hi : i < cT 6 A) : mX1_lawAt (Int32.ofNat i) σ = some (sR σ 40 i) := by
  have hl := (h.1.le (c := 6) (by decide)).1
  have hn : sI σ 33 15 = Int32.ofNat (cT 6 A) := h.num (c := 6) (by decide)
  have hm : cM 6 = 12 := rfl
  have hz : ¬ sR σ 40 i = 0 := reg_nz (h.rg (c := 6) (by decide) (by omega))
  unfold mX1_lawAt
  rw [if_neg (oI_nn (by omega)), hn, if_neg (fun q => absurd ((oI_le (by omega) (by omega)).mp q) (by omega)), if_pos (oI_inb (by omega) (by decide)), oI_cl (by omega), if_pos hz]
theorem CB.no6 {A : Ab} {σ : Sto} (h : CB A σ) {p : Int32} (hp : ¬ nu p (cT 6 A)) : mX1_lawAt p σ = some (sR σ 40 12) := by
  have hn : sI σ 33 15 = Int32.ofNat (cT 6 A) := h.num (c := 6) (by decide)
  have hz2 : ¬ sR σ 40 12 = 0 := reg_nz (h.rg (c := 6) (by decide) (Nat.le_refl _))
  unfold mX1_lawAt
  show (if p < 0 then (if ¬ sR σ 40 12 = 0 then some (sR σ 40 12) else none) else if sI σ 33 15 ≤ p then (if ¬ sR σ 40 12 = 0 then some (sR σ 40 12) else none) else _) = _
  by_cases q : p < 0
  · rw [if_pos q, if_pos hz2]
  · rw [if_neg q, hn, if_pos (nlt.mp fun z => hp ⟨q, z⟩), if_pos hz2]
theorem no_neg {n : Nat} : ¬ nu (-1) n := fun q => q.1 (by decide)
/-- known on an evening: the class's words, the reference's words -/
theorem told_of {A : Ab} (hr : IRow A) {i : Nat} (hi : i < cT 4 A) : ∃ t, t ≤ nTn A ∧ A 106 i = Int32.ofNat t ∧ (A 107 i = -1 ∨ ∃ b, t ≤ b ∧ b ≤ nTn A ∧ A 107 i = Int32.ofNat b) := (hr 4 (by decide) i hi).2.2.1
theorem ne_neg1 {b : Nat} (h : b < 2147483648) : ¬ Int32.ofNat b = -1 := fun q => oI_nn h (by rw [q]; decide)
theorem kn_int {A : Ab} {i t k : Nat} (ht : t ≤ 999) (hk : k ≤ 999) (e1 : A 106 i = Int32.ofNat t) (e2 : A 107 i = -1 ∨ ∃ b, b ≤ 999 ∧ A 107 i = Int32.ofNat b) :
    (if Int32.ofNat k < A 106 i then (some 0 : Option Int32) else if nev (A 107 i) ≤ Int32.ofNat k then some 0 else some 1) = some (if knB A i k then 1 else 0) ∧
    (if Int32.ofNat k < A 106 i then (some 0 : Option Int32) else if A 107 i = -1 then some 1 else if A 107 i ≤ Int32.ofNat k then some 0 else some 1) = some (if knB A i k then 1 else 0) := by
  unfold knB
  rw [e1, oI_cl (by omega)]
  by_cases c1 : t ≤ k
  · have n1 : ¬ Int32.ofNat k < Int32.ofNat t := fun q => absurd ((oI_lt (by omega) (by omega)).mp q) (by omega)
    rw [if_neg n1, if_neg n1, decide_eq_true c1]
    rcases e2 with e2 | ⟨b, hb, e2⟩
    · rw [e2]
      have n2 : ¬ nev (-1) ≤ Int32.ofNat k := fun q => absurd ((oI_le (j := 1000000) (n := k) (by decide) (by omega)).mp q) (by omega)
      rw [if_neg n2, if_pos rfl]
      exact ⟨rfl, rfl⟩
    · rw [e2]
      have n3 := ne_neg1 (b := b) (by omega)
      have e3 : nev (Int32.ofNat b) = Int32.ofNat b := if_neg n3
      rw [e3, if_neg n3, oI_cl (by omega), beq_false_of_ne n3]
      by_cases c2 : k < b
      · have n4 : ¬ Int32.ofNat b ≤ Int32.ofNat k := fun q => absurd ((oI_le (by omega) (by omega)).mp q) (by omega)
        rw [if_neg n4, decide_eq_true c2]
        exact ⟨rfl, rfl⟩
      · have n4 : Int32.ofNat b ≤ Int32.ofNat k := (oI_le (by omega) (by omega)).mpr (by omega)
        rw [if_pos n4, decide_eq_false c2]
        exact ⟨rfl, rfl⟩
  · have n1 : Int32.ofNat k < Int32.ofNat t := (oI_lt (by omega) (by omega)).mpr (by omega)
    rw [if_pos n1, if_pos n1, decide_eq_false c1]
    exact ⟨rfl, rfl⟩
theorem told_b {A : Ab} (hB : IB A) (hr : IRow A) {i : Nat} (hi : i < cT 4 A) : ∃ t, t ≤ 999 ∧ A 106 i = Int32.ofNat t ∧ (A 107 i = -1 ∨ ∃ b, b ≤ 999 ∧ A 107 i = Int32.ofNat b) := by
  obtain ⟨t, t1, t2, t3⟩ := told_of hr hi
  have := hB.tn.1
  exact ⟨t, by omega, t2, t3.imp id fun ⟨b, _, b2, b3⟩ => ⟨b, by omega, b3⟩⟩
theorem CB.known {A : Ab} {σ : Sto} (h : CB A σ) {i k : Nat} (hi : i < cT 4 A) (hk : k ≤ 999) : mX9_isKnownOn3 (sR σ 38 i) (Int32.ofNat k) σ = some (if knB A i k then 1 else 0) := by
  obtain ⟨t, t1, t2, t3⟩ := told_b h.1 h.2.2.2.2.2.1 hi
  have f0 : sI σ (sR σ 38 i) 0 = A 106 i := h.fld (c := 4) (by decide) (h.1.le (by decide)).1 hi (by decide)
  have f1 : sI σ (sR σ 38 i) 1 = nev (A 107 i) := h.fld (c := 4) (by decide) (h.1.le (by decide)).1 hi (by decide)
  unfold mX9_isKnownOn3
  rw [f0, f1]
  exact (kn_int t1 hk t2 t3).1
theorem M_known {A : Ab} {σ : Sto} (hB : IB A) (hr : IRow A) (hm : RM A σ) {i k : Nat} (hi : i < cT 4 A) (hk : k ≤ 999) : mX12_isKnown (Int32.ofNat i) (Int32.ofNat k) σ = some (if knB A i k then 1 else 0) := by
  obtain ⟨t, t1, t2, t3⟩ := told_b hB hr hi
  have hl : cT 4 A ≤ 200 := (hB.le (c := 4) (by decide)).1
  unfold mX12_isKnown
  rw [if_pos (oI_inb (by omega) (by decide)), oI_cl (by omega), hm 106 i rfl, hm 107 i rfl]
  exact (kn_int t1 hk t2 t3).2
/-- a fact's cell in the class's books -/
theorem CB.fa {A : Ab} {σ : Sto} (h : CB A σ) {i : Nat} (hi : i < cT 4 A) : sK σ (sR σ 38 i) = 4 ∧ sI σ (sR σ 38 i) 0 = A 106 i ∧ sI σ (sR σ 38 i) 2 = A 97 i ∧ sI σ (sR σ 38 i) 3 = A 98 i ∧ sI σ (sR σ 38 i) 4 = A 99 i ∧ sI σ (sR σ 38 i) 5 = (if A 97 i = 4 then A 99 i else A 100 i) ∧ sI σ (sR σ 38 i) 6 = (if A 97 i = 1 then -1 else A 101 i) ∧ sI σ (sR σ 38 i) 7 = (if A 97 i = 0 then A 102 i else -1) ∧ sI σ (sR σ 38 i) 8 = (if A 97 i = 1 then A 104 i else 0) ∧ sI σ (sR σ 38 i) 9 = (if A 97 i = 1 then A 105 i else 1) ∧ sI σ (sR σ 38 i) 10 = (if A 97 i = 2 then A 103 i else -1) ∧ sI σ (sR σ 38 i) 11 = (if A 97 i = 2 then A 104 i else 0) ∧ sI σ (sR σ 38 i) 12 = (if A 97 i = 2 then A 105 i else 0) := by
  have hl := (h.1.le (c := 4) (by decide)).1
  have hm : cM 4 = 200 := rfl
  have F : ∀ k ∈ cF 4, sI σ (sR σ 38 i) k = fcv A i k := fun k hk => h.fld (c := 4) (by decide) hl hi hk
  exact ⟨h.kind (c := 4) (by decide) (by omega), F 0 (by decide), F 2 (by decide), F 3 (by decide), F 4 (by decide), F 5 (by decide), F 6 (by decide), F 7 (by decide), F 8 (by decide), F 9 (by decide), F 10 (by decide), F 11 (by decide), F 12 (by decide)⟩
/-- the blank fact -/
theorem CB.fn {A : Ab} {σ : Sto} (h : CB A σ) : sK σ (sR σ 38 200) = 4 ∧ sI σ (sR σ 38 200) 0 = 1000000 ∧ sI σ (sR σ 38 200) 1 = 1000000 ∧ ∀ k, 2 ≤ k → k ≤ 6 → sI σ (sR σ 38 200) k = -1 := by
  have hl := (h.1.le (c := 4) (by decide)).1
  have hm : cM 4 = 200 := rfl
  have F : ∀ k ∈ cF 4, sI σ (sR σ 38 200) k = cB 4 k := fun k hk => h.bld (c := 4) (by decide) (by omega) (by omega) hk
  refine ⟨h.kind (c := 4) (by decide) (by omega), F 0 (by decide), F 1 (by decide), fun k k1 k2 => ?_⟩
  rcases (show k = 2 ∨ k = 3 ∨ k = 4 ∨ k = 5 ∨ k = 6 by omega) with rfl | rfl | rfl | rfl | rfl
  · exact F 2 (by decide)
  · exact F 3 (by decide)
  · exact F 4 (by decide)
  · exact F 5 (by decide)
  · exact F 6 (by decide)
theorem oI_div {a b : Nat} (ha : a < 2147483648) (hb : b < 2147483648) : Int32.ofNat a / Int32.ofNat b = Int32.ofNat (a / b) := (Int32.ofNat_div (by omega) (by omega)).symm
theorem oI_mul (a b : Nat) : Int32.ofNat a * Int32.ofNat b = Int32.ofNat (a * b) := (Int32.ofNat_mul a b).symm
theorem oI_add (a b : Nat) : Int32.ofNat a + Int32.ofNat b = Int32.ofNat (a + b) := (Int32.ofNat_add a b).symm
theorem FUs : FU = 4999 + 1 := rfl
