/-- where a category's values lie in the books -/
def cU : Nat → List Nat := fun c => match c with
  | 0 => [82, 83]
  | 1 => [84, 87, 88, 89, 90]
  | 2 => [92, 93]
  | 3 => [94, 95, 96]
  | 4 => [97, 98, 99, 100, 101, 102, 103, 104, 105, 106, 107]
  | 5 => [108, 109, 110]
  | _ => []
/-! THE BOOKS' ORDER: what is named is there, what is told keeps its bounds -/
def nLs (A : Ab) : Nat := (A 81 2).toNatClampNeg
def nTn (A : Ab) : Nat := (A 81 1).toNatClampNeg
theorem inR.mono {v : Int32} {n m : Nat} (h : inR v n) (hm : n ≤ m) : inR v m := by
  obtain ⟨j, h1, h2⟩ := h
  exact ⟨j, by omega, h2⟩
theorem inR.of {v : Int32} {n : Nat} (hn : n < 2147483648) (h0 : ¬ v < 0) (h1 : v < Int32.ofNat n) : inR v n := by
  obtain ⟨j, h2, h3⟩ := oI_of hn h0 h1
  exact ⟨j, h2, h3⟩
/-- what a fact of a kind keeps to -/
def factOK (A : Ab) (i : Nat) : Prop :=
  inR (A 99 i) (cT 0 A) ∧ inR (A 101 i) 36500 ∧ (∃ t, t ≤ nTn A ∧ A 106 i = Int32.ofNat t ∧ (A 107 i = -1 ∨ ∃ b, t ≤ b ∧ b ≤ nTn A ∧ A 107 i = Int32.ofNat b)) ∧
  ((A 97 i = 0 ∧ A 98 i = -1 ∧ A 100 i = -1 ∧ ∃ d e, d ≤ e ∧ e < 36500 ∧ A 101 i = Int32.ofNat d ∧ A 102 i = Int32.ofNat e) ∨
   (A 97 i = 1 ∧ A 98 i = -1 ∧ inR (A 100 i) (cT 0 A) ∧ A 99 i ≠ A 100 i ∧ ∃ p q, 1 ≤ p ∧ p ≤ q ∧ q ≤ 12 ∧ A 104 i = Int32.ofNat p ∧ A 105 i = Int32.ofNat q) ∨
   (A 97 i = 2 ∧ inR (A 98 i) (cT 1 A) ∧ inR (A 100 i) (cT 0 A) ∧ inR (A 103 i) (nLs A) ∧ (∃ v, 1 ≤ v ∧ v ≤ 20000000 ∧ A 104 i = Int32.ofNat v) ∧ inR (A 105 i) 4) ∨
   (A 97 i = 3 ∧ inR (A 98 i) (cT 1 A) ∧ inR (A 100 i) (cT 0 A)) ∨
   (A 97 i = 4 ∧ inR (A 98 i) (cT 1 A)) ∨
   (A 97 i = 5 ∧ A 98 i = -1 ∧ inR (A 100 i) (cT 2 A)))
def workOK (A : Ab) (i : Nat) : Prop :=
  ∃ m, 1 ≤ m ∧ m ≤ 3 ∧ A 84 i = Int32.ofNat m ∧ (∀ j, j < m → inR (A 85 (3 * i + j)) (cT 0 A) ∧ ∃ w, 1 ≤ w ∧ w ≤ 9 ∧ A 86 (3 * i + j) = Int32.ofNat w) ∧ (∀ j, j < m → ∀ j', j' < m → A 85 (3 * i + j) = A 85 (3 * i + j') → j = j')
def rowOK (c : Nat) (A : Ab) (i : Nat) : Prop := match c with
  | 0 => inR (A 82 i) (nLs A) ∧ inR (A 83 i) 3
  | 1 => workOK A i
  | 2 => inR (A 92 i) (nLs A) ∧ inR (A 93 i) 301
  | 3 => inR (A 94 i) (nLs A) ∧ inR (A 95 i) 36500 ∧ inR (A 96 i) 100000
  | 4 => factOK A i
  | 5 => inR (A 108 i) (cT 0 A) ∧ (∃ s, s < cT 4 A ∧ A 109 i = Int32.ofNat s ∧ A 97 s = 2) ∧ inR (A 110 i) (nTn A + 1)
  | _ => True
def IRow (A : Ab) : Prop := ∀ c, c < 7 → ∀ i, i < cT c A → rowOK c A i
/-- the numbers grow -/
def Grow (A A' : Ab) : Prop := nLs A ≤ nLs A' ∧ nTn A ≤ nTn A' ∧ cT 0 A ≤ cT 0 A' ∧ cT 1 A ≤ cT 1 A' ∧ cT 2 A ≤ cT 2 A' ∧ cT 4 A ≤ cT 4 A'
theorem factOK.mono {A A' : Ab} {i : Nat} (h : factOK A i) (hg : Grow A A') (hr : ∀ a ∈ cU 4, A' a i = A a i) : factOK A' i := by
  obtain ⟨g1, g2, g3, g4, g5, g6⟩ := hg
  have e97 := hr 97 (by decide)
  have e98 := hr 98 (by decide)
  have e99 := hr 99 (by decide)
  have e100 := hr 100 (by decide)
  have e101 := hr 101 (by decide)
  have e102 := hr 102 (by decide)
  have e103 := hr 103 (by decide)
  have e104 := hr 104 (by decide)
  have e105 := hr 105 (by decide)
  have e106 := hr 106 (by decide)
  have e107 := hr 107 (by decide)
  unfold factOK at h ⊢
  rw [e97, e98, e99, e100, e101, e102, e103, e104, e105, e106, e107]
  obtain ⟨h1, h2, ⟨t, t1, t2, t3⟩, h4⟩ := h
  refine ⟨h1.mono g3, h2, ⟨t, by omega, t2, t3.imp id fun ⟨b, b1, b2, b3⟩ => ⟨b, b1, by omega, b3⟩⟩, ?_⟩
  rcases h4 with h | ⟨k, a, b, d⟩ | ⟨k, a, b, d, e⟩ | ⟨k, a, b⟩ | ⟨k, a⟩ | ⟨k, a, b⟩
  · exact Or.inl h
  · exact Or.inr (Or.inl ⟨k, a, b.mono g3, d⟩)
  · exact Or.inr (Or.inr (Or.inl ⟨k, a.mono g4, b.mono g3, d.mono g1, e⟩))
  · exact Or.inr (Or.inr (Or.inr (Or.inl ⟨k, a.mono g4, b.mono g3⟩)))
  · exact Or.inr (Or.inr (Or.inr (Or.inr (Or.inl ⟨k, a.mono g4⟩))))
  · exact Or.inr (Or.inr (Or.inr (Or.inr (Or.inr ⟨k, a, b.mono g5⟩))))
theorem rowOK.mono {A A' : Ab} {c i : Nat} (hc : c < 7) (h : rowOK c A i) (hg : Grow A A') (hr : ∀ a ∈ cU c, A' a i = A a i) (hw : c = 1 → ∀ j, j < 3 → A' 85 (3 * i + j) = A 85 (3 * i + j) ∧ A' 86 (3 * i + j) = A 86 (3 * i + j)) (hk : c = 5 → ∀ s, s < cT 4 A → A' 97 s = A 97 s) : rowOK c A' i := by
  obtain ⟨g1, g2, g3, g4, g5, g6⟩ := id hg
  rcases (show c = 0 ∨ c = 1 ∨ c = 2 ∨ c = 3 ∨ c = 4 ∨ c = 5 ∨ c = 6 by omega) with rfl | rfl | rfl | rfl | rfl | rfl | rfl
  · refine ⟨?_, ?_⟩
    · rw [hr 82 (by decide)]; exact h.1.mono g1
    · rw [hr 83 (by decide)]; exact h.2
  · obtain ⟨m, m1, m2, m3, m4, m5⟩ := h
    refine ⟨m, m1, m2, by rw [hr 84 (by decide)]; exact m3, fun j hj => ?_, fun j hj j' hj' e => ?_⟩
    · obtain ⟨w1, w2⟩ := hw rfl j (by omega)
      rw [w1, w2]
      exact ⟨(m4 j hj).1.mono g3, (m4 j hj).2⟩
    · rw [(hw rfl j (by omega)).1, (hw rfl j' (by omega)).1] at e
      exact m5 j hj j' hj' e
  · refine ⟨?_, ?_⟩
    · rw [hr 92 (by decide)]; exact h.1.mono g1
    · rw [hr 93 (by decide)]; exact h.2
  · refine ⟨?_, ?_, ?_⟩
    · rw [hr 94 (by decide)]; exact h.1.mono g1
    · rw [hr 95 (by decide)]; exact h.2.1
    · rw [hr 96 (by decide)]; exact h.2.2
  · exact factOK.mono h hg hr
  · obtain ⟨h1, ⟨s, s1, s2, s3⟩, h3⟩ := h
    refine ⟨?_, ⟨s, by omega, ?_, ?_⟩, ?_⟩
    · rw [hr 108 (by decide)]; exact h1.mono g3
    · rw [hr 109 (by decide)]; exact s2
    · rw [hk rfl s s1]; exact s3
    · rw [hr 110 (by decide)]; exact h3.mono (by omega)
  · trivial
theorem inR.le {v : Int32} {m : Nat} (hm : m < 2147483647) (h0 : ¬ v < 0) (h1 : ¬ Int32.ofNat m < v) : inR v (m + 1) := by
  refine inR.of (by omega) h0 ?_
  have h2 := nlt.mp h1
  rw [Int32.le_iff_toInt_le, oI_toInt (by omega)] at h2
  rw [Int32.lt_iff_toInt_lt, oI_toInt (by omega)]
  omega
/-- one row more -/
theorem IRow.tell {A A' : Ab} {c n : Nat} (h : IRow A) (hg : Grow A A') (hn : cT c A = n) (hn' : cT c A' = n + 1) (hoth : ∀ c', c' < 7 → c' ≠ c → cT c' A' = cT c' A)
    (hV : ∀ c', c' < 7 → ∀ i, ¬ (c' = c ∧ i = n) → ∀ a ∈ cU c', A' a i = A a i) (hw : ∀ i, i < cT 1 A → ∀ j, j < 3 → A' 85 (3 * i + j) = A 85 (3 * i + j) ∧ A' 86 (3 * i + j) = A 86 (3 * i + j)) (hnew : rowOK c A' n) : IRow A' := fun c' hc' i hi => by
  by_cases e : c' = c ∧ i = n
  · obtain ⟨rfl, rfl⟩ := e
    exact hnew
  · have hi2 : i < cT c' A := by
      by_cases e2 : c' = c
      · subst e2
        have : i ≠ n := fun q => e ⟨rfl, q⟩
        omega
      · rw [← hoth c' hc' e2]; exact hi
    refine rowOK.mono hc' (h c' hc' i hi2) hg (hV c' hc' i e) (fun q => by subst q; exact hw i hi2) (fun _ s hs => ?_)
    by_cases e3 : 4 = c ∧ s = n
    · obtain ⟨rfl, rfl⟩ := e3
      omega
    · exact hV 4 (by decide) s e3 97 (by decide)
theorem IRow.num {A A' : Ab} (h : IRow A) (hg : Grow A A') (hT : ∀ c, c < 7 → cT c A' = cT c A) (hV : ∀ a i, 82 ≤ a → A' a i = A a i) : IRow A' := fun c hc i hi => by
  rw [hT c hc] at hi
  refine rowOK.mono hc (h c hc i hi) hg (fun a ha => hV a i ?_) (fun _ j _ => ⟨hV _ _ (by decide), hV _ _ (by decide)⟩) (fun _ s _ => hV _ _ (by decide))
  rcases (show c = 0 ∨ c = 1 ∨ c = 2 ∨ c = 3 ∨ c = 4 ∨ c = 5 ∨ c = 6 by omega) with rfl | rfl | rfl | rfl | rfl | rfl | rfl <;> simp only [cU, List.mem_cons, List.not_mem_nil, or_false] at ha <;> omega
