/-! whether a sale counts -/
def S13 (b _j : Nat) : Prop := b = 133 ∨ b = 134
theorem S13_pr : ∀ b j, S13 b j → pr b j = false := fun b j h => by
  rcases h with rfl | rfl <;> (unfold pr; rfl)
/-- the reference knows what it looked for -/
def LM (A : Ab) (s w k : Nat) (ρ : Sto) : Prop := sI ρ 81 78 = prV A s ∧ sI ρ 81 80 = hdV A s k ∧ sI ρ 81 81 = frV A s w k ∧ sI ρ 81 82 = agV A s k
def valS (A : Ab) (s w a b k : Nat) (ρ : Sto) : Sto := wI (wI (wI (wI (wI (wI (wI (wI (wI (wI ρ 133 0 (prV A s)) 133 1 (A 83 a)) 133 2 (A 83 b)) 133 3 (A 105 s)) 133 4 (ownV A s w)) 133 5 (hdV A s k)) 133 6 (frV A s w k)) 133 7 (agV A s k)) 133 8 (A 84 w)) 133 9 (A 87 w)
theorem valS_ok {A : Ab} {s w a b k : Nat} {ρ : Sto} : Ex S13 ρ (valS A s w a b k ρ) ∧ ∀ j, j < 10 → sI (valS A s w a b k ρ) 133 j = valV A s w a b k j := by
  refine ⟨(((((((((Ex.rf.w _ (Or.inl rfl)).w _ (Or.inl rfl)).w _ (Or.inl rfl)).w _ (Or.inl rfl)).w _ (Or.inl rfl)).w _ (Or.inl rfl)).w _ (Or.inl rfl)).w _ (Or.inl rfl)).w _ (Or.inl rfl)).w _ (Or.inl rfl), fun j hj => ?_⟩
  unfold valS
  simp only [sI_wI, true_and]
  rcases (show j = 0 ∨ j = 1 ∨ j = 2 ∨ j = 3 ∨ j = 4 ∨ j = 5 ∨ j = 6 ∨ j = 7 ∨ j = 8 ∨ j = 9 by omega) with rfl | rfl | rfl | rfl | rfl | rfl | rfl | rfl | rfl | rfl <;> rfl
theorem M_vals {A : Ab} (hB : IB A) {s w a b k i : Nat} (hi : i ≤ 12) (hS : SL A s w a b) {ρ : Sto} (hm : RM A ρ) (hL : LM A s w k ρ) (g79 : sI ρ 81 79 = Int32.ofNat i) : mX12_isCounting_138 (Int32.ofNat w) 4 (ownV A s w) (wI (wI (wI (wI ρ 133 0 (prV A s)) 133 1 (A 83 a)) 133 2 (A 83 b)) 133 3 (A 105 s)) = bd2 (mX12_worth (A 123 i) (valS A s w a b k ρ)) fun v23 σ23 => if v23 = 0 then some (0, σ23) else some (1, σ23) := by
  obtain ⟨hs, hks, hw, hws, ha, has, hb, hbs⟩ := hS
  have hlw : cT 1 A ≤ 30 := (hB.le (c := 1) (by decide)).1
  obtain ⟨l1, l2, l3, l4⟩ := hL
  unfold mX12_isCounting_138
  rw [if_pos (by decide)]
  simp only [stp]
  rw [if_pos (oI_inb (j := w) (n := 30) (by omega) (by decide))]
  rw [show ((4 : Int32)).toNatClampNeg = 4 from rfl, show ((5 : Int32)).toNatClampNeg = 5 from rfl, show ((6 : Int32)).toNatClampNeg = 6 from rfl, show ((7 : Int32)).toNatClampNeg = 7 from rfl, show ((8 : Int32)).toNatClampNeg = 8 from rfl, show ((9 : Int32)).toNatClampNeg = 9 from rfl]
  have c84 := hm 84 w rfl
  have c87 := hm 87 w rfl
  have c123 := hm 123 i rfl
  simp only [oI_cl (show w < 2147483648 by omega), sI_wI, l2, l3, l4, c84, c87, g79, Nat.reduceEqDiff, false_and, if_false]
  rw [if_pos (oI_inb (j := i) (n := 13) (by omega) (by decide)), oI_cl (j := i) (by omega), c123]
  rfl
set_option maxHeartbeats 2000000 in
theorem count_eq {A : Ab} {s w a b k i c : Nat} (hi : i ≤ 12) (hS : SL A s w a b) {σ ρ : Sto} (h : CB A σ) (hK : LK A s w a b k σ) (hL : LwAt σ c) (hC : LawC A σ i c) (h56 : 56 < c ∨ c + 4 < 56) (hm : RM A ρ) (hM : LM A s w k ρ) (g79 : sI ρ 81 79 = Int32.ofNat i) :
    ∃ y σ1 ρ1, (y = 0 ∨ y = 1) ∧ mX0_apply c σ = mX0_apply_58 c y σ1 ∧ mX12_isCounting (Int32.ofNat s) ρ = some (y, ρ1) ∧ Ex (fun b _ => b = c + 4) σ σ1 ∧ Ex S13 ρ ρ1 := by
  obtain ⟨hs, hks, hw, hws, ha, has, hb, hbs⟩ := id hS
  have hr := h.2.2.2.2.2.1
  have hl4 : cT 4 A ≤ 200 := (h.1.le (c := 4) (by decide)).1
  have hlp : cT 0 A ≤ 30 := (h.1.le (c := 0) (by decide)).1
  obtain ⟨K5, K6, K7, K8, K9, K56⟩ := hK
  obtain ⟨l1, l2, l3, l4⟩ := id hM
  obtain ⟨⟨C2, C3, C7, C8, C9, C10, C11, C12⟩, ⟨D2, D3, D7, D8, D9, D10, D11⟩, -, ⟨n, n1, n2, n3⟩⟩ := hC
  obtain ⟨pn, pn1, pn2⟩ := price_ok hr hs hks
  obtain ⟨lst, ls1, ls2⟩ := D8
  have hk := hL.2.2.1
  have not57 : mX0_apply_57 c σ = mX0_apply_58 c 0 σ := rfl
  have ne2 : ¬ sI σ c 2 = -1 := by
    rw [C2]
    obtain ⟨j, j1, j2⟩ := D2
    have := (h.1.ln).1
    rw [j2]; exact ne_neg1 (by omega)
  have i13 := oI_inb (j := i) (n := 13) (by omega) (by decide)
  have s200 := oI_inb (j := s) (n := 200) (by omega) (by decide)
  obtain ⟨k0, f0, f2, f3, f4, -⟩ := h.fa hs
  obtain ⟨kw, -⟩ := h.wa hw
  have by1 := C_isBy h hw (A 99 s)
  have by2 := M_isBy h.1 hr hm hw (A 99 s)
  have eC0 : mX0_apply c σ = if sI σ 53 7 < sI σ c 8 then mX0_apply_57 c σ else if byR A w (A 99 s) (aM A w) 0 = true then mX0_apply_47 c c 0 σ else mX0_apply_47 c c 1 σ := by
    unfold mX0_apply
    rw [if_pos hk, if_neg ne2]
    by_cases q : sI σ 53 7 < sI σ c 8
    · rw [if_pos q, if_pos q]
    · rw [if_neg q, if_neg q, K5, if_pos k0, K6, if_pos kw, f4, by1, bnd_some]
      cases q2 : byR A w (A 99 s) (aM A w) 0 with
      | true => rw [if_neg (show ¬ (if true = true then (1 : Int32) else 0) = 0 from i10), if_pos rfl]
      | false => rw [if_pos (show (if false = true then (1 : Int32) else 0) = 0 from rfl), if_neg (by decide)]
  have le8 : (sI σ 53 7 < sI σ c 8) ↔ pn < lst := by rw [K7, C8, pn2, ls2]; exact oI_lt (by omega) (by omega)
  have le8m : (A 118 i ≤ prV A s) ↔ lst ≤ pn := by rw [pn2, ls2]; exact oI_le (by omega) (by omega)
  have eM0 : mX12_isCounting (Int32.ofNat s) ρ = if lst ≤ pn then (if A 123 i = -1 then (if byR A w (A 99 s) (aM A w) 0 = true then some (0, ρ) else some (1, ρ)) else bd2 (mX12_worth (A 123 i) (valS A s w a b k ρ)) fun v23 σ23 => if v23 = 0 then some (0, σ23) else some (1, σ23)) else some (0, ρ) := by
    unfold mX12_isCounting
    rw [g79, if_neg (ne_neg1 (by omega)), if_pos i13, oI_cl (j := i) (by omega), hm 118 i rfl, l1]
    by_cases q : lst ≤ pn
    · rw [if_pos (le8m.mpr q), if_pos q, if_pos s200, oI_cl (j := s) (by omega), hm 98 s rfl, hm 99 s rfl, hws, by2, bnd_some, hm 123 i rfl]
      by_cases q3 : A 123 i = -1
      · rw [if_pos q3, if_pos q3]
        cases q2 : byR A w (A 99 s) (aM A w) 0 with
        | true => rw [if_neg (show ¬ (if true = true then (1 : Int32) else 0) = 0 from i10), if_pos rfl]
        | false => rw [if_pos (show (if false = true then (1 : Int32) else 0) = 0 from rfl), if_neg (by decide)]
      · rw [if_neg q3, if_neg q3]
        simp only [stp]
        rw [show ((0 : Int32)).toNatClampNeg = 0 from rfl, show ((1 : Int32)).toNatClampNeg = 1 from rfl, show ((2 : Int32)).toNatClampNeg = 2 from rfl, show ((3 : Int32)).toNatClampNeg = 3 from rfl]
        have mv := M_vals h.1 hi hS hm hM g79
        have c99 := hm 99 s rfl
        have c100 := hm 100 s rfl
        have c105 := hm 105 s rfl
        have c83a := hm 83 a rfl
        have c83b := hm 83 b rfl
        simp only [sI_wI, c99, c100, c105, has, hbs, oI_cl (show a < 2147483648 by omega), oI_cl (show b < 2147483648 by omega), c83a, c83b, Nat.reduceEqDiff, false_and, if_false]
        rw [if_pos (oI_inb (j := a) (n := 30) (by omega) (by decide)), if_pos (oI_inb (j := b) (n := 30) (by omega) (by decide))]
        rw [← mv]
        unfold ownV
        rw [has]
        cases q2 : byR A w (Int32.ofNat a) (aM A w) 0 with
        | true => rw [if_neg (show ¬ (if true = true then (1 : Int32) else 0) = 0 from i10)]; rfl
        | false => rw [if_pos (show (if false = true then (1 : Int32) else 0) = 0 from rfl)]; rfl
    · rw [if_neg (fun z => q (le8m.mp z)), if_neg q]
  rw [eC0, eM0]
  by_cases q : pn < lst
  · rw [if_pos (le8.mpr q), if_neg (by omega)]
    exact ⟨0, σ, ρ, Or.inl rfl, not57, rfl, Ex.rf, Ex.rf⟩
  · rw [if_neg (fun z => q (le8.mp z)), if_pos (show lst ≤ pn by omega)]
    rcases n3 with ⟨n3, n4⟩ | ⟨n3, qq, q1, q2, q3⟩
    · -- without a due
      rw [if_pos n4]
      have e0 : sI σ c 14 = 0 := by rw [n2, n3]; rfl
      have e47 : ∀ y : Int32, isB y → mX0_apply_47 c c y σ = if y = 0 then mX0_apply_57 c σ else mX0_apply_58 c 1 σ := fun y hy => by
        unfold mX0_apply_47 mX4_isDue
        rw [if_pos hk, if_pos e0, if_pos hy]
        rfl
      cases qb : byR A w (A 99 s) (aM A w) 0 with
      | true =>
        rw [if_pos rfl, if_pos rfl, e47 0 (by unfold isB; decide), if_pos rfl]
        exact ⟨0, σ, ρ, Or.inl rfl, not57, rfl, Ex.rf, Ex.rf⟩
      | false =>
        rw [if_neg (by decide), if_neg (by decide), e47 1 (by unfold isB; decide), if_neg i10]
        exact ⟨1, σ, ρ, Or.inr rfl, rfl, rfl, Ex.rf, Ex.rf⟩
    · have ne : ¬ A 123 i = -1 := by rw [q2]; exact ne_neg1 (by omega)
      rw [if_neg ne, q2]
      have e0 : ¬ sI σ c 14 = 0 := by
        rw [n2]
        exact fun z => absurd ((oI_eq (n := 0) (by omega) (by decide)).mp z) (by omega)
      have e47 : ∀ y : Int32, mX0_apply_47 c c y σ = bd2 (bd2 (mX4_worth c 56 σ) fun v2 σ2 => if v2 = 0 then some ((0 : Int32), σ2) else some (1, σ2)) fun v30 σ30 => if v30 = 0 then mX0_apply_57 c σ30 else mX0_apply_58 c 1 σ30 := fun y => by
        unfold mX0_apply_47 mX4_isDue
        rw [if_pos hk, if_neg e0]
      have st56 := h.2.2.2.2.1 (56, 100, 10) (by decide +kernel)
      obtain ⟨vS1, vS2⟩ := valS_ok (A := A) (s := s) (w := w) (a := a) (b := b) (k := k) (ρ := ρ)
      obtain ⟨v, σ1, ρ1, g1, g2, g3, g4⟩ := worth_l (A := A) (a := c) (hi := 1210 * (i + 1)) (by omega) (val := valV A s w a b k) (f := fun j => sI σ (c + 3) j) (N := n) n1 n 0 qq 0 FU σ (valS A s w a b k ρ) (by omega) (show n < 5000 by omega) hL (fun t _ => rfl) n2 st56.1 st56.2 K56 (vS1.rm hm S13_pr) vS2 (fun t ht => by omega) (by decide) h56 q3
      have gC : mX4_worth c 56 σ = some (v, σ1) := g1
      have gM : mX12_worth (Int32.ofNat qq) (valS A s w a b k ρ) = some (v, ρ1) := g2
      have eEx : Ex S13 ρ ρ1 := vS1.tr (g4.mono (fun b _ z => Or.inr z))
      have e47' : ∀ y : Int32, mX0_apply_47 c c y σ = if v = 0 then mX0_apply_57 c σ1 else mX0_apply_58 c 1 σ1 := fun y => by
        rw [e47, gC]
        by_cases q : v = 0
        · rw [bd2_some, if_pos q, bd2_some, if_pos rfl, if_pos q]
        · rw [bd2_some, if_neg q, bd2_some, if_neg i10, if_neg q]
      rw [gM, bd2_some, e47' 0, e47' 1, ite_self]
      by_cases q : v = 0
      · rw [if_pos q, if_pos q]
        exact ⟨0, σ1, ρ1, Or.inl rfl, rfl, rfl, g3, eEx⟩
      · rw [if_neg q, if_neg q]
        exact ⟨1, σ1, ρ1, Or.inr rfl, rfl, rfl, g3, eEx⟩
