/-! the part of a price -/
theorem i64_of {n : Nat} (hn : n < 2147483648) : (Int32.ofNat n).toInt64 = Int64.ofNat n := Int32.toInt64_ofNat' (by rw [Int32.toInt_maxValue]; omega)
theorem i64_mul (a b : Nat) : Int64.ofNat a * Int64.ofNat b = Int64.ofNat (a * b) := (Int64.ofNat_mul a b).symm
theorem i64_add (a b : Nat) : Int64.ofNat a + Int64.ofNat b = Int64.ofNat (a + b) := (Int64.ofNat_add a b).symm
theorem i64_div {a b : Nat} (ha : a < 9223372036854775808) (hb : b < 9223372036854775808) : Int64.ofNat a / Int64.ofNat b = Int64.ofNat (a / b) := (Int64.ofNat_div (by omega) (by omega)).symm
theorem i64_32 (n : Nat) : (Int64.ofNat n).toInt32 = Int32.ofNat n := Int64.toInt32_ofNat'
theorem i64_ltn {a b : Nat} (ha : a < 9223372036854775808) (hb : b < 9223372036854775808) : (Int64.ofNat a < Int64.ofNat b) ↔ a < b := Int64.ofNat_lt_iff_lt (by omega) (by omega)
/-- times and by, cut down: of plain numbers -/
theorem mulDiv {a b c : Nat} (ha : a < 2147483648) (hb : b < 2147483648) (hc : c < 2147483648) : (((Int32.ofNat a).toInt64 * (Int32.ofNat b).toInt64) / (Int32.ofNat c).toInt64).toInt32 = Int32.ofNat (a * b / c) := by
  have h : a * b < 9223372036854775808 := by
    have := Nat.mul_lt_mul'' ha hb
    omega
  rw [i64_of ha, i64_of hb, i64_of hc, i64_mul, i64_div h (by omega), i64_32]
theorem sub32 {a b : Nat} (ha : a < 2147483648) (hb : b < 2147483648) : (Int32.ofNat a - Int32.ofNat b).toInt = (a : Int) - b := by
  rw [Int32.toInt_sub, oI_toInt ha, oI_toInt hb]
  exact Int.bmod_eq_of_le_mul_two (by omega) (by omega)
theorem max0 {a b : Nat} (ha : a < 2147483648) (hb : b < 2147483648) : (if (0 : Int32) < Int32.ofNat a - Int32.ofNat b then Int32.ofNat a - Int32.ofNat b else 0) = Int32.ofNat (a - b) := by
  have z : (0 : Int32).toInt = 0 := rfl
  by_cases c : b < a
  · rw [if_pos (by rw [i32_lt, sub32 ha hb, z]; omega), oI_sub (by omega)]
  · rw [if_neg (by rw [i32_lt, sub32 ha hb, z]; omega), show a - b = 0 by omega]
    rfl
theorem min32 {a b : Nat} (ha : a < 2147483648) (hb : b < 2147483648) : (if Int32.ofNat a < Int32.ofNat b then Int32.ofNat a else Int32.ofNat b) = Int32.ofNat (min a b) := by
  by_cases c : a < b
  · rw [if_pos ((oI_lt ha hb).mpr c), Nat.min_eq_left (by omega)]
  · rw [if_neg (fun z => c ((oI_lt ha hb).mp z)), Nat.min_eq_right (by omega)]
theorem rate_ok {A : Ab} (hr : IRow A) (l d : Int32) : ∃ r, r < 100000 ∧ rateV A l d = Int32.ofNat r := by
  unfold rateV
  cases q : bestR (rtP A l d) (A 95) (cT 3 A) 0 none with
  | none => exact ⟨1000, by decide, rfl⟩
  | some y =>
    have hy := (bestR_lt (N := cT 3 A) (cT 3 A) 0 none (by omega) (fun y hy => by cases hy) y q).1
    exact (hr 3 (by decide) y hy).2.2
theorem price_ok {A : Ab} (hr : IRow A) {s : Nat} (hs : s < cT 4 A) (hk : A 97 s = 2) : ∃ p, p ≤ 1999980000 ∧ prV A s = Int32.ofNat p := by
  obtain ⟨-, -, -, -, ⟨v, v1, v2, v3⟩, -⟩ := sale_ok hr hs hk
  obtain ⟨r, r1, r2⟩ := rate_ok hr (A 103 s) (A 101 s)
  refine ⟨v * r / 1000, ?_, ?_⟩
  · have h1 : v * r ≤ 20000000 * 99999 := Nat.mul_le_mul v2 (by omega)
    omega
  · unfold prV
    rw [v3, r2]
    exact mulDiv (c := 1000) (by omega) (by omega) (by decide)
def aheadN (E : Nat → Nat) (j : Nat) : Nat := if j = 0 then 0 else E (j - 1)
set_option maxHeartbeats 1000000 in
theorem part_l {A : Ab} {i a pn rest N : Nat} {E P : Nat → Nat} {σ ρ : Sto} {mst : Int32} (hi : i ≤ 12) (hN : N ≤ 16) (hpn : pn < 2000000000) (hL : LwAt σ a) (h6 : sI σ a 6 = Int32.ofNat N) (h7 : sI σ a 7 = Int32.ofNat rest) (hrest : rest ≤ 10000) (h9 : sI σ a 9 = mst) (hmst : mst = -1 ∨ ∃ m, m < 100000000 ∧ mst = Int32.ofNat m)
    (hE : ∀ t, t < N → E t < 100000000 ∧ P t ≤ 10000 ∧ sI σ (a + 1) t = Int32.ofNat (E t) ∧ sI σ (a + 2) t = Int32.ofNat (P t) ∧ A 124 (16 * i + t) = Int32.ofNat (E t) ∧ A 125 (16 * i + t) = Int32.ofNat (P t)) (hinc : ∀ t, t + 1 < N → E t < E (t + 1))
    (hm : RM A ρ) (g79 : sI ρ 81 79 = Int32.ofNat i) (g78 : sI ρ 81 78 = Int32.ofNat pn) (g116 : A 116 i = Int32.ofNat N) (g117 : A 117 i = Int32.ofNat rest) (g119 : A 119 i = mst) :
    ∀ n j acc fuel, j + n = N → n < fuel → acc ≤ 10000 * min pn (aheadN E j) → ∃ m, m ≤ pn ∧ mX4_partOf_8 fuel a (Int32.ofNat pn) (Int64.ofNat acc) (Int32.ofNat (aheadN E j)) (Int32.ofNat j) σ = some (Int32.ofNat m) ∧ mX12_partOf_7 fuel (Int64.ofNat acc) (Int32.ofNat (aheadN E j)) (Int32.ofNat j) ρ = some (Int32.ofNat m) := by
  obtain ⟨-, hz, hk, ⟨p1, p2, p3, p4⟩, ⟨a1, b1⟩, ⟨a2, b2⟩, -⟩ := hL
  have i13 := oI_inb (j := i) (n := 13) (by omega) (by decide)
  have aN : ∀ j, j ≤ N → aheadN E j < 100000000 := fun j hj => by
    unfold aheadN
    by_cases c : j = 0
    · rw [if_pos c]; decide
    · rw [if_neg c]; exact (hE (j - 1) (by omega)).1
  intro n
  induction n with
  | zero =>
    intro j acc fuel hj hf hacc
    obtain ⟨g, rfl⟩ : ∃ g, fuel = g + 1 := ⟨fuel - 1, by omega⟩
    have ha := aN j (by omega)
    generalize aheadN E j = ah at ha hacc ⊢
    have hTle : acc + (pn - ah) * rest ≤ 10000 * pn := by
      have h1 : (pn - ah) * rest ≤ (pn - ah) * 10000 := Nat.mul_le_mul_left _ hrest
      rcases Nat.le_total pn ah with q | q
      · rw [Nat.min_eq_left q] at hacc
        have e : pn - ah = 0 := by omega
        rw [e] at h1 ⊢
        omega
      · rw [Nat.min_eq_right q] at hacc
        omega
    have hv : (acc + (pn - ah) * rest) / 10000 ≤ pn := by omega
    have e73 : mX4_partOf_73 a (Int32.ofNat pn) (Int64.ofNat acc) (Int32.ofNat ah) σ = some (if mst = -1 then Int32.ofNat ((acc + (pn - ah) * rest) / 10000) else Int32.ofNat (min mst.toNatClampNeg ((acc + (pn - ah) * rest) / 10000))) := by
      unfold mX4_partOf_73
      rw [if_pos hk, h9, h7, max0 (by omega) (by omega), i64_of (by omega), i64_of (by omega), i64_mul, i64_add, show (10000 : Int64) = Int64.ofNat 10000 from rfl, i64_div (by omega) (by decide)]
      rcases hmst with e | ⟨mm, m1, e⟩
      · rw [if_pos e, if_pos e, i64_32]
      · have ne : ¬ mst = -1 := by rw [e]; exact ne_neg1 (by omega)
        rw [if_neg ne, if_neg ne, e, i64_of (by omega), oI_cl (by omega)]
        by_cases c : mm < (acc + (pn - ah) * rest) / 10000
        · rw [if_pos ((i64_ltn (by omega) (by omega)).mpr c), i64_32, Nat.min_eq_left (by omega)]
        · rw [if_neg (fun z => c ((i64_ltn (by omega) (by omega)).mp z)), i64_32, Nat.min_eq_right (by omega)]
    have e149 : mX12_partOf_149 (Int64.ofNat (acc + (pn - ah) * rest)) ρ = some (if mst = -1 then Int32.ofNat ((acc + (pn - ah) * rest) / 10000) else Int32.ofNat (min mst.toNatClampNeg ((acc + (pn - ah) * rest) / 10000))) := by
      unfold mX12_partOf_149
      rw [g79, if_pos i13, oI_cl (by omega), hm 119 i rfl, g119, show (10000 : Int64) = Int64.ofNat 10000 from rfl, i64_div (by omega) (by decide)]
      rcases hmst with e | ⟨mm, m1, e⟩
      · rw [if_pos e, if_pos e, i64_32]
      · have ne : ¬ mst = -1 := by rw [e]; exact ne_neg1 (by omega)
        rw [if_neg ne, if_neg ne, e, i64_of (by omega), oI_cl (by omega)]
        have key : (lg_cmp (Int64.ofNat ((acc + (pn - ah) * rest) / 10000)) (Int64.ofNat mm) ≤ 0) ↔ (acc + (pn - ah) * rest) / 10000 ≤ mm := by
          rw [lg_cmp_le, ← Int64.not_lt, i64_ltn (by omega) (by omega)]
          omega
        by_cases c : (acc + (pn - ah) * rest) / 10000 ≤ mm
        · rw [if_pos (key.mpr c), i64_32, Nat.min_eq_right (by omega)]
        · rw [if_neg (fun z => c (key.mp z)), i64_32, Nat.min_eq_left (by omega)]
    refine ⟨if mst = -1 then (acc + (pn - ah) * rest) / 10000 else min mst.toNatClampNeg ((acc + (pn - ah) * rest) / 10000), ?_, ?_, ?_⟩
    · by_cases e : mst = -1
      · rw [if_pos e]; exact hv
      · rw [if_neg e]; exact Nat.le_trans (Nat.min_le_right _ _) hv
    · refine Eq.trans (b := mX4_partOf_8B (mX4_partOf_8 g) a (Int32.ofNat pn) (Int64.ofNat acc) (Int32.ofNat ah) (Int32.ofNat j) σ) rfl ?_
      unfold mX4_partOf_8B
      rw [if_pos hk, h6, if_pos ((oI_le (by omega) (by omega)).mpr (by omega)), e73]
      by_cases e : mst = -1
      · rw [if_pos e, if_pos e]
      · rw [if_neg e, if_neg e]
    · refine Eq.trans (b := mX12_partOf_7B (mX12_partOf_7 g) (Int64.ofNat acc) (Int32.ofNat ah) (Int32.ofNat j) ρ) rfl ?_
      unfold mX12_partOf_7B
      rw [g79, if_pos i13, oI_cl (by omega), hm 116 i rfl, g116, if_pos ((oI_le (by omega) (by omega)).mpr (by omega)), g78, hm 117 i rfl, g117]
      have hh : (if Int32.ofNat pn ≤ Int32.ofNat ah then mX12_partOf_149 (Int64.ofNat acc) ρ else mX12_partOf_149 (Int64.ofNat acc + (Int32.ofNat pn - Int32.ofNat ah).toInt64 * (Int32.ofNat rest).toInt64) ρ) = mX12_partOf_149 (Int64.ofNat (acc + (pn - ah) * rest)) ρ := by
        by_cases c : pn ≤ ah
        · rw [if_pos ((oI_le (by omega) (by omega)).mpr c), show pn - ah = 0 by omega, Nat.zero_mul, Nat.add_zero]
        · rw [if_neg (fun z => c ((oI_le (by omega) (by omega)).mp z)), oI_sub (by omega), i64_of (by omega), i64_of (by omega), i64_mul, i64_add]
      rw [hh, e149]
      by_cases e : mst = -1
      · rw [if_pos e, if_pos e]
      · rw [if_neg e, if_neg e]
  | succ n ih =>
    intro j acc fuel hj hf hacc
    obtain ⟨g, rfl⟩ : ∃ g, fuel = g + 1 := ⟨fuel - 1, by omega⟩
    have hj2 : j < N := by omega
    obtain ⟨q1, q2, q3, q4, q5, q6⟩ := hE j hj2
    have ha := aN j (by omega)
    have eA : aheadN E (j + 1) = E j := by unfold aheadN; rw [if_neg (by omega)]; rfl
    have hle : aheadN E j ≤ E j := by
      unfold aheadN
      by_cases c : j = 0
      · rw [if_pos c]; omega
      · rw [if_neg c]
        have := hinc (j - 1) (by omega)
        rw [show j - 1 + 1 = j by omega] at this
        omega
    have ih' := fun acc' h => ih (j + 1) acc' g (by omega) (by omega) h
    rw [eA] at ih'
    generalize aheadN E j = ah at ha hacc hle ⊢
    have bound : acc + (min (E j) pn - ah) * P j ≤ 10000 * min pn (E j) := by
      have h1 : (min (E j) pn - ah) * P j ≤ (min (E j) pn - ah) * 10000 := Nat.mul_le_mul_left _ q2
      rw [Nat.min_comm pn (E j)]
      rcases Nat.le_total pn ah with q | q
      · rw [Nat.min_eq_left q] at hacc
        have e : min (E j) pn - ah = 0 := by omega
        rw [e] at h1 ⊢
        omega
      · rw [Nat.min_eq_right q] at hacc
        omega
    have hmin : min (E j) pn < 2147483648 := by omega
    have lt16 : ¬ Int32.ofNat 16 ≤ Int32.ofNat j := fun z => absurd ((oI_le (by decide) (by omega)).mp z) (by omega)
    have ltN : ¬ Int32.ofNat N ≤ Int32.ofNat j := fun z => absurd ((oI_le (by omega) (by omega)).mp z) (by omega)
    have j16 := oI_inb (j := j) (n := 16) (by omega) (by decide)
    obtain ⟨m, m1, m2, m3⟩ := ih' _ bound
    refine ⟨m, m1, ?_, ?_⟩
    · refine Eq.trans (b := mX4_partOf_8B (mX4_partOf_8 g) a (Int32.ofNat pn) (Int64.ofNat acc) (Int32.ofNat ah) (Int32.ofNat j) σ) rfl ?_
      unfold mX4_partOf_8B
      rw [if_pos hk, h6, if_neg ltN, p1, if_pos a1, b1, if_neg lt16, if_pos j16, p2, if_pos a2, b2, if_pos j16, oI_cl (j := j) (by omega), q3, q4, min32 (by omega) (by omega), max0 hmin (by omega), i64_of (by omega), i64_of (by omega), i64_mul, i64_add, oI_s]
      exact m2
    · have e16 : (16 : Int32) * Int32.ofNat i + Int32.ofNat j = Int32.ofNat (16 * i + j) := by
        show Int32.ofNat 16 * Int32.ofNat i + Int32.ofNat j = _
        rw [oI_mul, oI_add]
      have ij := oI_inb (j := 16 * i + j) (n := 208) (by omega) (by decide)
      have e98 : ∀ acc', mX12_partOf_98 (mX12_partOf_7 g) (Int64.ofNat acc') (Int32.ofNat j) ρ = mX12_partOf_7 g (Int64.ofNat acc') (Int32.ofNat (E j)) (Int32.ofNat (j + 1)) ρ := fun acc' => by
        unfold mX12_partOf_98
        rw [g79, e16, if_pos ij, oI_cl (j := 16 * i + j) (by omega), hm 124 _ rfl, q5, oI_s]
      have e65 : mX12_partOf_65 (mX12_partOf_7 g) (Int64.ofNat acc) (Int32.ofNat ah) (Int32.ofNat j) (Int32.ofNat (min (E j) pn)) ρ = some (Int32.ofNat m) := by
        unfold mX12_partOf_65
        by_cases c : min (E j) pn ≤ ah
        · rw [if_pos ((oI_le hmin (by omega)).mpr c), e98]
          rw [show min (E j) pn - ah = 0 by omega, Nat.zero_mul, Nat.add_zero] at m3
          exact m3
        · rw [if_neg (fun z => c ((oI_le hmin (by omega)).mp z)), g79, e16, if_pos ij, oI_cl (j := 16 * i + j) (by omega), hm 125 _ rfl, q6, oI_sub (by omega), i64_of (by omega), i64_of (by omega), i64_mul, i64_add, e98]
          exact m3
      refine Eq.trans (b := mX12_partOf_7B (mX12_partOf_7 g) (Int64.ofNat acc) (Int32.ofNat ah) (Int32.ofNat j) ρ) rfl ?_
      unfold mX12_partOf_7B
      rw [g79, if_pos i13, oI_cl (j := i) (by omega), hm 116 i rfl, g116, if_neg ltN, e16, if_pos ij, g78, oI_cl (j := 16 * i + j) (by omega), hm 124 _ rfl, q5]
      by_cases c : pn ≤ E j
      · rw [if_pos ((oI_le (by omega) (by omega)).mpr c)]
        rw [Nat.min_eq_right c] at e65
        exact e65
      · rw [if_neg (fun z => c ((oI_le (by omega) (by omega)).mp z))]
        rw [Nat.min_eq_left (by omega)] at e65
        exact e65
