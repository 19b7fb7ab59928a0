/-! a law's last due, reckoned by both -/
theorem join_eq {o : Int32 × Int32} (ho : o ∈ opT) (x y : Int32) (σ ρ : Sto) : ∃ v, mX4_join o.1 x y σ = some v ∧ mX12_works o.2 x y ρ = some v := by
  simp only [opT, List.mem_cons, List.not_mem_nil, or_false] at ho
  have t1 : mX4_truth 1 σ = 1 := by unfold mX4_truth; rw [if_neg i10]
  have t0 : mX4_truth 0 σ = 0 := by unfold mX4_truth; rw [if_pos rfl]
  rcases ho with rfl | rfl | rfl | rfl | rfl | rfl | rfl | rfl
  · -- or
    unfold mX4_join mX12_works mX4_join_61
    simp only [show ¬ (-11 : Int32) = -18 by decide, show ¬ (-11 : Int32) = -17 by decide, show ¬ (-11 : Int32) = -16 by decide, show ¬ (-11 : Int32) = -15 by decide, show ¬ (-11 : Int32) = -14 by decide, show ¬ (-11 : Int32) = -13 by decide, show ¬ (-11 : Int32) = -12 by decide, show ¬ (5 : Int32) = 4 by decide, if_false, if_true, t1, t0]
    by_cases c1 : x = 0
    · by_cases c2 : y = 0
      · exact ⟨0, by rw [if_pos c1, if_pos c2], by rw [if_pos c1, if_pos c2]⟩
      · exact ⟨1, by rw [if_pos c1, if_neg c2], by rw [if_pos c1, if_neg c2]⟩
    · exact ⟨1, by rw [if_neg c1], by rw [if_neg c1]⟩
  · -- and
    unfold mX4_join mX12_works mX4_join_77 mX4_join_78
    simp only [show ¬ (-12 : Int32) = -18 by decide, show ¬ (-12 : Int32) = -17 by decide, show ¬ (-12 : Int32) = -16 by decide, show ¬ (-12 : Int32) = -15 by decide, show ¬ (-12 : Int32) = -14 by decide, show ¬ (-12 : Int32) = -13 by decide, if_false, if_true, t1, t0]
    by_cases c1 : x = 0
    · exact ⟨0, by rw [if_pos c1], by rw [if_pos c1]⟩
    · by_cases c2 : y = 0
      · exact ⟨0, by rw [if_neg c1, if_pos c2], by rw [if_neg c1, if_pos c2]⟩
      · exact ⟨1, by rw [if_neg c1, if_neg c2], by rw [if_neg c1, if_neg c2]⟩
  · -- less
    unfold mX4_join mX12_works mX4_join_92
    simp only [show ¬ (-14 : Int32) = -18 by decide, show ¬ (-14 : Int32) = -17 by decide, show ¬ (-14 : Int32) = -16 by decide, show ¬ (-14 : Int32) = -15 by decide, show ¬ (6 : Int32) = 4 by decide, show ¬ (6 : Int32) = 5 by decide, if_false, if_true, t1, t0]
    by_cases c1 : y ≤ x
    · exact ⟨0, by rw [if_pos c1], by rw [if_pos c1]⟩
    · exact ⟨1, by rw [if_neg c1], by rw [if_neg c1]⟩
  · -- like
    unfold mX4_join mX12_works mX4_join_106
    simp only [show ¬ (-15 : Int32) = -18 by decide, show ¬ (-15 : Int32) = -17 by decide, show ¬ (-15 : Int32) = -16 by decide, show ¬ (7 : Int32) = 4 by decide, show ¬ (7 : Int32) = 5 by decide, show ¬ (7 : Int32) = 6 by decide, if_false, if_true, t1, t0]
    by_cases c1 : x = y
    · exact ⟨1, by rw [if_pos c1], by rw [if_pos c1]⟩
    · exact ⟨0, by rw [if_neg c1], by rw [if_neg c1]⟩
  · exact ⟨x + y, rfl, rfl⟩
  · exact ⟨x - y, rfl, rfl⟩
  · exact ⟨x * y, rfl, rfl⟩
  · unfold mX4_join mX12_works mX4_join_122
    simp only [show ¬ (-19 : Int32) = -18 by decide, show ¬ (-19 : Int32) = -17 by decide, show ¬ (-19 : Int32) = -16 by decide, show ¬ (-19 : Int32) = -15 by decide, show ¬ (-19 : Int32) = -14 by decide, show ¬ (-19 : Int32) = -13 by decide, show ¬ (-19 : Int32) = -12 by decide, show ¬ (-19 : Int32) = -11 by decide, show ¬ (11 : Int32) = 4 by decide, show ¬ (11 : Int32) = 5 by decide, show ¬ (11 : Int32) = 6 by decide, show ¬ (11 : Int32) = 7 by decide, show ¬ (11 : Int32) = 8 by decide, show ¬ (11 : Int32) = 9 by decide, show ¬ (11 : Int32) = 10 by decide, if_false]
    by_cases c1 : y = 0
    · exact ⟨0, by rw [if_pos c1], by rw [if_pos c1]⟩
    · exact ⟨x / y, by rw [if_neg c1, if_pos c1], by rw [if_neg c1, if_pos c1]⟩
theorem opT_lt {o : Int32 × Int32} (ho : o ∈ opT) : o.1 ≤ -11 ∧ ¬ o.1 = -13 ∧ ¬ o.2 = 0 ∧ ¬ o.2 = 1 ∧ ¬ o.2 = 2 ∧ ¬ o.2 = 3 := by
  have key : ∀ o ∈ opT, o.1 ≤ -11 ∧ ¬ o.1 = -13 ∧ ¬ o.2 = 0 ∧ ¬ o.2 = 1 ∧ ¬ o.2 = 2 ∧ ¬ o.2 = 3 := by decide +kernel
  exact key o ho
theorem dep_m1 {n : Nat} : Int32.ofNat (n + 1) + -1 = Int32.ofNat n := by rw [← Int32.sub_eq_add_neg, oI_p]
theorem val_neg {v : Nat} (hv : v < 10) : ¬ (-1 - Int32.ofNat v) ≤ -11 ∧ (-1 - Int32.ofNat v) < 0 ∧ -1 - (-1 - Int32.ofNat v) = Int32.ofNat v := by
  have key : ∀ v, v < 10 → ¬ (-1 - Int32.ofNat v) ≤ -11 ∧ (-1 - Int32.ofNat v) < 0 ∧ -1 - (-1 - Int32.ofNat v) = Int32.ofNat v := by decide +kernel
  exact key v hv
set_option maxHeartbeats 2000000 in
theorem worth_l {A : Ab} {a hi : Nat} (hhi : hi ≤ 15800) {val : Nat → Int32} {f : Nat → Int32} {N : Nat} (hN : N ≤ 500) : ∀ n j q dep fuel σ ρ, j + n = N → n < fuel → LwAt σ a → (∀ t, t < N → sI σ (a + 3) t = f t) → sI σ a 14 = Int32.ofNat N → sK σ 56 = 100 → sN σ 56 = 10 → (∀ v, v < 10 → sI σ 56 v = val v) → RM A ρ → (∀ v, v < 10 → sI ρ 133 v = val v) → (∀ t, t < dep → sI σ (a + 4) t = sI ρ 134 t) → dep ≤ 64 → 56 < a ∨ a + 4 < 56 → CodeR f (fun x => A 126 x) hi n j q dep →
    ∃ v σ' ρ', mX4_worth_4 fuel a 56 (Int32.ofNat dep) (Int32.ofNat j) σ = some (v, σ') ∧ mX12_worth_4 fuel (Int32.ofNat dep) (Int32.ofNat q) ρ = some (v, ρ') ∧ Ex (fun b _ => b = a + 4) σ σ' ∧ Ex (fun b _ => b = 134) ρ ρ' := by
  intro n
  induction n with
  | zero =>
    intro j q dep fuel σ ρ hj hf hL hdue h14 k56 n56 hv hm hmv hst hd h56 hc
    obtain ⟨g, rfl⟩ : ∃ g, fuel = g + 1 := ⟨fuel - 1, by omega⟩
    obtain ⟨c1, c2, c3⟩ := hc
    obtain ⟨-, hz, hk, ⟨p1, p2, p3, p4⟩, ⟨a1, b1⟩, ⟨a2, b2⟩, ⟨a3, b3⟩, a4, b4⟩ := hL
    refine ⟨sI ρ 134 0, σ, ρ, ?_, ?_, Ex.rf, Ex.rf⟩
    · show mX4_worth_4B (mX4_worth_4 g) _ _ _ _ σ = _
      unfold mX4_worth_4B
      rw [if_pos hk, h14, if_pos ((oI_le (by omega) (by omega)).mpr (by omega)), p4, if_pos a4, b4, if_pos (by decide)]
      rw [show ((0 : Int32)).toNatClampNeg = 0 from rfl, hst 0 (by omega)]
    · show mX12_worth_4B (mX12_worth_4 g) _ _ ρ = _
      unfold mX12_worth_4B
      rw [if_pos (oI_inb (j := q) (n := 15800) (by omega) (by decide)), oI_cl (j := q) (by omega), hm 126 q rfl, if_pos c2]
      rfl
  | succ n ih =>
    intro j q dep fuel σ ρ hj hf hL hdue h14 k56 n56 hv hm hmv hst hd h56 hc
    obtain ⟨g, rfl⟩ : ∃ g, fuel = g + 1 := ⟨fuel - 1, by omega⟩
    obtain ⟨-, hz, hk, ⟨p1, p2, p3, p4⟩, ⟨a1, b1⟩, ⟨a2, b2⟩, ⟨a3, b3⟩, a4, b4⟩ := id hL
    obtain ⟨c1, c2, c3⟩ := hc
    have ltN : ¬ Int32.ofNat N ≤ Int32.ofNat j := fun z => absurd ((oI_le (by omega) (by omega)).mp z) (by omega)
    have lt5 : ¬ Int32.ofNat 500 ≤ Int32.ofNat j := fun z => absurd ((oI_le (by decide) (by omega)).mp z) (by omega)
    have fj := hdue j (by omega)
    have q158 := oI_inb (j := q) (n := 15800) (by omega) (by decide)
    have q158' := oI_inb (j := q + 1) (n := 15800) (by omega) (by decide)
    -- one step of the class down to what it reads
    have stepC : ∀ v, f j = v → mX4_worth_4 (g + 1) a 56 (Int32.ofNat dep) (Int32.ofNat j) σ = if v ≤ -11 then mX4_worth_63 (mX4_worth_4 g) a 56 (Int32.ofNat dep) (Int32.ofNat j) v σ else if Int32.ofNat 64 ≤ Int32.ofNat dep then mX4_worth_63 (mX4_worth_4 g) a 56 (Int32.ofNat dep) (Int32.ofNat j) v σ else (mX4_operand v 56 σ).bind fun v35 => if inb (Int32.ofNat dep) 64 then (mX4_worth_4 g a 56 (Int32.ofNat (dep + 1)) (Int32.ofNat (j + 1)) (wI σ (a + 4) (Int32.ofNat dep).toNatClampNeg v35)) else none := fun v hfv => by
      refine Eq.trans (b := mX4_worth_4B (mX4_worth_4 g) a 56 (Int32.ofNat dep) (Int32.ofNat j) σ) rfl ?_
      unfold mX4_worth_4B
      rw [if_pos hk, h14, if_neg ltN, p3, if_pos a3, b3, if_neg lt5, if_pos (oI_inb (j := j) (n := 500) (by omega) (by decide)), oI_cl (j := j) (by omega), fj, hfv, p4, if_pos a4, b4, oI_s, oI_s]
    -- what goes on behind a write on both piles
    have go : ∀ (t : Nat) (x : Int32) (dep' j' q' : Nat), j' + n = N → t < 64 → dep' ≤ 64 → (∀ u, u < dep' → u ≠ t → u < dep) → CodeR f (fun x => A 126 x) hi n j' q' dep' → ∃ v σ' ρ', mX4_worth_4 g a 56 (Int32.ofNat dep') (Int32.ofNat j') (wI σ (a + 4) t x) = some (v, σ') ∧ mX12_worth_4 g (Int32.ofNat dep') (Int32.ofNat q') (wI ρ 134 t x) = some (v, ρ') ∧ Ex (fun b _ => b = a + 4) σ σ' ∧ Ex (fun b _ => b = 134) ρ ρ' := fun t x dep' j' q' e1 e2 e3 e4 e5 => by
      have hL' : LwAt (wI σ (a + 4) t x) a := hL
      obtain ⟨v, σ', ρ', g1, g2, g3, g4⟩ := ih j' q' dep' g (wI σ (a + 4) t x) (wI ρ 134 t x) e1 (by omega) hL' (fun u hu => by rw [sI_wI, if_neg (by omega)]; exact hdue u hu) (by rw [sI_wI, if_neg (by omega)]; exact h14) k56 n56 (fun u hu => by rw [sI_wI, if_neg (by omega)]; exact hv u hu) (hm.np 134 t x (by unfold pr; rfl)) (fun u hu => by rw [sI_wI, if_neg (by omega)]; exact hmv u hu) (fun u hu => by
        rw [sI_wI, sI_wI]
        by_cases eu : u = t
        · rw [if_pos ⟨rfl, eu⟩, if_pos ⟨rfl, eu⟩]
        · rw [if_neg (fun z => eu z.2), if_neg (fun z => eu z.2)]
          exact hst u (e4 u hu eu)) e3 h56 e5
      exact ⟨v, σ', ρ', g1, g2, (Ex.rf.w (S := fun b _ => b = a + 4) x rfl).tr g3, (Ex.rf.w (S := fun b _ => b = 134) x rfl).tr g4⟩
    rcases c3 with ⟨v, v1, v2, v3, v4, v5, v6⟩ | ⟨v, v1, v2, v3, v4, v5, v6⟩ | ⟨v2, v3, v5, v6⟩ | ⟨o, o1, o2, o3, o4, o5⟩
    · -- a number
      have v3 : A 126 q = 1 := v3
      have v4 : A 126 (q + 1) = Int32.ofNat v := v4
      have eC : mX4_worth_4 (g + 1) a 56 (Int32.ofNat dep) (Int32.ofNat j) σ = mX4_worth_4 g a 56 (Int32.ofNat (dep + 1)) (Int32.ofNat (j + 1)) (wI σ (a + 4) dep (Int32.ofNat v)) := by
        have n11 : ¬ Int32.ofNat v ≤ -11 := fun z => by
          rw [i32_le, oI_toInt (by omega)] at z
          have e : (-11 : Int32).toInt = -11 := rfl
          omega
        have op : mX4_operand (Int32.ofNat v) 56 σ = some (Int32.ofNat v) := by unfold mX4_operand; rw [if_neg (oI_nn (by omega))]
        rw [stepC _ v2, if_neg n11, if_neg (fun z => absurd ((oI_le (by decide) (by omega)).mp z) (by omega)), op, bnd_some, if_pos (oI_inb (j := dep) (n := 64) v5 (by decide)), oI_cl (j := dep) (by omega)]
      have eM : mX12_worth_4 (g + 1) (Int32.ofNat dep) (Int32.ofNat q) ρ = mX12_worth_4 g (Int32.ofNat (dep + 1)) (Int32.ofNat (q + 2)) (wI ρ 134 dep (Int32.ofNat v)) := by
        refine Eq.trans (b := mX12_worth_4B (mX12_worth_4 g) (Int32.ofNat dep) (Int32.ofNat q) ρ) rfl ?_
        unfold mX12_worth_4B mX12_worth_36 mX12_worth_67
        rw [if_pos q158, oI_cl (j := q) (by omega), hm 126 q rfl, v3, if_neg (by decide), if_pos rfl, oI_s, if_pos rfl, if_pos q158', oI_cl (j := q + 1) (by omega), hm 126 (q + 1) rfl, v4, if_pos (oI_inb (j := dep) (n := 520) (by omega) (by decide)), oI_cl (j := dep) (by omega), oI_s, oI_s]
      rw [eC, eM]
      exact go dep (Int32.ofNat v) (dep + 1) (j + 1) (q + 2) (by omega) v5 (by omega) (fun u hu hn => by omega) v6
    · -- a value
      have v3 : A 126 q = 2 := v3
      have v4 : A 126 (q + 1) = Int32.ofNat v := v4
      obtain ⟨w1, w2, w3⟩ := val_neg v1
      have eC : mX4_worth_4 (g + 1) a 56 (Int32.ofNat dep) (Int32.ofNat j) σ = mX4_worth_4 g a 56 (Int32.ofNat (dep + 1)) (Int32.ofNat (j + 1)) (wI σ (a + 4) dep (val v)) := by
        have op : mX4_operand (-1 - Int32.ofNat v) 56 σ = some (val v) := by
          unfold mX4_operand
          rw [if_pos w2, if_pos k56, n56, w3, if_neg (fun z => absurd ((oI_le (by decide) (by omega)).mp z) (by omega)), if_pos (oI_inb (j := v) (n := 10) v1 (by decide)), oI_cl (j := v) (by omega), hv v v1]
        rw [stepC _ v2, if_neg w1, if_neg (fun z => absurd ((oI_le (by decide) (by omega)).mp z) (by omega)), op, bnd_some, if_pos (oI_inb (j := dep) (n := 64) v5 (by decide)), oI_cl (j := dep) (by omega)]
      have eM : mX12_worth_4 (g + 1) (Int32.ofNat dep) (Int32.ofNat q) ρ = mX12_worth_4 g (Int32.ofNat (dep + 1)) (Int32.ofNat (q + 2)) (wI ρ 134 dep (val v)) := by
        refine Eq.trans (b := mX12_worth_4B (mX12_worth_4 g) (Int32.ofNat dep) (Int32.ofNat q) ρ) rfl ?_
        unfold mX12_worth_4B mX12_worth_36 mX12_worth_67
        rw [if_pos q158, oI_cl (j := q) (by omega), hm 126 q rfl, v3, if_neg (by decide), if_neg (by decide), if_pos rfl, oI_s, if_neg (by decide), if_pos q158', oI_cl (j := q + 1) (by omega), hm 126 (q + 1) rfl, v4, if_pos (oI_inb (j := v) (n := 10) v1 (by decide)), oI_cl (j := v) (by omega), hmv v v1, if_pos (oI_inb (j := dep) (n := 520) (by omega) (by decide)), oI_cl (j := dep) (by omega), oI_s, oI_s]
      rw [eC, eM]
      exact go dep (val v) (dep + 1) (j + 1) (q + 2) (by omega) v5 (by omega) (fun u hu hn => by omega) v6
    · -- not
      have v3 : A 126 q = 3 := v3
      obtain ⟨d', rfl⟩ : ∃ d', dep = d' + 1 := ⟨dep - 1, by omega⟩
      have hs := hst d' (by omega)
      have dpos : ¬ Int32.ofNat (d' + 1) ≤ 0 := fun z => absurd ((oI_le (n := 0) (by omega) (by decide)).mp z) (by omega)
      have eC : mX4_worth_4 (g + 1) a 56 (Int32.ofNat (d' + 1)) (Int32.ofNat j) σ = mX4_worth_4 g a 56 (Int32.ofNat (d' + 1)) (Int32.ofNat (j + 1)) (wI σ (a + 4) d' (if sI ρ 134 d' = 0 then 1 else 0)) := by
        rw [stepC _ v2, if_pos (by decide)]
        unfold mX4_worth_63 mX4_worth_97
        rw [if_pos rfl, if_neg dpos, if_pos hk, p4, oI_p]
        simp only [a4, b4, eq_true (oI_inb (j := d') (n := 64) (by omega) (by decide)), if_true]
        rw [oI_cl (j := d') (by omega), hs, oI_s]
        have t1 : mX4_truth 1 σ = 1 := by unfold mX4_truth; rw [if_neg i10]
        have t0 : mX4_truth 0 σ = 0 := by unfold mX4_truth; rw [if_pos rfl]
        rw [t1, t0]
        by_cases c0 : sI ρ 134 d' = 0
        · rw [if_pos c0, if_pos c0]
        · rw [if_neg c0, if_neg c0]
      have eM : mX12_worth_4 (g + 1) (Int32.ofNat (d' + 1)) (Int32.ofNat q) ρ = mX12_worth_4 g (Int32.ofNat (d' + 1)) (Int32.ofNat (q + 1)) (wI ρ 134 d' (if sI ρ 134 d' = 0 then 1 else 0)) := by
        refine Eq.trans (b := mX12_worth_4B (mX12_worth_4 g) (Int32.ofNat (d' + 1)) (Int32.ofNat q) ρ) rfl ?_
        unfold mX12_worth_4B mX12_worth_106
        rw [if_pos q158, oI_cl (j := q) (by omega), hm 126 q rfl, v3, if_neg (by decide), if_neg (by decide), if_neg (by decide), if_pos rfl, oI_p]
        simp only [eq_true (oI_inb (j := d') (n := 520) (by omega) (by decide)), if_true]
        rw [oI_cl (j := d') (by omega), oI_s]
        by_cases c0 : sI ρ 134 d' = 0
        · rw [if_pos c0, if_pos c0]
        · rw [if_neg c0, if_neg c0]
      rw [eC, eM]
      exact go d' _ (d' + 1) (j + 1) (q + 1) (by omega) (by omega) (by omega) (fun u hu hn => by omega) v6
    · -- two of them
      have o3 : A 126 q = o.2 := o3
      obtain ⟨d', rfl⟩ : ∃ d', dep = d' + 1 + 1 := ⟨dep - 2, by omega⟩
      obtain ⟨w1, w2, w3, w4, w5, w6⟩ := opT_lt o1
      have hs0 := hst d' (by omega)
      have hs1 := hst (d' + 1) (by omega)
      obtain ⟨v, j1, j2⟩ := join_eq o1 (sI ρ 134 d') (sI ρ 134 (d' + 1)) σ ρ
      have dpos : ¬ Int32.ofNat (d' + 1 + 1) ≤ 1 := fun z => absurd ((oI_le (n := 1) (by omega) (by decide)).mp z) (by omega)
      have eC : mX4_worth_4 (g + 1) a 56 (Int32.ofNat (d' + 1 + 1)) (Int32.ofNat j) σ = mX4_worth_4 g a 56 (Int32.ofNat (d' + 1)) (Int32.ofNat (j + 1)) (wI σ (a + 4) d' v) := by
        rw [stepC _ o2, if_pos w1]
        unfold mX4_worth_63 mX4_worth_104
        rw [if_neg w2, if_neg dpos, if_pos hk, p4, if_pos a4, b4, dep_m1, oI_p, if_pos (oI_inb (j := d') (n := 64) (by omega) (by decide)), if_pos (oI_inb (j := d' + 1) (n := 64) (by omega) (by decide)), oI_cl (j := d') (by omega), oI_cl (j := d' + 1) (by omega), hs0, hs1, j1, bnd_some, oI_s]
      have eM : mX12_worth_4 (g + 1) (Int32.ofNat (d' + 1 + 1)) (Int32.ofNat q) ρ = mX12_worth_4 g (Int32.ofNat (d' + 1)) (Int32.ofNat (q + 1)) (wI ρ 134 d' v) := by
        refine Eq.trans (b := mX12_worth_4B (mX12_worth_4 g) (Int32.ofNat (d' + 1 + 1)) (Int32.ofNat q) ρ) rfl ?_
        unfold mX12_worth_4B
        rw [if_pos q158, oI_cl (j := q) (by omega), hm 126 q rfl, o3, if_neg w3, if_neg w4, if_neg w5, if_neg w6, dep_m1, oI_p, if_pos (oI_inb (j := d') (n := 520) (by omega) (by decide)), if_pos (oI_inb (j := d' + 1) (n := 520) (by omega) (by decide)), oI_cl (j := d') (by omega), oI_cl (j := d' + 1) (by omega), j2, bnd_some, oI_s]
      rw [eC, eM]
      exact go d' v (d' + 1) (j + 1) (q + 1) (by omega) (by omega) (by omega) (fun u hu hn => by omega) (by
        have e : d' + 1 + 1 - 1 = d' + 1 := by omega
        rw [e] at o5; exact o5)
