/-! the class passes on -/
def S59 (b j : Nat) : Prop := b = 59 ∨ b = 60 ∨ (b = 53 ∧ j = 12)
theorem S59_rng : ∀ b j, S59 b j → 53 ≤ b ∧ b ≤ 65 := fun b j h => by unfold S59 at h; omega
/-- the account is open, the sale was looked at -/
def AC (A : Ab) (s k : Nat) (σ : Sto) : Prop := CB A σ ∧ OP A k σ ∧ sR σ 53 5 = sR σ 38 s
theorem AC.ex {A : Ab} {s k : Nat} {σ σ' : Sto} (h : AC A s k σ) (hE : Ex S59 σ σ') : AC A s k σ' := by
  obtain ⟨h1, h2, h3⟩ := h
  refine ⟨h1.sc (hE.sc S59_rng), ⟨?_, fun p hp => ?_⟩, ?_⟩
  · rw [hE.2.2.2.2.2 53 1 (by unfold S59; omega)]; exact h2.1
  · rw [hE.2.2.2.2.2 54 p (by unfold S59; omega), hE.2.2.2.2.2 55 p (by unfold S59; omega)]; exact h2.2 p hp
  · rw [hE.2.2.2.1, hE.2.2.2.1]; exact h3
theorem ld_dead {A : Ab} (hB : IB A) (hr : IRow A) {s k p : Nat} (hs : s < cT 4 A) : (A 101 s < ldC A (dth A k p)) ↔ deadB A s k p = false := by
  unfold deadB
  cases q : dth A k p with
  | none =>
    have ds := day_n hr hs
    rw [ds.2]
    exact ⟨fun _ => rfl, fun _ => (oI_lt (n := 1000000) (by omega) (by decide)).mpr (by omega)⟩
  | some j =>
    show A 101 s < A 102 j ↔ decide (A 102 j ≤ A 101 s) = false
    rw [decide_eq_false_iff_not]
    exact nle.symm
theorem C_dead {A : Ab} {s k p : Nat} {σ : Sto} (h : AC A s k σ) (hs : s < cT 4 A) (hks : A 97 s = 2) (hp : p < 30) : mX0_isDead (Int32.ofNat p) σ = some (if deadB A s k p then 1 else 0) := by
  obtain ⟨h1, h2, h3⟩ := h
  have hr := h1.2.2.2.2.2.1
  obtain ⟨k0, -⟩ := h1.fa hs
  have dS : sI σ (sR σ 38 s) 6 = A 101 s := (C_day h1 hs (by rw [hks]; decide)).trans (day_n hr hs).2.symm
  have wi : ¬ mX11_isWithin (Int32.ofNat p) 0 29 σ = 0 := fun q => by
    rcases C_isW.mp q with z | z
    · exact oI_nn (by omega) z
    · exact absurd ((oI_lt (j := 29) (n := p) (by decide) (by omega)).mp z) (by omega)
  unfold mX0_isDead
  rw [if_neg wi, if_pos (oI_inb (j := p) (n := 30) hp (by decide)), oI_cl (j := p) (by omega), h3, if_pos k0, dS, (h2.2 p hp).2]
  have g := ld_dead h1.1 hr (k := k) (p := p) hs
  cases q : deadB A s k p with
  | false => rw [if_pos (g.mpr q)]; rfl
  | true => rw [if_neg (fun z => by rw [g.mp z] at q; cases q)]; rfl
def anyB (A : Ab) (s k : Nat) (f : Nat → Nat) : Nat → Bool
  | 0 => false
  | n + 1 => anyB A s k f n || (deadB A s k n && decide (0 < f n))
theorem anyB_iff {A : Ab} {s k : Nat} {f : Nat → Nat} : ∀ n, anyB A s k f n = false ↔ ∀ p, p < n → deadB A s k p = true → f p = 0
  | 0 => ⟨fun _ p hp => by omega, fun _ => rfl⟩
  | n + 1 => by
    have ih := anyB_iff (A := A) (s := s) (k := k) (f := f) n
    unfold anyB
    rw [Bool.or_eq_false_iff, ih]
    constructor
    · rintro ⟨h1, h2⟩ p hp hd
      by_cases e : p = n
      · subst e
        rw [hd, Bool.true_and, decide_eq_false_iff_not] at h2
        omega
      · exact h1 p (by omega) hd
    · intro h
      refine ⟨fun p hp => h p (by omega), ?_⟩
      cases q : deadB A s k n with
      | false => rfl
      | true => rw [Bool.true_and, decide_eq_false_iff_not, h n (by omega) q]; omega
def fl (b : Bool) : Int32 := if b then 1 else 0
theorem fl_or0 (b : Bool) : fl b ||| 0 = fl b := by cases b <;> rfl
theorem fl_or1 (b : Bool) : fl b ||| 1 = 1 := by cases b <;> rfl
theorem fl_z (b : Bool) : fl b = 0 ↔ b = false := by cases b <;> decide
set_option maxHeartbeats 1000000 in
/-- the second half of a round -/
theorem C_rnd2 {A : Ab} {s k : Nat} (hs : s < cT 4 A) (hks : A 97 s = 2) {g : Nat → Nat} {H P : Nat} (hc : ∀ t, t < 30 → comN A s k g t (cT 4 A) < 2147483648) : ∀ m p fuel σ, AC A s k σ → p + m = 30 → m < fuel → (∀ q, q < 30 → sI σ 59 q = Int32.ofNat (if q < p then rnd A s k g q else g q)) → (∀ t, t < 30 → sI σ 60 t = Int32.ofNat (comN A s k g t (cT 4 A))) → sI σ 53 12 = Int32.ofNat (H + dedN A s k g p) →
    ∃ σ', mX0_goOneRound_161 fuel (Int32.ofNat P) (fl (anyB A s k (fun t => comN A s k g t (cT 4 A)) p)) (Int32.ofNat p) σ = some (fl (anyB A s k (fun t => comN A s k g t (cT 4 A)) 30), σ') ∧ Ex S59 σ σ' ∧ (∀ q, q < 30 → sI σ' 59 q = Int32.ofNat (rnd A s k g q)) ∧ sI σ' 53 12 = Int32.ofNat (H + dedN A s k g 30) - Int32.ofNat P := by
  intro m
  induction m with
  | zero =>
    intro p fuel σ hA hp hf h59 h60 h12
    obtain ⟨n, rfl⟩ : ∃ n, fuel = n + 1 := ⟨fuel - 1, by omega⟩
    have e : p = 30 := by omega
    subst e
    refine ⟨wI σ 53 12 (sI σ 53 12 - Int32.ofNat P), ?_, Ex.rf.w _ (Or.inr (Or.inr ⟨rfl, rfl⟩)), fun q hq => ?_, ?_⟩
    · refine Eq.trans (b := mX0_goOneRound_161B (mX0_goOneRound_161 n) (Int32.ofNat P) (fl (anyB A s k (fun t => comN A s k g t (cT 4 A)) 30)) (Int32.ofNat 30) σ) rfl ?_
      unfold mX0_goOneRound_161B
      rw [if_pos (by decide)]
      simp only [stp]
      rw [if_pos]
      cases anyB A s k (fun t => comN A s k g t (cT 4 A)) 30
      · exact Or.inl rfl
      · exact Or.inr rfl
    · rw [sI_wI, if_neg (by omega), h59 q hq, if_pos hq]
    · rw [sI_wI, if_pos ⟨rfl, rfl⟩, h12]
  | succ m ih =>
    intro p fuel σ hA hp hf h59 h60 h12
    obtain ⟨n, rfl⟩ : ∃ n, fuel = n + 1 := ⟨fuel - 1, by omega⟩
    have p30 := oI_inb (j := p) (n := 30) (by omega) (by decide)
    have q30 : ¬ (30 : Int32) ≤ Int32.ofNat p := fun q => absurd ((oI_le (j := 30) (by decide) (by omega)).mp q) (by omega)
    have hany : anyB A s k (fun t => comN A s k g t (cT 4 A)) (p + 1) = (anyB A s k (fun t => comN A s k g t (cT 4 A)) p || (deadB A s k p && decide (0 < comN A s k g p (cT 4 A)))) := rfl
    have hded : dedN A s k g (p + 1) = dedN A s k g p + if deadB A s k p then g p else 0 := rfl
    have c60 := h60 p (by omega)
    have s214 : ∀ (x : Int32) τ, Ex S59 σ τ → x = fl (anyB A s k (fun t => comN A s k g t (cT 4 A)) (p + 1)) → (∀ q, q < 30 → q ≠ p → sI τ 59 q = sI σ 59 q) → sI τ 59 p = Int32.ofNat (if deadB A s k p then 0 else g p) → (∀ t, t < 30 → sI τ 60 t = sI σ 60 t) → sI τ 53 12 = Int32.ofNat (H + dedN A s k g (p + 1)) → ∃ σ', mX0_goOneRound_214 (mX0_goOneRound_161 n) (Int32.ofNat P) x (Int32.ofNat p) τ = some (fl (anyB A s k (fun t => comN A s k g t (cT 4 A)) 30), σ') ∧ Ex S59 σ σ' ∧ (∀ q, q < 30 → sI σ' 59 q = Int32.ofNat (rnd A s k g q)) ∧ sI σ' 53 12 = Int32.ofNat (H + dedN A s k g 30) - Int32.ofNat P := fun x τ hE hx t59 tp t60 t12 => by
      subst hx
      unfold mX0_goOneRound_214
      rw [if_pos p30, oI_cl (j := p) (by omega), tp, t60 p (by omega), c60, oI_add, oI_s]
      simp only [stp]
      have eX : Ex S59 σ (wI τ 59 p (Int32.ofNat ((if deadB A s k p then 0 else g p) + comN A s k g p (cT 4 A)))) := hE.w _ (Or.inl rfl)
      obtain ⟨σ', z1, z2, z3⟩ := ih (p + 1) n _ (hA.ex eX) (by omega) (by omega) (fun q hq => by
        rw [sI_wI]
        by_cases e : q = p
        · rw [if_pos ⟨rfl, e⟩, e, if_pos (show p < p + 1 by omega)]; rfl
        · rw [if_neg (fun z => e z.2), t59 q hq e, h59 q hq]
          by_cases c : q < p
          · rw [if_pos c, if_pos (by omega)]
          · rw [if_neg c, if_neg (by omega)]) (fun t ht => by rw [sI_wI, if_neg (by omega), t60 t ht]; exact h60 t ht) (by rw [sI_wI, if_neg (by omega)]; exact t12)
      exact ⟨σ', z1, eX.tr z2, z3⟩
    have step : mX0_goOneRound_161 (n + 1) (Int32.ofNat P) (fl (anyB A s k (fun t => comN A s k g t (cT 4 A)) p)) (Int32.ofNat p) σ = mX0_goOneRound_161B (mX0_goOneRound_161 n) (Int32.ofNat P) (fl (anyB A s k (fun t => comN A s k g t (cT 4 A)) p)) (Int32.ofNat p) σ := rfl
    rw [step]
    unfold mX0_goOneRound_161B mX0_goOneRound_212
    rw [if_neg q30, C_dead hA hs hks (by omega), bnd_some]
    have gp := h59 p (by omega)
    rw [if_neg (by omega)] at gp
    cases cd : deadB A s k p with
    | false =>
      rw [if_pos (show (if false = true then (1 : Int32) else 0) = 0 from rfl)]
      refine s214 _ σ Ex.rf ?_ (fun _ _ _ => rfl) (by rw [gp, cd]; rfl) (fun _ _ => rfl) ?_
      · rw [hany, cd, Bool.false_and, Bool.or_false]
      · rw [hded, cd, h12]; rfl
    | true =>
      rw [if_neg (show ¬ (if true = true then (1 : Int32) else 0) = 0 from i10), if_pos p30, oI_cl (j := p) (by omega)]
      simp only [stp]
      have eX : Ex S59 σ (wI (wI σ 53 12 (sI σ 53 12 + sI σ 59 p)) 59 p 0) := (Ex.rf.w (S := S59) _ (Or.inr (Or.inr ⟨rfl, rfl⟩))).w _ (Or.inl rfl)
      have r60 : sI (wI (wI σ 53 12 (sI σ 53 12 + sI σ 59 p)) 59 p 0) 60 p = Int32.ofNat (comN A s k g p (cT 4 A)) := by rw [sI_wI, if_neg (by omega), sI_wI, if_neg (by omega)]; exact c60
      have r12 : sI (wI (wI σ 53 12 (sI σ 53 12 + sI σ 59 p)) 59 p 0) 53 12 = Int32.ofNat (H + dedN A s k g (p + 1)) := by
        rw [sI_wI, if_neg (by omega), sI_wI, if_pos ⟨rfl, rfl⟩, h12, gp, oI_add, hded, cd, if_pos rfl, Nat.add_assoc]
      have r59 : ∀ q, q < 30 → q ≠ p → sI (wI (wI σ 53 12 (sI σ 53 12 + sI σ 59 p)) 59 p 0) 59 q = sI σ 59 q := fun q _ e => by rw [sI_wI, if_neg (fun z => e z.2), sI_wI, if_neg (by omega)]
      have r59p : sI (wI (wI σ 53 12 (sI σ 53 12 + sI σ 59 p)) 59 p 0) 59 p = Int32.ofNat (if deadB A s k p then 0 else g p) := by rw [sI_wI, if_pos ⟨rfl, rfl⟩, cd]; rfl
      have r60' : ∀ t, t < 30 → sI (wI (wI σ 53 12 (sI σ 53 12 + sI σ 59 p)) 59 p 0) 60 t = sI σ 60 t := fun t _ => by rw [sI_wI, if_neg (by omega), sI_wI, if_neg (by omega)]
      have hcp := hc p (by omega)
      have le0 : (sI (wI (wI σ 53 12 (sI σ 53 12 + sI σ 59 p)) 59 p 0) 60 p ≤ 0) ↔ comN A s k g p (cT 4 A) = 0 := by
        rw [r60]
        exact (oI_le (n := 0) hcp (by decide)).trans (by omega)
      by_cases c0 : comN A s k g p (cT 4 A) = 0
      · rw [if_pos (le0.mpr c0)]
        refine s214 _ _ eX ?_ r59 r59p r60' r12
        rw [fl_or0, hany, cd, c0]
        rw [show decide (0 < 0) = false from rfl, Bool.and_false, Bool.or_false]
      · rw [if_neg (fun z => c0 (le0.mp z))]
        refine s214 _ _ eX ?_ r59 r59p r60' r12
        rw [fl_or1, hany, cd, decide_eq_true (by omega : 0 < comN A s k g p (cT 4 A))]
        rw [Bool.and_self, Bool.or_true]
        rfl
/-- the first half of a round -/
theorem C_rnd1 {A : Ab} {s k : Nat} (hk : k ≤ 999) (hs : s < cT 4 A) (hks : A 97 s = 2) {g : Nat → Nat} (hg : ∀ p, p < 30 → g p < 2147483648) : ∀ m i fuel σ, AC A s k σ → i + m = cT 4 A → m < fuel → (∀ q, q < 30 → sI σ 59 q = Int32.ofNat (g q)) → (∀ t, t < 30 → sI σ 60 t = Int32.ofNat (comN A s k g t i)) →
    ∃ σ', mX0_goOneRound_25 fuel (Int32.ofNat (pasN A s k g i)) (Int32.ofNat i) σ = mX0_goOneRound_161 FU (Int32.ofNat (pasN A s k g (cT 4 A))) 0 0 σ' ∧ Ex (fun b _ => b = 60) σ σ' ∧ ∀ t, t < 30 → sI σ' 60 t = Int32.ofNat (comN A s k g t (cT 4 A)) := by
  intro m
  induction m with
  | zero =>
    intro i fuel σ hA hi hf h59 h60
    have hl : cT 4 A ≤ 200 := (hA.1.1.le (c := 4) (by decide)).1
    have hn : sI σ 33 11 = Int32.ofNat (cT 4 A) := hA.1.num (c := 4) (by decide)
    obtain ⟨n, rfl⟩ : ∃ n, fuel = n + 1 := ⟨fuel - 1, by omega⟩
    have e : i = cT 4 A := by omega
    subst e
    refine ⟨σ, ?_, Ex.rf, h60⟩
    refine Eq.trans (b := mX0_goOneRound_25B (mX0_goOneRound_25 n) (Int32.ofNat (pasN A s k g (cT 4 A))) (Int32.ofNat (cT 4 A)) σ) rfl ?_
    unfold mX0_goOneRound_25B
    rw [hn, if_pos ((oI_le (by omega) (by omega)).mpr (Nat.le_refl _))]
  | succ m ih =>
    intro i fuel σ hA hi hf h59 h60
    obtain ⟨n, rfl⟩ : ∃ n, fuel = n + 1 := ⟨fuel - 1, by omega⟩
    have hB := hA.1.1
    have hr := hA.1.2.2.2.2.2.1
    have hl : cT 4 A ≤ 200 := (hB.le (c := 4) (by decide)).1
    have hn : sI σ 33 11 = Int32.ofNat (cT 4 A) := hA.1.num (c := 4) (by decide)
    have hi2 : i < cT 4 A := by omega
    obtain ⟨k0, f0, f2, f3, f4, f5, f6, f7, f8, f9, -⟩ := hA.1.fa hi2
    have cS : ∀ t, comN A s k g t (i + 1) = comN A s k g t i + if t = toI A i then vI A s k g i else 0 := fun _ => rfl
    have pS : pasN A s k g (i + 1) = pasN A s k g i + vI A s k g i := rfl
    have sk : vI A s k g i = 0 → ∃ σ', mX0_goOneRound_25 n (Int32.ofNat (pasN A s k g i)) (Int32.ofNat i + 1) σ = mX0_goOneRound_161 FU (Int32.ofNat (pasN A s k g (cT 4 A))) 0 0 σ' ∧ Ex (fun b _ => b = 60) σ σ' ∧ ∀ t, t < 30 → sI σ' 60 t = Int32.ofNat (comN A s k g t (cT 4 A)) := fun e => by
      have := ih (i + 1) n σ hA (by omega) (by omega) h59 (fun t ht => by rw [cS, e, ite_self, Nat.add_zero]; exact h60 t ht)
      rw [pS, e, Nat.add_zero] at this
      rw [oI_s]; exact this
    have s86 : isH A s k i = false → ∃ σ', mX0_goOneRound_86 (mX0_goOneRound_25 n) (Int32.ofNat (pasN A s k g i)) (Int32.ofNat i) (sR σ 38 i) σ = mX0_goOneRound_161 FU (Int32.ofNat (pasN A s k g (cT 4 A))) 0 0 σ' ∧ Ex (fun b _ => b = 60) σ σ' ∧ ∀ t, t < 30 → sI σ' 60 t = Int32.ofNat (comN A s k g t (cT 4 A)) := fun e => by
      unfold mX0_goOneRound_86 mX0_goOneRound_87
      rw [if_pos rfl]
      exact sk (if_neg (by rw [e]; decide))
    have step : mX0_goOneRound_25 (n + 1) (Int32.ofNat (pasN A s k g i)) (Int32.ofNat i) σ = mX0_goOneRound_25B (mX0_goOneRound_25 n) (Int32.ofNat (pasN A s k g i)) (Int32.ofNat i) σ := rfl
    rw [step]
    unfold mX0_goOneRound_25B
    rw [hn, if_neg (fun q => absurd ((oI_le (by omega) (by omega)).mp q) (by omega)), hA.1.at4 hi2, bnd_some, if_pos k0, f2]
    by_cases c1 : A 97 i = 1
    · obtain ⟨e1, e2, e3, e4, e5, e6, e7, e8, e9⟩ := heir_n hB hr hi2 c1
      rw [if_pos c1, hA.2.1.1, hA.1.known hi2 hk, bnd_some]
      cases c2 : knB A i k with
      | false =>
        rw [if_pos (show (if false = true then (1 : Int32) else 0) = 0 from rfl)]
        exact s86 (by cases e : isH A s k i with | false => rfl | true => rw [(isH_iff.mp e).2.1] at c2; cases c2)
      | true =>
        rw [if_neg (show ¬ (if true = true then (1 : Int32) else 0) = 0 from i10), f4, e2, C_dead hA hs hks e1, bnd_some]
        cases c3 : deadB A s k (ofI A i) with
        | false =>
          rw [if_pos (show (if false = true then (1 : Int32) else 0) = 0 from rfl)]
          exact s86 (by cases e : isH A s k i with | false => rfl | true => rw [(isH_iff.mp e).2.2] at c3; cases c3)
        | true =>
          rw [if_pos c1] at f8 f9
          have hH : isH A s k i = true := isH_iff.mpr ⟨c1, c2, c3⟩
          have qpos : ¬ sI σ (sR σ 38 i) 9 ≤ 0 := fun z => by rw [f9, e9] at z; exact absurd ((oI_le (n := 0) (by omega) (by decide)).mp z) (by omega)
          rw [if_neg (show ¬ (if true = true then (1 : Int32) else 0) = 0 from i10), if_neg qpos]
          unfold mX0_goOneRound_87
          rw [if_neg (by rw [c1]; decide)] at f5
          have wi : ¬ mX11_isWithin (sI σ (sR σ 38 i) 5) 0 29 σ = 0 := fun q => by
            rw [f5, e4] at q
            rcases C_isW.mp q with z | z
            · exact oI_nn (by omega) z
            · exact absurd ((oI_lt (j := 29) (by decide) (by omega)).mp z) (by omega)
          have nz : ¬ (sI σ (sR σ 38 i) 9).toInt64 = 0 := fun z => by
            rw [f9, e9, i64_of (by omega)] at z
            have := congrArg Int64.toInt z
            rw [Int64.toInt_ofNat_of_lt (by omega)] at this
            have z0 : (0 : Int64).toInt = 0 := rfl
            omega
          have ev : vI A s k g i = vN A g i := if_pos hH
          have go1 := hg (ofI A i) e1
          have val : (((sI σ 59 (ofI A i)).toInt64 * (sI σ (sR σ 38 i) 8).toInt64) / (sI σ (sR σ 38 i) 9).toInt64).toInt32 = Int32.ofNat (vI A s k g i) := by
            rw [h59 _ e1, f8, f9, e8, e9, mulDiv go1 (by omega) (by omega), ev]
            rfl
          have inb4 : inb (sI σ (sR σ 38 i) 4) 30 := by rw [f4, e2]; exact oI_inb e1 (by decide)
          have inb5 : inb (sI σ (sR σ 38 i) 5) 30 := by rw [f5, e4]; exact oI_inb e3 (by decide)
          rw [if_neg i10, if_pos k0, if_neg wi, if_pos inb4, if_pos nz, if_pos inb5]
          rw [f4, e2, oI_cl (by omega), f5, e4, oI_cl (by omega), val, oI_add, ← pS, oI_s]
          simp only [stp]
          have eX : Ex (fun b _ => b = 60) σ (wI σ 60 (toI A i) (sI σ 60 (toI A i) + Int32.ofNat (vI A s k g i))) := Ex.rf.w _ rfl
          obtain ⟨σ', z1, z2, z3⟩ := ih (i + 1) n _ (hA.ex (eX.mono (fun b j z => Or.inr (Or.inl z)))) (by omega) (by omega) (fun q hq => by rw [sI_wI, if_neg (by omega)]; exact h59 q hq) (fun t ht => by
            rw [sI_wI, cS]
            by_cases e : t = toI A i
            · rw [if_pos ⟨rfl, e⟩, if_pos e, h60 _ e3, oI_add, e]
            · rw [if_neg (fun z => e z.2), if_neg e, Nat.add_zero]; exact h60 t ht)
          exact ⟨σ', z1, eX.tr z2, z3⟩
    · rw [if_neg c1]
      exact s86 (by cases e : isH A s k i with | false => rfl | true => exact absurd (isH_iff.mp e).1 c1)
theorem C_rnd0 {A : Ab} {s k : Nat} : ∀ m p fuel σ, AC A s k σ → p + m = 30 → m < fuel → (∀ t, t < p → sI σ 60 t = 0) → ∃ σ', mX0_goOneRound_2 fuel (Int32.ofNat p) σ = mX0_goOneRound_25 FU 0 0 σ' ∧ Ex (fun b _ => b = 60) σ σ' ∧ ∀ t, t < 30 → sI σ' 60 t = 0 := by
  intro m
  induction m with
  | zero =>
    intro p fuel σ hA hp hf h60
    obtain ⟨n, rfl⟩ : ∃ n, fuel = n + 1 := ⟨fuel - 1, by omega⟩
    have e : p = 30 := by omega
    subst e
    refine ⟨σ, ?_, Ex.rf, h60⟩
    refine Eq.trans (b := mX0_goOneRound_2B (mX0_goOneRound_2 n) (Int32.ofNat 30) σ) rfl ?_
    unfold mX0_goOneRound_2B
    rw [if_pos (by decide)]
  | succ m ih =>
    intro p fuel σ hA hp hf h60
    obtain ⟨n, rfl⟩ : ∃ n, fuel = n + 1 := ⟨fuel - 1, by omega⟩
    have q30 : ¬ (30 : Int32) ≤ Int32.ofNat p := fun q => absurd ((oI_le (j := 30) (by decide) (by omega)).mp q) (by omega)
    have step : mX0_goOneRound_2 (n + 1) (Int32.ofNat p) σ = mX0_goOneRound_2 n (Int32.ofNat (p + 1)) (wI σ 60 p 0) := by
      refine Eq.trans (b := mX0_goOneRound_2B (mX0_goOneRound_2 n) (Int32.ofNat p) σ) rfl ?_
      unfold mX0_goOneRound_2B
      rw [if_neg q30, if_pos (oI_inb (j := p) (n := 30) (by omega) (by decide)), oI_cl (j := p) (by omega), oI_s]
    have eX : Ex (fun b _ => b = 60) σ (wI σ 60 p 0) := Ex.rf.w _ rfl
    obtain ⟨σ', z1, z2, z3⟩ := ih (p + 1) n _ (hA.ex (eX.mono (fun b j z => Or.inr (Or.inl z)))) (by omega) (by omega) (fun t ht => by
      rw [sI_wI]
      by_cases e : t = p
      · rw [if_pos ⟨rfl, e⟩]
      · rw [if_neg (fun z => e z.2)]; exact h60 t (by omega))
    exact ⟨σ', step.trans z1, eX.tr z2, z3⟩
theorem com_lt {A : Ab} (hB : IB A) (hr : IRow A) (hh : IHeir A) {s k : Nat} {g : Nat → Nat} (hT : sm g 30 < 2147483648) {t : Nat} (ht : t < 30) : comN A s k g t (cT 4 A) < 2147483648 := by
  have h1 := sm_ge (f := fun t => comN A s k g t (cT 4 A)) 30 ht
  rw [com_all hB hr (Nat.le_refl _)] at h1
  have h2 := pas_le hB hr hh (s := s) (k := k) (g := g)
  have h3 : dedN A s k g 30 ≤ sm g 30 := sm_le 30 (fun i _ => by
    by_cases c : deadB A s k i = true
    · rw [if_pos c]; exact Nat.le_refl _
    · rw [if_neg c]; exact Nat.zero_le _)
  have h4 : comN A s k g t (cT 4 A) ≤ pasN A s k g (cT 4 A) := h1
  omega
/-- one round of the class -/
theorem C_round {A : Ab} (hh : IHeir A) {s k : Nat} (hk : k ≤ 999) (hs : s < cT 4 A) (hks : A 97 s = 2) {g : Nat → Nat} {H : Nat} (hT : sm g 30 < 2147483648) {σ : Sto} (hA : AC A s k σ) (h59 : ∀ q, q < 30 → sI σ 59 q = Int32.ofNat (g q)) (h12 : sI σ 53 12 = Int32.ofNat H) :
    ∃ σ', mX0_goOneRound σ = some (fl (anyB A s k (rnd A s k g) 30), σ') ∧ Ex S59 σ σ' ∧ (∀ q, q < 30 → sI σ' 59 q = Int32.ofNat (rnd A s k g q)) ∧ sI σ' 53 12 = Int32.ofNat (H + (dedN A s k g 30 - pasN A s k g (cT 4 A))) := by
  have hB := hA.1.1
  have hr := hA.1.2.2.2.2.2.1
  have hl : cT 4 A ≤ 200 := (hB.le (c := 4) (by decide)).1
  have hg : ∀ p, p < 30 → g p < 2147483648 := fun p hp => Nat.lt_of_le_of_lt (sm_ge (f := g) 30 hp) hT
  have mono : ∀ {a b : Sto}, Ex (fun b _ => b = 60) a b → Ex S59 a b := fun h => h.mono (fun b j z => Or.inr (Or.inl z))
  obtain ⟨σ1, a1, a2, a3⟩ := C_rnd0 30 0 FU σ hA rfl (show 30 < 5000 by omega) (fun t ht => by omega)
  have hA1 := hA.ex (mono a2)
  have r1 : ∀ q, sI σ1 59 q = sI σ 59 q := fun q => a2.2.2.2.2.2 59 q (show ¬ 59 = 60 by decide)
  obtain ⟨σ2, b1, b2, b3⟩ := C_rnd1 hk hs hks hg (cT 4 A) 0 FU σ1 hA1 (by omega) (show cT 4 A < 5000 by omega) (fun q hq => by rw [r1]; exact h59 q hq) (fun t ht => by rw [a3 t ht]; rfl)
  have hA2 := hA1.ex (mono b2)
  have r2 : ∀ q, sI σ2 59 q = sI σ 59 q := fun q => (b2.2.2.2.2.2 59 q (show ¬ 59 = 60 by decide)).trans (r1 q)
  have r12 : sI σ2 53 12 = Int32.ofNat H := by
    rw [b2.2.2.2.2.2 53 12 (by decide), a2.2.2.2.2.2 53 12 (by decide)]; exact h12
  obtain ⟨σ3, c1, c2, c3, c4⟩ := C_rnd2 hs hks (g := g) (H := H) (P := pasN A s k g (cT 4 A)) (fun t ht => com_lt hB hr hh hT ht) 30 0 FU σ2 hA2 rfl (show 30 < 5000 by omega) (fun q hq => by rw [if_neg (by omega), r2]; exact h59 q hq) b3 r12
  have hany : anyB A s k (rnd A s k g) 30 = anyB A s k (fun t => comN A s k g t (cT 4 A)) 30 := by
    have e : ∀ p, deadB A s k p = true → rnd A s k g p = comN A s k g p (cT 4 A) := fun p hd => by unfold rnd; rw [if_pos hd, Nat.zero_add]
    cases q : anyB A s k (fun t => comN A s k g t (cT 4 A)) 30 with
    | false => exact (anyB_iff 30).mpr fun p hp hd => by rw [e p hd]; exact (anyB_iff 30).mp q p hp hd
    | true =>
      cases q2 : anyB A s k (rnd A s k g) 30 with
      | true => rfl
      | false =>
        rw [(anyB_iff 30).mpr fun p hp hd => by rw [← e p hd]; exact (anyB_iff 30).mp q2 p hp hd] at q
        exact q
  refine ⟨σ3, ?_, ((mono a2).tr (mono b2)).tr c2, c3, ?_⟩
  · show mX0_goOneRound_2 FU 0 σ = _
    rw [hany]
    exact a1.trans (b1.trans c1)
  · have hp := pas_le hB hr hh (s := s) (k := k) (g := g)
    rw [c4, oI_sub (by omega), Nat.add_sub_assoc hp]
