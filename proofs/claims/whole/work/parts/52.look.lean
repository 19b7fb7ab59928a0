/-! what a sale tells by itself and by what is known ahead of it -/
/-- only cells of S were written -/
def Ex (S : Nat → Nat → Prop) (σ σ' : Sto) : Prop := sZ σ' = sZ σ ∧ (∀ b, sK σ' b = sK σ b) ∧ (∀ b, sN σ' b = sN σ b) ∧ (∀ b k, sR σ' b k = sR σ b k) ∧ (∀ b k, sL σ' b k = sL σ b k) ∧ ∀ b k, ¬ S b k → sI σ' b k = sI σ b k
theorem Ex.rf {S : Nat → Nat → Prop} {σ : Sto} : Ex S σ σ := ⟨rfl, fun _ => rfl, fun _ => rfl, fun _ _ => rfl, fun _ _ => rfl, fun _ _ _ => rfl⟩
theorem Ex.tr {S : Nat → Nat → Prop} {a b c : Sto} (h : Ex S a b) (g : Ex S b c) : Ex S a c :=
  ⟨g.1.trans h.1, fun x => (g.2.1 x).trans (h.2.1 x), fun x => (g.2.2.1 x).trans (h.2.2.1 x), fun x k => (g.2.2.2.1 x k).trans (h.2.2.2.1 x k), fun x k => (g.2.2.2.2.1 x k).trans (h.2.2.2.2.1 x k), fun x k hx => (g.2.2.2.2.2 x k hx).trans (h.2.2.2.2.2 x k hx)⟩
theorem Ex.w {S : Nat → Nat → Prop} {σ σ0 : Sto} (h : Ex S σ σ0) {a k : Nat} (v : Int32) (ha : S a k) : Ex S σ (wI σ0 a k v) :=
  h.tr ⟨rfl, fun _ => rfl, fun _ => rfl, fun _ _ => rfl, fun _ _ => rfl, fun b j hb => by rw [sI_wI, if_neg (fun q : b = a ∧ j = k => hb (by rw [q.1, q.2]; exact ha))]⟩
theorem Ex.mono {S T : Nat → Nat → Prop} {σ σ' : Sto} (h : Ex S σ σ') (hs : ∀ b k, S b k → T b k) : Ex T σ σ' := ⟨h.1, h.2.1, h.2.2.1, h.2.2.2.1, h.2.2.2.2.1, fun b k hb => h.2.2.2.2.2 b k (fun z => hb (hs b k z))⟩
theorem Ex.sc {S : Nat → Nat → Prop} {σ σ' : Sto} (h : Ex S σ σ') (hs : ∀ b k, S b k → 53 ≤ b ∧ b ≤ 65) : Sc σ σ' :=
  ⟨h.1, h.2.1, h.2.2.1, fun b k _ => h.2.2.2.1 b k, fun b hb _ k => h.2.2.2.2.2 b k (fun z => by have := hs b k z; omega), fun b _ k => h.2.2.2.2.1 b k⟩
theorem Ex.onM {S : Nat → Nat → Prop} {σ σ' : Sto} (h : Ex S σ σ') (hs : ∀ b k, S b k → 81 ≤ b ∧ b ≤ 145) : OnlyM σ σ' :=
  ⟨h.1, h.2.1, h.2.2.1, h.2.2.2.1, fun k => h.2.2.2.2.1 145 k, fun b hb => ⟨fun k => h.2.2.2.2.2 b k (fun z => by have := hs b k z; omega), fun k => h.2.2.2.2.1 b k⟩⟩
theorem Ex.rm {S : Nat → Nat → Prop} {A : Ab} {σ σ' : Sto} (h : Ex S σ σ') (hm : RM A σ) (hs : ∀ b k, S b k → pr b k = false) : RM A σ' := fun a k hp => by
  rw [h.2.2.2.2.2 a k (fun z => by rw [hs a k z] at hp; cases hp)]
  exact hm a k hp
theorem sale_ok {A : Ab} (hr : IRow A) {s : Nat} (hs : s < cT 4 A) (hk : A 97 s = 2) : (∃ w, w < cT 1 A ∧ A 98 s = Int32.ofNat w) ∧ (∃ a, a < cT 0 A ∧ A 99 s = Int32.ofNat a) ∧ (∃ b, b < cT 0 A ∧ A 100 s = Int32.ofNat b) ∧ inR (A 103 s) (nLs A) ∧ (∃ v, 1 ≤ v ∧ v ≤ 20000000 ∧ A 104 s = Int32.ofNat v) ∧ inR (A 105 s) 4 := by
  have g := hr 4 (by decide) s hs
  obtain ⟨g1, -, -, g4⟩ := g
  rw [hk] at g4
  rcases g4 with g | g | g | g | g | g
  · exact absurd g.1 (by decide)
  · exact absurd g.1 (by decide)
  · exact ⟨g.2.1, g1, g.2.2.1, g.2.2.2.1, g.2.2.2.2.1, g.2.2.2.2.2⟩
  · exact absurd g.1 (by decide)
  · exact absurd g.1 (by decide)
  · exact absurd g.1 (by decide)
def bkP (A : Ab) (s k i : Nat) : Prop := A 98 i = A 98 s ∧ A 101 i < A 101 s ∧ knB A i k = true
def agP (A : Ab) (s k i : Nat) : Prop := A 97 i = 2 ∧ bkP A s k i ∧ ¬ A 101 i < A 101 s - 365
def agB (A : Ab) (s k i : Nat) : Bool := A 97 i == 2 && (A 98 i == A 98 s && (decide (A 101 i < A 101 s) && (knB A i k && !decide (A 101 i < A 101 s - 365))))
theorem agB_iff {A : Ab} {s k i : Nat} : agB A s k i = true ↔ agP A s k i := by
  unfold agB agP bkP
  rw [Bool.and_eq_true, Bool.and_eq_true, Bool.and_eq_true, Bool.and_eq_true, beq_iff_eq, beq_iff_eq, decide_eq_true_eq, Bool.not_eq_true', decide_eq_false_iff_not]
  exact ⟨fun ⟨a, b, c, d, e⟩ => ⟨a, ⟨b, c, d⟩, e⟩, fun ⟨a, ⟨b, c, d⟩, e⟩ => ⟨a, b, c, d, e⟩⟩
def agR (A : Ab) (s k : Nat) : Nat → Int32
  | 0 => 0
  | n + 1 => if agB A s k n then agR A s k n + 1 else agR A s k n
def cmP (A : Ab) (s k i : Nat) : Prop := (A 97 i = 2 ∨ A 97 i = 3) ∧ bkP A s k i ∧ A 100 i = A 99 s
def cmB (A : Ab) (s k i : Nat) : Bool := (A 97 i == 2 || A 97 i == 3) && (A 98 i == A 98 s && (decide (A 101 i < A 101 s) && (knB A i k && A 100 i == A 99 s)))
theorem cmB_iff {A : Ab} {s k i : Nat} : cmB A s k i = true ↔ cmP A s k i := by
  unfold cmB cmP bkP
  rw [Bool.and_eq_true, Bool.and_eq_true, Bool.and_eq_true, Bool.and_eq_true, Bool.or_eq_true, beq_iff_eq, beq_iff_eq, beq_iff_eq, beq_iff_eq, decide_eq_true_eq]
  exact ⟨fun ⟨a, b, c, d, e⟩ => ⟨a, ⟨b, c, d⟩, e⟩, fun ⟨a, ⟨b, c, d⟩, e⟩ => ⟨a, b, c, d, e⟩⟩
def cmR (A : Ab) (s k : Nat) : Nat → Option Nat
  | 0 => none
  | n + 1 => if cmB A s k n && okK (A 101) n (cmR A s k n) then some n else cmR A s k n
theorem cmR_lt {A : Ab} {s k y : Nat} : ∀ n, cmR A s k n = some y → y < n ∧ cmP A s k y
  | 0, h => by cases h
  | n + 1, h => by
    unfold cmR at h
    by_cases c : (cmB A s k n && okK (A 101) n (cmR A s k n)) = true
    · rw [if_pos c] at h
      cases h
      rw [Bool.and_eq_true] at c
      exact ⟨by omega, cmB_iff.mp c.1⟩
    · rw [if_neg c] at h
      have := cmR_lt n h
      exact ⟨by omega, this.2⟩
def gdV (A : Ab) : Option Nat → Int32
  | none => -1
  | some j => A 101 j
def frO (A : Ab) (w : Nat) : Option Nat → Int32
  | none => 0
  | some j => if byR A w (A 99 j) (aM A w) 0 then 1 else 0
def hdO (A : Ab) (s : Nat) : Option Nat → Int32
  | none => 99999
  | some j => A 101 s - A 101 j
set_option maxHeartbeats 1000000 in
theorem C_look_l {A : Ab} {s w k : Nat} (hk : k ≤ 999) (hs : s < cT 4 A) (hks : A 97 s = 2) (hw : w < cT 1 A) (hws : A 98 s = Int32.ofNat w) : ∀ m i fuel σ, CB A σ → sR σ 53 6 = sR σ 35 w → sI σ 53 1 = Int32.ofNat k → i + m = cT 4 A → m < fuel → sI σ 53 9 = agR A s k i → ∃ σ', mX0_look_63 fuel (sR σ 38 s) (gdV A (cmR A s k i)) (frO A w (cmR A s k i)) (Int32.ofNat i) σ = mX0_look_232 (frO A w (cmR A s k (cT 4 A))) (hdO A s (cmR A s k (cT 4 A))) σ' ∧ Ex (fun b j => b = 53 ∧ j = 9) σ σ' ∧ sI σ' 53 9 = agR A s k (cT 4 A) := by
  intro m
  induction m with
  | zero =>
    intro i fuel σ h h6 h1 hi hf h9
    have hr := h.2.2.2.2.2.1
    have hl : cT 4 A ≤ 200 := (h.1.le (c := 4) (by decide)).1
    have hn : sI σ 33 11 = Int32.ofNat (cT 4 A) := h.num (c := 4) (by decide)
    obtain ⟨n, rfl⟩ : ∃ n, fuel = n + 1 := ⟨fuel - 1, by omega⟩
    have e : i = cT 4 A := by omega
    subst e
    obtain ⟨k0s, -⟩ := h.fa hs
    have dS : sI σ (sR σ 38 s) 6 = A 101 s := (C_day h hs (by rw [hks]; decide)).trans (day_n hr hs).2.symm
    refine ⟨σ, ?_, Ex.rf, h9⟩
    refine Eq.trans (b := mX0_look_63B (mX0_look_63 n) (sR σ 38 s) (gdV A (cmR A s k (cT 4 A))) (frO A w (cmR A s k (cT 4 A))) (Int32.ofNat (cT 4 A)) σ) rfl ?_
    unfold mX0_look_63B
    rw [hn, if_pos ((oI_le (by omega) (by omega)).mpr (Nat.le_refl _))]
    cases q : cmR A s k (cT 4 A) with
    | none => rw [if_pos (show gdV A none = -1 from rfl)]; rfl
    | some j =>
      have hj := (cmR_lt _ q).1
      rw [if_neg (show ¬ gdV A (some j) = -1 from fun z => by
        have := (day_n hr hj)
        rw [show gdV A (some j) = A 101 j from rfl, this.2] at z
        exact ne_neg1 (by omega) z), if_pos k0s, dS]
      rfl
  | succ m ih =>
    intro i fuel σ h h6 h1 hi hf h9
    have hr := h.2.2.2.2.2.1
    have hl : cT 4 A ≤ 200 := (h.1.le (c := 4) (by decide)).1
    have hn : sI σ 33 11 = Int32.ofNat (cT 4 A) := h.num (c := 4) (by decide)
    obtain ⟨n, rfl⟩ : ∃ n, fuel = n + 1 := ⟨fuel - 1, by omega⟩
    have hi2 : i < cT 4 A := by omega
    obtain ⟨k0s, f0s, f2s, f3s, f4s, f5s, f6s, -⟩ := h.fa hs
    have dS : sI σ (sR σ 38 s) 6 = A 101 s := (C_day h hs (by rw [hks]; decide)).trans (day_n hr hs).2.symm
    obtain ⟨k0, f0, f2, f3, f4, f5, f6, -⟩ := h.fa hi2
    have eA : agR A s k (i + 1) = if agB A s k i then agR A s k i + 1 else agR A s k i := rfl
    have eC : cmR A s k (i + 1) = if cmB A s k i && okK (A 101) i (cmR A s k i) then some i else cmR A s k i := rfl
    -- nothing of this one
    have sk : agB A s k i = false → cmB A s k i = false → ∃ σ', mX0_look_63 n (sR σ 38 s) (gdV A (cmR A s k i)) (frO A w (cmR A s k i)) (Int32.ofNat i + 1) σ = mX0_look_232 (frO A w (cmR A s k (cT 4 A))) (hdO A s (cmR A s k (cT 4 A))) σ' ∧ Ex (fun b j => b = 53 ∧ j = 9) σ σ' ∧ sI σ' 53 9 = agR A s k (cT 4 A) := fun e1 e2 => by
      rw [e1] at eA
      rw [e2] at eC
      have eC' : cmR A s k (i + 1) = cmR A s k i := eC
      have eA' : agR A s k (i + 1) = agR A s k i := eA
      rw [oI_s, ← eC']
      exact ih (i + 1) n σ h h6 h1 (by omega) (by omega) (by rw [eA']; exact h9)
    have step : mX0_look_63 (n + 1) (sR σ 38 s) (gdV A (cmR A s k i)) (frO A w (cmR A s k i)) (Int32.ofNat i) σ = mX0_look_63B (mX0_look_63 n) (sR σ 38 s) (gdV A (cmR A s k i)) (frO A w (cmR A s k i)) (Int32.ofNat i) σ := rfl
    rw [step]
    unfold mX0_look_63B
    rw [hn, if_neg (fun q => absurd ((oI_le (by omega) (by omega)).mp q) (by omega)), h.at4 hi2, bnd_some, if_pos k0s, if_pos k0, f3s, hws, C_hand h hi2, bnd_some, dS]
    by_cases c : (A 97 i = 2 ∨ A 97 i = 3 ∨ A 97 i = 4) ∧ A 98 i = Int32.ofNat w
    · rw [if_pos c, if_neg i10]
      have nk1 : A 97 i ≠ 1 := fun q => by
        rcases c.1 with z | z | z <;> rw [q] at z <;> exact absurd z (by decide)
      have dI : sI σ (sR σ 38 i) 6 = A 101 i := (C_day h hi2 nk1).trans (day_n hr hi2).2.symm
      rw [dI]
      have c98 : A 98 i = A 98 s := c.2.trans hws.symm
      by_cases c1 : A 101 s ≤ A 101 i
      · rw [if_pos c1]
        exact sk (by
          cases e : agB A s k i with
          | false => rfl
          | true => exact absurd (agB_iff.mp e).2.1.2.1 (nlt.mpr c1)) (by
          cases e : cmB A s k i with
          | false => rfl
          | true => exact absurd (cmB_iff.mp e).2.1.2.1 (nlt.mpr c1))
      · rw [if_neg c1, h1, h.known hi2 hk, bnd_some]
        cases c2 : knB A i k with
        | false =>
          rw [if_pos (show (if false = true then (1 : Int32) else 0) = 0 from rfl)]
          exact sk (by
            cases e : agB A s k i with
            | false => rfl
            | true => have := (agB_iff.mp e).2.1.2.2; rw [c2] at this; cases this) (by
            cases e : cmB A s k i with
            | false => rfl
            | true => have := (cmB_iff.mp e).2.1.2.2; rw [c2] at this; cases this)
        | true =>
          rw [if_neg (show ¬ (if true = true then (1 : Int32) else 0) = 0 from i10), f2]
          have bk : bkP A s k i := ⟨c98, nle.mp c1, c2⟩
          -- behind the counting
          have s160 : ∀ τ, CB A τ → (∀ b j, sR τ b j = sR σ b j) → Ex (fun b j => b = 53 ∧ j = 9) σ τ → sI τ 53 9 = agR A s k (i + 1) → ∃ σ', mX0_look_160 (mX0_look_63 n) (sR σ 38 s) (gdV A (cmR A s k i)) (frO A w (cmR A s k i)) (Int32.ofNat i) (sR σ 38 i) τ = mX0_look_232 (frO A w (cmR A s k (cT 4 A))) (hdO A s (cmR A s k (cT 4 A))) σ' ∧ Ex (fun b j => b = 53 ∧ j = 9) σ σ' ∧ sI σ' 53 9 = agR A s k (cT 4 A) := fun τ hτ hR hE h9τ => by
            have h6τ : sR τ 53 6 = sR τ 35 w := by rw [hR, hR]; exact h6
            have h1τ : sI τ 53 1 = Int32.ofNat k := by rw [hE.2.2.2.2.2 53 1 (by omega)]; exact h1
            obtain ⟨k0', f0', f2', f3', f4', f5', f6', -⟩ := hτ.fa hi2
            obtain ⟨k0s', f0s', f2s', f3s', f4s', -⟩ := hτ.fa hs
            rw [hR] at k0' f2' f4' f5' k0s' f4s'
            have dI' : sI τ (sR σ 38 i) 6 = A 101 i := by
              have := (C_day hτ hi2 nk1).trans (day_n hr hi2).2.symm
              rw [hR] at this; exact this
            have go : ∀ o, cmR A s k (i + 1) = o → ∃ σ', mX0_look_63 n (sR σ 38 s) (gdV A o) (frO A w o) (Int32.ofNat i + 1) τ = mX0_look_232 (frO A w (cmR A s k (cT 4 A))) (hdO A s (cmR A s k (cT 4 A))) σ' ∧ Ex (fun b j => b = 53 ∧ j = 9) σ σ' ∧ sI σ' 53 9 = agR A s k (cT 4 A) := fun o ho => by
              subst ho
              obtain ⟨σ', g1, g2, g3⟩ := ih (i + 1) n τ hτ h6τ h1τ (by omega) (by omega) h9τ
              rw [hR] at g1
              rw [oI_s]
              exact ⟨σ', g1, hE.tr g2, g3⟩
            unfold mX0_look_160
            rw [if_pos k0', f2']
            by_cases c4 : A 97 i = 4
            · rw [if_pos c4]
              refine go _ ?_
              rw [eC, if_neg]
              intro z
              rw [Bool.and_eq_true] at z
              have := (cmB_iff.mp z.1).1
              rw [c4] at this
              exact this.elim (fun y => absurd y (by decide)) (fun y => absurd y (by decide))
            · rw [if_neg c4, if_pos k0s', f5', if_neg c4, f4s']
              by_cases c5 : A 100 i = A 99 s
              · rw [if_pos c5, dI']
                have cp : cmB A s k i = true := cmB_iff.mpr ⟨c.1.imp id (fun z => z.elim id (fun y => absurd y c4)), bk, c5⟩
                rw [cp, Bool.true_and] at eC
                by_cases c6 : A 101 i < gdV A (cmR A s k i)
                · rw [if_pos c6]
                  refine go _ ?_
                  rw [eC, if_neg]
                  cases q : cmR A s k i with
                  | none =>
                    rw [q] at c6
                    have := day_n hr hi2
                    rw [this.2] at c6
                    exact absurd c6 (not_lt_neg1 (by omega))
                  | some j =>
                    rw [q] at c6
                    intro z
                    exact nlt.mpr (of_decide_eq_true z) c6
                · rw [if_neg c6]
                  have k10 := hτ.wa hw
                  rw [hR] at k10
                  rw [h6τ, hR, if_pos k10.1, f4']
                  have ib := C_isBy hτ hw (A 99 i)
                  rw [hR] at ib
                  rw [ib, bnd_some]
                  refine go (some i) ?_
                  rw [eC, if_pos]
                  cases q : cmR A s k i with
                  | none => rfl
                  | some j =>
                    rw [q] at c6
                    exact decide_eq_true (nlt.mp c6)
              · rw [if_neg c5]
                refine go _ ?_
                rw [eC, if_neg]
                intro z
                rw [Bool.and_eq_true] at z
                exact c5 (cmB_iff.mp z.1).2.2
          by_cases c3 : A 97 i = 2
          · rw [if_pos c3]
            by_cases c7 : A 101 i < A 101 s - 365
            · rw [if_pos c7]
              refine s160 σ h (fun _ _ => rfl) Ex.rf ?_
              rw [eA, if_neg (fun z => (agB_iff.mp z).2.2 c7)]; exact h9
            · rw [if_neg c7]
              simp only [stp]
              refine s160 _ (h.sc (Sc.rf.w 53 9 _ (by decide))) (fun _ _ => rfl) (Ex.rf.w _ ⟨rfl, rfl⟩) ?_
              rw [sI_wI, if_pos ⟨rfl, rfl⟩, h9, eA, if_pos (agB_iff.mpr ⟨c3, bk, c7⟩)]
          · rw [if_neg c3]
            refine s160 σ h (fun _ _ => rfl) Ex.rf ?_
            rw [eA, if_neg (fun z => c3 (agB_iff.mp z).1)]; exact h9
    · rw [if_neg c, if_pos rfl]
      exact sk (by
        cases e : agB A s k i with
        | false => rfl
        | true => have g := agB_iff.mp e; exact absurd ⟨Or.inl g.1, g.2.1.1.trans hws⟩ c) (by
        cases e : cmB A s k i with
        | false => rfl
        | true => have g := cmB_iff.mp e; exact absurd ⟨g.1.imp id Or.inl, g.2.1.1.trans hws⟩ c)
