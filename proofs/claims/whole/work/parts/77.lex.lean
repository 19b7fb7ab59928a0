/-! TOKENS -/
theorem lt_lit {x m : Nat} {v : Int32} (hv : v = Int32.ofNat m) (hx : x < 2147483648) (hm : m < 2147483648) : (Int32.ofNat x < v) ↔ x < m := by rw [hv]; exact oI_lt hx hm
theorem lit_lt {x m : Nat} {v : Int32} (hv : v = Int32.ofNat m) (hm : m < 2147483648) (hx : x < 2147483648) : (v < Int32.ofNat x) ↔ m < x := by rw [hv]; exact oI_lt hm hx
theorem lit_le {x m : Nat} {v : Int32} (hv : v = Int32.ofNat m) (hm : m < 2147483648) (hx : x < 2147483648) : (v ≤ Int32.ofNat x) ↔ m ≤ x := by rw [hv]; exact oI_le hm hx
theorem le_lit {x m : Nat} {v : Int32} (hv : v = Int32.ofNat m) (hx : x < 2147483648) (hm : m < 2147483648) : (Int32.ofNat x ≤ v) ↔ x ≤ m := by rw [hv]; exact oI_le hx hm
theorem eq_lit {x m : Nat} {v : Int32} (hv : v = Int32.ofNat m) (hx : x < 2147483648) (hm : m < 2147483648) : (Int32.ofNat x = v) ↔ x = m := by rw [hv]; exact oI_eq hx hm
/-- the first place from e on where P does not hold, n at the most -/
def rnD (P : Nat → Bool) (n : Nat) : Nat → Nat
  | 0 => n
  | m + 1 => if P (n - (m + 1)) then rnD P n m else n - (m + 1)
def rn (P : Nat → Bool) (n e : Nat) : Nat := rnD P n (n - e)
theorem rn_n {P : Nat → Bool} {n e : Nat} (h : n ≤ e) : rn P n e = n := by
  unfold rn
  rw [show n - e = 0 by omega]; rfl
theorem rn_s {P : Nat → Bool} {n e : Nat} (h : e < n) : rn P n e = if P e then rn P n (e + 1) else e := by
  unfold rn
  rw [show n - e = (n - (e + 1)) + 1 by omega]
  show (if P (n - (n - (e + 1) + 1)) then rnD P n (n - (e + 1)) else n - (n - (e + 1) + 1)) = _
  rw [show n - (n - (e + 1) + 1) = e by omega]
theorem rn_b {P : Nat → Bool} {n : Nat} : ∀ m e, e + m = n → e ≤ rn P n e ∧ rn P n e ≤ n ∧ (∀ x, e ≤ x → x < rn P n e → P x = true) ∧ (rn P n e < n → P (rn P n e) = false)
  | 0, e, h => by
    rw [rn_n (by omega)]
    exact ⟨by omega, Nat.le_refl _, fun x _ _ => by omega, fun _ => by omega⟩
  | m + 1, e, h => by
    obtain ⟨h1, h2, h3, h4⟩ := rn_b (P := P) (n := n) m (e + 1) (by omega)
    rw [rn_s (by omega)]
    cases c : P e with
    | true =>
      rw [if_pos rfl]
      refine ⟨by omega, h2, fun x x1 x2 => ?_, h4⟩
      by_cases q : x = e
      · rw [q]; exact c
      · exact h3 x (by omega) x2
    | false =>
      rw [if_neg (by decide)]
      exact ⟨Nat.le_refl _, by omega, fun x _ _ => by omega, fun _ => c⟩
/-- blanks, letters, digits, signs -/
def bkB (b : Nat → Nat) (x : Nat) : Bool := b x == 32 || b x == 10
def ltB (b : Nat → Nat) (x : Nat) : Bool := decide (97 ≤ b x) && decide (b x ≤ 122)
def dgB (b : Nat → Nat) (x : Nat) : Bool := decide (48 ≤ b x) && decide (b x ≤ 57)
def sgB (c : Nat) : Bool := c == 59 || c == 40 || c == 41 || c == 43 || c == 45 || c == 42 || c == 47 || c == 60 || c == 61
/-- where the token at s ends -/
def tkE (b : Nat → Nat) (n s : Nat) : Nat := if n ≤ s then s else if ltB b s then rn (ltB b) n (s + 1) else if dgB b s then rn (dgB b) n (s + 1) else s + 1
/-- what it is, in the class's words -/
def tc (b : Nat → Nat) (n s : Nat) : Nat := if n ≤ s then 0 else if ltB b s then 2 else if dgB b s then 3 else if sgB (b s) then b s else 1
/-- the first k digits from s on -/
def nvD (b : Nat → Nat) (s : Nat) : Nat → Nat
  | 0 => 0
  | k + 1 => nvD b s k * 10 + (b (s + k) - 48)
def nv (b : Nat → Nat) (n s : Nat) : Nat := if tc b n s = 3 then nvD b s (min 8 (tkE b n s - s)) else 0
/-- the next token -/
def nx (b : Nat → Nat) (n s : Nat) : Nat := rn (bkB b) n (tkE b n s)
theorem tkE_le {b : Nat → Nat} {n s : Nat} (h : s ≤ n) : s ≤ tkE b n s ∧ tkE b n s ≤ n ∧ (s < n → s < tkE b n s) := by
  unfold tkE
  by_cases c : n ≤ s
  · rw [if_pos c]; exact ⟨Nat.le_refl _, h, fun q => by omega⟩
  · rw [if_neg c]
    cases ltB b s with
    | true =>
      rw [if_pos rfl]
      have := rn_b (P := ltB b) (n := n) (n - (s + 1)) (s + 1) (by omega)
      exact ⟨by omega, this.2.1, fun _ => by omega⟩
    | false =>
      rw [if_neg (by decide)]
      cases dgB b s with
      | true =>
        rw [if_pos rfl]
        have := rn_b (P := dgB b) (n := n) (n - (s + 1)) (s + 1) (by omega)
        exact ⟨by omega, this.2.1, fun _ => by omega⟩
      | false => rw [if_neg (by decide)]; exact ⟨by omega, by omega, fun _ => by omega⟩
theorem nx_le {b : Nat → Nat} {n s : Nat} (h : s ≤ n) : s ≤ nx b n s ∧ nx b n s ≤ n ∧ (s < n → s < nx b n s) := by
  obtain ⟨h1, h2, h3⟩ := tkE_le (b := b) h
  have := rn_b (P := bkB b) (n := n) (n - tkE b n s) (tkE b n s) (by omega)
  unfold nx
  exact ⟨by omega, this.2.1, fun q => by have := h3 q; omega⟩
theorem nvD_lt {b : Nat → Nat} {s : Nat} : ∀ k, (∀ j, j < k → dgB b (s + j) = true) → nvD b s k < 10 ^ k
  | 0, _ => show 0 < 10 ^ 0 by decide
  | k + 1, h => by
    have ih := nvD_lt (b := b) (s := s) k (fun j hj => h j (by omega))
    have hd := h k (by omega)
    unfold dgB at hd
    rw [Bool.and_eq_true, decide_eq_true_eq, decide_eq_true_eq] at hd
    show nvD b s k * 10 + (b (s + k) - 48) < 10 ^ (k + 1)
    rw [Nat.pow_succ]
    omega
theorem tc_dig {b : Nat → Nat} {n s : Nat} (hs : s ≤ n) (h : tc b n s = 3) : s < n ∧ dgB b s = true ∧ ltB b s = false ∧ ∀ x, s ≤ x → x < tkE b n s → dgB b x = true := by
  unfold tc at h
  by_cases c : n ≤ s
  · rw [if_pos c] at h; cases h
  · rw [if_neg c] at h
    have hsn : s < n := by omega
    cases e1 : ltB b s with
    | true => rw [e1, if_pos rfl] at h; cases h
    | false =>
      rw [e1, if_neg (by decide)] at h
      cases e2 : dgB b s with
      | true =>
        refine ⟨hsn, rfl, rfl, fun x x1 x2 => ?_⟩
        unfold tkE at x2
        rw [if_neg c, e1, if_neg (by decide), e2, if_pos rfl] at x2
        have := (rn_b (P := dgB b) (n := n) (n - (s + 1)) (s + 1) (by omega)).2.2.1
        by_cases q : x = s
        · rw [q]; exact e2
        · exact this x (by omega) x2
      | false =>
        exfalso
        rw [e2, if_neg (by decide)] at h
        cases e3 : sgB (b s) with
        | true => rw [e3, if_pos rfl] at h; rw [h] at e3; exact absurd e3 (by decide)
        | false => rw [e3, if_neg (by decide)] at h; cases h
theorem nv_lt {b : Nat → Nat} {n s : Nat} (hs : s ≤ n) : nv b n s < 100000000 := by
  unfold nv
  by_cases c : tc b n s = 3
  · rw [if_pos c]
    obtain ⟨-, -, -, h4⟩ := tc_dig hs c
    have h := nvD_lt (b := b) (s := s) (min 8 (tkE b n s - s)) (fun j hj => h4 (s + j) (by omega) (by omega))
    exact Nat.lt_of_lt_of_le h (Nat.le_trans (Nat.pow_le_pow_right (by decide) (Nat.min_le_left _ _)) (by decide))
  · rw [if_neg c]; decide
/-! the class's reader: where it reads -/
def EC (b : Nat → Nat) (n : Nat) (σ : Sto) : Prop := sR σ 67 0 = 74 ∧ sK σ 74 = 100 ∧ sN σ 74 = 500 ∧ sI σ 67 1 = Int32.ofNat n ∧ ∀ j, j < 500 → sI σ 74 j = Int32.ofNat (b j)
def S67 (b j : Nat) : Prop := b = 67 ∧ 6 ≤ j ∧ j ≤ 10
theorem EC.ex {b : Nat → Nat} {n : Nat} {S : Nat → Nat → Prop} {σ σ' : Sto} (h : EC b n σ) (hE : Ex S σ σ') (hS : ∀ x j, S x j → x ≠ 74 ∧ ¬ (x = 67 ∧ j = 1)) : EC b n σ' := by
  obtain ⟨h1, h2, h3, h4, h5⟩ := h
  have r := hE.2.2.2.2.2
  exact ⟨by rw [hE.2.2.2.1]; exact h1, by rw [hE.2.1]; exact h2, by rw [hE.2.2.1]; exact h3, by rw [r 67 1 (fun z => (hS _ _ z).2 ⟨rfl, rfl⟩)]; exact h4, fun j hj => by rw [r 74 j (fun z => (hS _ _ z).1 rfl)]; exact h5 j hj⟩
theorem S67_ec : ∀ x j, S67 x j → x ≠ 74 ∧ ¬ (x = 67 ∧ j = 1) := fun x j h => by unfold S67 at h; omega
/-- the class stands at a token -/
def TSC (b : Nat → Nat) (n s : Nat) (σ : Sto) : Prop := sI σ 67 6 = Int32.ofNat (tc b n s) ∧ sI σ 67 7 = Int32.ofNat s ∧ sI σ 67 8 = Int32.ofNat (tkE b n s) ∧ sI σ 67 9 = Int32.ofNat (nv b n s) ∧ sI σ 67 10 = Int32.ofNat (if tc b n s = 3 then tkE b n s - s else 0)
theorem idx_s : ((List.range 256).all fun x => match mS_indexOf (((Int32.ofNat x).toUInt32 % 65536).toInt32) with
  | some r => decide (r < 0) == !sgB x
  | none => false) = true := by decide +kernel
theorem idx_ok {x : Nat} (hx : x < 256) : ∃ r, mS_indexOf (((Int32.ofNat x).toUInt32 % 65536).toInt32) = some r ∧ (r < 0 ↔ sgB x = false) := by
  have k := idx_s
  rw [List.all_eq_true] at k
  have k1 := k x (List.mem_range.mpr hx)
  cases e : mS_indexOf (((Int32.ofNat x).toUInt32 % 65536).toInt32) with
  | none => rw [e] at k1; cases k1
  | some r =>
    rw [e] at k1
    refine ⟨r, rfl, ?_⟩
    have k2 : (decide (r < 0) == !sgB x) = true := k1
    rw [beq_iff_eq] at k2
    cases e2 : sgB x with
    | true =>
      rw [e2] at k2
      exact ⟨fun q => absurd q (of_decide_eq_false k2), fun q => by cases q⟩
    | false =>
      rw [e2] at k2
      exact ⟨fun _ => rfl, fun _ => of_decide_eq_true k2⟩
theorem C_let {b : Nat → Nat} {n : Nat} (hn : n ≤ 500) (hb : ∀ j, b j < 256) : ∀ m e fuel σ, e + m = n → m < fuel → EC b n σ → sI σ 67 8 = Int32.ofNat e → ∃ σ', mX7_next_122 fuel σ = some σ' ∧ Ex (fun x j => x = 67 ∧ j = 8) σ σ' ∧ sI σ' 67 8 = Int32.ofNat (rn (ltB b) n e) := by
  intro m
  induction m with
  | zero =>
    intro e fuel σ he hf h h8
    obtain ⟨g, rfl⟩ : ∃ g, fuel = g + 1 := ⟨fuel - 1, by omega⟩
    refine ⟨σ, ?_, Ex.rf, by rw [rn_n (by omega), h8, show e = n by omega]⟩
    show mX7_next_122B (mX7_next_122 g) σ = _
    unfold mX7_next_122B
    rw [h.2.2.2.1, h8, if_pos ((oI_le (by omega) (by omega)).mpr (by omega))]
  | succ m ih =>
    intro e fuel σ he hf h h8
    obtain ⟨g, rfl⟩ : ∃ g, fuel = g + 1 := ⟨fuel - 1, by omega⟩
    obtain ⟨h1, h2, h3, h4, h5⟩ := id h
    have hbe := hb e
    have step : mX7_next_122 (g + 1) σ = if Int32.ofNat (b e) < 97 then some σ else if 122 < Int32.ofNat (b e) then some σ else mX7_next_122 g (wI σ 67 8 (Int32.ofNat (e + 1))) := by
      show mX7_next_122B (mX7_next_122 g) σ = _
      unfold mX7_next_122B
      rw [h4, h8, if_neg (fun q => absurd ((oI_le (by omega) (by omega)).mp q) (by omega)), h1, if_pos h2, h3, if_pos (oI_inb (by omega) (by decide)), oI_cl (j := e) (by omega), h5 e (by omega), oI_s]
    rw [step, rn_s (by omega)]
    by_cases c1 : b e < 97
    · rw [if_pos ((lt_lit (v := 97) (m := 97) rfl (by omega) (by decide)).mpr c1)]
      have : ltB b e = false := by unfold ltB; rw [decide_eq_false (by omega), Bool.false_and]
      rw [this, if_neg (by decide)]
      exact ⟨σ, rfl, Ex.rf, h8⟩
    · rw [if_neg (fun q => c1 ((lt_lit (v := 97) (m := 97) rfl (by omega) (by decide)).mp q))]
      by_cases c2 : 122 < b e
      · rw [if_pos ((lit_lt (v := 122) (m := 122) rfl (by decide) (by omega)).mpr c2)]
        have : ltB b e = false := by unfold ltB; rw [decide_eq_false (p := b e ≤ 122) (by omega), Bool.and_false]
        rw [this, if_neg (by decide)]
        exact ⟨σ, rfl, Ex.rf, h8⟩
      · rw [if_neg (fun q => c2 ((lit_lt (v := 122) (m := 122) rfl (by decide) (by omega)).mp q))]
        have : ltB b e = true := by unfold ltB; rw [decide_eq_true (by omega), decide_eq_true (by omega)]; rfl
        rw [this, if_pos rfl]
        have eX : Ex (fun x j => x = 67 ∧ j = 8) σ (wI σ 67 8 (Int32.ofNat (e + 1))) := Ex.rf.w _ ⟨rfl, rfl⟩
        obtain ⟨σ', z1, z2, z3⟩ := ih (e + 1) g _ (by omega) (by omega) (h.ex eX (fun x j z => by omega)) (by rw [sI_wI, if_pos ⟨rfl, rfl⟩])
        exact ⟨σ', z1, eX.tr z2, z3⟩
def S8A (x j : Nat) : Prop := x = 67 ∧ 8 ≤ j ∧ j ≤ 10
theorem C_dig {b : Nat → Nat} {n s : Nat} (hn : n ≤ 500) (hb : ∀ j, b j < 256) : ∀ m e fuel σ, e + m = n → s ≤ e → m < fuel → EC b n σ → (∀ x, s ≤ x → x < e → dgB b x = true) → sI σ 67 8 = Int32.ofNat e → sI σ 67 9 = Int32.ofNat (nvD b s (min 8 (e - s))) → sI σ 67 10 = Int32.ofNat (e - s) → ∃ σ', mX7_next_207 fuel σ = some σ' ∧ Ex S8A σ σ' ∧ sI σ' 67 8 = Int32.ofNat (rn (dgB b) n e) ∧ sI σ' 67 9 = Int32.ofNat (nvD b s (min 8 (rn (dgB b) n e - s))) ∧ sI σ' 67 10 = Int32.ofNat (rn (dgB b) n e - s) := by
  intro m
  induction m with
  | zero =>
    intro e fuel σ he hs hf h hd h8 h9 h10
    obtain ⟨g, rfl⟩ : ∃ g, fuel = g + 1 := ⟨fuel - 1, by omega⟩
    rw [rn_n (by omega), ← show e = n by omega]
    refine ⟨σ, ?_, Ex.rf, h8, h9, h10⟩
    show mX7_next_207B (mX7_next_207 g) σ = _
    unfold mX7_next_207B
    rw [h.2.2.2.1, h8, if_pos ((oI_le (by omega) (by omega)).mpr (by omega))]
  | succ m ih =>
    intro e fuel σ he hs hf h hd h8 h9 h10
    obtain ⟨g, rfl⟩ : ∃ g, fuel = g + 1 := ⟨fuel - 1, by omega⟩
    obtain ⟨h1, h2, h3, h4, h5⟩ := id h
    have hbe := hb e
    have step : mX7_next_207 (g + 1) σ = if Int32.ofNat (b e) < 48 then some σ else if 57 < Int32.ofNat (b e) then some σ else if 8 ≤ Int32.ofNat (e - s) then mX7_next_283 (mX7_next_207 g) (sI σ 67 9) σ else mX7_next_283 (mX7_next_207 g) (((sI σ 67 9) * 10 + Int32.ofNat (b e)) - 48) σ := by
      show mX7_next_207B (mX7_next_207 g) σ = _
      unfold mX7_next_207B
      rw [h4, h8, if_neg (fun q => absurd ((oI_le (by omega) (by omega)).mp q) (by omega)), h1, if_pos h2, h3, if_pos (oI_inb (by omega) (by decide)), oI_cl (j := e) (by omega), h5 e (by omega), h10]
    rw [step, rn_s (by omega)]
    have hlow : nvD b s (min 8 (e - s)) < 10 ^ (min 8 (e - s)) := nvD_lt _ (fun j hj => hd _ (by omega) (by omega))
    have hp8 : 10 ^ (min 8 (e - s)) ≤ 10 ^ 8 := Nat.pow_le_pow_right (by decide) (Nat.min_le_left _ _)
    have stop : dgB b e = false → ∃ σ', some σ = some σ' ∧ Ex S8A σ σ' ∧ sI σ' 67 8 = Int32.ofNat (if dgB b e then rn (dgB b) n (e + 1) else e) ∧ sI σ' 67 9 = Int32.ofNat (nvD b s (min 8 ((if dgB b e then rn (dgB b) n (e + 1) else e) - s))) ∧ sI σ' 67 10 = Int32.ofNat ((if dgB b e then rn (dgB b) n (e + 1) else e) - s) := fun q => by
      rw [q, if_neg (by decide)]
      exact ⟨σ, rfl, Ex.rf, h8, h9, h10⟩
    by_cases c1 : b e < 48
    · rw [if_pos ((lt_lit (v := 48) (m := 48) rfl (by omega) (by decide)).mpr c1)]
      exact stop (by unfold dgB; rw [decide_eq_false (by omega), Bool.false_and])
    · rw [if_neg (fun q => c1 ((lt_lit (v := 48) (m := 48) rfl (by omega) (by decide)).mp q))]
      by_cases c2 : 57 < b e
      · rw [if_pos ((lit_lt (v := 57) (m := 57) rfl (by decide) (by omega)).mpr c2)]
        exact stop (by unfold dgB; rw [decide_eq_false (p := b e ≤ 57) (by omega), Bool.and_false])
      · rw [if_neg (fun q => c2 ((lit_lt (v := 57) (m := 57) rfl (by decide) (by omega)).mp q))]
        have d : dgB b e = true := by unfold dgB; rw [decide_eq_true (by omega), decide_eq_true (by omega)]; rfl
        rw [d, if_pos rfl]
        have go : ∀ v : Int32, v = Int32.ofNat (nvD b s (min 8 (e + 1 - s))) → ∃ σ', mX7_next_283 (mX7_next_207 g) v σ = some σ' ∧ Ex S8A σ σ' ∧ sI σ' 67 8 = Int32.ofNat (rn (dgB b) n (e + 1)) ∧ sI σ' 67 9 = Int32.ofNat (nvD b s (min 8 (rn (dgB b) n (e + 1) - s))) ∧ sI σ' 67 10 = Int32.ofNat (rn (dgB b) n (e + 1) - s) := fun v hv => by
          have e1 : mX7_next_283 (mX7_next_207 g) v σ = mX7_next_207 g (wI (wI (wI σ 67 9 v) 67 10 (Int32.ofNat (e + 1 - s))) 67 8 (Int32.ofNat (e + 1))) := by
            unfold mX7_next_283
            simp only [stp]
            rw [show sI (wI σ 67 9 v) 67 10 = sI σ 67 10 from rfl, h10, oI_s, show e - s + 1 = e + 1 - s by omega, show sI (wI (wI σ 67 9 v) 67 10 (Int32.ofNat (e + 1 - s))) 67 8 = sI σ 67 8 from rfl, h8, oI_s]
          have eX : Ex S8A σ (wI (wI (wI σ 67 9 v) 67 10 (Int32.ofNat (e + 1 - s))) 67 8 (Int32.ofNat (e + 1))) := ((Ex.rf.w (S := S8A) _ ⟨rfl, by decide, by decide⟩).w _ ⟨rfl, by decide, by decide⟩).w _ ⟨rfl, by decide, by decide⟩
          obtain ⟨σ', z1, z2, z3⟩ := ih (e + 1) g _ (by omega) (by omega) (by omega) (h.ex eX (fun x j z => by unfold S8A at z; omega)) (fun x x1 x2 => by
            by_cases q : x = e
            · rw [q]; exact d
            · exact hd x x1 (by omega)) rfl hv rfl
          exact ⟨σ', e1.trans z1, eX.tr z2, z3⟩
        by_cases c3 : 8 ≤ e - s
        · rw [if_pos ((lit_le (v := 8) (m := 8) rfl (by decide) (by omega)).mpr c3)]
          refine go _ ?_
          rw [h9, Nat.min_eq_left c3, Nat.min_eq_left (by omega)]
        · rw [if_neg (fun q => c3 ((lit_le (v := 8) (m := 8) rfl (by decide) (by omega)).mp q))]
          refine go _ ?_
          rw [h9, Nat.min_eq_right (by omega), Nat.min_eq_right (by omega), show e + 1 - s = (e - s) + 1 by omega]
          show Int32.ofNat _ * Int32.ofNat 10 + Int32.ofNat (b e) - Int32.ofNat 48 = Int32.ofNat (nvD b s (e - s) * 10 + (b (s + (e - s)) - 48))
          rw [show s + (e - s) = e by omega, oI_mul, oI_add, oI_sub (by omega)]
          congr 1
          omega
theorem C_tok {b : Nat → Nat} {n s : Nat} (hn : n ≤ 500) (hb : ∀ j, b j < 256) (hs : s ≤ n) {σ : Sto} (h : EC b n σ) (h8 : sI σ 67 8 = Int32.ofNat s) : ∃ σ', mX7_next_52 σ = some σ' ∧ Ex S67 σ σ' ∧ TSC b n s σ' := by
  have e0 : mX7_next_52 σ = (fun σ4 => if (sI σ4 67 8) < (sI σ4 67 1) then (
    if sK σ4 (sR σ4 67 0) = 100 then
    if inb (sI σ4 67 8) (sN σ4 (sR σ4 67 0)) then
    if (sI σ4 (sR σ4 67 0) ((sI σ4 67 8)).toNatClampNeg) < (97 : Int32) then (
      mX7_next_174 σ4
    ) else (
      if (122 : Int32) < (sI σ4 (sR σ4 67 0) ((sI σ4 67 8)).toNatClampNeg) then (
        mX7_next_174 σ4
      ) else (
        stp (wI σ4 67 6 (2 : Int32)) fun σ32 =>
        mX7_next_122 FU σ32
      )
    )
    else none
    else none
  ) else (
    stp (wI σ4 67 6 (0 : Int32)) fun σ43 =>
    some σ43
  )) (wI (wI (wI σ 67 7 (sI σ 67 8)) 67 9 0) 67 10 0) := rfl
  rw [e0, h8]
  have x1 : Ex S67 σ (wI (wI (wI σ 67 7 (Int32.ofNat s)) 67 9 0) 67 10 0) := ((Ex.rf.w (S := S67) _ ⟨rfl, by decide, by decide⟩).w _ ⟨rfl, by decide, by decide⟩).w _ ⟨rfl, by decide, by decide⟩
  have v7 : sI (wI (wI (wI σ 67 7 (Int32.ofNat s)) 67 9 0) 67 10 0) 67 7 = Int32.ofNat s := rfl
  have v8 : sI (wI (wI (wI σ 67 7 (Int32.ofNat s)) 67 9 0) 67 10 0) 67 8 = Int32.ofNat s := h8
  have v9 : sI (wI (wI (wI σ 67 7 (Int32.ofNat s)) 67 9 0) 67 10 0) 67 9 = 0 := rfl
  have v10 : sI (wI (wI (wI σ 67 7 (Int32.ofNat s)) 67 9 0) 67 10 0) 67 10 = 0 := rfl
  generalize wI (wI (wI σ 67 7 (Int32.ofNat s)) 67 9 0) 67 10 0 = σ4 at x1 v7 v8 v9 v10
  have h4 := h.ex x1 S67_ec
  obtain ⟨g1, g2, g3, g4, g5⟩ := id h4
  show ∃ σ', (if (sI σ4 67 8) < (sI σ4 67 1) then _ else _) = some σ' ∧ _
  rw [v8, g4, g1, g3]
  have hbe := hb s
  by_cases c0 : s < n
  · rw [if_pos ((oI_lt (by omega) (by omega)).mpr c0), if_pos g2, if_pos (oI_inb (by omega) (by decide)), oI_cl (j := s) (by omega), g5 s (by omega)]
    have nl : ¬ n ≤ s := by omega
    have nolet : ltB b s = false → ∃ σ', mX7_next_174 σ4 = some σ' ∧ Ex S67 σ4 σ' ∧ TSC b n s σ' := fun hl => by
      have e1 : mX7_next_174 σ4 = if Int32.ofNat (b s) < 48 then mX7_next_309 σ4 else if 57 < Int32.ofNat (b s) then mX7_next_309 σ4 else mX7_next_207 FU (wI σ4 67 6 3) := by
        unfold mX7_next_174
        rw [g1, if_pos g2, v8, g3, if_pos (oI_inb (by omega) (by decide)), oI_cl (j := s) (by omega), g5 s (by omega)]
      have nodig : dgB b s = false → ∃ σ', mX7_next_309 σ4 = some σ' ∧ Ex S67 σ4 σ' ∧ TSC b n s σ' := fun hd => by
        obtain ⟨r, r1, r2⟩ := idx_ok hbe
        have eE : tkE b n s = s + 1 := by unfold tkE; rw [if_neg nl, hl, if_neg (by decide), hd, if_neg (by decide)]
        have fin : ∀ y : Nat, y ≠ 3 → tc b n s = y → ∃ σ', mX7_next_341 (Int32.ofNat y) σ4 = some σ' ∧ Ex S67 σ4 σ' ∧ TSC b n s σ' := fun y hy3 hy => by
          refine ⟨wI (wI σ4 67 6 (Int32.ofNat y)) 67 8 (Int32.ofNat (s + 1)), ?_, (Ex.rf.w (S := S67) _ ⟨rfl, by decide, by decide⟩).w _ ⟨rfl, by decide, by decide⟩, ?_, ?_, ?_, ?_, ?_⟩
          · unfold mX7_next_341
            simp only [stp]
            rw [show sI (wI σ4 67 6 (Int32.ofNat y)) 67 8 = sI σ4 67 8 from rfl, v8, oI_s]
          · rw [hy]; rfl
          · exact v7
          · rw [eE]; rfl
          · unfold nv
            rw [hy, if_neg hy3]; exact v9
          · rw [hy, if_neg hy3]; exact v10
        unfold mX7_next_309
        rw [g1, if_pos g2, v8, g3, if_pos (oI_inb (by omega) (by decide)), oI_cl (j := s) (by omega), g5 s (by omega), r1, bnd_some]
        cases e3 : sgB (b s) with
        | true =>
          rw [if_neg (fun q => by have := r2.mp q; rw [e3] at this; cases this)]
          refine fin (b s) (fun q => by rw [q] at e3; exact absurd e3 (by decide)) ?_
          unfold tc
          rw [if_neg nl, hl, if_neg (by decide), hd, if_neg (by decide), e3, if_pos rfl]
        | false =>
          rw [if_pos (r2.mpr e3)]
          refine fin 1 (by decide) ?_
          unfold tc
          rw [if_neg nl, hl, if_neg (by decide), hd, if_neg (by decide), e3, if_neg (by decide)]
      rw [e1]
      by_cases c1 : b s < 48
      · rw [if_pos ((lt_lit (v := 48) (m := 48) rfl (by omega) (by decide)).mpr c1)]
        exact nodig (by unfold dgB; rw [decide_eq_false (by omega), Bool.false_and])
      · rw [if_neg (fun q => c1 ((lt_lit (v := 48) (m := 48) rfl (by omega) (by decide)).mp q))]
        by_cases c2 : 57 < b s
        · rw [if_pos ((lit_lt (v := 57) (m := 57) rfl (by decide) (by omega)).mpr c2)]
          exact nodig (by unfold dgB; rw [decide_eq_false (p := b s ≤ 57) (by omega), Bool.and_false])
        · rw [if_neg (fun q => c2 ((lit_lt (v := 57) (m := 57) rfl (by decide) (by omega)).mp q))]
          have d : dgB b s = true := by unfold dgB; rw [decide_eq_true (by omega), decide_eq_true (by omega)]; rfl
          have eT : tc b n s = 3 := by unfold tc; rw [if_neg nl, hl, if_neg (by decide), d, if_pos rfl]
          have eE : tkE b n s = rn (dgB b) n s := by
            unfold tkE
            rw [if_neg nl, hl, if_neg (by decide), d, if_pos rfl, rn_s c0, d, if_pos rfl]
          have xX : Ex S67 σ4 (wI σ4 67 6 3) := Ex.rf.w _ ⟨rfl, by decide, by decide⟩
          obtain ⟨σ', z1, z2, z3, z4, z5⟩ := C_dig (b := b) (n := n) (s := s) hn hb (n - s) s FU (wI σ4 67 6 3) (by omega) (Nat.le_refl _) (show n - s < 5000 by omega) (h4.ex xX S67_ec) (fun x x1 x2 => by omega) v8 (by rw [show s - s = 0 by omega]; exact v9) (by rw [show s - s = 0 by omega]; exact v10)
          have r : ∀ j, j < 8 → sI σ' 67 j = sI (wI σ4 67 6 3) 67 j := fun j hj => z2.2.2.2.2.2 67 j (by unfold S8A; omega)
          refine ⟨σ', z1, xX.tr (z2.mono fun x j z => by unfold S8A at z; unfold S67; omega), ?_, ?_, ?_, ?_, ?_⟩
          · rw [eT, r 6 (by decide)]; rfl
          · rw [r 7 (by decide)]; exact v7
          · rw [eE]; exact z3
          · unfold nv; rw [if_pos eT, eE]; exact z4
          · rw [if_pos eT, eE]; exact z5
    have fin : ∀ σ5, (∃ σ', some σ5 = some σ' ∧ Ex S67 σ4 σ' ∧ TSC b n s σ') → True := fun _ _ => trivial
    by_cases c1 : b s < 97
    · rw [if_pos ((lt_lit (v := 97) (m := 97) rfl (by omega) (by decide)).mpr c1)]
      obtain ⟨σ', z1, z2, z3⟩ := nolet (by unfold ltB; rw [decide_eq_false (by omega), Bool.false_and])
      exact ⟨σ', z1, x1.tr z2, z3⟩
    · rw [if_neg (fun q => c1 ((lt_lit (v := 97) (m := 97) rfl (by omega) (by decide)).mp q))]
      by_cases c2 : 122 < b s
      · rw [if_pos ((lit_lt (v := 122) (m := 122) rfl (by decide) (by omega)).mpr c2)]
        obtain ⟨σ', z1, z2, z3⟩ := nolet (by unfold ltB; rw [decide_eq_false (p := b s ≤ 122) (by omega), Bool.and_false])
        exact ⟨σ', z1, x1.tr z2, z3⟩
      · rw [if_neg (fun q => c2 ((lit_lt (v := 122) (m := 122) rfl (by decide) (by omega)).mp q))]
        have d : ltB b s = true := by unfold ltB; rw [decide_eq_true (by omega), decide_eq_true (by omega)]; rfl
        have eT : tc b n s = 2 := by unfold tc; rw [if_neg nl, d, if_pos rfl]
        have eE : tkE b n s = rn (ltB b) n s := by
          unfold tkE
          rw [if_neg nl, d, if_pos rfl, rn_s c0, d, if_pos rfl]
        have xX : Ex S67 σ4 (wI σ4 67 6 2) := Ex.rf.w _ ⟨rfl, by decide, by decide⟩
        obtain ⟨σ', z1, z2, z3⟩ := C_let (b := b) (n := n) hn hb (n - s) s FU (wI σ4 67 6 2) (by omega) (show n - s < 5000 by omega) (h4.ex xX S67_ec) v8
        have r : ∀ j, j ≠ 8 → sI σ' 67 j = sI (wI σ4 67 6 2) 67 j := fun j hj => z2.2.2.2.2.2 67 j (by omega)
        refine ⟨σ', z1, (x1.tr xX).tr (z2.mono fun x j z => by unfold S67; omega), ?_, ?_, ?_, ?_, ?_⟩
        · rw [eT, r 6 (by decide)]; rfl
        · rw [r 7 (by decide)]; exact v7
        · rw [eE]; exact z3
        · unfold nv; rw [eT, if_neg (by decide), r 9 (by decide)]; exact v9
        · rw [eT, if_neg (by decide), r 10 (by decide)]; exact v10
  · rw [if_neg (fun q => c0 ((oI_lt (by omega) (by omega)).mp q))]
    have eT : tc b n s = 0 := if_pos (by omega)
    have eE : tkE b n s = s := if_pos (by omega)
    refine ⟨wI σ4 67 6 0, rfl, x1.tr (Ex.rf.w (S := S67) _ ⟨rfl, by decide, by decide⟩), ?_, v7, ?_, ?_, ?_⟩
    · rw [eT]; rfl
    · rw [eE]; exact v8
    · unfold nv; rw [eT, if_neg (by decide)]; exact v9
    · rw [eT, if_neg (by decide)]; exact v10
theorem C_nxt_l {b : Nat → Nat} {n : Nat} (hn : n ≤ 500) (hb : ∀ j, b j < 256) : ∀ m e fuel σ, e + m = n → m < fuel → EC b n σ → sI σ 67 8 = Int32.ofNat e → ∃ σ', mX7_next_0 fuel σ = some σ' ∧ Ex S67 σ σ' ∧ TSC b n (rn (bkB b) n e) σ' := by
  intro m
  induction m with
  | zero =>
    intro e fuel σ he hf h h8
    obtain ⟨g, rfl⟩ : ∃ g, fuel = g + 1 := ⟨fuel - 1, by omega⟩
    have e1 : mX7_next_0 (g + 1) σ = mX7_next_52 σ := by
      show mX7_next_0B (mX7_next_0 g) σ = _
      unfold mX7_next_0B
      rw [h.2.2.2.1, h8, if_pos ((oI_le (by omega) (by omega)).mpr (by omega))]
    rw [e1, rn_n (by omega)]
    exact C_tok hn hb (Nat.le_refl _) h (by rw [h8, show e = n by omega])
  | succ m ih =>
    intro e fuel σ he hf h h8
    obtain ⟨g, rfl⟩ : ∃ g, fuel = g + 1 := ⟨fuel - 1, by omega⟩
    obtain ⟨h1, h2, h3, h4, h5⟩ := id h
    have hbe := hb e
    have step : mX7_next_0 (g + 1) σ = if b e = 32 ∨ b e = 10 then mX7_next_0 g (wI σ 67 8 (Int32.ofNat (e + 1))) else mX7_next_52 σ := by
      show mX7_next_0B (mX7_next_0 g) σ = _
      unfold mX7_next_0B mX7_next_39
      rw [h4, h8, if_neg (fun q => absurd ((oI_le (by omega) (by omega)).mp q) (by omega)), h1, if_pos h2, h3, if_pos (oI_inb (by omega) (by decide)), oI_cl (j := e) (by omega), h5 e (by omega), oI_s]
      simp only [stp]
      by_cases c1 : b e = 32
      · rw [if_pos (by rw [c1]; rfl), if_pos (Or.inl c1)]
      · rw [if_neg (fun q => c1 ((eq_lit (v := 32) (m := 32) rfl (by omega) (by decide)).mp q))]
        by_cases c2 : b e = 10
        · rw [if_pos (by rw [c2]; rfl), if_pos (Or.inr c2)]
        · rw [if_neg (fun q => c2 ((eq_lit (v := 10) (m := 10) rfl (by omega) (by decide)).mp q)), if_neg (fun q => q.elim c1 c2)]
    rw [step, rn_s (by omega)]
    by_cases c : b e = 32 ∨ b e = 10
    · have : bkB b e = true := by unfold bkB; rw [Bool.or_eq_true, beq_iff_eq, beq_iff_eq]; exact c
      rw [if_pos c, this, if_pos rfl]
      have eX : Ex S67 σ (wI σ 67 8 (Int32.ofNat (e + 1))) := Ex.rf.w _ ⟨rfl, by decide, by decide⟩
      obtain ⟨σ', z1, z2, z3⟩ := ih (e + 1) g _ (by omega) (by omega) (h.ex eX S67_ec) rfl
      exact ⟨σ', z1, eX.tr z2, z3⟩
    · have : bkB b e = false := by
        unfold bkB
        rw [Bool.or_eq_false_iff, beq_eq_false_iff_ne, beq_eq_false_iff_ne]
        exact ⟨fun q => c (Or.inl q), fun q => c (Or.inr q)⟩
      rw [if_neg c, this, if_neg (by decide)]
      exact C_tok hn hb (by omega) h h8
/-- the class goes to the next token -/
theorem C_nx {b : Nat → Nat} {n s : Nat} (hn : n ≤ 500) (hb : ∀ j, b j < 256) (hs : s ≤ n) {σ : Sto} (h : EC b n σ) (hT : TSC b n s σ) : ∃ σ', mX7_next σ = some σ' ∧ Ex S67 σ σ' ∧ TSC b n (nx b n s) σ' := by
  have := (tkE_le (b := b) hs).2.1
  exact C_nxt_l hn hb (n - tkE b n s) (tkE b n s) FU σ (by omega) (show n - tkE b n s < 5000 by omega) h hT.2.2.1
