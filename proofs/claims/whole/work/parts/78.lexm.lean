/-! tokens of the reference -/
/-- only cells of S, and the word that is read, were written -/
def Ey (S : Nat → Nat → Prop) (σ σ' : Sto) : Prop := sZ σ' = sZ σ ∧ (∀ b, sK σ' b = sK σ b) ∧ (∀ b, sN σ' b = sN σ b) ∧ (∀ b k, sR σ' b k = sR σ b k) ∧ (∀ b k, ¬ (b = 81 ∧ k = 49) → sL σ' b k = sL σ b k) ∧ ∀ b k, ¬ S b k → sI σ' b k = sI σ b k
theorem Ey.rf {S : Nat → Nat → Prop} {σ : Sto} : Ey S σ σ := ⟨rfl, fun _ => rfl, fun _ => rfl, fun _ _ => rfl, fun _ _ _ => rfl, fun _ _ _ => rfl⟩
theorem Ey.tr {S : Nat → Nat → Prop} {a b c : Sto} (h : Ey S a b) (g : Ey S b c) : Ey S a c :=
  ⟨g.1.trans h.1, fun x => (g.2.1 x).trans (h.2.1 x), fun x => (g.2.2.1 x).trans (h.2.2.1 x), fun x k => (g.2.2.2.1 x k).trans (h.2.2.2.1 x k), fun x k hx => (g.2.2.2.2.1 x k hx).trans (h.2.2.2.2.1 x k hx), fun x k hx => (g.2.2.2.2.2 x k hx).trans (h.2.2.2.2.2 x k hx)⟩
theorem Ey.w {S : Nat → Nat → Prop} {σ σ0 : Sto} (h : Ey S σ σ0) {a k : Nat} (v : Int32) (ha : S a k) : Ey S σ (wI σ0 a k v) :=
  h.tr ⟨rfl, fun _ => rfl, fun _ => rfl, fun _ _ => rfl, fun _ _ _ => rfl, fun b j hb => by rw [sI_wI, if_neg (fun q : b = a ∧ j = k => hb (by rw [q.1, q.2]; exact ha))]⟩
theorem Ey.wl {S : Nat → Nat → Prop} {σ σ0 : Sto} (h : Ey S σ σ0) (v : Int64) : Ey S σ (wL σ0 81 49 v) :=
  h.tr ⟨rfl, fun _ => rfl, fun _ => rfl, fun _ _ => rfl, fun b j hb => by rw [sL_wL, if_neg hb], fun _ _ _ => rfl⟩
theorem Ey.mono {S T : Nat → Nat → Prop} {σ σ' : Sto} (h : Ey S σ σ') (hs : ∀ b k, S b k → T b k) : Ey T σ σ' := ⟨h.1, h.2.1, h.2.2.1, h.2.2.2.1, h.2.2.2.2.1, fun b k hb => h.2.2.2.2.2 b k (fun z => hb (hs b k z))⟩
theorem Ey.onM {S : Nat → Nat → Prop} {σ σ' : Sto} (h : Ey S σ σ') (hs : ∀ b k, S b k → 81 ≤ b ∧ b ≤ 145) : OnlyM σ σ' :=
  ⟨h.1, h.2.1, h.2.2.1, h.2.2.2.1, fun k => h.2.2.2.2.1 145 k (by omega), fun b hb => ⟨fun k => h.2.2.2.2.2 b k (fun z => by have := hs b k z; omega), fun k => h.2.2.2.2.1 b k (by omega)⟩⟩
def EM (b : Nat → Nat) (n : Nat) (ρ : Sto) : Prop := sI ρ 81 42 = Int32.ofNat n ∧ ∀ j, j < 500 → sI ρ 111 j = Int32.ofNat (b j)
def S43 (b j : Nat) : Prop := b = 81 ∧ 43 ≤ j ∧ j ≤ 48
theorem EM.ey {b : Nat → Nat} {n : Nat} {S : Nat → Nat → Prop} {ρ ρ' : Sto} (h : EM b n ρ) (hE : Ey S ρ ρ') (hS : ∀ x j, S x j → x ≠ 111 ∧ ¬ (x = 81 ∧ j = 42)) : EM b n ρ' := by
  have r := hE.2.2.2.2.2
  exact ⟨by rw [r 81 42 (fun z => (hS _ _ z).2 ⟨rfl, rfl⟩)]; exact h.1, fun j hj => by rw [r 111 j (fun z => (hS _ _ z).1 rfl)]; exact h.2 j hj⟩
theorem S43_em : ∀ x j, S43 x j → x ≠ 111 ∧ ¬ (x = 81 ∧ j = 42) := fun x j h => by unfold S43 at h; omega
/-- the first k letters from s on, as one number -/
def pkD (b : Nat → Nat) (s : Nat) : Nat → Nat
  | 0 => 0
  | k + 1 => pkD b s k * 32 + (b (s + k) - 96)
def so (b : Nat → Nat) (n s : Nat) : Nat := if tc b n s = 0 then 0 else if tc b n s = 2 then 1 else if tc b n s = 3 then 2 else if tc b n s = 1 then 4 else 3
/-- the reference stands at a token -/
def TSM (b : Nat → Nat) (n s : Nat) (ρ : Sto) : Prop := sI ρ 81 44 = Int32.ofNat (so b n s) ∧ sI ρ 81 45 = Int32.ofNat s ∧ sI ρ 81 43 = Int32.ofNat (tkE b n s) ∧ sI ρ 81 46 = Int32.ofNat (tkE b n s - s) ∧ sI ρ 81 47 = Int32.ofNat (nv b n s) ∧ sI ρ 81 48 = Int32.ofNat (if n ≤ s then 0 else b s) ∧ (tc b n s = 2 → sL ρ 81 49 = Int64.ofNat (pkD b s (min 9 (tkE b n s - s))))
theorem M_byte {b : Nat → Nat} {n x : Nat} (hn : n ≤ 500) (hx : x ≤ n) {ρ : Sto} (h : EM b n ρ) : mX12_byteAt (Int32.ofNat x) ρ = some (Int32.ofNat (if n ≤ x then 0 else b x)) := by
  unfold mX12_byteAt
  rw [h.1]
  by_cases c : n ≤ x
  · rw [if_pos ((oI_le (by omega) (by omega)).mpr c), if_pos c]; rfl
  · rw [if_neg (fun q => c ((oI_le (by omega) (by omega)).mp q)), if_neg c, if_pos (oI_inb (by omega) (by decide)), oI_cl (j := x) (by omega), h.2 x (by omega)]
theorem M_isLetter {x : Nat} (hx : x < 256) (ρ : Sto) : (mX12_isLetter (Int32.ofNat x) ρ = 0) ↔ ¬ (97 ≤ x ∧ x ≤ 122) := by
  unfold mX12_isLetter
  by_cases c1 : x < 97
  · rw [if_pos ((lt_lit (v := 97) (m := 97) rfl (by omega) (by decide)).mpr c1)]; exact ⟨fun _ => by omega, fun _ => rfl⟩
  · rw [if_neg (fun q => c1 ((lt_lit (v := 97) (m := 97) rfl (by omega) (by decide)).mp q))]
    by_cases c2 : 122 < x
    · rw [if_pos ((lit_lt (v := 122) (m := 122) rfl (by decide) (by omega)).mpr c2)]; exact ⟨fun _ => by omega, fun _ => rfl⟩
    · rw [if_neg (fun q => c2 ((lit_lt (v := 122) (m := 122) rfl (by decide) (by omega)).mp q))]
      exact ⟨fun q => absurd q i10, fun q => absurd ⟨by omega, by omega⟩ q⟩
theorem M_isDigit {x : Nat} (hx : x < 256) (ρ : Sto) : (mX12_isDigit (Int32.ofNat x) ρ = 0) ↔ ¬ (48 ≤ x ∧ x ≤ 57) := by
  unfold mX12_isDigit
  by_cases c1 : x < 48
  · rw [if_pos ((lt_lit (v := 48) (m := 48) rfl (by omega) (by decide)).mpr c1)]; exact ⟨fun _ => by omega, fun _ => rfl⟩
  · rw [if_neg (fun q => c1 ((lt_lit (v := 48) (m := 48) rfl (by omega) (by decide)).mp q))]
    by_cases c2 : 57 < x
    · rw [if_pos ((lit_lt (v := 57) (m := 57) rfl (by decide) (by omega)).mpr c2)]; exact ⟨fun _ => by omega, fun _ => rfl⟩
    · rw [if_neg (fun q => c2 ((lit_lt (v := 57) (m := 57) rfl (by decide) (by omega)).mp q))]
      exact ⟨fun q => absurd q i10, fun q => absurd ⟨by omega, by omega⟩ q⟩
theorem lt_iff {b : Nat → Nat} {x : Nat} : ltB b x = true ↔ 97 ≤ b x ∧ b x ≤ 122 := by unfold ltB; rw [Bool.and_eq_true, decide_eq_true_eq, decide_eq_true_eq]
theorem dg_iff {b : Nat → Nat} {x : Nat} : dgB b x = true ↔ 48 ≤ b x ∧ b x ≤ 57 := by unfold dgB; rw [Bool.and_eq_true, decide_eq_true_eq, decide_eq_true_eq]
theorem pk_step {v d : Nat} (hv : v < 2 ^ 50) (hd : d < 32) : ((Int64.ofNat v) <<< (((5 : Int32)).toInt64 &&& 63)) ||| (Int32.ofNat d).toInt64 = Int64.ofNat (v * 32 + d) := by
  rw [show ((5 : Int32)).toInt64 &&& 63 = (5 : Int64) from rfl, i64_of (by omega)]
  apply Int64.toBitVec_inj.mp
  rw [Int64.toBitVec_or, Int64.toBitVec_shiftLeft]
  rw [show (Int64.ofNat v).toBitVec = BitVec.ofNat 64 v from rfl, show (Int64.ofNat d).toBitVec = BitVec.ofNat 64 d from rfl, show (Int64.ofNat (v * 32 + d)).toBitVec = BitVec.ofNat 64 (v * 32 + d) from rfl]
  apply BitVec.eq_of_toNat_eq
  have h5 : (Int64.toBitVec 5).smod 64 = 5#64 := by decide
  rw [h5, BitVec.toNat_or, BitVec.toNat_ofNat, BitVec.toNat_ofNat]
  rw [show BitVec.ofNat 64 v <<< 5#64 = BitVec.ofNat 64 v <<< 5 from rfl, BitVec.toNat_shiftLeft, BitVec.toNat_ofNat]
  rw [Nat.mod_eq_of_lt (a := v) (by omega), Nat.mod_eq_of_lt (a := d) (by omega), Nat.mod_eq_of_lt (a := v * 32 + d) (by omega), Nat.shiftLeft_eq]
  rw [Nat.mod_eq_of_lt (a := v * 2 ^ 5) (by omega)]
  have := Nat.shiftLeft_add_eq_or_of_lt (a := v) (b := d) (i := 5) hd
  rw [Nat.shiftLeft_eq] at this
  rw [← this]
theorem pkD_lt {b : Nat → Nat} {s : Nat} : ∀ k, (∀ j, j < k → ltB b (s + j) = true) → pkD b s k < 32 ^ k
  | 0, _ => show 0 < 32 ^ 0 by decide
  | k + 1, h => by
    have ih := pkD_lt (b := b) (s := s) k (fun j hj => h j (by omega))
    have hd := lt_iff.mp (h k (by omega))
    show pkD b s k * 32 + (b (s + k) - 96) < 32 ^ (k + 1)
    rw [Nat.pow_succ]
    omega
theorem M_let {b : Nat → Nat} {n s : Nat} (hn : n ≤ 500) (hb : ∀ j, b j < 256) : ∀ m e fuel ρ, e + m = n → s ≤ e → m < fuel → EM b n ρ → (∀ x, s ≤ x → x < e → ltB b x = true) → sI ρ 81 43 = Int32.ofNat e → sI ρ 81 45 = Int32.ofNat s → sL ρ 81 49 = Int64.ofNat (pkD b s (min 9 (e - s))) →
    ∃ ρ', mX12_goes_108 fuel ρ = some ρ' ∧ Ey S43 ρ ρ' ∧ sI ρ' 81 44 = 1 ∧ sI ρ' 81 45 = Int32.ofNat s ∧ sI ρ' 81 43 = Int32.ofNat (rn (ltB b) n e) ∧ sI ρ' 81 46 = Int32.ofNat (rn (ltB b) n e - s) ∧ sI ρ' 81 47 = sI ρ 81 47 ∧ sI ρ' 81 48 = sI ρ 81 48 ∧ sL ρ' 81 49 = Int64.ofNat (pkD b s (min 9 (rn (ltB b) n e - s))) := by
  intro m
  induction m with
  | zero =>
    intro e fuel ρ he hs hf h hd h43 h45 h49
    obtain ⟨g, rfl⟩ : ∃ g, fuel = g + 1 := ⟨fuel - 1, by omega⟩
    rw [rn_n (by omega), ← show e = n by omega]
    have step : mX12_goes_108 (g + 1) ρ = some (wI (wI ρ 81 44 1) 81 46 (Int32.ofNat (e - s))) := by
      show mX12_goes_108B (mX12_goes_108 g) ρ = _
      unfold mX12_goes_108B mX12_goes_332
      rw [h43, M_byte hn (by omega) h, bnd_some, if_pos (show n ≤ e by omega), if_pos ((M_isLetter (x := 0) (by decide) ρ).mpr (by omega))]
      simp only [stp]
      rw [show sI (wI ρ 81 44 1) 81 43 = sI ρ 81 43 from rfl, h43, show sI (wI ρ 81 44 1) 81 45 = sI ρ 81 45 from rfl, h45, oI_sub hs]
    exact ⟨_, step, (Ey.rf.w (S := S43) _ ⟨rfl, by decide, by decide⟩).w _ ⟨rfl, by decide, by decide⟩, rfl, h45, h43, rfl, rfl, rfl, h49⟩
  | succ m ih =>
    intro e fuel ρ he hs hf h hd h43 h45 h49
    obtain ⟨g, rfl⟩ : ∃ g, fuel = g + 1 := ⟨fuel - 1, by omega⟩
    have hbe := hb e
    have by1 := M_byte (x := e) hn (by omega) h
    rw [if_neg (show ¬ n ≤ e by omega)] at by1
    rw [rn_s (show e < n by omega)]
    cases c : ltB b e with
    | false =>
      rw [if_neg (by decide)]
      have step : mX12_goes_108 (g + 1) ρ = some (wI (wI ρ 81 44 1) 81 46 (Int32.ofNat (e - s))) := by
        show mX12_goes_108B (mX12_goes_108 g) ρ = _
        unfold mX12_goes_108B mX12_goes_332
        rw [h43, by1, bnd_some, if_pos ((M_isLetter hbe ρ).mpr (fun q => by rw [lt_iff.mpr q] at c; cases c))]
        simp only [stp]
        rw [show sI (wI ρ 81 44 1) 81 43 = sI ρ 81 43 from rfl, h43, show sI (wI ρ 81 44 1) 81 45 = sI ρ 81 45 from rfl, h45, oI_sub hs]
      exact ⟨_, step, (Ey.rf.w (S := S43) _ ⟨rfl, by decide, by decide⟩).w _ ⟨rfl, by decide, by decide⟩, rfl, h45, h43, rfl, rfl, rfl, h49⟩
    | true =>
      rw [if_pos rfl]
      have cl := lt_iff.mp c
      have e0 : mX12_goes_108 (g + 1) ρ = if 9 ≤ Int32.ofNat (e - s) then mX12_goes_108 g (wI ρ 81 43 (Int32.ofNat (e + 1))) else mX12_goes_108 g (wI (wL ρ 81 49 (((sL ρ 81 49) <<< (((5 : Int32)).toInt64 &&& 63)) ||| (Int32.ofNat (b e) - 96).toInt64)) 81 43 (Int32.ofNat (e + 1))) := by
        show mX12_goes_108B (mX12_goes_108 g) ρ = _
        unfold mX12_goes_108B mX12_goes_159
        rw [h43, by1, bnd_some, if_neg (fun q => (M_isLetter hbe ρ).mp q cl), h45, oI_sub hs, bnd_some]
        simp only [stp]
        rw [oI_s, show ∀ v, sI (wL ρ 81 49 v) 81 43 = Int32.ofNat e from fun _ => h43, oI_s]
      have dn : ∀ x, s ≤ x → x < e + 1 → ltB b x = true := fun x x1 x2 => by
        by_cases q : x = e
        · rw [q]; exact c
        · exact hd x x1 (by omega)
      rw [e0]
      by_cases c9 : 9 ≤ e - s
      · rw [if_pos ((lit_le (v := 9) (m := 9) rfl (by decide) (by omega)).mpr c9)]
        have eX : Ey S43 ρ (wI ρ 81 43 (Int32.ofNat (e + 1))) := Ey.rf.w _ ⟨rfl, by decide, by decide⟩
        obtain ⟨ρ', z1, z2, z3⟩ := ih (e + 1) g _ (by omega) (by omega) (by omega) (h.ey eX S43_em) dn rfl h45 (by
          rw [sL_wI, h49, Nat.min_eq_left c9, Nat.min_eq_left (by omega)])
        exact ⟨ρ', z1, eX.tr z2, z3⟩
      · rw [if_neg (fun q => c9 ((lit_le (v := 9) (m := 9) rfl (by decide) (by omega)).mp q))]
        have ev : ((sL ρ 81 49) <<< (((5 : Int32)).toInt64 &&& 63)) ||| (Int32.ofNat (b e) - 96).toInt64 = Int64.ofNat (pkD b s (min 9 (e + 1 - s))) := by
          have hl := pkD_lt (b := b) (s := s) (min 9 (e - s)) (fun j hj => hd _ (by omega) (by omega))
          have hp : 32 ^ (min 9 (e - s)) ≤ 32 ^ 9 := Nat.pow_le_pow_right (by decide) (Nat.min_le_left _ _)
          rw [h49, show (96 : Int32) = Int32.ofNat 96 from rfl, oI_sub (by omega), pk_step (by omega) (by omega), Nat.min_eq_right (by omega), Nat.min_eq_right (by omega), show e + 1 - s = (e - s) + 1 by omega]
          show _ = Int64.ofNat (pkD b s (e - s) * 32 + (b (s + (e - s)) - 96))
          rw [show s + (e - s) = e by omega]
        rw [ev]
        have eX : Ey S43 ρ (wI (wL ρ 81 49 (Int64.ofNat (pkD b s (min 9 (e + 1 - s))))) 81 43 (Int32.ofNat (e + 1))) := (Ey.rf.wl _).w _ ⟨rfl, by decide, by decide⟩
        obtain ⟨ρ', z1, z2, z3⟩ := ih (e + 1) g _ (by omega) (by omega) (by omega) (h.ey eX S43_em) dn rfl h45 (by rw [sL_wI, sL_wL, if_pos ⟨rfl, rfl⟩])
        exact ⟨ρ', z1, eX.tr z2, z3⟩
theorem M_dig {b : Nat → Nat} {n s : Nat} (hn : n ≤ 500) (hb : ∀ j, b j < 256) : ∀ m e fuel ρ, e + m = n → s ≤ e → m < fuel → EM b n ρ → (∀ x, s ≤ x → x < e → dgB b x = true) → sI ρ 81 43 = Int32.ofNat e → sI ρ 81 45 = Int32.ofNat s → sI ρ 81 47 = Int32.ofNat (nvD b s (min 8 (e - s))) →
    ∃ ρ', mX12_goes_187 fuel ρ = some ρ' ∧ Ey S43 ρ ρ' ∧ sI ρ' 81 44 = 2 ∧ sI ρ' 81 45 = Int32.ofNat s ∧ sI ρ' 81 43 = Int32.ofNat (rn (dgB b) n e) ∧ sI ρ' 81 46 = Int32.ofNat (rn (dgB b) n e - s) ∧ sI ρ' 81 47 = Int32.ofNat (nvD b s (min 8 (rn (dgB b) n e - s))) ∧ sI ρ' 81 48 = sI ρ 81 48 := by
  intro m
  induction m with
  | zero =>
    intro e fuel ρ he hs hf h hd h43 h45 h47
    obtain ⟨g, rfl⟩ : ∃ g, fuel = g + 1 := ⟨fuel - 1, by omega⟩
    rw [rn_n (by omega), ← show e = n by omega]
    have step : mX12_goes_187 (g + 1) ρ = some (wI (wI ρ 81 44 2) 81 46 (Int32.ofNat (e - s))) := by
      show mX12_goes_187B (mX12_goes_187 g) ρ = _
      unfold mX12_goes_187B mX12_goes_332
      rw [h43, M_byte hn (by omega) h, bnd_some, if_pos (show n ≤ e by omega), if_pos ((M_isDigit (x := 0) (by decide) ρ).mpr (by omega))]
      simp only [stp]
      rw [show sI (wI ρ 81 44 2) 81 43 = sI ρ 81 43 from rfl, h43, show sI (wI ρ 81 44 2) 81 45 = sI ρ 81 45 from rfl, h45, oI_sub hs]
    exact ⟨_, step, (Ey.rf.w (S := S43) _ ⟨rfl, by decide, by decide⟩).w _ ⟨rfl, by decide, by decide⟩, rfl, h45, h43, rfl, h47, rfl⟩
  | succ m ih =>
    intro e fuel ρ he hs hf h hd h43 h45 h47
    obtain ⟨g, rfl⟩ : ∃ g, fuel = g + 1 := ⟨fuel - 1, by omega⟩
    have hbe := hb e
    have by1 := M_byte (x := e) hn (by omega) h
    rw [if_neg (show ¬ n ≤ e by omega)] at by1
    rw [rn_s (show e < n by omega)]
    cases c : dgB b e with
    | false =>
      rw [if_neg (by decide)]
      have step : mX12_goes_187 (g + 1) ρ = some (wI (wI ρ 81 44 2) 81 46 (Int32.ofNat (e - s))) := by
        show mX12_goes_187B (mX12_goes_187 g) ρ = _
        unfold mX12_goes_187B mX12_goes_332
        rw [h43, by1, bnd_some, if_pos ((M_isDigit hbe ρ).mpr (fun q => by rw [dg_iff.mpr q] at c; cases c))]
        simp only [stp]
        rw [show sI (wI ρ 81 44 2) 81 43 = sI ρ 81 43 from rfl, h43, show sI (wI ρ 81 44 2) 81 45 = sI ρ 81 45 from rfl, h45, oI_sub hs]
      exact ⟨_, step, (Ey.rf.w (S := S43) _ ⟨rfl, by decide, by decide⟩).w _ ⟨rfl, by decide, by decide⟩, rfl, h45, h43, rfl, h47, rfl⟩
    | true =>
      rw [if_pos rfl]
      have cl := dg_iff.mp c
      have e0 : mX12_goes_187 (g + 1) ρ = if 8 ≤ Int32.ofNat (e - s) then mX12_goes_187 g (wI ρ 81 43 (Int32.ofNat (e + 1))) else mX12_goes_187 g (wI (wI ρ 81 47 ((10 * sI ρ 81 47 + Int32.ofNat (b e)) - 48)) 81 43 (Int32.ofNat (e + 1))) := by
        show mX12_goes_187B (mX12_goes_187 g) ρ = _
        unfold mX12_goes_187B mX12_goes_238
        rw [h43, by1, bnd_some, if_neg (fun q => (M_isDigit hbe ρ).mp q cl), h45, oI_sub hs, bnd_some]
        simp only [stp]
        rw [oI_s, show ∀ v, sI (wI ρ 81 47 v) 81 43 = Int32.ofNat e from fun _ => h43, oI_s]
      have dn : ∀ x, s ≤ x → x < e + 1 → dgB b x = true := fun x x1 x2 => by
        by_cases q : x = e
        · rw [q]; exact c
        · exact hd x x1 (by omega)
      rw [e0]
      by_cases c9 : 8 ≤ e - s
      · rw [if_pos ((lit_le (v := 8) (m := 8) rfl (by decide) (by omega)).mpr c9)]
        have eX : Ey S43 ρ (wI ρ 81 43 (Int32.ofNat (e + 1))) := Ey.rf.w _ ⟨rfl, by decide, by decide⟩
        obtain ⟨ρ', z1, z2, z3⟩ := ih (e + 1) g _ (by omega) (by omega) (by omega) (h.ey eX S43_em) dn rfl h45 (by
          rw [sI_wI, if_neg (by omega), h47, Nat.min_eq_left c9, Nat.min_eq_left (by omega)])
        exact ⟨ρ', z1, eX.tr z2, z3⟩
      · rw [if_neg (fun q => c9 ((lit_le (v := 8) (m := 8) rfl (by decide) (by omega)).mp q))]
        have ev : (10 * sI ρ 81 47 + Int32.ofNat (b e)) - 48 = Int32.ofNat (nvD b s (min 8 (e + 1 - s))) := by
          rw [h47, Nat.min_eq_right (by omega), Nat.min_eq_right (by omega), show e + 1 - s = (e - s) + 1 by omega]
          show Int32.ofNat 10 * Int32.ofNat _ + Int32.ofNat (b e) - Int32.ofNat 48 = Int32.ofNat (nvD b s (e - s) * 10 + (b (s + (e - s)) - 48))
          rw [show s + (e - s) = e by omega, oI_mul, oI_add, oI_sub (by omega)]
          congr 1
          omega
        rw [ev]
        have eX : Ey S43 ρ (wI (wI ρ 81 47 (Int32.ofNat (nvD b s (min 8 (e + 1 - s))))) 81 43 (Int32.ofNat (e + 1))) := (Ey.rf.w (S := S43) _ ⟨rfl, by decide, by decide⟩).w _ ⟨rfl, by decide, by decide⟩
        obtain ⟨ρ', z1, z2, z3⟩ := ih (e + 1) g _ (by omega) (by omega) (by omega) (h.ey eX S43_em) dn rfl h45 rfl
        exact ⟨ρ', z1, eX.tr z2, z3⟩
theorem M_tok {b : Nat → Nat} {n s : Nat} (hn : n ≤ 500) (hb : ∀ j, b j < 256) (hs : s ≤ n) {ρ : Sto} (h : EM b n ρ) (h43 : sI ρ 81 43 = Int32.ofNat s) : ∃ ρ', mX12_goes_50 ρ = some ρ' ∧ Ey S43 ρ ρ' ∧ TSM b n s ρ' := by
  have x1 : Ey S43 ρ (wI (wL (wI ρ 81 45 (Int32.ofNat s)) 81 49 0) 81 47 0) := ((Ey.rf.w (S := S43) _ ⟨rfl, by decide, by decide⟩).wl 0).w _ ⟨rfl, by decide, by decide⟩
  have by1 := M_byte hn hs (h.ey x1 S43_em)
  have hbs := hb s
  have x2 : Ey S43 ρ (wI (wI (wL (wI ρ 81 45 (Int32.ofNat s)) 81 49 0) 81 47 0) 81 48 (Int32.ofNat (if n ≤ s then 0 else b s))) := x1.w _ ⟨rfl, by decide, by decide⟩
  have u45 : sI (wI (wI (wL (wI ρ 81 45 (Int32.ofNat s)) 81 49 0) 81 47 0) 81 48 (Int32.ofNat (if n ≤ s then 0 else b s))) 81 45 = Int32.ofNat s := rfl
  have u43 : sI (wI (wI (wL (wI ρ 81 45 (Int32.ofNat s)) 81 49 0) 81 47 0) 81 48 (Int32.ofNat (if n ≤ s then 0 else b s))) 81 43 = Int32.ofNat s := h43
  have u47 : sI (wI (wI (wL (wI ρ 81 45 (Int32.ofNat s)) 81 49 0) 81 47 0) 81 48 (Int32.ofNat (if n ≤ s then 0 else b s))) 81 47 = 0 := rfl
  have u48 : sI (wI (wI (wL (wI ρ 81 45 (Int32.ofNat s)) 81 49 0) 81 47 0) 81 48 (Int32.ofNat (if n ≤ s then 0 else b s))) 81 48 = Int32.ofNat (if n ≤ s then 0 else b s) := rfl
  have u49 : sL (wI (wI (wL (wI ρ 81 45 (Int32.ofNat s)) 81 49 0) 81 47 0) 81 48 (Int32.ofNat (if n ≤ s then 0 else b s))) 81 49 = 0 := rfl
  have e0 : mX12_goes_50 ρ = (fun v5 σ6 => if (sI σ6 81 43) < (sI σ6 81 42) then (
    if (mX12_isLetter v5 σ6) = 0 then (
      if (mX12_isDigit v5 σ6) = 0 then (
        stp (wI σ6 81 43 ((sI σ6 81 43) + (1 : Int32))) fun σ12 =>
        if v5 = (59 : Int32) then mX12_goes_329 (3 : Int32) σ12 else if v5 = (40 : Int32) then mX12_goes_329 (3 : Int32) σ12 else if v5 = (41 : Int32) then mX12_goes_329 (3 : Int32) σ12 else if v5 = (43 : Int32) then mX12_goes_329 (3 : Int32) σ12 else if v5 = (45 : Int32) then mX12_goes_329 (3 : Int32) σ12 else if v5 = (42 : Int32) then mX12_goes_329 (3 : Int32) σ12 else if v5 = (47 : Int32) then mX12_goes_329 (3 : Int32) σ12 else if v5 = (60 : Int32) then mX12_goes_329 (3 : Int32) σ12 else if v5 = (61 : Int32) then mX12_goes_329 (3 : Int32) σ12 else mX12_goes_329 (4 : Int32) σ12
      ) else (
        mX12_goes_187 FU σ6
      )
    ) else (
      mX12_goes_108 FU σ6
    )
  ) else (
    stp (wI σ6 81 44 (0 : Int32)) fun σ40 =>
    mX12_goes_332 σ40
  )) (Int32.ofNat (if n ≤ s then 0 else b s)) (wI (wI (wL (wI ρ 81 45 (Int32.ofNat s)) 81 49 0) 81 47 0) 81 48 (Int32.ofNat (if n ≤ s then 0 else b s))) := by
    unfold mX12_goes_50
    simp only [stp]
    rw [h43, show sI (wI (wL (wI ρ 81 45 (Int32.ofNat s)) 81 49 0) 81 47 0) 81 43 = Int32.ofNat s from h43, by1, bnd_some]
  rw [e0]
  generalize wI (wI (wL (wI ρ 81 45 (Int32.ofNat s)) 81 49 0) 81 47 0) 81 48 (Int32.ofNat (if n ≤ s then 0 else b s)) = ρ6 at x2 u45 u43 u47 u48 u49
  have h6 := h.ey x2 S43_em
  show ∃ ρ', (if (sI ρ6 81 43) < (sI ρ6 81 42) then _ else _) = some ρ' ∧ _
  rw [u43, h6.1]
  by_cases c0 : s < n
  · have nl : ¬ n ≤ s := by omega
    rw [if_neg nl] at u48 ⊢
    rw [if_pos ((oI_lt (by omega) (by omega)).mpr c0)]
    cases c1 : ltB b s with
    | true =>
      rw [if_neg (fun q => (M_isLetter hbs ρ6).mp q (lt_iff.mp c1))]
      have eT : tc b n s = 2 := by unfold tc; rw [if_neg nl, c1, if_pos rfl]
      have eE : tkE b n s = rn (ltB b) n s := by
        unfold tkE
        rw [if_neg nl, c1, if_pos rfl, rn_s c0, c1, if_pos rfl]
      obtain ⟨ρ', z1, z2, z3, z4, z5, z6, z7, z8, z9⟩ := M_let (b := b) (n := n) (s := s) hn hb (n - s) s FU ρ6 (by omega) (Nat.le_refl _) (show n - s < 5000 by omega) h6 (fun x _ _ => by omega) u43 u45 (by rw [show s - s = 0 by omega]; exact u49)
      refine ⟨ρ', z1, x2.tr z2, ?_, z4, ?_, ?_, ?_, ?_, fun _ => ?_⟩
      · unfold so; rw [eT]; exact z3
      · rw [eE]; exact z5
      · rw [eE]; exact z6
      · unfold nv; rw [eT, if_neg (by decide), z7]; exact u47
      · rw [if_neg nl, z8]; exact u48
      · rw [eE]; exact z9
    | false =>
      rw [if_pos ((M_isLetter hbs ρ6).mpr (fun q => by rw [lt_iff.mpr q] at c1; cases c1))]
      cases c2 : dgB b s with
      | true =>
        rw [if_neg (fun q => (M_isDigit hbs ρ6).mp q (dg_iff.mp c2))]
        have eT : tc b n s = 3 := by unfold tc; rw [if_neg nl, c1, if_neg (by decide), c2, if_pos rfl]
        have eE : tkE b n s = rn (dgB b) n s := by
          unfold tkE
          rw [if_neg nl, c1, if_neg (by decide), c2, if_pos rfl, rn_s c0, c2, if_pos rfl]
        obtain ⟨ρ', z1, z2, z3, z4, z5, z6, z7, z8⟩ := M_dig (b := b) (n := n) (s := s) hn hb (n - s) s FU ρ6 (by omega) (Nat.le_refl _) (show n - s < 5000 by omega) h6 (fun x _ _ => by omega) u43 u45 (by rw [show s - s = 0 by omega]; exact u47)
        refine ⟨ρ', z1, x2.tr z2, ?_, z4, ?_, ?_, ?_, ?_, fun q => by rw [eT] at q; cases q⟩
        · unfold so; rw [eT]; exact z3
        · rw [eE]; exact z5
        · rw [eE]; exact z6
        · unfold nv; rw [if_pos eT, eE]; exact z7
        · rw [if_neg nl, z8]; exact u48
      | false =>
        rw [if_pos ((M_isDigit hbs ρ6).mpr (fun q => by rw [dg_iff.mpr q] at c2; cases c2))]
        simp only [stp]
        rw [oI_s]
        have eE : tkE b n s = s + 1 := by unfold tkE; rw [if_neg nl, c1, if_neg (by decide), c2, if_neg (by decide)]
        have fin : ∀ y : Nat, so b n s = y → tc b n s ≠ 3 → tc b n s ≠ 2 → ∃ ρ', mX12_goes_329 (Int32.ofNat y) (wI ρ6 81 43 (Int32.ofNat (s + 1))) = some ρ' ∧ Ey S43 ρ ρ' ∧ TSM b n s ρ' := fun y hy h3 h2 => by
          refine ⟨wI (wI (wI ρ6 81 43 (Int32.ofNat (s + 1))) 81 44 (Int32.ofNat y)) 81 46 (Int32.ofNat 1), ?_, x2.tr (((Ey.rf.w (S := S43) _ ⟨rfl, by decide, by decide⟩).w _ ⟨rfl, by decide, by decide⟩).w _ ⟨rfl, by decide, by decide⟩), ?_, u45, ?_, ?_, ?_, ?_, fun q => absurd q h2⟩
          · unfold mX12_goes_329 mX12_goes_332
            simp only [stp]
            rw [show sI (wI (wI ρ6 81 43 (Int32.ofNat (s + 1))) 81 44 (Int32.ofNat y)) 81 43 = Int32.ofNat (s + 1) from rfl, show sI (wI (wI ρ6 81 43 (Int32.ofNat (s + 1))) 81 44 (Int32.ofNat y)) 81 45 = Int32.ofNat s from u45, oI_sub (by omega), show s + 1 - s = 1 by omega]
          · rw [hy]; rfl
          · rw [eE]; rfl
          · rw [eE, show s + 1 - s = 1 by omega]; rfl
          · unfold nv; rw [if_neg h3]; exact u47
          · rw [if_neg nl]; exact u48
        have eL : ∀ (m : Nat) (v : Int32), v = Int32.ofNat m → m < 256 → ((Int32.ofNat (b s) = v) ↔ b s = m) := fun m v hv hm => eq_lit hv (by omega) (by omega)
        have sgn : sgB (b s) = true → tc b n s = b s := fun q => by unfold tc; rw [if_neg nl, c1, if_neg (by decide), c2, if_neg (by decide), q, if_pos rfl]
        have yes : ∀ m, b s = m → sgB m = true → m ≠ 0 → m ≠ 1 → m ≠ 2 → m ≠ 3 → ∃ ρ', mX12_goes_329 3 (wI ρ6 81 43 (Int32.ofNat (s + 1))) = some ρ' ∧ Ey S43 ρ ρ' ∧ TSM b n s ρ' := fun m e1 e2 m0 m1 m2 m3 => by
          have et := sgn (by rw [e1]; exact e2)
          rw [e1] at et
          refine fin 3 ?_ (by rw [et]; exact m3) (by rw [et]; exact m2)
          unfold so
          rw [et, if_neg m0, if_neg m2, if_neg m3, if_neg m1]
        by_cases q1 : b s = 59
        · rw [q1, if_pos (by decide)]; exact yes 59 q1 (by decide) (by decide) (by decide) (by decide) (by decide)
        rw [if_neg (fun q => q1 ((eL 59 59 rfl (by decide)).mp q))]
        by_cases q2 : b s = 40
        · rw [q2, if_pos (by decide)]; exact yes 40 q2 (by decide) (by decide) (by decide) (by decide) (by decide)
        rw [if_neg (fun q => q2 ((eL 40 40 rfl (by decide)).mp q))]
        by_cases q3 : b s = 41
        · rw [q3, if_pos (by decide)]; exact yes 41 q3 (by decide) (by decide) (by decide) (by decide) (by decide)
        rw [if_neg (fun q => q3 ((eL 41 41 rfl (by decide)).mp q))]
        by_cases q4 : b s = 43
        · rw [q4, if_pos (by decide)]; exact yes 43 q4 (by decide) (by decide) (by decide) (by decide) (by decide)
        rw [if_neg (fun q => q4 ((eL 43 43 rfl (by decide)).mp q))]
        by_cases q5 : b s = 45
        · rw [q5, if_pos (by decide)]; exact yes 45 q5 (by decide) (by decide) (by decide) (by decide) (by decide)
        rw [if_neg (fun q => q5 ((eL 45 45 rfl (by decide)).mp q))]
        by_cases q6 : b s = 42
        · rw [q6, if_pos (by decide)]; exact yes 42 q6 (by decide) (by decide) (by decide) (by decide) (by decide)
        rw [if_neg (fun q => q6 ((eL 42 42 rfl (by decide)).mp q))]
        by_cases q7 : b s = 47
        · rw [q7, if_pos (by decide)]; exact yes 47 q7 (by decide) (by decide) (by decide) (by decide) (by decide)
        rw [if_neg (fun q => q7 ((eL 47 47 rfl (by decide)).mp q))]
        by_cases q8 : b s = 60
        · rw [q8, if_pos (by decide)]; exact yes 60 q8 (by decide) (by decide) (by decide) (by decide) (by decide)
        rw [if_neg (fun q => q8 ((eL 60 60 rfl (by decide)).mp q))]
        by_cases q9 : b s = 61
        · rw [q9, if_pos (by decide)]; exact yes 61 q9 (by decide) (by decide) (by decide) (by decide) (by decide)
        rw [if_neg (fun q => q9 ((eL 61 61 rfl (by decide)).mp q))]
        have no : sgB (b s) = false := by
          unfold sgB
          simp only [Bool.or_eq_false_iff, beq_eq_false_iff_ne]
          exact ⟨⟨⟨⟨⟨⟨⟨⟨q1, q2⟩, q3⟩, q4⟩, q5⟩, q6⟩, q7⟩, q8⟩, q9⟩
        have et : tc b n s = 1 := by unfold tc; rw [if_neg nl, c1, if_neg (by decide), c2, if_neg (by decide), no, if_neg (by decide)]
        exact fin 4 (by unfold so; rw [et]; rfl) (by rw [et]; decide) (by rw [et]; decide)
  · rw [if_neg (fun q => c0 ((oI_lt (by omega) (by omega)).mp q))]
    have nl : n ≤ s := by omega
    have eT : tc b n s = 0 := if_pos nl
    have eE : tkE b n s = s := if_pos nl
    refine ⟨wI (wI ρ6 81 44 0) 81 46 (Int32.ofNat 0), ?_, x2.tr ((Ey.rf.w (S := S43) _ ⟨rfl, by decide, by decide⟩).w _ ⟨rfl, by decide, by decide⟩), ?_, u45, ?_, ?_, ?_, ?_, fun q => by rw [eT] at q; cases q⟩
    · unfold mX12_goes_332
      simp only [stp]
      rw [show sI (wI ρ6 81 44 0) 81 43 = Int32.ofNat s from u43, show sI (wI ρ6 81 44 0) 81 45 = Int32.ofNat s from u45, oI_sub (Nat.le_refl _), show s - s = 0 by omega]
    · unfold so; rw [eT]; rfl
    · rw [eE]; exact u43
    · rw [eE, show s - s = 0 by omega]; rfl
    · unfold nv; rw [eT, if_neg (by decide)]; exact u47
    · exact u48
theorem M_nxt_l {b : Nat → Nat} {n : Nat} (hn : n ≤ 500) (hb : ∀ j, b j < 256) : ∀ m e fuel ρ, e + m = n → m < fuel → EM b n ρ → sI ρ 81 43 = Int32.ofNat e → ∃ ρ', mX12_goes_0 fuel ρ = some ρ' ∧ Ey S43 ρ ρ' ∧ TSM b n (rn (bkB b) n e) ρ' := by
  intro m
  induction m with
  | zero =>
    intro e fuel ρ he hf h h43
    obtain ⟨g, rfl⟩ : ∃ g, fuel = g + 1 := ⟨fuel - 1, by omega⟩
    have e1 : mX12_goes_0 (g + 1) ρ = mX12_goes_50 ρ := by
      show mX12_goes_0B (mX12_goes_0 g) ρ = _
      unfold mX12_goes_0B
      rw [h.1, h43, if_pos ((oI_le (by omega) (by omega)).mpr (by omega))]
    rw [e1, rn_n (by omega)]
    exact M_tok hn hb (Nat.le_refl _) h (by rw [h43, show e = n by omega])
  | succ m ih =>
    intro e fuel ρ he hf h h43
    obtain ⟨g, rfl⟩ : ∃ g, fuel = g + 1 := ⟨fuel - 1, by omega⟩
    have hbe := hb e
    have by1 := M_byte (x := e) hn (by omega) h
    rw [if_neg (show ¬ n ≤ e by omega)] at by1
    have step : mX12_goes_0 (g + 1) ρ = if b e = 32 ∨ b e = 10 then mX12_goes_0 g (wI ρ 81 43 (Int32.ofNat (e + 1))) else mX12_goes_50 ρ := by
      show mX12_goes_0B (mX12_goes_0 g) ρ = _
      unfold mX12_goes_0B mX12_goes_37
      rw [h.1, h43, if_neg (fun q => absurd ((oI_le (by omega) (by omega)).mp q) (by omega)), by1, bnd_some, bnd_some]
      simp only [stp]
      rw [oI_s]
      by_cases c1 : b e = 32
      · rw [if_pos (by rw [c1]; rfl), if_pos (Or.inl c1)]
      · rw [if_neg (fun q => c1 ((eq_lit (v := 32) (m := 32) rfl (by omega) (by decide)).mp q))]
        by_cases c2 : b e = 10
        · rw [if_pos (by rw [c2]; rfl), if_pos (Or.inr c2)]
        · rw [if_neg (fun q => c2 ((eq_lit (v := 10) (m := 10) rfl (by omega) (by decide)).mp q)), if_neg (fun q => q.elim c1 c2)]
    rw [step, rn_s (by omega)]
    by_cases c : b e = 32 ∨ b e = 10
    · have : bkB b e = true := by unfold bkB; rw [Bool.or_eq_true, beq_iff_eq, beq_iff_eq]; exact c
      rw [if_pos c, this, if_pos rfl]
      have eX : Ey S43 ρ (wI ρ 81 43 (Int32.ofNat (e + 1))) := Ey.rf.w _ ⟨rfl, by decide, by decide⟩
      obtain ⟨ρ', z1, z2, z3⟩ := ih (e + 1) g _ (by omega) (by omega) (h.ey eX S43_em) rfl
      exact ⟨ρ', z1, eX.tr z2, z3⟩
    · have : bkB b e = false := by
        unfold bkB
        rw [Bool.or_eq_false_iff, beq_eq_false_iff_ne, beq_eq_false_iff_ne]
        exact ⟨fun q => c (Or.inl q), fun q => c (Or.inr q)⟩
      rw [if_neg c, this, if_neg (by decide)]
      exact M_tok hn hb (by omega) h h43
/-- the reference goes to the next token -/
theorem M_nx {b : Nat → Nat} {n s : Nat} (hn : n ≤ 500) (hb : ∀ j, b j < 256) (hs : s ≤ n) {ρ : Sto} (h : EM b n ρ) (hT : TSM b n s ρ) : ∃ ρ', mX12_goes ρ = some ρ' ∧ Ey S43 ρ ρ' ∧ TSM b n (nx b n s) ρ' := by
  have := (tkE_le (b := b) hs).2.1
  exact M_nxt_l hn hb (n - tkE b n s) (tkE b n s) FU ρ (by omega) (show n - tkE b n s < 5000 by omega) h hT.2.2.1
