/-! hidden -/
theorem i32_lt {x y : Int32} : x < y ↔ x.toInt < y.toInt := Int32.lt_iff_toInt_lt
theorem i32_le {x y : Int32} : x ≤ y ↔ x.toInt ≤ y.toInt := Int32.le_iff_toInt_le
theorem i32_eq {x y : Int32} : x = y ↔ x.toInt = y.toInt := Int32.toInt_inj.symm
theorem oB_ne {o : Option Nat} (h : ∀ y, o = some y → y < 2147483648) : (oB o = -1) ↔ o = none := by
  cases o with
  | none => exact ⟨fun _ => rfl, fun _ => rfl⟩
  | some y => exact ⟨fun q => absurd q (ne_neg1 (h y rfl)), fun q => by cases q⟩
set_option maxHeartbeats 1000000 in
theorem C_nb_l {A : Ab} {σ : Sto} (h : CB A σ) {w k : Nat} (hk : k ≤ 999) {num dy : Int32} : ∀ m i fuel, i + m = cT 4 A → m < fuel → mX1_handBehind_16 fuel (Int32.ofNat w) num (Int32.ofNat k) dy (oB (firstL A dy.toInt num.toInt (handL A w k i))) (Int32.ofNat i) σ = some (oB (firstL A dy.toInt num.toInt (handL A w k (cT 4 A)))) := by
  have hr := h.2.2.2.2.2.1
  have hl : cT 4 A ≤ 200 := (h.1.le (c := 4) (by decide)).1
  have hn : sI σ 33 11 = Int32.ofNat (cT 4 A) := h.num (c := 4) (by decide)
  intro m
  induction m with
  | zero =>
    intro i fuel hi hf
    obtain ⟨n, rfl⟩ : ∃ n, fuel = n + 1 := ⟨fuel - 1, by omega⟩
    have e : i = cT 4 A := by omega
    subst e
    show mX1_handBehind_16B (mX1_handBehind_16 n) _ _ _ _ _ _ σ = _
    unfold mX1_handBehind_16B
    rw [hn, if_pos ((oI_le (by omega) (by omega)).mpr (by omega))]
  | succ m ih =>
    intro i fuel hi hf
    obtain ⟨n, rfl⟩ : ∃ n, fuel = n + 1 := ⟨fuel - 1, by omega⟩
    have hi2 : i < cT 4 A := by omega
    have lt : ¬ Int32.ofNat (cT 4 A) ≤ Int32.ofNat i := fun q => absurd ((oI_le (by omega) (by omega)).mp q) (by omega)
    obtain ⟨k0, -⟩ := h.fa hi2
    have hL : handL A w k (i + 1) = if hdB A w k i = true then insL A i (handL A w k i) else handL A w k i := rfl
    have ih' := ih (i + 1) n (by omega) (by omega)
    have hyb : ∀ y, firstL A dy.toInt num.toInt (handL A w k i) = some y → y < cT 4 A ∧ hdB A w k y = true := fun y hy => by
      have := (handL_mem _).mp (firstL_mem _ hy)
      exact ⟨by omega, this.2⟩
    generalize hq : firstL A dy.toInt num.toInt (handL A w k i) = q at hyb ⊢
    have hqb : (oB q = -1) ↔ q = none := oB_ne fun y e => by have := (hyb y e).1; omega
    -- what is behind and nearer counts when it is a hand that is known
    have sk : firstL A dy.toInt num.toInt (handL A w k (i + 1)) = q → mX1_handBehind_16 n (Int32.ofNat w) num (Int32.ofNat k) dy (oB q) (Int32.ofNat i + 1) σ = some (oB (firstL A dy.toInt num.toInt (handL A w k (cT 4 A)))) := fun e => by
      rw [oI_s, ← e]; exact ih'
    have tk : firstL A dy.toInt num.toInt (handL A w k (i + 1)) = some i → mX1_handBehind_16 n (Int32.ofNat w) num (Int32.ofNat k) dy (Int32.ofNat i) (Int32.ofNat i + 1) σ = some (oB (firstL A dy.toInt num.toInt (handL A w k (cT 4 A)))) := fun e => by
      rw [e] at ih'
      rw [oI_s]; exact ih'
    have s94 : ∀ x8 y0 : Int32, (x8 = 0 ∨ y0 = 0 ∨ ¬ hdP A w k i → firstL A dy.toInt num.toInt (handL A w k (i + 1)) = q) → (¬ x8 = 0 → ¬ y0 = 0 → hdP A w k i → firstL A dy.toInt num.toInt (handL A w k (i + 1)) = some i) → mX1_handBehind_94 (mX1_handBehind_16 n) (Int32.ofNat w) num (Int32.ofNat k) dy (oB q) (Int32.ofNat i) (sR σ 38 i) x8 y0 σ = some (oB (firstL A dy.toInt num.toInt (handL A w k (cT 4 A)))) := fun x8 y0 g1 g2 => by
      unfold mX1_handBehind_94
      by_cases e1 : x8 = 0
      · rw [if_pos e1]; exact sk (g1 (Or.inl e1))
      · rw [if_neg e1]
        by_cases e2 : y0 = 0
        · rw [if_pos e2]; exact sk (g1 (Or.inr (Or.inl e2)))
        · rw [if_neg e2, if_pos k0, C_hand h hi2, bnd_some]
          by_cases c : (A 97 i = 2 ∨ A 97 i = 3 ∨ A 97 i = 4) ∧ A 98 i = Int32.ofNat w
          · rw [if_pos c, if_neg i10, h.known hi2 hk, bnd_some]
            cases c2 : knB A i k with
            | false =>
              rw [if_pos (show (if false = true then (1 : Int32) else 0) = 0 from rfl)]
              exact sk (g1 (Or.inr (Or.inr fun z => by rw [z.2.2] at c2; cases c2)))
            | true =>
              rw [if_neg (show ¬ (if true = true then (1 : Int32) else 0) = 0 from i10)]
              exact tk (g2 e1 e2 ⟨c.1, c.2, c2⟩)
          · rw [if_neg c, if_pos rfl]
            exact sk (g1 (Or.inr (Or.inr fun z => c ⟨z.1, z.2.1⟩)))
    have s64 : ∀ y0 : Int32, (y0 = 0 ∨ okF A i q = false ∨ ¬ hdP A w k i → firstL A dy.toInt num.toInt (handL A w k (i + 1)) = q) → (¬ y0 = 0 → okF A i q = true → hdP A w k i → firstL A dy.toInt num.toInt (handL A w k (i + 1)) = some i) → mX1_handBehind_64 (mX1_handBehind_16 n) (Int32.ofNat w) num (Int32.ofNat k) dy (oB q) (Int32.ofNat i) (sR σ 38 i) y0 σ = some (oB (firstL A dy.toInt num.toInt (handL A w k (cT 4 A)))) := fun y0 g1 g2 => by
      unfold mX1_handBehind_64
      cases q with
      | none =>
        rw [if_pos (show oB none = -1 from rfl)]
        exact s94 y0 1 (fun z => g1 (z.elim Or.inl fun y => y.elim (fun x => absurd x i10) fun x => Or.inr (Or.inr x))) (fun z1 _ z3 => g2 z1 rfl z3)
      | some y =>
        obtain ⟨y1, y2⟩ := hyb y rfl
        obtain ⟨k0', -⟩ := h.fa y1
        have dY := C_day h y1 (hd_kind (hdB_iff.mp y2))
        have dy' := day_n hr y1
        rw [if_neg (fun z => by cases hqb.mp z), if_pos k0]
        show ((mX1_factAt (Int32.ofNat y) σ).bind _) = _
        rw [h.at4 y1, bnd_some, if_pos k0', dY]
        by_cases hp : hdP A w k i
        · have dI := C_day h hi2 (hd_kind hp)
          have di := day_n hr hi2
          rw [dI]
          by_cases c : dN A i < dN A y
          · rw [if_neg (fun z => absurd ((oI_le (by omega) (by omega)).mp z) (by omega))]
            exact s94 y0 1 (fun z => g1 (z.elim Or.inl fun y => y.elim (fun x => absurd x i10) fun x => Or.inr (Or.inr x))) (fun z1 _ z3 => g2 z1 (decide_eq_true c) z3)
          · rw [if_pos ((oI_le (by omega) (by omega)).mpr (by omega))]
            exact s94 y0 0 (fun _ => g1 (Or.inr (Or.inl (decide_eq_false c)))) (fun _ z2 _ => absurd rfl z2)
        · have e := g1 (Or.inr (Or.inr hp))
          by_cases c : Int32.ofNat (dN A y) ≤ sI σ (sR σ 38 i) 6
          · rw [if_pos c]
            exact s94 y0 0 (fun _ => e) (fun _ _ z => absurd z hp)
          · rw [if_neg c]
            exact s94 y0 1 (fun _ => e) (fun _ _ z => absurd z hp)
    refine Eq.trans (b := mX1_handBehind_16B (mX1_handBehind_16 n) (Int32.ofNat w) num (Int32.ofNat k) dy (oB q) (Int32.ofNat i) σ) rfl ?_
    unfold mX1_handBehind_16B mX1_handBehind_63
    rw [hn, if_neg lt, h.at4 hi2, bnd_some, if_pos k0]
    by_cases hp : hdP A w k i
    · have dI := C_day h hi2 (hd_kind hp)
      have di := day_n hr hi2
      rw [if_pos (hdB_iff.mpr hp)] at hL
      have hI := firstL_ins (A := A) (dy := dy.toInt) (nu := num.toInt) (n := i) (handL A w k i) (handL_srt i) (fun y hy => ((handL_mem i).mp hy).1)
      rw [← hL, hq] at hI
      have tI : (Int32.ofNat (dN A i)).toInt = (dN A i : Int) := oI_toInt (by omega)
      have tJ : (Int32.ofNat i).toInt = (i : Int) := oI_toInt (by omega)
      have yes : (dy.toInt < (dN A i : Int) ∨ (dy.toInt = (dN A i : Int) ∧ num.toInt < (i : Int))) → mX1_handBehind_64 (mX1_handBehind_16 n) (Int32.ofNat w) num (Int32.ofNat k) dy (oB q) (Int32.ofNat i) (sR σ 38 i) 1 σ = some (oB (firstL A dy.toInt num.toInt (handL A w k (cT 4 A)))) := fun z =>
        s64 1 (fun y => by
          rw [hI, if_neg]
          rintro ⟨-, x⟩
          rcases y with y | y | y
          · exact absurd y i10
          · rw [x] at y; cases y
          · exact y hp) (fun _ y _ => by rw [hI, if_pos ⟨z, y⟩])
      have no : ¬ (dy.toInt < (dN A i : Int) ∨ (dy.toInt = (dN A i : Int) ∧ num.toInt < (i : Int))) → mX1_handBehind_64 (mX1_handBehind_16 n) (Int32.ofNat w) num (Int32.ofNat k) dy (oB q) (Int32.ofNat i) (sR σ 38 i) 0 σ = some (oB (firstL A dy.toInt num.toInt (handL A w k (cT 4 A)))) := fun z =>
        s64 0 (fun _ => by rw [hI, if_neg (fun x => z x.1)]) (fun y => absurd rfl y)
      rw [dI]
      by_cases c1 : dy < Int32.ofNat (dN A i)
      · rw [if_pos c1]
        rw [i32_lt, tI] at c1
        exact yes (Or.inl c1)
      · rw [if_neg c1]
        rw [i32_lt, tI] at c1
        by_cases c2 : Int32.ofNat (dN A i) = dy
        · rw [if_pos c2]
          rw [i32_eq, tI] at c2
          by_cases c3 : Int32.ofNat i ≤ num
          · rw [if_pos c3]
            rw [i32_le, tJ] at c3
            exact no (by omega)
          · rw [if_neg c3]
            rw [i32_le, tJ] at c3
            exact yes (by omega)
        · rw [if_neg c2]
          rw [i32_eq, tI] at c2
          exact no (by omega)
    · have e : firstL A dy.toInt num.toInt (handL A w k (i + 1)) = q := by
        rw [hL, if_neg (fun z => hp (hdB_iff.mp z))]; exact hq
      have any : ∀ y0, mX1_handBehind_64 (mX1_handBehind_16 n) (Int32.ofNat w) num (Int32.ofNat k) dy (oB q) (Int32.ofNat i) (sR σ 38 i) y0 σ = some (oB (firstL A dy.toInt num.toInt (handL A w k (cT 4 A)))) := fun y0 => s64 y0 (fun _ => e) (fun _ _ z => absurd z hp)
      rw [any, any]
      by_cases c1 : dy < sI σ (sR σ 38 i) 6
      · rw [if_pos c1]
      · rw [if_neg c1]
        by_cases c2 : sI σ (sR σ 38 i) 6 = dy
        · rw [if_pos c2]
          by_cases c3 : Int32.ofNat i ≤ num
          · rw [if_pos c3]
          · rw [if_neg c3]
        · rw [if_neg c2]
theorem C_first {A : Ab} {σ : Sto} (h : CB A σ) {w k : Nat} (hk : k ≤ 999) : mX1_handBehind (Int32.ofNat w) (-1) (Int32.ofNat k) σ = some (oB (handL A w k (cT 4 A)).head?) := by
  have hl : cT 4 A ≤ 200 := (h.1.le (c := 4) (by decide)).1
  obtain ⟨k0, f0, f1, f2⟩ := h.fn
  unfold mX1_handBehind
  rw [h.no4 no_neg, bnd_some, if_pos k0, f2 6 (by decide) (by decide)]
  have g := C_nb_l h (w := w) hk (num := -1) (dy := -1) (cT 4 A) 0 FU (by omega) (show cT 4 A < 5000 by omega)
  rw [show ((-1 : Int32).toInt) = -1 from rfl, firstL_head, firstL_head] at g
  exact g
theorem C_next {A : Ab} {σ : Sto} (h : CB A σ) {w k : Nat} (hk : k ≤ 999) {as bs : List Nat} {x : Nat} (e : handL A w k (cT 4 A) = as ++ x :: bs) : mX1_handBehind (Int32.ofNat w) (Int32.ofNat x) (Int32.ofNat k) σ = some (oB bs.head?) := by
  have hl : cT 4 A ≤ 200 := (h.1.le (c := 4) (by decide)).1
  have hx := (handL_mem (A := A) (w := w) (k := k) (cT 4 A)).mp (show x ∈ _ by rw [e]; exact List.mem_append_right _ List.mem_cons_self)
  obtain ⟨k0, -⟩ := h.fa hx.1
  have dX := C_day h hx.1 (hd_kind (hdB_iff.mp hx.2))
  have dx := day_n h.2.2.2.2.2.1 hx.1
  unfold mX1_handBehind
  rw [h.at4 hx.1, bnd_some, if_pos k0, dX]
  have g := C_nb_l h (w := w) hk (num := Int32.ofNat x) (dy := Int32.ofNat (dN A x)) (cT 4 A) 0 FU (by omega) (show cT 4 A < 5000 by omega)
  rw [oI_toInt (by omega), oI_toInt (by omega), e, firstL_next as bs x (by rw [← e]; exact handL_srt _)] at g
  exact g
