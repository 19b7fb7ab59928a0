/-! the reference's hands -/
theorem fact_kind {A : Ab} (hr : IRow A) {i : Nat} (hi : i < cT 4 A) : ∃ j, j ≤ 5 ∧ A 97 i = Int32.ofNat j := by
  have h := (hr 4 (by decide) i hi).2.2.2
  rcases h with h | h | h | h | h | h
  · exact ⟨0, by decide, h.1⟩
  · exact ⟨1, by decide, h.1⟩
  · exact ⟨2, by decide, h.1⟩
  · exact ⟨3, by decide, h.1⟩
  · exact ⟨4, by decide, h.1⟩
  · exact ⟨5, by decide, h.1⟩
theorem insL_app {A : Ab} {f : Nat} : ∀ xs ys : List Nat, (∀ x ∈ xs, dN A x ≤ dN A f) → (∀ y ∈ ys, dN A f < dN A y) → insL A f (xs ++ ys) = xs ++ f :: ys
  | [], ys, _, h => by
    cases ys with
    | nil => rfl
    | cons y ys' => exact if_pos (h y List.mem_cons_self)
  | x :: xs, ys, h, h2 => by
    have e := insL_app xs ys (fun y hy => h y (List.mem_cons_of_mem _ hy)) h2
    have c : ¬ dN A f < dN A x := by have := h x List.mem_cons_self; omega
    show (if dN A f < dN A x then f :: x :: (xs ++ ys) else x :: insL A f (xs ++ ys)) = x :: (xs ++ f :: ys)
    rw [if_neg c, e]
/-- a list in the reference's row of hands from a place on -/
def AR (ρ : Sto) (o : Nat) (L : List Nat) : Prop := ∀ as x bs, L = as ++ x :: bs → sI ρ 144 (o + as.length) = Int32.ofNat x
theorem AR.app {ρ : Sto} {o : Nat} {xs ys : List Nat} : AR ρ o (xs ++ ys) ↔ AR ρ o xs ∧ AR ρ (o + xs.length) ys := by
  constructor
  · intro h
    refine ⟨fun as x bs e => h as x (bs ++ ys) (by rw [e, List.append_assoc, List.cons_append]), fun as x bs e => ?_⟩
    have := h (xs ++ as) x bs (by rw [e, List.append_assoc])
    rw [List.length_append] at this
    rw [Nat.add_assoc]
    exact this
  · rintro ⟨h1, h2⟩ as x bs e
    rcases List.append_eq_append_iff.mp e with ⟨cs, e1, e2⟩ | ⟨cs, e1, e2⟩
    · -- as = xs ++ cs
      rw [e1, List.length_append, ← Nat.add_assoc]
      exact h2 cs x bs e2
    · -- xs = as ++ cs, x :: bs = cs ++ ys
      cases cs with
      | nil =>
        rw [List.nil_append] at e2
        rw [List.append_nil] at e1
        have := h2 [] x bs (by rw [← e2, List.nil_append])
        rw [e1] at this
        exact this
      | cons c cs' =>
        rw [List.cons_append] at e2
        injection e2 with e3 e4
        subst e3
        exact h1 as x cs' e1
theorem AR.one {ρ : Sto} {o x : Nat} : AR ρ o [x] ↔ sI ρ 144 o = Int32.ofNat x := by
  constructor
  · intro h; exact h [] x [] rfl
  · intro h as y bs e
    cases as with
    | nil => injection e with e1 e2; subst e1; exact h
    | cons a as' => cases as' <;> cases e
theorem AR.cons {ρ : Sto} {o x : Nat} {xs : List Nat} : AR ρ o (x :: xs) ↔ sI ρ 144 o = Int32.ofNat x ∧ AR ρ (o + 1) xs := by
  have := AR.app (ρ := ρ) (o := o) (xs := [x]) (ys := xs)
  rw [AR.one] at this
  exact this
theorem AR.w {ρ : Sto} {o j : Nat} {v : Int32} {L : List Nat} (h : AR ρ o L) (hj : j < o ∨ o + L.length ≤ j) : AR (wI ρ 144 j v) o L := fun as x bs e => by
  have hl : L.length = as.length + 1 + bs.length := by rw [e, List.length_append, List.length_cons]; omega
  rw [sI_wI, if_neg (by omega)]
  exact h as x bs e
theorem AR.w2 {ρ : Sto} {o a j : Nat} {v : Int32} {L : List Nat} (h : AR ρ o L) (ha : a ≠ 144) : AR (wI ρ a j v) o L := fun as x bs e => by
  rw [sI_wI, if_neg (fun z => ha z.1.symm)]
  exact h as x bs e
def HL (L : List Nat) (ρ : Sto) : Prop := sI ρ 81 98 = Int32.ofNat L.length ∧ AR ρ 0 L
theorem M_ins {A : Ab} (hB : IB A) (hr : IRow A) {f7 : Int32 → Int32 → Int32 → Sto → Option Sto} {w k : Int32} {f : Nat} (hf : f < cT 4 A) : ∀ n xs ys ρ fuel, xs.length = n → n < fuel → RM A ρ → AR ρ 0 xs → AR ρ (xs.length + 1) ys → sI ρ 81 98 = Int32.ofNat (xs.length + ys.length) → Srt A (xs ++ ys) → (∀ y ∈ ys, dN A f < dN A y) → (∀ x ∈ xs, x < cT 4 A) → xs.length + ys.length < 200 →
    ∃ ρ', mX12_handles_63 f7 fuel w k (Int32.ofNat f) (Int32.ofNat n) ρ = f7 w k (Int32.ofNat f + 1) ρ' ∧ OnlyM ρ ρ' ∧ RM A ρ' ∧ sI ρ' 81 0 = sI ρ 81 0 ∧ HL (insL A f (xs ++ ys)) ρ' := by
  have hl : cT 4 A ≤ 200 := (hB.le (c := 4) (by decide)).1
  -- put it there
  have put : ∀ xs ys ρ, RM A ρ → AR ρ 0 xs → AR ρ (xs.length + 1) ys → sI ρ 81 98 = Int32.ofNat (xs.length + ys.length) → (∀ y ∈ ys, dN A f < dN A y) → (∀ x ∈ xs, dN A x ≤ dN A f) → xs.length + ys.length < 200 →
      ∃ ρ', mX12_handles_113 f7 w k (Int32.ofNat f) (Int32.ofNat xs.length) ρ = f7 w k (Int32.ofNat f + 1) ρ' ∧ OnlyM ρ ρ' ∧ RM A ρ' ∧ sI ρ' 81 0 = sI ρ 81 0 ∧ HL (insL A f (xs ++ ys)) ρ' := by
    intro xs ys ρ hm h1 h2 h3 h4 h5 h6
    refine ⟨wI (wI ρ 144 xs.length (Int32.ofNat f)) 81 98 (Int32.ofNat (xs.length + ys.length + 1)), ?_, (OnlyM.rf.w 144 _ _ (by decide)).w 81 98 _ (by decide), (hm.np 144 _ _ (by unfold pr; rfl)).np 81 98 _ rfl, rfl, ?_⟩
    · unfold mX12_handles_113
      rw [if_pos (oI_inb (by omega) (by decide)), oI_cl (by omega)]
      simp only [stp]
      rw [show sI (wI ρ 144 xs.length (Int32.ofNat f)) 81 98 = sI ρ 81 98 from rfl, h3, oI_s (xs.length + ys.length)]
    · rw [insL_app xs ys h5 h4]
      refine ⟨?_, ?_⟩
      · rw [sI_wI, if_pos ⟨rfl, rfl⟩, List.length_append, List.length_cons, Nat.add_assoc]
      · refine AR.app.mpr ⟨(h1.w (Or.inr (by omega))).w2 (by decide), ?_⟩
        refine AR.cons.mpr ⟨?_, ?_⟩
        · rw [sI_wI, if_neg (by omega), Nat.zero_add, sI_wI, if_pos ⟨rfl, rfl⟩]
        · rw [Nat.zero_add]
          exact (h2.w (Or.inl (by omega))).w2 (by decide)
  intro n
  induction n with
  | zero =>
    intro xs ys ρ fuel hn hfu hm h1 h2 h3 hs h4 h5 h6
    obtain ⟨g, rfl⟩ : ∃ g, fuel = g + 1 := ⟨fuel - 1, by omega⟩
    have e : xs = [] := List.eq_nil_of_length_eq_zero hn
    subst e
    obtain ⟨ρ', e1, e2⟩ := put [] ys ρ hm h1 h2 h3 h4 (fun x hx => by cases hx) h6
    refine ⟨ρ', ?_, e2⟩
    refine Eq.trans (b := mX12_handles_63B f7 (mX12_handles_63 f7 g) w k (Int32.ofNat f) (Int32.ofNat 0) ρ) rfl ?_
    unfold mX12_handles_63B
    rw [if_pos (by decide)]
    exact e1
  | succ n ih =>
    intro xs ys ρ fuel hn hfu hm h1 h2 h3 hs h4 h5 h6
    obtain ⟨g, rfl⟩ : ∃ g, fuel = g + 1 := ⟨fuel - 1, by omega⟩
    rcases List.eq_nil_or_concat xs with e | ⟨xs', x, e⟩
    · subst e; cases hn
    · subst e
      rw [List.concat_eq_append] at *
      have hlen : xs'.length = n := by rw [List.length_append, List.length_singleton] at hn; omega
      obtain ⟨h1a, h1b⟩ := AR.app.mp h1
      rw [AR.one, Nat.zero_add] at h1b
      have hx : x < cT 4 A := h5 x (List.mem_append_right _ List.mem_cons_self)
      have dx := day_n hr hx
      have df := day_n hr hf
      have q1 : ¬ Int32.ofNat (n + 1) ≤ 0 := fun q => absurd ((oI_le (n := 0) (by omega) (by decide)).mp q) (by omega)
      have step : mX12_handles_63 f7 (g + 1) w k (Int32.ofNat f) (Int32.ofNat (n + 1)) ρ = if Int32.ofNat (dN A x) ≤ Int32.ofNat (dN A f) then mX12_handles_113 f7 w k (Int32.ofNat f) (Int32.ofNat (n + 1)) ρ else mX12_handles_63 f7 g w k (Int32.ofNat f) (Int32.ofNat (n + 1) + -1) (wI ρ 144 (n + 1) (Int32.ofNat x)) := by
        refine Eq.trans (b := mX12_handles_63B f7 (mX12_handles_63 f7 g) w k (Int32.ofNat f) (Int32.ofNat (n + 1)) ρ) rfl ?_
        unfold mX12_handles_63B
        rw [if_neg q1, oI_p, if_pos (oI_inb (j := n) (n := 200) (by omega) (by decide)), oI_cl (j := n) (by omega), ← hlen, h1b, if_pos (oI_inb (j := x) (n := 200) (by omega) (by decide)), if_pos (oI_inb (j := f) (n := 200) (by omega) (by decide)), oI_cl (j := x) (by omega), oI_cl (j := f) (by omega), hm 101 x rfl, hm 101 f rfl, dx.2, df.2, if_pos (oI_inb (j := xs'.length + 1) (n := 200) (by omega) (by decide)), oI_cl (j := xs'.length + 1) (by omega)]
      rw [step]
      by_cases c : Int32.ofNat (dN A x) ≤ Int32.ofNat (dN A f)
      · rw [if_pos c]
        have c' : dN A x ≤ dN A f := (oI_le (by omega) (by omega)).mp c
        have hs1 := (List.pairwise_append.mp hs).1
        have all : ∀ z ∈ xs' ++ [x], dN A z ≤ dN A f := fun z hz => by
          rcases List.mem_append.mp hz with q | q
          · have := (List.pairwise_append.mp hs1).2.2 z q x List.mem_cons_self
            unfold lessK at this
            omega
          · rw [List.mem_singleton] at q; subst q; exact c'
        have g := put (xs' ++ [x]) ys ρ hm h1 h2 h3 h4 all h6
        rw [hn] at g
        exact g
      · rw [if_neg c]
        have c' : dN A f < dN A x := by
          have := (not_congr (oI_le (j := dN A x) (n := dN A f) (by omega) (by omega))).mp c
          omega
        have em : Int32.ofNat (n + 1) + -1 = Int32.ofNat n := by rw [← Int32.sub_eq_add_neg, oI_p]
        rw [List.length_append, List.length_singleton] at h2 h3 h6
        obtain ⟨ρ', e1, e2, e3, e4, e5⟩ := ih xs' (x :: ys) (wI ρ 144 (n + 1) (Int32.ofNat x)) g hlen (by omega) (hm.np 144 _ _ (by unfold pr; rfl)) (h1a.w (Or.inr (by omega))) (AR.cons.mpr ⟨by rw [hlen, sI_wI, if_pos ⟨rfl, rfl⟩], h2.w (Or.inl (by omega))⟩) (by rw [List.length_cons]; refine Eq.trans (b := sI ρ 81 98) rfl ?_; rw [h3]; congr 1; omega) (by rw [List.append_assoc] at hs; exact hs) (fun y hy => by
          rcases List.mem_cons.mp hy with q | q
          · subst q; exact c'
          · exact h4 y q) (fun z hz => h5 z (List.mem_append_left _ hz)) (by rw [List.length_cons]; omega)
        refine ⟨ρ', by rw [em]; exact e1, (OnlyM.rf.w 144 _ _ (by decide)).tr e2, e3, e4, ?_⟩
        rw [List.append_assoc]
        exact e5
theorem M_hands {A : Ab} (hB : IB A) (hr : IRow A) {w k : Nat} (hk : k ≤ 999) : ∀ m i fuel ρ, i + m = cT 4 A → m < fuel → RM A ρ → HL (handL A w k i) ρ → ∃ ρ', mX12_handles_7 fuel (Int32.ofNat w) (Int32.ofNat k) (Int32.ofNat i) ρ = some ρ' ∧ OnlyM ρ ρ' ∧ RM A ρ' ∧ sI ρ' 81 0 = sI ρ 81 0 ∧ HL (handL A w k (cT 4 A)) ρ' := by
  have hl : cT 4 A ≤ 200 := (hB.le (c := 4) (by decide)).1
  intro m
  induction m with
  | zero =>
    intro i fuel ρ hi hf hm h
    obtain ⟨g, rfl⟩ : ∃ g, fuel = g + 1 := ⟨fuel - 1, by omega⟩
    have hn2 : sI ρ 81 7 = Int32.ofNat (cT 4 A) := (hm 81 7 rfl).trans (hB.le (c := 4) (by decide)).2
    have e : i = cT 4 A := by omega
    subst e
    refine ⟨ρ, ?_, OnlyM.rf, hm, rfl, h⟩
    show mX12_handles_7B (mX12_handles_7 g) _ _ _ ρ = _
    unfold mX12_handles_7B
    rw [hn2, if_pos ((oI_le (by omega) (by omega)).mpr (by omega))]
  | succ m ih =>
    intro i fuel ρ hi hf hm h
    obtain ⟨g, rfl⟩ : ∃ g, fuel = g + 1 := ⟨fuel - 1, by omega⟩
    have hn2 : sI ρ 81 7 = Int32.ofNat (cT 4 A) := (hm 81 7 rfl).trans (hB.le (c := 4) (by decide)).2
    have hi2 : i < cT 4 A := by omega
    have lt : ¬ Int32.ofNat (cT 4 A) ≤ Int32.ofNat i := fun q => absurd ((oI_le (by omega) (by omega)).mp q) (by omega)
    obtain ⟨j, j1, j2⟩ := fact_kind hr hi2
    have k2 : (Int32.ofNat j < 2) ↔ j < 2 := oI_lt (n := 2) (by omega) (by decide)
    have k4 : (4 < Int32.ofNat j) ↔ 4 < j := oI_lt (j := 4) (by decide) (by omega)
    have kk : (A 97 i = 2 ∨ A 97 i = 3 ∨ A 97 i = 4) ↔ (2 ≤ j ∧ j ≤ 4) := by
      rw [j2]
      rw [show (Int32.ofNat j = 2) ↔ j = 2 from oI_eq (n := 2) (by omega) (by decide), show (Int32.ofNat j = 3) ↔ j = 3 from oI_eq (n := 3) (by omega) (by decide), show (Int32.ofNat j = 4) ↔ j = 4 from oI_eq (n := 4) (by omega) (by decide)]
      omega
    have step : mX12_handles_7 (g + 1) (Int32.ofNat w) (Int32.ofNat k) (Int32.ofNat i) ρ = if hdB A w k i = true then mX12_handles_63 (mX12_handles_7 g) FU (Int32.ofNat w) (Int32.ofNat k) (Int32.ofNat i) (sI ρ 81 98) ρ else mX12_handles_7 g (Int32.ofNat w) (Int32.ofNat k) (Int32.ofNat (i + 1)) ρ := by
      refine Eq.trans (b := mX12_handles_7B (mX12_handles_7 g) (Int32.ofNat w) (Int32.ofNat k) (Int32.ofNat i) ρ) rfl ?_
      unfold mX12_handles_7B
      rw [hn2, if_neg lt, if_pos (oI_inb (by omega) (by decide)), oI_cl (by omega), hm 97 i rfl, hm 98 i rfl, j2, oI_s]
      by_cases q1 : j < 2
      · rw [if_pos (k2.mpr q1), if_neg (fun z => by have := kk.mp (hdB_iff.mp z).1; omega)]
      · rw [if_neg (fun z => q1 (k2.mp z))]
        by_cases q2 : 4 < j
        · rw [if_pos (k4.mpr q2), if_neg (fun z => by have := kk.mp (hdB_iff.mp z).1; omega)]
        · rw [if_neg (fun z => q2 (k4.mp z))]
          by_cases q3 : A 98 i = Int32.ofNat w
          · rw [if_pos q3, M_known hB hr hm hi2 hk, bnd_some]
            cases q4 : knB A i k with
            | true => rw [if_pos rfl, if_neg i10, if_pos (hdB_iff.mpr ⟨kk.mpr (by omega), q3, q4⟩)]
            | false => rw [if_pos (show (if false = true then (1 : Int32) else 0) = 0 from rfl), if_neg (fun z => by rw [(hdB_iff.mp z).2.2] at q4; cases q4)]
          · rw [if_neg q3, if_neg (fun z => q3 (hdB_iff.mp z).2.1)]
    have hL : handL A w k (i + 1) = if hdB A w k i = true then insL A i (handL A w k i) else handL A w k i := rfl
    rw [step]
    by_cases c : hdB A w k i = true
    · rw [if_pos c, h.1]
      rw [if_pos c] at hL
      have hle := handL_len (A := A) (w := w) (k := k) i
      have hmem : ∀ x ∈ handL A w k i, x < cT 4 A := fun x hx => by have := ((handL_mem i).mp hx).1; omega
      obtain ⟨ρ1, e1, e2, e3, e4, e5⟩ := M_ins hB hr (f7 := mX12_handles_7 g) (w := Int32.ofNat w) (k := Int32.ofNat k) hi2 (handL A w k i).length (handL A w k i) [] ρ FU rfl (show _ < 5000 by omega) hm h.2 (fun as x bs e => by cases as <;> cases e) h.1 (by rw [List.append_nil]; exact handL_srt i) (fun y hy => by cases hy) hmem (by rw [List.length_nil]; omega)
      rw [List.append_nil, ← hL] at e5
      obtain ⟨ρ', f1, f2, f3, f4, f5⟩ := ih (i + 1) g ρ1 (by omega) (by omega) e3 e5
      rw [e1, oI_s]
      exact ⟨ρ', f1, e2.tr f2, f3, f4.trans e4, f5⟩
    · rw [if_neg c]
      rw [if_neg c] at hL
      exact ih (i + 1) g ρ (by omega) (by omega) hm (by rw [hL]; exact h)
theorem M_hands0 {A : Ab} {ρ : Sto} (hB : IB A) (hr : IRow A) {w k : Nat} (hk : k ≤ 999) (hm : RM A ρ) : ∃ ρ', mX12_handles (Int32.ofNat w) (Int32.ofNat k) ρ = some ρ' ∧ OnlyM ρ ρ' ∧ RM A ρ' ∧ sI ρ' 81 0 = sI ρ 81 0 ∧ HL (handL A w k (cT 4 A)) ρ' := by
  have hl : cT 4 A ≤ 200 := (hB.le (c := 4) (by decide)).1
  obtain ⟨ρ', e1, e2, e3, e4, e5⟩ := M_hands hB hr (w := w) hk (cT 4 A) 0 FU (wI ρ 81 98 0) (by omega) (show cT 4 A < 5000 by omega) (hm.np 81 98 0 rfl) ⟨rfl, fun as x bs e => by cases as <;> cases e⟩
  exact ⟨ρ', e1, (OnlyM.rf.w 81 98 0 (by decide)).tr e2, e3, e4, e5⟩
