/-! with -/
def bh (A : Ab) (y : Nat) : Int32 := if A 97 y = 4 then A 99 y else A 100 y
def outH (A : Ab) : Option Nat → Int32
  | none => -1
  | some y => bh A y
theorem C_hand {A : Ab} {σ : Sto} (h : CB A σ) {w i : Nat} (hi : i < cT 4 A) : mX3_isHandOf (sR σ 38 i) (Int32.ofNat w) σ = some (if (A 97 i = 2 ∨ A 97 i = 3 ∨ A 97 i = 4) ∧ A 98 i = Int32.ofNat w then 1 else 0) := by
  obtain ⟨k0, f0, f2, f3, f4, f5, f6, -⟩ := h.fa hi
  unfold mX3_isHandOf
  rw [f2, f3]
  by_cases c : A 98 i = Int32.ofNat w
  · rw [if_pos c]
    by_cases c2 : A 97 i = 2
    · rw [if_pos c2, if_pos ⟨Or.inl c2, c⟩]
    · rw [if_neg c2]
      by_cases c3 : A 97 i = 3
      · rw [if_pos c3, if_pos ⟨Or.inr (Or.inl c3), c⟩]
      · rw [if_neg c3]
        by_cases c4 : A 97 i = 4
        · rw [if_pos c4, if_pos ⟨Or.inr (Or.inr c4), c⟩]
        · rw [if_neg c4, if_neg (fun z => z.1.elim c2 (fun y => y.elim c3 c4))]
  · rw [if_neg c, if_neg (fun z => c z.2)]
theorem hd_kind {A : Ab} {w k i : Nat} (h : hdP A w k i) : A 97 i ≠ 1 := fun q => by
  rcases h.1 with z | z | z <;> rw [q] at z <;> exact absurd z (by decide)
theorem C_day {A : Ab} {σ : Sto} (h : CB A σ) {i : Nat} (hi : i < cT 4 A) (hk : A 97 i ≠ 1) : sI σ (sR σ 38 i) 6 = Int32.ofNat (dN A i) := by
  obtain ⟨k0, f0, f2, f3, f4, f5, f6, -⟩ := h.fa hi
  rw [f6, if_neg hk]
  exact (day_n h.2.2.2.2.2.1 hi).2
theorem neg1_lt {n : Nat} (hn : n < 2147483648) : (-1 : Int32) < Int32.ofNat n := by
  rw [Int32.lt_iff_toInt_lt, oI_toInt hn]
  show (-1 : Int) < n
  omega
theorem not_lt_neg1 {n : Nat} (hn : n < 2147483648) : ¬ Int32.ofNat n < -1 := fun z => by
  rw [Int32.lt_iff_toInt_lt, oI_toInt hn] at z
  have e1 : (-1 : Int32).toInt = -1 := rfl
  omega
theorem C_with_l {A : Ab} {σ : Sto} (h : CB A σ) {w k d : Nat} (hk : k ≤ 999) (hd : d < 36500) : ∀ m i fuel, i + m = cT 4 A → m < fuel → mX11_with_34 fuel (Int32.ofNat w) (Int32.ofNat d) (Int32.ofNat k) (oB (lastL A d (handL A w k i))) (Int32.ofNat i) σ = some (.inr (outH A (lastL A d (handL A w k (cT 4 A))))) := by
  have hr := h.2.2.2.2.2.1
  have hl : cT 4 A ≤ 200 := (h.1.le (c := 4) (by decide)).1
  have hn : sI σ 33 11 = Int32.ofNat (cT 4 A) := h.num (c := 4) (by decide)
  intro m
  induction m with
  | zero =>
    intro i fuel hi hf
    obtain ⟨n, rfl⟩ : ∃ n, fuel = n + 1 := ⟨fuel - 1, by omega⟩
    have e : i = cT 4 A := by omega
    subst e
    show mX11_with_34B (mX11_with_34 n) _ _ _ _ _ σ = _
    unfold mX11_with_34B
    rw [hn, if_pos ((oI_le (by omega) (by omega)).mpr (by omega))]
    cases q : lastL A d (handL A w k (cT 4 A)) with
    | none =>
      obtain ⟨k0, f0, f1, f2⟩ := h.fn
      show ((mX1_factAt (-1) σ).bind _) = _
      rw [h.no4 no_neg, bnd_some, if_pos k0, f2 5 (by decide) (by decide)]
      rfl
    | some y =>
      have hy := ((handL_mem _).mp (lastL_mem _ q)).1
      obtain ⟨k0, f0, f2, f3, f4, f5, f6, -⟩ := h.fa hy
      show ((mX1_factAt (Int32.ofNat y) σ).bind _) = _
      rw [h.at4 hy, bnd_some, if_pos k0, f5]
      rfl
  | succ m ih =>
    intro i fuel hi hf
    obtain ⟨n, rfl⟩ : ∃ n, fuel = n + 1 := ⟨fuel - 1, by omega⟩
    have hi2 : i < cT 4 A := by omega
    have lt : ¬ Int32.ofNat (cT 4 A) ≤ Int32.ofNat i := fun q => absurd ((oI_le (by omega) (by omega)).mp q) (by omega)
    obtain ⟨k0, f0, f2, f3, f4, f5, f6, -⟩ := h.fa hi2
    have hL : handL A w k (i + 1) = if hdB A w k i = true then insL A i (handL A w k i) else handL A w k i := rfl
    have ih' := ih (i + 1) n (by omega) (by omega)
    have skip : lastL A d (handL A w k (i + 1)) = lastL A d (handL A w k i) → mX11_with_88 (mX11_with_34 n) (Int32.ofNat w) (Int32.ofNat d) (Int32.ofNat k) (oB (lastL A d (handL A w k i))) (Int32.ofNat i) (sR σ 38 i) σ = some (.inr (outH A (lastL A d (handL A w k (cT 4 A))))) := fun e => by
      unfold mX11_with_88 mX11_with_89
      rw [if_pos rfl, oI_s, ← e]
      exact ih'
    refine Eq.trans (b := mX11_with_34B (mX11_with_34 n) (Int32.ofNat w) (Int32.ofNat d) (Int32.ofNat k) (oB (lastL A d (handL A w k i))) (Int32.ofNat i) σ) rfl ?_
    unfold mX11_with_34B
    rw [hn, if_neg lt, h.at4 hi2, bnd_some, if_pos k0, C_hand h hi2, bnd_some]
    by_cases c : (A 97 i = 2 ∨ A 97 i = 3 ∨ A 97 i = 4) ∧ A 98 i = Int32.ofNat w
    · rw [if_pos c, if_neg i10, h.known hi2 hk, bnd_some]
      cases c2 : knB A i k with
      | false =>
        rw [if_pos (show (if false = true then (1 : Int32) else 0) = 0 from rfl)]
        refine skip ?_
        rw [hL, if_neg (fun z => by rw [(hdB_iff.mp z).2.2] at c2; cases c2)]
      | true =>
        have hp : hdP A w k i := ⟨c.1, c.2, c2⟩
        have dI := C_day h hi2 (hd_kind hp)
        have di := day_n hr hi2
        rw [if_neg (show ¬ (if true = true then (1 : Int32) else 0) = 0 from i10), dI]
        rw [if_pos (hdB_iff.mpr hp)] at hL
        have hI := lastL_ins (A := A) (d := d) (n := i) (handL A w k i) (handL_srt i)
        rw [← hL] at hI
        by_cases c3 : dN A i ≤ d
        · have c3' : ¬ Int32.ofNat d < Int32.ofNat (dN A i) := fun q => absurd ((oI_lt (by omega) (by omega)).mp q) (by omega)
          rw [if_neg c3']
          unfold mX11_with_89
          rw [if_neg i10, if_pos k0, dI]
          cases q : lastL A d (handL A w k i) with
          | none =>
            obtain ⟨k0', -, -, f2'⟩ := h.fn
            show ((mX1_factAt (-1) σ).bind _) = _
            rw [h.no4 no_neg, bnd_some, if_pos k0', f2' 6 (by decide) (by decide), if_neg (not_lt_neg1 (n := dN A i) (by omega)), oI_s]
            rw [q, if_pos ⟨c3, rfl⟩] at hI
            rw [hI] at ih'
            exact ih'
          | some y =>
            have hym := (handL_mem _).mp (lastL_mem _ q)
            have hy : y < cT 4 A := by omega
            obtain ⟨k0', -⟩ := h.fa hy
            have dY := C_day h hy (hd_kind (hdB_iff.mp hym.2))
            have dy := day_n hr hy
            show ((mX1_factAt (Int32.ofNat y) σ).bind _) = _
            rw [h.at4 hy, bnd_some, if_pos k0', dY, oI_s]
            rw [q] at hI
            by_cases c4 : dN A y ≤ dN A i
            · rw [if_neg (fun z => absurd ((oI_lt (by omega) (by omega)).mp z) (by omega))]
              rw [if_pos ⟨c3, decide_eq_true c4⟩] at hI
              rw [hI] at ih'
              exact ih'
            · rw [if_pos ((oI_lt (by omega) (by omega)).mpr (by omega))]
              rw [if_neg (fun z => c4 (of_decide_eq_true z.2))] at hI
              rw [hI] at ih'
              exact ih'
        · have c3' : Int32.ofNat d < Int32.ofNat (dN A i) := (oI_lt (by omega) (by omega)).mpr (by omega)
          rw [if_pos c3']
          refine skip ?_
          rw [hI, if_neg (fun z => c3 z.1)]
    · rw [if_neg c, if_pos rfl]
      refine skip ?_
      rw [hL, if_neg (fun z => c ⟨(hdB_iff.mp z).1, (hdB_iff.mp z).2.1⟩)]
theorem lastL_snoc {A : Ab} {d x : Nat} : ∀ L, lastL A d (L ++ [x]) = oo (if dN A x ≤ d then some x else none) (lastL A d L)
  | [] => by
    show (if dN A x ≤ d then some x else none) = oo (if dN A x ≤ d then some x else none) none
    by_cases c : dN A x ≤ d
    · rw [if_pos c]; rfl
    · rw [if_neg c]; rfl
  | z :: L => by
    rw [List.cons_append, lastL_c, lastL_c, lastL_snoc L]
    by_cases c : dN A x ≤ d
    · rw [if_pos c]; rfl
    · rw [if_neg c]; rfl
theorem M_bh {A : Ab} {ρ : Sto} (hm : RM A ρ) {y : Nat} (hy : y < 200) : mX12_behind (Int32.ofNat y) ρ = some (bh A y) := by
  unfold mX12_behind bh
  rw [if_pos (oI_inb hy (by decide)), oI_cl (by omega), hm 97 y rfl, hm 99 y rfl, hm 100 y rfl]
  by_cases c : A 97 y = 4
  · rw [if_pos c, if_pos c]
  · rw [if_neg c, if_neg c]
theorem M_with_l {A : Ab} {ρ : Sto} {L : List Nat} (hB : IB A) (hr : IRow A) (hm : RM A ρ) (hL : HL L ρ) (hmem : ∀ x ∈ L, x < cT 4 A) (hlen : L.length ≤ 200) {d : Nat} (hd : d < 36500) : ∀ bs as fuel, L = as ++ bs → bs.length < fuel → mX12_with_47 fuel (Int32.ofNat d) (outH A (lastL A d as)) (Int32.ofNat as.length) ρ = some (outH A (lastL A d L), ρ) := by
  have hl : cT 4 A ≤ 200 := (hB.le (c := 4) (by decide)).1
  intro bs
  induction bs with
  | nil =>
    intro as fuel e hf
    obtain ⟨n, rfl⟩ : ∃ n, fuel = n + 1 := ⟨fuel - 1, by omega⟩
    rw [List.append_nil] at e
    subst e
    show mX12_with_47B (mX12_with_47 n) _ _ _ ρ = _
    unfold mX12_with_47B
    rw [hL.1, if_pos ((oI_le (by omega) (by omega)).mpr (Nat.le_refl _))]
  | cons x bs ih =>
    intro as fuel e hf
    obtain ⟨n, rfl⟩ : ∃ n, fuel = n + 1 := ⟨fuel - 1, by omega⟩
    have hlen2 : L.length = as.length + bs.length + 1 := by rw [e, List.length_append, List.length_cons]; omega
    have hx : x < cT 4 A := hmem x (by rw [e]; exact List.mem_append_right _ List.mem_cons_self)
    have hat := hL.2 as x bs e
    rw [Nat.zero_add] at hat
    have dx := day_n hr hx
    have ih' := ih (as ++ [x]) n (by rw [e, List.append_assoc]; rfl) (by rw [List.length_cons] at hf; omega)
    rw [List.length_append, List.length_singleton, lastL_snoc] at ih'
    refine Eq.trans (b := mX12_with_47B (mX12_with_47 n) (Int32.ofNat d) (outH A (lastL A d as)) (Int32.ofNat as.length) ρ) rfl ?_
    unfold mX12_with_47B
    rw [hL.1, if_neg (fun q => absurd ((oI_le (by omega) (by omega)).mp q) (by omega)), if_pos (oI_inb (j := as.length) (n := 200) (by omega) (by decide)), oI_cl (j := as.length) (by omega), hat, if_pos (oI_inb (j := x) (n := 200) (by omega) (by decide)), oI_cl (j := x) (by omega), hm 101 x rfl, dx.2, M_bh hm (by omega), bnd_some, oI_s]
    by_cases c : dN A x ≤ d
    · rw [if_neg (fun q => absurd ((oI_lt (by omega) (by omega)).mp q) (by omega))]
      rw [if_pos c] at ih'
      exact ih'
    · rw [if_pos ((oI_lt (by omega) (by omega)).mpr (by omega))]
      rw [if_neg c] at ih'
      exact ih'
/-- where the second check fails with 2 -/
theorem op_thr2 {β : Type} {cl : Sto → Option (Int32 × Sto)} {mo : Sto → Option (β × Sto)} {val : β → Int64} {A : Ab} {σ : Sto} {b : β} (h : Rel A σ) {k : Int32} (hk : k ≠ 0) (h1 : cl σ = some (k, σ)) (h2 : mo σ = some (b, wI (wI σ 81 0 0) 81 0 k)) :
    ∃ k σ1 b σ2, cl σ = some (k, σ1) ∧ mo σ1 = some (b, σ2) ∧ sI σ2 81 0 = k ∧ (k = 0 → sL σ2 146 0 = val b) ∧ ∃ A', Rel A' σ2 := op_thr h hk h1 h2
/-- a question: the class's store is as it was, the reference's own rows of work were written -/
theorem op_ask {β : Type} {cl : Sto → Option (Int32 × Sto)} {mo : Sto → Option (β × Sto)} {val : β → Int64} {A : Ab} {σ ρ : Sto} {b : β} {v : Int64} (h : Rel A σ) (h1 : cl σ = some (0, wL σ 146 0 v)) (h2 : mo (wL σ 146 0 v) = some (b, ρ)) (hm : OnlyM (wL σ 146 0 v) ρ) (hr : RM A ρ) (h0 : sI ρ 81 0 = 0) (hv : v = val b) :
    ∃ k σ1 b σ2, cl σ = some (k, σ1) ∧ mo σ1 = some (b, σ2) ∧ sI σ2 81 0 = k ∧ (k = 0 → sL σ2 146 0 = val b) ∧ ∃ A', Rel A' σ2 :=
  ⟨0, _, b, ρ, h1, h2, h0, fun _ => by rw [(hm.2.2.2.2.2 146 (Or.inr (by decide))).2 0, ← hv]; rfl, A, Rel.thr (σ := wL σ 146 0 v) h hm hr⟩
theorem op_with (p0 p1 p2 : Int32) : OpOK (mL_with p0 p1 p2) (mX12_with p0 p1 p2) iJ := by
  intro A σ h
  obtain ⟨nt, nl, np, nw, ns, nr, nf, nc, nL, ⟨b1, b2, b3, b4, b5, b6, b7, b8, b9⟩, ⟨a1, a2, a3, a4, a5, a6, a7, a8, a9⟩, ⟨c0, c1, c2, c3, c4, c5, c6, c7, c8⟩, ⟨d1, d2, d3, d4, d5, d6, d7, d8, d9⟩⟩ := h.nums
  have t0 : ∀ σ' : Sto, sI (wI σ' 81 0 0) 81 0 = 0 := fun _ => rfl
  have r0 : ∀ σ', RM A σ' → RM A (wI σ' 81 0 0) := fun σ' hm => hm.np 81 0 0 rfl
  have mw : ∀ σ', RM A σ' → mX12_isWork p0 (wI σ' 81 0 0) = if nu p0 nw then some (1, wI σ' 81 0 0) else some (0, wI (wI σ' 81 0 0) 81 0 1) := fun σ' hm => by
    rw [M_isWork (t0 σ'), (r0 _ hm) 81 4 rfl, a4]
  have me : ∀ σ', RM A σ' → mX12_isEvening p2 (wI σ' 81 0 0) = if ¬ p2 < 0 ∧ p2 ≤ Int32.ofNat nt then some (1, wI σ' 81 0 0) else some (0, wI (wI σ' 81 0 0) 81 0 2) := fun σ' hm => by
    rw [M_isEvening (t0 σ'), (r0 _ hm) 81 1 rfl, a1]
  have md : ∀ ρ, sI ρ 81 0 = 0 → mX12_right (mX12_isDay p1 ρ) 1 ρ = if p1 < 0 ∨ 36499 < p1 then some (0, wI ρ 81 0 1) else some (1, ρ) := fun ρ h0 => by
    by_cases q : p1 < 0 ∨ 36499 < p1
    · rw [if_pos q, M_isDay.mpr q, M_right0 h0 (by decide)]
    · have e1 : mX12_isDay p1 ρ = 1 := by
        unfold mX12_isDay
        rw [if_neg (fun z => q (Or.inl z)), if_neg (fun z => q (Or.inr z))]
      rw [if_neg q, e1, M_right1 h0]
  by_cases g1 : nu p0 nw
  · obtain ⟨w, w1, w2⟩ := nu_of (by omega) g1
    by_cases g2 : p1 < 0 ∨ 36499 < p1
    · have e2 : mX11_with p0 p1 p2 σ = some (.inl 0) := by
        unfold mX11_with
        rw [C_needW c3 (by omega), if_pos g1, bdp_inr, if_pos (C_isDay.mpr g2)]
      refine op_thr (k := 1) (b := 0) h (by decide) (by show wr hB iJ σ ((mX11_with p0 p1 p2 σ).map (embS σ)) = _; rw [e2]; rfl) ?_
      simp only [mX12_with, stp]
      rw [mw _ h.2.2.1, if_pos g1, bd2_some, if_neg i10, md _ (t0 _), if_pos g2]
      rfl
    · obtain ⟨d, dd1, dd2⟩ := day_in g2
      by_cases g3 : ¬ p2 < 0 ∧ p2 ≤ Int32.ofNat nt
      · obtain ⟨k, k1, k2⟩ := inR.le (m := nt) (v := p2) (by omega) g3.1 (fun q => nle.mpr q g3.2)
        have hk : k ≤ 999 := by omega
        have e2 : mX11_with p0 p1 p2 σ = some (.inr (outH A (lastL A d (handL A w k nf)))) := by
          unfold mX11_with
          rw [C_needW c3 (by omega), if_pos g1, bdp_inr, if_neg (fun q => g2 (C_isDay.mp q)), C_needE, c0, if_pos g3, bdp_inr, w2, dd2, k2]
          have g := C_with_l h.cb (w := w) (k := k) (d := d) hk dd1 nf 0 FU (by omega) (show nf < 5000 by omega)
          rw [d7] at g
          exact g
        have hm1 : RM A (wL σ 146 0 (iJ (outH A (lastL A d (handL A w k nf))))) := h.2.2.1.wl _ _ _
        obtain ⟨ρ', m1, m2, m3, m4, m5⟩ := M_hands0 h.1 h.row (w := w) hk (r0 _ hm1)
        rw [d7] at m5
        have hle := handL_len (A := A) (w := w) (k := k) nf
        have e3 : mX12_with p0 p1 p2 (wL σ 146 0 (iJ (outH A (lastL A d (handL A w k nf))))) = some (outH A (lastL A d (handL A w k nf)), ρ') := by
          simp only [mX12_with, stp]
          rw [mw _ hm1, if_pos g1, bd2_some, if_neg i10, md _ (t0 _), if_neg g2, bd2_some, if_neg i10, me _ hm1, if_pos g3, bd2_some, if_neg i10, w2, k2, m1, bnd_some, dd2]
          exact M_with_l h.1 h.row m3 m5 (fun x hx => by have := ((handL_mem nf).mp hx).1; omega) (by omega) dd1 _ [] FU rfl (show _ < 5000 by omega)
        exact op_ask h (by show wr hB iJ σ ((mX11_with p0 p1 p2 σ).map (embS σ)) = _; rw [e2]; rfl) e3 ((OnlyM.rf.w 81 0 0 (by decide)).tr m2) m3 m4 rfl
      · have e2 : mX11_with p0 p1 p2 σ = some (.inl 1) := by
          unfold mX11_with
          rw [C_needW c3 (by omega), if_pos g1, bdp_inr, if_neg (fun q => g2 (C_isDay.mp q)), C_needE, c0, if_neg g3]
          rfl
        refine op_thr (k := 2) (b := 0) h (by decide) (by show wr hB iJ σ ((mX11_with p0 p1 p2 σ).map (embS σ)) = _; rw [e2]; rfl) ?_
        simp only [mX12_with, stp]
        rw [mw _ h.2.2.1, if_pos g1, bd2_some, if_neg i10, md _ (t0 _), if_neg g2, bd2_some, if_neg i10, me _ h.2.2.1, if_neg g3]
        rfl
  · have e2 : mX11_with p0 p1 p2 σ = some (.inl 0) := by
      unfold mX11_with
      rw [C_needW c3 (by omega), if_neg g1]
      rfl
    refine op_thr (k := 1) (b := 0) h (by decide) (by show wr hB iJ σ ((mX11_with p0 p1 p2 σ).map (embS σ)) = _; rw [e2]; rfl) ?_
    simp only [mX12_with, stp]
    rw [mw _ h.2.2.1, if_neg g1]
    rfl
