/-! as if a draft were tried: the books, with the sign that says so -/
def u73 (A : Ab) : Ab := up2 A 81 73 1
theorem u73_ne {A : Ab} {a k : Nat} (h : ¬ (a = 81 ∧ k = 73)) : u73 A a k = A a k := if_neg h
theorem u73_hi {A : Ab} {a k : Nat} (h : 82 ≤ a) : u73 A a k = A a k := if_neg (by omega)
theorem u73_T {A : Ab} {c : Nat} (hc : c < 7) : cT c (u73 A) = cT c A := by
  unfold cT
  rw [u73_ne]
  rcases (show c = 0 ∨ c = 1 ∨ c = 2 ∨ c = 3 ∨ c = 4 ∨ c = 5 ∨ c = 6 by omega) with rfl | rfl | rfl | rfl | rfl | rfl | rfl <;> decide
theorem IB.t73 {A : Ab} (h : IB A) : IB (u73 A) := by
  obtain ⟨b1, b2, b3, b4, b5, b6, b7, b8, b9, b10, b11⟩ := h
  exact ⟨b1, b2, b3, b4, b5, b6, b7, b8, b9, b10, Or.inr rfl⟩
theorem CB.t73 {A : Ab} {σ : Sto} (h : CB A σ) : CB (u73 A) σ := by
  obtain ⟨h1, h2, h3, h4, h5, h6, h7, h8⟩ := h
  have hls : nLs (u73 A) = nLs A := by unfold nLs; rw [u73_ne (by omega)]
  have htn : nTn (u73 A) = nTn A := by unfold nTn; rw [u73_ne (by omega)]
  have T := fun c (hc : c < 7) => u73_T (A := A) hc
  have hg : Grow A (u73 A) := ⟨Nat.le_of_eq hls.symm, Nat.le_of_eq htn.symm, Nat.le_of_eq (T 0 (by decide)).symm, Nat.le_of_eq (T 1 (by decide)).symm, Nat.le_of_eq (T 2 (by decide)).symm, Nat.le_of_eq (T 4 (by decide)).symm⟩
  refine ⟨h1.t73, h2, fun c hc i hi => ?_, fun j hj => ?_, h5, h6.num hg T (fun a i ha => u73_hi ha), h7.fr Fr.rf (fun _ => rfl) (T 1 (by decide)) (fun c c1 c2 j => u73_ne (by omega)) (h1.le (c := 1) (by decide)).1, h8.fr Fr.rf (fun _ => rfl) rfl (T 6 (by decide)) (h1.le (c := 6) (by decide)).1 hg.1 hg.2.1 (fun c c1 c2 j => u73_ne (by omega))⟩
  · exact (h3 c hc i hi).keep rfl (Nat.le_refl _) rfl (fun _ _ => rfl) (fun k hk => by rw [T c hc, cV_congr hc (fun a ha => u73_hi (tl_U c hc a ha).1) k hk])
  · rw [h4 j hj, u73_ne]
    rcases (show j = 0 ∨ j = 1 ∨ j = 2 ∨ j = 3 ∨ j = 4 ∨ j = 5 ∨ j = 6 ∨ j = 7 ∨ j = 8 ∨ j = 9 ∨ j = 10 by omega) with rfl | rfl | rfl | rfl | rfl | rfl | rfl | rfl | rfl | rfl | rfl <;> decide
theorem knB_73 {A : Ab} {i k : Nat} : knB (u73 A) i k = knB A i k := by unfold knB; rw [u73_hi (by decide), u73_hi (by decide)]
theorem dtR_73 {A : Ab} {p k : Nat} : ∀ n, dtR (u73 A) p k n = dtR A p k n
  | 0 => rfl
  | n + 1 => by
    show (if dtB (u73 A) p k n then some n else dtR (u73 A) p k n) = if dtB A p k n then some n else dtR A p k n
    rw [dtR_73 n]
    unfold dtB
    rw [u73_hi (by decide), u73_hi (by decide), knB_73]
theorem dth_73 {A : Ab} {p k : Nat} : dth (u73 A) k p = dth A k p := by unfold dth; rw [u73_T (by decide), dtR_73]
theorem isHeir_73 {A : Ab} {p k i : Nat} : isHeir (u73 A) p k i = isHeir A p k i := by unfold isHeir; rw [u73_hi (by decide), u73_hi (by decide), knB_73]
theorem hrL_73 {A : Ab} {p k : Nat} : ∀ n, hrL (u73 A) k p n = hrL A k p n
  | 0 => rfl
  | n + 1 => by
    show (if isHeir (u73 A) p k n then hrL (u73 A) k p n ++ [n] else hrL (u73 A) k p n) = if isHeir A p k n then hrL A k p n ++ [n] else hrL A k p n
    rw [hrL_73 n, isHeir_73]
theorem offR_73 {A : Ab} {k n : Nat} : ∀ p, offR (u73 A) k n p = offR A k n p
  | 0 => rfl
  | p + 1 => by
    show offR (u73 A) k n p + (hrL (u73 A) k p n).length = offR A k n p + (hrL A k p n).length
    rw [offR_73 p, hrL_73]
theorem fdC_73 {A : Ab} : ∀ o, fdC (u73 A) o = fdC A o ∧ ldC (u73 A) o = ldC A o ∧ fdM (u73 A) o = fdM A o ∧ ldM (u73 A) o = ldM A o
  | none => ⟨rfl, rfl, rfl, rfl⟩
  | some i => ⟨u73_hi (a := 101) (by decide), u73_hi (a := 102) (by decide), u73_hi (a := 101) (by decide), u73_hi (a := 102) (by decide)⟩
theorem OP.t73 {A : Ab} {k : Nat} {σ : Sto} (h : OP A k σ) : OP (u73 A) k σ := ⟨h.1, fun p hp => by
  rw [dth_73, (fdC_73 _).1, (fdC_73 _).2.1]
  exact h.2 p hp⟩
theorem GA.t73 {A : Ab} {k : Nat} {ρ : Sto} (h : GA A k ρ) : GA (u73 A) k ρ := by
  obtain ⟨h1, h2, h3, h4⟩ := h
  refine ⟨h1, fun p hp => ?_, fun p hp => ?_, fun p hp => ?_⟩
  · rw [dth_73, (fdC_73 _).2.2.1, (fdC_73 _).2.2.2]; exact h2 p hp
  · rw [u73_T (by decide), offR_73]; exact h3 p hp
  · rw [u73_T (by decide), offR_73, hrL_73]; exact h4 p hp
theorem IHeir.t73 {A : Ab} (h : IHeir A) : IHeir (u73 A) := h.same (u73_T (by decide)) (fun a i h1 h2 => u73_hi (by omega))
theorem SL.t73 {A : Ab} {s w a b : Nat} (h : SL A s w a b) : SL (u73 A) s w a b := by
  obtain ⟨h1, h2, h3, h4, h5, h6, h7, h8⟩ := h
  exact ⟨by rw [u73_T (by decide)]; exact h1, (u73_hi (by decide)).trans h2, by rw [u73_T (by decide)]; exact h3, (u73_hi (by decide)).trans h4, by rw [u73_T (by decide)]; exact h5, (u73_hi (by decide)).trans h6, by rw [u73_T (by decide)]; exact h7, (u73_hi (by decide)).trans h8⟩
theorem bestR_congr {P P' : Nat → Bool} {K K' : Nat → Int32} (hP : ∀ i, P' i = P i) (hK : ∀ i, K' i = K i) : ∀ m i b, bestR P' K' m i b = bestR P K m i b := by
  rw [show P' = P from funext hP, show K' = K from funext hK]
  exact fun _ _ _ => rfl
theorem lawV_73 {A : Ab} {l d : Int32} {k : Nat} : lawV (u73 A) l d k = lawV A l d k := by
  unfold lawV
  rw [u73_T (by decide)]
  refine bestR_congr (fun i => ?_) (fun i => u73_hi (by decide)) _ _ _
  unfold lwP knL
  rw [u73_hi (by decide), u73_hi (by decide), u73_hi (by decide), u73_hi (by decide)]
theorem LawC.t73 {A : Ab} {σ : Sto} {i c : Nat} (h : LawC A σ i c) : LawC (u73 A) σ i c := h.keep (fun _ _ => rfl) (fun _ => rfl) (fun _ => rfl) (fun _ => rfl) (by unfold nLs; rw [u73_ne (by omega)]; exact Nat.le_refl _) (fun c c1 c2 _ _ => u73_hi (by omega)) (fun c c1 c2 j _ => u73_hi (by omega)) (fun q _ => u73_hi (by decide))
theorem LwOf.t73 {A : Ab} {s c : Nat} {σ : Sto} : ∀ {L}, LwOf A s σ c L → LwOf (u73 A) s σ c L
  | none, h => h
  | some i, h => ⟨h.1, h.2.1.t73, h.2.2.1, (u73_hi (by decide)).trans (h.2.2.2.trans (u73_hi (by decide)).symm)⟩
theorem LawC.fr {A : Ab} {σ σ' : Sto} {i c : Nat} (h : LawC A σ i c) (hL : LwAt σ c) (f : Fr σ σ') : LawC A σ' i c := by
  obtain ⟨k0, k1, k2, k3⟩ := hL.keepI f
  exact h.keep (fun k _ => k0 k) k1 k2 k3 (Nat.le_refl _) (fun _ _ _ _ _ => rfl) (fun _ _ _ _ _ => rfl) (fun _ _ => rfl)
theorem LwOf.fr {A : Ab} {s c : Nat} {σ σ' : Sto} (hL : LwAt σ c) (f : Fr σ σ') : ∀ {L}, LwOf A s σ c L → LwOf A s σ' c L
  | none, h => ((hL.keepI f).1 2).trans h
  | some i, h => ⟨h.1, h.2.1.fr hL f, h.2.2.1, h.2.2.2⟩
/-- the draft wins over the law in force -/
def tw (A : Ab) (s k : Nat) : Prop := ¬ A 101 s < A 113 12 ∧ ∀ y, lawV A (A 103 s) (A 101 s) k = some y → ¬ A 113 12 < A 113 y
theorem M_lawT {A : Ab} {σ : Sto} {s k : Nat} (hB : IB A) (hD : LD A) (hm : RM A σ) (hk : k ≤ 999) (h72 : sI σ 81 72 = Int32.ofNat k) (h73 : sI σ 81 73 = 1) (h112 : A 112 12 = A 103 s) : (tw A s k → mX12_lawOf (A 103 s) (A 101 s) σ = some (oB (some 12))) ∧ (¬ tw A s k → mX12_lawOf (A 103 s) (A 101 s) σ = some (oB (lawV A (A 103 s) (A 101 s) k))) := by
  have hl : cT 6 A ≤ 12 := (hB.le (c := 6) (by decide)).1
  have hn : sI σ 81 50 = Int32.ofNat (cT 6 A) := (hm 81 50 rfl).trans (hB.le (c := 6) (by decide)).2
  have e : mX12_lawOf (A 103 s) (A 101 s) σ = if A 101 s < A 113 12 then some (oB (lawV A (A 103 s) (A 101 s) k)) else mX12_lawOf_151 (oB (lawV A (A 103 s) (A 101 s) k)) 1 σ := by
    refine (M_law_l hB hD hm hk h72 (cT 6 A) 0 FU none (by omega) (show cT 6 A < 5000 by omega) (fun y hy => by cases hy)).trans ?_
    refine Eq.trans (b := mX12_lawOf_5B (mX12_lawOf_5 0) (A 103 s) (A 101 s) (oB (lawV A (A 103 s) (A 101 s) k)) (Int32.ofNat (cT 6 A)) σ) rfl ?_
    unfold mX12_lawOf_5B
    rw [hn, if_pos ((oI_le (by omega) (by omega)).mpr (Nat.le_refl _)), h73, if_neg i10, show sI σ 112 ((12 : Int32)).toNatClampNeg = A 112 12 from hm 112 12 rfl, if_pos h112, show sI σ 113 ((12 : Int32)).toNatClampNeg = A 113 12 from hm 113 12 rfl]
    rfl
  have e2 : mX12_lawOf_151 (oB (lawV A (A 103 s) (A 101 s) k)) 1 σ = match lawV A (A 103 s) (A 101 s) k with
    | none => some 12
    | some y => if A 113 12 < A 113 y then some (Int32.ofNat y) else some 12 := by
    unfold mX12_lawOf_151
    rw [if_neg i10]
    cases q : lawV A (A 103 s) (A 101 s) k with
    | none => rw [if_pos (show oB none = -1 from rfl)]
    | some y =>
      have hy := (lawV_lt q).1
      rw [show oB (some y) = Int32.ofNat y from rfl, if_neg (ne_neg1 (by omega)), if_pos (oI_inb (j := y) (n := 13) (by omega) (by decide)), oI_cl (j := y) (by omega), show sI σ 113 ((12 : Int32)).toNatClampNeg = A 113 12 from hm 113 12 rfl, hm 113 y rfl]
  rw [e, e2]
  refine ⟨fun w => ?_, fun w => ?_⟩
  · rw [if_neg w.1]
    cases q : lawV A (A 103 s) (A 101 s) k with
    | none => rfl
    | some y =>
      show (if A 113 12 < A 113 y then some (Int32.ofNat y) else some 12) = _
      rw [if_neg (w.2 y q)]; rfl
  · by_cases c : A 101 s < A 113 12
    · rw [if_pos c]
    · rw [if_neg c]
      cases q : lawV A (A 103 s) (A 101 s) k with
      | none => exact absurd ⟨c, (fun y hy => by rw [q] at hy; cases hy)⟩ w
      | some y =>
        show (if A 113 12 < A 113 y then some (Int32.ofNat y) else some 12) = _
        by_cases c2 : A 113 12 < A 113 y
        · rw [if_pos c2]; rfl
        · exact absurd ⟨c, (fun y' hy => by rw [q] at hy; cases hy; exact c2)⟩ w
/-- only the shares -/
theorem sells_sh {A : Ab} {s w a b k c : Nat} {L : Option Nat} (hk : k ≤ 999) (hS : SL A s w a b) (hh : IHeir A) {σ ρ : Sto} (h : CB A σ) (hO : OP A k σ) (hK : LK A s w a b k σ) (hL : LwAt σ c) (hc : LwOf A s σ c L) (hm : RM A ρ) (hG : GA A k ρ) (hlaw : ∀ ρ', RM A ρ' → GA A k ρ' → sI ρ' 81 73 = sI ρ 81 73 → mX12_lawOf (A 103 s) (A 101 s) ρ' = some (oB L)) :
    ∃ σ1 ρ', mX0_apply c σ = some σ1 ∧ Sc σ σ1 ∧ Ex (SA c) σ σ1 ∧ mX12_sells (Int32.ofNat s) ρ = some ρ' ∧ Ex SX ρ ρ' ∧ ∀ q, q < 30 → sI ρ' 135 q = sI σ1 57 q := by
  obtain ⟨i, y, m, σ1, ρ', -, -, -, -, e1, e2, e3, e4, e5, e6, e7⟩ := sells_eq hk hS hh h hO hK hL hc hm hG hlaw
  exact ⟨σ1, ρ', e1, e2, e3, e5, e6, fun q hq => (e7.2.2.2.2.2.2.2.2 q hq).1.trans (e4.2.2 q hq).2.symm⟩
theorem SA_ne {c : Nat} {σ : Sto} (hL : LwAt σ c) : ∀ b j, 53 ≤ b → b ≤ 56 → (b = 53 → j ≠ 10 ∧ j ≠ 11) → ¬ SA c b j := fun b j h1 h2 h3 z => by
  have := hL.1.2.2.2.2
  unfold reg at this
  unfold SA SA0 at z
  omega
theorem LK.sa {A : Ab} {s w a b k c : Nat} {σ σ' : Sto} (h : LK A s w a b k σ) (hL : LwAt σ c) (x : Ex (SA c) σ σ') : LK A s w a b k σ' := by
  obtain ⟨h1, h2, h3, h4, h5, h6⟩ := h
  have r := x.2.2.2.1
  have v := x.2.2.2.2.2
  have n := SA_ne hL
  exact ⟨by rw [r, r]; exact h1, by rw [r, r]; exact h2, (v 53 7 (n _ _ (by decide) (by decide) (by decide))).trans h3, (v 53 8 (n _ _ (by decide) (by decide) (by decide))).trans h4, (v 53 9 (n _ _ (by decide) (by decide) (by decide))).trans h5, fun j hj => (v 56 j (n _ _ (by decide) (by decide) (fun z => absurd z (by decide)))).trans (h6 j hj)⟩
theorem OP.sa {A : Ab} {k c : Nat} {σ σ' : Sto} (h : OP A k σ) (hL : LwAt σ c) (x : Ex (SA c) σ σ') : OP A k σ' := by
  have v := x.2.2.2.2.2
  have n := SA_ne hL
  exact ⟨(v 53 1 (n _ _ (by decide) (by decide) (by decide))).trans h.1, fun p hp => by rw [v 54 p (n _ _ (by decide) (by decide) (fun z => absurd z (by decide))), v 55 p (n _ _ (by decide) (by decide) (fun z => absurd z (by decide)))]; exact h.2 p hp⟩
/-! long cells alone -/
def rL (σ : Sto) (f : Nat → Nat → Int64) : Sto := (σ.1, f, σ.2.2)
theorem C_adds {d : Int32} : ∀ m i fuel σ, i + m = 30 → m < fuel → ∃ f, mX11_addShares_2 fuel d (Int32.ofNat i) σ = some (rL σ f) ∧ ∀ q, q < 30 → f 80 q = if i ≤ q then sL σ 80 q + d.toInt64 * (sI σ 57 q).toInt64 else sL σ 80 q := by
  intro m
  induction m with
  | zero =>
    intro i fuel σ hi hf
    obtain ⟨n, rfl⟩ : ∃ n, fuel = n + 1 := ⟨fuel - 1, by omega⟩
    refine ⟨σ.2.1, ?_, fun q hq => (if_neg (by omega)).symm⟩
    refine Eq.trans (b := mX11_addShares_2B (mX11_addShares_2 n) d (Int32.ofNat i) σ) rfl ?_
    unfold mX11_addShares_2B
    rw [if_pos (show (30 : Int32) ≤ Int32.ofNat i from (lit_le (v := 30) (m := 30) rfl (by decide) (by omega)).mpr (by omega))]
    rfl
  | succ m ih =>
    intro i fuel σ hi hf
    obtain ⟨n, rfl⟩ : ∃ n, fuel = n + 1 := ⟨fuel - 1, by omega⟩
    obtain ⟨v, hv⟩ : ∃ v, v = sL σ 80 i + d.toInt64 * (sI σ 57 i).toInt64 := ⟨_, rfl⟩
    obtain ⟨f, f1, f2⟩ := ih (i + 1) n (wL σ 80 i v) (by omega) (by omega)
    refine ⟨f, ?_, fun q hq => ?_⟩
    · refine Eq.trans (b := mX11_addShares_2B (mX11_addShares_2 n) d (Int32.ofNat i) σ) rfl ?_
      unfold mX11_addShares_2B
      rw [if_neg (fun q => absurd ((lit_le (v := 30) (m := 30) rfl (by decide) (by omega)).mp q) (by omega)), if_pos (oI_inb (j := i) (n := 30) (by omega) (by decide)), oI_cl (j := i) (by omega), oI_s, ← hv]
      exact f1
    · rw [f2 q hq]
      by_cases e : q = i
      · subst e
        rw [if_neg (by omega), if_pos (Nat.le_refl _), ← hv, sL_wL, if_pos ⟨rfl, rfl⟩]
      · rw [show sL (wL σ 80 i v) 80 q = sL σ 80 q from if_neg (fun z => e z.2)]
        by_cases e2 : i ≤ q
        · rw [if_pos (by omega), if_pos e2]; rfl
        · rw [if_neg (by omega), if_neg e2]
theorem C_addS {d : Int32} (σ : Sto) : ∃ f, mX11_addShares d σ = some (rL σ f) ∧ ∀ q, q < 30 → f 80 q = sL σ 80 q + d.toInt64 * (sI σ 57 q).toInt64 := by
  obtain ⟨f, f1, f2⟩ := C_adds (d := d) 30 0 FU σ rfl (show 30 < 5000 by omega)
  exact ⟨f, f1, fun q hq => (f2 q hq).trans (if_pos (Nat.zero_le _))⟩
theorem C_zr : ∀ m i fuel σ, i + m = 30 → m < fuel → (∀ q, q < i → sL σ 80 q = 0) → ∃ f, mX11_tryDraft_16 fuel (Int32.ofNat i) σ = mX11_tryDraft_40 FU 0 (rL σ f) ∧ ∀ q, q < 30 → f 80 q = 0 := by
  intro m
  induction m with
  | zero =>
    intro i fuel σ hi hf hq
    obtain ⟨n, rfl⟩ : ∃ n, fuel = n + 1 := ⟨fuel - 1, by omega⟩
    refine ⟨σ.2.1, ?_, fun q hq2 => hq q (by omega)⟩
    refine Eq.trans (b := mX11_tryDraft_16B (mX11_tryDraft_16 n) (Int32.ofNat i) σ) rfl ?_
    unfold mX11_tryDraft_16B
    rw [if_pos (show (30 : Int32) ≤ Int32.ofNat i from (lit_le (v := 30) (m := 30) rfl (by decide) (by omega)).mpr (by omega))]
    rfl
  | succ m ih =>
    intro i fuel σ hi hf hq
    obtain ⟨n, rfl⟩ : ∃ n, fuel = n + 1 := ⟨fuel - 1, by omega⟩
    obtain ⟨f, f1, f2⟩ := ih (i + 1) n (wL σ 80 i 0) (by omega) (by omega) (fun q hq2 => by
      rw [sL_wL]
      by_cases e : q = i
      · rw [if_pos ⟨rfl, e⟩]
      · rw [if_neg (fun z => e z.2)]; exact hq q (by omega))
    refine ⟨f, ?_, f2⟩
    refine Eq.trans (b := mX11_tryDraft_16B (mX11_tryDraft_16 n) (Int32.ofNat i) σ) rfl ?_
    unfold mX11_tryDraft_16B
    rw [if_neg (fun q => absurd ((lit_le (v := 30) (m := 30) rfl (by decide) (by omega)).mp q) (by omega)), if_pos (oI_inb (j := i) (n := 30) (by omega) (by decide)), oI_cl (j := i) (by omega), oI_s]
    exact f1
theorem M_zr {x1 : Int32} : ∀ m i fuel ρ, i + m = 30 → m < fuel → (∀ q, q < i → sL ρ 145 q = 0) → ∃ f, mX12_attempt_111 fuel x1 (Int32.ofNat i) ρ = mX12_attempt_135 FU x1 0 (rL ρ f) ∧ (∀ q, q < 30 → f 145 q = 0) ∧ ∀ b, b ≠ 145 → ∀ q, f b q = sL ρ b q := by
  intro m
  induction m with
  | zero =>
    intro i fuel ρ hi hf hq
    obtain ⟨n, rfl⟩ : ∃ n, fuel = n + 1 := ⟨fuel - 1, by omega⟩
    refine ⟨ρ.2.1, ?_, fun q hq2 => hq q (by omega), fun _ _ _ => rfl⟩
    refine Eq.trans (b := mX12_attempt_111B (mX12_attempt_111 n) x1 (Int32.ofNat i) ρ) rfl ?_
    unfold mX12_attempt_111B
    rw [if_pos (show (30 : Int32) ≤ Int32.ofNat i from (lit_le (v := 30) (m := 30) rfl (by decide) (by omega)).mpr (by omega))]
    rfl
  | succ m ih =>
    intro i fuel ρ hi hf hq
    obtain ⟨n, rfl⟩ : ∃ n, fuel = n + 1 := ⟨fuel - 1, by omega⟩
    obtain ⟨f, f1, f2, f3⟩ := ih (i + 1) n (wL ρ 145 i 0) (by omega) (by omega) (fun q hq2 => by
      rw [sL_wL]
      by_cases e : q = i
      · rw [if_pos ⟨rfl, e⟩]
      · rw [if_neg (fun z => e z.2)]; exact hq q (by omega))
    refine ⟨f, ?_, f2, fun b hb q => (f3 b hb q).trans (if_neg (fun z => hb z.1))⟩
    refine Eq.trans (b := mX12_attempt_111B (mX12_attempt_111 n) x1 (Int32.ofNat i) ρ) rfl ?_
    unfold mX12_attempt_111B
    rw [if_neg (fun q => absurd ((lit_le (v := 30) (m := 30) rfl (by decide) (by omega)).mp q) (by omega)), if_pos (oI_inb (j := i) (n := 30) (by omega) (by decide)), oI_cl (j := i) (by omega), oI_s]
    exact f1
theorem M_up {f135 : Int32 → Int32 → Sto → Option (Int32 × Sto)} {x1 x4 : Int32} : ∀ m i fuel ρ, i + m = 30 → m < fuel → ∃ f, mX12_attempt_196 f135 fuel x1 x4 (Int32.ofNat i) ρ = ((mX12_sells x4 (wI (rL ρ f) 81 73 0)).bind fun σ28 => mX12_attempt_241 f135 FU x1 x4 0 σ28) ∧ (∀ q, q < 30 → f 145 q = if i ≤ q then sL ρ 145 q + (sI ρ 135 q).toInt64 else sL ρ 145 q) ∧ ∀ b, b ≠ 145 → ∀ q, f b q = sL ρ b q := by
  intro m
  induction m with
  | zero =>
    intro i fuel ρ hi hf
    obtain ⟨n, rfl⟩ : ∃ n, fuel = n + 1 := ⟨fuel - 1, by omega⟩
    refine ⟨ρ.2.1, ?_, fun q hq => (if_neg (by omega)).symm, fun _ _ _ => rfl⟩
    refine Eq.trans (b := mX12_attempt_196B f135 (mX12_attempt_196 f135 n) x1 x4 (Int32.ofNat i) ρ) rfl ?_
    unfold mX12_attempt_196B
    rw [if_pos (show (30 : Int32) ≤ Int32.ofNat i from (lit_le (v := 30) (m := 30) rfl (by decide) (by omega)).mpr (by omega))]
    rfl
  | succ m ih =>
    intro i fuel ρ hi hf
    obtain ⟨n, rfl⟩ : ∃ n, fuel = n + 1 := ⟨fuel - 1, by omega⟩
    obtain ⟨v, hv⟩ : ∃ v, v = sL ρ 145 i + (sI ρ 135 i).toInt64 := ⟨_, rfl⟩
    obtain ⟨f, f1, f2, f3⟩ := ih (i + 1) n (wL ρ 145 i v) (by omega) (by omega)
    refine ⟨f, ?_, fun q hq => ?_, fun b hb q => (f3 b hb q).trans (if_neg (fun z => hb z.1))⟩
    · refine Eq.trans (b := mX12_attempt_196B f135 (mX12_attempt_196 f135 n) x1 x4 (Int32.ofNat i) ρ) rfl ?_
      unfold mX12_attempt_196B
      rw [if_neg (fun q => absurd ((lit_le (v := 30) (m := 30) rfl (by decide) (by omega)).mp q) (by omega)), if_pos (oI_inb (j := i) (n := 30) (by omega) (by decide)), oI_cl (j := i) (by omega), oI_s, ← hv]
      exact f1
    · rw [f2 q hq]
      by_cases e : q = i
      · subst e
        rw [if_neg (by omega), if_pos (Nat.le_refl _), ← hv, sL_wL, if_pos ⟨rfl, rfl⟩]
      · rw [show sL (wL ρ 145 i v) 145 q = sL ρ 145 q from if_neg (fun z => e z.2)]
        by_cases e2 : i ≤ q
        · rw [if_pos (by omega), if_pos e2]; rfl
        · rw [if_neg (by omega), if_neg e2]
theorem M_dn {f135 : Int32 → Int32 → Sto → Option (Int32 × Sto)} {x1 x4 : Int32} : ∀ m i fuel ρ, i + m = 30 → m < fuel → ∃ f, mX12_attempt_241 f135 fuel x1 x4 (Int32.ofNat i) ρ = f135 x1 (x4 + 1) (rL ρ f) ∧ (∀ q, q < 30 → f 145 q = if i ≤ q then sL ρ 145 q - (sI ρ 135 q).toInt64 else sL ρ 145 q) ∧ ∀ b, b ≠ 145 → ∀ q, f b q = sL ρ b q := by
  intro m
  induction m with
  | zero =>
    intro i fuel ρ hi hf
    obtain ⟨n, rfl⟩ : ∃ n, fuel = n + 1 := ⟨fuel - 1, by omega⟩
    refine ⟨ρ.2.1, ?_, fun q hq => (if_neg (by omega)).symm, fun _ _ _ => rfl⟩
    refine Eq.trans (b := mX12_attempt_241B f135 (mX12_attempt_241 f135 n) x1 x4 (Int32.ofNat i) ρ) rfl ?_
    unfold mX12_attempt_241B
    rw [if_pos (show (30 : Int32) ≤ Int32.ofNat i from (lit_le (v := 30) (m := 30) rfl (by decide) (by omega)).mpr (by omega))]
    rfl
  | succ m ih =>
    intro i fuel ρ hi hf
    obtain ⟨n, rfl⟩ : ∃ n, fuel = n + 1 := ⟨fuel - 1, by omega⟩
    obtain ⟨v, hv⟩ : ∃ v, v = sL ρ 145 i - (sI ρ 135 i).toInt64 := ⟨_, rfl⟩
    obtain ⟨f, f1, f2, f3⟩ := ih (i + 1) n (wL ρ 145 i v) (by omega) (by omega)
    refine ⟨f, ?_, fun q hq => ?_, fun b hb q => (f3 b hb q).trans (if_neg (fun z => hb z.1))⟩
    · refine Eq.trans (b := mX12_attempt_241B f135 (mX12_attempt_241 f135 n) x1 x4 (Int32.ofNat i) ρ) rfl ?_
      unfold mX12_attempt_241B
      rw [if_neg (fun q => absurd ((lit_le (v := 30) (m := 30) rfl (by decide) (by omega)).mp q) (by omega)), if_pos (oI_inb (j := i) (n := 30) (by omega) (by decide)), oI_cl (j := i) (by omega), oI_s, ← hv]
      exact f1
    · rw [f2 q hq]
      by_cases e : q = i
      · subst e
        rw [if_neg (by omega), if_pos (Nat.le_refl _), ← hv, sL_wL, if_pos ⟨rfl, rfl⟩]
      · rw [show sL (wL ρ 145 i v) 145 q = sL ρ 145 q from if_neg (fun z => e z.2)]
        by_cases e2 : i ≤ q
        · rw [if_pos (by omega), if_pos e2]; rfl
        · rw [if_neg (by omega), if_neg e2]
