/-! the class reads an EXPR -/
/-- only where no fault is yet -/
def CCr (b : Nat → Nat) (n d : Nat) (G : Sto → Option Sto) (g : Zg) : Prop := ∀ s l σ, CE b n d σ → CR b n d (.inr (s, l)) σ → ∃ σ', G σ = some σ' ∧ Ex (SE d) σ σ' ∧ CR b n d (g s l) σ'
theorem C_part {b : Nat → Nat} {n d : Nat} {fE : Int32 → Sto → Option Sto} {w : Int32} {E : Zg} (hn : n ≤ 500) (hb : ∀ j, b j < 256) (hE : CCr b n d (fE (w + 1)) E) : CC b n d (mX7_readPart fE w) (zPart b n E) := fun t σ hC hR => by
  obtain ⟨s, hs, hT, hx⟩ := hR.tok
  have h67 : sR σ 67 3 = d := hC.2.1
  unfold mX7_readPart
  rw [hT.1, h67]
  by_cases c3 : tc b n s = 3
  · rw [if_pos ((tcE (v := 3) hb rfl (by decide)).mpr c3)]
    obtain ⟨v, σ1, e1, x1, r1, v1⟩ := C_num (lo := 0) (hi := 99999999) (p0 := 0) (p1 := 99999999) hn hb rfl rfl (by decide) (by decide) hC hR
    have hC1 := hC.se x1
    rw [e1, bd2_some, if_pos hC1.2.2.1.2.2.1]
    cases t with
    | inl e =>
      obtain ⟨σ2, e2, x2, r2⟩ := C_addF hC1 r1 v
      rw [e2, bnd_some]
      exact ⟨σ2, rfl, x1.tr x2, r2⟩
    | inr q =>
      obtain ⟨s', l⟩ := q
      have := hx s' l rfl
      subst this
      have hnv := nv_lt (b := b) hs
      rw [v1 s' l rfl]
      rw [stN_r] at r1 ⊢
      unfold zNum at r1
      rw [if_pos c3] at r1
      by_cases c8 : 8 < tkE b n s' - s'
      · rw [if_pos c8] at r1
        obtain ⟨σ2, e2, x2, r2⟩ := C_addF hC1 r1 (Int32.ofNat (nv b n s'))
        rw [e2, bnd_some]
        refine ⟨σ2, rfl, x1.tr x2, ?_⟩
        unfold zPart
        rw [if_pos c3, if_pos c8]; exact r2
      · rw [if_neg c8, if_neg (by omega)] at r1
        obtain ⟨σ2, e2, x2, r2⟩ := C_addD hC1 r1 (0, nv b n s')
        have ec : cI (0, nv b n s') = Int32.ofNat (nv b n s') := rfl
        rw [ec] at e2
        rw [e2, bnd_some]
        refine ⟨σ2, rfl, x1.tr x2, ?_⟩
        unfold zPart
        rw [if_pos c3, if_neg c8]; exact r2
  · rw [if_neg (fun q => c3 ((tcE (v := 3) hb rfl (by decide)).mp q))]
    by_cases c2 : tc b n s = 2
    · rw [if_pos ((tcE (v := 2) hb rfl (by decide)).mpr c2), C_vaw hn hb hC.1 hT hs, bnd_some]
      have tail : ∀ t' σ0 (x : Int32), CE b n d σ0 → CR b n d t' σ0 → (t' = .inl (3, s) ∨ (∃ e, t' = .inl e) ∨ ∃ l k, k < 10 ∧ t' = .inr (s, l) ∧ x = Int32.ofNat k) → ∃ σ', mX7_readPart_50 fE x σ0 = some σ' ∧ Ex (SE d) σ0 σ' ∧ CR b n d (stN t' fun s' l' => .inr (nx b n s', l' ++ [(1, (-1 - (-1 - x)).toNatClampNeg)])) σ' := fun t' σ0 x hC0 hR0 ht => by
        unfold mX7_readPart_50
        rw [hC0.2.1, if_pos hC0.2.2.1.2.2.1]
        have go : ∀ e, CR b n d (.inl e) σ0 → ∃ σ', ((mX4_addDue d (-1 - x) σ0).bind fun σ9 => (mX7_next σ9).bind fun σ11 => some σ11) = some σ' ∧ Ex (SE d) σ0 σ' ∧ CR b n d (.inl e) σ' := fun e hR0 => by
          obtain ⟨σ2, e2, x2, r2⟩ := C_addF hC0 hR0 (-1 - x)
          obtain ⟨σ3, e3, x3, r3⟩ := C_nxt hn hb _ σ2 (hC0.se x2) r2
          rw [e2, bnd_some, e3, bnd_some]
          exact ⟨σ3, rfl, x2.tr x3, r3⟩
        rcases ht with ht | ⟨e, ht⟩ | ⟨l, k, hk, ht, hxk⟩
        · subst ht; exact go _ hR0
        · subst ht; exact go _ hR0
        · subst ht hxk
          have ec : cI (1, k) = -1 - Int32.ofNat k := rfl
          obtain ⟨σ2, e2, x2, r2⟩ := C_addD hC0 hR0 (1, k)
          obtain ⟨σ3, e3, x3, r3⟩ := C_nxt hn hb _ σ2 (hC0.se x2) r2
          rw [ec] at e2
          rw [e2, bnd_some, e3, bnd_some]
          refine ⟨σ3, rfl, x2.tr x3, ?_⟩
          rw [stN_r] at r3 ⊢
          rw [stN_r] at r3
          have ek : (-1 - (-1 - Int32.ofNat k)).toNatClampNeg = k := by
            have key : ((List.range 10).all fun k => decide ((-1 - (-1 - Int32.ofNat k)).toNatClampNeg = k)) = true := by decide +kernel
            rw [List.all_eq_true] at key
            exact of_decide_eq_true (key k (List.mem_range.mpr hk))
          rw [ek]
          exact r3
      by_cases c8 : 11 ≤ wd b n s ∧ wd b n s ≤ 20
      · have hne : ¬ (Int32.ofNat (wd b n s - 11) = -1) := fun q => by
          have key : ((List.range 10).all fun k => decide (¬ Int32.ofNat k = -1)) = true := by decide +kernel
          rw [List.all_eq_true] at key
          exact of_decide_eq_true (key (wd b n s - 11) (List.mem_range.mpr (by omega))) q
        rw [if_pos c8, if_neg hne]
        cases t with
        | inl e => exact tail _ σ _ hC hR (Or.inr (Or.inl ⟨e, rfl⟩))
        | inr q =>
          obtain ⟨s', l⟩ := q
          have := hx s' l rfl
          subst this
          obtain ⟨σ', e1, x1, r1⟩ := tail _ σ (Int32.ofNat (wd b n s' - 11)) hC hR (Or.inr (Or.inr ⟨l, wd b n s' - 11, by omega, rfl, rfl⟩))
          refine ⟨σ', e1, x1, ?_⟩
          have ek : (-1 - (-1 - Int32.ofNat (wd b n s' - 11))).toNatClampNeg = wd b n s' - 11 := by
            have key : ((List.range 10).all fun k => decide ((-1 - (-1 - Int32.ofNat k)).toNatClampNeg = k)) = true := by decide +kernel
            rw [List.all_eq_true] at key
            exact of_decide_eq_true (key _ (List.mem_range.mpr (by omega)))
          rw [stN_r, ek] at r1
          rw [stN_r]
          unfold zPart
          rw [if_neg c3, if_pos c2, if_pos c8]
          exact r1
      · rw [if_neg c8, if_pos rfl]
        obtain ⟨σ1, e1, x1, r1⟩ := C_ref (b := b) (n := n) (d := d) (k := 3) (by decide) (by decide) t σ hC hR
        have e1' : mX7_refuse 3 σ = some σ1 := e1
        rw [e1', bnd_some]
        cases t with
        | inl e =>
          obtain ⟨σ', e2, x2, r2⟩ := tail _ σ1 (-1) (hC.se x1) r1 (Or.inr (Or.inl ⟨e, rfl⟩))
          exact ⟨σ', e2, x1.tr x2, r2⟩
        | inr q =>
          obtain ⟨s', l⟩ := q
          have := hx s' l rfl
          subst this
          rw [stN_r] at r1
          obtain ⟨σ', e2, x2, r2⟩ := tail _ σ1 (-1) (hC.se x1) r1 (Or.inl rfl)
          refine ⟨σ', e2, x1.tr x2, ?_⟩
          rw [stN_r]
          unfold zPart
          rw [if_neg c3, if_pos c2, if_neg c8]
          exact r2
    · rw [if_neg (fun q => c2 ((tcE (v := 2) hb rfl (by decide)).mp q))]
      obtain ⟨σ1, e1, x1, r1⟩ := C_sign (b := b) (n := n) (d := d) (c := 40) (v := 40) hn hb rfl (by decide) t σ hC hR
      have hC1 := hC.se x1
      rw [e1, bnd_some]
      cases t with
      | inl e =>
        rw [if_neg (CR.flt r1)]
        exact ⟨σ1, rfl, x1, r1⟩
      | inr q =>
        obtain ⟨s', l⟩ := q
        have := hx s' l rfl
        subst this
        rw [stN_r] at r1 ⊢
        unfold zPart
        rw [if_neg c3, if_neg c2]
        by_cases c4 : tc b n s' = 40
        · rw [if_pos c4] at r1 ⊢
          rw [if_pos (show sI σ1 67 4 = 0 from r1.2.2.1)]
          obtain ⟨σ2, e2, x2, r2⟩ := hE _ _ σ1 hC1 r1
          obtain ⟨σ3, e3, x3, r3⟩ := C_sign (b := b) (n := n) (d := d) (c := 41) (v := 41) hn hb rfl (by decide) _ σ2 (hC1.se x2) r2
          rw [e2, bnd_some, e3, bnd_some]
          exact ⟨σ3, rfl, (x1.tr x2).tr x3, r3⟩
        · rw [if_neg c4] at r1 ⊢
          rw [if_neg (CR.flt r1)]
          exact ⟨σ1, rfl, x1, r1⟩
/-- a row of operands -/
theorem C_loop {b : Nat → Nat} {n d : Nat} {F : Nat → Int32 → Sto → Option Sto} {G : Sto → Option Sto} {g : Zg} {op : Nat → Nat} (hn : n ≤ 500) (hb : ∀ j, b j < 256) (hG : CC b n d G g)
    (hl : ∀ f x σ, sI σ 67 1 ≤ x → F (f + 1) x σ = some σ) (he : ∀ f x σ, ¬ sI σ 67 4 = 0 → F (f + 1) x σ = some σ)
    (h0 : ∀ f x σ s l, CE b n d σ → CR b n d (.inr (s, l)) σ → op s = 99 → F (f + 1) x σ = some σ)
    (h1 : ∀ f x σ s l, CE b n d σ → CR b n d (.inr (s, l)) σ → ¬ sI σ 67 1 ≤ x → op s ≠ 99 → F (f + 1) x σ = (mX7_next σ).bind fun σ6 => (G σ6).bind fun σ7 => if sK σ7 (sR σ7 67 3) = 5 then (mX4_addDue (sR σ7 67 3) (cI (3, op s)) σ7).bind fun σ8 => F f (x + 1) σ8 else none) :
    ∀ m j f t σ, j + m = n → m < f → CE b n d σ → CR b n d t σ → ∃ σ', F f (Int32.ofNat j) σ = some σ' ∧ Ex (SE d) σ σ' ∧ CR b n d (stN t (zLoop b n g op m)) σ' := by
  intro m
  induction m with
  | zero =>
    intro j f t σ hj hf hC hR
    obtain ⟨f, rfl⟩ : ∃ q, f = q + 1 := ⟨f - 1, by omega⟩
    refine ⟨σ, hl f _ σ ?_, Ex.rf, ?_⟩
    · rw [hC.1.2.2.2.1]; exact (oI_le (by omega) (by omega)).mpr (by omega)
    · cases t with
      | inl e => exact hR
      | inr q => exact hR
  | succ m ih =>
    intro j f t σ hj hf hC hR
    obtain ⟨f, rfl⟩ : ∃ q, f = q + 1 := ⟨f - 1, by omega⟩
    cases t with
    | inl e => exact ⟨σ, he f _ σ hR.flt, Ex.rf, hR⟩
    | inr q =>
      obtain ⟨s, l⟩ := q
      rw [stN_r]
      show ∃ σ', _ ∧ _ ∧ CR b n d (if op s = 99 then .inr (s, l) else stN (g (nx b n s) l) fun s' l' => zLoop b n g op m s' (l' ++ [(3, op s)])) σ'
      by_cases c : op s = 99
      · rw [if_pos c]
        exact ⟨σ, h0 f _ σ s l hC hR c, Ex.rf, hR⟩
      · rw [if_neg c, h1 f _ σ s l hC hR (by rw [hC.1.2.2.2.1]; exact fun q => absurd ((oI_le (by omega) (by omega)).mp q) (by omega)) c]
        obtain ⟨σ1, e1, x1, r1⟩ := C_nxt hn hb _ σ hC hR
        have hC1 := hC.se x1
        obtain ⟨σ2, e2, x2, r2⟩ := hG _ σ1 hC1 r1
        have hC2 := hC1.se x2
        obtain ⟨σ3, e3, x3, r3⟩ := C_addD hC2 r2 (3, op s)
        have hC3 := hC2.se x3
        obtain ⟨σ4, e4, x4, r4⟩ := ih (j + 1) f _ σ3 (by omega) (by omega) hC3 r3
        rw [e1, bnd_some, e2, bnd_some, hC2.2.1, if_pos hC2.2.2.1.2.2.1, e3, bnd_some, oI_s, e4]
        refine ⟨σ4, rfl, ((x1.tr x2).tr x3).tr x4, ?_⟩
        rw [stN_r, stN_r] at r4
        cases q : g (nx b n s) l with
        | inl e => rw [q] at r4; exact r4
        | inr w => rw [q] at r4; exact r4
theorem C_row {b : Nat → Nat} {n d : Nat} {F : Nat → Int32 → Sto → Option Sto} {G : Sto → Option Sto} {g : Zg} {op : Nat → Nat} (hn : n ≤ 500) (hb : ∀ j, b j < 256) (hG : CC b n d G g)
    (hl : ∀ f x σ, sI σ 67 1 ≤ x → F (f + 1) x σ = some σ) (he : ∀ f x σ, ¬ sI σ 67 4 = 0 → F (f + 1) x σ = some σ)
    (h0 : ∀ f x σ s l, CE b n d σ → CR b n d (.inr (s, l)) σ → op s = 99 → F (f + 1) x σ = some σ)
    (h1 : ∀ f x σ s l, CE b n d σ → CR b n d (.inr (s, l)) σ → ¬ sI σ 67 1 ≤ x → op s ≠ 99 → F (f + 1) x σ = (mX7_next σ).bind fun σ6 => (G σ6).bind fun σ7 => if sK σ7 (sR σ7 67 3) = 5 then (mX4_addDue (sR σ7 67 3) (cI (3, op s)) σ7).bind fun σ8 => F f (x + 1) σ8 else none) :
    CC b n d (fun σ => (G σ).bind fun σ1 => F FU 0 σ1) (zRow b n g op) :=
  hG.bind (fun t σ hC hR => C_loop hn hb hG hl he h0 h1 n 0 FU t σ (by omega) (show n < 5000 by omega) hC hR)
theorem C_prod {b : Nat → Nat} {n d : Nat} {fE : Int32 → Sto → Option Sto} {w : Int32} {E : Zg} (hn : n ≤ 500) (hb : ∀ j, b j < 256) (hE : CCr b n d (fE (w + 1)) E) : CC b n d (mX7_readProduct fE w) (zProd b n E) := by
  refine C_row (F := fun f x σ => mX7_readProduct_7 fE f w x σ) hn hb (C_part hn hb hE) (fun f x σ h => ?_) (fun f x σ h => ?_) (fun f x σ s l hC hR h => ?_) (fun f x σ s l hC hR hx h => ?_)
  · show mX7_readProduct_7B fE (mX7_readProduct_7 fE f) w x σ = _
    unfold mX7_readProduct_7B
    rw [if_pos h]
  · show mX7_readProduct_7B fE (mX7_readProduct_7 fE f) w x σ = _
    unfold mX7_readProduct_7B
    rw [if_neg h, ite_self]
  · have hT : TSC b n s σ := hR.2.1
    have n1 : ¬ tc b n s = 42 := fun q => by unfold opP at h; rw [if_pos q] at h; cases h
    have n2 : ¬ tc b n s = 47 := fun q => by unfold opP at h; rw [if_neg n1, if_pos q] at h; cases h
    show mX7_readProduct_7B fE (mX7_readProduct_7 fE f) w x σ = _
    unfold mX7_readProduct_7B
    rw [hT.1, if_neg (fun q => n1 ((tcE (v := 42) hb rfl (by decide)).mp q)), if_neg (fun q => n2 ((tcE (v := 47) hb rfl (by decide)).mp q)), ite_self, ite_self]
  · have hT : TSC b n s σ := hR.2.1
    show mX7_readProduct_7B fE (mX7_readProduct_7 fE f) w x σ = _
    unfold mX7_readProduct_7B mX7_readProduct_40 mX7_readProduct_56
    rw [if_neg hx, if_pos (show sI σ 67 4 = 0 from hR.2.2.1), hT.1]
    rcases opP_i h with ⟨h1, h2⟩ | ⟨h1, h2⟩
    · rw [if_pos ((tcE (v := 42) hb rfl (by decide)).mpr h1), if_pos ((tcE (v := 42) hb rfl (by decide)).mpr h1), h2]
      rfl
    · rw [if_neg (fun q => absurd ((tcE (v := 42) (m := 42) hb rfl (by decide)).mp q) (by omega)), if_pos ((tcE (v := 47) hb rfl (by decide)).mpr h1), if_neg (fun q => absurd ((tcE (v := 42) (m := 42) hb rfl (by decide)).mp q) (by omega)), h2]
      rfl
theorem C_sum {b : Nat → Nat} {n d : Nat} {fE : Int32 → Sto → Option Sto} {w : Int32} {E : Zg} (hn : n ≤ 500) (hb : ∀ j, b j < 256) (hE : CCr b n d (fE (w + 1)) E) : CC b n d (mX7_readSum fE w) (zSum b n E) := by
  refine C_row (F := fun f x σ => mX7_readSum_7 fE f w x σ) hn hb (C_prod hn hb hE) (fun f x σ h => ?_) (fun f x σ h => ?_) (fun f x σ s l hC hR h => ?_) (fun f x σ s l hC hR hx h => ?_)
  · show mX7_readSum_7B fE (mX7_readSum_7 fE f) w x σ = _
    unfold mX7_readSum_7B
    rw [if_pos h]
  · show mX7_readSum_7B fE (mX7_readSum_7 fE f) w x σ = _
    unfold mX7_readSum_7B
    rw [if_neg h, ite_self]
  · have hT : TSC b n s σ := hR.2.1
    have n1 : ¬ tc b n s = 43 := fun q => by unfold opS at h; rw [if_pos q] at h; cases h
    have n2 : ¬ tc b n s = 45 := fun q => by unfold opS at h; rw [if_neg n1, if_pos q] at h; cases h
    show mX7_readSum_7B fE (mX7_readSum_7 fE f) w x σ = _
    unfold mX7_readSum_7B
    rw [hT.1, if_neg (fun q => n1 ((tcE (v := 43) hb rfl (by decide)).mp q)), if_neg (fun q => n2 ((tcE (v := 45) hb rfl (by decide)).mp q)), ite_self, ite_self]
  · have hT : TSC b n s σ := hR.2.1
    show mX7_readSum_7B fE (mX7_readSum_7 fE f) w x σ = _
    unfold mX7_readSum_7B mX7_readSum_40 mX7_readSum_56
    rw [if_neg hx, if_pos (show sI σ 67 4 = 0 from hR.2.2.1), hT.1]
    rcases opS_i h with ⟨h1, h2⟩ | ⟨h1, h2⟩
    · rw [if_pos ((tcE (v := 43) hb rfl (by decide)).mpr h1), if_pos ((tcE (v := 43) hb rfl (by decide)).mpr h1), h2]
      rfl
    · rw [if_neg (fun q => absurd ((tcE (v := 43) (m := 43) hb rfl (by decide)).mp q) (by omega)), if_pos ((tcE (v := 45) hb rfl (by decide)).mpr h1), if_neg (fun q => absurd ((tcE (v := 43) (m := 43) hb rfl (by decide)).mp q) (by omega)), h2]
      rfl
/-- the nots, behind what they stand ahead of -/
theorem C_nots_l {b : Nat → Nat} {n d k : Nat} {fE : Int32 → Sto → Option Sto} (hk : k ≤ 6) : ∀ m j f t σ, j + m = k → m < f → CE b n d σ → CR b n d t σ → ∃ σ', mX7_readNot_108 fE f (Int32.ofNat k) (Int32.ofNat j) σ = some σ' ∧ Ex (SE d) σ σ' ∧ CR b n d (stN t fun s l => .inr (s, l ++ List.replicate m (2, 0))) σ' := by
  intro m
  induction m with
  | zero =>
    intro j f t σ hj hf hC hR
    obtain ⟨f, rfl⟩ : ∃ q, f = q + 1 := ⟨f - 1, by omega⟩
    refine ⟨σ, ?_, Ex.rf, ?_⟩
    · show mX7_readNot_108B fE (mX7_readNot_108 fE f) _ _ σ = _
      unfold mX7_readNot_108B
      rw [if_pos ((oI_le (by omega) (by omega)).mpr (by omega))]
    · cases t with
      | inl e => exact hR
      | inr q =>
        obtain ⟨s, l⟩ := q
        rw [stN_r]
        show CR b n d (.inr (s, l ++ [])) σ
        rw [List.append_nil]
        exact hR
  | succ m ih =>
    intro j f t σ hj hf hC hR
    obtain ⟨f, rfl⟩ : ∃ q, f = q + 1 := ⟨f - 1, by omega⟩
    obtain ⟨σ1, e1, x1, r1⟩ := C_addD hC hR (2, 0)
    have e1' : mX4_addDue d (-13) σ = some σ1 := e1
    obtain ⟨σ2, e2, x2, r2⟩ := ih (j + 1) f _ σ1 (by omega) (by omega) (hC.se x1) r1
    refine ⟨σ2, ?_, x1.tr x2, ?_⟩
    · show mX7_readNot_108B fE (mX7_readNot_108 fE f) _ _ σ = _
      unfold mX7_readNot_108B
      rw [if_neg (fun q => absurd ((oI_le (by omega) (by omega)).mp q) (by omega)), hC.2.1, if_pos hC.2.2.1.2.2.1, e1', bnd_some, oI_s, e2]
    · cases t with
      | inl e => exact r2
      | inr q =>
        obtain ⟨s, l⟩ := q
        rw [stN_r, stN_r] at r2
        rw [stN_r]
        rw [List.append_assoc] at r2
        exact r2
theorem C_cmp {b : Nat → Nat} {n d k : Nat} {fE : Int32 → Sto → Option Sto} {w : Int32} {E : Zg} (hn : n ≤ 500) (hb : ∀ j, b j < 256) (hk : k ≤ 6) (hE : CCr b n d (fE (w + 1)) E) {t : Zt} {σ : Sto} (hC : CE b n d σ) (hR : CR b n d t σ) :
    ∃ σ', ((mX7_readSum fE w σ).bind fun σ4 =>
    if (sI σ4 67 4) = 0 then (
      if (sI σ4 67 6) = (60 : Int32) then (
        mX7_readNot_72 fE w (Int32.ofNat k) σ4
      ) else (
        if (sI σ4 67 6) = (61 : Int32) then (
          mX7_readNot_72 fE w (Int32.ofNat k) σ4
        ) else (
          mX7_readNot_108 fE FU (Int32.ofNat k) (0 : Int32) σ4
        )
      )
    ) else (
      mX7_readNot_108 fE FU (Int32.ofNat k) (0 : Int32) σ4
    )) = some σ' ∧ Ex (SE d) σ σ' ∧ CR b n d (stN t (zCmp b n E k)) σ' := by
  have hS := C_sum hn hb hE
  obtain ⟨σ4, e4, x4, r4⟩ := hS t σ hC hR
  have hC4 := hC.se x4
  rw [e4, bnd_some]
  have last : ∀ t' σ0, CE b n d σ0 → CR b n d t' σ0 → ∃ σ', mX7_readNot_108 fE FU (Int32.ofNat k) 0 σ0 = some σ' ∧ Ex (SE d) σ0 σ' ∧ CR b n d (stN t' fun s l => .inr (s, l ++ List.replicate k (2, 0))) σ' := fun t' σ0 h1 h2 => C_nots_l hk k 0 FU t' σ0 (by omega) (show k < 5000 by omega) h1 h2
  have flt : ∀ e, CR b n d (.inl e) σ4 → ∃ σ', (if (sI σ4 67 4) = 0 then (
      if (sI σ4 67 6) = (60 : Int32) then (
        mX7_readNot_72 fE w (Int32.ofNat k) σ4
      ) else (
        if (sI σ4 67 6) = (61 : Int32) then (
          mX7_readNot_72 fE w (Int32.ofNat k) σ4
        ) else (
          mX7_readNot_108 fE FU (Int32.ofNat k) (0 : Int32) σ4
        )
      )
    ) else (
      mX7_readNot_108 fE FU (Int32.ofNat k) (0 : Int32) σ4
    )) = some σ' ∧ Ex (SE d) σ σ' ∧ CR b n d (.inl e) σ' := fun e hR4 => by
    rw [if_neg hR4.flt]
    obtain ⟨σ', e5, x5, r5⟩ := last _ σ4 hC4 hR4
    exact ⟨σ', e5, x4.tr x5, r5⟩
  cases t with
  | inl e => exact flt e r4
  | inr q =>
    obtain ⟨s, l⟩ := q
    rw [stN_r] at r4 ⊢
    unfold zCmp zTest
    cases q : zSum b n E s l with
    | inl e => rw [q] at r4; rw [stN_l, stN_l]; exact flt e r4
    | inr q' =>
      obtain ⟨s1, l1⟩ := q'
      rw [q] at r4
      rw [stN_r, if_pos (show sI σ4 67 4 = 0 from r4.2.2.1)]
      have hT : TSC b n s1 σ4 := r4.2.1
      rw [hT.1]
      by_cases c : opC b n s1 = 99
      · have n1 : ¬ tc b n s1 = 60 := fun q => by unfold opC at c; rw [if_pos q] at c; cases c
        have n2 : ¬ tc b n s1 = 61 := fun q => by unfold opC at c; rw [if_neg n1, if_pos q] at c; cases c
        rw [if_neg (fun q => n1 ((tcE (v := 60) hb rfl (by decide)).mp q)), if_neg (fun q => n2 ((tcE (v := 61) hb rfl (by decide)).mp q)), if_pos c, stN_r]
        obtain ⟨σ', e5, x5, r5⟩ := last _ σ4 hC4 r4
        exact ⟨σ', e5, x4.tr x5, r5⟩
      · rw [if_neg c]
        have run : ∀ y, y = cI (3, opC b n s1) → ∃ σ', mX7_readNot_88 fE w (Int32.ofNat k) y σ4 = some σ' ∧ Ex (SE d) σ4 σ' ∧ CR b n d (stN (stN (zSum b n E (nx b n s1) l1) fun s2 l2 => .inr (s2, l2 ++ [(3, opC b n s1)])) fun s3 l3 => .inr (s3, l3 ++ List.replicate k (2, 0))) σ' := fun y hy => by
          obtain ⟨σ5, e5, x5, r5⟩ := C_nxt hn hb _ σ4 hC4 r4
          have hC5 := hC4.se x5
          obtain ⟨σ6, e6, x6, r6⟩ := hS _ σ5 hC5 r5
          have hC6 := hC5.se x6
          obtain ⟨σ7, e7, x7, r7⟩ := C_addD hC6 r6 (3, opC b n s1)
          have hC7 := hC6.se x7
          obtain ⟨σ8, e8, x8, r8⟩ := last _ σ7 hC7 r7
          refine ⟨σ8, ?_, ((x5.tr x6).tr x7).tr x8, ?_⟩
          · unfold mX7_readNot_88
            rw [e5, bnd_some, e6, bnd_some, hC6.2.1, if_pos hC6.2.2.1.2.2.1, hy, e7, bnd_some, e8]
          · rw [stN_r, stN_r] at r8
            exact r8
        unfold mX7_readNot_72
        rw [hT.1]
        rcases opC_i c with ⟨h1, h2⟩ | ⟨h1, h2⟩
        · rw [if_pos ((tcE (v := 60) hb rfl (by decide)).mpr h1), if_pos ((tcE (v := 60) hb rfl (by decide)).mpr h1)]
          obtain ⟨σ', e5, x5, r5⟩ := run (-14) (by rw [h2]; rfl)
          exact ⟨σ', e5, x4.tr x5, r5⟩
        · rw [if_neg (fun q => absurd ((tcE (v := 60) (m := 60) hb rfl (by decide)).mp q) (by omega)), if_pos ((tcE (v := 61) hb rfl (by decide)).mpr h1), if_neg (fun q => absurd ((tcE (v := 60) (m := 60) hb rfl (by decide)).mp q) (by omega))]
          obtain ⟨σ', e5, x5, r5⟩ := run (-15) (by rw [h2]; rfl)
          exact ⟨σ', e5, x4.tr x5, r5⟩
/-- the nots ahead, where a fault was already -/
theorem C_not_f {b : Nat → Nat} {n d : Nat} {fE : Int32 → Sto → Option Sto} {w : Int32} {E : Zg} (hn : n ≤ 500) (hb : ∀ j, b j < 256) (hE : CCr b n d (fE (w + 1)) E) (e : Nat × Nat) : ∀ m k f σ, k + m = 6 → m < f → CE b n d σ → CR b n d (.inl e) σ → ∃ σ', mX7_readNot_2 fE f w (Int32.ofNat k) σ = some σ' ∧ Ex (SE d) σ σ' ∧ CR b n d (.inl e) σ' := by
  intro m
  have e27 : ∀ k σ, k ≤ 6 → CE b n d σ → CR b n d (.inl e) σ → ∃ σ', mX7_readNot_27 fE w (Int32.ofNat k) σ = some σ' ∧ Ex (SE d) σ σ' ∧ CR b n d (.inl e) σ' := fun k σ hk hC hR => by
    obtain ⟨s, hs, hT, -⟩ := hR.tok
    unfold mX7_readNot_27
    rw [C_isw hn hb ⟨by decide, by decide⟩ (by decide) wr4 hC.1 hT hs, bnd_some]
    by_cases c : wd b n s = 10
    · rw [if_pos c, if_neg (by decide)]
      obtain ⟨σ1, e1, x1, r1⟩ := C_ref (b := b) (n := n) (d := d) (k := 2) (by decide) (by decide) _ σ hC hR
      have e1' : mX7_refuse 2 σ = some σ1 := e1
      rw [e1', bnd_some]
      exact ⟨σ1, rfl, x1, r1⟩
    · rw [if_neg c, if_pos rfl]
      exact C_cmp hn hb hk hE hC hR
  induction m with
  | zero =>
    intro k f σ hk hf hC hR
    obtain ⟨f, rfl⟩ : ∃ q, f = q + 1 := ⟨f - 1, by omega⟩
    obtain ⟨σ', h⟩ := e27 k σ (by omega) hC hR
    refine ⟨σ', ?_, h.2⟩
    show mX7_readNot_2B fE (mX7_readNot_2 fE f) _ _ σ = _
    unfold mX7_readNot_2B
    rw [if_pos ((lit_le (v := 6) (m := 6) rfl (by decide) (by omega)).mpr (by omega))]
    exact h.1
  | succ m ih =>
    intro k f σ hk hf hC hR
    obtain ⟨f, rfl⟩ : ∃ q, f = q + 1 := ⟨f - 1, by omega⟩
    obtain ⟨s, hs, hT, -⟩ := hR.tok
    show ∃ σ', mX7_readNot_2B fE (mX7_readNot_2 fE f) _ _ σ = some σ' ∧ _
    unfold mX7_readNot_2B
    rw [if_neg (fun q => absurd ((lit_le (v := 6) (m := 6) rfl (by decide) (by omega)).mp q) (by omega)), C_isw hn hb ⟨by decide, by decide⟩ (by decide) wr4 hC.1 hT hs, bnd_some]
    by_cases c : wd b n s = 10
    · rw [if_pos c, if_neg (by decide)]
      obtain ⟨σ1, e1, x1, r1⟩ := C_nxt hn hb _ σ hC hR
      obtain ⟨σ2, e2, x2, r2⟩ := ih (k + 1) f σ1 (by omega) (by omega) (hC.se x1) r1
      rw [e1, bnd_some, oI_s, e2]
      exact ⟨σ2, rfl, x1.tr x2, r2⟩
    · rw [if_neg c, if_pos rfl]
      exact e27 k σ (by omega) hC hR
theorem C_not_r {b : Nat → Nat} {n d : Nat} {fE : Int32 → Sto → Option Sto} {w : Int32} {E : Zg} (hn : n ≤ 500) (hb : ∀ j, b j < 256) (hE : CCr b n d (fE (w + 1)) E) : ∀ m k f s l σ, k + m = 6 → m < f → CE b n d σ → CR b n d (.inr (s, l)) σ → ∃ σ', mX7_readNot_2 fE f w (Int32.ofNat k) σ = some σ' ∧ Ex (SE d) σ σ' ∧ CR b n d (zNots b n E m k s l) σ' := by
  intro m
  induction m with
  | zero =>
    intro k f s l σ hk hf hC hR
    obtain ⟨f, rfl⟩ : ∃ q, f = q + 1 := ⟨f - 1, by omega⟩
    show ∃ σ', mX7_readNot_2B fE (mX7_readNot_2 fE f) _ _ σ = some σ' ∧ _ ∧ CR b n d (if wd b n s = 10 then .inl (2, s) else zCmp b n E k s l) σ'
    unfold mX7_readNot_2B mX7_readNot_27
    rw [if_pos ((lit_le (v := 6) (m := 6) rfl (by decide) (by omega)).mpr (by omega)), C_isw hn hb ⟨by decide, by decide⟩ (by decide) wr4 hC.1 hR.2.1 hR.1, bnd_some]
    by_cases c : wd b n s = 10
    · rw [if_pos c, if_neg (by decide), if_pos c]
      obtain ⟨σ1, e1, x1, r1⟩ := C_ref (b := b) (n := n) (d := d) (k := 2) (by decide) (by decide) _ σ hC hR
      have e1' : mX7_refuse 2 σ = some σ1 := e1
      rw [e1', bnd_some]
      exact ⟨σ1, rfl, x1, r1⟩
    · rw [if_neg c, if_pos rfl, if_neg c]
      exact C_cmp hn hb (by omega) hE hC hR
  | succ m ih =>
    intro k f s l σ hk hf hC hR
    obtain ⟨f, rfl⟩ : ∃ q, f = q + 1 := ⟨f - 1, by omega⟩
    show ∃ σ', mX7_readNot_2B fE (mX7_readNot_2 fE f) _ _ σ = some σ' ∧ _ ∧ CR b n d (if wd b n s = 10 then zNots b n E m (k + 1) (nx b n s) l else zCmp b n E k s l) σ'
    unfold mX7_readNot_2B mX7_readNot_27
    rw [if_neg (fun q => absurd ((lit_le (v := 6) (m := 6) rfl (by decide) (by omega)).mp q) (by omega)), C_isw hn hb ⟨by decide, by decide⟩ (by decide) wr4 hC.1 hR.2.1 hR.1, bnd_some]
    by_cases c : wd b n s = 10
    · rw [if_pos c, if_neg (by decide), if_pos c]
      obtain ⟨σ1, e1, x1, r1⟩ := C_nxt hn hb _ σ hC hR
      obtain ⟨σ2, e2, x2, r2⟩ := ih (k + 1) f _ _ σ1 (by omega) (by omega) (hC.se x1) r1
      rw [e1, bnd_some, oI_s, e2]
      exact ⟨σ2, rfl, x1.tr x2, r2⟩
    · rw [if_neg c, if_pos rfl, if_neg c, bnd_some, if_pos rfl]
      exact C_cmp hn hb (by omega) hE hC hR
theorem C_not {b : Nat → Nat} {n d : Nat} {fE : Int32 → Sto → Option Sto} {w : Int32} {E : Zg} (hn : n ≤ 500) (hb : ∀ j, b j < 256) (hE : CCr b n d (fE (w + 1)) E) : CC b n d (mX7_readNot fE w) (zNot b n E) := fun t σ hC hR => by
  cases t with
  | inl e => exact C_not_f hn hb hE e 6 0 FU σ (by omega) (by decide) hC hR
  | inr q => exact C_not_r hn hb hE 6 0 FU q.1 q.2 σ (by omega) (by decide) hC hR
theorem C_and {b : Nat → Nat} {n d : Nat} {fE : Int32 → Sto → Option Sto} {w : Int32} {E : Zg} (hn : n ≤ 500) (hb : ∀ j, b j < 256) (hE : CCr b n d (fE (w + 1)) E) : CC b n d (mX7_readAnd fE w) (zAnd b n E) := by
  refine C_row (F := fun f x σ => mX7_readAnd_7 fE f w x σ) hn hb (C_not hn hb hE) (fun f x σ h => ?_) (fun f x σ h => ?_) (fun f x σ s l hC hR h => ?_) (fun f x σ s l hC hR hx h => ?_)
  · show mX7_readAnd_7B fE (mX7_readAnd_7 fE f) w x σ = _
    unfold mX7_readAnd_7B
    rw [if_pos h]
  · show mX7_readAnd_7B fE (mX7_readAnd_7 fE f) w x σ = _
    unfold mX7_readAnd_7B
    rw [if_neg h, ite_self]
  · have n1 : ¬ wd b n s = 8 := fun q => by unfold opA at h; rw [if_pos q] at h; cases h
    show mX7_readAnd_7B fE (mX7_readAnd_7 fE f) w x σ = _
    unfold mX7_readAnd_7B
    rw [C_isw hn hb ⟨by decide, by decide⟩ (by decide) wr6 hC.1 hR.2.1 hR.1, bnd_some, if_neg n1, if_pos rfl, ite_self, ite_self]
  · obtain ⟨h1, h2⟩ := opA_i h
    show mX7_readAnd_7B fE (mX7_readAnd_7 fE f) w x σ = _
    unfold mX7_readAnd_7B
    rw [if_neg hx, if_pos (show sI σ 67 4 = 0 from hR.2.2.1), C_isw hn hb ⟨by decide, by decide⟩ (by decide) wr6 hC.1 hR.2.1 hR.1, bnd_some, if_pos h1, if_neg (by decide), h2]
    rfl
theorem C_or {b : Nat → Nat} {n d : Nat} {fE : Int32 → Sto → Option Sto} {w : Int32} {E : Zg} (hn : n ≤ 500) (hb : ∀ j, b j < 256) (hE : CCr b n d (fE (w + 1)) E) : CC b n d (mX7_readExprO_37 fE w) (zOr b n E) := by
  refine C_row (F := fun f x σ => mX7_readExprO_44 fE f w x σ) hn hb (C_and hn hb hE) (fun f x σ h => ?_) (fun f x σ h => ?_) (fun f x σ s l hC hR h => ?_) (fun f x σ s l hC hR hx h => ?_)
  · show mX7_readExprO_44B fE (mX7_readExprO_44 fE f) w x σ = _
    unfold mX7_readExprO_44B
    rw [if_pos h]
  · show mX7_readExprO_44B fE (mX7_readExprO_44 fE f) w x σ = _
    unfold mX7_readExprO_44B
    rw [if_neg h, ite_self]
  · have n1 : ¬ wd b n s = 9 := fun q => by unfold opO at h; rw [if_pos q] at h; cases h
    show mX7_readExprO_44B fE (mX7_readExprO_44 fE f) w x σ = _
    unfold mX7_readExprO_44B
    rw [C_isw hn hb ⟨by decide, by decide⟩ (by decide) wr7 hC.1 hR.2.1 hR.1, bnd_some, if_neg n1, if_pos rfl, ite_self, ite_self]
  · obtain ⟨h1, h2⟩ := opO_i h
    show mX7_readExprO_44B fE (mX7_readExprO_44 fE f) w x σ = _
    unfold mX7_readExprO_44B
    rw [if_neg hx, if_pos (show sI σ 67 4 = 0 from hR.2.2.1), C_isw hn hb ⟨by decide, by decide⟩ (by decide) wr7 hC.1 hR.2.1 hR.1, bnd_some, if_pos h1, if_neg (by decide), h2]
    rfl
/-- six within others: nothing can stand there -/
theorem C_six {b : Nat → Nat} {n d g s : Nat} {l : List (Nat × Nat)} {σ : Sto} (hn : n ≤ 500) (hb : ∀ j, b j < 256) (hC : CE b n d σ) (hR : CR b n d (.inr (s, l)) σ) : ∃ σ', mX7_readExpr (g + 1) 6 σ = some σ' ∧ Ex (SE d) σ σ' ∧ CR b n d (.inl (if tc b n s = 3 ∨ tc b n s = 2 ∨ tc b n s = 40 then 2 else 1, s)) σ' := by
  have hT : TSC b n s σ := hR.2.1
  have hs : s ≤ n := hR.1
  show ∃ σ', mX7_readExprO (mX7_readExpr g) 6 σ = some σ' ∧ _
  unfold mX7_readExprO
  rw [if_neg (by decide), hT.1]
  have r2 : ∃ σ', mX7_readExprO_31 (mX7_readExpr g) σ = some σ' ∧ Ex (SE d) σ σ' ∧ CR b n d (.inl (2, s)) σ' := by
    obtain ⟨σ1, e1, x1, r1⟩ := C_ref (b := b) (n := n) (d := d) (k := 2) (by decide) (by decide) _ σ hC hR
    have e1' : mX7_refuse 2 σ = some σ1 := e1
    unfold mX7_readExprO_31
    rw [e1', bnd_some]
    exact ⟨σ1, rfl, x1, r1⟩
  by_cases c3 : tc b n s = 3
  · rw [if_pos ((tcE (v := 3) hb rfl (by decide)).mpr c3), if_pos (Or.inl c3)]; exact r2
  rw [if_neg (fun q => c3 ((tcE (v := 3) hb rfl (by decide)).mp q))]
  by_cases c2 : tc b n s = 2
  · rw [if_pos ((tcE (v := 2) hb rfl (by decide)).mpr c2), if_pos (Or.inr (Or.inl c2))]; exact r2
  rw [if_neg (fun q => c2 ((tcE (v := 2) hb rfl (by decide)).mp q))]
  by_cases c4 : tc b n s = 40
  · rw [if_pos ((tcE (v := 40) hb rfl (by decide)).mpr c4), if_pos (Or.inr (Or.inr c4))]; exact r2
  rw [if_neg (fun q => c4 ((tcE (v := 40) hb rfl (by decide)).mp q)), if_neg (fun q => q.elim c3 (fun q => q.elim c2 c4))]
  have hw : ¬ wd b n s = 10 := fun q => c2 (wd_w (by omega))
  obtain ⟨σ1, e1, x1, r1⟩ := C_sign (b := b) (n := n) (d := d) (c := 40) (v := 40) hn hb rfl (by decide) _ σ hC hR
  rw [stN_r, if_neg c4] at r1
  have hf := r1.flt
  refine ⟨σ1, ?_, x1, r1⟩
  have eP : mX7_readPart (mX7_readExpr g) 6 σ = some σ1 := by
    unfold mX7_readPart
    rw [hT.1, if_neg (fun q => c3 ((tcE (v := 3) hb rfl (by decide)).mp q)), if_neg (fun q => c2 ((tcE (v := 2) hb rfl (by decide)).mp q)), e1, bnd_some, if_neg hf]
  have eR : mX7_readProduct (mX7_readExpr g) 6 σ = some σ1 := by
    unfold mX7_readProduct
    rw [eP, bnd_some]
    show mX7_readProduct_7B (mX7_readExpr g) (mX7_readProduct_7 (mX7_readExpr g) 4999) 6 0 σ1 = _
    unfold mX7_readProduct_7B
    rw [if_neg hf, ite_self]
  have eS : mX7_readSum (mX7_readExpr g) 6 σ = some σ1 := by
    unfold mX7_readSum
    rw [eR, bnd_some]
    show mX7_readSum_7B (mX7_readExpr g) (mX7_readSum_7 (mX7_readExpr g) 4999) 6 0 σ1 = _
    unfold mX7_readSum_7B
    rw [if_neg hf, ite_self]
  have eN : mX7_readNot (mX7_readExpr g) 6 σ = some σ1 := by
    show mX7_readNot_2B (mX7_readExpr g) (mX7_readNot_2 (mX7_readExpr g) 4999) 6 0 σ = _
    unfold mX7_readNot_2B mX7_readNot_27
    rw [if_neg (by decide), C_isw hn hb ⟨by decide, by decide⟩ (by decide) wr4 hC.1 hT hs, bnd_some, if_neg hw, if_pos rfl, bnd_some, if_pos rfl, eS, bnd_some, if_neg hf]
    show mX7_readNot_108B (mX7_readExpr g) (mX7_readNot_108 (mX7_readExpr g) 4999) 0 0 σ1 = _
    unfold mX7_readNot_108B
    rw [if_pos (by decide)]
  have eA : mX7_readAnd (mX7_readExpr g) 6 σ = some σ1 := by
    unfold mX7_readAnd
    rw [eN, bnd_some]
    show mX7_readAnd_7B (mX7_readExpr g) (mX7_readAnd_7 (mX7_readExpr g) 4999) 6 0 σ1 = _
    unfold mX7_readAnd_7B
    rw [if_neg hf, ite_self]
  unfold mX7_readExprO_37
  rw [eA, bnd_some]
  show mX7_readExprO_44B (mX7_readExpr g) (mX7_readExprO_44 (mX7_readExpr g) 4999) 6 0 σ1 = _
  unfold mX7_readExprO_44B
  rw [if_neg hf, ite_self]
theorem C_expr_r {b : Nat → Nat} {n d : Nat} (hn : n ≤ 500) (hb : ∀ j, b j < 256) : ∀ m w, w + m = 6 → CCr b n d (mX7_readExpr (m + 2) (Int32.ofNat w)) (zExpr b n (m + 2) w)
  | 0, w, hw => fun s l σ hC hR => by
    have : w = 6 := by omega
    subst this
    rw [zExpr_6]
    exact C_six (g := 1) hn hb hC hR
  | m + 1, w, hw => fun s l σ hC hR => by
    have ih := C_expr_r (d := d) hn hb m (w + 1) (by omega)
    have h := C_or (b := b) (n := n) (d := d) (fE := mX7_readExpr (m + 2)) (w := Int32.ofNat w) (E := zExpr b n (m + 2) (w + 1)) hn hb (by rw [oI_s]; exact ih)
    show ∃ σ', mX7_readExprO (mX7_readExpr (m + 2)) (Int32.ofNat w) σ = some σ' ∧ _ ∧ CR b n d (zExprO b n (zExpr b n (m + 2) (w + 1)) w s l) σ'
    unfold mX7_readExprO zExprO
    rw [if_pos ((lt_lit (v := 6) (m := 6) rfl (by omega) (by decide)).mpr (by omega)), if_neg (fun q => by omega)]
    exact h _ σ hC hR
/-- an EXPR, also where a fault was already -/
theorem C_expr {b : Nat → Nat} {n d : Nat} (hn : n ≤ 500) (hb : ∀ j, b j < 256) : CC b n d (mX7_readExpr 8 0) (zExpr b n 8 0) := fun t σ hC hR => by
  cases t with
  | inr q => exact C_expr_r hn hb 6 0 rfl q.1 q.2 σ hC hR
  | inl e =>
    have h := C_or (b := b) (n := n) (d := d) (fE := mX7_readExpr 7) (w := 0) (E := zExpr b n 7 1) hn hb (C_expr_r hn hb 5 1 rfl)
    show ∃ σ', mX7_readExprO (mX7_readExpr 7) 0 σ = some σ' ∧ _ ∧ _
    unfold mX7_readExprO
    rw [if_pos (by decide)]
    exact h _ σ hC hR
