/-! the fewest payments -/
theorem cmp0 {x : Int64} : (lg_cmp x 0 = 0) ↔ x = 0 := by
  unfold lg_cmp
  by_cases c : x > 0
  · rw [if_pos c]
    exact ⟨fun q => absurd q i10, fun q => by subst q; exact absurd c (by decide)⟩
  · rw [if_neg c]
    by_cases d : x = 0
    · rw [if_pos d]; exact ⟨fun _ => d, fun _ => rfl⟩
    · rw [if_neg d]; exact ⟨fun q => absurd q (by decide), fun q => absurd q d⟩
theorem bit_m : ∀ s, s < 32 → ∀ a, a < 5 → ((((Int32.ofNat s) >>> ((Int32.ofNat a) &&& 31)) &&& (1 : Int32)) = 1 ↔ s.testBit a = true) := by decide +kernel
theorem clr_m : ∀ s, s < 32 → ∀ a, a < 5 → s.testBit a = true → (Int32.ofNat s) &&& (((1 : Int32) <<< ((Int32.ofNat a) &&& 31)) ^^^ (-1 : Int32)) = Int32.ofNat (s ^^^ 2 ^ a) := by decide +kernel
theorem set_m : ∀ s, s < 32 → ∀ a, a < 5 → (Int32.ofNat s) ||| ((1 : Int32) <<< ((Int32.ofNat a) &&& 31)) = Int32.ofNat (s ||| 2 ^ a) := by decide +kernel
theorem dif_m : ∀ s, s < 32 → ∀ u, u < 32 → u &&& s = u → (Int32.ofNat s) &&& ((Int32.ofNat u) ^^^ (-1 : Int32)) = Int32.ofNat (s ^^^ u) := by decide +kernel
theorem nxt_m : ∀ s, s < 32 → ∀ x, x < 32 → x ≠ 0 → ((Int32.ofNat x) - 1) &&& (Int32.ofNat s) = Int32.ofNat ((x - 1) &&& s) := by decide +kernel
/-- what the class's way writes -/
def WP (σ σ' : Sto) : Prop := sZ σ' = sZ σ ∧ (∀ b, sK σ' b = sK σ b) ∧ (∀ b, sN σ' b = sN σ b) ∧ (∀ b k, sR σ' b k = sR σ b k) ∧ (∀ b k, ¬ (b = 66 ∧ k ≠ 0) → sI σ' b k = sI σ b k) ∧ ∀ b k, b ≠ 65 → sL σ' b k = sL σ b k
theorem WP.rf {σ : Sto} : WP σ σ := ⟨rfl, fun _ => rfl, fun _ => rfl, fun _ _ => rfl, fun _ _ _ => rfl, fun _ _ _ => rfl⟩
theorem WP.tr {x y z : Sto} (h : WP x y) (g : WP y z) : WP x z :=
  ⟨g.1.trans h.1, fun b => (g.2.1 b).trans (h.2.1 b), fun b => (g.2.2.1 b).trans (h.2.2.1 b), fun b k => (g.2.2.2.1 b k).trans (h.2.2.2.1 b k), fun b k hb => (g.2.2.2.2.1 b k hb).trans (h.2.2.2.2.1 b k hb), fun b k hb => (g.2.2.2.2.2 b k hb).trans (h.2.2.2.2.2 b k hb)⟩
theorem WP.wi {σ : Sto} {k : Nat} (hk : k ≠ 0) (v : Int32) : WP σ (wI σ 66 k v) := ⟨rfl, fun _ => rfl, fun _ => rfl, fun _ _ => rfl, fun b j hb => by rw [sI_wI, if_neg (fun q => hb ⟨q.1, by rw [q.2]; exact hk⟩)], fun _ _ _ => rfl⟩
theorem WP.wl {σ : Sto} (k : Nat) (v : Int64) : WP σ (wL σ 65 k v) := ⟨rfl, fun _ => rfl, fun _ => rfl, fun _ _ => rfl, fun _ _ _ => rfl, fun b j hb => by rw [sL_wL, if_neg (fun q => hb q.1)]⟩
theorem WP.fr {σ σ' : Sto} (h : WP σ σ') : Fr σ σ' := ⟨Nat.le_of_eq h.1.symm, fun b _ => ⟨h.2.1 b, h.2.2.1 b⟩, fun b _ hr _ k => h.2.2.2.2.1 b k (fun q => by have := q.1; subst this; unfold reg at hr; omega), fun b _ _ k => h.2.2.2.1 b k⟩
theorem Rel.wp {A : Ab} {σ σ' : Sto} (h : Rel A σ) (w : WP σ σ') : Rel A σ' := by
  have rI : ∀ b k, b ≠ 66 → sI σ' b k = sI σ b k := fun b k hb => w.2.2.2.2.1 b k (fun q => hb q.1)
  refine ⟨h.1, by rw [w.1]; exact h.2.1, fun a k hp => ?_, fun c hc i hi => ?_, fun j hj => ?_, fun j hj => ?_, fun q hq => ⟨(w.2.1 _).trans (h.stat q hq).1, (w.2.2.1 _).trans (h.stat q hq).2⟩, ⟨fun p hp => ?_, ?_⟩, h.row, h.wk.fr w.fr (fun i => w.2.2.2.1 _ _) rfl (fun _ _ _ _ => rfl) (h.1.le (c := 1) (by decide)).1, h.lw.fr w.fr (fun i => w.2.2.2.1 _ _) (w.2.2.2.1 _ _) rfl (h.1.le (c := 6) (by decide)).1 (Nat.le_refl _) (Nat.le_refl _) (fun _ _ _ _ => rfl), h.hr, h.sd, h.cl, h.ap.same (fun c _ _ i => w.2.2.2.1 _ _) (fun _ _ _ => rfl), h.z⟩
  · have := pr_rng hp
    rw [rI _ _ (by omega)]; exact h.2.2.1 a k hp
  · have h0 := h.2.2.2.1 c hc i hi
    refine h0.keep (w.2.2.2.1 _ _) (Nat.le_of_eq w.1.symm) (w.2.1 _) (fun k _ => rI _ _ (fun q => ?_)) (fun _ _ => rfl)
    have hr := h0.1
    rw [q] at hr
    unfold reg at hr
    omega
  · rw [rI _ _ (by rcases cnt_lo j hj with e | e <;> rw [e] <;> decide)]; exact h.2.2.2.2.1 j hj
  · rw [rI _ _ (by decide)]; exact h.2.2.2.2.2.1 j hj
  · rw [w.2.2.2.2.2 80 p (by decide), w.2.2.2.2.2 145 p (by decide)]; exact h.gain.1 p hp
  · rw [w.2.2.2.2.1 66 0 (fun q => q.2 rfl)]; exact h.gain.2
theorem gM_b {g : Nat → Nat} {s : Nat} (hs : s < 32) (hg : ∀ t, t < 32 → g t ≤ t) (n : Nat) (hn : n ≤ 5) : gM g s n ≤ 32 := by
  rcases gM_at (g := g) (s := s) n with q | ⟨a, a1, a2, a3⟩
  · omega
  · have := bit_lt s hs a (by omega) a2
    have := hg (s ^^^ 2 ^ a) (by omega)
    omega
theorem C_few_i {N : Nat → Int64} {f2 : Int32 → Sto → Option (Int32 × Sto)} {s : Nat} {g : Nat → Nat} (hs : s < 32) (h0 : s ≠ 0) (hg : ∀ t, t < 32 → g t ≤ t) : ∀ m a fuel σ, a + m = 5 → m < fuel → (∀ a, a < 5 → nV (sL σ 64) a 5 = N a) → (∀ t, t < s → sI σ 66 t = Int32.ofNat (g t)) → sL σ 65 s = sV N s a → sI σ 66 s = Int32.ofNat (gM g s a) →
    ∃ σ', mX2_fewestPayments_27 f2 fuel (Int32.ofNat s) (Int32.ofNat a) σ = f2 (Int32.ofNat (s + 1)) σ' ∧ WP σ σ' ∧ (∀ t, t < s → sI σ' 66 t = Int32.ofNat (g t)) ∧ sI σ' 66 s = Int32.ofNat (gM g s 5 + if zB N s then 1 else 0) := by
  have s32 := oI_inb (j := s) (n := 32) hs (by decide)
  intro m
  induction m with
  | zero =>
    intro a fuel σ ha hf hN ht hL hI
    obtain ⟨n, rfl⟩ : ∃ n, fuel = n + 1 := ⟨fuel - 1, by omega⟩
    have e : a = 5 := by omega
    subst e
    have step : mX2_fewestPayments_27 f2 (n + 1) (Int32.ofNat s) (Int32.ofNat 5) σ = if lg_cmp (sL σ 65 s) 0 = 0 then f2 (Int32.ofNat (s + 1)) (wI σ 66 s (sI σ 66 s + 1)) else f2 (Int32.ofNat (s + 1)) σ := by
      refine Eq.trans (b := mX2_fewestPayments_27B f2 (mX2_fewestPayments_27 f2 n) (Int32.ofNat s) (Int32.ofNat 5) σ) rfl ?_
      unfold mX2_fewestPayments_27B
      rw [if_pos (by decide), if_pos s32, oI_cl (j := s) (by omega), oI_s]
    rw [step, hL]
    by_cases c : sV N s 5 = 0
    · rw [if_pos (cmp0.mpr c)]
      refine ⟨_, rfl, WP.wi h0 _, fun t h => by rw [sI_wI, if_neg (by omega)]; exact ht t h, ?_⟩
      have : zB N s = true := decide_eq_true c
      rw [sI_wI, if_pos ⟨rfl, rfl⟩, hI, this, oI_s]; rfl
    · rw [if_neg (fun z => c (cmp0.mp z))]
      refine ⟨_, rfl, WP.rf, ht, ?_⟩
      have : zB N s = false := decide_eq_false c
      rw [hI, this]; rfl
  | succ m ih =>
    intro a fuel σ ha hf hN ht hL hI
    obtain ⟨n, rfl⟩ : ∃ n, fuel = n + 1 := ⟨fuel - 1, by omega⟩
    have a5 : a < 5 := by omega
    by_cases c : s.testBit a = true
    · have hl := bit_lt s hs a a5 c
      have step : mX2_fewestPayments_27 f2 (n + 1) (Int32.ofNat s) (Int32.ofNat a) σ = mX2_fewestPayments_27 f2 n (Int32.ofNat s) (Int32.ofNat (a + 1)) (wI (wL σ 65 s (sL σ 65 s + N a)) 66 s (if sI σ 66 s < sI σ 66 (s ^^^ 2 ^ a) then sI σ 66 (s ^^^ 2 ^ a) else sI σ 66 s)) := by
        refine Eq.trans (b := mX2_fewestPayments_27B f2 (mX2_fewestPayments_27 f2 n) (Int32.ofNat s) (Int32.ofNat a) σ) rfl ?_
        unfold mX2_fewestPayments_27B
        rw [if_neg (q_5 (p := a) a5), if_pos ((bit_m s hs a a5).mpr c), if_pos s32, C_net a5, bnd_some, hN a a5, oI_cl (j := s) (by omega), clr_m s hs a a5 c, oI_s]
        simp only [stp]
        rw [if_pos (oI_inb (j := s ^^^ 2 ^ a) (n := 32) (by omega) (by decide)), oI_cl (j := s ^^^ 2 ^ a) (by omega)]
        rfl
      rw [step]
      have hv : (if sI σ 66 s < sI σ 66 (s ^^^ 2 ^ a) then sI σ 66 (s ^^^ 2 ^ a) else sI σ 66 s) = Int32.ofNat (gM g s (a + 1)) := by
        have b1 := gM_b hs hg a (by omega)
        have b2 := hg (s ^^^ 2 ^ a) (by omega)
        rw [hI, ht _ hl]
        show _ = Int32.ofNat (if s.testBit a then max (gM g s a) (g (s ^^^ 2 ^ a)) else gM g s a)
        rw [if_pos c]
        by_cases q : gM g s a < g (s ^^^ 2 ^ a)
        · rw [if_pos ((oI_lt (by omega) (by omega)).mpr q), Nat.max_eq_right (by omega)]
        · rw [if_neg (fun y => q ((oI_lt (by omega) (by omega)).mp y)), Nat.max_eq_left (by omega)]
      rw [hv]
      have w1 : WP σ (wI (wL σ 65 s (sL σ 65 s + N a)) 66 s (Int32.ofNat (gM g s (a + 1)))) := (WP.wl s _).tr (WP.wi h0 _)
      obtain ⟨σ', z1, z2, z3, z4⟩ := ih (a + 1) n _ (by omega) (by omega) (fun x hx => (nV_congr (g := sL σ 64) hx (fun j _ => w1.2.2.2.2.2 64 j (by decide)) 5 (Nat.le_refl _)).trans (hN x hx)) (fun t h => by
        show sI (wI (wL σ 65 s (sL σ 65 s + N a)) 66 s (Int32.ofNat (gM g s (a + 1)))) 66 t = _
        rw [sI_wI, if_neg (by omega)]; exact ht t h) (by
        show sL (wL σ 65 s (sL σ 65 s + N a)) 65 s = _
        rw [sL_wL, if_pos ⟨rfl, rfl⟩, hL]
        show _ = if s.testBit a then sV N s a + N a else sV N s a
        rw [if_pos c]) (by rw [sI_wI, if_pos ⟨rfl, rfl⟩])
      exact ⟨σ', z1, w1.tr z2, z3, z4⟩
    · have step : mX2_fewestPayments_27 f2 (n + 1) (Int32.ofNat s) (Int32.ofNat a) σ = mX2_fewestPayments_27 f2 n (Int32.ofNat s) (Int32.ofNat (a + 1)) σ := by
        refine Eq.trans (b := mX2_fewestPayments_27B f2 (mX2_fewestPayments_27 f2 n) (Int32.ofNat s) (Int32.ofNat a) σ) rfl ?_
        unfold mX2_fewestPayments_27B
        rw [if_neg (q_5 (p := a) a5), if_neg (fun z => c ((bit_m s hs a a5).mp z)), oI_s]
      rw [step]
      exact ih (a + 1) n σ (by omega) (by omega) hN ht (by
        rw [hL]
        show _ = if s.testBit a then sV N s a + N a else sV N s a
        rw [if_neg c]) (by
        rw [hI]
        show _ = Int32.ofNat (if s.testBit a then max (gM g s a) (g (s ^^^ 2 ^ a)) else gM g s a)
        rw [if_neg c])
theorem gT_le {z : Nat → Bool} (n : Nat) : ∀ t, t < 32 → gT z n t ≤ t := fun t ht => by
  by_cases c : t < n
  · rw [gT_st n c]; exact gr_le 32 t ht ht
  · have : ∀ n, n ≤ t → gT z n t = 0 := fun n hn => by
      induction n with
      | zero => rfl
      | succ n ih =>
        show (if t = n then _ else gT z n t) = 0
        rw [if_neg (by omega)]
        exact ih (by omega)
    rw [this n (by omega)]
    omega
theorem C_few_o {N : Nat → Int64} : ∀ m s fuel σ, s + m = 32 → 1 ≤ s → m < fuel → (∀ a, a < 5 → nV (sL σ 64) a 5 = N a) → (∀ t, t < s → sI σ 66 t = Int32.ofNat (gT (zB N) s t)) →
    ∃ σ', mX2_fewestPayments_2 fuel (Int32.ofNat s) σ = some (5 - Int32.ofNat (gr (zB N) 31), σ') ∧ WP σ σ' := by
  intro m
  induction m with
  | zero =>
    intro s fuel σ hs h1 hf hN ht
    obtain ⟨n, rfl⟩ : ∃ n, fuel = n + 1 := ⟨fuel - 1, by omega⟩
    have e : s = 32 := by omega
    subst e
    refine ⟨σ, ?_, WP.rf⟩
    refine Eq.trans (b := mX2_fewestPayments_2B (mX2_fewestPayments_2 n) (Int32.ofNat 32) σ) rfl ?_
    unfold mX2_fewestPayments_2B
    rw [if_pos (by decide), if_pos (by decide)]
    show some (5 - sI σ 66 31, σ) = _
    rw [ht 31 (by decide), gT_st 32 (by decide)]
  | succ m ih =>
    intro s fuel σ hs h1 hf hN ht
    obtain ⟨n, rfl⟩ : ∃ n, fuel = n + 1 := ⟨fuel - 1, by omega⟩
    have s32 := oI_inb (j := s) (n := 32) (by omega) (by decide)
    have w1 : WP σ (wI (wL σ 65 s 0) 66 s 0) := (WP.wl s _).tr (WP.wi (by omega) _)
    have hN' : ∀ σ', WP σ σ' → ∀ a, a < 5 → nV (sL σ' 64) a 5 = N a := fun σ' w a ha => (nV_congr (g := sL σ 64) ha (fun j _ => w.2.2.2.2.2 64 j (by decide)) 5 (Nat.le_refl _)).trans (hN a ha)
    obtain ⟨σ1, z1, z2, z3, z4⟩ := C_few_i (f2 := mX2_fewestPayments_2 n) (s := s) (g := gT (zB N) s) (by omega) (by omega) (gT_le s) 5 0 FU (wI (wL σ 65 s 0) 66 s 0) rfl (show 5 < 5000 by omega) (hN' _ w1) (fun t h => by rw [sI_wI, if_neg (by omega)]; exact ht t h) (by show sL (wL σ 65 s 0) 65 s = 0; rw [sL_wL, if_pos ⟨rfl, rfl⟩]) (by rw [sI_wI, if_pos ⟨rfl, rfl⟩]; rfl)
    have step : mX2_fewestPayments_2 (n + 1) (Int32.ofNat s) σ = mX2_fewestPayments_27 (mX2_fewestPayments_2 n) FU (Int32.ofNat s) 0 (wI (wL σ 65 s 0) 66 s 0) := by
      refine Eq.trans (b := mX2_fewestPayments_2B (mX2_fewestPayments_2 n) (Int32.ofNat s) σ) rfl ?_
      unfold mX2_fewestPayments_2B
      rw [if_neg (q_32 (p := s) (by omega)), if_pos s32, oI_cl (j := s) (by omega)]
    have w2 := w1.tr z2
    obtain ⟨σ', y1, y2⟩ := ih (s + 1) n σ1 (by omega) (by omega) (by omega) (hN' _ w2) (fun t h => by
      show _ = Int32.ofNat (if t = s then (if s = 0 then 0 else gM (gT (zB N) s) s 5 + (if zB N s then 1 else 0)) else gT (zB N) s t)
      by_cases e : t = s
      · subst e
        rw [if_pos rfl, if_neg (by omega)]; exact z4
      · rw [if_neg e]; exact z3 t (by omega))
    exact ⟨σ', step.trans (z1.trans y1), w2.tr y2⟩
/-! the reference's way -/
theorem M_not_l {N : Nat → Int64} {ρ : Sto} {s : Nat} (hs : s < 32) (hN : ∀ a, a < 5 → nV (sL ρ 142) a 5 = N a) : ∀ m a fuel, a + m = 5 → m < fuel → mX12_isNothing_5 fuel (Int32.ofNat s) (sV N s a) (Int32.ofNat a) ρ = some (if zB N s then 1 else 0) := by
  intro m
  induction m with
  | zero =>
    intro a fuel ha hf
    obtain ⟨n, rfl⟩ : ∃ n, fuel = n + 1 := ⟨fuel - 1, by omega⟩
    have e : a = 5 := by omega
    subst e
    refine Eq.trans (b := mX12_isNothing_5B (mX12_isNothing_5 n) (Int32.ofNat s) (sV N s 5) (Int32.ofNat 5) ρ) rfl ?_
    unfold mX12_isNothing_5B
    rw [if_pos (by decide)]
    by_cases c : sV N s 5 = 0
    · have : zB N s = true := decide_eq_true c
      rw [if_pos (cmp0.mpr c), this]; rfl
    · have : zB N s = false := decide_eq_false c
      rw [if_neg (fun z => c (cmp0.mp z)), this]; rfl
  | succ m ih =>
    intro a fuel ha hf
    obtain ⟨n, rfl⟩ : ∃ n, fuel = n + 1 := ⟨fuel - 1, by omega⟩
    have a5 : a < 5 := by omega
    have ih' := ih (a + 1) n (by omega) (by omega)
    refine Eq.trans (b := mX12_isNothing_5B (mX12_isNothing_5 n) (Int32.ofNat s) (sV N s a) (Int32.ofNat a) ρ) rfl ?_
    unfold mX12_isNothing_5B
    rw [if_neg (q_5 (p := a) a5)]
    have eS : sV N s (a + 1) = if s.testBit a then sV N s a + N a else sV N s a := rfl
    by_cases c : s.testBit a = true
    · rw [if_pos c] at eS
      rw [if_pos ((bit_m s hs a a5).mpr c), M_net a5, bnd_some, hN a a5, oI_s, ← eS]
      exact ih'
    · rw [if_neg c] at eS
      rw [if_neg (fun z => c ((bit_m s hs a a5).mp z)), oI_s, ← eS]
      exact ih'
theorem M_not {N : Nat → Int64} {ρ : Sto} {s : Nat} (hs : s < 32) (hN : ∀ a, a < 5 → nV (sL ρ 142) a 5 = N a) : mX12_isNothing (Int32.ofNat s) ρ = some (if zB N s then 1 else 0) := M_not_l hs hN 5 0 FU rfl (show 5 < 5000 by omega)
def S143 (b _j : Nat) : Prop := b = 143
theorem S143_pr : ∀ b j, S143 b j → pr b j = false := fun b j h => by
  have : b = 143 := h
  subst this; rfl
theorem pL_b {z : Nat → Bool} {p : Nat → Nat} {s : Nat} (hs : s < 32) (hp : ∀ t, t < 32 → p t ≤ t) {u : Nat} (hu : sub u s) (h0 : u ≠ 0) : p (s ^^^ u) + 1 ≤ 32 := by
  have h1 := xor_lt2 s hs u (by have := sub_lt hu; omega) h0 hu
  have := hp (s ^^^ u) (by omega)
  omega
theorem M_pay_i {N : Nat → Int64} {f79 : Int32 → Int32 → Int32 → Sto → Option (Int32 × Sto)} {x3 x4 : Int32} {s : Nat} {p : Nat → Nat} (hs : s < 32) (hp : ∀ t, t < 32 → p t ≤ t) : ∀ f x c ρ, x < f → sub x s → c ≤ 32 → (∀ a, a < 5 → nV (sL ρ 142) a 5 = N a) → (∀ t, t < s → sI ρ 143 t = Int32.ofNat (p t)) → sI ρ 143 s = Int32.ofNat c →
    ∃ ρ', mX12_payments_98 f79 f x3 x4 (Int32.ofNat s) (Int32.ofNat x) ρ = f79 x3 x4 (Int32.ofNat (s + 1)) ρ' ∧ Ex S143 ρ ρ' ∧ (∀ t, t < s → sI ρ' 143 t = Int32.ofNat (p t)) ∧ sI ρ' 143 s = Int32.ofNat (pL (zB N) p s f x c) := by
  intro f
  induction f with
  | zero => intro x c ρ h; omega
  | succ f ih =>
    intro x c ρ hx hxs hc hN ht hI
    have xl := sub_lt hxs
    by_cases e : x = 0
    · subst e
      refine ⟨ρ, ?_, Ex.rf, ht, ?_⟩
      · refine Eq.trans (b := mX12_payments_98B f79 (mX12_payments_98 f79 f) x3 x4 (Int32.ofNat s) (Int32.ofNat 0) ρ) rfl ?_
        unfold mX12_payments_98B
        rw [if_pos (by decide), oI_s]
      · rw [hI]
        show _ = Int32.ofNat (if 0 = 0 then c else _)
        rw [if_pos rfl]
    · have le0 : ¬ Int32.ofNat x ≤ 0 := fun z => absurd ((oI_le (n := 0) (by omega) (by decide)).mp z) (by omega)
      have hd := xor_lt2 s hs x (by omega) e hxs
      have n2 : (x - 1) &&& s ≤ x - 1 := Nat.and_le_left
      have nx : (Int32.ofNat x - 1) &&& Int32.ofNat s = Int32.ofNat ((x - 1) &&& s) := nxt_m s hs x (by omega) e
      have eL : pL (zB N) p s (f + 1) x c = pL (zB N) p s f ((x - 1) &&& s) (if zB N x then max c (p (s ^^^ x) + 1) else c) := by
        show (if x = 0 then c else _) = _
        rw [if_neg e]
      have pb := pL_b (z := zB N) hs hp hxs e
      have step : mX12_payments_98 f79 (f + 1) x3 x4 (Int32.ofNat s) (Int32.ofNat x) ρ = if zB N x = true then (if Int32.ofNat (p (s ^^^ x)) + 1 ≤ Int32.ofNat c then mX12_payments_98 f79 f x3 x4 (Int32.ofNat s) (Int32.ofNat ((x - 1) &&& s)) ρ else mX12_payments_98 f79 f x3 x4 (Int32.ofNat s) (Int32.ofNat ((x - 1) &&& s)) (wI ρ 143 s (Int32.ofNat (p (s ^^^ x)) + 1))) else mX12_payments_98 f79 f x3 x4 (Int32.ofNat s) (Int32.ofNat ((x - 1) &&& s)) ρ := by
        refine Eq.trans (b := mX12_payments_98B f79 (mX12_payments_98 f79 f) x3 x4 (Int32.ofNat s) (Int32.ofNat x) ρ) rfl ?_
        unfold mX12_payments_98B mX12_payments_157
        rw [if_neg le0, M_not (by omega) hN, bnd_some, nx, dif_m s hs x (by omega) hxs, if_pos (oI_inb (j := s ^^^ x) (n := 32) (by omega) (by decide)), if_pos (oI_inb (j := s) (n := 32) hs (by decide)), oI_cl (j := s ^^^ x) (by omega), oI_cl (j := s) (by omega), ht _ hd, hI]
        cases zB N x <;> rfl
      rw [step, eL]
      by_cases d : zB N x = true
      · rw [if_pos d, if_pos d, oI_s]
        by_cases q : p (s ^^^ x) + 1 ≤ c
        · rw [if_pos ((oI_le (by omega) (by omega)).mpr q), Nat.max_eq_left q]
          exact ih _ c ρ (by omega) (sub_and _ _) hc hN ht hI
        · rw [if_neg (fun z => q ((oI_le (by omega) (by omega)).mp z)), Nat.max_eq_right (by omega)]
          obtain ⟨ρ', z1, z2, z3⟩ := ih ((x - 1) &&& s) (p (s ^^^ x) + 1) (wI ρ 143 s (Int32.ofNat (p (s ^^^ x) + 1))) (by omega) (sub_and _ _) pb hN (fun t h => by rw [sI_wI, if_neg (by omega)]; exact ht t h) (by rw [sI_wI, if_pos ⟨rfl, rfl⟩])
          exact ⟨ρ', z1, (Ex.rf.w (S := S143) _ rfl).tr z2, z3⟩
      · rw [if_neg d, if_neg d]
        exact ih _ c ρ (by omega) (sub_and _ _) hc hN ht hI
theorem pT_le {z : Nat → Bool} (n : Nat) : ∀ t, t < 32 → pT z n t ≤ t := fun t ht => by
  by_cases c : t < n
  · rw [pT_st n c]; exact pr_le 32 t ht ht
  · have : ∀ n, n ≤ t → pT z n t = 0 := fun n hn => by
      induction n with
      | zero => rfl
      | succ n ih =>
        show (if t = n then _ else pT z n t) = 0
        rw [if_neg (by omega)]
        exact ih (by omega)
    rw [this n (by omega)]
    omega
theorem M_pay_o {N : Nat → Int64} {al : Nat} (ha : al < 32) {x4 : Int32} : ∀ m s fuel ρ, s + m = 32 → m < fuel → (∀ a, a < 5 → nV (sL ρ 142) a 5 = N a) → (∀ t, t < s → sI ρ 143 t = Int32.ofNat (pT (zB N) s t)) →
    ∃ ρ', mX12_payments_79 fuel (Int32.ofNat al) x4 (Int32.ofNat s) ρ = some (x4 - Int32.ofNat (pr' (zB N) al), ρ') ∧ Ex S143 ρ ρ' := by
  intro m
  induction m with
  | zero =>
    intro s fuel ρ hs hf hN ht
    obtain ⟨n, rfl⟩ : ∃ n, fuel = n + 1 := ⟨fuel - 1, by omega⟩
    have e : s = 32 := by omega
    subst e
    refine ⟨ρ, ?_, Ex.rf⟩
    refine Eq.trans (b := mX12_payments_79B (mX12_payments_79 n) (Int32.ofNat al) x4 (Int32.ofNat 32) ρ) rfl ?_
    unfold mX12_payments_79B
    rw [if_pos (by decide), if_pos (oI_inb (j := al) (n := 32) ha (by decide)), oI_cl (j := al) (by omega), ht al ha, pT_st 32 ha]
  | succ m ih =>
    intro s fuel ρ hs hf hN ht
    obtain ⟨n, rfl⟩ : ∃ n, fuel = n + 1 := ⟨fuel - 1, by omega⟩
    have s32 : s < 32 := by omega
    obtain ⟨ρ1, z1, z2, z3, z4⟩ := M_pay_i (f79 := mX12_payments_79 n) (x3 := Int32.ofNat al) (x4 := x4) (s := s) (p := pT (zB N) s) s32 (pT_le s) FU s 0 (wI ρ 143 s 0) (show s < 5000 by omega) (Nat.and_self _) (by decide) hN (fun t h => by rw [sI_wI, if_neg (by omega)]; exact ht t h) (by rw [sI_wI, if_pos ⟨rfl, rfl⟩]; rfl)
    have step : mX12_payments_79 (n + 1) (Int32.ofNat al) x4 (Int32.ofNat s) ρ = mX12_payments_98 (mX12_payments_79 n) FU (Int32.ofNat al) x4 (Int32.ofNat s) (Int32.ofNat s) (wI ρ 143 s 0) := by
      refine Eq.trans (b := mX12_payments_79B (mX12_payments_79 n) (Int32.ofNat al) x4 (Int32.ofNat s) ρ) rfl ?_
      unfold mX12_payments_79B
      rw [if_neg (q_32 (p := s) s32), if_pos (oI_inb (j := s) (n := 32) s32 (by decide)), oI_cl (j := s) (by omega)]
    have e1 : Ex S143 ρ ρ1 := (Ex.rf.w (S := S143) _ rfl).tr z2
    obtain ⟨ρ', y1, y2⟩ := ih (s + 1) n ρ1 (by omega) (by omega) (fun a h => (nV_congr (g := sL ρ 142) h (fun j _ => e1.2.2.2.2.1 142 j) 5 (Nat.le_refl _)).trans (hN a h)) (fun t h => by
      show _ = Int32.ofNat (if t = s then pL (zB N) (pT (zB N) s) s FU s 0 else pT (zB N) s t)
      by_cases e : t = s
      · subst e
        rw [if_pos rfl]; exact z4
      · rw [if_neg e]; exact z3 t (by omega))
    exact ⟨ρ', step.trans (z1.trans y1), e1.tr y2⟩
theorem al_st {N : Nat → Int64} {n : Nat} (h : ∀ a, n ≤ a → N a = 0) : ∀ m, alM N (n + m) = alM N n ∧ nnM N (n + m) = nnM N n
  | 0 => ⟨rfl, rfl⟩
  | m + 1 => by
    have ih := al_st h m
    have e1 : alM N (n + (m + 1)) = if N (n + m) = 0 then alM N (n + m) else alM N (n + m) ||| 2 ^ (n + m) := rfl
    have e2 : nnM N (n + (m + 1)) = if N (n + m) = 0 then nnM N (n + m) else nnM N (n + m) + 1 := rfl
    rw [e1, e2, if_pos (h _ (by omega)), if_pos (h _ (by omega))]
    exact ih
theorem M_pay_a {N : Nat → Int64} {ρ : Sto} {ns : Nat} (hns : ns ≤ 5) (h5 : sI ρ 81 5 = Int32.ofNat ns) (hN : ∀ a, a < 5 → nV (sL ρ 142) a 5 = N a) : ∀ m a fuel, a + m = ns → m < fuel → mX12_payments_37 fuel (Int32.ofNat (alM N a)) (Int32.ofNat (nnM N a)) (Int32.ofNat a) ρ = mX12_payments_79 FU (Int32.ofNat (alM N ns)) (Int32.ofNat (nnM N ns)) 0 ρ := by
  intro m
  induction m with
  | zero =>
    intro a fuel ha hf
    obtain ⟨n, rfl⟩ : ∃ n, fuel = n + 1 := ⟨fuel - 1, by omega⟩
    have e : a = ns := by omega
    subst e
    refine Eq.trans (b := mX12_payments_37B (mX12_payments_37 n) (Int32.ofNat (alM N a)) (Int32.ofNat (nnM N a)) (Int32.ofNat a) ρ) rfl ?_
    unfold mX12_payments_37B
    rw [h5, if_pos ((oI_le (by omega) (by omega)).mpr (Nat.le_refl _))]
  | succ m ih =>
    intro a fuel ha hf
    obtain ⟨n, rfl⟩ : ∃ n, fuel = n + 1 := ⟨fuel - 1, by omega⟩
    have a5 : a < 5 := by omega
    have ih' := ih (a + 1) n (by omega) (by omega)
    obtain ⟨l1, l2⟩ := al_lt (N := N) a (by omega)
    have l32 : alM N a < 32 := Nat.lt_of_lt_of_le l1 (Nat.pow_le_pow_right (by decide) (by omega) : 2 ^ a ≤ 2 ^ 5)
    refine Eq.trans (b := mX12_payments_37B (mX12_payments_37 n) (Int32.ofNat (alM N a)) (Int32.ofNat (nnM N a)) (Int32.ofNat a) ρ) rfl ?_
    unfold mX12_payments_37B
    rw [h5, if_neg (fun q => absurd ((oI_le (by omega) (by omega)).mp q) (by omega)), M_net a5, bnd_some, hN a a5]
    have e1 : alM N (a + 1) = if N a = 0 then alM N a else alM N a ||| 2 ^ a := rfl
    have e2 : nnM N (a + 1) = if N a = 0 then nnM N a else nnM N a + 1 := rfl
    by_cases c : N a = 0
    · rw [if_pos c] at e1 e2
      rw [if_pos (cmp0.mpr c), oI_s, ← e1, ← e2]
      exact ih'
    · rw [if_neg c] at e1 e2
      rw [if_neg (fun z => c (cmp0.mp z)), set_m _ l32 a a5, oI_s, oI_s, ← e1, ← e2]
      exact ih'
theorem pay_sub {P n d : Nat} : Int32.ofNat (n + d) - Int32.ofNat (P + d) = Int32.ofNat n - Int32.ofNat P := by
  rw [Int32.sub_eq_iff_eq_add, ← oI_add, ← oI_add, ← Int32.add_assoc, Int32.sub_add_cancel]
set_option maxHeartbeats 1000000 in
theorem op_payments (p0 p1 : Int32) : OpOK (mL_payments p0 p1) (mX12_payments p0 p1) iJ := by
  intro A σ h
  obtain ⟨nt, nl, np, nw, ns, nr, nf, nc, nL, ⟨b1, b2, b3, b4, b5, b6, b7, b8, b9⟩, ⟨a1, a2, a3, a4, a5, a6, a7, a8, a9⟩, ⟨c0, c1, c2, c3, c4, c5, c6, c7, c8⟩, ⟨d1, d2, d3, d4, d5, d6, d7, d8, d9⟩⟩ := h.nums
  have t0 : ∀ σ' : Sto, sI (wI σ' 81 0 0) 81 0 = 0 := fun _ => rfl
  have r0 : ∀ σ', RM A σ' → RM A (wI σ' 81 0 0) := fun σ' hm => hm.np 81 0 0 rfl
  have me : ∀ σ', RM A σ' → mX12_isEvening p1 (wI σ' 81 0 0) = if ¬ p1 < 0 ∧ p1 ≤ Int32.ofNat nt then some (1, wI σ' 81 0 0) else some (0, wI (wI σ' 81 0 0) 81 0 2) := fun σ' hm => by
    rw [M_isEvening (t0 σ'), (r0 _ hm) 81 1 rfl, a1]
  by_cases gy : ¬ p0 < 0 ∧ ¬ 99 < p0
  · by_cases g3 : ¬ p1 < 0 ∧ p1 ≤ Int32.ofNat nt
    · obtain ⟨k, k1, k2⟩ := inR.le (m := nt) (v := p1) (by omega) g3.1 (fun q => nle.mpr q g3.2)
      obtain ⟨σ1, z1, z2, z3⟩ := clear_all (yr := p0) h (show k ≤ 999 by omega)
      have s66 : sI σ1 66 0 = 0 := by
        rw [z2.low h.stat (by decide) (by decide) (by decide) (by unfold reg; omega)]; exact h.gain.2
      obtain ⟨σ2, y1, y2⟩ := C_few_o (N := fun a => nV (sL σ1 64) a 5) 31 1 FU σ1 rfl (Nat.le_refl _) (show 31 < 5000 by omega) (fun _ _ => rfl) (fun t ht => by
        have : t = 0 := by omega
        subst this
        rw [s66]; rfl)
      have eC : mX11_payments p0 p1 σ = some (.inr (5 - Int32.ofNat (gr (zB fun a => nV (sL σ1 64) a 5) 31), σ2)) := by
        unfold mX11_payments
        rw [C_needY, if_pos gy, bdp_inr, C_needE, c0, if_pos g3, bdp_inr, k2, z1, bnd_some]
        rw [show mX2_fewestPayments σ1 = some (5 - Int32.ofNat (gr (zB fun a => nV (sL σ1 64) a 5) 31), σ2) from y1, bd2_some]
      generalize hv : 5 - Int32.ofNat (gr (zB fun a => nV (sL σ1 64) a 5) 31) = v at eC
      -- the relation behind the class
      have hR1 : Rel A (wL σ1 146 0 (iJ v)) := h.sc (vv := iJ v) z2 OnlyM.rf ((h.2.2.1.onC (z2.onC h.stat)).wl _ _ _)
      have hW : WP (wL σ1 146 0 (iJ v)) (wL σ2 146 0 (iJ v)) := ⟨y2.1, y2.2.1, y2.2.2.1, y2.2.2.2.1, y2.2.2.2.2.1, fun b j hb => by
        rw [sL_wL, sL_wL]
        by_cases e : b = 146 ∧ j = 0
        · rw [if_pos e, if_pos e]
        · rw [if_neg e, if_neg e]; exact y2.2.2.2.2.2 b j hb⟩
      have hR2 : Rel A (wL σ2 146 0 (iJ v)) := hR1.wp hW
      have hm1 := hR2.2.2.1
      obtain ⟨ρ1, e1, e2, e3, e4, e5⟩ := z3 _ (r0 _ hm1)
      have hN : ∀ a, a < 5 → nV (sL ρ1 142) a 5 = nV (sL σ1 64) a 5 := fun a ha => (nV_congr ha e5.1 5 (Nat.le_refl _)).symm
      have hNz : ∀ a, ns ≤ a → a < 5 → nV (sL σ1 64) a 5 = 0 := fun a ha1 ha2 => by
        rw [← hN a ha2]
        refine nV_zero (fun n hn => ⟨e5.2 n a hn ha2 (Or.inr (by omega)), e5.2 a n ha2 hn (Or.inl (by omega))⟩) 5 (Nat.le_refl _)
      -- nets by number, none behind the fifth
      have N5 : (fun a => nV (sL σ1 64) a 5) = fun a => nV (sL σ1 64) a 5 := rfl
      have h5 : sI ρ1 81 5 = Int32.ofNat ns := (e3 81 5 rfl).trans a5
      have pa := M_pay_a (N := fun a => nV (sL σ1 64) a 5) b5 h5 hN ns 0 FU (by omega) (show ns < 5000 by omega)
      obtain ⟨al1, al2⟩ := al_lt (N := fun a => nV (sL σ1 64) a 5) ns b5
      have al32 : alM (fun a => nV (sL σ1 64) a 5) ns < 32 := Nat.lt_of_lt_of_le al1 (Nat.pow_le_pow_right (by decide) (by omega) : 2 ^ ns ≤ 2 ^ 5)
      obtain ⟨ρ2, f1, f2⟩ := M_pay_o (N := fun a => nV (sL σ1 64) a 5) al32 (x4 := Int32.ofNat (nnM (fun a => nV (sL σ1 64) a 5) ns)) 32 0 FU ρ1 rfl (show 32 < 5000 by omega) hN (fun t ht => by omega)
      have eM : mX12_payments p0 p1 (wL σ2 146 0 (iJ v)) = some (Int32.ofNat (nnM (fun a => nV (sL σ1 64) a 5) ns) - Int32.ofNat (pr' (zB fun a => nV (sL σ1 64) a 5) (alM (fun a => nV (sL σ1 64) a 5) ns)), ρ2) := by
        simp only [mX12_payments, stp]
        rw [M_isYear (t0 _), if_pos gy, bd2_some, if_neg i10, me _ hm1, if_pos g3, bd2_some, if_neg i10, k2, e1, bnd_some]
        exact pa.trans f1
      have al5 : alM (fun a => nV (sL σ1 64) a 5) 5 = alM (fun a => nV (sL σ1 64) a 5) ns ∧ nnM (fun a => nV (sL σ1 64) a 5) 5 = nnM (fun a => nV (sL σ1 64) a 5) ns := by
        have key : ∀ m, ns + m ≤ 5 → alM (fun a => nV (sL σ1 64) a 5) (ns + m) = alM (fun a => nV (sL σ1 64) a 5) ns ∧ nnM (fun a => nV (sL σ1 64) a 5) (ns + m) = nnM (fun a => nV (sL σ1 64) a 5) ns := fun m => by
          induction m with
          | zero => exact fun _ => ⟨rfl, rfl⟩
          | succ m ih =>
            intro hm
            have g1 : alM (fun a => nV (sL σ1 64) a 5) (ns + (m + 1)) = if nV (sL σ1 64) (ns + m) 5 = 0 then alM (fun a => nV (sL σ1 64) a 5) (ns + m) else alM (fun a => nV (sL σ1 64) a 5) (ns + m) ||| 2 ^ (ns + m) := rfl
            have g2 : nnM (fun a => nV (sL σ1 64) a 5) (ns + (m + 1)) = if nV (sL σ1 64) (ns + m) 5 = 0 then nnM (fun a => nV (sL σ1 64) a 5) (ns + m) else nnM (fun a => nV (sL σ1 64) a 5) (ns + m) + 1 := rfl
            rw [g1, g2, if_pos (hNz _ (by omega) (by omega)), if_pos (hNz _ (by omega) (by omega))]
            exact ih (by omega)
        have := key (5 - ns) (by omega)
        rw [show ns + (5 - ns) = 5 by omega] at this
        exact this
      have ev : Int32.ofNat (nnM (fun a => nV (sL σ1 64) a 5) ns) - Int32.ofNat (pr' (zB fun a => nV (sL σ1 64) a 5) (alM (fun a => nV (sL σ1 64) a 5) ns)) = v := by
        rw [← hv, pay_eq, al5.1, al5.2]
        have l5 : nnM (fun a => nV (sL σ1 64) a 5) ns ≤ 5 := by omega
        generalize nnM (fun a => nV (sL σ1 64) a 5) ns = nn at l5 ⊢
        generalize pr' (zB fun a => nV (sL σ1 64) a 5) (alM (fun a => nV (sL σ1 64) a 5) ns) = P
        rw [← pay_sub (d := 5 - nn), show nn + (5 - nn) = 5 by omega]
        rfl
      rw [ev] at eM
      have om : OnlyM (wL σ2 146 0 (iJ v)) ρ2 := ((OnlyM.rf.w 81 0 0 (by decide)).tr e2).tr (f2.onM fun b j z => by have : b = 143 := z; omega)
      refine ⟨0, wL σ2 146 0 (iJ v), v, ρ2, by show wr hB iJ σ _ = _; rw [eC]; rfl, eM, ?_, fun _ => ?_, A, hR2.thr om (f2.rm e3 S143_pr)⟩
      · rw [f2.2.2.2.2.2 81 0 (by unfold S143; omega)]; exact e4
      · rw [(om.2.2.2.2.2 146 (Or.inr (by decide))).2 0]; rfl
    · have e2 : mX11_payments p0 p1 σ = some (.inl 1) := by
        unfold mX11_payments
        rw [C_needY, if_pos gy, bdp_inr, C_needE, c0, if_neg g3]
        rfl
      refine op_thr (k := 2) (b := 0) h (by decide) (by show wr hB iJ σ _ = _; rw [e2]; rfl) ?_
      simp only [mX12_payments, stp]
      rw [M_isYear (t0 _), if_pos gy, bd2_some, if_neg i10, me _ h.2.2.1, if_neg g3]
      rfl
  · have e2 : mX11_payments p0 p1 σ = some (.inl 0) := by
      unfold mX11_payments
      rw [C_needY, if_neg gy]
      rfl
    refine op_thr (k := 1) (b := 0) h (by decide) (by show wr hB iJ σ _ = _; rw [e2]; rfl) ?_
    simp only [mX12_payments, stp]
    rw [M_isYear (t0 _), if_neg gy]
    rfl
