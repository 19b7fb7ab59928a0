/-! words and signs, as the reference knows them -/
theorem lgc0 {x y : Int64} : (lg_cmp x y = 0) ↔ x = y := by
  unfold lg_cmp
  by_cases c1 : x > y
  · rw [if_pos c1]
    refine ⟨fun q => absurd q (by decide), fun q => ?_⟩
    subst q
    have := i64_lt.mp c1
    omega
  · rw [if_neg c1]
    by_cases c2 : x = y
    · rw [if_pos c2]; exact ⟨fun _ => c2, fun _ => rfl⟩
    · rw [if_neg c2]; exact ⟨fun q => absurd q (by decide), fun q => absurd q c2⟩
theorem iL_eq {a b : Nat} (ha : a < 9223372036854775808) (hb : b < 9223372036854775808) : (Int64.ofNat a = Int64.ofNat b) ↔ a = b := by
  rw [← Int64.toInt_inj, Int64.toInt_ofNat_of_lt (by omega), Int64.toInt_ofNat_of_lt (by omega)]
  omega
theorem pkD_inj {b c : Nat → Nat} {s x : Nat} : ∀ k m, (∀ j, j < k → ltB b (s + j) = true) → (∀ j, j < m → ltB c (x + j) = true) → pkD b s k = pkD c x m → k = m ∧ ∀ j, j < k → b (s + j) = c (x + j)
  | 0, 0, _, _, _ => ⟨rfl, fun j hj => by omega⟩
  | 0, m + 1, _, hc, h => by
    have h2 : (0 : Nat) = pkD c x m * 32 + (c (x + m) - 96) := h
    have := lt_iff.mp (hc m (by omega))
    omega
  | k + 1, 0, hb, _, h => by
    have h2 : pkD b s k * 32 + (b (s + k) - 96) = 0 := h
    have := lt_iff.mp (hb k (by omega))
    omega
  | k + 1, m + 1, hb, hc, h => by
    have h2 : pkD b s k * 32 + (b (s + k) - 96) = pkD c x m * 32 + (c (x + m) - 96) := h
    have g1 := lt_iff.mp (hb k (by omega))
    have g2 := lt_iff.mp (hc m (by omega))
    obtain ⟨e, g3⟩ := pkD_inj k m (fun j hj => hb j (by omega)) (fun j hj => hc j (by omega)) (by omega)
    subst e
    refine ⟨rfl, fun j hj => ?_⟩
    by_cases q : j = k
    · subst q; omega
    · exact g3 j (by omega)
theorem pkD_congr {b c : Nat → Nat} {s x : Nat} : ∀ k, (∀ j, j < k → b (s + j) = c (x + j)) → pkD b s k = pkD c x k
  | 0, _ => rfl
  | k + 1, h => by
    show pkD b s k * 32 + (b (s + k) - 96) = pkD c x k * 32 + (c (x + k) - 96)
    rw [pkD_congr k (fun j hj => h j (by omega)), h k (by omega)]
def wC (k j : Nat) : Nat := (wsL.getD k []).getD j 0
def wLn (k : Nat) : Nat := (wsL.getD k []).length
def s00 : Sto := (fun _ _ => 0, fun _ _ => 0, fun _ _ => 0, fun _ => 0, fun _ => 0, 0)
theorem kn_s (p : Int32) (ρ : Sto) : mX12_known p ρ = mX12_known p s00 := rfl
theorem w_slc {k : Nat} (hk : k < 21) : slc (wC k) 0 (wLn k) = wsL.getD k [] ∧ wLn k ≤ 7 := by
  have key : ((List.range 21).all fun k => decide (slc (wC k) 0 (wLn k) = wsL.getD k [] ∧ wLn k ≤ 7)) = true := by decide +kernel
  rw [List.all_eq_true] at key
  exact of_decide_eq_true (key k (List.mem_range.mpr hk))
theorem w_let {k j : Nat} (hk : k < 21) (hj : j < wLn k) : ltB (wC k) (0 + j) = true := by
  have key : ((List.range 21).all fun k => (List.range (wLn k)).all fun j => ltB (wC k) (0 + j)) = true := by decide +kernel
  rw [List.all_eq_true] at key
  have k1 := key k (List.mem_range.mpr hk)
  rw [List.all_eq_true] at k1
  exact k1 j (List.mem_range.mpr hj)
theorem w_kn {k : Nat} (hk : k < 21) : mX12_known (Int32.ofNat k) s00 = Int64.ofNat (pkD (wC k) 0 (wLn k)) := by
  have key : ((List.range 21).all fun k => decide (mX12_known (Int32.ofNat k) s00 = Int64.ofNat (pkD (wC k) 0 (wLn k)))) = true := by decide +kernel
  rw [List.all_eq_true] at key
  exact of_decide_eq_true (key k (List.mem_range.mpr hk))
theorem w_drop {k : Nat} (hk : k < 21) : wsL.drop k = wsL.getD k [] :: wsL.drop (k + 1) := by
  have key : ((List.range 21).all fun k => decide (wsL.drop k = wsL.getD k [] :: wsL.drop (k + 1))) = true := by decide +kernel
  rw [List.all_eq_true] at key
  exact of_decide_eq_true (key k (List.mem_range.mpr hk))
theorem M_kword_l {ρ : Sto} {P : Nat} {L : List Nat} (hP : sL ρ 81 49 = Int64.ofNat P) (hPb : P < 1152921504606846976) (hPL : ∀ k, k < 21 → (pkD (wC k) 0 (wLn k) = P ↔ wsL.getD k [] = L)) : ∀ m k fuel, k + m = 21 → m < fuel → mX12_knownWord_21 fuel (Int32.ofNat k) ρ = some (if wixL (wsL.drop k) k L = 99 then -1 else Int32.ofNat (wixL (wsL.drop k) k L)) := by
  intro m
  induction m with
  | zero =>
    intro k fuel hk hf
    obtain ⟨f, rfl⟩ : ∃ q, fuel = q + 1 := ⟨fuel - 1, by omega⟩
    have : k = 21 := by omega
    subst this
    show mX12_knownWord_21B (mX12_knownWord_21 f) _ ρ = _
    unfold mX12_knownWord_21B
    rw [if_pos (by decide)]
    rfl
  | succ m ih =>
    intro k fuel hk hf
    obtain ⟨f, rfl⟩ : ∃ q, fuel = q + 1 := ⟨fuel - 1, by omega⟩
    have hk21 : k < 21 := by omega
    show mX12_knownWord_21B (mX12_knownWord_21 f) _ ρ = _
    unfold mX12_knownWord_21B
    have hpl := pkD_lt (b := wC k) (s := 0) (wLn k) (fun j hj => w_let hk21 hj)
    have hp7 : 32 ^ (wLn k) ≤ 32 ^ 7 := Nat.pow_le_pow_right (by decide) (w_slc hk21).2
    rw [if_neg (fun q => absurd ((lit_le (v := 21) (m := 21) rfl (by decide) (by omega)).mp q) (by omega)), kn_s, w_kn hk21, hP, w_drop hk21]
    show _ = some (if (if wsL.getD k [] = L then k else wixL (wsL.drop (k + 1)) (k + 1) L) = 99 then -1 else Int32.ofNat (if wsL.getD k [] = L then k else wixL (wsL.drop (k + 1)) (k + 1) L))
    by_cases c : wsL.getD k [] = L
    · rw [if_pos (lgc0.mpr (by rw [(hPL k hk21).mpr c])), if_pos c, if_neg (by omega)]
    · rw [if_neg (fun q => c ((hPL k hk21).mp ((iL_eq (by omega) (by omega)).mp (lgc0.mp q)))), if_neg c, oI_s]
      exact ih (k + 1) f (by omega) (by omega)
theorem tc_let {b : Nat → Nat} {n s : Nat} (hs : s ≤ n) (h : tc b n s = 2) : s < n ∧ ∀ x, s ≤ x → x < tkE b n s → ltB b x = true := by
  unfold tc at h
  by_cases c : n ≤ s
  · rw [if_pos c] at h; cases h
  · rw [if_neg c] at h
    have hsn : s < n := by omega
    cases e1 : ltB b s with
    | true =>
      refine ⟨hsn, fun x x1 x2 => ?_⟩
      unfold tkE at x2
      rw [if_neg c, e1, if_pos rfl] at x2
      have := (rn_b (P := ltB b) (n := n) (n - (s + 1)) (s + 1) (by omega)).2.2.1
      by_cases q : x = s
      · rw [q]; exact e1
      · exact this x (by omega) x2
    | false =>
      exfalso
      rw [e1, if_neg (by decide)] at h
      cases e2 : dgB b s with
      | true => rw [e2, if_pos rfl] at h; cases h
      | false =>
        rw [e2, if_neg (by decide)] at h
        cases e3 : sgB (b s) with
        | true => rw [e3, if_pos rfl] at h; rw [h] at e3; exact absurd e3 (by decide)
        | false => rw [e3, if_neg (by decide)] at h; cases h
theorem so_1 {b : Nat → Nat} {n s : Nat} : (Int32.ofNat (so b n s) = 1) ↔ tc b n s = 2 := by
  unfold so
  by_cases c0 : tc b n s = 0
  · rw [if_pos c0]; exact ⟨fun q => absurd q (by decide), fun q => by omega⟩
  rw [if_neg c0]
  by_cases c2 : tc b n s = 2
  · rw [if_pos c2]; exact ⟨fun _ => c2, fun _ => rfl⟩
  rw [if_neg c2]
  by_cases c3 : tc b n s = 3
  · rw [if_pos c3]; exact ⟨fun q => absurd q (by decide), fun q => by omega⟩
  rw [if_neg c3]
  by_cases c1 : tc b n s = 1
  · rw [if_pos c1]; exact ⟨fun q => absurd q (by decide), fun q => by omega⟩
  rw [if_neg c1]; exact ⟨fun q => absurd q (by decide), fun q => by omega⟩
theorem so_2 {b : Nat → Nat} {n s : Nat} : (Int32.ofNat (so b n s) = 2) ↔ tc b n s = 3 := by
  unfold so
  by_cases c0 : tc b n s = 0
  · rw [if_pos c0]; exact ⟨fun q => absurd q (by decide), fun q => by omega⟩
  rw [if_neg c0]
  by_cases c2 : tc b n s = 2
  · rw [if_pos c2]; exact ⟨fun q => absurd q (by decide), fun q => by omega⟩
  rw [if_neg c2]
  by_cases c3 : tc b n s = 3
  · rw [if_pos c3]; exact ⟨fun _ => c3, fun _ => rfl⟩
  rw [if_neg c3]
  by_cases c1 : tc b n s = 1
  · rw [if_pos c1]; exact ⟨fun q => absurd q (by decide), fun q => by omega⟩
  rw [if_neg c1]; exact ⟨fun q => absurd q (by decide), fun q => by omega⟩
theorem so_3 {b : Nat → Nat} {n s : Nat} : (Int32.ofNat (so b n s) = 3) ↔ 4 ≤ tc b n s := by
  unfold so
  by_cases c0 : tc b n s = 0
  · rw [if_pos c0]; exact ⟨fun q => absurd q (by decide), fun q => by omega⟩
  rw [if_neg c0]
  by_cases c2 : tc b n s = 2
  · rw [if_pos c2]; exact ⟨fun q => absurd q (by decide), fun q => by omega⟩
  rw [if_neg c2]
  by_cases c3 : tc b n s = 3
  · rw [if_pos c3]; exact ⟨fun q => absurd q (by decide), fun q => by omega⟩
  rw [if_neg c3]
  by_cases c1 : tc b n s = 1
  · rw [if_pos c1]; exact ⟨fun q => absurd q (by decide), fun q => by omega⟩
  rw [if_neg c1]; exact ⟨fun _ => by omega, fun _ => rfl⟩
theorem tc_0 {b : Nat → Nat} {n s : Nat} : (Int32.ofNat (so b n s) = 0) ↔ tc b n s = 0 := by
  unfold so
  by_cases c0 : tc b n s = 0
  · rw [if_pos c0]; exact ⟨fun _ => c0, fun _ => rfl⟩
  rw [if_neg c0]
  by_cases c2 : tc b n s = 2
  · rw [if_pos c2]; exact ⟨fun q => absurd q (by decide), fun q => by omega⟩
  rw [if_neg c2]
  by_cases c3 : tc b n s = 3
  · rw [if_pos c3]; exact ⟨fun q => absurd q (by decide), fun q => by omega⟩
  rw [if_neg c3]
  by_cases c1 : tc b n s = 1
  · rw [if_pos c1]; exact ⟨fun q => absurd q (by decide), fun q => by omega⟩
  rw [if_neg c1]; exact ⟨fun q => absurd q (by decide), fun q => by omega⟩
theorem tc_sg {b : Nat → Nat} {n s : Nat} (h : 4 ≤ tc b n s) : s < n ∧ tc b n s = b s := by
  unfold tc at h ⊢
  by_cases c : n ≤ s
  · rw [if_pos c] at h; omega
  · rw [if_neg c] at h ⊢
    refine ⟨by omega, ?_⟩
    cases e1 : ltB b s with
    | true => rw [e1, if_pos rfl] at h; omega
    | false =>
      rw [e1, if_neg (by decide)] at h
      rw [if_neg (by decide)]
      cases e2 : dgB b s with
      | true => rw [e2, if_pos rfl] at h; omega
      | false =>
        rw [e2, if_neg (by decide)] at h
        rw [if_neg (by decide)]
        cases e3 : sgB (b s) with
        | true => rw [if_pos rfl]
        | false => rw [e3, if_neg (by decide)] at h; omega
theorem M_kword {b : Nat → Nat} {n s : Nat} {ρ : Sto} (hn : n ≤ 500) (hs : s ≤ n) (hT : TSM b n s ρ) : mX12_knownWord ρ = some (if wd b n s = 99 then -1 else Int32.ofNat (wd b n s)) := by
  obtain ⟨t1, t2, t3, t4, t5, t6, t7⟩ := hT
  have hE := tkE_le (b := b) hs
  unfold mX12_knownWord wd
  rw [t1]
  by_cases c : tc b n s = 2
  · rw [if_pos (so_1.mpr c), t4, if_pos c]
    have hlet := (tc_let hs c).2
    by_cases c8 : tkE b n s - s ≤ 8
    · rw [if_pos ((le_lit (v := 8) (m := 8) rfl (by omega) (by decide)).mpr c8)]
      have h49 := t7 c
      rw [Nat.min_eq_right (by omega)] at h49
      have hl := pkD_lt (b := b) (s := s) (tkE b n s - s) (fun j hj => hlet _ (by omega) (by omega))
      have hp : 32 ^ (tkE b n s - s) ≤ 32 ^ 8 := Nat.pow_le_pow_right (by decide) c8
      have h := M_kword_l (ρ := ρ) (L := tkL b n s) h49 (by omega) (fun k hk => ⟨fun q => ?_, fun q => ?_⟩) 21 0 FU (by omega) (by decide)
      · exact h
      · obtain ⟨q1, q2⟩ := pkD_inj _ _ (fun j hj => w_let hk hj) (fun j hj => hlet _ (by omega) (by omega)) q
        rw [← (w_slc hk).1, tkL_slc, ← q1]
        exact slc_eq.mpr q2
      · rw [← (w_slc hk).1, tkL_slc] at q
        have ql := congrArg List.length q
        rw [slc_len, slc_len] at ql
        rw [← ql] at q ⊢
        exact pkD_congr _ (slc_eq.mp q)
    · rw [if_neg (fun q => c8 ((le_lit (v := 8) (m := 8) rfl (by omega) (by decide)).mp q))]
      have h99 : wixL wsL 0 (tkL b n s) = 99 := by
        by_cases q : wixL wsL 0 (tkL b n s) = 99
        · exact q
        · exfalso
          have g := wixL_get wsL 0 (tkL b n s) q
          have hb : wixL wsL 0 (tkL b n s) < 21 := by
            have h2 : wsL.length = 21 := rfl
            have := (wixL_b wsL 0 (tkL b n s)).resolve_left q
            omega
          rw [Nat.sub_zero] at g
          have hl := (w_slc hb).2
          unfold wLn at hl
          rw [g, tkL_slc, slc_len] at hl
          omega
      rw [h99, if_pos rfl]
  · rw [if_neg (fun q => c (so_1.mp q)), if_neg c, if_pos rfl]
theorem M_sgn {b : Nat → Nat} {n s c : Nat} {v : Int32} {ρ : Sto} (hb : ∀ j, b j < 256) (hv : v = Int32.ofNat c) (hc : 4 ≤ c) (hc2 : c < 256) (hT : TSM b n s ρ) : mX12_isSign v ρ = if tc b n s = c then 1 else 0 := by
  obtain ⟨t1, t2, t3, t4, t5, t6, t7⟩ := hT
  unfold mX12_isSign
  rw [t1, t6]
  by_cases q : 4 ≤ tc b n s
  · obtain ⟨q1, q2⟩ := tc_sg q
    have := hb s
    rw [if_pos (so_3.mpr q), if_neg (show ¬ n ≤ s by omega), q2]
    by_cases q3 : b s = c
    · rw [if_pos q3, if_pos ((eq_lit hv (by omega) (by omega)).mpr q3)]
    · rw [if_neg q3, if_neg (fun z => q3 ((eq_lit hv (by omega) (by omega)).mp z))]
  · rw [if_neg (fun z => q (so_3.mp z)), if_neg (by omega)]
