/-! words, as the class knows them -/
def slc (c : Nat → Nat) (x m : Nat) : List Nat := (List.range m).map fun j => c (x + j)
theorem tkL_slc (b : Nat → Nat) (n s : Nat) : tkL b n s = slc b s (tkE b n s - s) := rfl
theorem slc_len (c : Nat → Nat) (x m : Nat) : (slc c x m).length = m := by unfold slc; rw [List.length_map, List.length_range]
theorem slc_eq {c c' : Nat → Nat} {x y m : Nat} : slc c x m = slc c' y m ↔ ∀ j, j < m → c (x + j) = c' (y + j) := by
  unfold slc
  rw [List.map_inj_left]
  exact ⟨fun h j hj => h j (List.mem_range.mpr hj), fun h j hj => h j (List.mem_range.mp hj)⟩
/-- the texts of the class, byte by byte -/
def txC (p i : Nat) : Nat := ((txByt.getD (p - 2) []).getD i 0).toNatClampNeg
def txT (p : Nat) : Nat := txLen.getD (p - 2) 0
theorem tx_s : ((List.range 8).all fun p => decide (p < 2) || (List.range (txT p)).all fun i => decide ((txByt.getD (p - 2) []).getD i 0 = Int32.ofNat (txC p i)) && decide (txC p i < 256)) = true := by decide +kernel
theorem tx_t : ((List.range 8).all fun p => decide (txT p < 100)) = true := by decide +kernel
theorem txT_lt {p : Nat} (h : isT p) : txT p < 100 := by
  have k := tx_t
  rw [List.all_eq_true] at k
  exact of_decide_eq_true (k p (List.mem_range.mpr h.2))
theorem tx_at {p i : Nat} (h : isT p) (hi : i < txT p) : tchr p (Int32.ofNat i) = Int32.ofNat (txC p i) ∧ txC p i < 256 := by
  have ht := txT_lt h
  have k := tx_s
  rw [List.all_eq_true] at k
  have k1 := k p (List.mem_range.mpr h.2)
  rw [Bool.or_eq_true, decide_eq_true_eq] at k1
  have k2 := k1.resolve_left (by have := h.1; omega)
  rw [List.all_eq_true] at k2
  have k3 := k2 i (List.mem_range.mpr hi)
  rw [Bool.and_eq_true, decide_eq_true_eq, decide_eq_true_eq] at k3
  refine ⟨?_, k3.2⟩
  unfold tchr
  rw [oI_cl (by omega)]
  exact k3.1
theorem C_name_l {b : Nat → Nat} {n s p f : Nat} {σ : Sto} (hn : n ≤ 500) (hb : ∀ j, b j < 256) (hp : isT p) (h : EC b n σ) (hT : TSC b n s σ) (hs : s ≤ n) (hf : f ≤ 100) :
    ∀ m j fuel, f + j + m ≤ txT p → s + j + m ≤ n → m < fuel → ∃ r, mX7_isName_20 fuel p (Int32.ofNat f) (Int32.ofNat (f + j + m)) (Int32.ofNat (f + j)) σ = some r ∧ (r = 0 ∨ r = 1) ∧ (r = 1 ↔ ∀ i, i < m → txC p (f + (j + i)) = b (s + (j + i))) := by
  intro m
  have ht := txT_lt hp
  induction m with
  | zero =>
    intro j fuel h1 h2 h3
    obtain ⟨g, rfl⟩ : ∃ g, fuel = g + 1 := ⟨fuel - 1, by omega⟩
    refine ⟨1, ?_, Or.inr rfl, fun _ i hi => by omega, fun _ => rfl⟩
    show mX7_isName_20B (mX7_isName_20 g) p _ _ _ σ = _
    unfold mX7_isName_20B
    rw [if_pos ((oI_le (by omega) (by omega)).mpr (by omega))]
  | succ m ih =>
    intro j fuel h1 h2 h3
    obtain ⟨g, rfl⟩ : ∃ g, fuel = g + 1 := ⟨fuel - 1, by omega⟩
    obtain ⟨e1, e2, e3, e4, e5⟩ := id h
    have tx := tx_at hp (i := f + j) (by omega)
    have hbj := hb (s + j)
    have step : mX7_isName_20 (g + 1) p (Int32.ofNat f) (Int32.ofNat (f + j + (m + 1))) (Int32.ofNat (f + j)) σ = if txC p (f + j) = b (s + j) then mX7_isName_20 g p (Int32.ofNat f) (Int32.ofNat (f + j + (m + 1))) (Int32.ofNat (f + j + 1)) σ else some 0 := by
      show mX7_isName_20B (mX7_isName_20 g) p _ _ _ σ = _
      unfold mX7_isName_20B
      have ei : (sI σ 67 7 + Int32.ofNat (f + j)) - Int32.ofNat f = Int32.ofNat (s + j) := by
        rw [hT.2.1, oI_add, oI_sub (by omega), show s + (f + j) - f = s + j by omega]
      rw [if_neg (fun q => absurd ((oI_le (by omega) (by omega)).mp q) (by omega)), if_pos hp, if_pos (oI_inb (show f + j < txLen.getD (p - 2) 0 from (by have : txT p = txLen.getD (p - 2) 0 := rfl; omega)) (by have : txT p = txLen.getD (p - 2) 0 := rfl; omega)), e1, if_pos e2, ei, e3, if_pos (oI_inb (by omega) (by decide)), oI_cl (j := s + j) (by omega), e5 (s + j) (by omega), tx.1, oI_s]
      by_cases c : txC p (f + j) = b (s + j)
      · rw [if_pos ((oI_eq (by omega) (by omega)).mpr c), if_pos c]
      · rw [if_neg (fun q => c ((oI_eq (by omega) (by omega)).mp q)), if_neg c]
    rw [step]
    by_cases c : txC p (f + j) = b (s + j)
    · rw [if_pos c]
      obtain ⟨r, r1, r2, r3⟩ := ih (j + 1) g (by omega) (by omega) (by omega)
      rw [show f + (j + 1) + m = f + j + (m + 1) by omega, show f + (j + 1) = f + j + 1 by omega] at r1
      refine ⟨r, r1, r2, r3.trans ⟨fun k i hi => ?_, fun k i hi => ?_⟩⟩
      · cases i with
        | zero => exact c
        | succ i =>
          have := k i (by omega)
          rw [show j + 1 + i = j + (i + 1) by omega] at this
          exact this
      · rw [show j + 1 + i = j + (i + 1) by omega]
        exact k (i + 1) (by omega)
    · rw [if_neg c]
      exact ⟨0, rfl, Or.inl rfl, fun q => absurd q (by decide), fun q => absurd (q 0 (by omega)) c⟩
theorem C_name {b : Nat → Nat} {n s p f i : Nat} {σ : Sto} (hn : n ≤ 500) (hb : ∀ j, b j < 256) (hp : isT p) (h : EC b n σ) (hT : TSC b n s σ) (hs : s ≤ n) (hfi : f ≤ i) (hi : i ≤ txT p) : ∃ r, mX7_isName p (Int32.ofNat f) (Int32.ofNat i) σ = some r ∧ (r = 0 ∨ r = 1) ∧ (r = 1 ↔ slc (txC p) f (i - f) = tkL b n s) := by
  have ht := txT_lt hp
  obtain ⟨h1, h2, -⟩ := tkE_le (b := b) hs
  unfold mX7_isName
  rw [hT.2.1, hT.2.2.1, oI_sub hfi, oI_sub h1]
  by_cases c : i - f = tkE b n s - s
  · rw [if_pos ((oI_eq (by omega) (by omega)).mpr c)]
    obtain ⟨r, r1, r2, r3⟩ := C_name_l (f := f) hn hb hp h hT hs (by omega) (i - f) 0 FU (by omega) (by omega) (show i - f < 5000 by omega)
    rw [show f + 0 + (i - f) = i by omega, show f + 0 = f by omega] at r1
    refine ⟨r, r1, r2, r3.trans ?_⟩
    rw [tkL_slc, ← c, slc_eq]
    exact ⟨fun k j hj => by have := k j hj; rw [Nat.zero_add] at this; exact this, fun k j hj => by rw [Nat.zero_add]; exact k j hj⟩
  · rw [if_neg (fun q => c ((oI_eq (by omega) (by omega)).mp q))]
    refine ⟨0, rfl, Or.inl rfl, fun q => absurd q (by decide), fun q => ?_⟩
    have := congrArg List.length q
    rw [slc_len, tkL_slc, slc_len] at this
    exact absurd this c
def wrR (c : Nat → Nat) (T : Nat) (L : List Nat) : Nat → Nat → Nat → Nat → Int32
  | 0, _, _, _ => -1
  | m + 1, k, f, i => if i = T ∨ c i = 32 then (if slc c f (i - f) = L then Int32.ofNat k else wrR c T L m (k + 1) (i + 1) (i + 1)) else wrR c T L m k f (i + 1)
theorem C_among_l {b : Nat → Nat} {n s p : Nat} {σ : Sto} (hn : n ≤ 500) (hb : ∀ j, b j < 256) (hp : isT p) (h : EC b n σ) (hT : TSC b n s σ) (hs : s ≤ n) (hw : tc b n s = 2) :
    ∀ m k f i fuel, i + m = txT p + 1 → f ≤ i → m < fuel → mX7_wordAmong_7 fuel p (Int32.ofNat k) (Int32.ofNat f) (Int32.ofNat i) σ = some (wrR (txC p) (txT p) (tkL b n s) m k f i) := by
  intro m
  have ht := txT_lt hp
  have htl : tlen p = Int32.ofNat (txT p) := rfl
  have h6 : sI σ 67 6 = 2 := by rw [hT.1, hw]; rfl
  induction m with
  | zero =>
    intro k f i fuel h1 h2 h3
    obtain ⟨g, rfl⟩ : ∃ g, fuel = g + 1 := ⟨fuel - 1, by omega⟩
    show mX7_wordAmong_7B (mX7_wordAmong_7 g) p _ _ _ σ = some (-1)
    unfold mX7_wordAmong_7B
    rw [if_pos hp, htl, if_pos ((oI_lt (by omega) (by omega)).mpr (by omega))]
  | succ m ih =>
    intro k f i fuel h1 h2 h3
    obtain ⟨g, rfl⟩ : ∃ g, fuel = g + 1 := ⟨fuel - 1, by omega⟩
    have hin : i ≤ txT p := by omega
    have stepE : (i = txT p ∨ txC p i = 32) → mX7_wordAmong_44 (mX7_wordAmong_7 g) p (Int32.ofNat k) (Int32.ofNat f) (Int32.ofNat i) σ = some (if slc (txC p) f (i - f) = tkL b n s then Int32.ofNat k else wrR (txC p) (txT p) (tkL b n s) m (k + 1) (i + 1) (i + 1)) := fun _ => by
      obtain ⟨r, r1, r2, r3⟩ := C_name (f := f) (i := i) hn hb hp h hT hs h2 hin
      unfold mX7_wordAmong_44
      rw [r1, bnd_some]
      by_cases c : slc (txC p) f (i - f) = tkL b n s
      · rw [if_pos c, r3.mpr c, if_neg (by decide)]
      · rw [if_neg c]
        have r0 : r = 0 := r2.resolve_right (fun q => c (r3.mp q))
        rw [if_pos r0, oI_s, oI_s]
        exact ih (k + 1) (i + 1) (i + 1) g (by omega) (Nat.le_refl _) (by omega)
    show mX7_wordAmong_7B (mX7_wordAmong_7 g) p _ _ _ σ = some (if i = txT p ∨ txC p i = 32 then _ else _)
    unfold mX7_wordAmong_7B
    rw [if_pos hp, htl, if_neg (fun q => absurd ((oI_lt (by omega) (by omega)).mp q) (by omega)), if_pos h6]
    by_cases c1 : i = txT p
    · rw [if_pos (by rw [c1]), if_pos (Or.inl c1)]
      exact stepE (Or.inl c1)
    · have tx := tx_at hp (i := i) (by omega)
      rw [if_neg (fun q => c1 ((oI_eq (by omega) (by omega)).mp q)), if_pos (oI_inb (show i < txLen.getD (p - 2) 0 from (by have : txT p = txLen.getD (p - 2) 0 := rfl; omega)) (by have : txT p = txLen.getD (p - 2) 0 := rfl; omega)), tx.1]
      by_cases c2 : txC p i = 32
      · rw [if_pos ((eq_lit (v := 32) (m := 32) rfl (by omega) (by decide)).mpr c2), if_pos (Or.inr c2)]
        exact stepE (Or.inr c2)
      · rw [if_neg (fun q => c2 ((eq_lit (v := 32) (m := 32) rfl (by omega) (by decide)).mp q)), if_neg (fun q => q.elim c1 c2), oI_s]
        exact ih k f (i + 1) g (by omega) (by omega) (by omega)
theorem C_among {b : Nat → Nat} {n s p : Nat} {σ : Sto} (hn : n ≤ 500) (hb : ∀ j, b j < 256) (hp : isT p) (h : EC b n σ) (hT : TSC b n s σ) (hs : s ≤ n) : mX7_wordAmong p σ = some (if tc b n s = 2 then wrR (txC p) (txT p) (tkL b n s) (txT p + 1) 0 0 0 else -1) := by
  have ht := txT_lt hp
  unfold mX7_wordAmong
  by_cases c : tc b n s = 2
  · rw [if_pos c]
    exact C_among_l hn hb hp h hT hs c (txT p + 1) 0 0 0 FU (by omega) (Nat.le_refl _) (show txT p + 1 < 5000 by omega)
  · rw [if_neg c]
    show mX7_wordAmong_7B (mX7_wordAmong_7 4999) p 0 0 0 σ = some (-1)
    unfold mX7_wordAmong_7B
    have htl : tlen p = Int32.ofNat (txT p) := rfl
    rw [if_pos hp, htl, if_neg (show ¬ Int32.ofNat (txT p) < 0 from fun q => absurd ((lt_lit (v := 0) (m := 0) rfl (by omega) (by decide)).mp q) (by omega)), hT.1, if_neg (fun q => c ((tcE (v := 2) hb rfl (by decide)).mp q))]
theorem wixL_get : ∀ (r : List (List Nat)) (i : Nat) (L : List Nat), wixL r i L ≠ 99 → r.getD (wixL r i L - i) [] = L
  | [], _, _, h => absurd rfl h
  | w :: r, i, L, h => by
    have e : wixL (w :: r) i L = if w = L then i else wixL r (i + 1) L := rfl
    rw [e] at h ⊢
    by_cases c : w = L
    · rw [if_pos c, Nat.sub_self]; exact c
    · rw [if_neg c] at h ⊢
      have b := (wixL_b r (i + 1) L).resolve_left h
      rw [show wixL r (i + 1) L - i = (wixL r (i + 1) L - (i + 1)) + 1 by omega]
      exact wixL_get r (i + 1) L h
/-- a word's number by its bytes -/
theorem wix_case (P : List Nat → Nat → Prop) (h : ∀ v, v < 21 → P (wsL.getD v []) v) (h9 : ∀ L, (∀ w ∈ wsL, ¬ w = L) → P L 99) (L : List Nat) : P L (wixL wsL 0 L) := by
  by_cases c : wixL wsL 0 L = 99
  · rw [c]
    refine h9 L fun w hw q => ?_
    subst q
    have key : (wsL.all fun w => decide (wixL wsL 0 w ≠ 99)) = true := by decide +kernel
    rw [List.all_eq_true] at key
    exact of_decide_eq_true (key w hw) c
  · have g := wixL_get wsL 0 L c
    have hb : wixL wsL 0 L < 21 := by
      have h2 : wsL.length = 21 := rfl
      have := (wixL_b wsL 0 L).resolve_left c
      omega
    have k := h _ hb
    rw [Nat.sub_zero] at g
    rw [g] at k
    exact k
theorem wr3 (L : List Nat) : wrR (txC 3) (txT 3) L (txT 3 + 1) 0 0 0 = if wixL wsL 0 L < 8 then Int32.ofNat (wixL wsL 0 L) else -1 := by
  have e : wrR (txC 3) (txT 3) L (txT 3 + 1) 0 0 0 = if [100, 117, 101] = L then 0 else if [115, 116, 101, 112] = L then 1 else if [114, 101, 115, 116] = L then 2 else if [108, 101, 97, 115, 116] = L then 3 else if [109, 111, 115, 116] = L then 4 else if [121, 101, 97, 114, 115] = L then 5 else if [99, 108, 97, 105, 109] = L then 6 else if [97, 103, 114, 101, 101, 115] = L then 7 else -1 := rfl
  rw [e]
  refine wix_case (fun L v => (if [100, 117, 101] = L then (0 : Int32) else if [115, 116, 101, 112] = L then 1 else if [114, 101, 115, 116] = L then 2 else if [108, 101, 97, 115, 116] = L then 3 else if [109, 111, 115, 116] = L then 4 else if [121, 101, 97, 114, 115] = L then 5 else if [99, 108, 97, 105, 109] = L then 6 else if [97, 103, 114, 101, 101, 115] = L then 7 else -1) = if v < 8 then Int32.ofNat v else -1) ?_ (fun L h => ?_) L
  · have key : ((List.range 21).all fun v => decide ((if [100, 117, 101] = (wsL.getD v []) then (0 : Int32) else if [115, 116, 101, 112] = (wsL.getD v []) then 1 else if [114, 101, 115, 116] = (wsL.getD v []) then 2 else if [108, 101, 97, 115, 116] = (wsL.getD v []) then 3 else if [109, 111, 115, 116] = (wsL.getD v []) then 4 else if [121, 101, 97, 114, 115] = (wsL.getD v []) then 5 else if [99, 108, 97, 105, 109] = (wsL.getD v []) then 6 else if [97, 103, 114, 101, 101, 115] = (wsL.getD v []) then 7 else -1) = if v < 8 then Int32.ofNat v else -1)) = true := by decide +kernel
    rw [List.all_eq_true] at key
    exact fun v hv => of_decide_eq_true (key v (List.mem_range.mpr hv))
  · rw [if_neg (h _ (by decide)), if_neg (h _ (by decide)), if_neg (h _ (by decide)), if_neg (h _ (by decide)), if_neg (h _ (by decide)), if_neg (h _ (by decide)), if_neg (h _ (by decide)), if_neg (h _ (by decide)), if_neg (by decide)]
theorem wr5 (L : List Nat) : wrR (txC 5) (txT 5) L (txT 5 + 1) 0 0 0 = if 11 ≤ wixL wsL 0 L ∧ wixL wsL 0 L ≤ 20 then Int32.ofNat (wixL wsL 0 L - 11) else -1 := by
  have e : wrR (txC 5) (txT 5) L (txT 5 + 1) 0 0 0 = if [112, 114, 105, 99, 101] = L then 0 else if [115, 101, 108, 108, 101, 114] = L then 1 else if [98, 117, 121, 101, 114] = L then 2 else if [104, 111, 119] = L then 3 else if [97, 114, 116, 105, 115, 116] = L then 4 else if [104, 101, 108, 100] = L then 5 else if [102, 114, 111, 109] = L then 6 else if [97, 103, 97, 105, 110] = L then 7 else if [106, 111, 105, 110, 116] = L then 8 else if [101, 100, 105, 116, 105, 111, 110] = L then 9 else -1 := rfl
  rw [e]
  refine wix_case (fun L v => (if [112, 114, 105, 99, 101] = L then (0 : Int32) else if [115, 101, 108, 108, 101, 114] = L then 1 else if [98, 117, 121, 101, 114] = L then 2 else if [104, 111, 119] = L then 3 else if [97, 114, 116, 105, 115, 116] = L then 4 else if [104, 101, 108, 100] = L then 5 else if [102, 114, 111, 109] = L then 6 else if [97, 103, 97, 105, 110] = L then 7 else if [106, 111, 105, 110, 116] = L then 8 else if [101, 100, 105, 116, 105, 111, 110] = L then 9 else -1) = if 11 ≤ v ∧ v ≤ 20 then Int32.ofNat (v - 11) else -1) ?_ (fun L h => ?_) L
  · have key : ((List.range 21).all fun v => decide ((if [112, 114, 105, 99, 101] = (wsL.getD v []) then (0 : Int32) else if [115, 101, 108, 108, 101, 114] = (wsL.getD v []) then 1 else if [98, 117, 121, 101, 114] = (wsL.getD v []) then 2 else if [104, 111, 119] = (wsL.getD v []) then 3 else if [97, 114, 116, 105, 115, 116] = (wsL.getD v []) then 4 else if [104, 101, 108, 100] = (wsL.getD v []) then 5 else if [102, 114, 111, 109] = (wsL.getD v []) then 6 else if [97, 103, 97, 105, 110] = (wsL.getD v []) then 7 else if [106, 111, 105, 110, 116] = (wsL.getD v []) then 8 else if [101, 100, 105, 116, 105, 111, 110] = (wsL.getD v []) then 9 else -1) = if 11 ≤ v ∧ v ≤ 20 then Int32.ofNat (v - 11) else -1)) = true := by decide +kernel
    rw [List.all_eq_true] at key
    exact fun v hv => of_decide_eq_true (key v (List.mem_range.mpr hv))
  · rw [if_neg (h _ (by decide)), if_neg (h _ (by decide)), if_neg (h _ (by decide)), if_neg (h _ (by decide)), if_neg (h _ (by decide)), if_neg (h _ (by decide)), if_neg (h _ (by decide)), if_neg (h _ (by decide)), if_neg (h _ (by decide)), if_neg (h _ (by decide)), if_neg (by decide)]
/-- a text of one word -/
theorem wr1 (p v : Nat) (w : List Nat) (hv : v < 21) (hw : wsL.getD v [] = w) (hm : w ∈ wsL) (hu : ((List.range 21).all fun x => decide (wsL.getD x [] = w) == decide (x = v)) = true) (e : ∀ L, wrR (txC p) (txT p) L (txT p + 1) 0 0 0 = if w = L then 0 else -1) (L : List Nat) : wrR (txC p) (txT p) L (txT p + 1) 0 0 0 = if wixL wsL 0 L = v then 0 else -1 := by
  rw [e]
  refine wix_case (fun L x => (if w = L then (0 : Int32) else -1) = if x = v then 0 else -1) (fun x hx => ?_) (fun L h => ?_) L
  · rw [List.all_eq_true] at hu
    have k := hu x (List.mem_range.mpr hx)
    rw [beq_iff_eq] at k
    by_cases c : x = v
    · rw [decide_eq_true c] at k
      rw [if_pos c, if_pos (of_decide_eq_true k).symm]
    · rw [decide_eq_false c] at k
      rw [if_neg c, if_neg (fun q => of_decide_eq_false k q.symm)]
  · rw [if_neg (h w hm), if_neg (by omega)]
theorem wr4 (L : List Nat) : wrR (txC 4) (txT 4) L (txT 4 + 1) 0 0 0 = if wixL wsL 0 L = 10 then 0 else -1 := wr1 4 10 [110, 111, 116] (by decide) rfl (by decide) (by decide +kernel) (fun _ => rfl) L
theorem wr6 (L : List Nat) : wrR (txC 6) (txT 6) L (txT 6 + 1) 0 0 0 = if wixL wsL 0 L = 8 then 0 else -1 := wr1 6 8 [97, 110, 100] (by decide) rfl (by decide) (by decide +kernel) (fun _ => rfl) L
theorem wr7 (L : List Nat) : wrR (txC 7) (txT 7) L (txT 7 + 1) 0 0 0 = if wixL wsL 0 L = 9 then 0 else -1 := wr1 7 9 [111, 114] (by decide) rfl (by decide) (by decide +kernel) (fun _ => rfl) L
theorem C_clw {b : Nat → Nat} {n s : Nat} {σ : Sto} (hn : n ≤ 500) (hb : ∀ j, b j < 256) (h : EC b n σ) (hT : TSC b n s σ) (hs : s ≤ n) : mX7_wordAmong 3 σ = some (if wd b n s < 8 then Int32.ofNat (wd b n s) else -1) := by
  rw [C_among hn hb ⟨by decide, by decide⟩ h hT hs, wr3]
  unfold wd
  by_cases c : tc b n s = 2
  · rw [if_pos c, if_pos c]
  · rw [if_neg c, if_neg c, if_neg (by decide)]
theorem C_vaw {b : Nat → Nat} {n s : Nat} {σ : Sto} (hn : n ≤ 500) (hb : ∀ j, b j < 256) (h : EC b n σ) (hT : TSC b n s σ) (hs : s ≤ n) : mX7_wordAmong 5 σ = some (if 11 ≤ wd b n s ∧ wd b n s ≤ 20 then Int32.ofNat (wd b n s - 11) else -1) := by
  rw [C_among hn hb ⟨by decide, by decide⟩ h hT hs, wr5]
  unfold wd
  by_cases c : tc b n s = 2
  · rw [if_pos c, if_pos c]
  · rw [if_neg c, if_neg c, if_neg (by decide)]
theorem C_isw {b : Nat → Nat} {n s p v : Nat} {σ : Sto} (hn : n ≤ 500) (hb : ∀ j, b j < 256) (hp : isT p) (hv : v < 21) (hw : ∀ L, wrR (txC p) (txT p) L (txT p + 1) 0 0 0 = if wixL wsL 0 L = v then 0 else -1) (h : EC b n σ) (hT : TSC b n s σ) (hs : s ≤ n) : mX7_isWord p σ = some (if wd b n s = v then 1 else 0) := by
  unfold mX7_isWord
  rw [C_among hn hb hp h hT hs, hw, bnd_some]
  unfold wd
  by_cases c : tc b n s = 2
  · rw [if_pos c, if_pos c]
    by_cases c2 : wixL wsL 0 (tkL b n s) = v
    · rw [if_pos c2, if_pos rfl, if_pos c2]
    · rw [if_neg c2, if_neg (by decide), if_neg c2]
  · rw [if_neg c, if_neg c, if_neg (by decide), if_neg (by omega)]
