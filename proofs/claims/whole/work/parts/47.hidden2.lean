def hcnt (A : Ab) : Nat → Nat → List Nat → Nat
  | c, _, [] => c
  | c, x, y :: ys => if A 99 y = bh A x then hcnt A c y ys else hcnt A (c + 1) y ys
def hfind (A : Ab) (i : Int32) : Nat → Nat → List Nat → Option (Nat × Nat)
  | _, _, [] => none
  | c, x, y :: ys => if A 99 y = bh A x then hfind A i c y ys else if Int32.ofNat c = i then some (x, y) else hfind A i (c + 1) y ys
def tellA (A : Ab) (what : Int32) (x y : Nat) : Int32 := if what = 0 then A 101 x else if what = 1 then A 101 y else if what = 2 then bh A x else A 99 y
def hidC (A : Ab) (i what : Int32) (c x : Nat) (bs : List Nat) : Nat ⊕ Int32 := match hfind A i c x bs with
  | some p => .inr (tellA A what p.1 p.2)
  | none => if i = -1 then .inr (Int32.ofNat (hcnt A c x bs)) else .inl 0
theorem hidC_skip {A : Ab} {i what : Int32} {c x y : Nat} {ys : List Nat} (h : A 99 y = bh A x) : hidC A i what c x (y :: ys) = hidC A i what c y ys := by
  unfold hidC
  rw [show hfind A i c x (y :: ys) = hfind A i c y ys from if_pos h, show hcnt A c x (y :: ys) = hcnt A c y ys from if_pos h]
theorem hidC_yes {A : Ab} {i what : Int32} {c x y : Nat} {ys : List Nat} (h : ¬ A 99 y = bh A x) (h2 : Int32.ofNat c = i) : hidC A i what c x (y :: ys) = .inr (tellA A what x y) := by
  unfold hidC
  rw [show hfind A i c x (y :: ys) = some (x, y) from (if_neg h).trans (if_pos h2)]
theorem hidC_no {A : Ab} {i what : Int32} {c x y : Nat} {ys : List Nat} (h : ¬ A 99 y = bh A x) (h2 : ¬ Int32.ofNat c = i) : hidC A i what c x (y :: ys) = hidC A i what (c + 1) y ys := by
  unfold hidC
  rw [show hfind A i c x (y :: ys) = hfind A i (c + 1) y ys from (if_neg h).trans (if_neg h2), show hcnt A c x (y :: ys) = hcnt A (c + 1) y ys from if_neg h]
theorem C_tellH {A : Ab} {σ : Sto} (h : CB A σ) {x y : Nat} (hx : x < cT 4 A) (hy : y < cT 4 A) (kx : A 97 x ≠ 1) (ky : A 97 y ≠ 1) {what : Int32} : mX11_tellHidden (sR σ 38 x) (sR σ 38 y) what σ = some (tellA A what x y) := by
  have hr := h.2.2.2.2.2.1
  obtain ⟨k0, f0, f2, f3, f4, f5, f6, -⟩ := h.fa hx
  obtain ⟨k0', f0', f2', f3', f4', f5', f6', -⟩ := h.fa hy
  have dX := C_day h hx kx
  have dY := C_day h hy ky
  unfold mX11_tellHidden tellA
  rw [if_pos k0, if_pos k0', if_pos k0, if_pos k0', dX, dY, f5, f4', (day_n hr hx).2, (day_n hr hy).2]
  by_cases c0 : what = 0
  · rw [if_pos c0, if_pos c0]
  · rw [if_neg c0, if_neg c0]
    by_cases c1 : what = 1
    · rw [if_pos c1, if_pos c1]
    · rw [if_neg c1, if_neg c1]
      by_cases c2 : what = 2
      · rw [if_pos c2, if_pos c2]; rfl
      · rw [if_neg c2, if_neg c2]
theorem C_hid_l {A : Ab} {σ : Sto} (h : CB A σ) {w k : Nat} (hk : k ≤ 999) {i what : Int32} : ∀ bs as x c fuel, handL A w k (cT 4 A) = as ++ x :: bs → bs.length + 1 < fuel → c ≤ as.length → mX11_hidden_36 fuel (Int32.ofNat w) i what (Int32.ofNat k) (Int32.ofNat c) (Int32.ofNat x) (Int32.ofNat as.length) σ = some (hidC A i what c x bs) := by
  have hl : cT 4 A ≤ 200 := (h.1.le (c := 4) (by decide)).1
  have hlen := handL_len (A := A) (w := w) (k := k) (cT 4 A)
  have mem : ∀ y, y ∈ handL A w k (cT 4 A) → y < cT 4 A ∧ A 97 y ≠ 1 := fun y hy => by
    have := (handL_mem _).mp hy
    exact ⟨this.1, hd_kind (hdB_iff.mp this.2)⟩
  intro bs
  induction bs with
  | nil =>
    intro as x c fuel e hf hc
    obtain ⟨n, rfl⟩ : ∃ n, fuel = n + 1 + 1 := ⟨fuel - 2, by rw [List.length_nil] at hf; omega⟩
    have hx := mem x (by rw [e]; exact List.mem_append_right _ List.mem_cons_self)
    have hl2 : (handL A w k (cT 4 A)).length = as.length + 1 := by rw [e, List.length_append, List.length_singleton]
    refine Eq.trans (b := mX11_hidden_36B (mX11_hidden_36 (n + 1)) (Int32.ofNat w) i what (Int32.ofNat k) (Int32.ofNat c) (Int32.ofNat x) (Int32.ofNat as.length) σ) rfl ?_
    unfold mX11_hidden_36B
    have q1 : ¬ (200 : Int32) ≤ Int32.ofNat as.length := fun q => absurd ((oI_le (j := 200) (by decide) (by omega)).mp q) (by omega)
    rw [if_neg q1, if_neg (ne_neg1 (by omega)), C_next h hk e, bnd_some]
    rw [if_pos (show oB ([] : List Nat).head? = -1 from rfl)]
    have e139 : mX11_hidden_139 i (Int32.ofNat c) σ = some (hidC A i what c x []) := by
      unfold mX11_hidden_139 hidC hfind hcnt
      by_cases ci : i = -1
      · rw [if_pos ci]; simp only [if_pos ci]
      · rw [if_neg ci]; simp only [if_neg ci]
    refine Eq.trans (b := mX11_hidden_36B (mX11_hidden_36 n) (Int32.ofNat w) i what (Int32.ofNat k) (Int32.ofNat c) (-1) (Int32.ofNat as.length + 1) σ) rfl ?_
    unfold mX11_hidden_36B
    rw [e139, if_pos rfl, ite_self]
  | cons y ys ih =>
    intro as x c fuel e hf hc
    obtain ⟨n, rfl⟩ : ∃ n, fuel = n + 1 := ⟨fuel - 1, by omega⟩
    have hx := mem x (by rw [e]; exact List.mem_append_right _ List.mem_cons_self)
    have hy := mem y (by rw [e]; exact List.mem_append_right _ (List.mem_cons_of_mem _ List.mem_cons_self))
    have hl2 : (handL A w k (cT 4 A)).length = as.length + ys.length + 2 := by rw [e, List.length_append, List.length_cons, List.length_cons]; omega
    obtain ⟨k0, f0, f2, f3, f4, f5, f6, -⟩ := h.fa hx.1
    obtain ⟨k0', f0', f2', f3', f4', f5', f6', -⟩ := h.fa hy.1
    have e' : handL A w k (cT 4 A) = (as ++ [x]) ++ y :: ys := by rw [e, List.append_assoc]; rfl
    have ih' := fun c' hc' => ih (as ++ [x]) y c' n e' (by rw [List.length_cons] at hf; omega) hc'
    rw [List.length_append, List.length_singleton] at ih'
    refine Eq.trans (b := mX11_hidden_36B (mX11_hidden_36 n) (Int32.ofNat w) i what (Int32.ofNat k) (Int32.ofNat c) (Int32.ofNat x) (Int32.ofNat as.length) σ) rfl ?_
    unfold mX11_hidden_36B
    have q1 : ¬ (200 : Int32) ≤ Int32.ofNat as.length := fun q => absurd ((oI_le (j := 200) (by decide) (by omega)).mp q) (by omega)
    rw [if_neg q1, if_neg (ne_neg1 (by omega)), C_next h hk e, bnd_some]
    show (if Int32.ofNat y = -1 then _ else (mX1_factAt (Int32.ofNat y) σ).bind _) = _
    rw [if_neg (ne_neg1 (by omega)), h.at4 hy.1, bnd_some, if_pos k0', h.at4 hx.1, bnd_some, if_pos k0, f4', f5]
    show (if A 99 y = bh A x then _ else _) = _
    by_cases c1 : A 99 y = bh A x
    · rw [if_pos c1, hidC_skip c1, oI_s]
      exact ih' c (by omega)
    · rw [if_neg c1]
      by_cases c2 : Int32.ofNat c = i
      · rw [if_pos c2, hidC_yes c1 c2, bnd_some, show mX1_factAt (oB (y :: ys).head?) σ = some (sR σ 38 y) from h.at4 hy.1, bnd_some, C_tellH h hx.1 hy.1 hx.2 hy.2, bnd_some]
      · rw [if_neg c2, hidC_no c1 c2, oI_s, oI_s]
        exact ih' (c + 1) (by omega)
/-- what the reference says when all hands were looked at -/
theorem M_tellH {A : Ab} {ρ : Sto} {L as bs : List Nat} {x y : Nat} (hr : IRow A) (hm : RM A ρ) (h0 : sI ρ 81 0 = 0) (hL : HL L ρ) (hlen : L.length ≤ 200) (hx : x < 200) (hy : y < 200) (e : L = as ++ x :: y :: bs) {what : Int32} : mX12_hidden_145 what (Int32.ofNat (as.length + 1)) 1 ρ = some (tellA A what x y, ρ) := by
  have hl2 : L.length = as.length + bs.length + 2 := by rw [e, List.length_append, List.length_cons, List.length_cons]; omega
  have ax := hL.2 as x (y :: bs) e
  have ay := hL.2 (as ++ [x]) y bs (by rw [e, List.append_assoc]; rfl)
  rw [Nat.zero_add] at ax ay
  rw [List.length_append, List.length_singleton] at ay
  unfold mX12_hidden_145 tellA
  have i1 := oI_inb (j := as.length) (n := 200) (by omega) (by decide)
  have i2 := oI_inb (j := as.length + 1) (n := 200) (by omega) (by decide)
  rw [M_right1 h0, bd2_some, if_neg i10, oI_p, if_pos i1, if_pos i1, if_pos i2, if_pos i2, oI_cl (j := as.length) (by omega), oI_cl (j := as.length + 1) (by omega), ax, ay, if_pos (oI_inb (j := x) (n := 200) hx (by decide)), if_pos (oI_inb (j := y) (n := 200) hy (by decide)), if_pos (oI_inb (j := y) (n := 200) hy (by decide)), oI_cl (j := x) (by omega), oI_cl (j := y) (by omega), hm 101 x rfl, hm 101 y rfl, hm 99 y rfl, M_bh hm hx, bnd_some]
  by_cases c0 : what = 0
  · rw [if_pos c0, if_pos c0]
  · rw [if_neg c0, if_neg c0]
    by_cases c1 : what = 1
    · rw [if_pos c1, if_pos c1]
    · rw [if_neg c1, if_neg c1]
      by_cases c2 : what = 2
      · rw [if_pos c2, if_pos c2]
      · rw [if_neg c2, if_neg c2]
theorem M_hid_step {A : Ab} {ρ : Sto} {L as bs : List Nat} {x y n : Nat} (hm : RM A ρ) (hL : HL L ρ) (hlen : L.length ≤ 200) (hx : x < 200) (hy : y < 200) (e : L = as ++ x :: y :: bs) {i what fnd c : Int32} : mX12_hidden_62 (n + 1) i what c fnd (Int32.ofNat (as.length + 1)) ρ = if A 99 y = bh A x then mX12_hidden_62 n i what c fnd (Int32.ofNat (as.length + 1 + 1)) ρ else if c = i then mX12_hidden_62 n i what (c + 1) (Int32.ofNat (as.length + 1)) (Int32.ofNat (as.length + 1 + 1)) ρ else mX12_hidden_62 n i what (c + 1) fnd (Int32.ofNat (as.length + 1 + 1)) ρ := by
  have hl2 : L.length = as.length + bs.length + 2 := by rw [e, List.length_append, List.length_cons, List.length_cons]; omega
  have ax := hL.2 as x (y :: bs) e
  have ay := hL.2 (as ++ [x]) y bs (by rw [e, List.append_assoc]; rfl)
  rw [Nat.zero_add] at ax ay
  rw [List.length_append, List.length_singleton] at ay
  refine Eq.trans (b := mX12_hidden_62B (mX12_hidden_62 n) i what c fnd (Int32.ofNat (as.length + 1)) ρ) rfl ?_
  unfold mX12_hidden_62B
  rw [hL.1, if_neg (fun q => absurd ((oI_le (by omega) (by omega)).mp q) (by omega)), oI_p, if_pos (oI_inb (j := as.length + 1) (n := 200) (by omega) (by decide)), oI_cl (j := as.length + 1) (by omega), ay, if_pos (oI_inb (j := y) (n := 200) hy (by decide)), if_pos (oI_inb (j := as.length) (n := 200) (by omega) (by decide)), oI_cl (j := as.length) (by omega), ax, M_bh hm hx, bnd_some, oI_cl (j := y) (by omega), hm 99 y rfl, oI_s]
theorem M_hid_f {A : Ab} {ρ : Sto} {L : List Nat} (hm : RM A ρ) (hL : HL L ρ) (hlen : L.length ≤ 200) (hmem : ∀ y ∈ L, y < 200) {what : Int32} {c0 pos : Nat} (hpos : pos ≤ 200) (hc0 : c0 ≤ 200) : ∀ bs as x c fuel, L = as ++ x :: bs → bs.length < fuel → c ≤ as.length → c0 < c → mX12_hidden_62 fuel (Int32.ofNat c0) what (Int32.ofNat c) (Int32.ofNat pos) (Int32.ofNat (as.length + 1)) ρ = mX12_hidden_145 what (Int32.ofNat pos) 1 ρ := by
  intro bs
  induction bs with
  | nil =>
    intro as x c fuel e hf hc hcc
    obtain ⟨n, rfl⟩ : ∃ n, fuel = n + 1 := ⟨fuel - 1, by omega⟩
    have hl2 : L.length = as.length + 1 := by rw [e, List.length_append, List.length_singleton]
    refine Eq.trans (b := mX12_hidden_62B (mX12_hidden_62 n) (Int32.ofNat c0) what (Int32.ofNat c) (Int32.ofNat pos) (Int32.ofNat (as.length + 1)) ρ) rfl ?_
    unfold mX12_hidden_62B
    rw [hL.1, if_pos ((oI_le (by omega) (by omega)).mpr (by omega)), if_neg (ne_neg1 (by omega)), if_neg (oI_nn (by omega)), if_neg (ne_neg1 (by omega))]
  | cons y ys ih =>
    intro as x c fuel e hf hc hcc
    obtain ⟨n, rfl⟩ : ∃ n, fuel = n + 1 := ⟨fuel - 1, by omega⟩
    have hx := hmem x (by rw [e]; exact List.mem_append_right _ List.mem_cons_self)
    have hy := hmem y (by rw [e]; exact List.mem_append_right _ (List.mem_cons_of_mem _ List.mem_cons_self))
    have hl2 : L.length = as.length + ys.length + 2 := by rw [e, List.length_append, List.length_cons, List.length_cons]; omega
    have e' : L = (as ++ [x]) ++ y :: ys := by rw [e, List.append_assoc]; rfl
    have ih' := fun c' hc' hcc' => ih (as ++ [x]) y c' n e' (by rw [List.length_cons] at hf; omega) hc' hcc'
    rw [List.length_append, List.length_singleton] at ih'
    rw [M_hid_step hm hL hlen hx hy e]
    by_cases c1 : A 99 y = bh A x
    · rw [if_pos c1]; exact ih' c (by omega) hcc
    · rw [if_neg c1, if_neg (fun q => absurd ((oI_eq (by omega) (by omega)).mp q) (by omega)), oI_s]
      exact ih' (c + 1) (by omega) (by omega)
def hidM (ρ : Sto) : Nat ⊕ Int32 → Option (Int32 × Sto)
  | .inr v => some (v, ρ)
  | .inl _ => some (0, wI ρ 81 0 1)
theorem M_hid_l {A : Ab} {ρ : Sto} {L : List Nat} (hr : IRow A) (hm : RM A ρ) (h0 : sI ρ 81 0 = 0) (hL : HL L ρ) (hlen : L.length ≤ 200) (hmem : ∀ y ∈ L, y < 200) {i what : Int32} : ∀ bs as x c fuel, L = as ++ x :: bs → bs.length < fuel → c ≤ as.length → mX12_hidden_62 fuel i what (Int32.ofNat c) (-1) (Int32.ofNat (as.length + 1)) ρ = hidM ρ (hidC A i what c x bs) := by
  intro bs
  induction bs with
  | nil =>
    intro as x c fuel e hf hc
    obtain ⟨n, rfl⟩ : ∃ n, fuel = n + 1 := ⟨fuel - 1, by omega⟩
    have hl2 : L.length = as.length + 1 := by rw [e, List.length_append, List.length_singleton]
    refine Eq.trans (b := mX12_hidden_62B (mX12_hidden_62 n) i what (Int32.ofNat c) (-1) (Int32.ofNat (as.length + 1)) ρ) rfl ?_
    have e144 : mX12_hidden_144 what (-1) ρ = some (0, wI ρ 81 0 1) := by
      unfold mX12_hidden_144 mX12_hidden_145
      rw [M_right0 h0 (by decide), bd2_some, if_pos rfl]
    unfold mX12_hidden_62B hidC hfind hcnt
    rw [hL.1, if_pos ((oI_le (by omega) (by omega)).mpr (by omega)), e144]
    by_cases ci : i = -1
    · rw [if_pos ci]; simp only [if_pos ci]; rfl
    · rw [if_neg ci]; simp only [if_neg ci, if_true]
      rw [ite_self]; rfl
  | cons y ys ih =>
    intro as x c fuel e hf hc
    obtain ⟨n, rfl⟩ : ∃ n, fuel = n + 1 := ⟨fuel - 1, by omega⟩
    have hx := hmem x (by rw [e]; exact List.mem_append_right _ List.mem_cons_self)
    have hy := hmem y (by rw [e]; exact List.mem_append_right _ (List.mem_cons_of_mem _ List.mem_cons_self))
    have hl2 : L.length = as.length + ys.length + 2 := by rw [e, List.length_append, List.length_cons, List.length_cons]; omega
    have e' : L = (as ++ [x]) ++ y :: ys := by rw [e, List.append_assoc]; rfl
    have ih' := fun c' hc' => ih (as ++ [x]) y c' n e' (by rw [List.length_cons] at hf; omega) hc'
    rw [List.length_append, List.length_singleton] at ih'
    rw [M_hid_step hm hL hlen hx hy e]
    by_cases c1 : A 99 y = bh A x
    · rw [if_pos c1, hidC_skip c1]; exact ih' c (by omega)
    · rw [if_neg c1]
      by_cases c2 : Int32.ofNat c = i
      · rw [if_pos c2, hidC_yes c1 c2, ← c2, oI_s]
        have g := M_hid_f hm hL hlen hmem (what := what) (c0 := c) (pos := as.length + 1) (by omega) (by omega) ys (as ++ [x]) y (c + 1) n e' (by rw [List.length_cons] at hf; omega) (by rw [List.length_append, List.length_singleton]; omega) (by omega)
        rw [List.length_append, List.length_singleton] at g
        rw [g, M_tellH hr hm h0 hL hlen hx hy e]
        rfl
      · rw [if_neg c2, hidC_no c1 c2, oI_s]
        exact ih' (c + 1) (by omega)
def hidS (A : Ab) (i what : Int32) : List Nat → Nat ⊕ Int32
  | [] => if i = -1 then .inr 0 else .inl 0
  | x :: bs => hidC A i what 0 x bs
theorem C_hid {A : Ab} {σ : Sto} (h : CB A σ) {w k : Nat} (hk : k ≤ 999) {i what : Int32} : mX11_hidden_36 FU (Int32.ofNat w) i what (Int32.ofNat k) 0 (oB (handL A w k (cT 4 A)).head?) 0 σ = some (hidS A i what (handL A w k (cT 4 A))) := by
  have hl : cT 4 A ≤ 200 := (h.1.le (c := 4) (by decide)).1
  have hlen := handL_len (A := A) (w := w) (k := k) (cT 4 A)
  cases e : handL A w k (cT 4 A) with
  | nil =>
    refine Eq.trans (b := mX11_hidden_36B (mX11_hidden_36 4999) (Int32.ofNat w) i what (Int32.ofNat k) 0 (-1) 0 σ) rfl ?_
    unfold mX11_hidden_36B mX11_hidden_139 hidS
    rw [if_neg (by decide), if_pos rfl]
    by_cases ci : i = -1
    · rw [if_pos ci, if_pos ci]
    · rw [if_neg ci, if_neg ci]
  | cons x bs =>
    rw [e, List.length_cons] at hlen
    exact C_hid_l h hk bs [] x 0 FU e (show bs.length + 1 < 5000 by omega) (Nat.zero_le _)
theorem M_hid {A : Ab} {ρ : Sto} {L : List Nat} (hr : IRow A) (hm : RM A ρ) (h0 : sI ρ 81 0 = 0) (hL : HL L ρ) (hlen : L.length ≤ 200) (hmem : ∀ y ∈ L, y < 200) {i what : Int32} : mX12_hidden_62 FU i what 0 (-1) 1 ρ = hidM ρ (hidS A i what L) := by
  cases L with
  | nil =>
    refine Eq.trans (b := mX12_hidden_62B (mX12_hidden_62 4999) i what 0 (-1) 1 ρ) rfl ?_
    have e144 : mX12_hidden_144 what (-1) ρ = some (0, wI ρ 81 0 1) := by
      unfold mX12_hidden_144 mX12_hidden_145
      rw [M_right0 h0 (by decide), bd2_some, if_pos rfl]
    unfold mX12_hidden_62B hidS
    rw [hL.1, e144, if_pos (by decide)]
    by_cases ci : i = -1
    · rw [if_pos ci, if_pos ci]; rfl
    · rw [if_neg ci, if_neg ci, if_pos rfl, ite_self]; rfl
  | cons x bs =>
    rw [List.length_cons] at hlen
    exact M_hid_l hr hm h0 hL (by rw [List.length_cons]; exact hlen) hmem bs [] x 0 FU rfl (show bs.length < 5000 by omega) (Nat.zero_le _)
theorem hidC_inl {A : Ab} {i what : Int32} {c y x : Nat} {ys : List Nat} (h : hidC A i what c y ys = .inl x) : x = 0 := by
  unfold hidC at h
  cases q : hfind A i c y ys with
  | some p => rw [q] at h; cases h
  | none =>
    rw [q] at h
    by_cases ci : i = -1
    · simp only [if_pos ci] at h; cases h
    · simp only [if_neg ci] at h; cases h; rfl
theorem op_hidden (p0 p1 p2 p3 : Int32) : OpOK (mL_hidden p0 p1 p2 p3) (mX12_hidden p0 p1 p2 p3) iJ := by
  intro A σ h
  obtain ⟨nt, nl, np, nw, ns, nr, nf, nc, nL, ⟨b1, b2, b3, b4, b5, b6, b7, b8, b9⟩, ⟨a1, a2, a3, a4, a5, a6, a7, a8, a9⟩, ⟨c0, c1, c2, c3, c4, c5, c6, c7, c8⟩, ⟨d1, d2, d3, d4, d5, d6, d7, d8, d9⟩⟩ := h.nums
  have t0 : ∀ σ' : Sto, sI (wI σ' 81 0 0) 81 0 = 0 := fun _ => rfl
  have r0 : ∀ σ', RM A σ' → RM A (wI σ' 81 0 0) := fun σ' hm => hm.np 81 0 0 rfl
  have mw : ∀ σ', RM A σ' → mX12_isWork p0 (wI σ' 81 0 0) = if nu p0 nw then some (1, wI σ' 81 0 0) else some (0, wI (wI σ' 81 0 0) 81 0 1) := fun σ' hm => by
    rw [M_isWork (t0 σ'), (r0 _ hm) 81 4 rfl, a4]
  have me : ∀ σ', RM A σ' → mX12_isEvening p3 (wI σ' 81 0 0) = if ¬ p3 < 0 ∧ p3 ≤ Int32.ofNat nt then some (1, wI σ' 81 0 0) else some (0, wI (wI σ' 81 0 0) 81 0 2) := fun σ' hm => by
    rw [M_isEvening (t0 σ'), (r0 _ hm) 81 1 rfl, a1]
  by_cases g1 : nu p0 nw
  · obtain ⟨w, w1, w2⟩ := nu_of (by omega) g1
    by_cases g2 : ¬ p2 < 0 ∧ ¬ 3 < p2
    · have mg : ∀ σ', RM A σ' → mX12_hidden p0 p1 p2 p3 σ' = mX12_hidden_28 p0 p1 p2 p3 1 (wI σ' 81 0 0) := fun σ' hm => by
        simp only [mX12_hidden, stp]
        rw [mw _ hm, if_pos g1, bd2_some, if_neg i10, if_neg g2.1, if_neg g2.2]
      by_cases g3 : ¬ p3 < 0 ∧ p3 ≤ Int32.ofNat nt
      · obtain ⟨k, k1, k2⟩ := inR.le (m := nt) (v := p3) (by omega) g3.1 (fun q => nle.mpr q g3.2)
        have hk : k ≤ 999 := by omega
        have hle := handL_len (A := A) (w := w) (k := k) nf
        have e2 : mX11_hidden p0 p1 p2 p3 σ = some (hidS A p1 p2 (handL A w k nf)) := by
          unfold mX11_hidden
          rw [C_needW c3 (by omega), if_pos g1, bdp_inr, C_needWh, if_pos g2, bdp_inr, C_needE, c0, if_pos g3, bdp_inr, w2, k2, C_first h.cb hk, bnd_some, C_hid h.cb hk, d7]
        have mo : ∀ ρ, RM A ρ → ∃ ρ', mX12_hidden p0 p1 p2 p3 ρ = hidM ρ' (hidS A p1 p2 (handL A w k nf)) ∧ OnlyM ρ ρ' ∧ RM A ρ' ∧ sI ρ' 81 0 = 0 := fun ρ hm => by
          obtain ⟨ρ', m1, m2, m3, m4, m5⟩ := M_hands0 h.1 h.row (w := w) hk (r0 _ hm)
          rw [d7] at m5
          refine ⟨ρ', ?_, (OnlyM.rf.w 81 0 0 (by decide)).tr m2, m3, m4⟩
          rw [mg _ hm]
          unfold mX12_hidden_28
          rw [M_right1 (t0 _), bd2_some, if_neg i10, me _ hm, if_pos g3, bd2_some, if_neg i10, w2, k2, m1, bnd_some]
          exact M_hid h.row m3 m4 m5 (by omega) (fun x hx => by have := ((handL_mem nf).mp hx).1; omega)
        cases eS : hidS A p1 p2 (handL A w k nf) with
        | inr v =>
          obtain ⟨ρ', m1, m2, m3, m4⟩ := mo (wL σ 146 0 (iJ v)) (h.2.2.1.wl _ _ _)
          rw [eS] at m1 e2
          exact op_ask (v := iJ v) h (by show wr hB iJ σ ((mX11_hidden p0 p1 p2 p3 σ).map (embS σ)) = _; rw [e2]; rfl) m1 m2 m3 m4 rfl
        | inl x =>
          have ex : x = 0 := by
            cases eL : handL A w k nf with
            | nil =>
              rw [eL] at eS
              unfold hidS at eS
              by_cases ci : p1 = -1
              · rw [if_pos ci] at eS; cases eS
              · rw [if_neg ci] at eS; cases eS; rfl
            | cons y ys =>
              rw [eL] at eS
              have eS' : hidC A p1 p2 0 y ys = .inl x := eS
              exact hidC_inl eS'
          subst ex
          obtain ⟨ρ', m1, m2, m3, m4⟩ := mo σ h.2.2.1
          rw [eS] at m1 e2
          refine ⟨1, σ, 0, wI ρ' 81 0 1, by show wr hB iJ σ ((mX11_hidden p0 p1 p2 p3 σ).map (embS σ)) = _; rw [e2]; rfl, m1, rfl, fun z => absurd z (by decide), A, h.thr (m2.w 81 0 1 (by decide)) (m3.np 81 0 1 rfl)⟩
      · have e2 : mX11_hidden p0 p1 p2 p3 σ = some (.inl 1) := by
          unfold mX11_hidden
          rw [C_needW c3 (by omega), if_pos g1, bdp_inr, C_needWh, if_pos g2, bdp_inr, C_needE, c0, if_neg g3]
          rfl
        refine op_thr (k := 2) (b := 0) h (by decide) (by show wr hB iJ σ ((mX11_hidden p0 p1 p2 p3 σ).map (embS σ)) = _; rw [e2]; rfl) ?_
        rw [mg _ h.2.2.1]
        unfold mX12_hidden_28
        rw [M_right1 (t0 _), bd2_some, if_neg i10, me _ h.2.2.1, if_neg g3]
        rfl
    · have e2 : mX11_hidden p0 p1 p2 p3 σ = some (.inl 0) := by
        unfold mX11_hidden
        rw [C_needW c3 (by omega), if_pos g1, bdp_inr, C_needWh, if_neg g2]
        rfl
      refine op_thr (k := 1) (b := 0) h (by decide) (by show wr hB iJ σ ((mX11_hidden p0 p1 p2 p3 σ).map (embS σ)) = _; rw [e2]; rfl) ?_
      have e27 : mX12_hidden_27 p0 p1 p2 p3 (wI σ 81 0 0) = some (0, wI (wI σ 81 0 0) 81 0 1) := by
        unfold mX12_hidden_27 mX12_hidden_28
        rw [M_right0 (t0 _) (by decide), bd2_some, if_pos rfl]
      simp only [mX12_hidden, stp]
      rw [mw _ h.2.2.1, if_pos g1, bd2_some, if_neg i10, e27]
      by_cases q : p2 < 0
      · rw [if_pos q]
      · rw [if_neg q, if_pos (Classical.not_not.mp fun z => g2 ⟨q, z⟩)]
  · have e2 : mX11_hidden p0 p1 p2 p3 σ = some (.inl 0) := by
      unfold mX11_hidden
      rw [C_needW c3 (by omega), if_neg g1]
      rfl
    refine op_thr (k := 1) (b := 0) h (by decide) (by show wr hB iJ σ ((mX11_hidden p0 p1 p2 p3 σ).map (embS σ)) = _; rw [e2]; rfl) ?_
    simp only [mX12_hidden, stp]
    rw [mw _ h.2.2.1, if_neg g1]
    rfl
