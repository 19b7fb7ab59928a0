/-! the reference reads: its own state against what the text says -/
def st6 (a : Nat) : Nat := if a = 12 then 0 else if a = 5 then 1 else if a = 4 then 2 else if a = 3 then 3 else if a = 6 then 4 else if a = 7 then 4 else if a = 8 then 5 else if a = 9 then 5 else 6
theorem act_c {a : Nat} (h1 : 3 ≤ a) (h2 : a ≤ 12) : a = 3 ∨ a = 4 ∨ a = 5 ∨ a = 6 ∨ a = 7 ∨ a = 8 ∨ a = 9 ∨ a = 10 ∨ a = 11 ∨ a = 12 := by omega
theorem M_st6 {a : Nat} (h1 : 3 ≤ a) (h2 : a ≤ 12) (ρ : Sto) : mX12_strength (Int32.ofNat a) ρ = Int32.ofNat (st6 a) := by
  rcases act_c h1 h2 with rfl | rfl | rfl | rfl | rfl | rfl | rfl | rfl | rfl | rfl <;> rfl
theorem st6_le (a : Nat) : st6 a ≤ 6 := by
  unfold st6
  repeat (first | (apply Nat.le_of_ble_eq_true; rfl) | split)
/-- what waits, as a sign of the reckoning -/
def ai (a : Nat) : Nat × Nat := if a = 3 then (2, 0) else if a = 5 then (3, 0) else if a = 4 then (3, 1) else (3, a - 4)
def mI (c : Nat × Nat) : List Int32 := if c.1 = 0 then [1, Int32.ofNat c.2] else if c.1 = 1 then [2, Int32.ofNat c.2] else if c.1 = 2 then [3] else [(opT.getD c.2 (0, 0)).2]
theorem mI_ai {a : Nat} (h1 : 3 ≤ a) (h2 : a ≤ 11) : mI (ai a) = [Int32.ofNat a] := by
  rcases (show a = 3 ∨ a = 4 ∨ a = 5 ∨ a = 6 ∨ a = 7 ∨ a = 8 ∨ a = 9 ∨ a = 10 ∨ a = 11 by omega) with rfl | rfl | rfl | rfl | rfl | rfl | rfl | rfl | rfl <;> rfl
def mc : List (Nat × Nat) → List Int32
  | [] => []
  | c :: r => mI c ++ mc r
theorem mc_app : ∀ (x y : List (Nat × Nat)), mc (x ++ y) = mc x ++ mc y
  | [], _ => rfl
  | c :: r, y => by
    show mI c ++ mc (r ++ y) = (mI c ++ mc r) ++ mc y
    rw [mc_app r y, List.append_assoc]
theorem mc_one (c : Nat × Nat) : mc [c] = mI c := List.append_nil _
def LG (g : Nat → Int32) : Nat → List Int32 → Prop
  | _, [] => True
  | q, x :: r => g q = x ∧ LG g (q + 1) r
theorem LG.app {g : Nat → Int32} {y : List Int32} : ∀ {l : List Int32} {q : Nat}, LG g q l → LG g (q + l.length) y → LG g q (l ++ y)
  | [], _, _, h => h
  | c :: r, q, h, k => ⟨h.1, LG.app (l := r) (q := q + 1) h.2 (by
    rw [show q + 1 + r.length = q + (r.length + 1) by omega]; exact k)⟩
theorem LG.congr {g g' : Nat → Int32} : ∀ {l : List Int32} {q : Nat}, LG g q l → (∀ i, q ≤ i → i < q + l.length → g' i = g i) → LG g' q l
  | [], _, _, _ => trivial
  | c :: r, q, h, k => ⟨(k q (Nat.le_refl _) (by show q < q + (r.length + 1); omega)).trans h.1, LG.congr (l := r) (q := q + 1) h.2 (fun i h1 h2 => k i (by omega) (by show i < q + (r.length + 1); omega))⟩
def Wt (ρ : Sto) : List Nat → Prop
  | [] => True
  | x :: W => sI ρ 127 W.length = Int32.ofNat x ∧ Wt ρ W
theorem Wt.congr {ρ ρ' : Sto} : ∀ {W : List Nat}, Wt ρ W → (∀ i, i < W.length → sI ρ' 127 i = sI ρ 127 i) → Wt ρ' W
  | [], _, _ => trivial
  | x :: W, h, k => ⟨(k W.length (by show W.length < W.length + 1; omega)).trans h.1, Wt.congr (W := W) h.2 (fun i hi => k i (by show i < W.length + 1; omega))⟩
def SM (q0 x j : Nat) : Prop := (x = 81 ∧ ((40 ≤ j ∧ j ≤ 41) ∨ (43 ≤ j ∧ j ≤ 48) ∨ (51 ≤ j ∧ j ≤ 53))) ∨ (x = 126 ∧ q0 ≤ j) ∨ x = 127 ∨ x = 128
theorem SM_em {q0 : Nat} : ∀ x j, SM q0 x j → x ≠ 111 ∧ ¬ (x = 81 ∧ j = 42) := fun x j h => by unfold SM at h; omega
theorem S43_SM {q0 : Nat} : ∀ x j, S43 x j → SM q0 x j := fun x j h => by unfold S43 at h; unfold SM; omega
/-- the reference stands at s; e was put out, W waits, its depth is d; φ its fault and its place; B bounds what it holds -/
def MS (b : Nat → Nat) (n q0 K d : Nat) (φ : Int32 × Int32) (s B : Nat) (e : List (Nat × Nat)) (W : List Nat) (ρ : Sto) : Prop :=
  (EM b n ρ ∧ s ≤ n ∧ TSM b n s ρ ∧ sI ρ 81 40 = φ.1 ∧ sI ρ 81 41 = φ.2) ∧ (sI ρ 81 52 = Int32.ofNat W.length ∧ Wt ρ W ∧ (∀ x ∈ W, 3 ≤ x ∧ x ≤ 12) ∧ W.length ≤ B) ∧ (sI ρ 81 53 = Int32.ofNat d ∧ d ≤ 6) ∧ (sI ρ 81 51 = Int32.ofNat (q0 + (mc e).length) ∧ (φ.1 = 0 → LG (fun j => sI ρ 126 j) q0 (mc e)) ∧ q0 + (mc e).length + W.length ≤ K + 2 * B)
theorem MS.up {b : Nat → Nat} {n q0 K d s B B' : Nat} {φ : Int32 × Int32} {e : List (Nat × Nat)} {W : List Nat} {ρ : Sto} (h : MS b n q0 K d φ s B e W ρ) (hB : B ≤ B') : MS b n q0 K d φ s B' e W ρ := by
  obtain ⟨h1, ⟨h2, h3, h4, h5⟩, h6, h7, h8, h9⟩ := h
  exact ⟨h1, ⟨h2, h3, h4, by omega⟩, h6, h7, h8, by omega⟩
theorem TSM.ey {b : Nat → Nat} {n s : Nat} {S : Nat → Nat → Prop} {ρ ρ' : Sto} (h : TSM b n s ρ) (x : Ex S ρ ρ') (hS : ∀ j, 43 ≤ j → j ≤ 48 → ¬ S 81 j) : TSM b n s ρ' := by
  have r : ∀ j, 43 ≤ j → j ≤ 48 → sI ρ' 81 j = sI ρ 81 j := fun j h1 h2 => x.2.2.2.2.2 81 j (hS j h1 h2)
  obtain ⟨h1, h2, h3, h4, h5, h6, h7⟩ := h
  exact ⟨(r 44 (by decide) (by decide)).trans h1, (r 45 (by decide) (by decide)).trans h2, (r 43 (by decide) (by decide)).trans h3, (r 46 (by decide) (by decide)).trans h4, (r 47 (by decide) (by decide)).trans h5, (r 48 (by decide) (by decide)).trans h6, fun q => (x.2.2.2.2.1 81 49).trans (h7 q)⟩
theorem EM.ex {b : Nat → Nat} {n : Nat} {S : Nat → Nat → Prop} {ρ ρ' : Sto} (h : EM b n ρ) (hE : Ex S ρ ρ') (hS : ∀ x j, S x j → x ≠ 111 ∧ ¬ (x = 81 ∧ j = 42)) : EM b n ρ' := by
  have r := hE.2.2.2.2.2
  exact ⟨by rw [r 81 42 (fun z => (hS _ _ z).2 ⟨rfl, rfl⟩)]; exact h.1, fun j hj => by rw [r 111 j (fun z => (hS _ _ z).1 rfl)]; exact h.2 j hj⟩
theorem Ex.ey {S : Nat → Nat → Prop} {σ σ' : Sto} (h : Ex S σ σ') : Ey S σ σ' := ⟨h.1, h.2.1, h.2.2.1, h.2.2.2.1, fun b k _ => h.2.2.2.2.1 b k, h.2.2.2.2.2⟩
/-- depths tested stay -/
def T8 (m : Nat) (ρ ρ' : Sto) : Prop := ∀ j, j < m → sI ρ' 128 j = sI ρ 128 j
theorem T8.rf {m : Nat} {ρ : Sto} : T8 m ρ ρ := fun _ _ => rfl
theorem T8.tr {m : Nat} {a b c : Sto} (h : T8 m a b) (g : T8 m b c) : T8 m a c := fun j hj => (g j hj).trans (h j hj)
theorem T8.le {m m' : Nat} {a b : Sto} (h : T8 m a b) (hm : m' ≤ m) : T8 m' a b := fun j hj => h j (by omega)
/-- a step of the reference that keeps what it must -/
def St8 (q0 : Nat) (ρ ρ' : Sto) : Prop := Ey (SM q0) ρ ρ' ∧ ∀ m, T8 m ρ ρ'
theorem St8.tr {q0 : Nat} {a b c : Sto} (h : St8 q0 a b) (g : St8 q0 b c) : St8 q0 a c := ⟨h.1.tr g.1, fun m => (h.2 m).tr (g.2 m)⟩
theorem M_gs {b : Nat → Nat} {n q0 K d s B : Nat} {φ : Int32 × Int32} {e : List (Nat × Nat)} {W : List Nat} {ρ : Sto} (hn : n ≤ 500) (hb : ∀ j, b j < 256) (h : MS b n q0 K d φ s B e W ρ) : ∃ ρ', mX12_goes ρ = some ρ' ∧ St8 q0 ρ ρ' ∧ MS b n q0 K d φ (nx b n s) B e W ρ' := by
  obtain ⟨⟨h1, h2, h3, h4, h4'⟩, ⟨h5, h6, h7, h8⟩, ⟨h9, h10⟩, h11, h12, h13⟩ := h
  obtain ⟨ρ', e1, x1, r1⟩ := M_nx hn hb h2 h1 h3
  have k := x1.2.2.2.2.2
  have k1 : ∀ j, (j < 43 ∨ 48 < j) → sI ρ' 81 j = sI ρ 81 j := fun j hj => k 81 j (by unfold S43; omega)
  have k2 : ∀ a j, a ≠ 81 → sI ρ' a j = sI ρ a j := fun a j ha => k a j (by unfold S43; omega)
  refine ⟨ρ', e1, ⟨x1.mono S43_SM, fun m j _ => k2 128 j (by decide)⟩, ⟨h1.ey x1 S43_em, (nx_le (b := b) h2).2.1, r1, (k1 40 (by omega)).trans h4, (k1 41 (by omega)).trans h4'⟩, ⟨(k1 52 (by omega)).trans h5, h6.congr (fun i _ => k2 127 i (by decide)), h7, h8⟩, ⟨(k1 53 (by omega)).trans h9, h10⟩, (k1 51 (by omega)).trans h11, fun q => (h12 q).congr (fun i _ _ => k2 126 i (by decide)), h13⟩
theorem M_push {b : Nat → Nat} {n q0 K d s B a : Nat} {v : Int32} {φ : Int32 × Int32} {e : List (Nat × Nat)} {W : List Nat} {ρ : Sto} (hv : v = Int32.ofNat a) (ha : 3 ≤ a ∧ a ≤ 12) (hB : B ≤ 505) (h : MS b n q0 K d φ s B e W ρ) : ∃ ρ', mX12_waitsFor v ρ = some ρ' ∧ St8 q0 ρ ρ' ∧ MS b n q0 K d φ s (B + 1) e (a :: W) ρ' := by
  obtain ⟨⟨h1, h2, h3, h4, h4'⟩, ⟨h5, h6, h7, h8⟩, ⟨h9, h10⟩, h11, h12, h13⟩ := h
  have x : Ex (fun a j => (a = 127 ∧ j = W.length) ∨ (a = 81 ∧ j = 52)) ρ (wI (wI ρ 127 W.length v) 81 52 (Int32.ofNat (W.length + 1))) := (Ex.rf.w (S := fun a j => (a = 127 ∧ j = W.length) ∨ (a = 81 ∧ j = 52)) _ (Or.inl ⟨rfl, rfl⟩)).w _ (Or.inr ⟨rfl, rfl⟩)
  have k := x.2.2.2.2.2
  have xm : Ex (SM q0) ρ (wI (wI ρ 127 W.length v) 81 52 (Int32.ofNat (W.length + 1))) := x.mono fun a j z => by unfold SM; omega
  refine ⟨_, ?_, ⟨xm.ey, fun m j _ => k 128 j (by omega)⟩, ⟨h1.ex x (fun a j z => by omega), h2, h3.ey x (fun j _ _ z => by omega), (k 81 40 (by omega)).trans h4, (k 81 41 (by omega)).trans h4'⟩, ⟨?_, ⟨?_, h6.congr (fun i hi => k 127 i (by omega))⟩, fun y hy => ?_, ?_⟩, ⟨(k 81 53 (by omega)).trans h9, h10⟩, (k 81 51 (by omega)).trans h11, fun q => (h12 q).congr (fun i _ _ => k 126 i (by omega)), ?_⟩
  · unfold mX12_waitsFor
    rw [h5, if_pos (oI_inb (by omega) (by decide)), oI_cl (j := W.length) (by omega)]
    show some (wI (wI ρ 127 W.length v) 81 52 (sI (wI ρ 127 W.length v) 81 52 + 1)) = _
    rw [sI_wI, if_neg (by omega), h5, oI_s]
  · rw [sI_wI, if_pos ⟨rfl, rfl⟩]; rfl
  · rw [sI_wI, if_neg (by omega), sI_wI, if_pos ⟨rfl, rfl⟩]; exact hv
  · rcases List.mem_cons.mp hy with rfl | hy
    · exact ha
    · exact h7 y hy
  · show W.length + 1 ≤ B + 1
    omega
  · show q0 + (mc e).length + (W.length + 1) ≤ K + 2 * (B + 1)
    omega
theorem M_put1 {ρ : Sto} {t : Nat} (v : Int32) (ht : sI ρ 81 51 = Int32.ofNat t) (h : t < 15800) : mX12_puts v ρ = some (wI (wI ρ 126 t v) 81 51 (Int32.ofNat (t + 1))) := by
  unfold mX12_puts
  rw [ht, if_pos (oI_inb h (by decide)), oI_cl (j := t) (by omega)]
  show some (wI (wI ρ 126 t v) 81 51 (sI (wI ρ 126 t v) 81 51 + 1)) = _
  rw [sI_wI, if_neg (by omega), ht, oI_s]
/-- one sign put out -/
theorem M_putc {b : Nat → Nat} {n q0 K d s B B' : Nat} {v : Int32} {φ : Int32 × Int32} {e : List (Nat × Nat)} {W W' : List Nat} {ρ ρ0 : Sto} (h : MS b n q0 K d φ s B e W ρ) (c : Nat × Nat) (hc : mI c = [v]) (hK : K + 1011 ≤ 15800) (hB : B ≤ 505) (hB' : W'.length ≤ B' ∧ q0 + (mc e).length + 1 + W'.length ≤ K + 2 * B') (hW : ∀ x ∈ W', 3 ≤ x ∧ x ≤ 12)
    (x0 : Ex (fun a j => a = 81 ∧ j = 52) ρ ρ0) (w0 : sI ρ0 81 52 = Int32.ofNat W'.length) (w1 : Wt ρ0 W') : ∃ ρ', mX12_puts v ρ0 = some ρ' ∧ St8 q0 ρ ρ' ∧ MS b n q0 K d φ s B' (e ++ [c]) W' ρ' := by
  obtain ⟨⟨h1, h2, h3, h4, h4'⟩, ⟨h5, h6, h7, h8⟩, ⟨h9, h10⟩, h11, h12, h13⟩ := h
  have m1 : mc (e ++ [c]) = mc e ++ [v] := by rw [mc_app, mc_one, hc]
  have k0 := x0.2.2.2.2.2
  have x : Ex (fun a j => (a = 126 ∧ j = q0 + (mc e).length) ∨ (a = 81 ∧ (j = 51 ∨ j = 52))) ρ (wI (wI ρ0 126 (q0 + (mc e).length) v) 81 51 (Int32.ofNat (q0 + (mc e).length + 1))) := ((x0.mono (T := fun a j => (a = 126 ∧ j = q0 + (mc e).length) ∨ (a = 81 ∧ (j = 51 ∨ j = 52))) (fun a j z => Or.inr ⟨z.1, Or.inr z.2⟩)).w _ (Or.inl ⟨rfl, rfl⟩)).w _ (Or.inr ⟨rfl, Or.inl rfl⟩)
  have k := x.2.2.2.2.2
  have xm : Ex (SM q0) ρ (wI (wI ρ0 126 (q0 + (mc e).length) v) 81 51 (Int32.ofNat (q0 + (mc e).length + 1))) := x.mono fun a j z => by unfold SM; omega
  refine ⟨_, M_put1 v ((k0 81 51 (by omega)).trans h11) (by omega), ⟨xm.ey, fun m j _ => k 128 j (by omega)⟩, ⟨h1.ex x (fun a j z => by omega), h2, h3.ey x (fun j _ _ z => by omega), (k 81 40 (by omega)).trans h4, (k 81 41 (by omega)).trans h4'⟩, ⟨?_, w1.congr (fun i _ => ?_), hW, hB'.1⟩, ⟨(k 81 53 (by omega)).trans h9, h10⟩, ?_, fun q => ?_, ?_⟩
  · rw [sI_wI, if_neg (by omega), sI_wI, if_neg (by omega)]; exact w0
  · rw [sI_wI, if_neg (by omega), sI_wI, if_neg (by omega)]
  · rw [sI_wI, if_pos ⟨rfl, rfl⟩, m1, List.length_append]
    rfl
  · rw [m1]
    refine LG.app ((h12 q).congr fun i _ h2 => k 126 i (by omega)) ⟨?_, trivial⟩
    show sI (wI (wI ρ0 126 (q0 + (mc e).length) v) 81 51 (Int32.ofNat (q0 + (mc e).length + 1))) 126 (q0 + (mc e).length) = v
    rw [sI_wI, if_neg (by omega), sI_wI, if_pos ⟨rfl, rfl⟩]
  · rw [m1, List.length_append]
    show q0 + ((mc e).length + 1) + W'.length ≤ K + 2 * B'
    omega
/-- two words of one sign -/
theorem M_put2 {b : Nat → Nat} {n q0 K d s B : Nat} {u v : Int32} {φ : Int32 × Int32} {e : List (Nat × Nat)} {W : List Nat} {ρ : Sto} (h : MS b n q0 K d φ s B e W ρ) (c : Nat × Nat) (hc : φ.1 = 0 → mI c = [u, v]) (hl : (mI c).length = 2) (hK : K + 1011 ≤ 15800) (hB : B ≤ 503) : ∃ ρ1 ρ', mX12_puts u ρ = some ρ1 ∧ (∀ j, j ≠ 51 → sI ρ1 81 j = sI ρ 81 j) ∧ mX12_puts v ρ1 = some ρ' ∧ St8 q0 ρ ρ' ∧ MS b n q0 K d φ s (B + 1) (e ++ [c]) W ρ' := by
  obtain ⟨⟨h1, h2, h3, h4, h4'⟩, ⟨h5, h6, h7, h8⟩, ⟨h9, h10⟩, h11, h12, h13⟩ := h
  have m1 : mc (e ++ [c]) = mc e ++ mI c := by rw [mc_app, mc_one]
  have x1 : Ex (fun a j => (a = 126 ∧ q0 + (mc e).length ≤ j) ∨ (a = 81 ∧ j = 51)) ρ (wI (wI ρ 126 (q0 + (mc e).length) u) 81 51 (Int32.ofNat (q0 + (mc e).length + 1))) := (Ex.rf.w (S := fun a j => (a = 126 ∧ q0 + (mc e).length ≤ j) ∨ (a = 81 ∧ j = 51)) _ (Or.inl ⟨rfl, Nat.le_refl _⟩)).w _ (Or.inr ⟨rfl, rfl⟩)
  have k1 := x1.2.2.2.2.2
  have x : Ex (fun a j => (a = 126 ∧ q0 + (mc e).length ≤ j) ∨ (a = 81 ∧ j = 51)) ρ (wI (wI (wI (wI ρ 126 (q0 + (mc e).length) u) 81 51 (Int32.ofNat (q0 + (mc e).length + 1))) 126 (q0 + (mc e).length + 1) v) 81 51 (Int32.ofNat (q0 + (mc e).length + 1 + 1))) := (x1.w _ (Or.inl ⟨rfl, Nat.le_succ _⟩)).w _ (Or.inr ⟨rfl, rfl⟩)
  have k := x.2.2.2.2.2
  have xm := x.mono (T := SM q0) fun a j z => by unfold SM; omega
  refine ⟨_, _, M_put1 u h11 (by omega), fun j hj => k1 81 j (by omega), M_put1 v (by rw [sI_wI, if_pos ⟨rfl, rfl⟩]) (by omega), ⟨xm.ey, fun m j _ => k 128 j (by omega)⟩, ⟨h1.ex x (fun a j z => by omega), h2, h3.ey x (fun j _ _ z => by omega), (k 81 40 (by omega)).trans h4, (k 81 41 (by omega)).trans h4'⟩, ⟨(k 81 52 (by omega)).trans h5, h6.congr (fun i _ => k 127 i (by omega)), h7, by omega⟩, ⟨(k 81 53 (by omega)).trans h9, h10⟩, ?_, fun q => ?_, ?_⟩
  · rw [sI_wI, if_pos ⟨rfl, rfl⟩, m1, List.length_append, hl]
    rfl
  · rw [m1, hc q]
    refine LG.app ((h12 q).congr fun i _ h2 => k 126 i (by omega)) ⟨?_, ?_, trivial⟩
    · show sI _ 126 (q0 + (mc e).length) = u
      rw [sI_wI, if_neg (by omega), sI_wI, if_neg (by omega), sI_wI, if_neg (by omega), sI_wI, if_pos ⟨rfl, rfl⟩]
    · show sI _ 126 (q0 + (mc e).length + 1) = v
      rw [sI_wI, if_neg (by omega), sI_wI, if_pos ⟨rfl, rfl⟩]
  · rw [m1, List.length_append, hl]
    omega
def Blk (L : Nat) : List Nat → Prop
  | [] => True
  | y :: _ => y = 12 ∨ st6 y < L
theorem oI_pr {j : Nat} (h : 1 ≤ j) : Int32.ofNat j - 1 = Int32.ofNat (j - 1) := by
  rw [show j = (j - 1) + 1 by omega, oI_p, Nat.add_sub_cancel]
/-- what is at least so strong goes out -/
theorem M_drops {b : Nat → Nat} {n q0 K d s B L : Nat} {v : Int32} {φ : Int32 × Int32} {W : List Nat} (hv : v = Int32.ofNat L) (hL : L ≤ 6) (hK : K + 1011 ≤ 15800) (hB : B ≤ 505) (hBk : Blk L W) : ∀ (W' : List Nat) (e : List (Nat × Nat)) (fuel : Nat) (ρ : Sto), W'.length < fuel → (∀ y ∈ W', L ≤ st6 y ∧ y ≠ 12) → MS b n q0 K d φ s B e (W' ++ W) ρ → ∃ ρ', mX12_drops_0 fuel v ρ = some ρ' ∧ St8 q0 ρ ρ' ∧ MS b n q0 K d φ s B (e ++ W'.map ai) W ρ'
  | [], e, fuel, ρ, hf, hW, h => by
    obtain ⟨f, rfl⟩ : ∃ q, fuel = q + 1 := ⟨fuel - 1, by omega⟩
    have h0 : MS b n q0 K d φ s B e W ρ := h
    refine ⟨ρ, ?_, ⟨Ey.rf, fun m => T8.rf⟩, by rw [List.map_nil, List.append_nil]; exact h0⟩
    show mX12_drops_0B (mX12_drops_0 f) v ρ = _
    unfold mX12_drops_0B
    obtain ⟨-, ⟨h5, h6, h7, h8⟩, -, -⟩ := h0
    rw [h5]
    cases W with
    | nil => rw [if_pos (show Int32.ofNat ([] : List Nat).length ≤ 0 by decide)]
    | cons y W =>
      have hlen : (y :: W).length = W.length + 1 := rfl
      rw [hlen] at h8
      have hy := h7 y (List.mem_cons_self ..)
      rw [hlen, if_neg (fun q => absurd ((le_lit (v := 0) (m := 0) rfl (by omega) (by decide)).mp q) (by omega)), oI_p, if_pos (oI_inb (by omega) (by decide)), oI_cl (j := W.length) (by omega), h6.1]
      by_cases c : y = 12
      · rw [if_pos (by rw [c]; rfl)]
      · rw [if_neg (fun q => c ((eq_lit (v := 12) (m := 12) rfl (by omega) (by decide)).mp q)), M_st6 hy.1 hy.2, hv]
        have := hBk.resolve_left c
        rw [if_pos ((oI_lt (by omega) (by omega)).mpr this)]
  | y :: W', e, fuel, ρ, hf, hW, h => by
    obtain ⟨f, rfl⟩ : ∃ q, fuel = q + 1 := ⟨fuel - 1, by omega⟩
    have hf' : W'.length < f := by have : (y :: W').length = W'.length + 1 := rfl; omega
    have hyW := hW y (List.mem_cons_self ..)
    obtain ⟨-, ⟨h5, h6, h7, h8⟩, -, -, -, h13⟩ := id h
    have hy := h7 y (List.mem_cons_self ..)
    have hlen : (y :: W' ++ W).length = (W' ++ W).length + 1 := rfl
    rw [hlen] at h8 h5 h13
    have x0 : Ex (fun a j => a = 81 ∧ j = 52) ρ (wI ρ 81 52 (Int32.ofNat (W' ++ W).length)) := Ex.rf.w _ ⟨rfl, rfl⟩
    have w1 : Wt (wI ρ 81 52 (Int32.ofNat (W' ++ W).length)) (W' ++ W) := h6.2.congr fun i _ => by rw [sI_wI, if_neg (by omega)]
    obtain ⟨ρ1, e1, s1, m1⟩ := M_putc (B' := B) (W' := W' ++ W) (v := Int32.ofNat y) h (ai y) (mI_ai hy.1 (by omega)) hK hB ⟨by omega, by omega⟩ (fun z hz => h7 z (List.mem_cons_of_mem _ hz)) x0 (by rw [sI_wI, if_pos ⟨rfl, rfl⟩]) w1
    obtain ⟨ρ2, e2, s2, m2⟩ := M_drops hv hL hK hB hBk W' (e ++ [ai y]) f ρ1 hf' (fun z hz => hW z (List.mem_cons_of_mem _ hz)) m1
    refine ⟨ρ2, ?_, s1.tr s2, ?_⟩
    · show mX12_drops_0B (mX12_drops_0 f) v ρ = _
      unfold mX12_drops_0B
      have hst := st6_le y
      rw [h5, if_neg (fun q => absurd ((le_lit (v := 0) (m := 0) rfl (by omega) (by decide)).mp q) (by omega)), oI_p, if_pos (oI_inb (by omega) (by decide)), oI_cl (j := (W' ++ W).length) (by omega), show sI ρ 127 (W' ++ W).length = Int32.ofNat y from h6.1, if_neg (fun q => hyW.2 ((eq_lit (v := 12) (m := 12) rfl (by omega) (by decide)).mp q)), M_st6 hy.1 hy.2, hv, if_neg (fun q => absurd ((oI_lt (by omega) (by omega)).mp q) (by omega))]
      show (if inb (sI (wI ρ 81 52 (Int32.ofNat (W' ++ W).length)) 81 52) 520 then (mX12_puts (sI (wI ρ 81 52 (Int32.ofNat (W' ++ W).length)) 127 ((sI (wI ρ 81 52 (Int32.ofNat (W' ++ W).length)) 81 52)).toNatClampNeg) (wI ρ 81 52 (Int32.ofNat (W' ++ W).length))).bind fun σ8 => mX12_drops_0 f (Int32.ofNat L) σ8 else none) = _
      have g1 : sI (wI ρ 81 52 (Int32.ofNat (W' ++ W).length)) 81 52 = Int32.ofNat (W' ++ W).length := by rw [sI_wI, if_pos ⟨rfl, rfl⟩]
      rw [g1, if_pos (oI_inb (by omega) (by decide)), oI_cl (j := (W' ++ W).length) (by omega)]
      have g2 : sI (wI ρ 81 52 (Int32.ofNat (W' ++ W).length)) 127 (W' ++ W).length = Int32.ofNat y := by rw [sI_wI, if_neg (by omega)]; exact h6.1
      rw [g2, e1, bnd_some, ← hv, e2]
    · rw [List.append_assoc] at m2
      exact m2
theorem M_good {b : Nat → Nat} {n q0 K d s B : Nat} {φ : Int32 × Int32} {e : List (Nat × Nat)} {W : List Nat} {ρ : Sto} (h : MS b n q0 K d φ s B e W ρ) : mX12_isGood ρ = if φ.1 = 0 then 1 else 0 := by
  unfold mX12_isGood
  rw [h.1.2.2.2.1]
/-- the first fault stands -/
theorem M_wrg {b : Nat → Nat} {n q0 K d s B k : Nat} {v : Int32} {x : Int32} {e : List (Nat × Nat)} {W : List Nat} {ρ : Sto} (hv : v = Int32.ofNat k) (hk : 1 ≤ k ∧ k ≤ 4) (h : MS b n q0 K d (0, x) s B e W ρ) : ∃ ρ', mX12_wrong v ρ = some ρ' ∧ St8 q0 ρ ρ' ∧ MS b n q0 K d (Int32.ofNat k, Int32.ofNat s) s B e W ρ' ∧ ¬ Int32.ofNat k = 0 := by
  obtain ⟨⟨h1, h2, h3, h4, h4'⟩, ⟨h5, h6, h7, h8⟩, ⟨h9, h10⟩, h11, h12, h13⟩ := h
  have x : Ex (fun a j => a = 81 ∧ (j = 40 ∨ j = 41)) ρ (wI (wI ρ 81 40 v) 81 41 (Int32.ofNat s)) := (Ex.rf.w (S := fun a j => a = 81 ∧ (j = 40 ∨ j = 41)) _ ⟨rfl, Or.inl rfl⟩).w _ ⟨rfl, Or.inr rfl⟩
  have kk := x.2.2.2.2.2
  have xm := x.mono (T := SM q0) fun a j z => by unfold SM; omega
  have hne : ¬ Int32.ofNat k = 0 := fun q => by
    have := (oI_eq (j := k) (n := 0) (by omega) (by decide)).mp q
    omega
  refine ⟨_, ?_, ⟨xm.ey, fun m j _ => kk 128 j (by omega)⟩, ⟨⟨h1.ex x (fun a j z => by omega), h2, h3.ey x (fun j _ _ z => by omega), ?_, ?_⟩, ⟨(kk 81 52 (by omega)).trans h5, h6.congr (fun i _ => kk 127 i (by omega)), h7, h8⟩, ⟨(kk 81 53 (by omega)).trans h9, h10⟩, (kk 81 51 (by omega)).trans h11, fun q => absurd q hne, h13⟩, hne⟩
  · unfold mX12_wrong
    rw [if_pos (show sI ρ 81 40 = 0 from h4)]
    show some (wI (wI ρ 81 40 v) 81 41 (sI (wI ρ 81 40 v) 81 45)) = _
    rw [sI_wI, if_neg (by omega), h3.2.1]
  · rw [sI_wI, if_neg (by omega), sI_wI, if_pos ⟨rfl, rfl⟩]; exact hv
  · rw [sI_wI, if_pos ⟨rfl, rfl⟩]
