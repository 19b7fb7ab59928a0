/-! feed: twenty bytes on the tape -/
def tA (A : Ab) (t : Nat) (x : Int32) : Ab := up2 (up2 A 111 t x) 81 39 (Int32.ofNat (t + 1))
def tM (σ : Sto) (t : Nat) (x : Int32) : Sto := wI (wI σ 111 t x) 81 39 (Int32.ofNat (t + 1))
def tC (σ : Sto) (t : Nat) (x : Int32) : Sto := wI (wI σ 74 t x) 32 5 (Int32.ofNat (t + 1))
def bt (v s : Int32) : Int32 := (v >>> (s &&& 31)) &&& 255
theorem M_step {σ : Sto} {v s : Int32} {t n : Nat} (hs : ¬ s < 0) (h : sI σ 81 39 = Int32.ofNat t) (ht : t < 500) : mX12_lays_3 (n + 1) v s σ = mX12_lays_3 n v (s + -8) (tM σ t (bt v s)) := by
  show mX12_lays_3B (mX12_lays_3 n) v s σ = _
  unfold mX12_lays_3B
  have e : sI (wI σ 111 t (bt v s)) 81 39 = Int32.ofNat t := h
  rw [if_neg hs, h, if_pos (oI_inb ht (by decide)), oI_cl (by omega)]
  show mX12_lays_3 n v (s + -8) (wI (wI σ 111 t (bt v s)) 81 39 (sI (wI σ 111 t (bt v s)) 81 39 + 1)) = _
  rw [e, oI_s]
  rfl
theorem C_step {σ : Sto} {v s : Int32} {t n : Nat} (hs : ¬ s < 0) (h : sI σ 32 5 = Int32.ofNat t) (ht : t < 500) : mX11_putBytes_3 (n + 1) v s σ = mX11_putBytes_3 n v (s + -8) (tC σ t (bt v s)) := by
  show mX11_putBytes_3B (mX11_putBytes_3 n) v s σ = _
  unfold mX11_putBytes_3B
  have e : sI (wI σ 74 t (bt v s)) 32 5 = Int32.ofNat t := h
  have g : ¬ (500 : Int32) ≤ Int32.ofNat t := fun q => absurd ((oI_le (j := 500) (n := t) (by decide) (by omega)).mp q) (by omega)
  rw [if_neg hs, h, if_neg g, if_pos (oI_inb ht (by decide)), oI_cl (by omega)]
  show mX11_putBytes_3 n v (s + -8) (wI (wI σ 74 t (bt v s)) 32 5 (sI (wI σ 74 t (bt v s)) 32 5 + 1)) = _
  rw [e, oI_s]
  rfl
def tM4 (σ : Sto) (t : Nat) (v : Int32) : Sto := tM (tM (tM (tM σ t (bt v 24)) (t + 1) (bt v 16)) (t + 2) (bt v 8)) (t + 3) (bt v 0)
def tC4 (σ : Sto) (t : Nat) (v : Int32) : Sto := tC (tC (tC (tC σ t (bt v 24)) (t + 1) (bt v 16)) (t + 2) (bt v 8)) (t + 3) (bt v 0)
def tA4 (A : Ab) (t : Nat) (v : Int32) : Ab := tA (tA (tA (tA A t (bt v 24)) (t + 1) (bt v 16)) (t + 2) (bt v 8)) (t + 3) (bt v 0)
theorem M_lays {σ : Sto} {v : Int32} {t : Nat} (h : sI σ 81 39 = Int32.ofNat t) (ht : t + 4 ≤ 500) : mX12_lays v σ = some (tM4 σ t v) := by
  show mX12_lays_3 (4995 + 5) v 24 σ = _
  rw [M_step (n := 4995 + 4) (by decide) h (by omega), show (24 : Int32) + -8 = 16 from rfl,
    M_step (n := 4995 + 3) (t := t + 1) (by decide) rfl (by omega), show (16 : Int32) + -8 = 8 from rfl,
    M_step (n := 4995 + 2) (t := t + 2) (by decide) rfl (by omega), show (8 : Int32) + -8 = 0 from rfl,
    M_step (n := 4995 + 1) (t := t + 3) (by decide) rfl (by omega), show (0 : Int32) + -8 = -8 from rfl]
  show mX12_lays_3B (mX12_lays_3 4995) v (-8) _ = _
  unfold mX12_lays_3B
  rw [if_pos (by decide)]
  rfl
theorem C_put {σ : Sto} {v : Int32} {t : Nat} (h : sI σ 32 5 = Int32.ofNat t) (ht : t + 4 ≤ 500) : mX11_putBytes v σ = some (tC4 σ t v) := by
  show mX11_putBytes_3 (4995 + 5) v 24 σ = _
  rw [C_step (n := 4995 + 4) (by decide) h (by omega), show (24 : Int32) + -8 = 16 from rfl,
    C_step (n := 4995 + 3) (t := t + 1) (by decide) rfl (by omega), show (16 : Int32) + -8 = 8 from rfl,
    C_step (n := 4995 + 2) (t := t + 2) (by decide) rfl (by omega), show (8 : Int32) + -8 = 0 from rfl,
    C_step (n := 4995 + 1) (t := t + 3) (by decide) rfl (by omega), show (0 : Int32) + -8 = -8 from rfl]
  show mX11_putBytes_3B (mX11_putBytes_3 4995) v (-8) _ = _
  unfold mX11_putBytes_3B
  rw [if_pos (by decide)]
  rfl
/-- a byte more, on the class's side and on the reference's -/
theorem RObj.byte {A : Ab} {σ : Sto} (h : RObj A σ) (t : Nat) (x : Int32) : RObj (tA A t x) (tC σ t x) := fun c hc i hi => by
  have h0 := h c hc i hi
  refine h0.keep rfl (Nat.le_refl _) rfl (fun k _ => ?_) (fun k hk => ?_)
  · have hr := h0.1
    unfold tC
    rw [sI_wI, if_neg, sI_wI, if_neg]
    · intro q; rw [q.1] at hr; unfold reg at hr; omega
    · intro q; rw [q.1] at hr; unfold reg at hr; omega
  · have e1 : cT c (tA A t x) = cT c A := by
      unfold cT tA
      rw [up2_ne, up2_ne (by omega)]
      intro q
      rcases (show c = 0 ∨ c = 1 ∨ c = 2 ∨ c = 3 ∨ c = 4 ∨ c = 5 ∨ c = 6 by omega) with rfl | rfl | rfl | rfl | rfl | rfl | rfl <;> exact absurd q.2 (by decide)
    have e2 := cV_congr (A := A) (A' := tA A t x) (i := i) hc (fun a ha => by
      have h1 : a ≠ 81 ∧ a ≠ 111 := by
        rcases (show c = 0 ∨ c = 1 ∨ c = 2 ∨ c = 3 ∨ c = 4 ∨ c = 5 ∨ c = 6 by omega) with rfl | rfl | rfl | rfl | rfl | rfl | rfl <;> simp only [cU, List.mem_cons, List.not_mem_nil, or_false] at ha <;> omega
      unfold tA
      rw [up2_ne (fun q => h1.1 q.1), up2_ne (fun q => h1.2 q.1)]) k hk
    rw [e1, e2]
theorem RCnt.byte {A : Ab} {σ : Sto} (h : RCnt A σ) (t : Nat) (x : Int32) : RCnt (tA A t x) (tC σ t x) := by
  intro j hj
  have h0 := h j hj
  unfold tA tC
  rcases (show j = 9 ∨ j = 0 ∨ j = 1 ∨ j = 2 ∨ j = 3 ∨ j = 4 ∨ j = 5 ∨ j = 6 ∨ j = 7 ∨ j = 8 ∨ j = 10 by omega) with rfl | rfl | rfl | rfl | rfl | rfl | rfl | rfl | rfl | rfl | rfl
  · rfl
  all_goals exact h0
theorem bt_in (v s : Int32) : inR (bt v s) 256 := by
  unfold bt
  generalize v >>> (s &&& 31) = y
  have h1 : (y &&& 255).toBitVec.toNat ≤ 255 := by
    rw [Int32.toBitVec_and, BitVec.toNat_and]
    exact Nat.and_le_right
  refine ⟨(y &&& 255).toBitVec.toNat, by omega, ?_⟩
  rw [← Int32.toBitVec_inj]
  show _ = BitVec.ofNat 32 _
  rw [BitVec.ofNat_toNat, BitVec.setWidth_eq]
theorem RTape.byte {A : Ab} {σ : Sto} (h : RTape A σ) (t : Nat) (x : Int32) (hx : inR x 256) : RTape (tA A t x) (tC σ t x) := fun j hj => by
  unfold tA tC
  rw [sI_wI, if_neg (by omega), sI_wI, up2_ne (by omega), up2_eq]
  by_cases e : j = t
  · rw [if_pos ⟨rfl, e⟩, if_pos ⟨rfl, e⟩]; exact ⟨rfl, hx⟩
  · rw [if_neg (fun q => e q.2), if_neg (fun q => e q.2)]
    exact h j hj
theorem RM.byte {A : Ab} {σ : Sto} (h : RM A σ) (t : Nat) (x : Int32) : RM (tA A t x) (tM σ t x) := (h.w 111 t x).w 81 39 _
theorem OnlyC.byte {σ σ0 : Sto} (h : OnlyC σ σ0) (t : Nat) (x : Int32) : OnlyC σ (tC σ0 t x) := (h.w 74 t x (Or.inl (by decide))).w 32 5 _ (Or.inl (by decide))
theorem OnlyM.byte {σ σ0 : Sto} (h : OnlyM σ σ0) (t : Nat) (x : Int32) : OnlyM σ (tM σ0 t x) := (h.w 111 t x (by decide)).w 81 39 _ (by decide)
