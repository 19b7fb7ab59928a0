theorem bdp_inr {α γ : Type} (u : α) (f : α → Option (Nat ⊕ γ)) : bdp (some (.inr u)) f = f u := rfl
theorem bdp_inl {α γ : Type} (x : Nat) (f : α → Option (Nat ⊕ γ)) : bdp (some (.inl x)) f = some (.inl x) := rfl
theorem bdx_inr {α β γ : Type} (u : α) (s : β) (f : α → β → Option (Nat ⊕ γ)) : bdx (some (.inr (u, s))) f = f u s := rfl
theorem bd2_some {α β γ : Type} (u : α) (s : β) (f : α → β → Option γ) : bd2 (some (u, s)) f = f u s := rfl
theorem bnd_some {α β : Type} (a : α) (f : α → Option β) : (some a).bind f = f a := rfl
theorem asc (a b : Int32) : a + b - b = a := Int32.add_sub_cancel a b
theorem i10 : ¬ (1 : Int32) = 0 := by decide
theorem Rel.sz {A : Ab} {σ : Sto} (h : Rel A σ) {b : Nat} (hb : b < 147) : ¬ b = sZ σ := by
  have := h.2.1
  omega
/-- a fresh cell of the class: its kind, its ints -/
def NewC (σ σ' : Sto) (kd : Nat) (f : Nat → Int32) : Prop := sZ σ' = sZ σ + 1 ∧ (∀ b, b ≠ sZ σ → sK σ' b = sK σ b ∧ sN σ' b = sN σ b ∧ (∀ k, sI σ' b k = sI σ b k) ∧ (∀ k, sL σ' b k = sL σ b k) ∧ ∀ k, sR σ' b k = sR σ b k) ∧ sK σ' (sZ σ) = kd ∧ ∀ k, sI σ' (sZ σ) k = f k
theorem NewC.nw (σ : Sto) (kd : Nat) : NewC σ (nwK σ kd 0) kd (fun _ => 0) := ⟨rfl, fun b hb => ⟨by rw [nwK_K, if_neg hb], by rw [nwK_N, if_neg hb], fun k => by rw [nwK_I, if_neg hb], fun k => by rw [nwK_L, if_neg hb], fun k => by rw [nwK_R, if_neg hb]⟩, by rw [nwK_K, if_pos rfl], fun k => by rw [nwK_I, if_pos rfl]⟩
theorem NewC.w {σ σ' : Sto} {kd : Nat} {f : Nat → Int32} (h : NewC σ σ' kd f) (j : Nat) (v : Int32) : NewC σ (wI σ' (sZ σ) j v) kd (fun k => if k = j then v else f k) :=
  ⟨h.1, fun b hb => ⟨(h.2.1 b hb).1, (h.2.1 b hb).2.1, fun k => by rw [sI_wI, if_neg (fun q => hb q.1)]; exact (h.2.1 b hb).2.2.1 k, (h.2.1 b hb).2.2.2.1, (h.2.1 b hb).2.2.2.2⟩, h.2.2.1, fun k => by
    show sI (wI σ' (sZ σ) j v) (sZ σ) k = if k = j then v else f k
    rw [sI_wI]
    by_cases e : k = j
    · rw [if_pos ⟨rfl, e⟩, if_pos e]
    · rw [if_neg (fun q => e q.2), if_neg e]; exact h.2.2.2 k⟩
theorem NewC.onC {σ σ' : Sto} {kd : Nat} {f : Nat → Int32} (h : NewC σ σ' kd f) (hz : 147 ≤ sZ σ) : OnlyC σ σ' := ⟨by rw [h.1]; omega, fun b hb => ⟨(h.2.1 b (by omega)).1, (h.2.1 b (by omega)).2.1⟩, ⟨(h.2.1 80 (by omega)).2.2.2.1, (h.2.1 66 (by omega)).2.2.1 0⟩, fun b h1 h2 => ⟨(h.2.1 b (by omega)).2.2.1, (h.2.1 b (by omega)).2.2.2.1⟩⟩
theorem cV_congr {c : Nat} {A A' : Ab} {i : Nat} (hc : c < 7) (h : ∀ a ∈ cU c, A' a i = A a i) : ∀ k ∈ cF c, cV c A' i k = cV c A i k := by
  intro k hk
  rcases (show c = 0 ∨ c = 1 ∨ c = 2 ∨ c = 3 ∨ c = 4 ∨ c = 5 ∨ c = 6 by omega) with rfl | rfl | rfl | rfl | rfl | rfl | rfl
  · simp only [cF, List.mem_cons, List.not_mem_nil, or_false] at hk
    rcases hk with rfl | rfl <;> exact h _ (by decide)
  · simp only [cF, List.mem_cons, List.not_mem_nil, or_false] at hk
    rcases hk with rfl | rfl | rfl | rfl | rfl <;> exact h _ (by decide)
  · simp only [cF, List.mem_cons, List.not_mem_nil, or_false] at hk
    rcases hk with rfl | rfl <;> exact h _ (by decide)
  · simp only [cF, List.mem_cons, List.not_mem_nil, or_false] at hk
    rcases hk with rfl | rfl | rfl <;> exact h _ (by decide)
  · have e97 := h 97 (by decide)
    have e98 := h 98 (by decide)
    have e99 := h 99 (by decide)
    have e100 := h 100 (by decide)
    have e101 := h 101 (by decide)
    have e102 := h 102 (by decide)
    have e103 := h 103 (by decide)
    have e104 := h 104 (by decide)
    have e105 := h 105 (by decide)
    have e106 := h 106 (by decide)
    have e107 := h 107 (by decide)
    show fcv A' i k = fcv A i k
    unfold fcv
    simp only [e97, e98, e99, e100, e101, e102, e103, e104, e105, e106, e107]
  · have e108 := h 108 (by decide)
    have e109 := h 109 (by decide)
    have e110 := h 110 (by decide)
    show ccv A' i k = ccv A i k
    unfold ccv
    simp only [e108, e109, e110]
  · rfl
theorem cR_ne {c c' i n : Nat} (h : ¬ (c' = c ∧ i = n)) : ¬ (cR c' = cR c ∧ i = n) := fun q => h ⟨by have := q.1; unfold cR at this; omega, q.2⟩
/-- a row told: a fresh cell, its reference, the number -/
theorem RObj.tell {A A' : Ab} {σ σ1 : Sto} {c n kf : Nat} {v : Int32} {f : Nat → Int32} (h : RObj A σ) (hz : 147 ≤ sZ σ) (hc : c < 7) (hN : NewC σ σ1 (cK c) f) (hn : cT c A = n) (hnm : n < cM c) (hn' : cT c A' = n + 1) (hoth : ∀ c', c' < 7 → c' ≠ c → cT c' A' = cT c' A)
    (hV : ∀ c', c' < 7 → ∀ i, ¬ (c' = c ∧ i = n) → ∀ a ∈ cU c', A' a i = A a i) (hf : ∀ k ∈ cF c, f k = cV c A' n k) : RObj A' (wI (wR σ1 (cR c) n (sZ σ)) 33 kf v) := by
  refine h.add hc hn hnm hn' hoth (fun c' hc' i hi => cV_congr hc' (hV c' hc' i (fun q => by obtain ⟨rfl, rfl⟩ := q; omega))) (fun c' hc' i e => ?_) ?_ ?_ (fun a ha hr => ?_) ⟨Or.inr (Or.inr (Or.inr hz)), ?_, hN.2.2.1, fun k hk => ?_⟩
  · rw [sR_wI, sR_wR, if_neg (cR_ne e)]
    exact (hN.2.1 _ (by unfold cR; omega)).2.2.2.2 _
  · rw [sR_wI, sR_wR, if_pos ⟨rfl, rfl⟩]
  · show sZ σ ≤ sZ σ1
    rw [hN.1]; omega
  · have g := hN.2.1 a (by omega)
    refine ⟨g.1, fun k => ?_⟩
    rw [sI_wI, if_neg (fun q => by have := q.1; subst this; revert hr; unfold reg; omega)]
    exact g.2.2.1 k
  · show sZ σ < sZ σ1
    rw [hN.1]; omega
  · rw [sI_wI, if_neg (fun q => by have := q.1; omega), ← hf k hk]
    exact hN.2.2.2 k
theorem RCnt.tell {A A' : Ab} {σ σ1 : Sto} {c n j0 z kf0 : Nat} {v : Int32} {f : Nat → Int32} {kd : Nat} (h : RCnt A σ) (hz : 147 ≤ sZ σ) (hN : NewC σ σ1 kd f) (hj0 : cntOf j0 = (33, kf0)) (hv : A' 81 (cntAt j0) = v) (hA : ∀ j, j < 11 → j ≠ j0 → A' 81 (cntAt j) = A 81 (cntAt j)) (hinj : ∀ j, j < 11 → j ≠ j0 → cntOf j ≠ (33, kf0)) : RCnt A' (wI (wR σ1 (cR c) n z) 33 kf0 v) := fun j hj => by
  by_cases e : j = j0
  · subst e
    rw [hj0, hv, sI_wI, if_pos ⟨rfl, rfl⟩]
  · rw [sI_wI, if_neg (fun q => hinj j hj e (Prod.ext q.1 q.2)), hA j hj e, ← h j hj]
    refine (hN.2.1 _ ?_).2.2.1 _
    rcases (show j = 0 ∨ j = 1 ∨ j = 2 ∨ j = 3 ∨ j = 4 ∨ j = 5 ∨ j = 6 ∨ j = 7 ∨ j = 8 ∨ j = 9 ∨ j = 10 by omega) with rfl | rfl | rfl | rfl | rfl | rfl | rfl | rfl | rfl | rfl | rfl <;> simp only [cntOf] <;> omega
