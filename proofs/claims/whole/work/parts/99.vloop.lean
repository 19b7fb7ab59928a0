/-! the law's loop -/
theorem cmp_self {v w : Int64} (h : v = w) : lg_cmp v w = 0 := (lg_cmp_eq v w).mpr h
/-- a call of both, in the law's words -/
theorem run_ok {β : Type} {cl : Sto → Option (Int32 × Sto)} {mo : Sto → Option (β × Sto)} {val : β → Int64} (ho : OpOK cl mo val) {K : Sto → Option Int32} {A : Ab} {σ : Sto} (h : Rel A σ) (hK : ∀ A' σ', Rel A' σ' → K σ' = some 1) {F : Int32 → β → Sto → Option Int32} (hF : ∀ k b σ2, sI σ2 81 0 = k → (k = 0 → sL σ2 146 0 = val b) → F k b σ2 = K σ2) : (bd2 (cl σ) fun v1 σ1 => bd2 (mo σ1) fun v2 σ2 => F v1 v2 σ2) = some 1 := by
  obtain ⟨k, σ1, b, σ2, e1, e2, e3, e4, A', e5⟩ := ho A σ h
  rw [e1, bd2_some, e2, bd2_some, hF k b σ2 e3 e4]
  exact hK A' σ2 e5
theorem run_i {cl : Sto → Option (Int32 × Sto)} {mo : Sto → Option (Int32 × Sto)} (ho : OpOK cl mo iJ) {K : Sto → Option Int32} {A : Ab} {σ : Sto} (h : Rel A σ) (hK : ∀ A' σ', Rel A' σ' → K σ' = some 1) : (bd2 (cl σ) fun v1 σ1 => bd2 (mo σ1) fun v2 σ2 => if (mX12_thrown σ2) = v1 then (if v1 = 0 then (if (lg_cmp (sL σ2 146 ((0 : Int32)).toNatClampNeg) (v2).toInt64) = 0 then K σ2 else some 0) else K σ2) else some 0) = some 1 :=
  run_ok ho h hK (fun k b σ2 e3 e4 => by
    rw [if_pos (show mX12_thrown σ2 = k from e3)]
    by_cases q : k = 0
    · rw [if_pos q]; exact if_pos (cmp_self (e4 q))
    · rw [if_neg q])
theorem run_j {cl : Sto → Option (Int32 × Sto)} {mo : Sto → Option (Int64 × Sto)} (ho : OpOK cl mo jJ) {K : Sto → Option Int32} {A : Ab} {σ : Sto} (h : Rel A σ) (hK : ∀ A' σ', Rel A' σ' → K σ' = some 1) : (bd2 (cl σ) fun v1 σ1 => bd2 (mo σ1) fun v2 σ2 => if (mX12_thrown σ2) = v1 then (if v1 = 0 then (if (lg_cmp (sL σ2 146 ((0 : Int32)).toNatClampNeg) v2) = 0 then K σ2 else some 0) else K σ2) else some 0) = some 1 :=
  run_ok ho h hK (fun k b σ2 e3 e4 => by
    rw [if_pos (show mX12_thrown σ2 = k from e3)]
    by_cases q : k = 0
    · rw [if_pos q]; exact if_pos (cmp_self (e4 q))
    · rw [if_neg q])
theorem run_b {cl : Sto → Option (Int32 × Sto)} {mo : Sto → Option (Int32 × Sto)} (ho : OpOK cl mo bZ) {K : Sto → Option Int32} {T : Int64 → Int64 → Sto → Option Int32} (hT : ∀ y0 y1 σ, T y0 y1 σ = if (lg_cmp y0 y1) = 0 then K σ else some 0) {A : Ab} {σ : Sto} (h : Rel A σ) (hK : ∀ A' σ', Rel A' σ' → K σ' = some 1) : (bd2 (cl σ) fun v1 σ1 => bd2 (mo σ1) fun v2 σ2 => if (mX12_thrown σ2) = v1 then (if v1 = 0 then (if v2 = 0 then T (sL σ2 146 ((0 : Int32)).toNatClampNeg) (0 : Int64) σ2 else T (sL σ2 146 ((0 : Int32)).toNatClampNeg) (1 : Int64) σ2) else K σ2) else some 0) = some 1 :=
  run_ok ho h hK (fun k b σ2 e3 e4 => by
    rw [if_pos (show mX12_thrown σ2 = k from e3)]
    by_cases q : k = 0
    · rw [if_pos q]
      have e := e4 q
      unfold bZ at e
      by_cases q2 : b = 0
      · rw [if_pos q2] at e
        rw [if_pos q2, hT]; exact if_pos (cmp_self e)
      · rw [if_neg q2] at e
        rw [if_neg q2, hT]; exact if_pos (cmp_self e)
    · rw [if_neg q])
theorem run_q {cl mo : Sto → Option (Int32 × Sto)} (ho : OpEq cl mo) {K : Sto → Option Int32} {A : Ab} {σ : Sto} (h : Rel A σ) (hK : ∀ A' σ', Rel A' σ' → K σ' = some 1) : (bd2 (cl σ) fun v1 σ1 => bd2 (mo σ1) fun v2 σ2 => if v1 = v2 then K σ2 else some 0) = some 1 := by
  obtain ⟨v, σ1, σ2, e1, e2, A', e3⟩ := ho A σ h
  rw [e1, bd2_some, e2, bd2_some, if_pos rfl]
  exact hK A' σ2 e3
theorem if_some1 {P : Prop} {_ : Decidable P} {a : Option Int32} (hP : P) (h : a = some 1) : (if P then a else none) = some 1 := by rw [if_pos hP]; exact h
theorem if_case {P : Prop} {_ : Decidable P} {a b : Option Int32} (h : P → a = some 1) (g : ¬ P → b = some 1) : (if P then a else b) = some 1 := by
  by_cases q : P
  · rw [if_pos q]; exact h q
  · rw [if_neg q]; exact g q
theorem oI_l {i : Nat} (c : Nat) {v : Int32} (hv : v = Int32.ofNat c) : Int32.ofNat i + v = Int32.ofNat (i + c) := by
  rw [hv, ← oI_add]
theorem end_iff {L i : Nat} (hL : L ≤ 4096) (hi : i ≤ 5000) : (Int32.ofNat L - 8 < Int32.ofNat i) ↔ L < i + 8 := by
  by_cases c : L < 8
  · refine ⟨fun _ => by omega, fun _ => ?_⟩
    have h0 : Int32.ofNat L - 8 < 0 := (by decide : ∀ m, m < 8 → Int32.ofNat m - 8 < 0) L c
    have h1 : Int32.ofNat 0 ≤ Int32.ofNat i := (oI_le (by decide) (by omega)).mpr (Nat.zero_le _)
    exact Int32.lt_of_lt_of_le h0 h1
  · obtain ⟨m, rfl⟩ : ∃ m, L = m + 8 := ⟨L - 8, by omega⟩
    rw [← oI_l (i := m) 8 (v := 8) rfl, Int32.add_sub_cancel, oI_lt (by omega) (by omega)]
    omega
theorem back_run {xs : Nat → Int32} {L : Nat} {f23 : Int32 → Sto → Option Int32} {x4 y1 : Int32} {A : Ab} {σ : Sto} (b1 : inb (x4 + 1) L) (b2 : inb (x4 + 2) L) (hy : y1 = if xs (x4 + 1).toNatClampNeg = 0 then 0 else 1) (h : Rel A σ) (hK : ∀ A' σ', Rel A' σ' → f23 (x4 + 8) σ' = some 1) : mL_law_1081 xs L f23 x4 y1 σ = some 1 := by
  obtain ⟨k, σ1, b, σ2, e1, e2, e3, e4, A', e5⟩ := op_back y1 (xs (x4 + 2).toNatClampNeg) A σ h
  have e : mL_law_1108 xs L f23 x4 k y1 σ1 = some 1 := by
    unfold mL_law_1108
    rw [if_pos b2, e2, bd2_some, if_pos (show mX12_thrown σ2 = k from e3)]
    by_cases q : k = 0
    · have e' := e4 q
      unfold bZ at e'
      rw [if_pos q]
      by_cases q2 : b = 0
      · rw [if_pos q2] at e'
        rw [if_pos q2]
        unfold mL_law_1148
        exact (if_pos (cmp_self e')).trans (hK A' σ2 e5)
      · rw [if_neg q2] at e'
        rw [if_neg q2]
        unfold mL_law_1148
        exact (if_pos (cmp_self e')).trans (hK A' σ2 e5)
    · rw [if_neg q]
      exact hK A' σ2 e5
  unfold mL_law_1081
  rw [if_pos b2, e1, bd2_some, if_pos b1]
  by_cases q : xs (x4 + 1).toNatClampNeg = 0
  · rw [if_pos q] at hy
    rw [hy] at e
    rw [if_pos q]; exact e
  · rw [if_neg q] at hy
    rw [hy] at e
    rw [if_neg q]; exact e
set_option maxHeartbeats 4000000 in
set_option maxRecDepth 100000 in
theorem law_step {xs : Nat → Int32} {L : Nat} {f23 : Int32 → Sto → Option Int32} {i : Nat} {A : Ab} {σ : Sto} (hL : L ≤ 4096) (hi : i + 8 ≤ L) (h : Rel A σ) (hK : ∀ A' σ', Rel A' σ' → f23 (Int32.ofNat (i + 8)) σ' = some 1) : mL_law_23B xs L f23 (Int32.ofNat i) σ = some 1 := by
  rw [← oI_l 8 (v := 8) rfl] at hK
  have b0 : inb (Int32.ofNat i) L := oI_inb (j := i) (n := L) (by omega) (by omega)
  have b : ∀ c, c < 8 → ∀ v, v = Int32.ofNat c → inb (Int32.ofNat i + v) L := fun c hc v hv => by
    rw [oI_l c hv]
    exact oI_inb (j := i + c) (n := L) (by omega) (by omega)
  have b1 : inb (Int32.ofNat i + 1) L := b 1 (by decide) _ rfl
  have b2 : inb (Int32.ofNat i + 2) L := b 2 (by decide) _ rfl
  have b3 : inb (Int32.ofNat i + 3) L := b 3 (by decide) _ rfl
  have b4 : inb (Int32.ofNat i + 4) L := b 4 (by decide) _ rfl
  have b5 : inb (Int32.ofNat i + 5) L := b 5 (by decide) _ rfl
  have b6 : inb (Int32.ofNat i + 6) L := b 6 (by decide) _ rfl
  have b7 : inb (Int32.ofNat i + 7) L := b 7 (by decide) _ rfl
  generalize hx : Int32.ofNat i = x4 at *
  unfold mL_law_23B
  rw [if_neg (fun q => by rw [← hx] at q; have := (end_iff hL (by omega)).mp q; omega)]
  refine if_some1 b0 ?_
  refine if_case (fun _ => ?_) (fun _ => ?_)
  · exact run_q (op_land) (K := f23 (x4 + 8)) h hK
  refine if_case (fun _ => ?_) (fun _ => ?_)
  · refine if_some1 b1 ?_
    refine if_some1 b2 ?_
    refine if_some1 b3 ?_
    exact run_b (op_rate _ _ _) (K := f23 (x4 + 8)) (T := mL_law_259 xs L f23 x4) (fun _ _ _ => rfl) h hK
  refine if_case (fun _ => ?_) (fun _ => ?_)
  · refine if_some1 b1 ?_
    refine if_some1 b2 ?_
    exact run_i (op_person _ _) (K := f23 (x4 + 8)) h hK
  refine if_case (fun _ => ?_) (fun _ => ?_)
  · refine if_some1 b1 ?_
    refine if_some1 b2 ?_
    refine if_some1 b3 ?_
    refine if_some1 b4 ?_
    refine if_some1 b5 ?_
    refine if_some1 b6 ?_
    exact run_i (op_work _ _ _ _ _ _) (K := f23 (x4 + 8)) h hK
  refine if_case (fun _ => ?_) (fun _ => ?_)
  · refine if_some1 b1 ?_
    refine if_some1 b2 ?_
    refine if_some1 b3 ?_
    exact run_i (op_joins _ _ _) (K := f23 (x4 + 8)) h hK
  refine if_case (fun _ => ?_) (fun _ => ?_)
  · refine if_some1 b1 ?_
    refine if_some1 b2 ?_
    exact run_i (op_society _ _) (K := f23 (x4 + 8)) h hK
  refine if_case (fun _ => ?_) (fun _ => ?_)
  · refine if_some1 b1 ?_
    exact run_i (op_evenings _) (K := f23 (x4 + 8)) h hK
  refine if_case (fun _ => ?_) (fun _ => ?_)
  · refine if_some1 b1 ?_
    refine if_some1 b2 ?_
    refine if_some1 b3 ?_
    exact run_i (op_death _ _ _) (K := f23 (x4 + 8)) h hK
  refine if_case (fun _ => ?_) (fun _ => ?_)
  · refine if_some1 b1 ?_
    refine if_some1 b2 ?_
    refine if_some1 b3 ?_
    refine if_some1 b4 ?_
    exact run_i (op_heir _ _ _ _) (K := f23 (x4 + 8)) h hK
  refine if_case (fun _ => ?_) (fun _ => ?_)
  · refine if_some1 b1 ?_
    refine if_some1 b2 ?_
    refine if_some1 b3 ?_
    refine if_some1 b4 ?_
    refine if_some1 b5 ?_
    refine if_some1 b6 ?_
    refine if_some1 b7 ?_
    exact run_i (op_sale _ _ _ _ _ _ _) (K := f23 (x4 + 8)) h hK
  refine if_case (fun _ => ?_) (fun _ => ?_)
  · refine if_some1 b1 ?_
    refine if_some1 b2 ?_
    refine if_some1 b3 ?_
    refine if_some1 b4 ?_
    refine if_some1 b5 ?_
    exact run_i (op_fact _ _ _ _ _) (K := f23 (x4 + 8)) h hK
  refine if_case (fun _ => ?_) (fun _ => ?_)
  · refine if_some1 b1 ?_
    refine if_case (fun q => ?_) (fun q => ?_)
    · exact back_run b1 b2 (if_pos q).symm h hK
    · exact back_run b1 b2 (if_neg q).symm h hK
  refine if_case (fun _ => ?_) (fun _ => ?_)
  · refine if_some1 b1 ?_
    refine if_some1 b2 ?_
    exact run_b (op_claim _ _) (K := f23 (x4 + 8)) (T := mL_law_1223 xs L f23 x4) (fun _ _ _ => rfl) h hK
  refine if_case (fun _ => ?_) (fun _ => ?_)
  · refine if_some1 b1 ?_
    refine if_some1 b2 ?_
    refine if_some1 b3 ?_
    refine if_some1 b4 ?_
    refine if_some1 b5 ?_
    exact run_q (op_feed _ _ _ _ _) (K := f23 (x4 + 8)) h hK
  refine if_case (fun _ => ?_) (fun _ => ?_)
  · refine if_some1 b1 ?_
    refine if_some1 b2 ?_
    refine if_some1 b3 ?_
    exact run_i (op_law _ _ _) (K := f23 (x4 + 8)) h hK
  refine if_case (fun _ => ?_) (fun _ => ?_)
  · obtain ⟨v, σ1, σ2, e1, e2, A', e3⟩ := op_fault A σ h
    cases e1
    rw [e2, bd2_some, if_pos rfl]
    exact hK A' σ2 e3
  refine if_case (fun _ => ?_) (fun _ => ?_)
  · refine if_some1 b1 ?_
    refine if_some1 b2 ?_
    refine if_some1 b3 ?_
    exact run_i (op_sold _ _ _) (K := f23 (x4 + 8)) h hK
  refine if_case (fun _ => ?_) (fun _ => ?_)
  · refine if_some1 b1 ?_
    refine if_some1 b2 ?_
    refine if_some1 b3 ?_
    refine if_some1 b4 ?_
    exact run_i (op_has _ _ _ _) (K := f23 (x4 + 8)) h hK
  refine if_case (fun _ => ?_) (fun _ => ?_)
  · refine if_some1 b1 ?_
    refine if_some1 b2 ?_
    refine if_some1 b3 ?_
    exact run_j (op_gets _ _ _) (K := f23 (x4 + 8)) h hK
  refine if_case (fun _ => ?_) (fun _ => ?_)
  · refine if_some1 b1 ?_
    refine if_some1 b2 ?_
    refine if_some1 b3 ?_
    refine if_some1 b4 ?_
    exact run_j (op_owes _ _ _ _) (K := f23 (x4 + 8)) h hK
  refine if_case (fun _ => ?_) (fun _ => ?_)
  · refine if_some1 b1 ?_
    refine if_some1 b2 ?_
    refine if_some1 b3 ?_
    exact run_j (op_net _ _ _) (K := f23 (x4 + 8)) h hK
  refine if_case (fun _ => ?_) (fun _ => ?_)
  · refine if_some1 b1 ?_
    refine if_some1 b2 ?_
    exact run_i (op_payments _ _) (K := f23 (x4 + 8)) h hK
  refine if_case (fun _ => ?_) (fun _ => ?_)
  · refine if_some1 b1 ?_
    refine if_some1 b2 ?_
    refine if_some1 b3 ?_
    refine if_some1 b4 ?_
    exact run_i (op_again _ _ _ _) (K := f23 (x4 + 8)) h hK
  refine if_case (fun _ => ?_) (fun _ => ?_)
  · refine if_some1 b1 ?_
    refine if_some1 b2 ?_
    refine if_some1 b3 ?_
    exact run_i (op_with _ _ _) (K := f23 (x4 + 8)) h hK
  refine if_case (fun _ => ?_) (fun _ => ?_)
  · refine if_some1 b1 ?_
    refine if_some1 b2 ?_
    refine if_some1 b3 ?_
    refine if_some1 b4 ?_
    exact run_i (op_hidden _ _ _ _) (K := f23 (x4 + 8)) h hK
  refine if_case (fun _ => ?_) (fun _ => ?_)
  · refine if_some1 b1 ?_
    refine if_some1 b2 ?_
    refine if_some1 b3 ?_
    exact run_i (op_attempt _ _ _) (K := f23 (x4 + 8)) h hK
  refine if_case (fun _ => ?_) (fun _ => ?_)
  · refine if_some1 b1 ?_
    exact run_j (op_more _) (K := f23 (x4 + 8)) h hK
  refine if_case (fun _ => ?_) (fun _ => ?_)
  · refine if_some1 b1 ?_
    exact run_i (op_count _) (K := f23 (x4 + 8)) h hK
  exact hK A σ h
theorem law_all {xs : Nat → Int32} {L : Nat} (hL : L ≤ 4096) : ∀ n i A σ, i ≤ 4200 → Rel A σ → L < i + 8 * (n + 1) → mL_law_23 xs L (n + 1) (Int32.ofNat i) σ = some 1
  | 0, i, A, σ, hi, h, hn => by
    refine Eq.trans (b := mL_law_23B xs L (mL_law_23 xs L 0) (Int32.ofNat i) σ) rfl ?_
    unfold mL_law_23B
    rw [if_pos ((end_iff hL (by omega)).mpr (by omega))]
  | n + 1, i, A, σ, hi, h, hn => by
    refine Eq.trans (b := mL_law_23B xs L (mL_law_23 xs L (n + 1)) (Int32.ofNat i) σ) rfl ?_
    by_cases c : L < i + 8
    · unfold mL_law_23B
      rw [if_pos ((end_iff hL (by omega)).mpr c)]
    · exact law_step hL (by omega) h (fun A' σ' h' => law_all hL n (i + 8) A' σ' (by omega) h' (by omega))
theorem law_true {xs : Nat → Int32} {L : Nat} (hL : L ≤ 4096) : mL_law_23 xs L 513 0 sS = some 1 := law_all hL 512 0 A0 sS (by decide) rel_0 (by omega)
