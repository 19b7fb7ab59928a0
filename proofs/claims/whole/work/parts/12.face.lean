def mX11_land (σ : Sto) : Option (Int32 × Sto) :=
  if (sI σ 33 1) < (6 : Int32) then (
    stp (wI σ 33 1 ((sI σ 33 1) + (1 : Int32))) fun σ2 =>
    some (((sI σ2 33 1) - (1 : Int32)), σ2)
  ) else (
    some ((-1 : Int32), σ)
  )
def mX11_needLand (p0 : Int32) (σ : Sto) : Option (Nat ⊕ Unit) :=
  if (mX11_isWithin p0 (0 : Int32) ((sI σ 33 1) - (1 : Int32)) σ) = 0 then (
    some (.inl 0)
  ) else (
    some (.inr ())
  )
def mX11_isDay (p0 : Int32) (σ : Sto) : Int32 :=
  (mX11_isWithin p0 (0 : Int32) (36499 : Int32) σ)
theorem bX11_isDay (p0 : Int32) (σ : Sto) : isB (mX11_isDay p0 σ) := by
  unfold mX11_isDay
  repeat' split
  all_goals first | exact Or.inl rfl | exact Or.inr rfl | exact bX11_isWithin _ _ _ _
def mX11_rate (p0 : Int32) (p1 : Int32) (p2 : Int32) (σ : Sto) : Option (Nat ⊕ (Int32 × Sto)) :=
  bdp (mX11_needLand p0 σ) fun u1 =>
  if (60 : Int32) ≤ (sI σ 33 9) then (
    some (.inr ((0 : Int32), σ))
  ) else (
    if (mX11_isDay p1 σ) = 0 then (
      some (.inr ((0 : Int32), σ))
    ) else (
      if (mX11_isWithin p2 (1 : Int32) (99999 : Int32) σ) = 0 then (
        some (.inr ((0 : Int32), σ))
      ) else (
        stp (nwK σ (6 + 1) 0) fun σ7 =>
        (mX6_init (sZ σ) p0 p1 p2 σ7).bind fun σ9 =>
        if inb (sI σ 33 9) 61 then
        if sK σ9 (sZ σ) = 7 then
        stp (wR σ9 37 ((sI σ 33 9)).toNatClampNeg (sZ σ)) fun σ12 =>
        stp (wI σ12 33 9 ((sI σ12 33 9) + (1 : Int32))) fun σ14 =>
        some (.inr ((1 : Int32), σ14))
        else none
        else none
      )
    )
  )
def mX11_person (p0 : Int32) (p1 : Int32) (σ : Sto) : Option (Nat ⊕ (Int32 × Sto)) :=
  bdp (mX11_needLand p0 σ) fun u1 =>
  if (30 : Int32) ≤ (sI σ 33 3) then (
    some (.inr ((-1 : Int32), σ))
  ) else (
    if (mX11_isWithin p1 (0 : Int32) (2 : Int32) σ) = 0 then (
      some (.inr ((-1 : Int32), σ))
    ) else (
      stp (nwK σ (5 + 1) 0) fun σ5 =>
      (mX5_init (sZ σ) p0 p1 σ5).bind fun σ7 =>
      if inb (sI σ 33 3) 31 then
      if sK σ7 (sZ σ) = 6 then
      stp (wR σ7 34 ((sI σ 33 3)).toNatClampNeg (sZ σ)) fun σ10 =>
      stp (wI σ10 33 3 ((sI σ10 33 3) + (1 : Int32))) fun σ12 =>
      some (.inr (((sI σ12 33 3) - (1 : Int32)), σ12))
      else none
      else none
    )
  )
def mX11_needPerson (p0 : Int32) (σ : Sto) : Option (Nat ⊕ Unit) :=
  if (mX11_isWithin p0 (0 : Int32) ((sI σ 33 3) - (1 : Int32)) σ) = 0 then (
    some (.inl 0)
  ) else (
    some (.inr ())
  )
def mX11_work_65 (x1 : Int32) (x2 : Int32) (x3 : Int32) (x4 : Int32) (x5 : Int32) (x6 : Int32) (y0 : Int32) (σ : Sto) : Option (Nat ⊕ (Int32 × Sto)) :=
  if (30 : Int32) ≤ (sI σ 33 5) then (
    some (.inr ((-1 : Int32), σ))
  ) else (
    if y0 = 0 then (
      some (.inr ((-1 : Int32), σ))
    ) else (
      stp (nwK σ (9 + 1) 0) fun σ6 =>
      (mX10_init (sZ σ) x3 x4 x5 x6 σ6).bind fun σ8 =>
      if sK σ8 (sZ σ) = 10 then
      (mX10_addArtist (sZ σ) x1 x2 σ8).bind fun σ9 =>
      if inb (sI σ9 33 5) 31 then
      if sK σ9 (sZ σ) = 10 then
      stp (wR σ9 35 ((sI σ9 33 5)).toNatClampNeg (sZ σ)) fun σ13 =>
      stp (wI σ13 33 5 ((sI σ13 33 5) + (1 : Int32))) fun σ15 =>
      some (.inr (((sI σ15 33 5) - (1 : Int32)), σ15))
      else none
      else none
      else none
    )
  )
def mX11_work_64 (x1 : Int32) (x2 : Int32) (x3 : Int32) (x4 : Int32) (x5 : Int32) (x6 : Int32) (σ : Sto) : Option (Nat ⊕ (Int32 × Sto)) :=
  mX11_work_65 x1 x2 x3 x4 x5 x6 (0 : Int32) σ
def mX11_work (p0 : Int32) (p1 : Int32) (p2 : Int32) (p3 : Int32) (p4 : Int32) (p5 : Int32) (σ : Sto) : Option (Nat ⊕ (Int32 × Sto)) :=
  bdp (mX11_needPerson p0 σ) fun u1 =>
  if (mX11_isWithin p1 (1 : Int32) (9 : Int32) σ) = 0 then (
    mX11_work_64 p0 p1 p2 p3 p4 p5 σ
  ) else (
    if (mX11_isWithin p2 (1 : Int32) (99 : Int32) σ) = 0 then (
      mX11_work_64 p0 p1 p2 p3 p4 p5 σ
    ) else (
      if (mX11_isWithin p3 (0 : Int32) (65535 : Int32) σ) = 0 then (
        mX11_work_64 p0 p1 p2 p3 p4 p5 σ
      ) else (
        if (mX11_isWithin p4 (1 : Int32) (999 : Int32) σ) = 0 then (
          mX11_work_64 p0 p1 p2 p3 p4 p5 σ
        ) else (
          if (mX11_isWithin p5 (1 : Int32) (999 : Int32) σ) = 0 then (
            mX11_work_64 p0 p1 p2 p3 p4 p5 σ
          ) else (
            mX11_work_65 p0 p1 p2 p3 p4 p5 (1 : Int32) σ
          )
        )
      )
    )
  )
def mX11_needWork (p0 : Int32) (σ : Sto) : Option (Nat ⊕ Unit) :=
  if (mX11_isWithin p0 (0 : Int32) ((sI σ 33 5) - (1 : Int32)) σ) = 0 then (
    some (.inl 0)
  ) else (
    some (.inr ())
  )
def mX11_joins_54 (x2 : Int32) (x3 : Int32) (x4 : Nat) (y0 : Int32) (σ : Sto) : Option (Nat ⊕ (Int32 × Sto)) :=
  if y0 = 0 then (
    some (.inr ((-1 : Int32), σ))
  ) else (
    if (mX11_isWithin x3 (1 : Int32) (9 : Int32) σ) = 0 then (
      some (.inr ((-1 : Int32), σ))
    ) else (
      if sK σ x4 = 10 then
      (mX10_addArtist x4 x2 x3 σ).bind fun σ9 =>
      if sK σ9 x4 = 10 then
      some (.inr ((sI σ9 x4 6), σ9))
      else none
      else none
    )
  )
def mX11_joins_53 (x2 : Int32) (x3 : Int32) (x4 : Nat) (σ : Sto) : Option (Nat ⊕ (Int32 × Sto)) :=
  mX11_joins_54 x2 x3 x4 (0 : Int32) σ
def mX11_joins (p0 : Int32) (p1 : Int32) (p2 : Int32) (σ : Sto) : Option (Nat ⊕ (Int32 × Sto)) :=
  bdp (mX11_needWork p0 σ) fun u1 =>
  bdp (mX11_needPerson p1 σ) fun u2 =>
  (mX1_workAt p0 σ).bind fun v3 =>
  if sK σ v3 = 10 then
  if (3 : Int32) ≤ (sI σ v3 6) then (
    mX11_joins_53 p1 p2 v3 σ
  ) else (
    (mX10_isBy v3 p1 σ).bind fun v12 =>
    if v12 = 0 then (
      (mX1_wasEverSold p0 σ).bind fun v14 =>
      if v14 = 0 then (
        mX11_joins_54 p1 p2 v3 (1 : Int32) σ
      ) else (
        mX11_joins_53 p1 p2 v3 σ
      )
    ) else (
      mX11_joins_53 p1 p2 v3 σ
    )
  )
  else none
def mX11_society (p0 : Int32) (p1 : Int32) (σ : Sto) : Option (Nat ⊕ (Int32 × Sto)) :=
  bdp (mX11_needLand p0 σ) fun u1 =>
  if (5 : Int32) ≤ (sI σ 33 7) then (
    some (.inr ((-1 : Int32), σ))
  ) else (
    if (mX11_isWithin p1 (0 : Int32) (300 : Int32) σ) = 0 then (
      some (.inr ((-1 : Int32), σ))
    ) else (
      stp (nwK σ (8 + 1) 0) fun σ5 =>
      (mX8_init (sZ σ) p0 p1 σ5).bind fun σ7 =>
      if inb (sI σ 33 7) 6 then
      if sK σ7 (sZ σ) = 9 then
      stp (wR σ7 36 ((sI σ 33 7)).toNatClampNeg (sZ σ)) fun σ10 =>
      stp (wI σ10 33 7 ((sI σ10 33 7) + (1 : Int32))) fun σ12 =>
      some (.inr (((sI σ12 33 7) - (1 : Int32)), σ12))
      else none
      else none
    )
  )
def mX11_evenings_19 (σ : Sto) : Option (Nat ⊕ (Int32 × Sto)) :=
  some (.inl 1)
def mX11_evenings (p0 : Int32) (σ : Sto) : Option (Nat ⊕ (Int32 × Sto)) :=
  if p0 < 0 then (
    mX11_evenings_19 σ
  ) else (
    if p0 ≤ ((999 : Int32) - (sI σ 33 0)) then (
      stp (wI σ 33 0 ((sI σ 33 0) + p0)) fun σ3 =>
      some (.inr ((sI σ3 33 0), σ3))
    ) else (
      mX11_evenings_19 σ
    )
  )
def mX11_death (p0 : Int32) (p1 : Int32) (p2 : Int32) (σ : Sto) : Option (Nat ⊕ (Int32 × Sto)) :=
  bdp (mX11_needPerson p0 σ) fun u1 =>
  if (mX1_hasAllFacts σ) = 0 then (
    if (mX11_isDay p1 σ) = 0 then (
      some (.inr ((-1 : Int32), σ))
    ) else (
      if (mX11_isDay p2 σ) = 0 then (
        some (.inr ((-1 : Int32), σ))
      ) else (
        if p1 ≤ p2 then (
          stp (nwK σ (3 + 1) 0) fun σ9 =>
          (mX3_init (sZ σ) (0 : Int32) (-1 : Int32) p0 (-1 : Int32) p1 (sI σ9 33 0) σ9).bind fun σ11 =>
          if sK σ11 (sZ σ) = 4 then
          stp (wI σ11 (sZ σ) 7 p2) fun σ13 =>
          bd2 (mX1_addFact (sZ σ) σ13) fun v15 σ15 =>
          some (.inr (v15, σ15))
          else none
        ) else (
          some (.inr ((-1 : Int32), σ))
        )
      )
    )
  ) else (
    some (.inr ((-1 : Int32), σ))
  )
def mX11_heir (p0 : Int32) (p1 : Int32) (p2 : Int32) (p3 : Int32) (σ : Sto) : Option (Nat ⊕ (Int32 × Sto)) :=
  bdp (mX11_needPerson p0 σ) fun u1 =>
  bdp (mX11_needPerson p1 σ) fun u2 =>
  if (mX1_hasAllFacts σ) = 0 then (
    if p0 = p1 then (
      some (.inr ((-1 : Int32), σ))
    ) else (
      if (mX11_isWithin p3 (1 : Int32) (12 : Int32) σ) = 0 then (
        some (.inr ((-1 : Int32), σ))
      ) else (
        if (mX11_isWithin p2 (1 : Int32) p3 σ) = 0 then (
          some (.inr ((-1 : Int32), σ))
        ) else (
          (mX1_inheritedOf p0 σ).bind fun v10 =>
          (mX11_twelfths p2 p3 σ).bind fun v11 =>
          if (v10 + v11) ≤ (27720 : Int32) then (
            stp (nwK σ (3 + 1) 0) fun σ13 =>
            (mX3_init (sZ σ) (1 : Int32) (-1 : Int32) p0 p1 (-1 : Int32) (sI σ13 33 0) σ13).bind fun σ15 =>
            if sK σ15 (sZ σ) = 4 then
            stp (wI σ15 (sZ σ) 8 p2) fun σ17 =>
            stp (wI σ17 (sZ σ) 9 p3) fun σ19 =>
            bd2 (mX1_addFact (sZ σ) σ19) fun v21 σ21 =>
            some (.inr (v21, σ21))
            else none
          ) else (
            some (.inr ((-1 : Int32), σ))
          )
        )
      )
    )
  ) else (
    some (.inr ((-1 : Int32), σ))
  )
def mX11_sale_60 (x1 : Int32) (x2 : Int32) (x3 : Int32) (x4 : Int32) (x5 : Int32) (x6 : Int32) (x7 : Int32) (y0 : Int32) (σ : Sto) : Option (Nat ⊕ (Int32 × Sto)) :=
  if (mX1_hasAllFacts σ) = 0 then (
    if y0 = 0 then (
      some (.inr ((-1 : Int32), σ))
    ) else (
      stp (nwK σ (3 + 1) 0) fun σ9 =>
      (mX3_init (sZ σ) (2 : Int32) x1 x2 x3 x4 (sI σ9 33 0) σ9).bind fun σ11 =>
      if sK σ11 (sZ σ) = 4 then
      stp (wI σ11 (sZ σ) 10 x5) fun σ13 =>
      stp (wI σ13 (sZ σ) 11 x6) fun σ15 =>
      stp (wI σ15 (sZ σ) 12 x7) fun σ17 =>
      bd2 (mX1_addFact (sZ σ) σ17) fun v19 σ19 =>
      some (.inr (v19, σ19))
      else none
    )
  ) else (
    some (.inr ((-1 : Int32), σ))
  )
def mX11_sale_59 (x1 : Int32) (x2 : Int32) (x3 : Int32) (x4 : Int32) (x5 : Int32) (x6 : Int32) (x7 : Int32) (σ : Sto) : Option (Nat ⊕ (Int32 × Sto)) :=
  mX11_sale_60 x1 x2 x3 x4 x5 x6 x7 (0 : Int32) σ
def mX11_sale (p0 : Int32) (p1 : Int32) (p2 : Int32) (p3 : Int32) (p4 : Int32) (p5 : Int32) (p6 : Int32) (σ : Sto) : Option (Nat ⊕ (Int32 × Sto)) :=
  bdp (mX11_needWork p0 σ) fun u1 =>
  bdp (mX11_needPerson p1 σ) fun u2 =>
  bdp (mX11_needPerson p2 σ) fun u3 =>
  bdp (mX11_needLand p4 σ) fun u4 =>
  if p1 = p2 then (
    mX11_sale_59 p0 p1 p2 p3 p4 p5 p6 σ
  ) else (
    if (mX11_isDay p3 σ) = 0 then (
      mX11_sale_59 p0 p1 p2 p3 p4 p5 p6 σ
    ) else (
      if (mX11_isWithin p5 (1 : Int32) (20000000 : Int32) σ) = 0 then (
        mX11_sale_59 p0 p1 p2 p3 p4 p5 p6 σ
      ) else (
        if (mX11_isWithin p6 (0 : Int32) (3 : Int32) σ) = 0 then (
          mX11_sale_59 p0 p1 p2 p3 p4 p5 p6 σ
        ) else (
          mX11_sale_60 p0 p1 p2 p3 p4 p5 p6 (1 : Int32) σ
        )
      )
    )
  )
def mX11_needSociety (p0 : Int32) (σ : Sto) : Option (Nat ⊕ Unit) :=
  if (mX11_isWithin p0 (0 : Int32) ((sI σ 33 7) - (1 : Int32)) σ) = 0 then (
    some (.inl 0)
  ) else (
    some (.inr ())
  )
def mX11_fact_108 (x1 : Int32) (x3 : Int32) (x5 : Int32) (x6 : Int32) (y0 : Int32) (σ : Sto) : Option (Nat ⊕ (Int32 × Sto)) :=
  stp (nwK σ (3 + 1) 0) fun σ14 =>
  (mX3_init (sZ σ) x1 y0 x3 x6 x5 (sI σ14 33 0) σ14).bind fun σ16 =>
  bd2 (mX1_addFact (sZ σ) σ16) fun v17 σ17 =>
  some (.inr (v17, σ17))
def mX11_fact_96 (x1 : Int32) (x2 : Int32) (x3 : Int32) (x5 : Int32) (y0 : Int32) (σ : Sto) : Option (Nat ⊕ (Int32 × Sto)) :=
  if x1 = (5 : Int32) then (
    mX11_fact_108 x1 x3 x5 y0 (-1 : Int32) σ
  ) else (
    mX11_fact_108 x1 x3 x5 y0 x2 σ
  )
def mX11_fact_85 (x1 : Int32) (x2 : Int32) (x3 : Int32) (x4 : Int32) (x5 : Int32) (σ : Sto) : Option (Nat ⊕ (Int32 × Sto)) :=
  if x1 = (4 : Int32) then (
    mX11_fact_96 x1 x2 x3 x5 x3 σ
  ) else (
    mX11_fact_96 x1 x2 x3 x5 x4 σ
  )
def mX11_fact_54 (x1 : Int32) (x2 : Int32) (x3 : Int32) (x4 : Int32) (x5 : Int32) (σ : Sto) : Option (Nat ⊕ (Int32 × Sto)) :=
  if (mX1_hasAllFacts σ) = 0 then (
    if (mX11_isDay x5 σ) = 0 then (
      some (.inr ((-1 : Int32), σ))
    ) else (
      if x1 = (3 : Int32) then (
        if x3 = x4 then (
          some (.inr ((-1 : Int32), σ))
        ) else (
          mX11_fact_85 x1 x2 x3 x4 x5 σ
        )
      ) else (
        mX11_fact_85 x1 x2 x3 x4 x5 σ
      )
    )
  ) else (
    some (.inr ((-1 : Int32), σ))
  )
def mX11_fact_43 (x1 : Int32) (x2 : Int32) (x3 : Int32) (x4 : Int32) (x5 : Int32) (σ : Sto) : Option (Nat ⊕ (Int32 × Sto)) :=
  if x1 = (3 : Int32) then (
    bdp (mX11_needPerson x4 σ) fun u19 =>
    mX11_fact_54 x1 x2 x3 x4 x5 σ
  ) else (
    mX11_fact_54 x1 x2 x3 x4 x5 σ
  )
def mX11_fact (p0 : Int32) (p1 : Int32) (p2 : Int32) (p3 : Int32) (p4 : Int32) (σ : Sto) : Option (Nat ⊕ (Int32 × Sto)) :=
  if (mX11_isWithin p0 (3 : Int32) (5 : Int32) σ) = 0 then (
    some (.inl 0)
  ) else (
    bdp (mX11_needPerson p2 σ) fun u3 =>
    if p0 = (5 : Int32) then (
      bdp (mX11_needSociety p3 σ) fun u20 =>
      mX11_fact_43 p0 p1 p2 p3 p4 σ
    ) else (
      bdp (mX11_needWork p1 σ) fun u5 =>
      mX11_fact_43 p0 p1 p2 p3 p4 σ
    )
  )
def mX11_back_64 (y0 : Nat) (σ : Sto) : Option (Nat ⊕ (Int32 × Sto)) :=
  if sK σ y0 = 4 then (
    if (sI σ y0 1) = (1000000 : Int32) then (
      stp (wI σ y0 1 (sI σ 33 0)) fun σ8 =>
      some (.inr ((1 : Int32), σ8))
    ) else (
      some (.inr ((0 : Int32), σ))
    )
  ) else (
    if sK σ y0 = 5 then
    if (sI σ y0 1) = (1000000 : Int32) then (
      stp (wI σ y0 1 (sI σ 33 0)) fun σ11 =>
      some (.inr ((1 : Int32), σ11))
    ) else (
      some (.inr ((0 : Int32), σ))
    )
    else none
  )
def mX11_back_23 (x1 : Int32) (x2 : Int32) (y0 : Int32) (y1 : Int32) (y2 : Int32) (σ : Sto) : Option (Nat ⊕ (Int32 × Sto)) :=
  if (mX11_isWithin y0 y1 (y2 - (1 : Int32)) σ) = 0 then (
    some (.inl 0)
  ) else (
    if x1 = 0 then (
      (mX1_factAt x2 σ).bind fun v5 =>
      mX11_back_64 v5 σ
    ) else (
      (mX1_lawAt x2 σ).bind fun v13 =>
      mX11_back_64 v13 σ
    )
  )
def mX11_back (p0 : Int32) (p1 : Int32) (σ : Sto) : Option (Nat ⊕ (Int32 × Sto)) :=
  if p0 = 0 then (
    mX11_back_23 p0 p1 p1 (0 : Int32) (sI σ 33 11) σ
  ) else (
    mX11_back_23 p0 p1 p1 (0 : Int32) (sI σ 33 15) σ
  )
def mX11_needSale (p0 : Int32) (σ : Sto) : Option (Nat ⊕ Unit) :=
  (mX1_factAt p0 σ).bind fun v1 =>
  if sK σ v1 = 4 then
  if (sI σ v1 2) = (2 : Int32) then (
    some (.inr ())
  ) else (
    some (.inl 0)
  )
  else none
def mX11_claim (p0 : Int32) (p1 : Int32) (σ : Sto) : Option (Nat ⊕ (Int32 × Sto)) :=
  bdp (mX11_needPerson p0 σ) fun u1 =>
  bdp (mX11_needSale p1 σ) fun u2 =>
  if (200 : Int32) ≤ (sI σ 33 13) then (
    some (.inr ((0 : Int32), σ))
  ) else (
    (mX1_claimOf p0 p1 σ).bind fun v4 =>
    if v4 = (-1 : Int32) then (
      stp (nwK σ (3 + 1) 0) fun σ6 =>
      (mX3_init (sZ σ) (6 : Int32) p1 p0 (-1 : Int32) (-1 : Int32) (sI σ6 33 0) σ6).bind fun σ8 =>
      if inb (sI σ 33 13) 201 then
      if sK σ8 (sZ σ) = 4 then
      stp (wR σ8 39 ((sI σ 33 13)).toNatClampNeg (sZ σ)) fun σ11 =>
      stp (wI σ11 33 13 ((sI σ11 33 13) + (1 : Int32))) fun σ13 =>
      some (.inr ((1 : Int32), σ13))
      else none
      else none
    ) else (
      some (.inr ((0 : Int32), σ))
    )
  )
def mX11_putBytes_3B (f3 : Int32 → Int32 → Sto → Option Sto) (x1 : Int32) (x2 : Int32) (σ : Sto) : Option Sto :=
  if x2 < 0 then (
    some σ
  ) else (
    if (500 : Int32) ≤ (sI σ 32 5) then (
      some σ
    ) else (
      if inb (sI σ 32 5) 500 then
      stp (wI σ 74 ((sI σ 32 5)).toNatClampNeg ((x1 >>> (x2 &&& 31)) &&& (255 : Int32))) fun σ4 =>
      stp (wI σ4 32 5 ((sI σ4 32 5) + (1 : Int32))) fun σ5 =>
      f3 x1 (x2 + (-8 : Int32)) σ5
      else none
    )
  )
def mX11_putBytes_3 : Nat → Int32 → Int32 → Sto → Option Sto
  | 0, _, _, _ => none
  | n + 1, x1, x2, σ => mX11_putBytes_3B (mX11_putBytes_3 n) x1 x2 σ
def mX11_putBytes (p0 : Int32) (σ : Sto) : Option Sto :=
  mX11_putBytes_3 FU p0 (24 : Int32) σ
def mX11_feed (p0 : Int32) (p1 : Int32) (p2 : Int32) (p3 : Int32) (p4 : Int32) (σ : Sto) : Option (Int32 × Sto) :=
  if (sI σ 32 5) ≤ (480 : Int32) then (
    (mX11_putBytes p0 σ).bind fun σ2 =>
    (mX11_putBytes p1 σ2).bind fun σ3 =>
    (mX11_putBytes p2 σ3).bind fun σ4 =>
    (mX11_putBytes p3 σ4).bind fun σ5 =>
    (mX11_putBytes p4 σ5).bind fun σ6 =>
    some ((sI σ6 32 5), σ6)
  ) else (
    some ((-1 : Int32), σ)
  )
def mX11_fault (σ : Sto) : Int32 :=
  (sI σ 32 6)
def mX11_needWhat (p0 : Int32) (p1 : Int32) (σ : Sto) : Option (Nat ⊕ Unit) :=
  if (mX11_isWithin p0 (0 : Int32) p1 σ) = 0 then (
    some (.inl 0)
  ) else (
    some (.inr ())
  )
def mX11_needEvening (p0 : Int32) (σ : Sto) : Option (Nat ⊕ Unit) :=
  if (mX11_isWithin p0 (0 : Int32) (sI σ 33 0) σ) = 0 then (
    some (.inl 1)
  ) else (
    some (.inr ())
  )
def mX11_sold (p0 : Int32) (p1 : Int32) (p2 : Int32) (σ : Sto) : Option (Nat ⊕ (Int32 × Sto)) :=
  bdp (mX11_needSale p0 σ) fun u1 =>
  bdp (mX11_needWhat p1 (7 : Int32) σ) fun u2 =>
  bdp (mX11_needEvening p2 σ) fun u3 =>
  (mX1_factAt p0 σ).bind fun v4 =>
  if sK σ v4 = 4 then
  (mX9_isKnownOn3 v4 p2 σ).bind fun v5 =>
  if v5 = 0 then (
    some (.inr ((-1 : Int32), σ))
  ) else (
    (mX0_open p2 σ).bind fun σ8 =>
    (mX0_settle v4 p0 σ8).bind fun σ9 =>
    if p1 = (0 : Int32) then (
      some (.inr ((sI σ9 53 7), σ9))
    ) else
    if p1 = (1 : Int32) then (
      if (sI σ9 53 10) = 0 then (
        some (.inr ((0 : Int32), σ9))
      ) else (
        some (.inr ((1 : Int32), σ9))
      )
    ) else
    if p1 = (2 : Int32) then (
      some (.inr ((sI σ9 53 11), σ9))
    ) else
    if p1 = (3 : Int32) then (
      some (.inr ((sI σ9 53 12), σ9))
    ) else
    if p1 = (4 : Int32) then (
      if sK σ9 v4 = 4 then
      (mX1_collectorIn (sI σ9 v4 10) σ9).bind fun v17 =>
      some (.inr (v17, σ9))
      else none
    ) else
    if p1 = (5 : Int32) then (
      if sK σ9 v4 = 4 then
      (mX1_lawFor (sI σ9 v4 10) (sI σ9 v4 6) p2 σ9).bind fun v20 =>
      some (.inr (v20, σ9))
      else none
    ) else
    if p1 = (6 : Int32) then (
      some (.inr ((sI σ9 53 8), σ9))
    ) else
    (
    some (.inr ((sI σ9 53 9), σ9))
    )
  )
  else none
def mX11_has (p0 : Int32) (p1 : Int32) (p2 : Int32) (p3 : Int32) (σ : Sto) : Option (Nat ⊕ (Int32 × Sto)) :=
  bdp (mX11_needSale p0 σ) fun u1 =>
  bdp (mX11_needPerson p1 σ) fun u2 =>
  bdp (mX11_needWhat p2 (3 : Int32) σ) fun u3 =>
  bdp (mX11_needEvening p3 σ) fun u4 =>
  (mX1_factAt p0 σ).bind fun v5 =>
  if sK σ v5 = 4 then
  (mX9_isKnownOn3 v5 p3 σ).bind fun v6 =>
  if v6 = 0 then (
    some (.inr ((0 : Int32), σ))
  ) else (
    (mX0_open p3 σ).bind fun σ9 =>
    (mX0_settle v5 p0 σ9).bind fun σ10 =>
    if p2 = (0 : Int32) then (
      if inb p1 30 then
      some (.inr ((sI σ10 57 (p1).toNatClampNeg), σ10))
      else none
    ) else
    if p2 = (1 : Int32) then (
      if inb p1 30 then
      some (.inr ((sI σ10 58 (p1).toNatClampNeg), σ10))
      else none
    ) else
    if p2 = (2 : Int32) then (
      if inb p1 30 then
      some (.inr ((sI σ10 59 (p1).toNatClampNeg), σ10))
      else none
    ) else
    (
    if inb p1 30 then
    some (.inr ((sI σ10 62 (p1).toNatClampNeg), σ10))
    else none
    )
  )
  else none
def mX11_needYear (p0 : Int32) (σ : Sto) : Option (Nat ⊕ Unit) :=
  if (mX11_isWithin p0 (0 : Int32) (99 : Int32) σ) = 0 then (
    some (.inl 0)
  ) else (
    some (.inr ())
  )
def mX11_gets_29B (f29 : Int32 → Int32 → Int32 → Int64 → Int32 → Sto → Option (Nat ⊕ (Int64 × Sto))) (x1 : Int32) (x2 : Int32) (x3 : Int32) (x4 : Int64) (x6 : Int32) (σ : Sto) : Option (Nat ⊕ (Int64 × Sto)) :=
  if (sI σ 33 11) ≤ x6 then (
    some (.inr (x4, σ))
  ) else (
    (mX1_factAt x6 σ).bind fun v6 =>
    if sK σ v6 = 4 then
    (mX3_isSaleOf v6 x2 σ).bind fun v7 =>
    if v7 = 0 then (
      f29 x1 x2 x3 x4 (x6 + (1 : Int32)) σ
    ) else (
      (mX9_isKnownOn3 v6 x3 σ).bind fun v10 =>
      if v10 = 0 then (
        f29 x1 x2 x3 x4 (x6 + (1 : Int32)) σ
      ) else (
        (mX0_settle v6 x6 σ).bind fun σ12 =>
        if inb x1 30 then
        f29 x1 x2 x3 (x4 + ((sI σ12 62 (x1).toNatClampNeg)).toInt64) (x6 + (1 : Int32)) σ12
        else none
      )
    )
    else none
  )
def mX11_gets_29 : Nat → Int32 → Int32 → Int32 → Int64 → Int32 → Sto → Option (Nat ⊕ (Int64 × Sto))
  | 0, _, _, _, _, _, _ => none
  | n + 1, x1, x2, x3, x4, x6, σ => mX11_gets_29B (mX11_gets_29 n) x1 x2 x3 x4 x6 σ
def mX11_gets (p0 : Int32) (p1 : Int32) (p2 : Int32) (σ : Sto) : Option (Nat ⊕ (Int64 × Sto)) :=
  bdp (mX11_needPerson p0 σ) fun u1 =>
  bdp (mX11_needYear p1 σ) fun u2 =>
  bdp (mX11_needEvening p2 σ) fun u3 =>
  (mX0_open p2 σ).bind fun σ4 =>
  mX11_gets_29 FU p0 p1 p2 (0 : Int64) (0 : Int32) σ4
def mX11_owes (p0 : Int32) (p1 : Int32) (p2 : Int32) (p3 : Int32) (σ : Sto) : Option (Nat ⊕ (Int64 × Sto)) :=
  bdp (mX11_needSociety p0 σ) fun u1 =>
  bdp (mX11_needSociety p1 σ) fun u2 =>
  bdp (mX11_needYear p2 σ) fun u3 =>
  bdp (mX11_needEvening p3 σ) fun u4 =>
  (mX2_clear p2 p3 σ).bind fun σ5 =>
  (mX2_owed p0 p1 σ5).bind fun v6 =>
  some (.inr (v6, σ5))
def mX11_net (p0 : Int32) (p1 : Int32) (p2 : Int32) (σ : Sto) : Option (Nat ⊕ (Int64 × Sto)) :=
  bdp (mX11_needSociety p0 σ) fun u1 =>
  bdp (mX11_needYear p1 σ) fun u2 =>
  bdp (mX11_needEvening p2 σ) fun u3 =>
  (mX2_clear p1 p2 σ).bind fun σ4 =>
  (mX2_netOf p0 σ4).bind fun v5 =>
  some (.inr (v5, σ4))
def mX11_payments (p0 : Int32) (p1 : Int32) (σ : Sto) : Option (Nat ⊕ (Int32 × Sto)) :=
  bdp (mX11_needYear p0 σ) fun u1 =>
  bdp (mX11_needEvening p1 σ) fun u2 =>
  (mX2_clear p0 p1 σ).bind fun σ3 =>
  bd2 (mX2_fewestPayments σ3) fun v4 σ4 =>
  some (.inr (v4, σ4))
def mX11_again_22B (f22 : Int32 → Int32 → Int32 → Int32 → Int32 → Int32 → Sto → Option (Nat ⊕ Int32)) (x1 : Int32) (x2 : Int32) (x3 : Int32) (x4 : Int32) (x5 : Int32) (x6 : Int32) (σ : Sto) : Option (Nat ⊕ Int32) :=
  if (sI σ 33 5) ≤ x6 then (
    some (.inr x5)
  ) else (
    (mX1_workAt x6 σ).bind fun v3 =>
    if sK σ v3 = 10 then
    (mX10_mayBe v3 x1 x2 x3 x4 σ).bind fun v4 =>
    if v4 = 0 then (
      f22 x1 x2 x3 x4 x5 (x6 + (1 : Int32)) σ
    ) else (
      f22 x1 x2 x3 x4 (x5 ||| ((1 : Int32) <<< (x6 &&& 31))) (x6 + (1 : Int32)) σ
    )
    else none
  )
def mX11_again_22 : Nat → Int32 → Int32 → Int32 → Int32 → Int32 → Int32 → Sto → Option (Nat ⊕ Int32)
  | 0, _, _, _, _, _, _, _ => none
  | n + 1, x1, x2, x3, x4, x5, x6, σ => mX11_again_22B (mX11_again_22 n) x1 x2 x3 x4 x5 x6 σ
def mX11_again (p0 : Int32) (p1 : Int32) (p2 : Int32) (p3 : Int32) (σ : Sto) : Option (Nat ⊕ Int32) :=
  if 0 ≤ p3 then (
    mX11_again_22 FU p0 p1 p2 p3 (0 : Int32) (0 : Int32) σ
  ) else (
    some (.inl 1)
  )
def mX11_with_89 (f34 : Int32 → Int32 → Int32 → Int32 → Int32 → Sto → Option (Nat ⊕ Int32)) (x1 : Int32) (x2 : Int32) (x3 : Int32) (x4 : Int32) (x5 : Int32) (x6 : Nat) (y0 : Int32) (σ : Sto) : Option (Nat ⊕ Int32) :=
  if y0 = 0 then (
    f34 x1 x2 x3 x4 (x5 + (1 : Int32)) σ
  ) else (
    if sK σ x6 = 4 then
    (mX1_factAt x4 σ).bind fun v14 =>
    if sK σ v14 = 4 then
    if (sI σ x6 6) < (sI σ v14 6) then (
      f34 x1 x2 x3 x4 (x5 + (1 : Int32)) σ
    ) else (
      f34 x1 x2 x3 x5 (x5 + (1 : Int32)) σ
    )
    else none
    else none
  )
def mX11_with_88 (f34 : Int32 → Int32 → Int32 → Int32 → Int32 → Sto → Option (Nat ⊕ Int32)) (x1 : Int32) (x2 : Int32) (x3 : Int32) (x4 : Int32) (x5 : Int32) (x6 : Nat) (σ : Sto) : Option (Nat ⊕ Int32) :=
  mX11_with_89 f34 x1 x2 x3 x4 x5 x6 (0 : Int32) σ
def mX11_with_34B (f34 : Int32 → Int32 → Int32 → Int32 → Int32 → Sto → Option (Nat ⊕ Int32)) (x1 : Int32) (x2 : Int32) (x3 : Int32) (x4 : Int32) (x5 : Int32) (σ : Sto) : Option (Nat ⊕ Int32) :=
  if (sI σ 33 11) ≤ x5 then (
    (mX1_factAt x4 σ).bind fun v6 =>
    if sK σ v6 = 4 then
    some (.inr (sI σ v6 5))
    else none
  ) else (
    (mX1_factAt x5 σ).bind fun v8 =>
    if sK σ v8 = 4 then
    (mX3_isHandOf v8 x1 σ).bind fun v9 =>
    if v9 = 0 then (
      mX11_with_88 f34 x1 x2 x3 x4 x5 v8 σ
    ) else (
      (mX9_isKnownOn3 v8 x3 σ).bind fun v17 =>
      if v17 = 0 then (
        mX11_with_88 f34 x1 x2 x3 x4 x5 v8 σ
      ) else (
        if x2 < (sI σ v8 6) then (
          mX11_with_88 f34 x1 x2 x3 x4 x5 v8 σ
        ) else (
          mX11_with_89 f34 x1 x2 x3 x4 x5 v8 (1 : Int32) σ
        )
      )
    )
    else none
  )
def mX11_with_34 : Nat → Int32 → Int32 → Int32 → Int32 → Int32 → Sto → Option (Nat ⊕ Int32)
  | 0, _, _, _, _, _, _ => none
  | n + 1, x1, x2, x3, x4, x5, σ => mX11_with_34B (mX11_with_34 n) x1 x2 x3 x4 x5 σ
def mX11_with (p0 : Int32) (p1 : Int32) (p2 : Int32) (σ : Sto) : Option (Nat ⊕ Int32) :=
  bdp (mX11_needWork p0 σ) fun u1 =>
  if (mX11_isDay p1 σ) = 0 then (
    some (.inl 0)
  ) else (
    bdp (mX11_needEvening p2 σ) fun u4 =>
    mX11_with_34 FU p0 p1 p2 (-1 : Int32) (0 : Int32) σ
  )
def mX11_tellHidden (p0 : Nat) (p1 : Nat) (p2 : Int32) (σ : Sto) : Option Int32 :=
  if p2 = (0 : Int32) then (
    if sK σ p0 = 4 then
    some (sI σ p0 6)
    else none
  ) else
  if p2 = (1 : Int32) then (
    if sK σ p1 = 4 then
    some (sI σ p1 6)
    else none
  ) else
  if p2 = (2 : Int32) then (
    if sK σ p0 = 4 then
    some (sI σ p0 5)
    else none
  ) else
  (
  if sK σ p1 = 4 then
  some (sI σ p1 4)
  else none
  )
def mX11_hidden_139 (x2 : Int32) (x5 : Int32) (σ : Sto) : Option (Nat ⊕ Int32) :=
  if x2 = (-1 : Int32) then (
    some (.inr x5)
  ) else (
    some (.inl 0)
  )
def mX11_hidden_36B (f36 : Int32 → Int32 → Int32 → Int32 → Int32 → Int32 → Int32 → Sto → Option (Nat ⊕ Int32)) (x1 : Int32) (x2 : Int32) (x3 : Int32) (x4 : Int32) (x5 : Int32) (x6 : Int32) (x7 : Int32) (σ : Sto) : Option (Nat ⊕ Int32) :=
  if (200 : Int32) ≤ x7 then (
    mX11_hidden_139 x2 x5 σ
  ) else (
    if x6 = (-1 : Int32) then (
      mX11_hidden_139 x2 x5 σ
    ) else (
      (mX1_handBehind x1 x6 x4 σ).bind fun v8 =>
      if v8 = (-1 : Int32) then (
        f36 x1 x2 x3 x4 x5 v8 (x7 + (1 : Int32)) σ
      ) else (
        (mX1_factAt v8 σ).bind fun v10 =>
        if sK σ v10 = 4 then
        (mX1_factAt x6 σ).bind fun v12 =>
        if sK σ v12 = 4 then
        if (sI σ v10 4) = (sI σ v12 5) then (
          f36 x1 x2 x3 x4 x5 v8 (x7 + (1 : Int32)) σ
        ) else (
          if x5 = x2 then (
            (mX1_factAt x6 σ).bind fun v16 =>
            (mX1_factAt v8 σ).bind fun v17 =>
            (mX11_tellHidden v16 v17 x3 σ).bind fun v18 =>
            some (.inr v18)
          ) else (
            f36 x1 x2 x3 x4 (x5 + (1 : Int32)) v8 (x7 + (1 : Int32)) σ
          )
        )
        else none
        else none
      )
    )
  )
def mX11_hidden_36 : Nat → Int32 → Int32 → Int32 → Int32 → Int32 → Int32 → Int32 → Sto → Option (Nat ⊕ Int32)
  | 0, _, _, _, _, _, _, _, _ => none
  | n + 1, x1, x2, x3, x4, x5, x6, x7, σ => mX11_hidden_36B (mX11_hidden_36 n) x1 x2 x3 x4 x5 x6 x7 σ
def mX11_hidden (p0 : Int32) (p1 : Int32) (p2 : Int32) (p3 : Int32) (σ : Sto) : Option (Nat ⊕ Int32) :=
  bdp (mX11_needWork p0 σ) fun u1 =>
  bdp (mX11_needWhat p2 (3 : Int32) σ) fun u2 =>
  bdp (mX11_needEvening p3 σ) fun u3 =>
  (mX1_handBehind p0 (-1 : Int32) p3 σ).bind fun v4 =>
  mX11_hidden_36 FU p0 p1 p2 p3 (0 : Int32) v4 (0 : Int32) σ
def mX11_more (p0 : Int32) (σ : Sto) : Option (Nat ⊕ Int64) :=
  bdp (mX11_needPerson p0 σ) fun u1 =>
  if inb p0 30 then
  some (.inr (sL σ 80 (p0).toNatClampNeg))
  else none
def mX11_count (p0 : Int32) (σ : Sto) : Option (Nat ⊕ Int32) :=
  bdp (mX11_needWhat p0 (8 : Int32) σ) fun u1 =>
  if p0 = (0 : Int32) then (
    some (.inr (sI σ 33 0))
  ) else
  if p0 = (1 : Int32) then (
    some (.inr (sI σ 33 1))
  ) else
  if p0 = (2 : Int32) then (
    some (.inr (sI σ 33 3))
  ) else
  if p0 = (3 : Int32) then (
    some (.inr (sI σ 33 5))
  ) else
  if p0 = (4 : Int32) then (
    some (.inr (sI σ 33 7))
  ) else
  if p0 = (5 : Int32) then (
    some (.inr (sI σ 33 11))
  ) else
  if p0 = (6 : Int32) then (
    some (.inr (sI σ 33 15))
  ) else
  if p0 = (7 : Int32) then (
    some (.inr (sI σ 33 13))
  ) else
  (
  some (.inr (sI σ 32 5))
  )
def mX11_addShares_2B (f2 : Int32 → Int32 → Sto → Option Sto) (x1 : Int32) (x2 : Int32) (σ : Sto) : Option Sto :=
  if (30 : Int32) ≤ x2 then (
    some σ
  ) else (
    if inb x2 30 then
    stp (wL σ 80 (x2).toNatClampNeg ((sL σ 80 (x2).toNatClampNeg) + ((x1).toInt64 * ((sI σ 57 (x2).toNatClampNeg)).toInt64))) fun σ3 =>
    f2 x1 (x2 + (1 : Int32)) σ3
    else none
  )
def mX11_addShares_2 : Nat → Int32 → Int32 → Sto → Option Sto
  | 0, _, _, _ => none
  | n + 1, x1, x2, σ => mX11_addShares_2B (mX11_addShares_2 n) x1 x2 σ
def mX11_addShares (p0 : Int32) (σ : Sto) : Option Sto :=
  mX11_addShares_2 FU p0 (0 : Int32) σ
def mX11_tryDraft_101 (f40 : Int32 → Sto → Option Sto) (x1 : Int32) (x2 : Nat) (y0 : Int32) (σ : Sto) : Option Sto :=
  if sK σ x2 = 4 then
  (mX1_lawFor (sI σ x2 10) (sI σ x2 6) (sI σ 33 0) σ).bind fun v8 =>
  (mX1_lawAt v8 σ).bind fun v9 =>
  if y0 = 0 then (
    f40 (x1 + (1 : Int32)) σ
  ) else (
    if sK σ (sR σ 32 7) = 5 then
    if (sI σ x2 6) < (sI σ (sR σ 32 7) 3) then (
      f40 (x1 + (1 : Int32)) σ
    ) else (
      if sK σ v9 = 5 then
      if (sI σ (sR σ 32 7) 3) < (sI σ v9 3) then (
        f40 (x1 + (1 : Int32)) σ
      ) else (
        (mX0_look x2 σ).bind fun σ15 =>
        (mX0_apply v9 σ15).bind fun σ16 =>
        (mX11_addShares (-1 : Int32) σ16).bind fun σ17 =>
        (mX0_apply (sR σ17 32 7) σ17).bind fun σ18 =>
        (mX11_addShares (1 : Int32) σ18).bind fun σ19 =>
        f40 (x1 + (1 : Int32)) σ19
      )
      else none
    )
    else none
  )
  else none
def mX11_tryDraft_100 (f40 : Int32 → Sto → Option Sto) (x1 : Int32) (x2 : Nat) (σ : Sto) : Option Sto :=
  mX11_tryDraft_101 f40 x1 x2 (0 : Int32) σ
def mX11_tryDraft_40B (f40 : Int32 → Sto → Option Sto) (x1 : Int32) (σ : Sto) : Option Sto :=
  if (sI σ 33 11) ≤ x1 then (
    some σ
  ) else (
    (mX1_factAt x1 σ).bind fun v4 =>
    if sK σ v4 = 4 then
    if (sI σ v4 2) = (2 : Int32) then (
      if sK σ (sR σ 32 7) = 5 then
      if (sI σ v4 10) = (sI σ (sR σ 32 7) 2) then (
        (mX9_isKnownOn3 v4 (sI σ 33 0) σ).bind fun v22 =>
        if v22 = 0 then (
          mX11_tryDraft_100 f40 x1 v4 σ
        ) else (
          mX11_tryDraft_101 f40 x1 v4 (1 : Int32) σ
        )
      ) else (
        mX11_tryDraft_100 f40 x1 v4 σ
      )
      else none
    ) else (
      mX11_tryDraft_100 f40 x1 v4 σ
    )
    else none
  )
def mX11_tryDraft_40 : Nat → Int32 → Sto → Option Sto
  | 0, _, _ => none
  | n + 1, x1, σ => mX11_tryDraft_40B (mX11_tryDraft_40 n) x1 σ
def mX11_tryDraft_16B (f16 : Int32 → Sto → Option Sto) (x1 : Int32) (σ : Sto) : Option Sto :=
  if (30 : Int32) ≤ x1 then (
    mX11_tryDraft_40 FU (0 : Int32) σ
  ) else (
    if inb x1 30 then
    stp (wL σ 80 (x1).toNatClampNeg (0 : Int64)) fun σ25 =>
    f16 (x1 + (1 : Int32)) σ25
    else none
  )
def mX11_tryDraft_16 : Nat → Int32 → Sto → Option Sto
  | 0, _, _ => none
  | n + 1, x1, σ => mX11_tryDraft_16B (mX11_tryDraft_16 n) x1 σ
def mX11_tryDraft (σ : Sto) : Option Sto :=
  (mX0_open (sI σ 33 0) σ).bind fun σ1 =>
  mX11_tryDraft_16 FU (0 : Int32) σ1
section
variable {p : Program} {l : Launch} {e : Env} {s : State} {m : MethodId} {args : Array Value} {below : List Frame} {meth : Method} {c : Code} {E : Ev} {ad0 : Nat → Nat} {st : Bool}
set_option maxRecDepth 100000 in
set_option maxHeartbeats 4000000 in
theorem dX11_land {σ : Sto} {r1 : Int32} {r2 : Sto} (h : mX11_land σ = some (r1, r2)) : MM l yX11_land cX11_land 1 (some .int) 1 0 0 E true σ [.ref 32] (QI E true σ r1 r2) := by
  unfold mX11_land at h
  refine MM_of (by decide) (Nat.le_of_ble_eq_true rfl) rfl (fun p e s m args below meth c ad0 C hr hn => ?_)
  refine G_aload_n C 0 rfl rfl dX11_land_0 ?_
  refine G_getF C fl_X11_10_10 rfl rfl fn_32_0 dX11_land_1 ?_
  refine G_getI C fl_X11_63_1 (Or.inl rfl) ko_33 dX11_land_4 ?_
  refine G_bipush C (v := 6) rfl dX11_land_7 ?_
  refine G_icmp_lt (tgt := 14) C rfl dX11_land_9 (fun hc1 => ?_) (fun hc1 => ?_)
  · replace h := (if_pos hc1).symm.trans h
    refine G_aload_n C 0 rfl rfl dX11_land_14 ?_
    refine G_getF C fl_X11_10_10 rfl rfl fn_32_0 dX11_land_15 ?_
    refine G_dup C rfl dX11_land_18 ?_
    refine G_getI C fl_X11_63_1 (Or.inl rfl) ko_33 dX11_land_19 ?_
    refine G_iconst C (v := 1) rfl dX11_land_22 ?_
    refine G_iadd C dX11_land_23 ?_
    obtain ⟨σ2, hs2, h⟩ := stp_elim h
    refine G_putI C fl_X11_63_1 fp_X11_1_1 (Or.inl rfl) (Or.inl rfl) ko_33 dX11_land_24 ?_
    rw [← hs2]
    refine G_aload_n C 0 rfl rfl dX11_land_27 ?_
    refine G_getF C fl_X11_10_10 rfl rfl fn_32_0 dX11_land_28 ?_
    refine G_getI C fl_X11_63_1 (Or.inl rfl) ko_33 dX11_land_31 ?_
    refine G_iconst C (v := 1) rfl dX11_land_34 ?_
    refine G_isub C dX11_land_35 ?_
    obtain ⟨rfl, rfl⟩ := some2 h
    exact G_iret C hr (Nat.le_of_ble_eq_true rfl) (Nat.le_of_ble_eq_true rfl) dX11_land_36
  · replace h := (if_neg hc1).symm.trans h
    refine G_iconst C (v := -1) rfl dX11_land_12 ?_
    obtain ⟨rfl, rfl⟩ := some2 h
    exact G_iret C hr (Nat.le_of_ble_eq_true rfl) (Nat.le_of_ble_eq_true rfl) dX11_land_13
set_option maxRecDepth 100000 in
set_option maxHeartbeats 4000000 in
theorem dX11_needLand (hlx : l.stackTraces = false) {σ : Sto} {p0 : Int32} {r : Nat ⊕ Unit} (h : mX11_needLand p0 σ = some r) : MX l yX11_needLand cX11_needLand 2 none 6 1 6 E true σ [.ref 32, .int p0] Unit (embS σ r) (QVx E true σ (embS σ r)) := by
  unfold mX11_needLand at h
  refine MX_of (by decide) (Nat.le_of_ble_eq_true rfl) rfl (fun p e s m args below meth c ad0 C hr htb => ?_)
  refine G_iload_n C 1 rfl rfl dX11_needLand_0 ?_
  refine G_iconst C (v := 0) rfl dX11_needLand_1 ?_
  refine G_aload_n C 0 rfl rfl dX11_needLand_2 ?_
  refine G_getF C fl_X11_10_10 rfl rfl fn_32_0 dX11_needLand_3 ?_
  refine G_getI C fl_X11_63_1 (Or.inl rfl) ko_33 dX11_needLand_6 ?_
  refine G_iconst C (v := 1) rfl dX11_needLand_9 ?_
  refine G_isub C dX11_needLand_10 ?_
  refine G_callI (run_S C [.int p0, .int (0 : Int32), .int ((sI σ 33 1) - (1 : Int32))] [] (dX11_isWithin rfl) ml_X11_isWithin ms_X11_isWithin lk_X11_78 ⟨(Nat.le_of_ble_eq_true rfl), (Nat.le_of_ble_eq_true rfl)⟩ ⟨(Nat.le_of_ble_eq_true rfl), (Nat.le_of_ble_eq_true rfl)⟩ rfl (Nat.le_of_ble_eq_true rfl) dX11_needLand_11) ?_
  refine G_if_ne (tgt := 28) C rfl dX11_needLand_14 (fun hc2 => ?_) (fun hc2 => ?_)
  · replace h := (if_neg hc2).symm.trans h
    obtain rfl := Option.some.inj h
    exact G_vretx C hr (Nat.le_of_ble_eq_true rfl) (Nat.le_of_ble_eq_true rfl) dX11_needLand_28
  · replace h := (if_pos hc2).symm.trans h
    obtain rfl := Option.some.inj h
    exact G_throwW C hlx htb rfl (x := 0) rfl xw_202 nl_X11_198 xi_0 (List.mem_of_getElem? (l := msgs) (i := 0) rfl) (Nat.le_of_ble_eq_true rfl) (Nat.le_of_ble_eq_true rfl) (Nat.le_of_ble_eq_true rfl) (Nat.le_of_ble_eq_true rfl) (Nat.le_of_ble_eq_true rfl) (Nat.le_of_ble_eq_true rfl) dX11_needLand_17 dX11_needLand_20 dX11_needLand_21 dX11_needLand_24 dX11_needLand_27
set_option maxRecDepth 100000 in
set_option maxHeartbeats 4000000 in
theorem dX11_isDay {σ : Sto} {p0 : Int32} {r : Int32} (h : mX11_isDay p0 σ = r) : MM l yX11_isDay cX11_isDay 1 (some .boolean) 2 0 0 E st σ [.int p0] (QI E st σ r σ) := by
  unfold mX11_isDay at h
  refine MM_of (by decide) (Nat.le_of_ble_eq_true rfl) rfl (fun p e s m args below meth c ad0 C hr hn => ?_)
  refine G_iload_n C 0 rfl rfl dX11_isDay_0 ?_
  refine G_iconst C (v := 0) rfl dX11_isDay_1 ?_
  refine G_ldcw C kc_X11_379 dX11_isDay_2 ?_
  refine G_callI (run_S C [.int p0, .int (0 : Int32), .int (36499 : Int32)] [] (dX11_isWithin rfl) ml_X11_isWithin ms_X11_isWithin lk_X11_78 ⟨(Nat.le_of_ble_eq_true rfl), (Nat.le_of_ble_eq_true rfl)⟩ ⟨(Nat.le_of_ble_eq_true rfl), (Nat.le_of_ble_eq_true rfl)⟩ rfl (Nat.le_of_ble_eq_true rfl) dX11_isDay_5) ?_
  subst h
  exact G_zret C (bX11_isWithin _ _ _ _) hr (Nat.le_of_ble_eq_true rfl) (Nat.le_of_ble_eq_true rfl) dX11_isDay_8
set_option maxRecDepth 100000 in
set_option maxHeartbeats 4000000 in
theorem dX11_rate (hlx : l.stackTraces = false) {σ : Sto} {p0 : Int32} {p1 : Int32} {p2 : Int32} {r : Nat ⊕ (Int32 × Sto)} (h : mX11_rate p0 p1 p2 σ = some r) : MX l yX11_rate cX11_rate 4 (some .boolean) 7 2 9 E true σ [.ref 32, .int p0, .int p1, .int p2] Int32 r (QIx E true σ r) := by
  unfold mX11_rate at h
  refine MX_of (by decide) (Nat.le_of_ble_eq_true rfl) rfl (fun p e s m args below meth c ad0 C hr htb => ?_)
  refine G_aload_n C 0 rfl rfl dX11_rate_0 ?_
  refine G_iload_n C 1 rfl rfl dX11_rate_1 ?_
  rcases bdp_elim h with ⟨x1, hv1, rfl⟩ | ⟨u1, hv1, h⟩
  · exact G_callVx_thr C htb (Nat.le_of_ble_eq_true rfl) (Nat.le_of_ble_eq_true rfl) (run_Vx C [.int p0] [] (dX11_needLand hlx hv1) ml_X11_needLand mv_X11_needLand lk_X11_66 ⟨(Nat.le_of_ble_eq_true rfl), (Nat.le_of_ble_eq_true rfl)⟩ ⟨(Nat.le_of_ble_eq_true rfl), (Nat.le_of_ble_eq_true rfl)⟩ vq_10 rfl ko_32 rfl (Nat.le_of_ble_eq_true rfl) dX11_rate_2)
  refine G_callVx (run_Vx C [.int p0] [] (dX11_needLand hlx hv1) ml_X11_needLand mv_X11_needLand lk_X11_66 ⟨(Nat.le_of_ble_eq_true rfl), (Nat.le_of_ble_eq_true rfl)⟩ ⟨(Nat.le_of_ble_eq_true rfl), (Nat.le_of_ble_eq_true rfl)⟩ vq_10 rfl ko_32 rfl (Nat.le_of_ble_eq_true rfl) dX11_rate_2) ?_
  refine G_aload_n C 0 rfl rfl dX11_rate_5 ?_
  refine G_getF C fl_X11_10_10 rfl rfl fn_32_0 dX11_rate_6 ?_
  refine G_getI C fl_X11_70_1 (Or.inl rfl) ko_33 dX11_rate_9 ?_
  refine G_bipush C (v := 60) rfl dX11_rate_12 ?_
  refine G_icmp_ge (tgt := 34) C rfl dX11_rate_14 (fun hc2 => ?_) (fun hc2 => ?_)
  · replace h := (if_pos hc2).symm.trans h
    refine G_iconst C (v := 0) rfl dX11_rate_34 ?_
    obtain rfl := Option.some.inj h
    exact G_zretx C (by decide) hr (Nat.le_of_ble_eq_true rfl) (Nat.le_of_ble_eq_true rfl) dX11_rate_35
  · replace h := (if_neg hc2).symm.trans h
    refine G_iload_n C 2 rfl rfl dX11_rate_17 ?_
    refine G_callI (run_S C [.int p1] [] (dX11_isDay rfl) ml_X11_isDay ms_X11_isDay lk_X11_73 ⟨(Nat.le_of_ble_eq_true rfl), (Nat.le_of_ble_eq_true rfl)⟩ ⟨(Nat.le_of_ble_eq_true rfl), (Nat.le_of_ble_eq_true rfl)⟩ rfl (Nat.le_of_ble_eq_true rfl) dX11_rate_18) ?_
    refine G_if_eq (tgt := 34) C rfl dX11_rate_21 (fun hc4 => ?_) (fun hc4 => ?_)
    · replace h := (if_pos hc4).symm.trans h
      refine G_iconst C (v := 0) rfl dX11_rate_34 ?_
      obtain rfl := Option.some.inj h
      exact G_zretx C (by decide) hr (Nat.le_of_ble_eq_true rfl) (Nat.le_of_ble_eq_true rfl) dX11_rate_35
    · replace h := (if_neg hc4).symm.trans h
      refine G_iload_n C 3 rfl rfl dX11_rate_24 ?_
      refine G_iconst C (v := 1) rfl dX11_rate_25 ?_
      refine G_ldc C kc_X11_77 dX11_rate_26 ?_
      refine G_callI (run_S C [.int p2, .int (1 : Int32), .int (99999 : Int32)] [] (dX11_isWithin rfl) ml_X11_isWithin ms_X11_isWithin lk_X11_78 ⟨(Nat.le_of_ble_eq_true rfl), (Nat.le_of_ble_eq_true rfl)⟩ ⟨(Nat.le_of_ble_eq_true rfl), (Nat.le_of_ble_eq_true rfl)⟩ rfl (Nat.le_of_ble_eq_true rfl) dX11_rate_28) ?_
      refine G_if_ne (tgt := 36) C rfl dX11_rate_31 (fun hc6 => ?_) (fun hc6 => ?_)
      · replace h := (if_neg hc6).symm.trans h
        refine G_aload_n C 0 rfl rfl dX11_rate_36 ?_
        refine G_getF C fl_X11_10_10 rfl rfl fn_32_0 dX11_rate_37 ?_
        refine G_getF C fl_X11_82_1 rfl rfl fn_33_8 dX11_rate_40 ?_
        refine G_aload_n C 0 rfl rfl dX11_rate_43 ?_
        refine G_getF C fl_X11_10_10 rfl rfl fn_32_0 dX11_rate_44 ?_
        refine G_getI C fl_X11_70_1 (Or.inl rfl) ko_33 dX11_rate_47 ?_
        obtain ⟨σ7, hs7, h⟩ := stp_elim h
        refine G_new C vq_6 uw_X6 nl_X11_86 ni_X6.1 ni_X6.2 (Nat.le_of_ble_eq_true rfl) (Nat.le_of_ble_eq_true rfl) dX11_rate_50 ?_
        rw [← hs7]
        have hc8 : sK σ7 (sZ σ) = 7 := by rw [hs7]; exact (nwK_K _ _ _ _).trans (if_pos rfl)
        refine G_dup C rfl dX11_rate_53 ?_
        refine G_iload_n C 1 rfl rfl dX11_rate_54 ?_
        refine G_iload_n C 2 rfl rfl dX11_rate_55 ?_
        refine G_iload_n C 3 rfl rfl dX11_rate_56 ?_
        obtain ⟨σ9, hv9, h⟩ := bnd h
        refine G_callV (run_I (kd := 7) C [.int p0, .int p1, .int p2] [.ref (sZ σ), .int (sI σ 33 9), .ref 37] (dX6_init hc8 hv9) ml_X6_init mi_X6_init lk_X11_88 ⟨(Nat.le_of_ble_eq_true rfl), (Nat.le_of_ble_eq_true rfl)⟩ ⟨(Nat.le_of_ble_eq_true rfl), (Nat.le_of_ble_eq_true rfl)⟩ (by decide) (KO.dy hc8) rfl (Nat.le_of_ble_eq_true rfl) dX11_rate_57) ?_
        obtain ⟨hc10, h⟩ := ifn h
        obtain ⟨hc11, h⟩ := ifn h
        obtain ⟨σ12, hs12, h⟩ := stp_elim h
        refine G_aastore (t := 6) (ci := 6) C ⟨by decide, by decide⟩ vq_6 rfl ks_37 (KO.dy hc11) hc10 dX11_rate_60 ?_
        rw [← hs12]
        have hc13 : sK σ12 (sZ σ) = 7 := by rw [hs12]; exact hc11
        refine G_aload_n C 0 rfl rfl dX11_rate_61 ?_
        refine G_getF C fl_X11_10_10 rfl rfl fn_32_0 dX11_rate_62 ?_
        refine G_dup C rfl dX11_rate_65 ?_
        refine G_getI C fl_X11_70_1 (Or.inl rfl) ko_33 dX11_rate_66 ?_
        refine G_iconst C (v := 1) rfl dX11_rate_69 ?_
        refine G_iadd C dX11_rate_70 ?_
        obtain ⟨σ14, hs14, h⟩ := stp_elim h
        refine G_putI C fl_X11_70_1 fp_X11_1_9 (Or.inl rfl) (Or.inl rfl) ko_33 dX11_rate_71 ?_
        rw [← hs14]
        have hc15 : sK σ14 (sZ σ) = 7 := by rw [hs14]; exact hc13
        refine G_iconst C (v := 1) rfl dX11_rate_74 ?_
        obtain rfl := Option.some.inj h
        exact G_zretx C (by decide) hr (Nat.le_of_ble_eq_true rfl) (Nat.le_of_ble_eq_true rfl) dX11_rate_75
      · replace h := (if_pos hc6).symm.trans h
        refine G_iconst C (v := 0) rfl dX11_rate_34 ?_
        obtain rfl := Option.some.inj h
        exact G_zretx C (by decide) hr (Nat.le_of_ble_eq_true rfl) (Nat.le_of_ble_eq_true rfl) dX11_rate_35
set_option maxRecDepth 100000 in
set_option maxHeartbeats 4000000 in
theorem dX11_person (hlx : l.stackTraces = false) {σ : Sto} {p0 : Int32} {p1 : Int32} {r : Nat ⊕ (Int32 × Sto)} (h : mX11_person p0 p1 σ = some r) : MX l yX11_person cX11_person 3 (some .int) 7 2 8 E true σ [.ref 32, .int p0, .int p1] Int32 r (QIx E true σ r) := by
  unfold mX11_person at h
  refine MX_of (by decide) (Nat.le_of_ble_eq_true rfl) rfl (fun p e s m args below meth c ad0 C hr htb => ?_)
  refine G_aload_n C 0 rfl rfl dX11_person_0 ?_
  refine G_iload_n C 1 rfl rfl dX11_person_1 ?_
  rcases bdp_elim h with ⟨x1, hv1, rfl⟩ | ⟨u1, hv1, h⟩
  · exact G_callVx_thr C htb (Nat.le_of_ble_eq_true rfl) (Nat.le_of_ble_eq_true rfl) (run_Vx C [.int p0] [] (dX11_needLand hlx hv1) ml_X11_needLand mv_X11_needLand lk_X11_66 ⟨(Nat.le_of_ble_eq_true rfl), (Nat.le_of_ble_eq_true rfl)⟩ ⟨(Nat.le_of_ble_eq_true rfl), (Nat.le_of_ble_eq_true rfl)⟩ vq_10 rfl ko_32 rfl (Nat.le_of_ble_eq_true rfl) dX11_person_2)
  refine G_callVx (run_Vx C [.int p0] [] (dX11_needLand hlx hv1) ml_X11_needLand mv_X11_needLand lk_X11_66 ⟨(Nat.le_of_ble_eq_true rfl), (Nat.le_of_ble_eq_true rfl)⟩ ⟨(Nat.le_of_ble_eq_true rfl), (Nat.le_of_ble_eq_true rfl)⟩ vq_10 rfl ko_32 rfl (Nat.le_of_ble_eq_true rfl) dX11_person_2) ?_
  refine G_aload_n C 0 rfl rfl dX11_person_5 ?_
  refine G_getF C fl_X11_10_10 rfl rfl fn_32_0 dX11_person_6 ?_
  refine G_getI C fl_X11_91_1 (Or.inl rfl) ko_33 dX11_person_9 ?_
  refine G_bipush C (v := 30) rfl dX11_person_12 ?_
  refine G_icmp_ge (tgt := 26) C rfl dX11_person_14 (fun hc2 => ?_) (fun hc2 => ?_)
  · replace h := (if_pos hc2).symm.trans h
    refine G_iconst C (v := -1) rfl dX11_person_26 ?_
    obtain rfl := Option.some.inj h
    exact G_iretx C hr (Nat.le_of_ble_eq_true rfl) (Nat.le_of_ble_eq_true rfl) dX11_person_27
  · replace h := (if_neg hc2).symm.trans h
    refine G_iload_n C 2 rfl rfl dX11_person_17 ?_
    refine G_iconst C (v := 0) rfl dX11_person_18 ?_
    refine G_iconst C (v := 2) rfl dX11_person_19 ?_
    refine G_callI (run_S C [.int p1, .int (0 : Int32), .int (2 : Int32)] [] (dX11_isWithin rfl) ml_X11_isWithin ms_X11_isWithin lk_X11_78 ⟨(Nat.le_of_ble_eq_true rfl), (Nat.le_of_ble_eq_true rfl)⟩ ⟨(Nat.le_of_ble_eq_true rfl), (Nat.le_of_ble_eq_true rfl)⟩ rfl (Nat.le_of_ble_eq_true rfl) dX11_person_20) ?_
    refine G_if_ne (tgt := 28) C rfl dX11_person_23 (fun hc4 => ?_) (fun hc4 => ?_)
    · replace h := (if_neg hc4).symm.trans h
      refine G_aload_n C 0 rfl rfl dX11_person_28 ?_
      refine G_getF C fl_X11_10_10 rfl rfl fn_32_0 dX11_person_29 ?_
      refine G_getF C fl_X11_94_1 rfl rfl fn_33_2 dX11_person_32 ?_
      refine G_aload_n C 0 rfl rfl dX11_person_35 ?_
      refine G_getF C fl_X11_10_10 rfl rfl fn_32_0 dX11_person_36 ?_
      refine G_getI C fl_X11_91_1 (Or.inl rfl) ko_33 dX11_person_39 ?_
      obtain ⟨σ5, hs5, h⟩ := stp_elim h
      refine G_new C vq_5 uw_X5 nl_X11_98 ni_X5.1 ni_X5.2 (Nat.le_of_ble_eq_true rfl) (Nat.le_of_ble_eq_true rfl) dX11_person_42 ?_
      rw [← hs5]
      have hc6 : sK σ5 (sZ σ) = 6 := by rw [hs5]; exact (nwK_K _ _ _ _).trans (if_pos rfl)
      refine G_dup C rfl dX11_person_45 ?_
      refine G_iload_n C 1 rfl rfl dX11_person_46 ?_
      refine G_iload_n C 2 rfl rfl dX11_person_47 ?_
      obtain ⟨σ7, hv7, h⟩ := bnd h
      refine G_callV (run_I (kd := 6) C [.int p0, .int p1] [.ref (sZ σ), .int (sI σ 33 3), .ref 34] (dX5_init hc6 hv7) ml_X5_init mi_X5_init lk_X11_100 ⟨(Nat.le_of_ble_eq_true rfl), (Nat.le_of_ble_eq_true rfl)⟩ ⟨(Nat.le_of_ble_eq_true rfl), (Nat.le_of_ble_eq_true rfl)⟩ (by decide) (KO.dy hc6) rfl (Nat.le_of_ble_eq_true rfl) dX11_person_48) ?_
      obtain ⟨hc8, h⟩ := ifn h
      obtain ⟨hc9, h⟩ := ifn h
      obtain ⟨σ10, hs10, h⟩ := stp_elim h
      refine G_aastore (t := 3) (ci := 5) C ⟨by decide, by decide⟩ vq_5 rfl ks_34 (KO.dy hc9) hc8 dX11_person_51 ?_
      rw [← hs10]
      have hc11 : sK σ10 (sZ σ) = 6 := by rw [hs10]; exact hc9
      refine G_aload_n C 0 rfl rfl dX11_person_52 ?_
      refine G_getF C fl_X11_10_10 rfl rfl fn_32_0 dX11_person_53 ?_
      refine G_dup C rfl dX11_person_56 ?_
      refine G_getI C fl_X11_91_1 (Or.inl rfl) ko_33 dX11_person_57 ?_
      refine G_iconst C (v := 1) rfl dX11_person_60 ?_
      refine G_iadd C dX11_person_61 ?_
      obtain ⟨σ12, hs12, h⟩ := stp_elim h
      refine G_putI C fl_X11_91_1 fp_X11_1_3 (Or.inl rfl) (Or.inl rfl) ko_33 dX11_person_62 ?_
      rw [← hs12]
      have hc13 : sK σ12 (sZ σ) = 6 := by rw [hs12]; exact hc11
      refine G_aload_n C 0 rfl rfl dX11_person_65 ?_
      refine G_getF C fl_X11_10_10 rfl rfl fn_32_0 dX11_person_66 ?_
      refine G_getI C fl_X11_91_1 (Or.inl rfl) ko_33 dX11_person_69 ?_
      refine G_iconst C (v := 1) rfl dX11_person_72 ?_
      refine G_isub C dX11_person_73 ?_
      obtain rfl := Option.some.inj h
      exact G_iretx C hr (Nat.le_of_ble_eq_true rfl) (Nat.le_of_ble_eq_true rfl) dX11_person_74
    · replace h := (if_pos hc4).symm.trans h
      refine G_iconst C (v := -1) rfl dX11_person_26 ?_
      obtain rfl := Option.some.inj h
      exact G_iretx C hr (Nat.le_of_ble_eq_true rfl) (Nat.le_of_ble_eq_true rfl) dX11_person_27
set_option maxRecDepth 100000 in
set_option maxHeartbeats 4000000 in
theorem dX11_needPerson (hlx : l.stackTraces = false) {σ : Sto} {p0 : Int32} {r : Nat ⊕ Unit} (h : mX11_needPerson p0 σ = some r) : MX l yX11_needPerson cX11_needPerson 2 none 6 1 6 E true σ [.ref 32, .int p0] Unit (embS σ r) (QVx E true σ (embS σ r)) := by
  unfold mX11_needPerson at h
  refine MX_of (by decide) (Nat.le_of_ble_eq_true rfl) rfl (fun p e s m args below meth c ad0 C hr htb => ?_)
  refine G_iload_n C 1 rfl rfl dX11_needPerson_0 ?_
  refine G_iconst C (v := 0) rfl dX11_needPerson_1 ?_
  refine G_aload_n C 0 rfl rfl dX11_needPerson_2 ?_
  refine G_getF C fl_X11_10_10 rfl rfl fn_32_0 dX11_needPerson_3 ?_
  refine G_getI C fl_X11_91_1 (Or.inl rfl) ko_33 dX11_needPerson_6 ?_
  refine G_iconst C (v := 1) rfl dX11_needPerson_9 ?_
  refine G_isub C dX11_needPerson_10 ?_
  refine G_callI (run_S C [.int p0, .int (0 : Int32), .int ((sI σ 33 3) - (1 : Int32))] [] (dX11_isWithin rfl) ml_X11_isWithin ms_X11_isWithin lk_X11_78 ⟨(Nat.le_of_ble_eq_true rfl), (Nat.le_of_ble_eq_true rfl)⟩ ⟨(Nat.le_of_ble_eq_true rfl), (Nat.le_of_ble_eq_true rfl)⟩ rfl (Nat.le_of_ble_eq_true rfl) dX11_needPerson_11) ?_
  refine G_if_ne (tgt := 28) C rfl dX11_needPerson_14 (fun hc2 => ?_) (fun hc2 => ?_)
  · replace h := (if_neg hc2).symm.trans h
    obtain rfl := Option.some.inj h
    exact G_vretx C hr (Nat.le_of_ble_eq_true rfl) (Nat.le_of_ble_eq_true rfl) dX11_needPerson_28
  · replace h := (if_pos hc2).symm.trans h
    obtain rfl := Option.some.inj h
    exact G_throwW C hlx htb rfl (x := 0) rfl xw_202 nl_X11_198 xi_0 (List.mem_of_getElem? (l := msgs) (i := 1) rfl) (Nat.le_of_ble_eq_true rfl) (Nat.le_of_ble_eq_true rfl) (Nat.le_of_ble_eq_true rfl) (Nat.le_of_ble_eq_true rfl) (Nat.le_of_ble_eq_true rfl) (Nat.le_of_ble_eq_true rfl) dX11_needPerson_17 dX11_needPerson_20 dX11_needPerson_21 dX11_needPerson_24 dX11_needPerson_27
set_option maxRecDepth 100000 in
set_option maxHeartbeats 4000000 in
theorem eX11_work_65 (C : Cx E p s m args meth c cX11_work 9 RX11) (hr : meth.sig.returnType = (some .int)) (hlx : l.stackTraces = false) (htb : ∀ x ∈ c.exceptionTable.toList, False) {r : Nat ⊕ (Int32 × Sto)} {σ : Sto} {x1 : Int32} {x2 : Int32} {x3 : Int32} {x4 : Int32} {x5 : Int32} {x6 : Int32} {y0 : Int32} (h : mX11_work_65 x1 x2 x3 x4 x5 x6 y0 σ = some r) : G p l e (rmd 7 4 20) s m args below meth c E true (sZ σ) ad0 (vx_MQ below (QIx E true σ r ad0) (XX E true σ Int32 r ad0) args s 4 20 (AE E)) 9 1 6 σ 65 [(0, .ref 32), (1, .int x1), (2, .int x2), (3, .int x3), (4, .int x4), (5, .int x5), (6, .int x6)] [.int y0] := by
  unfold mX11_work_65 at h
  refine G_istore (L' := [(7, .int y0), (0, .ref 32), (1, .int x1), (2, .int x2), (3, .int x3), (4, .int x4), (5, .int x5), (6, .int x6)]) C (Nat.le_of_ble_eq_true rfl) rfl dX11_work_65 ?_
  refine G_aload_n C 1 rfl rfl dX11_work_67 ?_
  refine G_getF C fl_X11_10_10 rfl rfl fn_32_0 dX11_work_68 ?_
  refine G_getI C fl_X11_107_1 (Or.inl rfl) ko_33 dX11_work_71 ?_
  refine G_bipush C (v := 30) rfl dX11_work_74 ?_
  refine G_icmp_ge (tgt := 84) C rfl dX11_work_76 (fun hc4 => ?_) (fun hc4 => ?_)
  · replace h := (if_pos hc4).symm.trans h
    refine G_iconst C (v := -1) rfl dX11_work_84 ?_
    obtain rfl := Option.some.inj h
    exact G_iretx C hr (Nat.le_of_ble_eq_true rfl) (Nat.le_of_ble_eq_true rfl) dX11_work_85
  · replace h := (if_neg hc4).symm.trans h
    refine G_iload C 0 rfl dX11_work_79 ?_
    refine G_if_ne (tgt := 86) C rfl dX11_work_81 (fun hc5 => ?_) (fun hc5 => ?_)
    · replace h := (if_neg hc5).symm.trans h
      obtain ⟨σ6, hs6, h⟩ := stp_elim h
      refine G_new C vq_9 uw_X10 nl_X11_110 ni_X10.1 ni_X10.2 (Nat.le_of_ble_eq_true rfl) (Nat.le_of_ble_eq_true rfl) dX11_work_86 ?_
      rw [← hs6]
      have hc7 : sK σ6 (sZ σ) = 10 := by rw [hs6]; exact (nwK_K _ _ _ _).trans (if_pos rfl)
      refine G_dup C rfl dX11_work_89 ?_
      refine G_iload_n C 4 rfl rfl dX11_work_90 ?_
      refine G_iload C 5 rfl dX11_work_91 ?_
      refine G_iload C 6 rfl dX11_work_93 ?_
      refine G_iload C 7 rfl dX11_work_95 ?_
      obtain ⟨σ8, hv8, h⟩ := bnd h
      refine G_callV (run_I (kd := 10) C [.int x3, .int x4, .int x5, .int x6] [.ref (sZ σ)] (dX10_init hc7 hv8) ml_X10_init mi_X10_init lk_X11_112 ⟨(Nat.le_of_ble_eq_true rfl), (Nat.le_of_ble_eq_true rfl)⟩ ⟨(Nat.le_of_ble_eq_true rfl), (Nat.le_of_ble_eq_true rfl)⟩ (by decide) (KO.dy hc7) rfl (Nat.le_of_ble_eq_true rfl) dX11_work_97) ?_
      refine G_astore (L' := [(8, .ref (sZ σ)), (7, .int y0), (0, .ref 32), (1, .int x1), (2, .int x2), (3, .int x3), (4, .int x4), (5, .int x5), (6, .int x6)]) C (Nat.le_of_ble_eq_true rfl) rfl dX11_work_100 ?_
      refine G_aload C 0 rfl dX11_work_102 ?_
      refine G_iload_n C 3 rfl rfl dX11_work_104 ?_
      refine G_iload_n C 4 rfl rfl dX11_work_105 ?_
      obtain ⟨hc10, h⟩ := ifn h
      obtain ⟨σ9, hv9, h⟩ := bnd h
      refine G_callV (run_V C [.int x1, .int x2] [] (dX10_addArtist hc10 hv9) ml_X10_addArtist mv_X10_addArtist lk_X11_115 ⟨(Nat.le_of_ble_eq_true rfl), (Nat.le_of_ble_eq_true rfl)⟩ ⟨(Nat.le_of_ble_eq_true rfl), (Nat.le_of_ble_eq_true rfl)⟩ vq_9 rfl (KO.dy hc10) rfl (Nat.le_of_ble_eq_true rfl) dX11_work_106) ?_
      refine G_aload_n C 2 rfl rfl dX11_work_109 ?_
      refine G_getF C fl_X11_10_10 rfl rfl fn_32_0 dX11_work_110 ?_
      refine G_getF C fl_X11_118_1 rfl rfl fn_33_4 dX11_work_113 ?_
      refine G_aload_n C 2 rfl rfl dX11_work_116 ?_
      refine G_getF C fl_X11_10_10 rfl rfl fn_32_0 dX11_work_117 ?_
      refine G_getI C fl_X11_107_1 (Or.inl rfl) ko_33 dX11_work_120 ?_
      refine G_aload C 0 rfl dX11_work_123 ?_
      obtain ⟨hc11, h⟩ := ifn h
      obtain ⟨hc12, h⟩ := ifn h
      obtain ⟨σ13, hs13, h⟩ := stp_elim h
      refine G_aastore (t := 4) (ci := 9) C ⟨by decide, by decide⟩ vq_9 rfl ks_35 (KO.dy hc12) hc11 dX11_work_125 ?_
      rw [← hs13]
      have hc14 : sK σ13 (sZ σ) = 10 := by rw [hs13]; exact hc12
      refine G_aload_n C 2 rfl rfl dX11_work_126 ?_
      refine G_getF C fl_X11_10_10 rfl rfl fn_32_0 dX11_work_127 ?_
      refine G_dup C rfl dX11_work_130 ?_
      refine G_getI C fl_X11_107_1 (Or.inl rfl) ko_33 dX11_work_131 ?_
      refine G_iconst C (v := 1) rfl dX11_work_134 ?_
      refine G_iadd C dX11_work_135 ?_
      obtain ⟨σ15, hs15, h⟩ := stp_elim h
      refine G_putI C fl_X11_107_1 fp_X11_1_5 (Or.inl rfl) (Or.inl rfl) ko_33 dX11_work_136 ?_
      rw [← hs15]
      have hc16 : sK σ15 (sZ σ) = 10 := by rw [hs15]; exact hc14
      refine G_aload_n C 2 rfl rfl dX11_work_139 ?_
      refine G_getF C fl_X11_10_10 rfl rfl fn_32_0 dX11_work_140 ?_
      refine G_getI C fl_X11_107_1 (Or.inl rfl) ko_33 dX11_work_143 ?_
      refine G_iconst C (v := 1) rfl dX11_work_146 ?_
      refine G_isub C dX11_work_147 ?_
      obtain rfl := Option.some.inj h
      exact G_iretx C hr (Nat.le_of_ble_eq_true rfl) (Nat.le_of_ble_eq_true rfl) dX11_work_148
    · replace h := (if_pos hc5).symm.trans h
      refine G_iconst C (v := -1) rfl dX11_work_84 ?_
      obtain rfl := Option.some.inj h
      exact G_iretx C hr (Nat.le_of_ble_eq_true rfl) (Nat.le_of_ble_eq_true rfl) dX11_work_85
set_option maxRecDepth 100000 in
set_option maxHeartbeats 4000000 in
theorem eX11_work_64 (C : Cx E p s m args meth c cX11_work 9 RX11) (hr : meth.sig.returnType = (some .int)) (hlx : l.stackTraces = false) (htb : ∀ x ∈ c.exceptionTable.toList, False) {r : Nat ⊕ (Int32 × Sto)} {σ : Sto} {x1 : Int32} {x2 : Int32} {x3 : Int32} {x4 : Int32} {x5 : Int32} {x6 : Int32} (h : mX11_work_64 x1 x2 x3 x4 x5 x6 σ = some r) : G p l e (rmd 7 4 20) s m args below meth c E true (sZ σ) ad0 (vx_MQ below (QIx E true σ r ad0) (XX E true σ Int32 r ad0) args s 4 20 (AE E)) 9 1 6 σ 64 [(0, .ref 32), (1, .int x1), (2, .int x2), (3, .int x3), (4, .int x4), (5, .int x5), (6, .int x6)] [] := by
  unfold mX11_work_64 at h
  refine G_iconst C (v := 0) rfl dX11_work_64 ?_
  exact eX11_work_65 C hr hlx htb h
set_option maxRecDepth 100000 in
set_option maxHeartbeats 4000000 in
theorem dX11_work (hlx : l.stackTraces = false) {σ : Sto} {p0 : Int32} {p1 : Int32} {p2 : Int32} {p3 : Int32} {p4 : Int32} {p5 : Int32} {r : Nat ⊕ (Int32 × Sto)} (h : mX11_work p0 p1 p2 p3 p4 p5 σ = some r) : MX l yX11_work cX11_work 9 (some .int) 7 4 20 E true σ [.ref 32, .int p0, .int p1, .int p2, .int p3, .int p4, .int p5] Int32 r (QIx E true σ r) := by
  unfold mX11_work at h
  refine MX_of (by decide) (Nat.le_of_ble_eq_true rfl) rfl (fun p e s m args below meth c ad0 C hr htb => ?_)
  refine G_aload_n C 0 rfl rfl dX11_work_0 ?_
  refine G_iload_n C 1 rfl rfl dX11_work_1 ?_
  rcases bdp_elim h with ⟨x1, hv1, rfl⟩ | ⟨u1, hv1, h⟩
  · exact G_callVx_thr C htb (Nat.le_of_ble_eq_true rfl) (Nat.le_of_ble_eq_true rfl) (run_Vx C [.int p0] [] (dX11_needPerson hlx hv1) ml_X11_needPerson mv_X11_needPerson lk_X11_103 ⟨(Nat.le_of_ble_eq_true rfl), (Nat.le_of_ble_eq_true rfl)⟩ ⟨(Nat.le_of_ble_eq_true rfl), (Nat.le_of_ble_eq_true rfl)⟩ vq_10 rfl ko_32 rfl (Nat.le_of_ble_eq_true rfl) dX11_work_2)
  refine G_callVx (run_Vx C [.int p0] [] (dX11_needPerson hlx hv1) ml_X11_needPerson mv_X11_needPerson lk_X11_103 ⟨(Nat.le_of_ble_eq_true rfl), (Nat.le_of_ble_eq_true rfl)⟩ ⟨(Nat.le_of_ble_eq_true rfl), (Nat.le_of_ble_eq_true rfl)⟩ vq_10 rfl ko_32 rfl (Nat.le_of_ble_eq_true rfl) dX11_work_2) ?_
  refine G_iload_n C 2 rfl rfl dX11_work_5 ?_
  refine G_iconst C (v := 1) rfl dX11_work_6 ?_
  refine G_bipush C (v := 9) rfl dX11_work_7 ?_
  refine G_callI (run_S C [.int p1, .int (1 : Int32), .int (9 : Int32)] [] (dX11_isWithin rfl) ml_X11_isWithin ms_X11_isWithin lk_X11_78 ⟨(Nat.le_of_ble_eq_true rfl), (Nat.le_of_ble_eq_true rfl)⟩ ⟨(Nat.le_of_ble_eq_true rfl), (Nat.le_of_ble_eq_true rfl)⟩ rfl (Nat.le_of_ble_eq_true rfl) dX11_work_9) ?_
  refine G_if_eq (tgt := 64) C rfl dX11_work_12 (fun hc3 => ?_) (fun hc3 => ?_)
  · replace h := (if_pos hc3).symm.trans h
    exact eX11_work_64 C hr hlx htb h
  · replace h := (if_neg hc3).symm.trans h
    refine G_iload_n C 3 rfl rfl dX11_work_15 ?_
    refine G_iconst C (v := 1) rfl dX11_work_16 ?_
    refine G_bipush C (v := 99) rfl dX11_work_17 ?_
    refine G_callI (run_S C [.int p2, .int (1 : Int32), .int (99 : Int32)] [] (dX11_isWithin rfl) ml_X11_isWithin ms_X11_isWithin lk_X11_78 ⟨(Nat.le_of_ble_eq_true rfl), (Nat.le_of_ble_eq_true rfl)⟩ ⟨(Nat.le_of_ble_eq_true rfl), (Nat.le_of_ble_eq_true rfl)⟩ rfl (Nat.le_of_ble_eq_true rfl) dX11_work_19) ?_
    refine G_if_eq (tgt := 64) C rfl dX11_work_22 (fun hc18 => ?_) (fun hc18 => ?_)
    · replace h := (if_pos hc18).symm.trans h
      exact eX11_work_64 C hr hlx htb h
    · replace h := (if_neg hc18).symm.trans h
      refine G_iload C 4 rfl dX11_work_25 ?_
      refine G_iconst C (v := 0) rfl dX11_work_27 ?_
      refine G_ldc C kc_X11_106 dX11_work_28 ?_
      refine G_callI (run_S C [.int p3, .int (0 : Int32), .int (65535 : Int32)] [] (dX11_isWithin rfl) ml_X11_isWithin ms_X11_isWithin lk_X11_78 ⟨(Nat.le_of_ble_eq_true rfl), (Nat.le_of_ble_eq_true rfl)⟩ ⟨(Nat.le_of_ble_eq_true rfl), (Nat.le_of_ble_eq_true rfl)⟩ rfl (Nat.le_of_ble_eq_true rfl) dX11_work_30) ?_
      refine G_if_eq (tgt := 64) C rfl dX11_work_33 (fun hc20 => ?_) (fun hc20 => ?_)
      · replace h := (if_pos hc20).symm.trans h
        exact eX11_work_64 C hr hlx htb h
      · replace h := (if_neg hc20).symm.trans h
        refine G_iload C 5 rfl dX11_work_36 ?_
        refine G_iconst C (v := 1) rfl dX11_work_38 ?_
        refine G_sipush C (v := 999) rfl dX11_work_39 ?_
        refine G_callI (run_S C [.int p4, .int (1 : Int32), .int (999 : Int32)] [] (dX11_isWithin rfl) ml_X11_isWithin ms_X11_isWithin lk_X11_78 ⟨(Nat.le_of_ble_eq_true rfl), (Nat.le_of_ble_eq_true rfl)⟩ ⟨(Nat.le_of_ble_eq_true rfl), (Nat.le_of_ble_eq_true rfl)⟩ rfl (Nat.le_of_ble_eq_true rfl) dX11_work_42) ?_
        refine G_if_eq (tgt := 64) C rfl dX11_work_45 (fun hc22 => ?_) (fun hc22 => ?_)
        · replace h := (if_pos hc22).symm.trans h
          exact eX11_work_64 C hr hlx htb h
        · replace h := (if_neg hc22).symm.trans h
          refine G_iload C 6 rfl dX11_work_48 ?_
          refine G_iconst C (v := 1) rfl dX11_work_50 ?_
          refine G_sipush C (v := 999) rfl dX11_work_51 ?_
          refine G_callI (run_S C [.int p5, .int (1 : Int32), .int (999 : Int32)] [] (dX11_isWithin rfl) ml_X11_isWithin ms_X11_isWithin lk_X11_78 ⟨(Nat.le_of_ble_eq_true rfl), (Nat.le_of_ble_eq_true rfl)⟩ ⟨(Nat.le_of_ble_eq_true rfl), (Nat.le_of_ble_eq_true rfl)⟩ rfl (Nat.le_of_ble_eq_true rfl) dX11_work_54) ?_
          refine G_if_eq (tgt := 64) C rfl dX11_work_57 (fun hc24 => ?_) (fun hc24 => ?_)
          · replace h := (if_pos hc24).symm.trans h
            exact eX11_work_64 C hr hlx htb h
          · replace h := (if_neg hc24).symm.trans h
            refine G_iconst C (v := 1) rfl dX11_work_60 ?_
            refine G_goto (tgt := 65) C rfl dX11_work_61 ?_
            exact eX11_work_65 C hr hlx htb h
set_option maxRecDepth 100000 in
set_option maxHeartbeats 4000000 in
theorem dX11_needWork (hlx : l.stackTraces = false) {σ : Sto} {p0 : Int32} {r : Nat ⊕ Unit} (h : mX11_needWork p0 σ = some r) : MX l yX11_needWork cX11_needWork 2 none 6 1 6 E true σ [.ref 32, .int p0] Unit (embS σ r) (QVx E true σ (embS σ r)) := by
  unfold mX11_needWork at h
  refine MX_of (by decide) (Nat.le_of_ble_eq_true rfl) rfl (fun p e s m args below meth c ad0 C hr htb => ?_)
  refine G_iload_n C 1 rfl rfl dX11_needWork_0 ?_
  refine G_iconst C (v := 0) rfl dX11_needWork_1 ?_
  refine G_aload_n C 0 rfl rfl dX11_needWork_2 ?_
  refine G_getF C fl_X11_10_10 rfl rfl fn_32_0 dX11_needWork_3 ?_
  refine G_getI C fl_X11_107_1 (Or.inl rfl) ko_33 dX11_needWork_6 ?_
  refine G_iconst C (v := 1) rfl dX11_needWork_9 ?_
  refine G_isub C dX11_needWork_10 ?_
  refine G_callI (run_S C [.int p0, .int (0 : Int32), .int ((sI σ 33 5) - (1 : Int32))] [] (dX11_isWithin rfl) ml_X11_isWithin ms_X11_isWithin lk_X11_78 ⟨(Nat.le_of_ble_eq_true rfl), (Nat.le_of_ble_eq_true rfl)⟩ ⟨(Nat.le_of_ble_eq_true rfl), (Nat.le_of_ble_eq_true rfl)⟩ rfl (Nat.le_of_ble_eq_true rfl) dX11_needWork_11) ?_
  refine G_if_ne (tgt := 28) C rfl dX11_needWork_14 (fun hc2 => ?_) (fun hc2 => ?_)
  · replace h := (if_neg hc2).symm.trans h
    obtain rfl := Option.some.inj h
    exact G_vretx C hr (Nat.le_of_ble_eq_true rfl) (Nat.le_of_ble_eq_true rfl) dX11_needWork_28
  · replace h := (if_pos hc2).symm.trans h
    obtain rfl := Option.some.inj h
    exact G_throwW C hlx htb rfl (x := 0) rfl xw_202 nl_X11_198 xi_0 (List.mem_of_getElem? (l := msgs) (i := 2) rfl) (Nat.le_of_ble_eq_true rfl) (Nat.le_of_ble_eq_true rfl) (Nat.le_of_ble_eq_true rfl) (Nat.le_of_ble_eq_true rfl) (Nat.le_of_ble_eq_true rfl) (Nat.le_of_ble_eq_true rfl) dX11_needWork_17 dX11_needWork_20 dX11_needWork_21 dX11_needWork_24 dX11_needWork_27
set_option maxRecDepth 100000 in
set_option maxHeartbeats 4000000 in
theorem eX11_joins_54 (C : Cx E p s m args meth c cX11_joins 6 RX11) (hr : meth.sig.returnType = (some .int)) (hlx : l.stackTraces = false) (htb : ∀ x ∈ c.exceptionTable.toList, False) {r : Nat ⊕ (Int32 × Sto)} {σ : Sto} {x2 : Int32} {x3 : Int32} {x4 : Nat} {y0 : Int32} (h : mX11_joins_54 x2 x3 x4 y0 σ = some r) : G p l e (rmd 7 2 12) s m args below meth c E true (sZ σ) ad0 (vx_MQ below (QIx E true σ r ad0) (XX E true σ Int32 r ad0) args s 2 12 (AE E)) 6 2 12 σ 54 [(2, .int x2), (3, .int x3), (4, .ref x4)] [.int y0] := by
  unfold mX11_joins_54 at h
  refine G_istore (L' := [(5, .int y0), (2, .int x2), (3, .int x3), (4, .ref x4)]) C (Nat.le_of_ble_eq_true rfl) rfl dX11_joins_54 ?_
  refine G_iload C 0 rfl dX11_joins_56 ?_
  refine G_if_eq (tgt := 71) C rfl dX11_joins_58 (fun hc6 => ?_) (fun hc6 => ?_)
  · replace h := (if_pos hc6).symm.trans h
    refine G_iconst C (v := -1) rfl dX11_joins_71 ?_
    obtain rfl := Option.some.inj h
    exact G_iretx C hr (Nat.le_of_ble_eq_true rfl) (Nat.le_of_ble_eq_true rfl) dX11_joins_72
  · replace h := (if_neg hc6).symm.trans h
    refine G_iload_n C 2 rfl rfl dX11_joins_61 ?_
    refine G_iconst C (v := 1) rfl dX11_joins_62 ?_
    refine G_bipush C (v := 9) rfl dX11_joins_63 ?_
    refine G_callI (run_S C [.int x3, .int (1 : Int32), .int (9 : Int32)] [] (dX11_isWithin rfl) ml_X11_isWithin ms_X11_isWithin lk_X11_78 ⟨(Nat.le_of_ble_eq_true rfl), (Nat.le_of_ble_eq_true rfl)⟩ ⟨(Nat.le_of_ble_eq_true rfl), (Nat.le_of_ble_eq_true rfl)⟩ rfl (Nat.le_of_ble_eq_true rfl) dX11_joins_65) ?_
    refine G_if_ne (tgt := 73) C rfl dX11_joins_68 (fun hc8 => ?_) (fun hc8 => ?_)
    · replace h := (if_neg hc8).symm.trans h
      refine G_aload C 3 rfl dX11_joins_73 ?_
      refine G_iload_n C 1 rfl rfl dX11_joins_75 ?_
      refine G_iload_n C 2 rfl rfl dX11_joins_76 ?_
      obtain ⟨hc10, h⟩ := ifn h
      obtain ⟨σ9, hv9, h⟩ := bnd h
      refine G_callV (run_V C [.int x2, .int x3] [] (dX10_addArtist hc10 hv9) ml_X10_addArtist mv_X10_addArtist lk_X11_115 ⟨(Nat.le_of_ble_eq_true rfl), (Nat.le_of_ble_eq_true rfl)⟩ ⟨(Nat.le_of_ble_eq_true rfl), (Nat.le_of_ble_eq_true rfl)⟩ vq_9 rfl (KO.dy hc10) rfl (Nat.le_of_ble_eq_true rfl) dX11_joins_77) ?_
      refine G_aload C 3 rfl dX11_joins_80 ?_
      obtain ⟨hc11, h⟩ := ifn h
      refine G_getI C fl_X11_129_9 (Or.inl rfl) (KO.dy hc11) dX11_joins_82 ?_
      obtain rfl := Option.some.inj h
      exact G_iretx C hr (Nat.le_of_ble_eq_true rfl) (Nat.le_of_ble_eq_true rfl) dX11_joins_85
    · replace h := (if_pos hc8).symm.trans h
      refine G_iconst C (v := -1) rfl dX11_joins_71 ?_
      obtain rfl := Option.some.inj h
      exact G_iretx C hr (Nat.le_of_ble_eq_true rfl) (Nat.le_of_ble_eq_true rfl) dX11_joins_72
set_option maxRecDepth 100000 in
set_option maxHeartbeats 4000000 in
theorem eX11_joins_53 (C : Cx E p s m args meth c cX11_joins 6 RX11) (hr : meth.sig.returnType = (some .int)) (hlx : l.stackTraces = false) (htb : ∀ x ∈ c.exceptionTable.toList, False) {r : Nat ⊕ (Int32 × Sto)} {σ : Sto} {x2 : Int32} {x3 : Int32} {x4 : Nat} (h : mX11_joins_53 x2 x3 x4 σ = some r) : G p l e (rmd 7 2 12) s m args below meth c E true (sZ σ) ad0 (vx_MQ below (QIx E true σ r ad0) (XX E true σ Int32 r ad0) args s 2 12 (AE E)) 6 2 12 σ 53 [(2, .int x2), (3, .int x3), (4, .ref x4)] [] := by
  unfold mX11_joins_53 at h
  refine G_iconst C (v := 0) rfl dX11_joins_53 ?_
  exact eX11_joins_54 C hr hlx htb h
set_option maxRecDepth 100000 in
set_option maxHeartbeats 4000000 in
theorem dX11_joins (hlx : l.stackTraces = false) {σ : Sto} {p0 : Int32} {p1 : Int32} {p2 : Int32} {r : Nat ⊕ (Int32 × Sto)} (h : mX11_joins p0 p1 p2 σ = some r) : MX l yX11_joins cX11_joins 6 (some .int) 7 2 12 E true σ [.ref 32, .int p0, .int p1, .int p2] Int32 r (QIx E true σ r) := by
  unfold mX11_joins at h
  refine MX_of (by decide) (Nat.le_of_ble_eq_true rfl) rfl (fun p e s m args below meth c ad0 C hr htb => ?_)
  refine G_aload_n C 0 rfl rfl dX11_joins_0 ?_
  refine G_iload_n C 1 rfl rfl dX11_joins_1 ?_
  rcases bdp_elim h with ⟨x1, hv1, rfl⟩ | ⟨u1, hv1, h⟩
  · exact G_callVx_thr C htb (Nat.le_of_ble_eq_true rfl) (Nat.le_of_ble_eq_true rfl) (run_Vx C [.int p0] [] (dX11_needWork hlx hv1) ml_X11_needWork mv_X11_needWork lk_X11_122 ⟨(Nat.le_of_ble_eq_true rfl), (Nat.le_of_ble_eq_true rfl)⟩ ⟨(Nat.le_of_ble_eq_true rfl), (Nat.le_of_ble_eq_true rfl)⟩ vq_10 rfl ko_32 rfl (Nat.le_of_ble_eq_true rfl) dX11_joins_2)
  refine G_callVx (run_Vx C [.int p0] [] (dX11_needWork hlx hv1) ml_X11_needWork mv_X11_needWork lk_X11_122 ⟨(Nat.le_of_ble_eq_true rfl), (Nat.le_of_ble_eq_true rfl)⟩ ⟨(Nat.le_of_ble_eq_true rfl), (Nat.le_of_ble_eq_true rfl)⟩ vq_10 rfl ko_32 rfl (Nat.le_of_ble_eq_true rfl) dX11_joins_2) ?_
  refine G_aload_n C 0 rfl rfl dX11_joins_5 ?_
  refine G_iload_n C 2 rfl rfl dX11_joins_6 ?_
  rcases bdp_elim h with ⟨x2, hv2, rfl⟩ | ⟨u2, hv2, h⟩
  · exact G_callVx_thr C htb (Nat.le_of_ble_eq_true rfl) (Nat.le_of_ble_eq_true rfl) (run_Vx C [.int p1] [] (dX11_needPerson hlx hv2) ml_X11_needPerson mv_X11_needPerson lk_X11_103 ⟨(Nat.le_of_ble_eq_true rfl), (Nat.le_of_ble_eq_true rfl)⟩ ⟨(Nat.le_of_ble_eq_true rfl), (Nat.le_of_ble_eq_true rfl)⟩ vq_10 rfl ko_32 rfl (Nat.le_of_ble_eq_true rfl) dX11_joins_7)
  refine G_callVx (run_Vx C [.int p1] [] (dX11_needPerson hlx hv2) ml_X11_needPerson mv_X11_needPerson lk_X11_103 ⟨(Nat.le_of_ble_eq_true rfl), (Nat.le_of_ble_eq_true rfl)⟩ ⟨(Nat.le_of_ble_eq_true rfl), (Nat.le_of_ble_eq_true rfl)⟩ vq_10 rfl ko_32 rfl (Nat.le_of_ble_eq_true rfl) dX11_joins_7) ?_
  refine G_aload_n C 0 rfl rfl dX11_joins_10 ?_
  refine G_getF C fl_X11_10_10 rfl rfl fn_32_0 dX11_joins_11 ?_
  refine G_iload_n C 1 rfl rfl dX11_joins_14 ?_
  obtain ⟨v3, hv3, h⟩ := bnd h
  refine G_callR (run_V C [.int p0] [] (dX1_workAt hv3) ml_X1_workAt mv_X1_workAt lk_X11_125 ⟨(Nat.le_of_ble_eq_true rfl), (Nat.le_of_ble_eq_true rfl)⟩ ⟨(Nat.le_of_ble_eq_true rfl), (Nat.le_of_ble_eq_true rfl)⟩ vq_1 rfl ko_33 rfl (Nat.le_of_ble_eq_true rfl) dX11_joins_15) ?_
  refine G_astore (L' := [(4, .ref v3), (0, .ref 32), (1, .int p0), (2, .int p1), (3, .int p2)]) C (Nat.le_of_ble_eq_true rfl) rfl dX11_joins_18 ?_
  refine G_aload C 0 rfl dX11_joins_20 ?_
  obtain ⟨hc4, h⟩ := ifn h
  refine G_getI C fl_X11_129_9 (Or.inl rfl) (KO.dy hc4) dX11_joins_22 ?_
  refine G_iconst C (v := 3) rfl dX11_joins_25 ?_
  refine G_icmp_ge (tgt := 53) C rfl dX11_joins_26 (fun hc5 => ?_) (fun hc5 => ?_)
  · replace h := (if_pos hc5).symm.trans h
    refine G_sub [3, 4, 0] rfl ?_
    exact eX11_joins_53 C hr hlx htb h
  · replace h := (if_neg hc5).symm.trans h
    refine G_aload C 0 rfl dX11_joins_29 ?_
    refine G_iload_n C 3 rfl rfl dX11_joins_31 ?_
    obtain ⟨v12, hv12, h⟩ := bnd h
    refine G_callI (run_V C [.int p1] [] (dX10_isBy hc4 hv12) ml_X10_isBy mv_X10_isBy lk_X11_132 ⟨(Nat.le_of_ble_eq_true rfl), (Nat.le_of_ble_eq_true rfl)⟩ ⟨(Nat.le_of_ble_eq_true rfl), (Nat.le_of_ble_eq_true rfl)⟩ vq_9 rfl (KO.dy hc4) rfl (Nat.le_of_ble_eq_true rfl) dX11_joins_32) ?_
    refine G_if_ne (tgt := 53) C rfl dX11_joins_35 (fun hc13 => ?_) (fun hc13 => ?_)
    · replace h := (if_neg hc13).symm.trans h
      refine G_sub [3, 4, 0] rfl ?_
      exact eX11_joins_53 C hr hlx htb h
    · replace h := (if_pos hc13).symm.trans h
      refine G_aload_n C 1 rfl rfl dX11_joins_38 ?_
      refine G_getF C fl_X11_10_10 rfl rfl fn_32_0 dX11_joins_39 ?_
      refine G_iload_n C 2 rfl rfl dX11_joins_42 ?_
      obtain ⟨v14, hv14, h⟩ := bnd h
      refine G_callI (run_V C [.int p0] [] (dX1_wasEverSold hv14) ml_X1_wasEverSold mv_X1_wasEverSold lk_X11_135 ⟨(Nat.le_of_ble_eq_true rfl), (Nat.le_of_ble_eq_true rfl)⟩ ⟨(Nat.le_of_ble_eq_true rfl), (Nat.le_of_ble_eq_true rfl)⟩ vq_1 rfl ko_33 rfl (Nat.le_of_ble_eq_true rfl) dX11_joins_43) ?_
      refine G_if_ne (tgt := 53) C rfl dX11_joins_46 (fun hc15 => ?_) (fun hc15 => ?_)
      · replace h := (if_neg hc15).symm.trans h
        refine G_sub [3, 4, 0] rfl ?_
        exact eX11_joins_53 C hr hlx htb h
      · replace h := (if_pos hc15).symm.trans h
        refine G_iconst C (v := 1) rfl dX11_joins_49 ?_
        refine G_goto (tgt := 54) C rfl dX11_joins_50 ?_
        refine G_sub [3, 4, 0] rfl ?_
        exact eX11_joins_54 C hr hlx htb h
set_option maxRecDepth 100000 in
set_option maxHeartbeats 4000000 in
theorem dX11_society (hlx : l.stackTraces = false) {σ : Sto} {p0 : Int32} {p1 : Int32} {r : Nat ⊕ (Int32 × Sto)} (h : mX11_society p0 p1 σ = some r) : MX l yX11_society cX11_society 3 (some .int) 7 2 8 E true σ [.ref 32, .int p0, .int p1] Int32 r (QIx E true σ r) := by
  unfold mX11_society at h
  refine MX_of (by decide) (Nat.le_of_ble_eq_true rfl) rfl (fun p e s m args below meth c ad0 C hr htb => ?_)
  refine G_aload_n C 0 rfl rfl dX11_society_0 ?_
  refine G_iload_n C 1 rfl rfl dX11_society_1 ?_
  rcases bdp_elim h with ⟨x1, hv1, rfl⟩ | ⟨u1, hv1, h⟩
  · exact G_callVx_thr C htb (Nat.le_of_ble_eq_true rfl) (Nat.le_of_ble_eq_true rfl) (run_Vx C [.int p0] [] (dX11_needLand hlx hv1) ml_X11_needLand mv_X11_needLand lk_X11_66 ⟨(Nat.le_of_ble_eq_true rfl), (Nat.le_of_ble_eq_true rfl)⟩ ⟨(Nat.le_of_ble_eq_true rfl), (Nat.le_of_ble_eq_true rfl)⟩ vq_10 rfl ko_32 rfl (Nat.le_of_ble_eq_true rfl) dX11_society_2)
  refine G_callVx (run_Vx C [.int p0] [] (dX11_needLand hlx hv1) ml_X11_needLand mv_X11_needLand lk_X11_66 ⟨(Nat.le_of_ble_eq_true rfl), (Nat.le_of_ble_eq_true rfl)⟩ ⟨(Nat.le_of_ble_eq_true rfl), (Nat.le_of_ble_eq_true rfl)⟩ vq_10 rfl ko_32 rfl (Nat.le_of_ble_eq_true rfl) dX11_society_2) ?_
  refine G_aload_n C 0 rfl rfl dX11_society_5 ?_
  refine G_getF C fl_X11_10_10 rfl rfl fn_32_0 dX11_society_6 ?_
  refine G_getI C fl_X11_138_1 (Or.inl rfl) ko_33 dX11_society_9 ?_
  refine G_iconst C (v := 5) rfl dX11_society_12 ?_
  refine G_icmp_ge (tgt := 27) C rfl dX11_society_13 (fun hc2 => ?_) (fun hc2 => ?_)
  · replace h := (if_pos hc2).symm.trans h
    refine G_iconst C (v := -1) rfl dX11_society_27 ?_
    obtain rfl := Option.some.inj h
    exact G_iretx C hr (Nat.le_of_ble_eq_true rfl) (Nat.le_of_ble_eq_true rfl) dX11_society_28
  · replace h := (if_neg hc2).symm.trans h
    refine G_iload_n C 2 rfl rfl dX11_society_16 ?_
    refine G_iconst C (v := 0) rfl dX11_society_17 ?_
    refine G_sipush C (v := 300) rfl dX11_society_18 ?_
    refine G_callI (run_S C [.int p1, .int (0 : Int32), .int (300 : Int32)] [] (dX11_isWithin rfl) ml_X11_isWithin ms_X11_isWithin lk_X11_78 ⟨(Nat.le_of_ble_eq_true rfl), (Nat.le_of_ble_eq_true rfl)⟩ ⟨(Nat.le_of_ble_eq_true rfl), (Nat.le_of_ble_eq_true rfl)⟩ rfl (Nat.le_of_ble_eq_true rfl) dX11_society_21) ?_
    refine G_if_ne (tgt := 29) C rfl dX11_society_24 (fun hc4 => ?_) (fun hc4 => ?_)
    · replace h := (if_neg hc4).symm.trans h
      refine G_aload_n C 0 rfl rfl dX11_society_29 ?_
      refine G_getF C fl_X11_10_10 rfl rfl fn_32_0 dX11_society_30 ?_
      refine G_getF C fl_X11_141_1 rfl rfl fn_33_6 dX11_society_33 ?_
      refine G_aload_n C 0 rfl rfl dX11_society_36 ?_
      refine G_getF C fl_X11_10_10 rfl rfl fn_32_0 dX11_society_37 ?_
      refine G_getI C fl_X11_138_1 (Or.inl rfl) ko_33 dX11_society_40 ?_
      obtain ⟨σ5, hs5, h⟩ := stp_elim h
      refine G_new C vq_8 uw_X8 nl_X11_145 ni_X8.1 ni_X8.2 (Nat.le_of_ble_eq_true rfl) (Nat.le_of_ble_eq_true rfl) dX11_society_43 ?_
      rw [← hs5]
      have hc6 : sK σ5 (sZ σ) = 9 := by rw [hs5]; exact (nwK_K _ _ _ _).trans (if_pos rfl)
      refine G_dup C rfl dX11_society_46 ?_
      refine G_iload_n C 1 rfl rfl dX11_society_47 ?_
      refine G_iload_n C 2 rfl rfl dX11_society_48 ?_
      obtain ⟨σ7, hv7, h⟩ := bnd h
      refine G_callV (run_I (kd := 9) C [.int p0, .int p1] [.ref (sZ σ), .int (sI σ 33 7), .ref 36] (dX8_init hc6 hv7) ml_X8_init mi_X8_init lk_X11_147 ⟨(Nat.le_of_ble_eq_true rfl), (Nat.le_of_ble_eq_true rfl)⟩ ⟨(Nat.le_of_ble_eq_true rfl), (Nat.le_of_ble_eq_true rfl)⟩ (by decide) (KO.dy hc6) rfl (Nat.le_of_ble_eq_true rfl) dX11_society_49) ?_
      obtain ⟨hc8, h⟩ := ifn h
      obtain ⟨hc9, h⟩ := ifn h
      obtain ⟨σ10, hs10, h⟩ := stp_elim h
      refine G_aastore (t := 5) (ci := 8) C ⟨by decide, by decide⟩ vq_8 rfl ks_36 (KO.dy hc9) hc8 dX11_society_52 ?_
      rw [← hs10]
      have hc11 : sK σ10 (sZ σ) = 9 := by rw [hs10]; exact hc9
      refine G_aload_n C 0 rfl rfl dX11_society_53 ?_
      refine G_getF C fl_X11_10_10 rfl rfl fn_32_0 dX11_society_54 ?_
      refine G_dup C rfl dX11_society_57 ?_
      refine G_getI C fl_X11_138_1 (Or.inl rfl) ko_33 dX11_society_58 ?_
      refine G_iconst C (v := 1) rfl dX11_society_61 ?_
      refine G_iadd C dX11_society_62 ?_
      obtain ⟨σ12, hs12, h⟩ := stp_elim h
      refine G_putI C fl_X11_138_1 fp_X11_1_7 (Or.inl rfl) (Or.inl rfl) ko_33 dX11_society_63 ?_
      rw [← hs12]
      have hc13 : sK σ12 (sZ σ) = 9 := by rw [hs12]; exact hc11
      refine G_aload_n C 0 rfl rfl dX11_society_66 ?_
      refine G_getF C fl_X11_10_10 rfl rfl fn_32_0 dX11_society_67 ?_
      refine G_getI C fl_X11_138_1 (Or.inl rfl) ko_33 dX11_society_70 ?_
      refine G_iconst C (v := 1) rfl dX11_society_73 ?_
      refine G_isub C dX11_society_74 ?_
      obtain rfl := Option.some.inj h
      exact G_iretx C hr (Nat.le_of_ble_eq_true rfl) (Nat.le_of_ble_eq_true rfl) dX11_society_75
    · replace h := (if_pos hc4).symm.trans h
      refine G_iconst C (v := -1) rfl dX11_society_27 ?_
      obtain rfl := Option.some.inj h
      exact G_iretx C hr (Nat.le_of_ble_eq_true rfl) (Nat.le_of_ble_eq_true rfl) dX11_society_28
set_option maxRecDepth 100000 in
set_option maxHeartbeats 4000000 in
theorem eX11_evenings_19 (C : Cx E p s m args meth c cX11_evenings 2 RX11) (hr : meth.sig.returnType = (some .int)) (hlx : l.stackTraces = false) (htb : ∀ x ∈ c.exceptionTable.toList, False) {r : Nat ⊕ (Int32 × Sto)} {σ : Sto} (h : mX11_evenings_19 σ = some r) : G p l e (rmd 6 1 6) s m args below meth c E true (sZ σ) ad0 (vx_MQ below (QIx E true σ r ad0) (XX E true σ Int32 r ad0) args s 1 6 (AE E)) 2 0 0 σ 19 [] [] := by
  unfold mX11_evenings_19 at h
  obtain rfl := Option.some.inj h
  exact G_throw C hlx htb rfl (x := 1) rfl xw_155 nl_X11_151 xi_1 (List.mem_of_getElem? (l := msgs) (i := 3) rfl) (Nat.le_of_ble_eq_true rfl) (Nat.le_of_ble_eq_true rfl) (Nat.le_of_ble_eq_true rfl) (Nat.le_of_ble_eq_true rfl) (Nat.le_of_ble_eq_true rfl) (Nat.le_of_ble_eq_true rfl) dX11_evenings_19 dX11_evenings_22 dX11_evenings_23 dX11_evenings_25 dX11_evenings_28
set_option maxRecDepth 100000 in
set_option maxHeartbeats 4000000 in
theorem dX11_evenings (hlx : l.stackTraces = false) {σ : Sto} {p0 : Int32} {r : Nat ⊕ (Int32 × Sto)} (h : mX11_evenings p0 σ = some r) : MX l yX11_evenings cX11_evenings 2 (some .int) 6 1 6 E true σ [.ref 32, .int p0] Int32 r (QIx E true σ r) := by
  unfold mX11_evenings at h
  refine MX_of (by decide) (Nat.le_of_ble_eq_true rfl) rfl (fun p e s m args below meth c ad0 C hr htb => ?_)
  refine G_iload_n C 1 rfl rfl dX11_evenings_0 ?_
  refine G_if_lt (tgt := 19) C rfl dX11_evenings_1 (fun hc1 => ?_) (fun hc1 => ?_)
  · replace h := (if_pos hc1).symm.trans h
    refine G_sub [] rfl ?_
    exact eX11_evenings_19 C hr hlx htb h
  · replace h := (if_neg hc1).symm.trans h
    refine G_iload_n C 1 rfl rfl dX11_evenings_4 ?_
    refine G_sipush C (v := 999) rfl dX11_evenings_5 ?_
    refine G_aload_n C 0 rfl rfl dX11_evenings_8 ?_
    refine G_getF C fl_X11_10_10 rfl rfl fn_32_0 dX11_evenings_9 ?_
    refine G_getI C fl_X11_148_1 (Or.inl rfl) ko_33 dX11_evenings_12 ?_
    refine G_isub C dX11_evenings_15 ?_
    refine G_icmp_le (tgt := 29) C rfl dX11_evenings_16 (fun hc2 => ?_) (fun hc2 => ?_)
    · replace h := (if_pos hc2).symm.trans h
      refine G_aload_n C 0 rfl rfl dX11_evenings_29 ?_
      refine G_getF C fl_X11_10_10 rfl rfl fn_32_0 dX11_evenings_30 ?_
      refine G_dup C rfl dX11_evenings_33 ?_
      refine G_getI C fl_X11_148_1 (Or.inl rfl) ko_33 dX11_evenings_34 ?_
      refine G_iload_n C 1 rfl rfl dX11_evenings_37 ?_
      refine G_iadd C dX11_evenings_38 ?_
      obtain ⟨σ3, hs3, h⟩ := stp_elim h
      refine G_putI C fl_X11_148_1 fp_X11_1_0 (Or.inl rfl) (Or.inl rfl) ko_33 dX11_evenings_39 ?_
      rw [← hs3]
      refine G_aload_n C 0 rfl rfl dX11_evenings_42 ?_
      refine G_getF C fl_X11_10_10 rfl rfl fn_32_0 dX11_evenings_43 ?_
      refine G_getI C fl_X11_148_1 (Or.inl rfl) ko_33 dX11_evenings_46 ?_
      obtain rfl := Option.some.inj h
      exact G_iretx C hr (Nat.le_of_ble_eq_true rfl) (Nat.le_of_ble_eq_true rfl) dX11_evenings_49
    · replace h := (if_neg hc2).symm.trans h
      refine G_sub [] rfl ?_
      exact eX11_evenings_19 C hr hlx htb h
set_option maxRecDepth 100000 in
set_option maxHeartbeats 4000000 in
theorem dX11_death (hlx : l.stackTraces = false) {σ : Sto} {p0 : Int32} {p1 : Int32} {p2 : Int32} {r : Nat ⊕ (Int32 × Sto)} (h : mX11_death p0 p1 p2 σ = some r) : MX l yX11_death cX11_death 5 (some .int) 7 2 19 E true σ [.ref 32, .int p0, .int p1, .int p2] Int32 r (QIx E true σ r) := by
  unfold mX11_death at h
  refine MX_of (by decide) (Nat.le_of_ble_eq_true rfl) rfl (fun p e s m args below meth c ad0 C hr htb => ?_)
  refine G_aload_n C 0 rfl rfl dX11_death_0 ?_
  refine G_iload_n C 1 rfl rfl dX11_death_1 ?_
  rcases bdp_elim h with ⟨x1, hv1, rfl⟩ | ⟨u1, hv1, h⟩
  · exact G_callVx_thr C htb (Nat.le_of_ble_eq_true rfl) (Nat.le_of_ble_eq_true rfl) (run_Vx C [.int p0] [] (dX11_needPerson hlx hv1) ml_X11_needPerson mv_X11_needPerson lk_X11_103 ⟨(Nat.le_of_ble_eq_true rfl), (Nat.le_of_ble_eq_true rfl)⟩ ⟨(Nat.le_of_ble_eq_true rfl), (Nat.le_of_ble_eq_true rfl)⟩ vq_10 rfl ko_32 rfl (Nat.le_of_ble_eq_true rfl) dX11_death_2)
  refine G_callVx (run_Vx C [.int p0] [] (dX11_needPerson hlx hv1) ml_X11_needPerson mv_X11_needPerson lk_X11_103 ⟨(Nat.le_of_ble_eq_true rfl), (Nat.le_of_ble_eq_true rfl)⟩ ⟨(Nat.le_of_ble_eq_true rfl), (Nat.le_of_ble_eq_true rfl)⟩ vq_10 rfl ko_32 rfl (Nat.le_of_ble_eq_true rfl) dX11_death_2) ?_
  refine G_aload_n C 0 rfl rfl dX11_death_5 ?_
  refine G_getF C fl_X11_10_10 rfl rfl fn_32_0 dX11_death_6 ?_
  refine G_callI (run_V C [] [] (dX1_hasAllFacts rfl) ml_X1_hasAllFacts mv_X1_hasAllFacts lk_X11_158 ⟨(Nat.le_of_ble_eq_true rfl), (Nat.le_of_ble_eq_true rfl)⟩ ⟨(Nat.le_of_ble_eq_true rfl), (Nat.le_of_ble_eq_true rfl)⟩ vq_1 rfl ko_33 rfl (Nat.le_of_ble_eq_true rfl) dX11_death_9) ?_
  refine G_if_ne (tgt := 34) C rfl dX11_death_12 (fun hc3 => ?_) (fun hc3 => ?_)
  · replace h := (if_neg hc3).symm.trans h
    refine G_iconst C (v := -1) rfl dX11_death_34 ?_
    obtain rfl := Option.some.inj h
    exact G_iretx C hr (Nat.le_of_ble_eq_true rfl) (Nat.le_of_ble_eq_true rfl) dX11_death_35
  · replace h := (if_pos hc3).symm.trans h
    refine G_iload_n C 2 rfl rfl dX11_death_15 ?_
    refine G_callI (run_S C [.int p1] [] (dX11_isDay rfl) ml_X11_isDay ms_X11_isDay lk_X11_73 ⟨(Nat.le_of_ble_eq_true rfl), (Nat.le_of_ble_eq_true rfl)⟩ ⟨(Nat.le_of_ble_eq_true rfl), (Nat.le_of_ble_eq_true rfl)⟩ rfl (Nat.le_of_ble_eq_true rfl) dX11_death_16) ?_
    refine G_if_eq (tgt := 34) C rfl dX11_death_19 (fun hc5 => ?_) (fun hc5 => ?_)
    · replace h := (if_pos hc5).symm.trans h
      refine G_iconst C (v := -1) rfl dX11_death_34 ?_
      obtain rfl := Option.some.inj h
      exact G_iretx C hr (Nat.le_of_ble_eq_true rfl) (Nat.le_of_ble_eq_true rfl) dX11_death_35
    · replace h := (if_neg hc5).symm.trans h
      refine G_iload_n C 3 rfl rfl dX11_death_22 ?_
      refine G_callI (run_S C [.int p2] [] (dX11_isDay rfl) ml_X11_isDay ms_X11_isDay lk_X11_73 ⟨(Nat.le_of_ble_eq_true rfl), (Nat.le_of_ble_eq_true rfl)⟩ ⟨(Nat.le_of_ble_eq_true rfl), (Nat.le_of_ble_eq_true rfl)⟩ rfl (Nat.le_of_ble_eq_true rfl) dX11_death_23) ?_
      refine G_if_eq (tgt := 34) C rfl dX11_death_26 (fun hc7 => ?_) (fun hc7 => ?_)
      · replace h := (if_pos hc7).symm.trans h
        refine G_iconst C (v := -1) rfl dX11_death_34 ?_
        obtain rfl := Option.some.inj h
        exact G_iretx C hr (Nat.le_of_ble_eq_true rfl) (Nat.le_of_ble_eq_true rfl) dX11_death_35
      · replace h := (if_neg hc7).symm.trans h
        refine G_iload_n C 3 rfl rfl dX11_death_29 ?_
        refine G_iload_n C 2 rfl rfl dX11_death_30 ?_
        refine G_icmp_ge (tgt := 36) C rfl dX11_death_31 (fun hc8 => ?_) (fun hc8 => ?_)
        · replace h := (if_pos hc8).symm.trans h
          obtain ⟨σ9, hs9, h⟩ := stp_elim h
          refine G_new C vq_3 uw_X3 nl_X11_162 ni_X3.1 ni_X3.2 (Nat.le_of_ble_eq_true rfl) (Nat.le_of_ble_eq_true rfl) dX11_death_36 ?_
          rw [← hs9]
          have hc10 : sK σ9 (sZ σ) = 4 := by rw [hs9]; exact (nwK_K _ _ _ _).trans (if_pos rfl)
          refine G_dup C rfl dX11_death_39 ?_
          refine G_iconst C (v := 0) rfl dX11_death_40 ?_
          refine G_iconst C (v := -1) rfl dX11_death_41 ?_
          refine G_iload_n C 1 rfl rfl dX11_death_42 ?_
          refine G_iconst C (v := -1) rfl dX11_death_43 ?_
          refine G_iload_n C 2 rfl rfl dX11_death_44 ?_
          refine G_aload_n C 0 rfl rfl dX11_death_45 ?_
          refine G_getF C fl_X11_10_10 rfl rfl fn_32_0 dX11_death_46 ?_
          refine G_getI C fl_X11_148_1 (Or.inl rfl) ko_33 dX11_death_49 ?_
          obtain ⟨σ11, hv11, h⟩ := bnd h
          refine G_callV (run_I (kd := 4) C [.int (0 : Int32), .int (-1 : Int32), .int p0, .int (-1 : Int32), .int p1, .int (sI σ9 33 0)] [.ref (sZ σ)] (dX3_init hc10 hv11) ml_X3_init mi_X3_init lk_X11_164 ⟨(Nat.le_of_ble_eq_true rfl), (Nat.le_of_ble_eq_true rfl)⟩ ⟨(Nat.le_of_ble_eq_true rfl), (Nat.le_of_ble_eq_true rfl)⟩ (by decide) (KO.dy hc10) rfl (Nat.le_of_ble_eq_true rfl) dX11_death_52) ?_
          refine G_astore (L' := [(4, .ref (sZ σ)), (0, .ref 32), (1, .int p0), (2, .int p1), (3, .int p2)]) C (Nat.le_of_ble_eq_true rfl) rfl dX11_death_55 ?_
          refine G_aload C 0 rfl dX11_death_57 ?_
          refine G_iload_n C 4 rfl rfl dX11_death_59 ?_
          obtain ⟨hc12, h⟩ := ifn h
          obtain ⟨σ13, hs13, h⟩ := stp_elim h
          refine G_putI C fl_X11_167_3 fp_X11_3_7 (Or.inl rfl) (Or.inl rfl) (KO.dy hc12) dX11_death_60 ?_
          rw [← hs13]
          have hc14 : sK σ13 (sZ σ) = 4 := by rw [hs13]; exact hc12
          refine G_aload_n C 1 rfl rfl dX11_death_63 ?_
          refine G_getF C fl_X11_10_10 rfl rfl fn_32_0 dX11_death_64 ?_
          refine G_aload C 0 rfl dX11_death_67 ?_
          obtain ⟨v15, σ15, hv15, h⟩ := bd2_elim h
          refine G_callI (run_V C [.ref (sZ σ)] [] (dX1_addFact hv15) ml_X1_addFact mv_X1_addFact lk_X11_170 ⟨(Nat.le_of_ble_eq_true rfl), (Nat.le_of_ble_eq_true rfl)⟩ ⟨(Nat.le_of_ble_eq_true rfl), (Nat.le_of_ble_eq_true rfl)⟩ vq_1 rfl ko_33 rfl (Nat.le_of_ble_eq_true rfl) dX11_death_69) ?_
          obtain rfl := Option.some.inj h
          exact G_iretx C hr (Nat.le_of_ble_eq_true rfl) (Nat.le_of_ble_eq_true rfl) dX11_death_72
        · replace h := (if_neg hc8).symm.trans h
          refine G_iconst C (v := -1) rfl dX11_death_34 ?_
          obtain rfl := Option.some.inj h
          exact G_iretx C hr (Nat.le_of_ble_eq_true rfl) (Nat.le_of_ble_eq_true rfl) dX11_death_35
set_option maxRecDepth 100000 in
set_option maxHeartbeats 4000000 in
theorem dX11_heir (hlx : l.stackTraces = false) {σ : Sto} {p0 : Int32} {p1 : Int32} {p2 : Int32} {p3 : Int32} {r : Nat ⊕ (Int32 × Sto)} (h : mX11_heir p0 p1 p2 p3 σ = some r) : MX l yX11_heir cX11_heir 6 (some .int) 7 3 25 E true σ [.ref 32, .int p0, .int p1, .int p2, .int p3] Int32 r (QIx E true σ r) := by
  unfold mX11_heir at h
  refine MX_of (by decide) (Nat.le_of_ble_eq_true rfl) rfl (fun p e s m args below meth c ad0 C hr htb => ?_)
  refine G_aload_n C 0 rfl rfl dX11_heir_0 ?_
  refine G_iload_n C 1 rfl rfl dX11_heir_1 ?_
  rcases bdp_elim h with ⟨x1, hv1, rfl⟩ | ⟨u1, hv1, h⟩
  · exact G_callVx_thr C htb (Nat.le_of_ble_eq_true rfl) (Nat.le_of_ble_eq_true rfl) (run_Vx C [.int p0] [] (dX11_needPerson hlx hv1) ml_X11_needPerson mv_X11_needPerson lk_X11_103 ⟨(Nat.le_of_ble_eq_true rfl), (Nat.le_of_ble_eq_true rfl)⟩ ⟨(Nat.le_of_ble_eq_true rfl), (Nat.le_of_ble_eq_true rfl)⟩ vq_10 rfl ko_32 rfl (Nat.le_of_ble_eq_true rfl) dX11_heir_2)
  refine G_callVx (run_Vx C [.int p0] [] (dX11_needPerson hlx hv1) ml_X11_needPerson mv_X11_needPerson lk_X11_103 ⟨(Nat.le_of_ble_eq_true rfl), (Nat.le_of_ble_eq_true rfl)⟩ ⟨(Nat.le_of_ble_eq_true rfl), (Nat.le_of_ble_eq_true rfl)⟩ vq_10 rfl ko_32 rfl (Nat.le_of_ble_eq_true rfl) dX11_heir_2) ?_
  refine G_aload_n C 0 rfl rfl dX11_heir_5 ?_
  refine G_iload_n C 2 rfl rfl dX11_heir_6 ?_
  rcases bdp_elim h with ⟨x2, hv2, rfl⟩ | ⟨u2, hv2, h⟩
  · exact G_callVx_thr C htb (Nat.le_of_ble_eq_true rfl) (Nat.le_of_ble_eq_true rfl) (run_Vx C [.int p1] [] (dX11_needPerson hlx hv2) ml_X11_needPerson mv_X11_needPerson lk_X11_103 ⟨(Nat.le_of_ble_eq_true rfl), (Nat.le_of_ble_eq_true rfl)⟩ ⟨(Nat.le_of_ble_eq_true rfl), (Nat.le_of_ble_eq_true rfl)⟩ vq_10 rfl ko_32 rfl (Nat.le_of_ble_eq_true rfl) dX11_heir_7)
  refine G_callVx (run_Vx C [.int p1] [] (dX11_needPerson hlx hv2) ml_X11_needPerson mv_X11_needPerson lk_X11_103 ⟨(Nat.le_of_ble_eq_true rfl), (Nat.le_of_ble_eq_true rfl)⟩ ⟨(Nat.le_of_ble_eq_true rfl), (Nat.le_of_ble_eq_true rfl)⟩ vq_10 rfl ko_32 rfl (Nat.le_of_ble_eq_true rfl) dX11_heir_7) ?_
  refine G_aload_n C 0 rfl rfl dX11_heir_10 ?_
  refine G_getF C fl_X11_10_10 rfl rfl fn_32_0 dX11_heir_11 ?_
  refine G_callI (run_V C [] [] (dX1_hasAllFacts rfl) ml_X1_hasAllFacts mv_X1_hasAllFacts lk_X11_158 ⟨(Nat.le_of_ble_eq_true rfl), (Nat.le_of_ble_eq_true rfl)⟩ ⟨(Nat.le_of_ble_eq_true rfl), (Nat.le_of_ble_eq_true rfl)⟩ vq_1 rfl ko_33 rfl (Nat.le_of_ble_eq_true rfl) dX11_heir_14) ?_
  refine G_if_ne (tgt := 46) C rfl dX11_heir_17 (fun hc4 => ?_) (fun hc4 => ?_)
  · replace h := (if_neg hc4).symm.trans h
    refine G_iconst C (v := -1) rfl dX11_heir_46 ?_
    obtain rfl := Option.some.inj h
    exact G_iretx C hr (Nat.le_of_ble_eq_true rfl) (Nat.le_of_ble_eq_true rfl) dX11_heir_47
  · replace h := (if_pos hc4).symm.trans h
    refine G_iload_n C 1 rfl rfl dX11_heir_20 ?_
    refine G_iload_n C 2 rfl rfl dX11_heir_21 ?_
    refine G_icmp_eq (tgt := 46) C rfl dX11_heir_22 (fun hc5 => ?_) (fun hc5 => ?_)
    · replace h := (if_pos hc5).symm.trans h
      refine G_iconst C (v := -1) rfl dX11_heir_46 ?_
      obtain rfl := Option.some.inj h
      exact G_iretx C hr (Nat.le_of_ble_eq_true rfl) (Nat.le_of_ble_eq_true rfl) dX11_heir_47
    · replace h := (if_neg hc5).symm.trans h
      refine G_iload C 4 rfl dX11_heir_25 ?_
      refine G_iconst C (v := 1) rfl dX11_heir_27 ?_
      refine G_bipush C (v := 12) rfl dX11_heir_28 ?_
      refine G_callI (run_S C [.int p3, .int (1 : Int32), .int (12 : Int32)] [] (dX11_isWithin rfl) ml_X11_isWithin ms_X11_isWithin lk_X11_78 ⟨(Nat.le_of_ble_eq_true rfl), (Nat.le_of_ble_eq_true rfl)⟩ ⟨(Nat.le_of_ble_eq_true rfl), (Nat.le_of_ble_eq_true rfl)⟩ rfl (Nat.le_of_ble_eq_true rfl) dX11_heir_30) ?_
      refine G_if_eq (tgt := 46) C rfl dX11_heir_33 (fun hc7 => ?_) (fun hc7 => ?_)
      · replace h := (if_pos hc7).symm.trans h
        refine G_iconst C (v := -1) rfl dX11_heir_46 ?_
        obtain rfl := Option.some.inj h
        exact G_iretx C hr (Nat.le_of_ble_eq_true rfl) (Nat.le_of_ble_eq_true rfl) dX11_heir_47
      · replace h := (if_neg hc7).symm.trans h
        refine G_iload_n C 3 rfl rfl dX11_heir_36 ?_
        refine G_iconst C (v := 1) rfl dX11_heir_37 ?_
        refine G_iload C 4 rfl dX11_heir_38 ?_
        refine G_callI (run_S C [.int p2, .int (1 : Int32), .int p3] [] (dX11_isWithin rfl) ml_X11_isWithin ms_X11_isWithin lk_X11_78 ⟨(Nat.le_of_ble_eq_true rfl), (Nat.le_of_ble_eq_true rfl)⟩ ⟨(Nat.le_of_ble_eq_true rfl), (Nat.le_of_ble_eq_true rfl)⟩ rfl (Nat.le_of_ble_eq_true rfl) dX11_heir_40) ?_
        refine G_if_ne (tgt := 48) C rfl dX11_heir_43 (fun hc9 => ?_) (fun hc9 => ?_)
        · replace h := (if_neg hc9).symm.trans h
          refine G_aload_n C 0 rfl rfl dX11_heir_48 ?_
          refine G_getF C fl_X11_10_10 rfl rfl fn_32_0 dX11_heir_49 ?_
          refine G_iload_n C 1 rfl rfl dX11_heir_52 ?_
          obtain ⟨v10, hv10, h⟩ := bnd h
          refine G_callI (run_V C [.int p0] [] (dX1_inheritedOf hv10) ml_X1_inheritedOf mv_X1_inheritedOf lk_X11_174 ⟨(Nat.le_of_ble_eq_true rfl), (Nat.le_of_ble_eq_true rfl)⟩ ⟨(Nat.le_of_ble_eq_true rfl), (Nat.le_of_ble_eq_true rfl)⟩ vq_1 rfl ko_33 rfl (Nat.le_of_ble_eq_true rfl) dX11_heir_53) ?_
          refine G_iload_n C 3 rfl rfl dX11_heir_56 ?_
          refine G_iload C 4 rfl dX11_heir_57 ?_
          obtain ⟨v11, hv11, h⟩ := bnd h
          refine G_callI (run_S C [.int p2, .int p3] [.int v10] (dX11_twelfths hv11) ml_X11_twelfths ms_X11_twelfths lk_X11_178 ⟨(Nat.le_of_ble_eq_true rfl), (Nat.le_of_ble_eq_true rfl)⟩ ⟨(Nat.le_of_ble_eq_true rfl), (Nat.le_of_ble_eq_true rfl)⟩ rfl (Nat.le_of_ble_eq_true rfl) dX11_heir_59) ?_
          refine G_iadd C dX11_heir_62 ?_
          refine G_sipush C (v := 27720) rfl dX11_heir_63 ?_
          refine G_icmp_le (tgt := 71) C rfl dX11_heir_66 (fun hc12 => ?_) (fun hc12 => ?_)
          · replace h := (if_pos hc12).symm.trans h
            obtain ⟨σ13, hs13, h⟩ := stp_elim h
            refine G_new C vq_3 uw_X3 nl_X11_162 ni_X3.1 ni_X3.2 (Nat.le_of_ble_eq_true rfl) (Nat.le_of_ble_eq_true rfl) dX11_heir_71 ?_
            rw [← hs13]
            have hc14 : sK σ13 (sZ σ) = 4 := by rw [hs13]; exact (nwK_K _ _ _ _).trans (if_pos rfl)
            refine G_dup C rfl dX11_heir_74 ?_
            refine G_iconst C (v := 1) rfl dX11_heir_75 ?_
            refine G_iconst C (v := -1) rfl dX11_heir_76 ?_
            refine G_iload_n C 1 rfl rfl dX11_heir_77 ?_
            refine G_iload_n C 2 rfl rfl dX11_heir_78 ?_
            refine G_iconst C (v := -1) rfl dX11_heir_79 ?_
            refine G_aload_n C 0 rfl rfl dX11_heir_80 ?_
            refine G_getF C fl_X11_10_10 rfl rfl fn_32_0 dX11_heir_81 ?_
            refine G_getI C fl_X11_148_1 (Or.inl rfl) ko_33 dX11_heir_84 ?_
            obtain ⟨σ15, hv15, h⟩ := bnd h
            refine G_callV (run_I (kd := 4) C [.int (1 : Int32), .int (-1 : Int32), .int p0, .int p1, .int (-1 : Int32), .int (sI σ13 33 0)] [.ref (sZ σ)] (dX3_init hc14 hv15) ml_X3_init mi_X3_init lk_X11_164 ⟨(Nat.le_of_ble_eq_true rfl), (Nat.le_of_ble_eq_true rfl)⟩ ⟨(Nat.le_of_ble_eq_true rfl), (Nat.le_of_ble_eq_true rfl)⟩ (by decide) (KO.dy hc14) rfl (Nat.le_of_ble_eq_true rfl) dX11_heir_87) ?_
            refine G_astore (L' := [(5, .ref (sZ σ)), (0, .ref 32), (1, .int p0), (2, .int p1), (3, .int p2), (4, .int p3)]) C (Nat.le_of_ble_eq_true rfl) rfl dX11_heir_90 ?_
            refine G_aload C 0 rfl dX11_heir_92 ?_
            refine G_iload_n C 4 rfl rfl dX11_heir_94 ?_
            obtain ⟨hc16, h⟩ := ifn h
            obtain ⟨σ17, hs17, h⟩ := stp_elim h
            refine G_putI C fl_X11_182_3 fp_X11_3_8 (Or.inl rfl) (Or.inl rfl) (KO.dy hc16) dX11_heir_95 ?_
            rw [← hs17]
            have hc18 : sK σ17 (sZ σ) = 4 := by rw [hs17]; exact hc16
            refine G_aload C 0 rfl dX11_heir_98 ?_
            refine G_iload C 5 rfl dX11_heir_100 ?_
            obtain ⟨σ19, hs19, h⟩ := stp_elim h
            refine G_putI C fl_X11_185_3 fp_X11_3_9 (Or.inl rfl) (Or.inl rfl) (KO.dy hc18) dX11_heir_102 ?_
            rw [← hs19]
            have hc20 : sK σ19 (sZ σ) = 4 := by rw [hs19]; exact hc18
            refine G_aload_n C 1 rfl rfl dX11_heir_105 ?_
            refine G_getF C fl_X11_10_10 rfl rfl fn_32_0 dX11_heir_106 ?_
            refine G_aload C 0 rfl dX11_heir_109 ?_
            obtain ⟨v21, σ21, hv21, h⟩ := bd2_elim h
            refine G_callI (run_V C [.ref (sZ σ)] [] (dX1_addFact hv21) ml_X1_addFact mv_X1_addFact lk_X11_170 ⟨(Nat.le_of_ble_eq_true rfl), (Nat.le_of_ble_eq_true rfl)⟩ ⟨(Nat.le_of_ble_eq_true rfl), (Nat.le_of_ble_eq_true rfl)⟩ vq_1 rfl ko_33 rfl (Nat.le_of_ble_eq_true rfl) dX11_heir_111) ?_
            obtain rfl := Option.some.inj h
            exact G_iretx C hr (Nat.le_of_ble_eq_true rfl) (Nat.le_of_ble_eq_true rfl) dX11_heir_114
          · replace h := (if_neg hc12).symm.trans h
            refine G_iconst C (v := -1) rfl dX11_heir_69 ?_
            obtain rfl := Option.some.inj h
            exact G_iretx C hr (Nat.le_of_ble_eq_true rfl) (Nat.le_of_ble_eq_true rfl) dX11_heir_70
        · replace h := (if_pos hc9).symm.trans h
          refine G_iconst C (v := -1) rfl dX11_heir_46 ?_
          obtain rfl := Option.some.inj h
          exact G_iretx C hr (Nat.le_of_ble_eq_true rfl) (Nat.le_of_ble_eq_true rfl) dX11_heir_47
set_option maxRecDepth 100000 in
set_option maxHeartbeats 4000000 in
theorem eX11_sale_60 (C : Cx E p s m args meth c cX11_sale 10 RX11) (hr : meth.sig.returnType = (some .int)) (hlx : l.stackTraces = false) (htb : ∀ x ∈ c.exceptionTable.toList, False) {r : Nat ⊕ (Int32 × Sto)} {σ : Sto} {x1 : Int32} {x2 : Int32} {x3 : Int32} {x4 : Int32} {x5 : Int32} {x6 : Int32} {x7 : Int32} {y0 : Int32} (h : mX11_sale_60 x1 x2 x3 x4 x5 x6 x7 y0 σ = some r) : G p l e (rmd 7 5 37) s m args below meth c E true (sZ σ) ad0 (vx_MQ below (QIx E true σ r ad0) (XX E true σ Int32 r ad0) args s 5 37 (AE E)) 10 4 24 σ 60 [(0, .ref 32), (1, .int x1), (2, .int x2), (3, .int x3), (4, .int x4), (5, .int x5), (6, .int x6), (7, .int x7)] [.int y0] := by
  unfold mX11_sale_60 at h
  refine G_istore (L' := [(8, .int y0), (0, .ref 32), (1, .int x1), (2, .int x2), (3, .int x3), (4, .int x4), (5, .int x5), (6, .int x6), (7, .int x7)]) C (Nat.le_of_ble_eq_true rfl) rfl dX11_sale_60 ?_
  refine G_aload_n C 1 rfl rfl dX11_sale_62 ?_
  refine G_getF C fl_X11_10_10 rfl rfl fn_32_0 dX11_sale_63 ?_
  refine G_callI (run_V C [] [] (dX1_hasAllFacts rfl) ml_X1_hasAllFacts mv_X1_hasAllFacts lk_X11_158 ⟨(Nat.le_of_ble_eq_true rfl), (Nat.le_of_ble_eq_true rfl)⟩ ⟨(Nat.le_of_ble_eq_true rfl), (Nat.le_of_ble_eq_true rfl)⟩ vq_1 rfl ko_33 rfl (Nat.le_of_ble_eq_true rfl) dX11_sale_66) ?_
  refine G_if_ne (tgt := 77) C rfl dX11_sale_69 (fun hc7 => ?_) (fun hc7 => ?_)
  · replace h := (if_neg hc7).symm.trans h
    refine G_iconst C (v := -1) rfl dX11_sale_77 ?_
    obtain rfl := Option.some.inj h
    exact G_iretx C hr (Nat.le_of_ble_eq_true rfl) (Nat.le_of_ble_eq_true rfl) dX11_sale_78
  · replace h := (if_pos hc7).symm.trans h
    refine G_iload C 0 rfl dX11_sale_72 ?_
    refine G_if_ne (tgt := 79) C rfl dX11_sale_74 (fun hc8 => ?_) (fun hc8 => ?_)
    · replace h := (if_neg hc8).symm.trans h
      obtain ⟨σ9, hs9, h⟩ := stp_elim h
      refine G_new C vq_3 uw_X3 nl_X11_162 ni_X3.1 ni_X3.2 (Nat.le_of_ble_eq_true rfl) (Nat.le_of_ble_eq_true rfl) dX11_sale_79 ?_
      rw [← hs9]
      have hc10 : sK σ9 (sZ σ) = 4 := by rw [hs9]; exact (nwK_K _ _ _ _).trans (if_pos rfl)
      refine G_dup C rfl dX11_sale_82 ?_
      refine G_iconst C (v := 2) rfl dX11_sale_83 ?_
      refine G_iload_n C 2 rfl rfl dX11_sale_84 ?_
      refine G_iload_n C 3 rfl rfl dX11_sale_85 ?_
      refine G_iload_n C 4 rfl rfl dX11_sale_86 ?_
      refine G_iload C 5 rfl dX11_sale_87 ?_
      refine G_aload_n C 1 rfl rfl dX11_sale_89 ?_
      refine G_getF C fl_X11_10_10 rfl rfl fn_32_0 dX11_sale_90 ?_
      refine G_getI C fl_X11_148_1 (Or.inl rfl) ko_33 dX11_sale_93 ?_
      obtain ⟨σ11, hv11, h⟩ := bnd h
      refine G_callV (run_I (kd := 4) C [.int (2 : Int32), .int x1, .int x2, .int x3, .int x4, .int (sI σ9 33 0)] [.ref (sZ σ)] (dX3_init hc10 hv11) ml_X3_init mi_X3_init lk_X11_164 ⟨(Nat.le_of_ble_eq_true rfl), (Nat.le_of_ble_eq_true rfl)⟩ ⟨(Nat.le_of_ble_eq_true rfl), (Nat.le_of_ble_eq_true rfl)⟩ (by decide) (KO.dy hc10) rfl (Nat.le_of_ble_eq_true rfl) dX11_sale_96) ?_
      refine G_astore (L' := [(9, .ref (sZ σ)), (8, .int y0), (0, .ref 32), (1, .int x1), (2, .int x2), (3, .int x3), (4, .int x4), (5, .int x5), (6, .int x6), (7, .int x7)]) C (Nat.le_of_ble_eq_true rfl) rfl dX11_sale_99 ?_
      refine G_aload C 0 rfl dX11_sale_101 ?_
      refine G_iload C 7 rfl dX11_sale_103 ?_
      obtain ⟨hc12, h⟩ := ifn h
      obtain ⟨σ13, hs13, h⟩ := stp_elim h
      refine G_putI C fl_X11_189_3 fp_X11_3_10 (Or.inl rfl) (Or.inl rfl) (KO.dy hc12) dX11_sale_105 ?_
      rw [← hs13]
      have hc14 : sK σ13 (sZ σ) = 4 := by rw [hs13]; exact hc12
      refine G_aload C 0 rfl dX11_sale_108 ?_
      refine G_iload C 8 rfl dX11_sale_110 ?_
      obtain ⟨σ15, hs15, h⟩ := stp_elim h
      refine G_putI C fl_X11_192_3 fp_X11_3_11 (Or.inl rfl) (Or.inl rfl) (KO.dy hc14) dX11_sale_112 ?_
      rw [← hs15]
      have hc16 : sK σ15 (sZ σ) = 4 := by rw [hs15]; exact hc14
      refine G_aload C 0 rfl dX11_sale_115 ?_
      refine G_iload C 9 rfl dX11_sale_117 ?_
      obtain ⟨σ17, hs17, h⟩ := stp_elim h
      refine G_putI C fl_X11_195_3 fp_X11_3_12 (Or.inl rfl) (Or.inl rfl) (KO.dy hc16) dX11_sale_119 ?_
      rw [← hs17]
      have hc18 : sK σ17 (sZ σ) = 4 := by rw [hs17]; exact hc16
      refine G_aload_n C 2 rfl rfl dX11_sale_122 ?_
      refine G_getF C fl_X11_10_10 rfl rfl fn_32_0 dX11_sale_123 ?_
      refine G_aload C 0 rfl dX11_sale_126 ?_
      obtain ⟨v19, σ19, hv19, h⟩ := bd2_elim h
      refine G_callI (run_V C [.ref (sZ σ)] [] (dX1_addFact hv19) ml_X1_addFact mv_X1_addFact lk_X11_170 ⟨(Nat.le_of_ble_eq_true rfl), (Nat.le_of_ble_eq_true rfl)⟩ ⟨(Nat.le_of_ble_eq_true rfl), (Nat.le_of_ble_eq_true rfl)⟩ vq_1 rfl ko_33 rfl (Nat.le_of_ble_eq_true rfl) dX11_sale_128) ?_
      obtain rfl := Option.some.inj h
      exact G_iretx C hr (Nat.le_of_ble_eq_true rfl) (Nat.le_of_ble_eq_true rfl) dX11_sale_131
    · replace h := (if_pos hc8).symm.trans h
      refine G_iconst C (v := -1) rfl dX11_sale_77 ?_
      obtain rfl := Option.some.inj h
      exact G_iretx C hr (Nat.le_of_ble_eq_true rfl) (Nat.le_of_ble_eq_true rfl) dX11_sale_78
set_option maxRecDepth 100000 in
set_option maxHeartbeats 4000000 in
theorem eX11_sale_59 (C : Cx E p s m args meth c cX11_sale 10 RX11) (hr : meth.sig.returnType = (some .int)) (hlx : l.stackTraces = false) (htb : ∀ x ∈ c.exceptionTable.toList, False) {r : Nat ⊕ (Int32 × Sto)} {σ : Sto} {x1 : Int32} {x2 : Int32} {x3 : Int32} {x4 : Int32} {x5 : Int32} {x6 : Int32} {x7 : Int32} (h : mX11_sale_59 x1 x2 x3 x4 x5 x6 x7 σ = some r) : G p l e (rmd 7 5 37) s m args below meth c E true (sZ σ) ad0 (vx_MQ below (QIx E true σ r ad0) (XX E true σ Int32 r ad0) args s 5 37 (AE E)) 10 4 24 σ 59 [(0, .ref 32), (1, .int x1), (2, .int x2), (3, .int x3), (4, .int x4), (5, .int x5), (6, .int x6), (7, .int x7)] [] := by
  unfold mX11_sale_59 at h
  refine G_iconst C (v := 0) rfl dX11_sale_59 ?_
  exact eX11_sale_60 C hr hlx htb h
set_option maxRecDepth 100000 in
set_option maxHeartbeats 4000000 in
theorem dX11_sale (hlx : l.stackTraces = false) {σ : Sto} {p0 : Int32} {p1 : Int32} {p2 : Int32} {p3 : Int32} {p4 : Int32} {p5 : Int32} {p6 : Int32} {r : Nat ⊕ (Int32 × Sto)} (h : mX11_sale p0 p1 p2 p3 p4 p5 p6 σ = some r) : MX l yX11_sale cX11_sale 10 (some .int) 7 5 37 E true σ [.ref 32, .int p0, .int p1, .int p2, .int p3, .int p4, .int p5, .int p6] Int32 r (QIx E true σ r) := by
  unfold mX11_sale at h
  refine MX_of (by decide) (Nat.le_of_ble_eq_true rfl) rfl (fun p e s m args below meth c ad0 C hr htb => ?_)
  refine G_aload_n C 0 rfl rfl dX11_sale_0 ?_
  refine G_iload_n C 1 rfl rfl dX11_sale_1 ?_
  rcases bdp_elim h with ⟨x1, hv1, rfl⟩ | ⟨u1, hv1, h⟩
  · exact G_callVx_thr C htb (Nat.le_of_ble_eq_true rfl) (Nat.le_of_ble_eq_true rfl) (run_Vx C [.int p0] [] (dX11_needWork hlx hv1) ml_X11_needWork mv_X11_needWork lk_X11_122 ⟨(Nat.le_of_ble_eq_true rfl), (Nat.le_of_ble_eq_true rfl)⟩ ⟨(Nat.le_of_ble_eq_true rfl), (Nat.le_of_ble_eq_true rfl)⟩ vq_10 rfl ko_32 rfl (Nat.le_of_ble_eq_true rfl) dX11_sale_2)
  refine G_callVx (run_Vx C [.int p0] [] (dX11_needWork hlx hv1) ml_X11_needWork mv_X11_needWork lk_X11_122 ⟨(Nat.le_of_ble_eq_true rfl), (Nat.le_of_ble_eq_true rfl)⟩ ⟨(Nat.le_of_ble_eq_true rfl), (Nat.le_of_ble_eq_true rfl)⟩ vq_10 rfl ko_32 rfl (Nat.le_of_ble_eq_true rfl) dX11_sale_2) ?_
  refine G_aload_n C 0 rfl rfl dX11_sale_5 ?_
  refine G_iload_n C 2 rfl rfl dX11_sale_6 ?_
  rcases bdp_elim h with ⟨x2, hv2, rfl⟩ | ⟨u2, hv2, h⟩
  · exact G_callVx_thr C htb (Nat.le_of_ble_eq_true rfl) (Nat.le_of_ble_eq_true rfl) (run_Vx C [.int p1] [] (dX11_needPerson hlx hv2) ml_X11_needPerson mv_X11_needPerson lk_X11_103 ⟨(Nat.le_of_ble_eq_true rfl), (Nat.le_of_ble_eq_true rfl)⟩ ⟨(Nat.le_of_ble_eq_true rfl), (Nat.le_of_ble_eq_true rfl)⟩ vq_10 rfl ko_32 rfl (Nat.le_of_ble_eq_true rfl) dX11_sale_7)
  refine G_callVx (run_Vx C [.int p1] [] (dX11_needPerson hlx hv2) ml_X11_needPerson mv_X11_needPerson lk_X11_103 ⟨(Nat.le_of_ble_eq_true rfl), (Nat.le_of_ble_eq_true rfl)⟩ ⟨(Nat.le_of_ble_eq_true rfl), (Nat.le_of_ble_eq_true rfl)⟩ vq_10 rfl ko_32 rfl (Nat.le_of_ble_eq_true rfl) dX11_sale_7) ?_
  refine G_aload_n C 0 rfl rfl dX11_sale_10 ?_
  refine G_iload_n C 3 rfl rfl dX11_sale_11 ?_
  rcases bdp_elim h with ⟨x3, hv3, rfl⟩ | ⟨u3, hv3, h⟩
  · exact G_callVx_thr C htb (Nat.le_of_ble_eq_true rfl) (Nat.le_of_ble_eq_true rfl) (run_Vx C [.int p2] [] (dX11_needPerson hlx hv3) ml_X11_needPerson mv_X11_needPerson lk_X11_103 ⟨(Nat.le_of_ble_eq_true rfl), (Nat.le_of_ble_eq_true rfl)⟩ ⟨(Nat.le_of_ble_eq_true rfl), (Nat.le_of_ble_eq_true rfl)⟩ vq_10 rfl ko_32 rfl (Nat.le_of_ble_eq_true rfl) dX11_sale_12)
  refine G_callVx (run_Vx C [.int p2] [] (dX11_needPerson hlx hv3) ml_X11_needPerson mv_X11_needPerson lk_X11_103 ⟨(Nat.le_of_ble_eq_true rfl), (Nat.le_of_ble_eq_true rfl)⟩ ⟨(Nat.le_of_ble_eq_true rfl), (Nat.le_of_ble_eq_true rfl)⟩ vq_10 rfl ko_32 rfl (Nat.le_of_ble_eq_true rfl) dX11_sale_12) ?_
  refine G_aload_n C 0 rfl rfl dX11_sale_15 ?_
  refine G_iload C 5 rfl dX11_sale_16 ?_
  rcases bdp_elim h with ⟨x4, hv4, rfl⟩ | ⟨u4, hv4, h⟩
  · exact G_callVx_thr C htb (Nat.le_of_ble_eq_true rfl) (Nat.le_of_ble_eq_true rfl) (run_Vx C [.int p4] [] (dX11_needLand hlx hv4) ml_X11_needLand mv_X11_needLand lk_X11_66 ⟨(Nat.le_of_ble_eq_true rfl), (Nat.le_of_ble_eq_true rfl)⟩ ⟨(Nat.le_of_ble_eq_true rfl), (Nat.le_of_ble_eq_true rfl)⟩ vq_10 rfl ko_32 rfl (Nat.le_of_ble_eq_true rfl) dX11_sale_18)
  refine G_callVx (run_Vx C [.int p4] [] (dX11_needLand hlx hv4) ml_X11_needLand mv_X11_needLand lk_X11_66 ⟨(Nat.le_of_ble_eq_true rfl), (Nat.le_of_ble_eq_true rfl)⟩ ⟨(Nat.le_of_ble_eq_true rfl), (Nat.le_of_ble_eq_true rfl)⟩ vq_10 rfl ko_32 rfl (Nat.le_of_ble_eq_true rfl) dX11_sale_18) ?_
  refine G_iload_n C 2 rfl rfl dX11_sale_21 ?_
  refine G_iload_n C 3 rfl rfl dX11_sale_22 ?_
  refine G_icmp_eq (tgt := 59) C rfl dX11_sale_23 (fun hc5 => ?_) (fun hc5 => ?_)
  · replace h := (if_pos hc5).symm.trans h
    exact eX11_sale_59 C hr hlx htb h
  · replace h := (if_neg hc5).symm.trans h
    refine G_iload C 4 rfl dX11_sale_26 ?_
    refine G_callI (run_S C [.int p3] [] (dX11_isDay rfl) ml_X11_isDay ms_X11_isDay lk_X11_73 ⟨(Nat.le_of_ble_eq_true rfl), (Nat.le_of_ble_eq_true rfl)⟩ ⟨(Nat.le_of_ble_eq_true rfl), (Nat.le_of_ble_eq_true rfl)⟩ rfl (Nat.le_of_ble_eq_true rfl) dX11_sale_28) ?_
    refine G_if_eq (tgt := 59) C rfl dX11_sale_31 (fun hc21 => ?_) (fun hc21 => ?_)
    · replace h := (if_pos hc21).symm.trans h
      exact eX11_sale_59 C hr hlx htb h
    · replace h := (if_neg hc21).symm.trans h
      refine G_iload C 6 rfl dX11_sale_34 ?_
      refine G_iconst C (v := 1) rfl dX11_sale_36 ?_
      refine G_ldc C kc_X11_188 dX11_sale_37 ?_
      refine G_callI (run_S C [.int p5, .int (1 : Int32), .int (20000000 : Int32)] [] (dX11_isWithin rfl) ml_X11_isWithin ms_X11_isWithin lk_X11_78 ⟨(Nat.le_of_ble_eq_true rfl), (Nat.le_of_ble_eq_true rfl)⟩ ⟨(Nat.le_of_ble_eq_true rfl), (Nat.le_of_ble_eq_true rfl)⟩ rfl (Nat.le_of_ble_eq_true rfl) dX11_sale_39) ?_
      refine G_if_eq (tgt := 59) C rfl dX11_sale_42 (fun hc23 => ?_) (fun hc23 => ?_)
      · replace h := (if_pos hc23).symm.trans h
        exact eX11_sale_59 C hr hlx htb h
      · replace h := (if_neg hc23).symm.trans h
        refine G_iload C 7 rfl dX11_sale_45 ?_
        refine G_iconst C (v := 0) rfl dX11_sale_47 ?_
        refine G_iconst C (v := 3) rfl dX11_sale_48 ?_
        refine G_callI (run_S C [.int p6, .int (0 : Int32), .int (3 : Int32)] [] (dX11_isWithin rfl) ml_X11_isWithin ms_X11_isWithin lk_X11_78 ⟨(Nat.le_of_ble_eq_true rfl), (Nat.le_of_ble_eq_true rfl)⟩ ⟨(Nat.le_of_ble_eq_true rfl), (Nat.le_of_ble_eq_true rfl)⟩ rfl (Nat.le_of_ble_eq_true rfl) dX11_sale_49) ?_
        refine G_if_eq (tgt := 59) C rfl dX11_sale_52 (fun hc25 => ?_) (fun hc25 => ?_)
        · replace h := (if_pos hc25).symm.trans h
          exact eX11_sale_59 C hr hlx htb h
        · replace h := (if_neg hc25).symm.trans h
          refine G_iconst C (v := 1) rfl dX11_sale_55 ?_
          refine G_goto (tgt := 60) C rfl dX11_sale_56 ?_
          exact eX11_sale_60 C hr hlx htb h
set_option maxRecDepth 100000 in
set_option maxHeartbeats 4000000 in
theorem dX11_needSociety (hlx : l.stackTraces = false) {σ : Sto} {p0 : Int32} {r : Nat ⊕ Unit} (h : mX11_needSociety p0 σ = some r) : MX l yX11_needSociety cX11_needSociety 2 none 6 1 6 E true σ [.ref 32, .int p0] Unit (embS σ r) (QVx E true σ (embS σ r)) := by
  unfold mX11_needSociety at h
  refine MX_of (by decide) (Nat.le_of_ble_eq_true rfl) rfl (fun p e s m args below meth c ad0 C hr htb => ?_)
  refine G_iload_n C 1 rfl rfl dX11_needSociety_0 ?_
  refine G_iconst C (v := 0) rfl dX11_needSociety_1 ?_
  refine G_aload_n C 0 rfl rfl dX11_needSociety_2 ?_
  refine G_getF C fl_X11_10_10 rfl rfl fn_32_0 dX11_needSociety_3 ?_
  refine G_getI C fl_X11_138_1 (Or.inl rfl) ko_33 dX11_needSociety_6 ?_
  refine G_iconst C (v := 1) rfl dX11_needSociety_9 ?_
  refine G_isub C dX11_needSociety_10 ?_
  refine G_callI (run_S C [.int p0, .int (0 : Int32), .int ((sI σ 33 7) - (1 : Int32))] [] (dX11_isWithin rfl) ml_X11_isWithin ms_X11_isWithin lk_X11_78 ⟨(Nat.le_of_ble_eq_true rfl), (Nat.le_of_ble_eq_true rfl)⟩ ⟨(Nat.le_of_ble_eq_true rfl), (Nat.le_of_ble_eq_true rfl)⟩ rfl (Nat.le_of_ble_eq_true rfl) dX11_needSociety_11) ?_
  refine G_if_ne (tgt := 28) C rfl dX11_needSociety_14 (fun hc2 => ?_) (fun hc2 => ?_)
  · replace h := (if_neg hc2).symm.trans h
    obtain rfl := Option.some.inj h
    exact G_vretx C hr (Nat.le_of_ble_eq_true rfl) (Nat.le_of_ble_eq_true rfl) dX11_needSociety_28
  · replace h := (if_pos hc2).symm.trans h
    obtain rfl := Option.some.inj h
    exact G_throwW C hlx htb rfl (x := 0) rfl xw_202 nl_X11_198 xi_0 (List.mem_of_getElem? (l := msgs) (i := 5) rfl) (Nat.le_of_ble_eq_true rfl) (Nat.le_of_ble_eq_true rfl) (Nat.le_of_ble_eq_true rfl) (Nat.le_of_ble_eq_true rfl) (Nat.le_of_ble_eq_true rfl) (Nat.le_of_ble_eq_true rfl) dX11_needSociety_17 dX11_needSociety_20 dX11_needSociety_21 dX11_needSociety_24 dX11_needSociety_27
set_option maxRecDepth 100000 in
set_option maxHeartbeats 4000000 in
theorem eX11_fact_108 (C : Cx E p s m args meth c cX11_fact 8 RX11) (hr : meth.sig.returnType = (some .int)) (hlx : l.stackTraces = false) (htb : ∀ x ∈ c.exceptionTable.toList, False) {r : Nat ⊕ (Int32 × Sto)} {σ : Sto} {x1 : Int32} {x3 : Int32} {x5 : Int32} {x6 : Int32} {y0 : Int32} (h : mX11_fact_108 x1 x3 x5 x6 y0 σ = some r) : G p l e (rmd 7 4 31) s m args below meth c E true (sZ σ) ad0 (vx_MQ below (QIx E true σ r ad0) (XX E true σ Int32 r ad0) args s 4 31 (AE E)) 8 3 18 σ 108 [(0, .ref 32), (1, .int x1), (3, .int x3), (5, .int x5), (6, .int x6)] [.int y0] := by
  unfold mX11_fact_108 at h
  refine G_istore (L' := [(7, .int y0), (0, .ref 32), (1, .int x1), (3, .int x3), (5, .int x5), (6, .int x6)]) C (Nat.le_of_ble_eq_true rfl) rfl dX11_fact_108 ?_
  refine G_aload_n C 1 rfl rfl dX11_fact_110 ?_
  refine G_getF C fl_X11_10_10 rfl rfl fn_32_0 dX11_fact_111 ?_
  obtain ⟨σ14, hs14, h⟩ := stp_elim h
  refine G_new C vq_3 uw_X3 nl_X11_162 ni_X3.1 ni_X3.2 (Nat.le_of_ble_eq_true rfl) (Nat.le_of_ble_eq_true rfl) dX11_fact_114 ?_
  rw [← hs14]
  have hc15 : sK σ14 (sZ σ) = 4 := by rw [hs14]; exact (nwK_K _ _ _ _).trans (if_pos rfl)
  refine G_dup C rfl dX11_fact_117 ?_
  refine G_iload_n C 2 rfl rfl dX11_fact_118 ?_
  refine G_iload C 0 rfl dX11_fact_119 ?_
  refine G_iload_n C 3 rfl rfl dX11_fact_121 ?_
  refine G_iload C 5 rfl dX11_fact_122 ?_
  refine G_iload C 4 rfl dX11_fact_124 ?_
  refine G_aload_n C 1 rfl rfl dX11_fact_126 ?_
  refine G_getF C fl_X11_10_10 rfl rfl fn_32_0 dX11_fact_127 ?_
  refine G_getI C fl_X11_148_1 (Or.inl rfl) ko_33 dX11_fact_130 ?_
  obtain ⟨σ16, hv16, h⟩ := bnd h
  refine G_callV (run_I (kd := 4) C [.int x1, .int y0, .int x3, .int x6, .int x5, .int (sI σ14 33 0)] [.ref (sZ σ), .ref 33] (dX3_init hc15 hv16) ml_X3_init mi_X3_init lk_X11_164 ⟨(Nat.le_of_ble_eq_true rfl), (Nat.le_of_ble_eq_true rfl)⟩ ⟨(Nat.le_of_ble_eq_true rfl), (Nat.le_of_ble_eq_true rfl)⟩ (by decide) (KO.dy hc15) rfl (Nat.le_of_ble_eq_true rfl) dX11_fact_133) ?_
  obtain ⟨v17, σ17, hv17, h⟩ := bd2_elim h
  refine G_callI (run_V C [.ref (sZ σ)] [] (dX1_addFact hv17) ml_X1_addFact mv_X1_addFact lk_X11_170 ⟨(Nat.le_of_ble_eq_true rfl), (Nat.le_of_ble_eq_true rfl)⟩ ⟨(Nat.le_of_ble_eq_true rfl), (Nat.le_of_ble_eq_true rfl)⟩ vq_1 rfl ko_33 rfl (Nat.le_of_ble_eq_true rfl) dX11_fact_136) ?_
  obtain rfl := Option.some.inj h
  exact G_iretx C hr (Nat.le_of_ble_eq_true rfl) (Nat.le_of_ble_eq_true rfl) dX11_fact_139
set_option maxRecDepth 100000 in
set_option maxHeartbeats 4000000 in
theorem eX11_fact_96 (C : Cx E p s m args meth c cX11_fact 8 RX11) (hr : meth.sig.returnType = (some .int)) (hlx : l.stackTraces = false) (htb : ∀ x ∈ c.exceptionTable.toList, False) {r : Nat ⊕ (Int32 × Sto)} {σ : Sto} {x1 : Int32} {x2 : Int32} {x3 : Int32} {x5 : Int32} {y0 : Int32} (h : mX11_fact_96 x1 x2 x3 x5 y0 σ = some r) : G p l e (rmd 7 4 31) s m args below meth c E true (sZ σ) ad0 (vx_MQ below (QIx E true σ r ad0) (XX E true σ Int32 r ad0) args s 4 31 (AE E)) 8 3 18 σ 96 [(0, .ref 32), (1, .int x1), (2, .int x2), (3, .int x3), (5, .int x5)] [.int y0] := by
  unfold mX11_fact_96 at h
  refine G_istore (L' := [(6, .int y0), (0, .ref 32), (1, .int x1), (2, .int x2), (3, .int x3), (5, .int x5)]) C (Nat.le_of_ble_eq_true rfl) rfl dX11_fact_96 ?_
  refine G_iload_n C 2 rfl rfl dX11_fact_98 ?_
  refine G_iconst C (v := 5) rfl dX11_fact_99 ?_
  refine G_icmp_ne (tgt := 107) C rfl dX11_fact_100 (fun hc13 => ?_) (fun hc13 => ?_)
  · replace h := (if_neg hc13).symm.trans h
    refine G_iload_n C 3 rfl rfl dX11_fact_107 ?_
    refine G_sub [1, 2, 4, 5, 0] rfl ?_
    exact eX11_fact_108 C hr hlx htb h
  · replace h := (if_pos hc13).symm.trans h
    refine G_iconst C (v := -1) rfl dX11_fact_103 ?_
    refine G_goto (tgt := 108) C rfl dX11_fact_104 ?_
    refine G_sub [1, 2, 4, 5, 0] rfl ?_
    exact eX11_fact_108 C hr hlx htb h
set_option maxRecDepth 100000 in
set_option maxHeartbeats 4000000 in
theorem eX11_fact_85 (C : Cx E p s m args meth c cX11_fact 8 RX11) (hr : meth.sig.returnType = (some .int)) (hlx : l.stackTraces = false) (htb : ∀ x ∈ c.exceptionTable.toList, False) {r : Nat ⊕ (Int32 × Sto)} {σ : Sto} {x1 : Int32} {x2 : Int32} {x3 : Int32} {x4 : Int32} {x5 : Int32} (h : mX11_fact_85 x1 x2 x3 x4 x5 σ = some r) : G p l e (rmd 7 4 31) s m args below meth c E true (sZ σ) ad0 (vx_MQ below (QIx E true σ r ad0) (XX E true σ Int32 r ad0) args s 4 31 (AE E)) 8 3 18 σ 85 [(0, .ref 32), (1, .int x1), (2, .int x2), (3, .int x3), (4, .int x4), (5, .int x5)] [] := by
  unfold mX11_fact_85 at h
  refine G_iload_n C 1 rfl rfl dX11_fact_85 ?_
  refine G_iconst C (v := 4) rfl dX11_fact_86 ?_
  refine G_icmp_ne (tgt := 94) C rfl dX11_fact_87 (fun hc12 => ?_) (fun hc12 => ?_)
  · replace h := (if_neg hc12).symm.trans h
    refine G_iload C 4 rfl dX11_fact_94 ?_
    refine G_sub [0, 1, 2, 3, 5] rfl ?_
    exact eX11_fact_96 C hr hlx htb h
  · replace h := (if_pos hc12).symm.trans h
    refine G_iload_n C 3 rfl rfl dX11_fact_90 ?_
    refine G_goto (tgt := 96) C rfl dX11_fact_91 ?_
    refine G_sub [0, 1, 2, 3, 5] rfl ?_
    exact eX11_fact_96 C hr hlx htb h
set_option maxRecDepth 100000 in
set_option maxHeartbeats 4000000 in
theorem eX11_fact_54 (C : Cx E p s m args meth c cX11_fact 8 RX11) (hr : meth.sig.returnType = (some .int)) (hlx : l.stackTraces = false) (htb : ∀ x ∈ c.exceptionTable.toList, False) {r : Nat ⊕ (Int32 × Sto)} {σ : Sto} {x1 : Int32} {x2 : Int32} {x3 : Int32} {x4 : Int32} {x5 : Int32} (h : mX11_fact_54 x1 x2 x3 x4 x5 σ = some r) : G p l e (rmd 7 4 31) s m args below meth c E true (sZ σ) ad0 (vx_MQ below (QIx E true σ r ad0) (XX E true σ Int32 r ad0) args s 4 31 (AE E)) 8 3 18 σ 54 [(0, .ref 32), (1, .int x1), (2, .int x2), (3, .int x3), (4, .int x4), (5, .int x5)] [] := by
  unfold mX11_fact_54 at h
  refine G_aload_n C 0 rfl rfl dX11_fact_54 ?_
  refine G_getF C fl_X11_10_10 rfl rfl fn_32_0 dX11_fact_55 ?_
  refine G_callI (run_V C [] [] (dX1_hasAllFacts rfl) ml_X1_hasAllFacts mv_X1_hasAllFacts lk_X11_158 ⟨(Nat.le_of_ble_eq_true rfl), (Nat.le_of_ble_eq_true rfl)⟩ ⟨(Nat.le_of_ble_eq_true rfl), (Nat.le_of_ble_eq_true rfl)⟩ vq_1 rfl ko_33 rfl (Nat.le_of_ble_eq_true rfl) dX11_fact_58) ?_
  refine G_if_ne (tgt := 83) C rfl dX11_fact_61 (fun hc8 => ?_) (fun hc8 => ?_)
  · replace h := (if_neg hc8).symm.trans h
    refine G_iconst C (v := -1) rfl dX11_fact_83 ?_
    obtain rfl := Option.some.inj h
    exact G_iretx C hr (Nat.le_of_ble_eq_true rfl) (Nat.le_of_ble_eq_true rfl) dX11_fact_84
  · replace h := (if_pos hc8).symm.trans h
    refine G_iload C 5 rfl dX11_fact_64 ?_
    refine G_callI (run_S C [.int x5] [] (dX11_isDay rfl) ml_X11_isDay ms_X11_isDay lk_X11_73 ⟨(Nat.le_of_ble_eq_true rfl), (Nat.le_of_ble_eq_true rfl)⟩ ⟨(Nat.le_of_ble_eq_true rfl), (Nat.le_of_ble_eq_true rfl)⟩ rfl (Nat.le_of_ble_eq_true rfl) dX11_fact_66) ?_
    refine G_if_eq (tgt := 83) C rfl dX11_fact_69 (fun hc10 => ?_) (fun hc10 => ?_)
    · replace h := (if_pos hc10).symm.trans h
      refine G_iconst C (v := -1) rfl dX11_fact_83 ?_
      obtain rfl := Option.some.inj h
      exact G_iretx C hr (Nat.le_of_ble_eq_true rfl) (Nat.le_of_ble_eq_true rfl) dX11_fact_84
    · replace h := (if_neg hc10).symm.trans h
      refine G_iload_n C 1 rfl rfl dX11_fact_72 ?_
      refine G_iconst C (v := 3) rfl dX11_fact_73 ?_
      refine G_icmp_ne (tgt := 85) C rfl dX11_fact_74 (fun hc11 => ?_) (fun hc11 => ?_)
      · replace h := (if_neg hc11).symm.trans h
        exact eX11_fact_85 C hr hlx htb h
      · replace h := (if_pos hc11).symm.trans h
        refine G_iload_n C 3 rfl rfl dX11_fact_77 ?_
        refine G_iload C 4 rfl dX11_fact_78 ?_
        refine G_icmp_ne (tgt := 85) C rfl dX11_fact_80 (fun hc18 => ?_) (fun hc18 => ?_)
        · replace h := (if_neg hc18).symm.trans h
          exact eX11_fact_85 C hr hlx htb h
        · replace h := (if_pos hc18).symm.trans h
          refine G_iconst C (v := -1) rfl dX11_fact_83 ?_
          obtain rfl := Option.some.inj h
          exact G_iretx C hr (Nat.le_of_ble_eq_true rfl) (Nat.le_of_ble_eq_true rfl) dX11_fact_84
set_option maxRecDepth 100000 in
set_option maxHeartbeats 4000000 in
theorem eX11_fact_43 (C : Cx E p s m args meth c cX11_fact 8 RX11) (hr : meth.sig.returnType = (some .int)) (hlx : l.stackTraces = false) (htb : ∀ x ∈ c.exceptionTable.toList, False) {r : Nat ⊕ (Int32 × Sto)} {σ : Sto} {x1 : Int32} {x2 : Int32} {x3 : Int32} {x4 : Int32} {x5 : Int32} (h : mX11_fact_43 x1 x2 x3 x4 x5 σ = some r) : G p l e (rmd 7 4 31) s m args below meth c E true (sZ σ) ad0 (vx_MQ below (QIx E true σ r ad0) (XX E true σ Int32 r ad0) args s 4 31 (AE E)) 8 2 12 σ 43 [(0, .ref 32), (1, .int x1), (2, .int x2), (3, .int x3), (4, .int x4), (5, .int x5)] [] := by
  unfold mX11_fact_43 at h
  refine G_iload_n C 1 rfl rfl dX11_fact_43 ?_
  refine G_iconst C (v := 3) rfl dX11_fact_44 ?_
  refine G_icmp_ne (tgt := 54) C rfl dX11_fact_45 (fun hc6 => ?_) (fun hc6 => ?_)
  · replace h := (if_neg hc6).symm.trans h
    refine G_widen (k1 := 3) (k2 := 18) (Nat.le_of_ble_eq_true rfl) (Nat.le_of_ble_eq_true rfl) ?_
    exact eX11_fact_54 C hr hlx htb h
  · replace h := (if_pos hc6).symm.trans h
    refine G_aload_n C 0 rfl rfl dX11_fact_48 ?_
    refine G_iload C 4 rfl dX11_fact_49 ?_
    rcases bdp_elim h with ⟨x19, hv19, rfl⟩ | ⟨u19, hv19, h⟩
    · exact G_callVx_thr C htb (Nat.le_of_ble_eq_true rfl) (Nat.le_of_ble_eq_true rfl) (run_Vx C [.int x4] [] (dX11_needPerson hlx hv19) ml_X11_needPerson mv_X11_needPerson lk_X11_103 ⟨(Nat.le_of_ble_eq_true rfl), (Nat.le_of_ble_eq_true rfl)⟩ ⟨(Nat.le_of_ble_eq_true rfl), (Nat.le_of_ble_eq_true rfl)⟩ vq_10 rfl ko_32 rfl (Nat.le_of_ble_eq_true rfl) dX11_fact_51)
    refine G_callVx (run_Vx C [.int x4] [] (dX11_needPerson hlx hv19) ml_X11_needPerson mv_X11_needPerson lk_X11_103 ⟨(Nat.le_of_ble_eq_true rfl), (Nat.le_of_ble_eq_true rfl)⟩ ⟨(Nat.le_of_ble_eq_true rfl), (Nat.le_of_ble_eq_true rfl)⟩ vq_10 rfl ko_32 rfl (Nat.le_of_ble_eq_true rfl) dX11_fact_51) ?_
    exact eX11_fact_54 C hr hlx htb h
set_option maxRecDepth 100000 in
set_option maxHeartbeats 4000000 in
theorem dX11_fact (hlx : l.stackTraces = false) {σ : Sto} {p0 : Int32} {p1 : Int32} {p2 : Int32} {p3 : Int32} {p4 : Int32} {r : Nat ⊕ (Int32 × Sto)} (h : mX11_fact p0 p1 p2 p3 p4 σ = some r) : MX l yX11_fact cX11_fact 8 (some .int) 7 4 31 E true σ [.ref 32, .int p0, .int p1, .int p2, .int p3, .int p4] Int32 r (QIx E true σ r) := by
  unfold mX11_fact at h
  refine MX_of (by decide) (Nat.le_of_ble_eq_true rfl) rfl (fun p e s m args below meth c ad0 C hr htb => ?_)
  refine G_iload_n C 1 rfl rfl dX11_fact_0 ?_
  refine G_iconst C (v := 3) rfl dX11_fact_1 ?_
  refine G_iconst C (v := 5) rfl dX11_fact_2 ?_
  refine G_callI (run_S C [.int p0, .int (3 : Int32), .int (5 : Int32)] [] (dX11_isWithin rfl) ml_X11_isWithin ms_X11_isWithin lk_X11_78 ⟨(Nat.le_of_ble_eq_true rfl), (Nat.le_of_ble_eq_true rfl)⟩ ⟨(Nat.le_of_ble_eq_true rfl), (Nat.le_of_ble_eq_true rfl)⟩ rfl (Nat.le_of_ble_eq_true rfl) dX11_fact_3) ?_
  refine G_if_ne (tgt := 19) C rfl dX11_fact_6 (fun hc2 => ?_) (fun hc2 => ?_)
  · replace h := (if_neg hc2).symm.trans h
    refine G_aload_n C 0 rfl rfl dX11_fact_19 ?_
    refine G_iload_n C 3 rfl rfl dX11_fact_20 ?_
    rcases bdp_elim h with ⟨x3, hv3, rfl⟩ | ⟨u3, hv3, h⟩
    · exact G_callVx_thr C htb (Nat.le_of_ble_eq_true rfl) (Nat.le_of_ble_eq_true rfl) (run_Vx C [.int p2] [] (dX11_needPerson hlx hv3) ml_X11_needPerson mv_X11_needPerson lk_X11_103 ⟨(Nat.le_of_ble_eq_true rfl), (Nat.le_of_ble_eq_true rfl)⟩ ⟨(Nat.le_of_ble_eq_true rfl), (Nat.le_of_ble_eq_true rfl)⟩ vq_10 rfl ko_32 rfl (Nat.le_of_ble_eq_true rfl) dX11_fact_21)
    refine G_callVx (run_Vx C [.int p2] [] (dX11_needPerson hlx hv3) ml_X11_needPerson mv_X11_needPerson lk_X11_103 ⟨(Nat.le_of_ble_eq_true rfl), (Nat.le_of_ble_eq_true rfl)⟩ ⟨(Nat.le_of_ble_eq_true rfl), (Nat.le_of_ble_eq_true rfl)⟩ vq_10 rfl ko_32 rfl (Nat.le_of_ble_eq_true rfl) dX11_fact_21) ?_
    refine G_iload_n C 1 rfl rfl dX11_fact_24 ?_
    refine G_iconst C (v := 5) rfl dX11_fact_25 ?_
    refine G_icmp_ne (tgt := 38) C rfl dX11_fact_26 (fun hc4 => ?_) (fun hc4 => ?_)
    · replace h := (if_neg hc4).symm.trans h
      refine G_aload_n C 0 rfl rfl dX11_fact_38 ?_
      refine G_iload_n C 2 rfl rfl dX11_fact_39 ?_
      rcases bdp_elim h with ⟨x5, hv5, rfl⟩ | ⟨u5, hv5, h⟩
      · exact G_callVx_thr C htb (Nat.le_of_ble_eq_true rfl) (Nat.le_of_ble_eq_true rfl) (run_Vx C [.int p1] [] (dX11_needWork hlx hv5) ml_X11_needWork mv_X11_needWork lk_X11_122 ⟨(Nat.le_of_ble_eq_true rfl), (Nat.le_of_ble_eq_true rfl)⟩ ⟨(Nat.le_of_ble_eq_true rfl), (Nat.le_of_ble_eq_true rfl)⟩ vq_10 rfl ko_32 rfl (Nat.le_of_ble_eq_true rfl) dX11_fact_40)
      refine G_callVx (run_Vx C [.int p1] [] (dX11_needWork hlx hv5) ml_X11_needWork mv_X11_needWork lk_X11_122 ⟨(Nat.le_of_ble_eq_true rfl), (Nat.le_of_ble_eq_true rfl)⟩ ⟨(Nat.le_of_ble_eq_true rfl), (Nat.le_of_ble_eq_true rfl)⟩ vq_10 rfl ko_32 rfl (Nat.le_of_ble_eq_true rfl) dX11_fact_40) ?_
      exact eX11_fact_43 C hr hlx htb h
    · replace h := (if_pos hc4).symm.trans h
      refine G_aload_n C 0 rfl rfl dX11_fact_29 ?_
      refine G_iload C 4 rfl dX11_fact_30 ?_
      rcases bdp_elim h with ⟨x20, hv20, rfl⟩ | ⟨u20, hv20, h⟩
      · exact G_callVx_thr C htb (Nat.le_of_ble_eq_true rfl) (Nat.le_of_ble_eq_true rfl) (run_Vx C [.int p3] [] (dX11_needSociety hlx hv20) ml_X11_needSociety mv_X11_needSociety lk_X11_203 ⟨(Nat.le_of_ble_eq_true rfl), (Nat.le_of_ble_eq_true rfl)⟩ ⟨(Nat.le_of_ble_eq_true rfl), (Nat.le_of_ble_eq_true rfl)⟩ vq_10 rfl ko_32 rfl (Nat.le_of_ble_eq_true rfl) dX11_fact_32)
      refine G_callVx (run_Vx C [.int p3] [] (dX11_needSociety hlx hv20) ml_X11_needSociety mv_X11_needSociety lk_X11_203 ⟨(Nat.le_of_ble_eq_true rfl), (Nat.le_of_ble_eq_true rfl)⟩ ⟨(Nat.le_of_ble_eq_true rfl), (Nat.le_of_ble_eq_true rfl)⟩ vq_10 rfl ko_32 rfl (Nat.le_of_ble_eq_true rfl) dX11_fact_32) ?_
      refine G_goto (tgt := 43) C rfl dX11_fact_35 ?_
      exact eX11_fact_43 C hr hlx htb h
  · replace h := (if_pos hc2).symm.trans h
    obtain rfl := Option.some.inj h
    exact G_throw C hlx htb rfl (x := 0) rfl xw_202 nl_X11_198 xi_0 (List.mem_of_getElem? (l := msgs) (i := 4) rfl) (Nat.le_of_ble_eq_true rfl) (Nat.le_of_ble_eq_true rfl) (Nat.le_of_ble_eq_true rfl) (Nat.le_of_ble_eq_true rfl) (Nat.le_of_ble_eq_true rfl) (Nat.le_of_ble_eq_true rfl) dX11_fact_9 dX11_fact_12 dX11_fact_13 dX11_fact_15 dX11_fact_18
set_option maxRecDepth 100000 in
set_option maxHeartbeats 4000000 in
theorem eX11_back_64 (C : Cx E p s m args meth c cX11_back 4 RX11) (hr : meth.sig.returnType = (some .boolean)) (hlx : l.stackTraces = false) (htb : ∀ x ∈ c.exceptionTable.toList, False) {r : Nat ⊕ (Int32 × Sto)} {σ : Sto} {y0 : Nat} (h : mX11_back_64 y0 σ = some r) : G p l e (rmd 6 1 6) s m args below meth c E true (sZ σ) ad0 (vx_MQ below (QIx E true σ r ad0) (XX E true σ Int32 r ad0) args s 1 6 (AE E)) 4 0 0 σ 64 [(0, .ref 32)] [.ref y0] := by
  unfold mX11_back_64 at h
  refine G_astore_n (L' := [(3, .ref y0), (0, .ref 32)]) C rfl (Nat.le_of_ble_eq_true rfl) rfl dX11_back_64 ?_
  refine G_aload_n C 0 rfl rfl dX11_back_65 ?_
  by_cases hc6 : sK σ y0 = 4
  · replace h := (if_pos hc6).symm.trans h
    refine G_getI C fl_X11_222_3 (Or.inl rfl) (KO.dy hc6) dX11_back_66 ?_
    refine G_ldc C kc_X11_227 dX11_back_69 ?_
    refine G_icmp_eq (tgt := 76) C rfl dX11_back_71 (fun hc7 => ?_) (fun hc7 => ?_)
    · replace h := (if_pos hc7).symm.trans h
      refine G_aload_n C 0 rfl rfl dX11_back_76 ?_
      refine G_aload_n C 1 rfl rfl dX11_back_77 ?_
      refine G_getF C fl_X11_10_10 rfl rfl fn_32_0 dX11_back_78 ?_
      refine G_getI C fl_X11_148_1 (Or.inl rfl) ko_33 dX11_back_81 ?_
      obtain ⟨σ8, hs8, h⟩ := stp_elim h
      refine G_putI C fl_X11_222_3 fp_X11_3_1 (Or.inl rfl) (Or.inl rfl) (KO.dy hc6) dX11_back_84 ?_
      rw [← hs8]
      have hc9 : sK σ8 y0 = 4 := by rw [hs8]; exact hc6
      refine G_iconst C (v := 1) rfl dX11_back_87 ?_
      obtain rfl := Option.some.inj h
      exact G_zretx C (by decide) hr (Nat.le_of_ble_eq_true rfl) (Nat.le_of_ble_eq_true rfl) dX11_back_88
    · replace h := (if_neg hc7).symm.trans h
      refine G_iconst C (v := 0) rfl dX11_back_74 ?_
      obtain rfl := Option.some.inj h
      exact G_zretx C (by decide) hr (Nat.le_of_ble_eq_true rfl) (Nat.le_of_ble_eq_true rfl) dX11_back_75
  · replace h := (if_neg hc6).symm.trans h
    clear hc6
    obtain ⟨hc6, h⟩ := ifn h
    refine G_getI C fl_X11_222_4 (Or.inl rfl) (KO.dy hc6) dX11_back_66 ?_
    refine G_ldc C kc_X11_227 dX11_back_69 ?_
    refine G_icmp_eq (tgt := 76) C rfl dX11_back_71 (fun hc10 => ?_) (fun hc10 => ?_)
    · replace h := (if_pos hc10).symm.trans h
      refine G_aload_n C 0 rfl rfl dX11_back_76 ?_
      refine G_aload_n C 1 rfl rfl dX11_back_77 ?_
      refine G_getF C fl_X11_10_10 rfl rfl fn_32_0 dX11_back_78 ?_
      refine G_getI C fl_X11_148_1 (Or.inl rfl) ko_33 dX11_back_81 ?_
      obtain ⟨σ11, hs11, h⟩ := stp_elim h
      refine G_putI C fl_X11_222_4 fp_X11_4_1 (Or.inl rfl) (Or.inl rfl) (KO.dy hc6) dX11_back_84 ?_
      rw [← hs11]
      have hc12 : sK σ11 y0 = 5 := by rw [hs11]; exact hc6
      refine G_iconst C (v := 1) rfl dX11_back_87 ?_
      obtain rfl := Option.some.inj h
      exact G_zretx C (by decide) hr (Nat.le_of_ble_eq_true rfl) (Nat.le_of_ble_eq_true rfl) dX11_back_88
    · replace h := (if_neg hc10).symm.trans h
      refine G_iconst C (v := 0) rfl dX11_back_74 ?_
      obtain rfl := Option.some.inj h
      exact G_zretx C (by decide) hr (Nat.le_of_ble_eq_true rfl) (Nat.le_of_ble_eq_true rfl) dX11_back_75
set_option maxRecDepth 100000 in
set_option maxHeartbeats 4000000 in
theorem eX11_back_23 (C : Cx E p s m args meth c cX11_back 4 RX11) (hr : meth.sig.returnType = (some .boolean)) (hlx : l.stackTraces = false) (htb : ∀ x ∈ c.exceptionTable.toList, False) {r : Nat ⊕ (Int32 × Sto)} {σ : Sto} {x1 : Int32} {x2 : Int32} {y0 : Int32} {y1 : Int32} {y2 : Int32} (h : mX11_back_23 x1 x2 y0 y1 y2 σ = some r) : G p l e (rmd 6 1 6) s m args below meth c E true (sZ σ) ad0 (vx_MQ below (QIx E true σ r ad0) (XX E true σ Int32 r ad0) args s 1 6 (AE E)) 4 0 0 σ 23 [(0, .ref 32), (1, .int x1), (2, .int x2)] [.int y2, .int y1, .int y0] := by
  unfold mX11_back_23 at h
  refine G_iconst C (v := 1) rfl dX11_back_23 ?_
  refine G_isub C dX11_back_24 ?_
  refine G_callI (run_S C [.int y0, .int y1, .int (y2 - (1 : Int32))] [] (dX11_isWithin rfl) ml_X11_isWithin ms_X11_isWithin lk_X11_78 ⟨(Nat.le_of_ble_eq_true rfl), (Nat.le_of_ble_eq_true rfl)⟩ ⟨(Nat.le_of_ble_eq_true rfl), (Nat.le_of_ble_eq_true rfl)⟩ rfl (Nat.le_of_ble_eq_true rfl) dX11_back_25) ?_
  refine G_if_ne (tgt := 41) C rfl dX11_back_28 (fun hc3 => ?_) (fun hc3 => ?_)
  · replace h := (if_neg hc3).symm.trans h
    refine G_iload_n C 1 rfl rfl dX11_back_41 ?_
    refine G_if_eq (tgt := 56) C rfl dX11_back_42 (fun hc4 => ?_) (fun hc4 => ?_)
    · replace h := (if_pos hc4).symm.trans h
      refine G_aload_n C 0 rfl rfl dX11_back_56 ?_
      refine G_getF C fl_X11_10_10 rfl rfl fn_32_0 dX11_back_57 ?_
      refine G_iload_n C 2 rfl rfl dX11_back_60 ?_
      obtain ⟨v5, hv5, h⟩ := bnd h
      refine G_callR (run_V C [.int x2] [] (dX1_factAt hv5) ml_X1_factAt mv_X1_factAt lk_X11_218 ⟨(Nat.le_of_ble_eq_true rfl), (Nat.le_of_ble_eq_true rfl)⟩ ⟨(Nat.le_of_ble_eq_true rfl), (Nat.le_of_ble_eq_true rfl)⟩ vq_1 rfl ko_33 rfl (Nat.le_of_ble_eq_true rfl) dX11_back_61) ?_
      refine G_sub [0] rfl ?_
      exact eX11_back_64 C hr hlx htb h
    · replace h := (if_neg hc4).symm.trans h
      refine G_aload_n C 0 rfl rfl dX11_back_45 ?_
      refine G_getF C fl_X11_10_10 rfl rfl fn_32_0 dX11_back_46 ?_
      refine G_iload_n C 2 rfl rfl dX11_back_49 ?_
      obtain ⟨v13, hv13, h⟩ := bnd h
      refine G_callR (run_V C [.int x2] [] (dX1_lawAt hv13) ml_X1_lawAt mv_X1_lawAt lk_X11_214 ⟨(Nat.le_of_ble_eq_true rfl), (Nat.le_of_ble_eq_true rfl)⟩ ⟨(Nat.le_of_ble_eq_true rfl), (Nat.le_of_ble_eq_true rfl)⟩ vq_1 rfl ko_33 rfl (Nat.le_of_ble_eq_true rfl) dX11_back_50) ?_
      refine G_goto (tgt := 64) C rfl dX11_back_53 ?_
      refine G_sub [0] rfl ?_
      exact eX11_back_64 C hr hlx htb h
  · replace h := (if_pos hc3).symm.trans h
    obtain rfl := Option.some.inj h
    exact G_throw C hlx htb rfl (x := 0) rfl xw_202 nl_X11_198 xi_0 (List.mem_of_getElem? (l := msgs) (i := 6) rfl) (Nat.le_of_ble_eq_true rfl) (Nat.le_of_ble_eq_true rfl) (Nat.le_of_ble_eq_true rfl) (Nat.le_of_ble_eq_true rfl) (Nat.le_of_ble_eq_true rfl) (Nat.le_of_ble_eq_true rfl) dX11_back_31 dX11_back_34 dX11_back_35 dX11_back_37 dX11_back_40
set_option maxRecDepth 100000 in
set_option maxHeartbeats 4000000 in
theorem dX11_back (hlx : l.stackTraces = false) {σ : Sto} {p0 : Int32} {p1 : Int32} {r : Nat ⊕ (Int32 × Sto)} (h : mX11_back p0 p1 σ = some r) : MX l yX11_back cX11_back 4 (some .boolean) 6 1 6 E true σ [.ref 32, .int p0, .int p1] Int32 r (QIx E true σ r) := by
  unfold mX11_back at h
  refine MX_of (by decide) (Nat.le_of_ble_eq_true rfl) rfl (fun p e s m args below meth c ad0 C hr htb => ?_)
  refine G_iload_n C 2 rfl rfl dX11_back_0 ?_
  refine G_iconst C (v := 0) rfl dX11_back_1 ?_
  refine G_iload_n C 1 rfl rfl dX11_back_2 ?_
  refine G_if_eq (tgt := 16) C rfl dX11_back_3 (fun hc1 => ?_) (fun hc1 => ?_)
  · replace h := (if_pos hc1).symm.trans h
    refine G_aload_n C 0 rfl rfl dX11_back_16 ?_
    refine G_getF C fl_X11_10_10 rfl rfl fn_32_0 dX11_back_17 ?_
    refine G_getI C fl_X11_209_1 (Or.inl rfl) ko_33 dX11_back_20 ?_
    exact eX11_back_23 C hr hlx htb h
  · replace h := (if_neg hc1).symm.trans h
    refine G_aload_n C 0 rfl rfl dX11_back_6 ?_
    refine G_getF C fl_X11_10_10 rfl rfl fn_32_0 dX11_back_7 ?_
    refine G_getI C fl_X11_206_1 (Or.inl rfl) ko_33 dX11_back_10 ?_
    refine G_goto (tgt := 23) C rfl dX11_back_13 ?_
    exact eX11_back_23 C hr hlx htb h
set_option maxRecDepth 100000 in
set_option maxHeartbeats 4000000 in
theorem dX11_needSale (hlx : l.stackTraces = false) {σ : Sto} {p0 : Int32} {r : Nat ⊕ Unit} (h : mX11_needSale p0 σ = some r) : MX l yX11_needSale cX11_needSale 2 none 6 1 6 E true σ [.ref 32, .int p0] Unit (embS σ r) (QVx E true σ (embS σ r)) := by
  unfold mX11_needSale at h
  refine MX_of (by decide) (Nat.le_of_ble_eq_true rfl) rfl (fun p e s m args below meth c ad0 C hr htb => ?_)
  refine G_aload_n C 0 rfl rfl dX11_needSale_0 ?_
  refine G_getF C fl_X11_10_10 rfl rfl fn_32_0 dX11_needSale_1 ?_
  refine G_iload_n C 1 rfl rfl dX11_needSale_4 ?_
  obtain ⟨v1, hv1, h⟩ := bnd h
  refine G_callR (run_V C [.int p0] [] (dX1_factAt hv1) ml_X1_factAt mv_X1_factAt lk_X11_218 ⟨(Nat.le_of_ble_eq_true rfl), (Nat.le_of_ble_eq_true rfl)⟩ ⟨(Nat.le_of_ble_eq_true rfl), (Nat.le_of_ble_eq_true rfl)⟩ vq_1 rfl ko_33 rfl (Nat.le_of_ble_eq_true rfl) dX11_needSale_5) ?_
  obtain ⟨hc2, h⟩ := ifn h
  refine G_getI C fl_X11_368_3 (Or.inl rfl) (KO.dy hc2) dX11_needSale_8 ?_
  refine G_iconst C (v := 2) rfl dX11_needSale_11 ?_
  refine G_icmp_eq (tgt := 26) C rfl dX11_needSale_12 (fun hc3 => ?_) (fun hc3 => ?_)
  · replace h := (if_pos hc3).symm.trans h
    obtain rfl := Option.some.inj h
    exact G_vretx C hr (Nat.le_of_ble_eq_true rfl) (Nat.le_of_ble_eq_true rfl) dX11_needSale_26
  · replace h := (if_neg hc3).symm.trans h
    obtain rfl := Option.some.inj h
    exact G_throwW C hlx htb rfl (x := 0) rfl xw_202 nl_X11_198 xi_0 (List.mem_of_getElem? (l := msgs) (i := 7) rfl) (Nat.le_of_ble_eq_true rfl) (Nat.le_of_ble_eq_true rfl) (Nat.le_of_ble_eq_true rfl) (Nat.le_of_ble_eq_true rfl) (Nat.le_of_ble_eq_true rfl) (Nat.le_of_ble_eq_true rfl) dX11_needSale_15 dX11_needSale_18 dX11_needSale_19 dX11_needSale_22 dX11_needSale_25
set_option maxRecDepth 100000 in
set_option maxHeartbeats 4000000 in
theorem dX11_claim (hlx : l.stackTraces = false) {σ : Sto} {p0 : Int32} {p1 : Int32} {r : Nat ⊕ (Int32 × Sto)} (h : mX11_claim p0 p1 σ = some r) : MX l yX11_claim cX11_claim 3 (some .boolean) 7 3 25 E true σ [.ref 32, .int p0, .int p1] Int32 r (QIx E true σ r) := by
  unfold mX11_claim at h
  refine MX_of (by decide) (Nat.le_of_ble_eq_true rfl) rfl (fun p e s m args below meth c ad0 C hr htb => ?_)
  refine G_aload_n C 0 rfl rfl dX11_claim_0 ?_
  refine G_iload_n C 1 rfl rfl dX11_claim_1 ?_
  rcases bdp_elim h with ⟨x1, hv1, rfl⟩ | ⟨u1, hv1, h⟩
  · exact G_callVx_thr C htb (Nat.le_of_ble_eq_true rfl) (Nat.le_of_ble_eq_true rfl) (run_Vx C [.int p0] [] (dX11_needPerson hlx hv1) ml_X11_needPerson mv_X11_needPerson lk_X11_103 ⟨(Nat.le_of_ble_eq_true rfl), (Nat.le_of_ble_eq_true rfl)⟩ ⟨(Nat.le_of_ble_eq_true rfl), (Nat.le_of_ble_eq_true rfl)⟩ vq_10 rfl ko_32 rfl (Nat.le_of_ble_eq_true rfl) dX11_claim_2)
  refine G_callVx (run_Vx C [.int p0] [] (dX11_needPerson hlx hv1) ml_X11_needPerson mv_X11_needPerson lk_X11_103 ⟨(Nat.le_of_ble_eq_true rfl), (Nat.le_of_ble_eq_true rfl)⟩ ⟨(Nat.le_of_ble_eq_true rfl), (Nat.le_of_ble_eq_true rfl)⟩ vq_10 rfl ko_32 rfl (Nat.le_of_ble_eq_true rfl) dX11_claim_2) ?_
  refine G_aload_n C 0 rfl rfl dX11_claim_5 ?_
  refine G_iload_n C 2 rfl rfl dX11_claim_6 ?_
  rcases bdp_elim h with ⟨x2, hv2, rfl⟩ | ⟨u2, hv2, h⟩
  · exact G_callVx_thr C htb (Nat.le_of_ble_eq_true rfl) (Nat.le_of_ble_eq_true rfl) (run_Vx C [.int p1] [] (dX11_needSale hlx hv2) ml_X11_needSale mv_X11_needSale lk_X11_228 ⟨(Nat.le_of_ble_eq_true rfl), (Nat.le_of_ble_eq_true rfl)⟩ ⟨(Nat.le_of_ble_eq_true rfl), (Nat.le_of_ble_eq_true rfl)⟩ vq_10 rfl ko_32 rfl (Nat.le_of_ble_eq_true rfl) dX11_claim_7)
  refine G_callVx (run_Vx C [.int p1] [] (dX11_needSale hlx hv2) ml_X11_needSale mv_X11_needSale lk_X11_228 ⟨(Nat.le_of_ble_eq_true rfl), (Nat.le_of_ble_eq_true rfl)⟩ ⟨(Nat.le_of_ble_eq_true rfl), (Nat.le_of_ble_eq_true rfl)⟩ vq_10 rfl ko_32 rfl (Nat.le_of_ble_eq_true rfl) dX11_claim_7) ?_
  refine G_aload_n C 0 rfl rfl dX11_claim_10 ?_
  refine G_getF C fl_X11_10_10 rfl rfl fn_32_0 dX11_claim_11 ?_
  refine G_getI C fl_X11_231_1 (Or.inl rfl) ko_33 dX11_claim_14 ?_
  refine G_sipush C (v := 200) rfl dX11_claim_17 ?_
  refine G_icmp_ge (tgt := 36) C rfl dX11_claim_20 (fun hc3 => ?_) (fun hc3 => ?_)
  · replace h := (if_pos hc3).symm.trans h
    refine G_iconst C (v := 0) rfl dX11_claim_36 ?_
    obtain rfl := Option.some.inj h
    exact G_zretx C (by decide) hr (Nat.le_of_ble_eq_true rfl) (Nat.le_of_ble_eq_true rfl) dX11_claim_37
  · replace h := (if_neg hc3).symm.trans h
    refine G_aload_n C 0 rfl rfl dX11_claim_23 ?_
    refine G_getF C fl_X11_10_10 rfl rfl fn_32_0 dX11_claim_24 ?_
    refine G_iload_n C 1 rfl rfl dX11_claim_27 ?_
    refine G_iload_n C 2 rfl rfl dX11_claim_28 ?_
    obtain ⟨v4, hv4, h⟩ := bnd h
    refine G_callI (run_V C [.int p0, .int p1] [] (dX1_claimOf hv4) ml_X1_claimOf mv_X1_claimOf lk_X11_234 ⟨(Nat.le_of_ble_eq_true rfl), (Nat.le_of_ble_eq_true rfl)⟩ ⟨(Nat.le_of_ble_eq_true rfl), (Nat.le_of_ble_eq_true rfl)⟩ vq_1 rfl ko_33 rfl (Nat.le_of_ble_eq_true rfl) dX11_claim_29) ?_
    refine G_iconst C (v := -1) rfl dX11_claim_32 ?_
    refine G_icmp_eq (tgt := 38) C rfl dX11_claim_33 (fun hc5 => ?_) (fun hc5 => ?_)
    · replace h := (if_pos hc5).symm.trans h
      refine G_aload_n C 0 rfl rfl dX11_claim_38 ?_
      refine G_getF C fl_X11_10_10 rfl rfl fn_32_0 dX11_claim_39 ?_
      refine G_getF C fl_X11_237_1 rfl rfl fn_33_12 dX11_claim_42 ?_
      refine G_aload_n C 0 rfl rfl dX11_claim_45 ?_
      refine G_getF C fl_X11_10_10 rfl rfl fn_32_0 dX11_claim_46 ?_
      refine G_getI C fl_X11_231_1 (Or.inl rfl) ko_33 dX11_claim_49 ?_
      obtain ⟨σ6, hs6, h⟩ := stp_elim h
      refine G_new C vq_3 uw_X3 nl_X11_162 ni_X3.1 ni_X3.2 (Nat.le_of_ble_eq_true rfl) (Nat.le_of_ble_eq_true rfl) dX11_claim_52 ?_
      rw [← hs6]
      have hc7 : sK σ6 (sZ σ) = 4 := by rw [hs6]; exact (nwK_K _ _ _ _).trans (if_pos rfl)
      refine G_dup C rfl dX11_claim_55 ?_
      refine G_bipush C (v := 6) rfl dX11_claim_56 ?_
      refine G_iload_n C 2 rfl rfl dX11_claim_58 ?_
      refine G_iload_n C 1 rfl rfl dX11_claim_59 ?_
      refine G_iconst C (v := -1) rfl dX11_claim_60 ?_
      refine G_iconst C (v := -1) rfl dX11_claim_61 ?_
      refine G_aload_n C 0 rfl rfl dX11_claim_62 ?_
      refine G_getF C fl_X11_10_10 rfl rfl fn_32_0 dX11_claim_63 ?_
      refine G_getI C fl_X11_148_1 (Or.inl rfl) ko_33 dX11_claim_66 ?_
      obtain ⟨σ8, hv8, h⟩ := bnd h
      refine G_callV (run_I (kd := 4) C [.int (6 : Int32), .int p1, .int p0, .int (-1 : Int32), .int (-1 : Int32), .int (sI σ6 33 0)] [.ref (sZ σ), .int (sI σ 33 13), .ref 39] (dX3_init hc7 hv8) ml_X3_init mi_X3_init lk_X11_164 ⟨(Nat.le_of_ble_eq_true rfl), (Nat.le_of_ble_eq_true rfl)⟩ ⟨(Nat.le_of_ble_eq_true rfl), (Nat.le_of_ble_eq_true rfl)⟩ (by decide) (KO.dy hc7) rfl (Nat.le_of_ble_eq_true rfl) dX11_claim_69) ?_
      obtain ⟨hc9, h⟩ := ifn h
      obtain ⟨hc10, h⟩ := ifn h
      obtain ⟨σ11, hs11, h⟩ := stp_elim h
      refine G_aastore (t := 7) (ci := 3) C ⟨by decide, by decide⟩ vq_3 rfl ks_39 (KO.dy hc10) hc9 dX11_claim_72 ?_
      rw [← hs11]
      have hc12 : sK σ11 (sZ σ) = 4 := by rw [hs11]; exact hc10
      refine G_aload_n C 0 rfl rfl dX11_claim_73 ?_
      refine G_getF C fl_X11_10_10 rfl rfl fn_32_0 dX11_claim_74 ?_
      refine G_dup C rfl dX11_claim_77 ?_
      refine G_getI C fl_X11_231_1 (Or.inl rfl) ko_33 dX11_claim_78 ?_
      refine G_iconst C (v := 1) rfl dX11_claim_81 ?_
      refine G_iadd C dX11_claim_82 ?_
      obtain ⟨σ13, hs13, h⟩ := stp_elim h
      refine G_putI C fl_X11_231_1 fp_X11_1_13 (Or.inl rfl) (Or.inl rfl) ko_33 dX11_claim_83 ?_
      rw [← hs13]
      have hc14 : sK σ13 (sZ σ) = 4 := by rw [hs13]; exact hc12
      refine G_iconst C (v := 1) rfl dX11_claim_86 ?_
      obtain rfl := Option.some.inj h
      exact G_zretx C (by decide) hr (Nat.le_of_ble_eq_true rfl) (Nat.le_of_ble_eq_true rfl) dX11_claim_87
    · replace h := (if_neg hc5).symm.trans h
      refine G_iconst C (v := 0) rfl dX11_claim_36 ?_
      obtain rfl := Option.some.inj h
      exact G_zretx C (by decide) hr (Nat.le_of_ble_eq_true rfl) (Nat.le_of_ble_eq_true rfl) dX11_claim_37
set_option maxRecDepth 100000 in
set_option maxHeartbeats 4000000 in
theorem eX11_putBytes_3B (C : Cx E p s m args meth c cX11_putBytes 3 RX11) (hr : meth.sig.returnType = none) {σ0 : Sto} {r2 : Sto} {σ : Sto} {f3 : Int32 → Int32 → Sto → Option Sto} {x1 : Int32} {x2 : Int32} (hf3 : ∀ (x1 : Int32) (x2 : Int32) (σ' : Sto), f3 x1 x2 σ' = some r2 → G p l e (rmd 1 0 0) s m args below meth c E true (sZ σ0) ad0 (MQ below (QV E true σ0 r2 ad0) args s 0 0 (AE E)) 3 0 0 σ' 3 [(0, .ref 32), (1, .int x1), (2, .int x2)] []) (h : mX11_putBytes_3B f3 x1 x2 σ = some r2) : G p l e (rmd 1 0 0) s m args below meth c E true (sZ σ0) ad0 (MQ below (QV E true σ0 r2 ad0) args s 0 0 (AE E)) 3 0 0 σ 3 [(0, .ref 32), (1, .int x1), (2, .int x2)] [] := by
  unfold mX11_putBytes_3B at h
  refine G_iload_n C 2 rfl rfl dX11_putBytes_3 ?_
  refine G_if_lt (tgt := 51) C rfl dX11_putBytes_4 (fun hc1 => ?_) (fun hc1 => ?_)
  · replace h := (if_pos hc1).symm.trans h
    obtain rfl := Option.some.inj h
    exact G_vret C hr (Nat.le_of_ble_eq_true rfl) (Nat.le_of_ble_eq_true rfl) dX11_putBytes_51
  · replace h := (if_neg hc1).symm.trans h
    refine G_aload_n C 0 rfl rfl dX11_putBytes_7 ?_
    refine G_getI C fl_X11_45_10 (Or.inl rfl) ko_32 dX11_putBytes_8 ?_
    refine G_aload_n C 0 rfl rfl dX11_putBytes_11 ?_
    refine G_getF C fl_X11_41_10 rfl rfl fn_32_4 dX11_putBytes_12 ?_
    refine G_alen (t := 0) (v := (500 : Int32)) C (by decide) ks_74 rfl dX11_putBytes_15 ?_
    refine G_icmp_ge (tgt := 51) C rfl dX11_putBytes_16 (fun hc2 => ?_) (fun hc2 => ?_)
    · replace h := (if_pos hc2).symm.trans h
      obtain rfl := Option.some.inj h
      exact G_vret C hr (Nat.le_of_ble_eq_true rfl) (Nat.le_of_ble_eq_true rfl) dX11_putBytes_51
    · replace h := (if_neg hc2).symm.trans h
      refine G_aload_n C 0 rfl rfl dX11_putBytes_19 ?_
      refine G_getF C fl_X11_41_10 rfl rfl fn_32_4 dX11_putBytes_20 ?_
      refine G_aload_n C 0 rfl rfl dX11_putBytes_23 ?_
      refine G_getI C fl_X11_45_10 (Or.inl rfl) ko_32 dX11_putBytes_24 ?_
      refine G_iload_n C 1 rfl rfl dX11_putBytes_27 ?_
      refine G_iload_n C 2 rfl rfl dX11_putBytes_28 ?_
      refine G_ishr C dX11_putBytes_29 ?_
      refine G_sipush C (v := 255) rfl dX11_putBytes_30 ?_
      refine G_iand C dX11_putBytes_33 ?_
      obtain ⟨hc3, h⟩ := ifn h
      obtain ⟨σ4, hs4, h⟩ := stp_elim h
      refine G_iastore C ks_74 hc3 dX11_putBytes_34 ?_
      rw [← hs4]
      refine G_aload_n C 0 rfl rfl dX11_putBytes_35 ?_
      refine G_dup C rfl dX11_putBytes_36 ?_
      refine G_getI C fl_X11_45_10 (Or.inl rfl) ko_32 dX11_putBytes_37 ?_
      refine G_iconst C (v := 1) rfl dX11_putBytes_40 ?_
      refine G_iadd C dX11_putBytes_41 ?_
      obtain ⟨σ5, hs5, h⟩ := stp_elim h
      refine G_putI C fl_X11_45_10 fp_X11_10_5 (Or.inl rfl) (Or.inl rfl) ko_32 dX11_putBytes_42 ?_
      rw [← hs5]
      refine G_iinc (v := -8) (L' := [(2, .int (x2 + (-8 : Int32))), (0, .ref 32), (1, .int x1)]) C 2 rfl rfl (Nat.le_of_ble_eq_true rfl) rfl dX11_putBytes_45 ?_
      refine G_goto (tgt := 3) C rfl dX11_putBytes_48 ?_
      refine G_sub [1, 2, 0] rfl ?_
      exact hf3 _ _ _ h
set_option maxRecDepth 100000 in
set_option maxHeartbeats 4000000 in
theorem eX11_putBytes_3 (C : Cx E p s m args meth c cX11_putBytes 3 RX11) (hr : meth.sig.returnType = none) {σ0 : Sto} {r2 : Sto} {σ : Sto} {n : Nat} {x1 : Int32} {x2 : Int32} (h : mX11_putBytes_3 n x1 x2 σ = some r2) : G p l e (rmd 1 0 0) s m args below meth c E true (sZ σ0) ad0 (MQ below (QV E true σ0 r2 ad0) args s 0 0 (AE E)) 3 0 0 σ 3 [(0, .ref 32), (1, .int x1), (2, .int x2)] [] := by
  induction n generalizing x1 x2 σ with
  | zero => exact nomatch (show (none : Option Sto) = some r2 from h)
  | succ n ih => exact eX11_putBytes_3B C hr (fun z0 z1 σ9 h9 => ih h9) h
set_option maxRecDepth 100000 in
set_option maxHeartbeats 4000000 in
theorem dX11_putBytes {σ : Sto} {p0 : Int32} {r2 : Sto} (h : mX11_putBytes p0 σ = some r2) : MM l yX11_putBytes cX11_putBytes 3 none 1 0 0 E true σ [.ref 32, .int p0] (QV E true σ r2) := by
  unfold mX11_putBytes at h
  refine MM_of (by decide) (Nat.le_of_ble_eq_true rfl) rfl (fun p e s m args below meth c ad0 C hr hn => ?_)
  refine G_bipush C (v := 24) rfl dX11_putBytes_0 ?_
  refine G_istore_n (L' := [(2, .int (24 : Int32)), (0, .ref 32), (1, .int p0)]) C rfl (Nat.le_of_ble_eq_true rfl) rfl dX11_putBytes_2 ?_
  refine G_sub [1, 2, 0] rfl ?_
  exact eX11_putBytes_3 C hr h
set_option maxRecDepth 100000 in
set_option maxHeartbeats 4000000 in
theorem dX11_feed {σ : Sto} {p0 : Int32} {p1 : Int32} {p2 : Int32} {p3 : Int32} {p4 : Int32} {r1 : Int32} {r2 : Sto} (h : mX11_feed p0 p1 p2 p3 p4 σ = some (r1, r2)) : MM l yX11_feed cX11_feed 6 (some .int) 2 0 0 E true σ [.ref 32, .int p0, .int p1, .int p2, .int p3, .int p4] (QI E true σ r1 r2) := by
  unfold mX11_feed at h
  refine MM_of (by decide) (Nat.le_of_ble_eq_true rfl) rfl (fun p e s m args below meth c ad0 C hr hn => ?_)
  refine G_aload_n C 0 rfl rfl dX11_feed_0 ?_
  refine G_getI C fl_X11_45_10 (Or.inl rfl) ko_32 dX11_feed_1 ?_
  refine G_sipush C (v := 480) rfl dX11_feed_4 ?_
  refine G_icmp_le (tgt := 12) C rfl dX11_feed_7 (fun hc1 => ?_) (fun hc1 => ?_)
  · replace h := (if_pos hc1).symm.trans h
    refine G_aload_n C 0 rfl rfl dX11_feed_12 ?_
    refine G_iload_n C 1 rfl rfl dX11_feed_13 ?_
    obtain ⟨σ2, hv2, h⟩ := bnd h
    refine G_callV (run_V C [.int p0] [] (dX11_putBytes hv2) ml_X11_putBytes mv_X11_putBytes lk_X11_241 ⟨(Nat.le_of_ble_eq_true rfl), (Nat.le_of_ble_eq_true rfl)⟩ ⟨(Nat.le_of_ble_eq_true rfl), (Nat.le_of_ble_eq_true rfl)⟩ vq_10 rfl ko_32 rfl (Nat.le_of_ble_eq_true rfl) dX11_feed_14) ?_
    refine G_aload_n C 0 rfl rfl dX11_feed_17 ?_
    refine G_iload_n C 2 rfl rfl dX11_feed_18 ?_
    obtain ⟨σ3, hv3, h⟩ := bnd h
    refine G_callV (run_V C [.int p1] [] (dX11_putBytes hv3) ml_X11_putBytes mv_X11_putBytes lk_X11_241 ⟨(Nat.le_of_ble_eq_true rfl), (Nat.le_of_ble_eq_true rfl)⟩ ⟨(Nat.le_of_ble_eq_true rfl), (Nat.le_of_ble_eq_true rfl)⟩ vq_10 rfl ko_32 rfl (Nat.le_of_ble_eq_true rfl) dX11_feed_19) ?_
    refine G_aload_n C 0 rfl rfl dX11_feed_22 ?_
    refine G_iload_n C 3 rfl rfl dX11_feed_23 ?_
    obtain ⟨σ4, hv4, h⟩ := bnd h
    refine G_callV (run_V C [.int p2] [] (dX11_putBytes hv4) ml_X11_putBytes mv_X11_putBytes lk_X11_241 ⟨(Nat.le_of_ble_eq_true rfl), (Nat.le_of_ble_eq_true rfl)⟩ ⟨(Nat.le_of_ble_eq_true rfl), (Nat.le_of_ble_eq_true rfl)⟩ vq_10 rfl ko_32 rfl (Nat.le_of_ble_eq_true rfl) dX11_feed_24) ?_
    refine G_aload_n C 0 rfl rfl dX11_feed_27 ?_
    refine G_iload C 4 rfl dX11_feed_28 ?_
    obtain ⟨σ5, hv5, h⟩ := bnd h
    refine G_callV (run_V C [.int p3] [] (dX11_putBytes hv5) ml_X11_putBytes mv_X11_putBytes lk_X11_241 ⟨(Nat.le_of_ble_eq_true rfl), (Nat.le_of_ble_eq_true rfl)⟩ ⟨(Nat.le_of_ble_eq_true rfl), (Nat.le_of_ble_eq_true rfl)⟩ vq_10 rfl ko_32 rfl (Nat.le_of_ble_eq_true rfl) dX11_feed_30) ?_
    refine G_aload_n C 0 rfl rfl dX11_feed_33 ?_
    refine G_iload C 5 rfl dX11_feed_34 ?_
    obtain ⟨σ6, hv6, h⟩ := bnd h
    refine G_callV (run_V C [.int p4] [] (dX11_putBytes hv6) ml_X11_putBytes mv_X11_putBytes lk_X11_241 ⟨(Nat.le_of_ble_eq_true rfl), (Nat.le_of_ble_eq_true rfl)⟩ ⟨(Nat.le_of_ble_eq_true rfl), (Nat.le_of_ble_eq_true rfl)⟩ vq_10 rfl ko_32 rfl (Nat.le_of_ble_eq_true rfl) dX11_feed_36) ?_
    refine G_aload_n C 0 rfl rfl dX11_feed_39 ?_
    refine G_getI C fl_X11_45_10 (Or.inl rfl) ko_32 dX11_feed_40 ?_
    obtain ⟨rfl, rfl⟩ := some2 h
    exact G_iret C hr (Nat.le_of_ble_eq_true rfl) (Nat.le_of_ble_eq_true rfl) dX11_feed_43
  · replace h := (if_neg hc1).symm.trans h
    refine G_iconst C (v := -1) rfl dX11_feed_10 ?_
    obtain ⟨rfl, rfl⟩ := some2 h
    exact G_iret C hr (Nat.le_of_ble_eq_true rfl) (Nat.le_of_ble_eq_true rfl) dX11_feed_11
set_option maxRecDepth 100000 in
set_option maxHeartbeats 4000000 in
theorem dX11_fault {σ : Sto} {r : Int32} (h : mX11_fault σ = r) : MM l yX11_fault cX11_fault 1 (some .int) 1 0 0 E true σ [.ref 32] (QI E true σ r σ) := by
  unfold mX11_fault at h
  refine MM_of (by decide) (Nat.le_of_ble_eq_true rfl) rfl (fun p e s m args below meth c ad0 C hr hn => ?_)
  refine G_aload_n C 0 rfl rfl dX11_fault_0 ?_
  refine G_getI C fl_X11_49_10 (Or.inl rfl) ko_32 dX11_fault_1 ?_
  subst h
  exact G_iret C hr (Nat.le_of_ble_eq_true rfl) (Nat.le_of_ble_eq_true rfl) dX11_fault_4
set_option maxRecDepth 100000 in
set_option maxHeartbeats 4000000 in
theorem dX11_needWhat (hlx : l.stackTraces = false) {σ : Sto} {p0 : Int32} {p1 : Int32} {r : Nat ⊕ Unit} (h : mX11_needWhat p0 p1 σ = some r) : MX l yX11_needWhat cX11_needWhat 3 none 6 1 6 E true σ [.ref 32, .int p0, .int p1] Unit (embS σ r) (QVx E true σ (embS σ r)) := by
  unfold mX11_needWhat at h
  refine MX_of (by decide) (Nat.le_of_ble_eq_true rfl) rfl (fun p e s m args below meth c ad0 C hr htb => ?_)
  refine G_iload_n C 1 rfl rfl dX11_needWhat_0 ?_
  refine G_iconst C (v := 0) rfl dX11_needWhat_1 ?_
  refine G_iload_n C 2 rfl rfl dX11_needWhat_2 ?_
  refine G_callI (run_S C [.int p0, .int (0 : Int32), .int p1] [] (dX11_isWithin rfl) ml_X11_isWithin ms_X11_isWithin lk_X11_78 ⟨(Nat.le_of_ble_eq_true rfl), (Nat.le_of_ble_eq_true rfl)⟩ ⟨(Nat.le_of_ble_eq_true rfl), (Nat.le_of_ble_eq_true rfl)⟩ rfl (Nat.le_of_ble_eq_true rfl) dX11_needWhat_3) ?_
  refine G_if_ne (tgt := 20) C rfl dX11_needWhat_6 (fun hc2 => ?_) (fun hc2 => ?_)
  · replace h := (if_neg hc2).symm.trans h
    obtain rfl := Option.some.inj h
    exact G_vretx C hr (Nat.le_of_ble_eq_true rfl) (Nat.le_of_ble_eq_true rfl) dX11_needWhat_20
  · replace h := (if_pos hc2).symm.trans h
    obtain rfl := Option.some.inj h
    exact G_throwW C hlx htb rfl (x := 0) rfl xw_202 nl_X11_198 xi_0 (List.mem_of_getElem? (l := msgs) (i := 9) rfl) (Nat.le_of_ble_eq_true rfl) (Nat.le_of_ble_eq_true rfl) (Nat.le_of_ble_eq_true rfl) (Nat.le_of_ble_eq_true rfl) (Nat.le_of_ble_eq_true rfl) (Nat.le_of_ble_eq_true rfl) dX11_needWhat_9 dX11_needWhat_12 dX11_needWhat_13 dX11_needWhat_16 dX11_needWhat_19
set_option maxRecDepth 100000 in
set_option maxHeartbeats 4000000 in
theorem dX11_needEvening (hlx : l.stackTraces = false) {σ : Sto} {p0 : Int32} {r : Nat ⊕ Unit} (h : mX11_needEvening p0 σ = some r) : MX l yX11_needEvening cX11_needEvening 2 none 6 1 6 E true σ [.ref 32, .int p0] Unit (embS σ r) (QVx E true σ (embS σ r)) := by
  unfold mX11_needEvening at h
  refine MX_of (by decide) (Nat.le_of_ble_eq_true rfl) rfl (fun p e s m args below meth c ad0 C hr htb => ?_)
  refine G_iload_n C 1 rfl rfl dX11_needEvening_0 ?_
  refine G_iconst C (v := 0) rfl dX11_needEvening_1 ?_
  refine G_aload_n C 0 rfl rfl dX11_needEvening_2 ?_
  refine G_getF C fl_X11_10_10 rfl rfl fn_32_0 dX11_needEvening_3 ?_
  refine G_getI C fl_X11_148_1 (Or.inl rfl) ko_33 dX11_needEvening_6 ?_
  refine G_callI (run_S C [.int p0, .int (0 : Int32), .int (sI σ 33 0)] [] (dX11_isWithin rfl) ml_X11_isWithin ms_X11_isWithin lk_X11_78 ⟨(Nat.le_of_ble_eq_true rfl), (Nat.le_of_ble_eq_true rfl)⟩ ⟨(Nat.le_of_ble_eq_true rfl), (Nat.le_of_ble_eq_true rfl)⟩ rfl (Nat.le_of_ble_eq_true rfl) dX11_needEvening_9) ?_
  refine G_if_ne (tgt := 26) C rfl dX11_needEvening_12 (fun hc2 => ?_) (fun hc2 => ?_)
  · replace h := (if_neg hc2).symm.trans h
    obtain rfl := Option.some.inj h
    exact G_vretx C hr (Nat.le_of_ble_eq_true rfl) (Nat.le_of_ble_eq_true rfl) dX11_needEvening_26
  · replace h := (if_pos hc2).symm.trans h
    obtain rfl := Option.some.inj h
    exact G_throwW C hlx htb rfl (x := 1) rfl xw_155 nl_X11_151 xi_1 (List.mem_of_getElem? (l := msgs) (i := 10) rfl) (Nat.le_of_ble_eq_true rfl) (Nat.le_of_ble_eq_true rfl) (Nat.le_of_ble_eq_true rfl) (Nat.le_of_ble_eq_true rfl) (Nat.le_of_ble_eq_true rfl) (Nat.le_of_ble_eq_true rfl) dX11_needEvening_15 dX11_needEvening_18 dX11_needEvening_19 dX11_needEvening_22 dX11_needEvening_25
set_option maxRecDepth 100000 in
set_option maxHeartbeats 4000000 in
theorem dX11_sold (hlx : l.stackTraces = false) {σ : Sto} {p0 : Int32} {p1 : Int32} {p2 : Int32} {r : Nat ⊕ (Int32 × Sto)} (h : mX11_sold p0 p1 p2 σ = some r) : MX l yX11_sold cX11_sold 5 (some .int) 7 3 18 E true σ [.ref 32, .int p0, .int p1, .int p2] Int32 r (QIx E true σ r) := by
  unfold mX11_sold at h
  refine MX_of (by decide) (Nat.le_of_ble_eq_true rfl) rfl (fun p e s m args below meth c ad0 C hr htb => ?_)
  refine G_aload_n C 0 rfl rfl dX11_sold_0 ?_
  refine G_iload_n C 1 rfl rfl dX11_sold_1 ?_
  rcases bdp_elim h with ⟨x1, hv1, rfl⟩ | ⟨u1, hv1, h⟩
  · exact G_callVx_thr C htb (Nat.le_of_ble_eq_true rfl) (Nat.le_of_ble_eq_true rfl) (run_Vx C [.int p0] [] (dX11_needSale hlx hv1) ml_X11_needSale mv_X11_needSale lk_X11_228 ⟨(Nat.le_of_ble_eq_true rfl), (Nat.le_of_ble_eq_true rfl)⟩ ⟨(Nat.le_of_ble_eq_true rfl), (Nat.le_of_ble_eq_true rfl)⟩ vq_10 rfl ko_32 rfl (Nat.le_of_ble_eq_true rfl) dX11_sold_2)
  refine G_callVx (run_Vx C [.int p0] [] (dX11_needSale hlx hv1) ml_X11_needSale mv_X11_needSale lk_X11_228 ⟨(Nat.le_of_ble_eq_true rfl), (Nat.le_of_ble_eq_true rfl)⟩ ⟨(Nat.le_of_ble_eq_true rfl), (Nat.le_of_ble_eq_true rfl)⟩ vq_10 rfl ko_32 rfl (Nat.le_of_ble_eq_true rfl) dX11_sold_2) ?_
  refine G_aload_n C 0 rfl rfl dX11_sold_5 ?_
  refine G_iload_n C 2 rfl rfl dX11_sold_6 ?_
  refine G_bipush C (v := 7) rfl dX11_sold_7 ?_
  rcases bdp_elim h with ⟨x2, hv2, rfl⟩ | ⟨u2, hv2, h⟩
  · exact G_callVx_thr C htb (Nat.le_of_ble_eq_true rfl) (Nat.le_of_ble_eq_true rfl) (run_Vx C [.int p1, .int (7 : Int32)] [] (dX11_needWhat hlx hv2) ml_X11_needWhat mv_X11_needWhat lk_X11_255 ⟨(Nat.le_of_ble_eq_true rfl), (Nat.le_of_ble_eq_true rfl)⟩ ⟨(Nat.le_of_ble_eq_true rfl), (Nat.le_of_ble_eq_true rfl)⟩ vq_10 rfl ko_32 rfl (Nat.le_of_ble_eq_true rfl) dX11_sold_9)
  refine G_callVx (run_Vx C [.int p1, .int (7 : Int32)] [] (dX11_needWhat hlx hv2) ml_X11_needWhat mv_X11_needWhat lk_X11_255 ⟨(Nat.le_of_ble_eq_true rfl), (Nat.le_of_ble_eq_true rfl)⟩ ⟨(Nat.le_of_ble_eq_true rfl), (Nat.le_of_ble_eq_true rfl)⟩ vq_10 rfl ko_32 rfl (Nat.le_of_ble_eq_true rfl) dX11_sold_9) ?_
  refine G_aload_n C 0 rfl rfl dX11_sold_12 ?_
  refine G_iload_n C 3 rfl rfl dX11_sold_13 ?_
  rcases bdp_elim h with ⟨x3, hv3, rfl⟩ | ⟨u3, hv3, h⟩
  · exact G_callVx_thr C htb (Nat.le_of_ble_eq_true rfl) (Nat.le_of_ble_eq_true rfl) (run_Vx C [.int p2] [] (dX11_needEvening hlx hv3) ml_X11_needEvening mv_X11_needEvening lk_X11_258 ⟨(Nat.le_of_ble_eq_true rfl), (Nat.le_of_ble_eq_true rfl)⟩ ⟨(Nat.le_of_ble_eq_true rfl), (Nat.le_of_ble_eq_true rfl)⟩ vq_10 rfl ko_32 rfl (Nat.le_of_ble_eq_true rfl) dX11_sold_14)
  refine G_callVx (run_Vx C [.int p2] [] (dX11_needEvening hlx hv3) ml_X11_needEvening mv_X11_needEvening lk_X11_258 ⟨(Nat.le_of_ble_eq_true rfl), (Nat.le_of_ble_eq_true rfl)⟩ ⟨(Nat.le_of_ble_eq_true rfl), (Nat.le_of_ble_eq_true rfl)⟩ vq_10 rfl ko_32 rfl (Nat.le_of_ble_eq_true rfl) dX11_sold_14) ?_
  refine G_aload_n C 0 rfl rfl dX11_sold_17 ?_
  refine G_getF C fl_X11_10_10 rfl rfl fn_32_0 dX11_sold_18 ?_
  refine G_iload_n C 1 rfl rfl dX11_sold_21 ?_
  obtain ⟨v4, hv4, h⟩ := bnd h
  refine G_callR (run_V C [.int p0] [] (dX1_factAt hv4) ml_X1_factAt mv_X1_factAt lk_X11_218 ⟨(Nat.le_of_ble_eq_true rfl), (Nat.le_of_ble_eq_true rfl)⟩ ⟨(Nat.le_of_ble_eq_true rfl), (Nat.le_of_ble_eq_true rfl)⟩ vq_1 rfl ko_33 rfl (Nat.le_of_ble_eq_true rfl) dX11_sold_22) ?_
  refine G_astore (L' := [(4, .ref v4), (0, .ref 32), (1, .int p0), (2, .int p1), (3, .int p2)]) C (Nat.le_of_ble_eq_true rfl) rfl dX11_sold_25 ?_
  refine G_aload C 0 rfl dX11_sold_27 ?_
  refine G_iload_n C 4 rfl rfl dX11_sold_29 ?_
  obtain ⟨hc6, h⟩ := ifn h
  obtain ⟨v5, hv5, h⟩ := bnd h
  refine G_callI (run_U C [.int p2] [] (dX9_isKnownOn3 hc6 hv5) wu_X11_261 ⟨(Nat.le_of_ble_eq_true rfl), (Nat.le_of_ble_eq_true rfl)⟩ ⟨(Nat.le_of_ble_eq_true rfl), (Nat.le_of_ble_eq_true rfl)⟩ vq_3 (KO.dy hc6) rfl (Nat.le_of_ble_eq_true rfl) dX11_sold_30) ?_
  refine G_if_ne (tgt := 38) C rfl dX11_sold_33 (fun hc7 => ?_) (fun hc7 => ?_)
  · replace h := (if_neg hc7).symm.trans h
    refine G_aload_n C 1 rfl rfl dX11_sold_38 ?_
    refine G_getF C fl_X11_21_10 rfl rfl fn_32_1 dX11_sold_39 ?_
    refine G_iload_n C 4 rfl rfl dX11_sold_42 ?_
    obtain ⟨σ8, hv8, h⟩ := bnd h
    refine G_callV (run_V C [.int p2] [] (dX0_open hv8) ml_X0_open mv_X0_open lk_X11_264 ⟨(Nat.le_of_ble_eq_true rfl), (Nat.le_of_ble_eq_true rfl)⟩ ⟨(Nat.le_of_ble_eq_true rfl), (Nat.le_of_ble_eq_true rfl)⟩ vq_0 rfl ko_53 rfl (Nat.le_of_ble_eq_true rfl) dX11_sold_43) ?_
    refine G_aload_n C 1 rfl rfl dX11_sold_46 ?_
    refine G_getF C fl_X11_21_10 rfl rfl fn_32_1 dX11_sold_47 ?_
    refine G_aload C 0 rfl dX11_sold_50 ?_
    refine G_iload_n C 2 rfl rfl dX11_sold_52 ?_
    obtain ⟨σ9, hv9, h⟩ := bnd h
    refine G_callV (run_V C [.ref v4, .int p0] [] (dX0_settle hv9) ml_X0_settle mv_X0_settle lk_X11_267 ⟨(Nat.le_of_ble_eq_true rfl), (Nat.le_of_ble_eq_true rfl)⟩ ⟨(Nat.le_of_ble_eq_true rfl), (Nat.le_of_ble_eq_true rfl)⟩ vq_0 rfl ko_53 rfl (Nat.le_of_ble_eq_true rfl) dX11_sold_53) ?_
    refine G_iload_n C 3 rfl rfl dX11_sold_56 ?_
    by_cases hc10 : p1 = (0 : Int32)
    · replace h := (if_pos hc10).symm.trans h
      refine G_tswIn (tgt := 100) C (0) 0 hc10 (by decide) (by decide) (by decide) rfl rfl dX11_sold_57 ?_
      refine G_aload_n C 1 rfl rfl dX11_sold_100 ?_
      refine G_getF C fl_X11_21_10 rfl rfl fn_32_1 dX11_sold_101 ?_
      refine G_getI C fl_X11_271_0 (Or.inl rfl) ko_53 dX11_sold_104 ?_
      obtain rfl := Option.some.inj h
      exact G_iretx C hr (Nat.le_of_ble_eq_true rfl) (Nat.le_of_ble_eq_true rfl) dX11_sold_107
    replace h := (if_neg hc10).symm.trans h
    by_cases hc11 : p1 = (1 : Int32)
    · replace h := (if_pos hc11).symm.trans h
      refine G_tswIn (tgt := 108) C (1) 1 hc11 (by decide) (by decide) (by decide) rfl rfl dX11_sold_57 ?_
      refine G_aload_n C 1 rfl rfl dX11_sold_108 ?_
      refine G_getF C fl_X11_21_10 rfl rfl fn_32_1 dX11_sold_109 ?_
      refine G_getI C fl_X11_272_0 (Or.inr rfl) ko_53 dX11_sold_112 ?_
      refine G_if_eq (tgt := 122) C rfl dX11_sold_115 (fun hc12 => ?_) (fun hc12 => ?_)
      · replace h := (if_pos hc12).symm.trans h
        refine G_iconst C (v := 0) rfl dX11_sold_122 ?_
        obtain rfl := Option.some.inj h
        exact G_iretx C hr (Nat.le_of_ble_eq_true rfl) (Nat.le_of_ble_eq_true rfl) dX11_sold_123
      · replace h := (if_neg hc12).symm.trans h
        refine G_iconst C (v := 1) rfl dX11_sold_118 ?_
        refine G_goto (tgt := 123) C rfl dX11_sold_119 ?_
        obtain rfl := Option.some.inj h
        exact G_iretx C hr (Nat.le_of_ble_eq_true rfl) (Nat.le_of_ble_eq_true rfl) dX11_sold_123
    replace h := (if_neg hc11).symm.trans h
    by_cases hc13 : p1 = (2 : Int32)
    · replace h := (if_pos hc13).symm.trans h
      refine G_tswIn (tgt := 124) C (2) 2 hc13 (by decide) (by decide) (by decide) rfl rfl dX11_sold_57 ?_
      refine G_aload_n C 1 rfl rfl dX11_sold_124 ?_
      refine G_getF C fl_X11_21_10 rfl rfl fn_32_1 dX11_sold_125 ?_
      refine G_getI C fl_X11_276_0 (Or.inl rfl) ko_53 dX11_sold_128 ?_
      obtain rfl := Option.some.inj h
      exact G_iretx C hr (Nat.le_of_ble_eq_true rfl) (Nat.le_of_ble_eq_true rfl) dX11_sold_131
    replace h := (if_neg hc13).symm.trans h
    by_cases hc14 : p1 = (3 : Int32)
    · replace h := (if_pos hc14).symm.trans h
      refine G_tswIn (tgt := 132) C (3) 3 hc14 (by decide) (by decide) (by decide) rfl rfl dX11_sold_57 ?_
      refine G_aload_n C 1 rfl rfl dX11_sold_132 ?_
      refine G_getF C fl_X11_21_10 rfl rfl fn_32_1 dX11_sold_133 ?_
      refine G_getI C fl_X11_279_0 (Or.inl rfl) ko_53 dX11_sold_136 ?_
      obtain rfl := Option.some.inj h
      exact G_iretx C hr (Nat.le_of_ble_eq_true rfl) (Nat.le_of_ble_eq_true rfl) dX11_sold_139
    replace h := (if_neg hc14).symm.trans h
    by_cases hc15 : p1 = (4 : Int32)
    · replace h := (if_pos hc15).symm.trans h
      refine G_tswIn (tgt := 140) C (4) 4 hc15 (by decide) (by decide) (by decide) rfl rfl dX11_sold_57 ?_
      refine G_aload_n C 1 rfl rfl dX11_sold_140 ?_
      refine G_getF C fl_X11_10_10 rfl rfl fn_32_0 dX11_sold_141 ?_
      refine G_aload C 0 rfl dX11_sold_144 ?_
      obtain ⟨hc16, h⟩ := ifn h
      refine G_getI C fl_X11_189_3 (Or.inl rfl) (KO.dy hc16) dX11_sold_146 ?_
      obtain ⟨v17, hv17, h⟩ := bnd h
      refine G_callI (run_V C [.int (sI σ9 v4 10)] [] (dX1_collectorIn hv17) ml_X1_collectorIn mv_X1_collectorIn lk_X11_282 ⟨(Nat.le_of_ble_eq_true rfl), (Nat.le_of_ble_eq_true rfl)⟩ ⟨(Nat.le_of_ble_eq_true rfl), (Nat.le_of_ble_eq_true rfl)⟩ vq_1 rfl ko_33 rfl (Nat.le_of_ble_eq_true rfl) dX11_sold_149) ?_
      obtain rfl := Option.some.inj h
      exact G_iretx C hr (Nat.le_of_ble_eq_true rfl) (Nat.le_of_ble_eq_true rfl) dX11_sold_152
    replace h := (if_neg hc15).symm.trans h
    by_cases hc18 : p1 = (5 : Int32)
    · replace h := (if_pos hc18).symm.trans h
      refine G_tswIn (tgt := 153) C (5) 5 hc18 (by decide) (by decide) (by decide) rfl rfl dX11_sold_57 ?_
      refine G_aload_n C 1 rfl rfl dX11_sold_153 ?_
      refine G_getF C fl_X11_10_10 rfl rfl fn_32_0 dX11_sold_154 ?_
      refine G_aload C 0 rfl dX11_sold_157 ?_
      obtain ⟨hc19, h⟩ := ifn h
      refine G_getI C fl_X11_189_3 (Or.inl rfl) (KO.dy hc19) dX11_sold_159 ?_
      refine G_aload C 0 rfl dX11_sold_162 ?_
      refine G_getI C fl_X11_285_3 (Or.inl rfl) (KO.dy hc19) dX11_sold_164 ?_
      refine G_iload_n C 4 rfl rfl dX11_sold_167 ?_
      obtain ⟨v20, hv20, h⟩ := bnd h
      refine G_callI (run_V C [.int (sI σ9 v4 10), .int (sI σ9 v4 6), .int p2] [] (dX1_lawFor hv20) ml_X1_lawFor mv_X1_lawFor lk_X11_288 ⟨(Nat.le_of_ble_eq_true rfl), (Nat.le_of_ble_eq_true rfl)⟩ ⟨(Nat.le_of_ble_eq_true rfl), (Nat.le_of_ble_eq_true rfl)⟩ vq_1 rfl ko_33 rfl (Nat.le_of_ble_eq_true rfl) dX11_sold_168) ?_
      obtain rfl := Option.some.inj h
      exact G_iretx C hr (Nat.le_of_ble_eq_true rfl) (Nat.le_of_ble_eq_true rfl) dX11_sold_171
    replace h := (if_neg hc18).symm.trans h
    by_cases hc21 : p1 = (6 : Int32)
    · replace h := (if_pos hc21).symm.trans h
      refine G_tswIn (tgt := 172) C (6) 6 hc21 (by decide) (by decide) (by decide) rfl rfl dX11_sold_57 ?_
      refine G_aload_n C 1 rfl rfl dX11_sold_172 ?_
      refine G_getF C fl_X11_21_10 rfl rfl fn_32_1 dX11_sold_173 ?_
      refine G_getI C fl_X11_292_0 (Or.inl rfl) ko_53 dX11_sold_176 ?_
      obtain rfl := Option.some.inj h
      exact G_iretx C hr (Nat.le_of_ble_eq_true rfl) (Nat.le_of_ble_eq_true rfl) dX11_sold_179
    replace h := (if_neg hc21).symm.trans h
    have ht22 : ∀ j : Nat, j < 7 → p1 ≠ Int32.ofInt (0 + (j : Int)) := by
      intro j hj
      rcases (show j = 0 ∨ j = 1 ∨ j = 2 ∨ j = 3 ∨ j = 4 ∨ j = 5 ∨ j = 6 by omega) with rfl | rfl | rfl | rfl | rfl | rfl | rfl
      · exact hc10
      · exact hc11
      · exact hc13
      · exact hc14
      · exact hc15
      · exact hc18
      · exact hc21
    refine G_tswOut (tgt := 180) C 7 ht22 (by decide) (by decide) rfl dX11_sold_57 ?_
    refine G_aload_n C 1 rfl rfl dX11_sold_180 ?_
    refine G_getF C fl_X11_21_10 rfl rfl fn_32_1 dX11_sold_181 ?_
    refine G_getI C fl_X11_295_0 (Or.inl rfl) ko_53 dX11_sold_184 ?_
    obtain rfl := Option.some.inj h
    exact G_iretx C hr (Nat.le_of_ble_eq_true rfl) (Nat.le_of_ble_eq_true rfl) dX11_sold_187
  · replace h := (if_pos hc7).symm.trans h
    refine G_iconst C (v := -1) rfl dX11_sold_36 ?_
    obtain rfl := Option.some.inj h
    exact G_iretx C hr (Nat.le_of_ble_eq_true rfl) (Nat.le_of_ble_eq_true rfl) dX11_sold_37
set_option maxRecDepth 100000 in
set_option maxHeartbeats 4000000 in
theorem dX11_has (hlx : l.stackTraces = false) {σ : Sto} {p0 : Int32} {p1 : Int32} {p2 : Int32} {p3 : Int32} {r : Nat ⊕ (Int32 × Sto)} (h : mX11_has p0 p1 p2 p3 σ = some r) : MX l yX11_has cX11_has 6 (some .int) 7 4 24 E true σ [.ref 32, .int p0, .int p1, .int p2, .int p3] Int32 r (QIx E true σ r) := by
  unfold mX11_has at h
  refine MX_of (by decide) (Nat.le_of_ble_eq_true rfl) rfl (fun p e s m args below meth c ad0 C hr htb => ?_)
  refine G_aload_n C 0 rfl rfl dX11_has_0 ?_
  refine G_iload_n C 1 rfl rfl dX11_has_1 ?_
  rcases bdp_elim h with ⟨x1, hv1, rfl⟩ | ⟨u1, hv1, h⟩
  · exact G_callVx_thr C htb (Nat.le_of_ble_eq_true rfl) (Nat.le_of_ble_eq_true rfl) (run_Vx C [.int p0] [] (dX11_needSale hlx hv1) ml_X11_needSale mv_X11_needSale lk_X11_228 ⟨(Nat.le_of_ble_eq_true rfl), (Nat.le_of_ble_eq_true rfl)⟩ ⟨(Nat.le_of_ble_eq_true rfl), (Nat.le_of_ble_eq_true rfl)⟩ vq_10 rfl ko_32 rfl (Nat.le_of_ble_eq_true rfl) dX11_has_2)
  refine G_callVx (run_Vx C [.int p0] [] (dX11_needSale hlx hv1) ml_X11_needSale mv_X11_needSale lk_X11_228 ⟨(Nat.le_of_ble_eq_true rfl), (Nat.le_of_ble_eq_true rfl)⟩ ⟨(Nat.le_of_ble_eq_true rfl), (Nat.le_of_ble_eq_true rfl)⟩ vq_10 rfl ko_32 rfl (Nat.le_of_ble_eq_true rfl) dX11_has_2) ?_
  refine G_aload_n C 0 rfl rfl dX11_has_5 ?_
  refine G_iload_n C 2 rfl rfl dX11_has_6 ?_
  rcases bdp_elim h with ⟨x2, hv2, rfl⟩ | ⟨u2, hv2, h⟩
  · exact G_callVx_thr C htb (Nat.le_of_ble_eq_true rfl) (Nat.le_of_ble_eq_true rfl) (run_Vx C [.int p1] [] (dX11_needPerson hlx hv2) ml_X11_needPerson mv_X11_needPerson lk_X11_103 ⟨(Nat.le_of_ble_eq_true rfl), (Nat.le_of_ble_eq_true rfl)⟩ ⟨(Nat.le_of_ble_eq_true rfl), (Nat.le_of_ble_eq_true rfl)⟩ vq_10 rfl ko_32 rfl (Nat.le_of_ble_eq_true rfl) dX11_has_7)
  refine G_callVx (run_Vx C [.int p1] [] (dX11_needPerson hlx hv2) ml_X11_needPerson mv_X11_needPerson lk_X11_103 ⟨(Nat.le_of_ble_eq_true rfl), (Nat.le_of_ble_eq_true rfl)⟩ ⟨(Nat.le_of_ble_eq_true rfl), (Nat.le_of_ble_eq_true rfl)⟩ vq_10 rfl ko_32 rfl (Nat.le_of_ble_eq_true rfl) dX11_has_7) ?_
  refine G_aload_n C 0 rfl rfl dX11_has_10 ?_
  refine G_iload_n C 3 rfl rfl dX11_has_11 ?_
  refine G_iconst C (v := 3) rfl dX11_has_12 ?_
  rcases bdp_elim h with ⟨x3, hv3, rfl⟩ | ⟨u3, hv3, h⟩
  · exact G_callVx_thr C htb (Nat.le_of_ble_eq_true rfl) (Nat.le_of_ble_eq_true rfl) (run_Vx C [.int p2, .int (3 : Int32)] [] (dX11_needWhat hlx hv3) ml_X11_needWhat mv_X11_needWhat lk_X11_255 ⟨(Nat.le_of_ble_eq_true rfl), (Nat.le_of_ble_eq_true rfl)⟩ ⟨(Nat.le_of_ble_eq_true rfl), (Nat.le_of_ble_eq_true rfl)⟩ vq_10 rfl ko_32 rfl (Nat.le_of_ble_eq_true rfl) dX11_has_13)
  refine G_callVx (run_Vx C [.int p2, .int (3 : Int32)] [] (dX11_needWhat hlx hv3) ml_X11_needWhat mv_X11_needWhat lk_X11_255 ⟨(Nat.le_of_ble_eq_true rfl), (Nat.le_of_ble_eq_true rfl)⟩ ⟨(Nat.le_of_ble_eq_true rfl), (Nat.le_of_ble_eq_true rfl)⟩ vq_10 rfl ko_32 rfl (Nat.le_of_ble_eq_true rfl) dX11_has_13) ?_
  refine G_aload_n C 0 rfl rfl dX11_has_16 ?_
  refine G_iload C 4 rfl dX11_has_17 ?_
  rcases bdp_elim h with ⟨x4, hv4, rfl⟩ | ⟨u4, hv4, h⟩
  · exact G_callVx_thr C htb (Nat.le_of_ble_eq_true rfl) (Nat.le_of_ble_eq_true rfl) (run_Vx C [.int p3] [] (dX11_needEvening hlx hv4) ml_X11_needEvening mv_X11_needEvening lk_X11_258 ⟨(Nat.le_of_ble_eq_true rfl), (Nat.le_of_ble_eq_true rfl)⟩ ⟨(Nat.le_of_ble_eq_true rfl), (Nat.le_of_ble_eq_true rfl)⟩ vq_10 rfl ko_32 rfl (Nat.le_of_ble_eq_true rfl) dX11_has_19)
  refine G_callVx (run_Vx C [.int p3] [] (dX11_needEvening hlx hv4) ml_X11_needEvening mv_X11_needEvening lk_X11_258 ⟨(Nat.le_of_ble_eq_true rfl), (Nat.le_of_ble_eq_true rfl)⟩ ⟨(Nat.le_of_ble_eq_true rfl), (Nat.le_of_ble_eq_true rfl)⟩ vq_10 rfl ko_32 rfl (Nat.le_of_ble_eq_true rfl) dX11_has_19) ?_
  refine G_aload_n C 0 rfl rfl dX11_has_22 ?_
  refine G_getF C fl_X11_10_10 rfl rfl fn_32_0 dX11_has_23 ?_
  refine G_iload_n C 1 rfl rfl dX11_has_26 ?_
  obtain ⟨v5, hv5, h⟩ := bnd h
  refine G_callR (run_V C [.int p0] [] (dX1_factAt hv5) ml_X1_factAt mv_X1_factAt lk_X11_218 ⟨(Nat.le_of_ble_eq_true rfl), (Nat.le_of_ble_eq_true rfl)⟩ ⟨(Nat.le_of_ble_eq_true rfl), (Nat.le_of_ble_eq_true rfl)⟩ vq_1 rfl ko_33 rfl (Nat.le_of_ble_eq_true rfl) dX11_has_27) ?_
  refine G_astore (L' := [(5, .ref v5), (0, .ref 32), (1, .int p0), (2, .int p1), (3, .int p2), (4, .int p3)]) C (Nat.le_of_ble_eq_true rfl) rfl dX11_has_30 ?_
  refine G_aload C 0 rfl dX11_has_32 ?_
  refine G_iload C 5 rfl dX11_has_34 ?_
  obtain ⟨hc7, h⟩ := ifn h
  obtain ⟨v6, hv6, h⟩ := bnd h
  refine G_callI (run_U C [.int p3] [] (dX9_isKnownOn3 hc7 hv6) wu_X11_261 ⟨(Nat.le_of_ble_eq_true rfl), (Nat.le_of_ble_eq_true rfl)⟩ ⟨(Nat.le_of_ble_eq_true rfl), (Nat.le_of_ble_eq_true rfl)⟩ vq_3 (KO.dy hc7) rfl (Nat.le_of_ble_eq_true rfl) dX11_has_36) ?_
  refine G_if_ne (tgt := 44) C rfl dX11_has_39 (fun hc8 => ?_) (fun hc8 => ?_)
  · replace h := (if_neg hc8).symm.trans h
    refine G_aload_n C 1 rfl rfl dX11_has_44 ?_
    refine G_getF C fl_X11_21_10 rfl rfl fn_32_1 dX11_has_45 ?_
    refine G_iload C 5 rfl dX11_has_48 ?_
    obtain ⟨σ9, hv9, h⟩ := bnd h
    refine G_callV (run_V C [.int p3] [] (dX0_open hv9) ml_X0_open mv_X0_open lk_X11_264 ⟨(Nat.le_of_ble_eq_true rfl), (Nat.le_of_ble_eq_true rfl)⟩ ⟨(Nat.le_of_ble_eq_true rfl), (Nat.le_of_ble_eq_true rfl)⟩ vq_0 rfl ko_53 rfl (Nat.le_of_ble_eq_true rfl) dX11_has_50) ?_
    refine G_aload_n C 1 rfl rfl dX11_has_53 ?_
    refine G_getF C fl_X11_21_10 rfl rfl fn_32_1 dX11_has_54 ?_
    refine G_aload C 0 rfl dX11_has_57 ?_
    refine G_iload_n C 2 rfl rfl dX11_has_59 ?_
    obtain ⟨σ10, hv10, h⟩ := bnd h
    refine G_callV (run_V C [.ref v5, .int p0] [] (dX0_settle hv10) ml_X0_settle mv_X0_settle lk_X11_267 ⟨(Nat.le_of_ble_eq_true rfl), (Nat.le_of_ble_eq_true rfl)⟩ ⟨(Nat.le_of_ble_eq_true rfl), (Nat.le_of_ble_eq_true rfl)⟩ vq_0 rfl ko_53 rfl (Nat.le_of_ble_eq_true rfl) dX11_has_60) ?_
    refine G_iload_n C 4 rfl rfl dX11_has_63 ?_
    by_cases hc11 : p2 = (0 : Int32)
    · replace h := (if_pos hc11).symm.trans h
      refine G_tswIn (tgt := 92) C (0) 0 hc11 (by decide) (by decide) (by decide) rfl rfl dX11_has_64 ?_
      refine G_aload_n C 1 rfl rfl dX11_has_92 ?_
      refine G_getF C fl_X11_21_10 rfl rfl fn_32_1 dX11_has_93 ?_
      refine G_getF C fl_X11_298_0 rfl rfl fn_53_13 dX11_has_96 ?_
      refine G_iload_n C 3 rfl rfl dX11_has_99 ?_
      obtain ⟨hc12, h⟩ := ifn h
      refine G_iaload C ks_57 hc12 dX11_has_100 ?_
      obtain rfl := Option.some.inj h
      exact G_iretx C hr (Nat.le_of_ble_eq_true rfl) (Nat.le_of_ble_eq_true rfl) dX11_has_101
    replace h := (if_neg hc11).symm.trans h
    by_cases hc13 : p2 = (1 : Int32)
    · replace h := (if_pos hc13).symm.trans h
      refine G_tswIn (tgt := 102) C (1) 1 hc13 (by decide) (by decide) (by decide) rfl rfl dX11_has_64 ?_
      refine G_aload_n C 1 rfl rfl dX11_has_102 ?_
      refine G_getF C fl_X11_21_10 rfl rfl fn_32_1 dX11_has_103 ?_
      refine G_getF C fl_X11_301_0 rfl rfl fn_53_14 dX11_has_106 ?_
      refine G_iload_n C 3 rfl rfl dX11_has_109 ?_
      obtain ⟨hc14, h⟩ := ifn h
      refine G_iaload C ks_58 hc14 dX11_has_110 ?_
      obtain rfl := Option.some.inj h
      exact G_iretx C hr (Nat.le_of_ble_eq_true rfl) (Nat.le_of_ble_eq_true rfl) dX11_has_111
    replace h := (if_neg hc13).symm.trans h
    by_cases hc15 : p2 = (2 : Int32)
    · replace h := (if_pos hc15).symm.trans h
      refine G_tswIn (tgt := 112) C (2) 2 hc15 (by decide) (by decide) (by decide) rfl rfl dX11_has_64 ?_
      refine G_aload_n C 1 rfl rfl dX11_has_112 ?_
      refine G_getF C fl_X11_21_10 rfl rfl fn_32_1 dX11_has_113 ?_
      refine G_getF C fl_X11_304_0 rfl rfl fn_53_15 dX11_has_116 ?_
      refine G_iload_n C 3 rfl rfl dX11_has_119 ?_
      obtain ⟨hc16, h⟩ := ifn h
      refine G_iaload C ks_59 hc16 dX11_has_120 ?_
      obtain rfl := Option.some.inj h
      exact G_iretx C hr (Nat.le_of_ble_eq_true rfl) (Nat.le_of_ble_eq_true rfl) dX11_has_121
    replace h := (if_neg hc15).symm.trans h
    have ht18 : ∀ j : Nat, j < 3 → p2 ≠ Int32.ofInt (0 + (j : Int)) := by
      intro j hj
      rcases (show j = 0 ∨ j = 1 ∨ j = 2 by omega) with rfl | rfl | rfl
      · exact hc11
      · exact hc13
      · exact hc15
    refine G_tswOut (tgt := 122) C 3 ht18 (by decide) (by decide) rfl dX11_has_64 ?_
    refine G_aload_n C 1 rfl rfl dX11_has_122 ?_
    refine G_getF C fl_X11_21_10 rfl rfl fn_32_1 dX11_has_123 ?_
    refine G_getF C fl_X11_307_0 rfl rfl fn_53_18 dX11_has_126 ?_
    refine G_iload_n C 3 rfl rfl dX11_has_129 ?_
    obtain ⟨hc17, h⟩ := ifn h
    refine G_iaload C ks_62 hc17 dX11_has_130 ?_
    obtain rfl := Option.some.inj h
    exact G_iretx C hr (Nat.le_of_ble_eq_true rfl) (Nat.le_of_ble_eq_true rfl) dX11_has_131
  · replace h := (if_pos hc8).symm.trans h
    refine G_iconst C (v := 0) rfl dX11_has_42 ?_
    obtain rfl := Option.some.inj h
    exact G_iretx C hr (Nat.le_of_ble_eq_true rfl) (Nat.le_of_ble_eq_true rfl) dX11_has_43
set_option maxRecDepth 100000 in
set_option maxHeartbeats 4000000 in
theorem dX11_needYear (hlx : l.stackTraces = false) {σ : Sto} {p0 : Int32} {r : Nat ⊕ Unit} (h : mX11_needYear p0 σ = some r) : MX l yX11_needYear cX11_needYear 2 none 6 1 6 E true σ [.ref 32, .int p0] Unit (embS σ r) (QVx E true σ (embS σ r)) := by
  unfold mX11_needYear at h
  refine MX_of (by decide) (Nat.le_of_ble_eq_true rfl) rfl (fun p e s m args below meth c ad0 C hr htb => ?_)
  refine G_iload_n C 1 rfl rfl dX11_needYear_0 ?_
  refine G_iconst C (v := 0) rfl dX11_needYear_1 ?_
  refine G_bipush C (v := 99) rfl dX11_needYear_2 ?_
  refine G_callI (run_S C [.int p0, .int (0 : Int32), .int (99 : Int32)] [] (dX11_isWithin rfl) ml_X11_isWithin ms_X11_isWithin lk_X11_78 ⟨(Nat.le_of_ble_eq_true rfl), (Nat.le_of_ble_eq_true rfl)⟩ ⟨(Nat.le_of_ble_eq_true rfl), (Nat.le_of_ble_eq_true rfl)⟩ rfl (Nat.le_of_ble_eq_true rfl) dX11_needYear_4) ?_
  refine G_if_ne (tgt := 21) C rfl dX11_needYear_7 (fun hc2 => ?_) (fun hc2 => ?_)
  · replace h := (if_neg hc2).symm.trans h
    obtain rfl := Option.some.inj h
    exact G_vretx C hr (Nat.le_of_ble_eq_true rfl) (Nat.le_of_ble_eq_true rfl) dX11_needYear_21
  · replace h := (if_pos hc2).symm.trans h
    obtain rfl := Option.some.inj h
    exact G_throwW C hlx htb rfl (x := 0) rfl xw_202 nl_X11_198 xi_0 (List.mem_of_getElem? (l := msgs) (i := 11) rfl) (Nat.le_of_ble_eq_true rfl) (Nat.le_of_ble_eq_true rfl) (Nat.le_of_ble_eq_true rfl) (Nat.le_of_ble_eq_true rfl) (Nat.le_of_ble_eq_true rfl) (Nat.le_of_ble_eq_true rfl) dX11_needYear_10 dX11_needYear_13 dX11_needYear_14 dX11_needYear_17 dX11_needYear_20
set_option maxRecDepth 100000 in
set_option maxHeartbeats 4000000 in
theorem eX11_gets_29B (C : Cx E p s m args meth c cX11_gets 8 RX11) (hr : meth.sig.returnType = (some .long)) (hlx : l.stackTraces = false) (htb : ∀ x ∈ c.exceptionTable.toList, False) {σ0 : Sto} {r : Nat ⊕ (Int64 × Sto)} {σ : Sto} {f29 : Int32 → Int32 → Int32 → Int64 → Int32 → Sto → Option (Nat ⊕ (Int64 × Sto))} {x1 : Int32} {x2 : Int32} {x3 : Int32} {x4 : Int64} {x6 : Int32} (hf29 : ∀ (x1 : Int32) (x2 : Int32) (x3 : Int32) (x4 : Int64) (x6 : Int32) (σ' : Sto), f29 x1 x2 x3 x4 x6 σ' = some r → G p l e (rmd 7 3 18) s m args below meth c E true (sZ σ0) ad0 (vx_MQ below (QLx E true σ0 r ad0) (XX E true σ0 Int64 r ad0) args s 3 18 (AE E)) 8 3 18 σ' 29 [(0, .ref 32), (1, .int x1), (2, .int x2), (3, .int x3), (4, .long x4), (6, .int x6)] []) (h : mX11_gets_29B f29 x1 x2 x3 x4 x6 σ = some r) : G p l e (rmd 7 3 18) s m args below meth c E true (sZ σ0) ad0 (vx_MQ below (QLx E true σ0 r ad0) (XX E true σ0 Int64 r ad0) args s 3 18 (AE E)) 8 3 18 σ 29 [(0, .ref 32), (1, .int x1), (2, .int x2), (3, .int x3), (4, .long x4), (6, .int x6)] [] := by
  unfold mX11_gets_29B at h
  refine G_iload C 5 rfl dX11_gets_29 ?_
  refine G_aload_n C 0 rfl rfl dX11_gets_31 ?_
  refine G_getF C fl_X11_10_10 rfl rfl fn_32_0 dX11_gets_32 ?_
  refine G_getI C fl_X11_209_1 (Or.inl rfl) ko_33 dX11_gets_35 ?_
  refine G_icmp_ge (tgt := 102) C rfl dX11_gets_38 (fun hc5 => ?_) (fun hc5 => ?_)
  · replace h := (if_pos hc5).symm.trans h
    refine G_lload C 4 rfl dX11_gets_102 ?_
    obtain rfl := Option.some.inj h
    exact G_lretx C hr (Nat.le_of_ble_eq_true rfl) (Nat.le_of_ble_eq_true rfl) dX11_gets_104
  · replace h := (if_neg hc5).symm.trans h
    refine G_aload_n C 0 rfl rfl dX11_gets_41 ?_
    refine G_getF C fl_X11_10_10 rfl rfl fn_32_0 dX11_gets_42 ?_
    refine G_iload C 5 rfl dX11_gets_45 ?_
    obtain ⟨v6, hv6, h⟩ := bnd h
    refine G_callR (run_V C [.int x6] [] (dX1_factAt hv6) ml_X1_factAt mv_X1_factAt lk_X11_218 ⟨(Nat.le_of_ble_eq_true rfl), (Nat.le_of_ble_eq_true rfl)⟩ ⟨(Nat.le_of_ble_eq_true rfl), (Nat.le_of_ble_eq_true rfl)⟩ vq_1 rfl ko_33 rfl (Nat.le_of_ble_eq_true rfl) dX11_gets_47) ?_
    refine G_astore (L' := [(7, .ref v6), (0, .ref 32), (1, .int x1), (2, .int x2), (3, .int x3), (4, .long x4), (6, .int x6)]) C (Nat.le_of_ble_eq_true rfl) rfl dX11_gets_50 ?_
    refine G_aload C 0 rfl dX11_gets_52 ?_
    refine G_iload_n C 3 rfl rfl dX11_gets_54 ?_
    obtain ⟨hc8, h⟩ := ifn h
    obtain ⟨v7, hv7, h⟩ := bnd h
    refine G_callI (run_V C [.int x2] [] (dX3_isSaleOf hc8 hv7) ml_X3_isSaleOf mv_X3_isSaleOf lk_X11_313 ⟨(Nat.le_of_ble_eq_true rfl), (Nat.le_of_ble_eq_true rfl)⟩ ⟨(Nat.le_of_ble_eq_true rfl), (Nat.le_of_ble_eq_true rfl)⟩ vq_3 rfl (KO.dy hc8) rfl (Nat.le_of_ble_eq_true rfl) dX11_gets_55) ?_
    refine G_if_eq (tgt := 96) C rfl dX11_gets_58 (fun hc9 => ?_) (fun hc9 => ?_)
    · replace h := (if_pos hc9).symm.trans h
      refine G_iinc (v := 1) (L' := [(6, .int (x6 + (1 : Int32))), (7, .ref v6), (0, .ref 32), (1, .int x1), (2, .int x2), (3, .int x3), (4, .long x4)]) C 6 rfl rfl (Nat.le_of_ble_eq_true rfl) rfl dX11_gets_96 ?_
      refine G_goto (tgt := 29) C rfl dX11_gets_99 ?_
      refine G_sub [2, 3, 4, 5, 6, 0] rfl ?_
      exact hf29 _ _ _ _ _ _ h
    · replace h := (if_neg hc9).symm.trans h
      refine G_aload C 0 rfl dX11_gets_61 ?_
      refine G_iload_n C 4 rfl rfl dX11_gets_63 ?_
      obtain ⟨v10, hv10, h⟩ := bnd h
      refine G_callI (run_U C [.int x3] [] (dX9_isKnownOn3 hc8 hv10) wu_X11_261 ⟨(Nat.le_of_ble_eq_true rfl), (Nat.le_of_ble_eq_true rfl)⟩ ⟨(Nat.le_of_ble_eq_true rfl), (Nat.le_of_ble_eq_true rfl)⟩ vq_3 (KO.dy hc8) rfl (Nat.le_of_ble_eq_true rfl) dX11_gets_64) ?_
      refine G_if_eq (tgt := 96) C rfl dX11_gets_67 (fun hc11 => ?_) (fun hc11 => ?_)
      · replace h := (if_pos hc11).symm.trans h
        refine G_iinc (v := 1) (L' := [(6, .int (x6 + (1 : Int32))), (7, .ref v6), (0, .ref 32), (1, .int x1), (2, .int x2), (3, .int x3), (4, .long x4)]) C 6 rfl rfl (Nat.le_of_ble_eq_true rfl) rfl dX11_gets_96 ?_
        refine G_goto (tgt := 29) C rfl dX11_gets_99 ?_
        refine G_sub [2, 3, 4, 5, 6, 0] rfl ?_
        exact hf29 _ _ _ _ _ _ h
      · replace h := (if_neg hc11).symm.trans h
        refine G_aload_n C 1 rfl rfl dX11_gets_70 ?_
        refine G_getF C fl_X11_21_10 rfl rfl fn_32_1 dX11_gets_71 ?_
        refine G_aload C 0 rfl dX11_gets_74 ?_
        refine G_iload C 6 rfl dX11_gets_76 ?_
        obtain ⟨σ12, hv12, h⟩ := bnd h
        refine G_callV (run_V C [.ref v6, .int x6] [] (dX0_settle hv12) ml_X0_settle mv_X0_settle lk_X11_267 ⟨(Nat.le_of_ble_eq_true rfl), (Nat.le_of_ble_eq_true rfl)⟩ ⟨(Nat.le_of_ble_eq_true rfl), (Nat.le_of_ble_eq_true rfl)⟩ vq_0 rfl ko_53 rfl (Nat.le_of_ble_eq_true rfl) dX11_gets_78) ?_
        refine G_lload C 5 rfl dX11_gets_81 ?_
        refine G_aload_n C 1 rfl rfl dX11_gets_83 ?_
        refine G_getF C fl_X11_21_10 rfl rfl fn_32_1 dX11_gets_84 ?_
        refine G_getF C fl_X11_307_0 rfl rfl fn_53_18 dX11_gets_87 ?_
        refine G_iload_n C 2 rfl rfl dX11_gets_90 ?_
        obtain ⟨hc13, h⟩ := ifn h
        refine G_iaload C ks_62 hc13 dX11_gets_91 ?_
        refine G_i2l C dX11_gets_92 ?_
        refine G_ladd C dX11_gets_93 ?_
        refine G_lstore (L' := [(4, .long (x4 + ((sI σ12 62 (x1).toNatClampNeg)).toInt64)), (7, .ref v6), (0, .ref 32), (1, .int x1), (2, .int x2), (3, .int x3), (6, .int x6)]) C (Nat.le_of_ble_eq_true rfl) rfl dX11_gets_94 ?_
        refine G_iinc (v := 1) (L' := [(6, .int (x6 + (1 : Int32))), (4, .long (x4 + ((sI σ12 62 (x1).toNatClampNeg)).toInt64)), (7, .ref v6), (0, .ref 32), (1, .int x1), (2, .int x2), (3, .int x3)]) C 6 rfl rfl (Nat.le_of_ble_eq_true rfl) rfl dX11_gets_96 ?_
        refine G_goto (tgt := 29) C rfl dX11_gets_99 ?_
        refine G_sub [3, 4, 5, 6, 1, 0] rfl ?_
        exact hf29 _ _ _ _ _ _ h
set_option maxRecDepth 100000 in
set_option maxHeartbeats 4000000 in
theorem eX11_gets_29 (C : Cx E p s m args meth c cX11_gets 8 RX11) (hr : meth.sig.returnType = (some .long)) (hlx : l.stackTraces = false) (htb : ∀ x ∈ c.exceptionTable.toList, False) {σ0 : Sto} {r : Nat ⊕ (Int64 × Sto)} {σ : Sto} {n : Nat} {x1 : Int32} {x2 : Int32} {x3 : Int32} {x4 : Int64} {x6 : Int32} (h : mX11_gets_29 n x1 x2 x3 x4 x6 σ = some r) : G p l e (rmd 7 3 18) s m args below meth c E true (sZ σ0) ad0 (vx_MQ below (QLx E true σ0 r ad0) (XX E true σ0 Int64 r ad0) args s 3 18 (AE E)) 8 3 18 σ 29 [(0, .ref 32), (1, .int x1), (2, .int x2), (3, .int x3), (4, .long x4), (6, .int x6)] [] := by
  induction n generalizing x1 x2 x3 x4 x6 σ with
  | zero => exact nomatch (show (none : Option (Nat ⊕ (Int64 × Sto))) = some r from h)
  | succ n ih => exact eX11_gets_29B C hr hlx htb (fun z0 z1 z2 z3 z4 σ9 h9 => ih h9) h
set_option maxRecDepth 100000 in
set_option maxHeartbeats 4000000 in
theorem dX11_gets (hlx : l.stackTraces = false) {σ : Sto} {p0 : Int32} {p1 : Int32} {p2 : Int32} {r : Nat ⊕ (Int64 × Sto)} (h : mX11_gets p0 p1 p2 σ = some r) : MX l yX11_gets cX11_gets 8 (some .long) 7 3 18 E true σ [.ref 32, .int p0, .int p1, .int p2] Int64 r (QLx E true σ r) := by
  unfold mX11_gets at h
  refine MX_of (by decide) (Nat.le_of_ble_eq_true rfl) rfl (fun p e s m args below meth c ad0 C hr htb => ?_)
  refine G_aload_n C 0 rfl rfl dX11_gets_0 ?_
  refine G_iload_n C 1 rfl rfl dX11_gets_1 ?_
  rcases bdp_elim h with ⟨x1, hv1, rfl⟩ | ⟨u1, hv1, h⟩
  · exact G_callVx_thr C htb (Nat.le_of_ble_eq_true rfl) (Nat.le_of_ble_eq_true rfl) (run_Vx C [.int p0] [] (dX11_needPerson hlx hv1) ml_X11_needPerson mv_X11_needPerson lk_X11_103 ⟨(Nat.le_of_ble_eq_true rfl), (Nat.le_of_ble_eq_true rfl)⟩ ⟨(Nat.le_of_ble_eq_true rfl), (Nat.le_of_ble_eq_true rfl)⟩ vq_10 rfl ko_32 rfl (Nat.le_of_ble_eq_true rfl) dX11_gets_2)
  refine G_callVx (run_Vx C [.int p0] [] (dX11_needPerson hlx hv1) ml_X11_needPerson mv_X11_needPerson lk_X11_103 ⟨(Nat.le_of_ble_eq_true rfl), (Nat.le_of_ble_eq_true rfl)⟩ ⟨(Nat.le_of_ble_eq_true rfl), (Nat.le_of_ble_eq_true rfl)⟩ vq_10 rfl ko_32 rfl (Nat.le_of_ble_eq_true rfl) dX11_gets_2) ?_
  refine G_aload_n C 0 rfl rfl dX11_gets_5 ?_
  refine G_iload_n C 2 rfl rfl dX11_gets_6 ?_
  rcases bdp_elim h with ⟨x2, hv2, rfl⟩ | ⟨u2, hv2, h⟩
  · exact G_callVx_thr C htb (Nat.le_of_ble_eq_true rfl) (Nat.le_of_ble_eq_true rfl) (run_Vx C [.int p1] [] (dX11_needYear hlx hv2) ml_X11_needYear mv_X11_needYear lk_X11_310 ⟨(Nat.le_of_ble_eq_true rfl), (Nat.le_of_ble_eq_true rfl)⟩ ⟨(Nat.le_of_ble_eq_true rfl), (Nat.le_of_ble_eq_true rfl)⟩ vq_10 rfl ko_32 rfl (Nat.le_of_ble_eq_true rfl) dX11_gets_7)
  refine G_callVx (run_Vx C [.int p1] [] (dX11_needYear hlx hv2) ml_X11_needYear mv_X11_needYear lk_X11_310 ⟨(Nat.le_of_ble_eq_true rfl), (Nat.le_of_ble_eq_true rfl)⟩ ⟨(Nat.le_of_ble_eq_true rfl), (Nat.le_of_ble_eq_true rfl)⟩ vq_10 rfl ko_32 rfl (Nat.le_of_ble_eq_true rfl) dX11_gets_7) ?_
  refine G_aload_n C 0 rfl rfl dX11_gets_10 ?_
  refine G_iload_n C 3 rfl rfl dX11_gets_11 ?_
  rcases bdp_elim h with ⟨x3, hv3, rfl⟩ | ⟨u3, hv3, h⟩
  · exact G_callVx_thr C htb (Nat.le_of_ble_eq_true rfl) (Nat.le_of_ble_eq_true rfl) (run_Vx C [.int p2] [] (dX11_needEvening hlx hv3) ml_X11_needEvening mv_X11_needEvening lk_X11_258 ⟨(Nat.le_of_ble_eq_true rfl), (Nat.le_of_ble_eq_true rfl)⟩ ⟨(Nat.le_of_ble_eq_true rfl), (Nat.le_of_ble_eq_true rfl)⟩ vq_10 rfl ko_32 rfl (Nat.le_of_ble_eq_true rfl) dX11_gets_12)
  refine G_callVx (run_Vx C [.int p2] [] (dX11_needEvening hlx hv3) ml_X11_needEvening mv_X11_needEvening lk_X11_258 ⟨(Nat.le_of_ble_eq_true rfl), (Nat.le_of_ble_eq_true rfl)⟩ ⟨(Nat.le_of_ble_eq_true rfl), (Nat.le_of_ble_eq_true rfl)⟩ vq_10 rfl ko_32 rfl (Nat.le_of_ble_eq_true rfl) dX11_gets_12) ?_
  refine G_aload_n C 0 rfl rfl dX11_gets_15 ?_
  refine G_getF C fl_X11_21_10 rfl rfl fn_32_1 dX11_gets_16 ?_
  refine G_iload_n C 3 rfl rfl dX11_gets_19 ?_
  obtain ⟨σ4, hv4, h⟩ := bnd h
  refine G_callV (run_V C [.int p2] [] (dX0_open hv4) ml_X0_open mv_X0_open lk_X11_264 ⟨(Nat.le_of_ble_eq_true rfl), (Nat.le_of_ble_eq_true rfl)⟩ ⟨(Nat.le_of_ble_eq_true rfl), (Nat.le_of_ble_eq_true rfl)⟩ vq_0 rfl ko_53 rfl (Nat.le_of_ble_eq_true rfl) dX11_gets_20) ?_
  refine G_lconst C (v := 0) rfl dX11_gets_23 ?_
  refine G_lstore (L' := [(4, .long (0 : Int64)), (0, .ref 32), (1, .int p0), (2, .int p1), (3, .int p2)]) C (Nat.le_of_ble_eq_true rfl) rfl dX11_gets_24 ?_
  refine G_iconst C (v := 0) rfl dX11_gets_26 ?_
  refine G_istore (L' := [(6, .int (0 : Int32)), (4, .long (0 : Int64)), (0, .ref 32), (1, .int p0), (2, .int p1), (3, .int p2)]) C (Nat.le_of_ble_eq_true rfl) rfl dX11_gets_27 ?_
  refine G_sub [2, 3, 4, 5, 1, 0] rfl ?_
  exact eX11_gets_29 C hr hlx htb h
set_option maxRecDepth 100000 in
set_option maxHeartbeats 4000000 in
theorem dX11_owes (hlx : l.stackTraces = false) {σ : Sto} {p0 : Int32} {p1 : Int32} {p2 : Int32} {p3 : Int32} {r : Nat ⊕ (Int64 × Sto)} (h : mX11_owes p0 p1 p2 p3 σ = some r) : MX l yX11_owes cX11_owes 5 (some .long) 8 4 24 E true σ [.ref 32, .int p0, .int p1, .int p2, .int p3] Int64 r (QLx E true σ r) := by
  unfold mX11_owes at h
  refine MX_of (by decide) (Nat.le_of_ble_eq_true rfl) rfl (fun p e s m args below meth c ad0 C hr htb => ?_)
  refine G_aload_n C 0 rfl rfl dX11_owes_0 ?_
  refine G_iload_n C 1 rfl rfl dX11_owes_1 ?_
  rcases bdp_elim h with ⟨x1, hv1, rfl⟩ | ⟨u1, hv1, h⟩
  · exact G_callVx_thr C htb (Nat.le_of_ble_eq_true rfl) (Nat.le_of_ble_eq_true rfl) (run_Vx C [.int p0] [] (dX11_needSociety hlx hv1) ml_X11_needSociety mv_X11_needSociety lk_X11_203 ⟨(Nat.le_of_ble_eq_true rfl), (Nat.le_of_ble_eq_true rfl)⟩ ⟨(Nat.le_of_ble_eq_true rfl), (Nat.le_of_ble_eq_true rfl)⟩ vq_10 rfl ko_32 rfl (Nat.le_of_ble_eq_true rfl) dX11_owes_2)
  refine G_callVx (run_Vx C [.int p0] [] (dX11_needSociety hlx hv1) ml_X11_needSociety mv_X11_needSociety lk_X11_203 ⟨(Nat.le_of_ble_eq_true rfl), (Nat.le_of_ble_eq_true rfl)⟩ ⟨(Nat.le_of_ble_eq_true rfl), (Nat.le_of_ble_eq_true rfl)⟩ vq_10 rfl ko_32 rfl (Nat.le_of_ble_eq_true rfl) dX11_owes_2) ?_
  refine G_aload_n C 0 rfl rfl dX11_owes_5 ?_
  refine G_iload_n C 2 rfl rfl dX11_owes_6 ?_
  rcases bdp_elim h with ⟨x2, hv2, rfl⟩ | ⟨u2, hv2, h⟩
  · exact G_callVx_thr C htb (Nat.le_of_ble_eq_true rfl) (Nat.le_of_ble_eq_true rfl) (run_Vx C [.int p1] [] (dX11_needSociety hlx hv2) ml_X11_needSociety mv_X11_needSociety lk_X11_203 ⟨(Nat.le_of_ble_eq_true rfl), (Nat.le_of_ble_eq_true rfl)⟩ ⟨(Nat.le_of_ble_eq_true rfl), (Nat.le_of_ble_eq_true rfl)⟩ vq_10 rfl ko_32 rfl (Nat.le_of_ble_eq_true rfl) dX11_owes_7)
  refine G_callVx (run_Vx C [.int p1] [] (dX11_needSociety hlx hv2) ml_X11_needSociety mv_X11_needSociety lk_X11_203 ⟨(Nat.le_of_ble_eq_true rfl), (Nat.le_of_ble_eq_true rfl)⟩ ⟨(Nat.le_of_ble_eq_true rfl), (Nat.le_of_ble_eq_true rfl)⟩ vq_10 rfl ko_32 rfl (Nat.le_of_ble_eq_true rfl) dX11_owes_7) ?_
  refine G_aload_n C 0 rfl rfl dX11_owes_10 ?_
  refine G_iload_n C 3 rfl rfl dX11_owes_11 ?_
  rcases bdp_elim h with ⟨x3, hv3, rfl⟩ | ⟨u3, hv3, h⟩
  · exact G_callVx_thr C htb (Nat.le_of_ble_eq_true rfl) (Nat.le_of_ble_eq_true rfl) (run_Vx C [.int p2] [] (dX11_needYear hlx hv3) ml_X11_needYear mv_X11_needYear lk_X11_310 ⟨(Nat.le_of_ble_eq_true rfl), (Nat.le_of_ble_eq_true rfl)⟩ ⟨(Nat.le_of_ble_eq_true rfl), (Nat.le_of_ble_eq_true rfl)⟩ vq_10 rfl ko_32 rfl (Nat.le_of_ble_eq_true rfl) dX11_owes_12)
  refine G_callVx (run_Vx C [.int p2] [] (dX11_needYear hlx hv3) ml_X11_needYear mv_X11_needYear lk_X11_310 ⟨(Nat.le_of_ble_eq_true rfl), (Nat.le_of_ble_eq_true rfl)⟩ ⟨(Nat.le_of_ble_eq_true rfl), (Nat.le_of_ble_eq_true rfl)⟩ vq_10 rfl ko_32 rfl (Nat.le_of_ble_eq_true rfl) dX11_owes_12) ?_
  refine G_aload_n C 0 rfl rfl dX11_owes_15 ?_
  refine G_iload C 4 rfl dX11_owes_16 ?_
  rcases bdp_elim h with ⟨x4, hv4, rfl⟩ | ⟨u4, hv4, h⟩
  · exact G_callVx_thr C htb (Nat.le_of_ble_eq_true rfl) (Nat.le_of_ble_eq_true rfl) (run_Vx C [.int p3] [] (dX11_needEvening hlx hv4) ml_X11_needEvening mv_X11_needEvening lk_X11_258 ⟨(Nat.le_of_ble_eq_true rfl), (Nat.le_of_ble_eq_true rfl)⟩ ⟨(Nat.le_of_ble_eq_true rfl), (Nat.le_of_ble_eq_true rfl)⟩ vq_10 rfl ko_32 rfl (Nat.le_of_ble_eq_true rfl) dX11_owes_18)
  refine G_callVx (run_Vx C [.int p3] [] (dX11_needEvening hlx hv4) ml_X11_needEvening mv_X11_needEvening lk_X11_258 ⟨(Nat.le_of_ble_eq_true rfl), (Nat.le_of_ble_eq_true rfl)⟩ ⟨(Nat.le_of_ble_eq_true rfl), (Nat.le_of_ble_eq_true rfl)⟩ vq_10 rfl ko_32 rfl (Nat.le_of_ble_eq_true rfl) dX11_owes_18) ?_
  refine G_aload_n C 0 rfl rfl dX11_owes_21 ?_
  refine G_getF C fl_X11_30_10 rfl rfl fn_32_2 dX11_owes_22 ?_
  refine G_iload_n C 3 rfl rfl dX11_owes_25 ?_
  refine G_iload C 4 rfl dX11_owes_26 ?_
  obtain ⟨σ5, hv5, h⟩ := bnd h
  refine G_callV (run_V C [.int p2, .int p3] [] (dX2_clear hv5) ml_X2_clear mv_X2_clear lk_X11_316 ⟨(Nat.le_of_ble_eq_true rfl), (Nat.le_of_ble_eq_true rfl)⟩ ⟨(Nat.le_of_ble_eq_true rfl), (Nat.le_of_ble_eq_true rfl)⟩ vq_2 rfl ko_63 rfl (Nat.le_of_ble_eq_true rfl) dX11_owes_28) ?_
  refine G_aload_n C 0 rfl rfl dX11_owes_31 ?_
  refine G_getF C fl_X11_30_10 rfl rfl fn_32_2 dX11_owes_32 ?_
  refine G_iload_n C 1 rfl rfl dX11_owes_35 ?_
  refine G_iload_n C 2 rfl rfl dX11_owes_36 ?_
  obtain ⟨v6, hv6, h⟩ := bnd h
  refine G_callL (run_V C [.int p0, .int p1] [] (dX2_owed hv6) ml_X2_owed mv_X2_owed lk_X11_319 ⟨(Nat.le_of_ble_eq_true rfl), (Nat.le_of_ble_eq_true rfl)⟩ ⟨(Nat.le_of_ble_eq_true rfl), (Nat.le_of_ble_eq_true rfl)⟩ vq_2 rfl ko_63 rfl (Nat.le_of_ble_eq_true rfl) dX11_owes_37) ?_
  obtain rfl := Option.some.inj h
  exact G_lretx C hr (Nat.le_of_ble_eq_true rfl) (Nat.le_of_ble_eq_true rfl) dX11_owes_40
set_option maxRecDepth 100000 in
set_option maxHeartbeats 4000000 in
theorem dX11_net (hlx : l.stackTraces = false) {σ : Sto} {p0 : Int32} {p1 : Int32} {p2 : Int32} {r : Nat ⊕ (Int64 × Sto)} (h : mX11_net p0 p1 p2 σ = some r) : MX l yX11_net cX11_net 4 (some .long) 8 3 18 E true σ [.ref 32, .int p0, .int p1, .int p2] Int64 r (QLx E true σ r) := by
  unfold mX11_net at h
  refine MX_of (by decide) (Nat.le_of_ble_eq_true rfl) rfl (fun p e s m args below meth c ad0 C hr htb => ?_)
  refine G_aload_n C 0 rfl rfl dX11_net_0 ?_
  refine G_iload_n C 1 rfl rfl dX11_net_1 ?_
  rcases bdp_elim h with ⟨x1, hv1, rfl⟩ | ⟨u1, hv1, h⟩
  · exact G_callVx_thr C htb (Nat.le_of_ble_eq_true rfl) (Nat.le_of_ble_eq_true rfl) (run_Vx C [.int p0] [] (dX11_needSociety hlx hv1) ml_X11_needSociety mv_X11_needSociety lk_X11_203 ⟨(Nat.le_of_ble_eq_true rfl), (Nat.le_of_ble_eq_true rfl)⟩ ⟨(Nat.le_of_ble_eq_true rfl), (Nat.le_of_ble_eq_true rfl)⟩ vq_10 rfl ko_32 rfl (Nat.le_of_ble_eq_true rfl) dX11_net_2)
  refine G_callVx (run_Vx C [.int p0] [] (dX11_needSociety hlx hv1) ml_X11_needSociety mv_X11_needSociety lk_X11_203 ⟨(Nat.le_of_ble_eq_true rfl), (Nat.le_of_ble_eq_true rfl)⟩ ⟨(Nat.le_of_ble_eq_true rfl), (Nat.le_of_ble_eq_true rfl)⟩ vq_10 rfl ko_32 rfl (Nat.le_of_ble_eq_true rfl) dX11_net_2) ?_
  refine G_aload_n C 0 rfl rfl dX11_net_5 ?_
  refine G_iload_n C 2 rfl rfl dX11_net_6 ?_
  rcases bdp_elim h with ⟨x2, hv2, rfl⟩ | ⟨u2, hv2, h⟩
  · exact G_callVx_thr C htb (Nat.le_of_ble_eq_true rfl) (Nat.le_of_ble_eq_true rfl) (run_Vx C [.int p1] [] (dX11_needYear hlx hv2) ml_X11_needYear mv_X11_needYear lk_X11_310 ⟨(Nat.le_of_ble_eq_true rfl), (Nat.le_of_ble_eq_true rfl)⟩ ⟨(Nat.le_of_ble_eq_true rfl), (Nat.le_of_ble_eq_true rfl)⟩ vq_10 rfl ko_32 rfl (Nat.le_of_ble_eq_true rfl) dX11_net_7)
  refine G_callVx (run_Vx C [.int p1] [] (dX11_needYear hlx hv2) ml_X11_needYear mv_X11_needYear lk_X11_310 ⟨(Nat.le_of_ble_eq_true rfl), (Nat.le_of_ble_eq_true rfl)⟩ ⟨(Nat.le_of_ble_eq_true rfl), (Nat.le_of_ble_eq_true rfl)⟩ vq_10 rfl ko_32 rfl (Nat.le_of_ble_eq_true rfl) dX11_net_7) ?_
  refine G_aload_n C 0 rfl rfl dX11_net_10 ?_
  refine G_iload_n C 3 rfl rfl dX11_net_11 ?_
  rcases bdp_elim h with ⟨x3, hv3, rfl⟩ | ⟨u3, hv3, h⟩
  · exact G_callVx_thr C htb (Nat.le_of_ble_eq_true rfl) (Nat.le_of_ble_eq_true rfl) (run_Vx C [.int p2] [] (dX11_needEvening hlx hv3) ml_X11_needEvening mv_X11_needEvening lk_X11_258 ⟨(Nat.le_of_ble_eq_true rfl), (Nat.le_of_ble_eq_true rfl)⟩ ⟨(Nat.le_of_ble_eq_true rfl), (Nat.le_of_ble_eq_true rfl)⟩ vq_10 rfl ko_32 rfl (Nat.le_of_ble_eq_true rfl) dX11_net_12)
  refine G_callVx (run_Vx C [.int p2] [] (dX11_needEvening hlx hv3) ml_X11_needEvening mv_X11_needEvening lk_X11_258 ⟨(Nat.le_of_ble_eq_true rfl), (Nat.le_of_ble_eq_true rfl)⟩ ⟨(Nat.le_of_ble_eq_true rfl), (Nat.le_of_ble_eq_true rfl)⟩ vq_10 rfl ko_32 rfl (Nat.le_of_ble_eq_true rfl) dX11_net_12) ?_
  refine G_aload_n C 0 rfl rfl dX11_net_15 ?_
  refine G_getF C fl_X11_30_10 rfl rfl fn_32_2 dX11_net_16 ?_
  refine G_iload_n C 2 rfl rfl dX11_net_19 ?_
  refine G_iload_n C 3 rfl rfl dX11_net_20 ?_
  obtain ⟨σ4, hv4, h⟩ := bnd h
  refine G_callV (run_V C [.int p1, .int p2] [] (dX2_clear hv4) ml_X2_clear mv_X2_clear lk_X11_316 ⟨(Nat.le_of_ble_eq_true rfl), (Nat.le_of_ble_eq_true rfl)⟩ ⟨(Nat.le_of_ble_eq_true rfl), (Nat.le_of_ble_eq_true rfl)⟩ vq_2 rfl ko_63 rfl (Nat.le_of_ble_eq_true rfl) dX11_net_21) ?_
  refine G_aload_n C 0 rfl rfl dX11_net_24 ?_
  refine G_getF C fl_X11_30_10 rfl rfl fn_32_2 dX11_net_25 ?_
  refine G_iload_n C 1 rfl rfl dX11_net_28 ?_
  obtain ⟨v5, hv5, h⟩ := bnd h
  refine G_callL (run_V C [.int p0] [] (dX2_netOf hv5) ml_X2_netOf mv_X2_netOf lk_X11_323 ⟨(Nat.le_of_ble_eq_true rfl), (Nat.le_of_ble_eq_true rfl)⟩ ⟨(Nat.le_of_ble_eq_true rfl), (Nat.le_of_ble_eq_true rfl)⟩ vq_2 rfl ko_63 rfl (Nat.le_of_ble_eq_true rfl) dX11_net_29) ?_
  obtain rfl := Option.some.inj h
  exact G_lretx C hr (Nat.le_of_ble_eq_true rfl) (Nat.le_of_ble_eq_true rfl) dX11_net_32
set_option maxRecDepth 100000 in
set_option maxHeartbeats 4000000 in
theorem dX11_payments (hlx : l.stackTraces = false) {σ : Sto} {p0 : Int32} {p1 : Int32} {r : Nat ⊕ (Int32 × Sto)} (h : mX11_payments p0 p1 σ = some r) : MX l yX11_payments cX11_payments 3 (some .int) 8 2 12 E true σ [.ref 32, .int p0, .int p1] Int32 r (QIx E true σ r) := by
  unfold mX11_payments at h
  refine MX_of (by decide) (Nat.le_of_ble_eq_true rfl) rfl (fun p e s m args below meth c ad0 C hr htb => ?_)
  refine G_aload_n C 0 rfl rfl dX11_payments_0 ?_
  refine G_iload_n C 1 rfl rfl dX11_payments_1 ?_
  rcases bdp_elim h with ⟨x1, hv1, rfl⟩ | ⟨u1, hv1, h⟩
  · exact G_callVx_thr C htb (Nat.le_of_ble_eq_true rfl) (Nat.le_of_ble_eq_true rfl) (run_Vx C [.int p0] [] (dX11_needYear hlx hv1) ml_X11_needYear mv_X11_needYear lk_X11_310 ⟨(Nat.le_of_ble_eq_true rfl), (Nat.le_of_ble_eq_true rfl)⟩ ⟨(Nat.le_of_ble_eq_true rfl), (Nat.le_of_ble_eq_true rfl)⟩ vq_10 rfl ko_32 rfl (Nat.le_of_ble_eq_true rfl) dX11_payments_2)
  refine G_callVx (run_Vx C [.int p0] [] (dX11_needYear hlx hv1) ml_X11_needYear mv_X11_needYear lk_X11_310 ⟨(Nat.le_of_ble_eq_true rfl), (Nat.le_of_ble_eq_true rfl)⟩ ⟨(Nat.le_of_ble_eq_true rfl), (Nat.le_of_ble_eq_true rfl)⟩ vq_10 rfl ko_32 rfl (Nat.le_of_ble_eq_true rfl) dX11_payments_2) ?_
  refine G_aload_n C 0 rfl rfl dX11_payments_5 ?_
  refine G_iload_n C 2 rfl rfl dX11_payments_6 ?_
  rcases bdp_elim h with ⟨x2, hv2, rfl⟩ | ⟨u2, hv2, h⟩
  · exact G_callVx_thr C htb (Nat.le_of_ble_eq_true rfl) (Nat.le_of_ble_eq_true rfl) (run_Vx C [.int p1] [] (dX11_needEvening hlx hv2) ml_X11_needEvening mv_X11_needEvening lk_X11_258 ⟨(Nat.le_of_ble_eq_true rfl), (Nat.le_of_ble_eq_true rfl)⟩ ⟨(Nat.le_of_ble_eq_true rfl), (Nat.le_of_ble_eq_true rfl)⟩ vq_10 rfl ko_32 rfl (Nat.le_of_ble_eq_true rfl) dX11_payments_7)
  refine G_callVx (run_Vx C [.int p1] [] (dX11_needEvening hlx hv2) ml_X11_needEvening mv_X11_needEvening lk_X11_258 ⟨(Nat.le_of_ble_eq_true rfl), (Nat.le_of_ble_eq_true rfl)⟩ ⟨(Nat.le_of_ble_eq_true rfl), (Nat.le_of_ble_eq_true rfl)⟩ vq_10 rfl ko_32 rfl (Nat.le_of_ble_eq_true rfl) dX11_payments_7) ?_
  refine G_aload_n C 0 rfl rfl dX11_payments_10 ?_
  refine G_getF C fl_X11_30_10 rfl rfl fn_32_2 dX11_payments_11 ?_
  refine G_iload_n C 1 rfl rfl dX11_payments_14 ?_
  refine G_iload_n C 2 rfl rfl dX11_payments_15 ?_
  obtain ⟨σ3, hv3, h⟩ := bnd h
  refine G_callV (run_V C [.int p0, .int p1] [] (dX2_clear hv3) ml_X2_clear mv_X2_clear lk_X11_316 ⟨(Nat.le_of_ble_eq_true rfl), (Nat.le_of_ble_eq_true rfl)⟩ ⟨(Nat.le_of_ble_eq_true rfl), (Nat.le_of_ble_eq_true rfl)⟩ vq_2 rfl ko_63 rfl (Nat.le_of_ble_eq_true rfl) dX11_payments_16) ?_
  refine G_aload_n C 0 rfl rfl dX11_payments_19 ?_
  refine G_getF C fl_X11_30_10 rfl rfl fn_32_2 dX11_payments_20 ?_
  obtain ⟨v4, σ4, hv4, h⟩ := bd2_elim h
  refine G_callI (run_V C [] [] (dX2_fewestPayments hv4) ml_X2_fewestPayments mv_X2_fewestPayments lk_X11_327 ⟨(Nat.le_of_ble_eq_true rfl), (Nat.le_of_ble_eq_true rfl)⟩ ⟨(Nat.le_of_ble_eq_true rfl), (Nat.le_of_ble_eq_true rfl)⟩ vq_2 rfl ko_63 rfl (Nat.le_of_ble_eq_true rfl) dX11_payments_23) ?_
  obtain rfl := Option.some.inj h
  exact G_iretx C hr (Nat.le_of_ble_eq_true rfl) (Nat.le_of_ble_eq_true rfl) dX11_payments_26
set_option maxRecDepth 100000 in
set_option maxHeartbeats 4000000 in
theorem eX11_again_22B (C : Cx E p s m args meth c cX11_again 7 RX11) (hr : meth.sig.returnType = (some .int)) (hlx : l.stackTraces = false) (htb : ∀ x ∈ c.exceptionTable.toList, False) {r : Nat ⊕ Int32} {σ : Sto} {f22 : Int32 → Int32 → Int32 → Int32 → Int32 → Int32 → Sto → Option (Nat ⊕ Int32)} {x1 : Int32} {x2 : Int32} {x3 : Int32} {x4 : Int32} {x5 : Int32} {x6 : Int32} (hf22 : ∀ (x1 : Int32) (x2 : Int32) (x3 : Int32) (x4 : Int32) (x5 : Int32) (x6 : Int32), f22 x1 x2 x3 x4 x5 x6 σ = some r → G p l e (rmd 6 1 6) s m args below meth c E true (sZ σ) ad0 (vx_MQ below (QIx E true σ (embS σ r) ad0) (XX E true σ Int32 (embS σ r) ad0) args s 1 6 (AE E)) 7 0 0 σ 22 [(0, .ref 32), (1, .int x1), (2, .int x2), (3, .int x3), (4, .int x4), (5, .int x5), (6, .int x6)] []) (h : mX11_again_22B f22 x1 x2 x3 x4 x5 x6 σ = some r) : G p l e (rmd 6 1 6) s m args below meth c E true (sZ σ) ad0 (vx_MQ below (QIx E true σ (embS σ r) ad0) (XX E true σ Int32 (embS σ r) ad0) args s 1 6 (AE E)) 7 0 0 σ 22 [(0, .ref 32), (1, .int x1), (2, .int x2), (3, .int x3), (4, .int x4), (5, .int x5), (6, .int x6)] [] := by
  unfold mX11_again_22B at h
  refine G_iload C 6 rfl dX11_again_22 ?_
  refine G_aload_n C 0 rfl rfl dX11_again_24 ?_
  refine G_getF C fl_X11_10_10 rfl rfl fn_32_0 dX11_again_25 ?_
  refine G_getI C fl_X11_107_1 (Or.inl rfl) ko_33 dX11_again_28 ?_
  refine G_icmp_ge (tgt := 69) C rfl dX11_again_31 (fun hc2 => ?_) (fun hc2 => ?_)
  · replace h := (if_pos hc2).symm.trans h
    refine G_iload C 5 rfl dX11_again_69 ?_
    obtain rfl := Option.some.inj h
    exact G_iretx C hr (Nat.le_of_ble_eq_true rfl) (Nat.le_of_ble_eq_true rfl) dX11_again_71
  · replace h := (if_neg hc2).symm.trans h
    refine G_aload_n C 0 rfl rfl dX11_again_34 ?_
    refine G_getF C fl_X11_10_10 rfl rfl fn_32_0 dX11_again_35 ?_
    refine G_iload C 6 rfl dX11_again_38 ?_
    obtain ⟨v3, hv3, h⟩ := bnd h
    refine G_callR (run_V C [.int x6] [] (dX1_workAt hv3) ml_X1_workAt mv_X1_workAt lk_X11_125 ⟨(Nat.le_of_ble_eq_true rfl), (Nat.le_of_ble_eq_true rfl)⟩ ⟨(Nat.le_of_ble_eq_true rfl), (Nat.le_of_ble_eq_true rfl)⟩ vq_1 rfl ko_33 rfl (Nat.le_of_ble_eq_true rfl) dX11_again_40) ?_
    refine G_iload_n C 1 rfl rfl dX11_again_43 ?_
    refine G_iload_n C 2 rfl rfl dX11_again_44 ?_
    refine G_iload_n C 3 rfl rfl dX11_again_45 ?_
    refine G_iload C 4 rfl dX11_again_46 ?_
    obtain ⟨hc5, h⟩ := ifn h
    obtain ⟨v4, hv4, h⟩ := bnd h
    refine G_callI (run_V C [.int x1, .int x2, .int x3, .int x4] [] (dX10_mayBe hc5 hv4) ml_X10_mayBe mv_X10_mayBe lk_X11_333 ⟨(Nat.le_of_ble_eq_true rfl), (Nat.le_of_ble_eq_true rfl)⟩ ⟨(Nat.le_of_ble_eq_true rfl), (Nat.le_of_ble_eq_true rfl)⟩ vq_9 rfl (KO.dy hc5) rfl (Nat.le_of_ble_eq_true rfl) dX11_again_48) ?_
    refine G_if_eq (tgt := 63) C rfl dX11_again_51 (fun hc6 => ?_) (fun hc6 => ?_)
    · replace h := (if_pos hc6).symm.trans h
      refine G_iinc (v := 1) (L' := [(6, .int (x6 + (1 : Int32))), (0, .ref 32), (1, .int x1), (2, .int x2), (3, .int x3), (4, .int x4), (5, .int x5)]) C 6 rfl rfl (Nat.le_of_ble_eq_true rfl) rfl dX11_again_63 ?_
      refine G_goto (tgt := 22) C rfl dX11_again_66 ?_
      refine G_sub [1, 2, 3, 4, 5, 6, 0] rfl ?_
      exact hf22 _ _ _ _ _ _ h
    · replace h := (if_neg hc6).symm.trans h
      refine G_iload C 5 rfl dX11_again_54 ?_
      refine G_iconst C (v := 1) rfl dX11_again_56 ?_
      refine G_iload C 6 rfl dX11_again_57 ?_
      refine G_ishl C dX11_again_59 ?_
      refine G_ior C dX11_again_60 ?_
      refine G_istore (L' := [(5, .int (x5 ||| ((1 : Int32) <<< (x6 &&& 31)))), (0, .ref 32), (1, .int x1), (2, .int x2), (3, .int x3), (4, .int x4), (6, .int x6)]) C (Nat.le_of_ble_eq_true rfl) rfl dX11_again_61 ?_
      refine G_iinc (v := 1) (L' := [(6, .int (x6 + (1 : Int32))), (5, .int (x5 ||| ((1 : Int32) <<< (x6 &&& 31)))), (0, .ref 32), (1, .int x1), (2, .int x2), (3, .int x3), (4, .int x4)]) C 6 rfl rfl (Nat.le_of_ble_eq_true rfl) rfl dX11_again_63 ?_
      refine G_goto (tgt := 22) C rfl dX11_again_66 ?_
      refine G_sub [2, 3, 4, 5, 6, 1, 0] rfl ?_
      exact hf22 _ _ _ _ _ _ h
set_option maxRecDepth 100000 in
set_option maxHeartbeats 4000000 in
theorem eX11_again_22 (C : Cx E p s m args meth c cX11_again 7 RX11) (hr : meth.sig.returnType = (some .int)) (hlx : l.stackTraces = false) (htb : ∀ x ∈ c.exceptionTable.toList, False) {r : Nat ⊕ Int32} {σ : Sto} {n : Nat} {x1 : Int32} {x2 : Int32} {x3 : Int32} {x4 : Int32} {x5 : Int32} {x6 : Int32} (h : mX11_again_22 n x1 x2 x3 x4 x5 x6 σ = some r) : G p l e (rmd 6 1 6) s m args below meth c E true (sZ σ) ad0 (vx_MQ below (QIx E true σ (embS σ r) ad0) (XX E true σ Int32 (embS σ r) ad0) args s 1 6 (AE E)) 7 0 0 σ 22 [(0, .ref 32), (1, .int x1), (2, .int x2), (3, .int x3), (4, .int x4), (5, .int x5), (6, .int x6)] [] := by
  induction n generalizing x1 x2 x3 x4 x5 x6 with
  | zero => exact nomatch (show (none : Option (Nat ⊕ Int32)) = some r from h)
  | succ n ih => exact eX11_again_22B C hr hlx htb (fun z0 z1 z2 z3 z4 z5 h9 => ih h9) h
set_option maxRecDepth 100000 in
set_option maxHeartbeats 4000000 in
theorem dX11_again (hlx : l.stackTraces = false) {σ : Sto} {p0 : Int32} {p1 : Int32} {p2 : Int32} {p3 : Int32} {r : Nat ⊕ Int32} (h : mX11_again p0 p1 p2 p3 σ = some r) : MX l yX11_again cX11_again 7 (some .int) 6 1 6 E true σ [.ref 32, .int p0, .int p1, .int p2, .int p3] Int32 (embS σ r) (QIx E true σ (embS σ r)) := by
  unfold mX11_again at h
  refine MX_of (by decide) (Nat.le_of_ble_eq_true rfl) rfl (fun p e s m args below meth c ad0 C hr htb => ?_)
  refine G_iload C 4 rfl dX11_again_0 ?_
  refine G_if_ge (tgt := 16) C rfl dX11_again_2 (fun hc1 => ?_) (fun hc1 => ?_)
  · replace h := (if_pos hc1).symm.trans h
    refine G_iconst C (v := 0) rfl dX11_again_16 ?_
    refine G_istore (L' := [(5, .int (0 : Int32)), (0, .ref 32), (1, .int p0), (2, .int p1), (3, .int p2), (4, .int p3)]) C (Nat.le_of_ble_eq_true rfl) rfl dX11_again_17 ?_
    refine G_iconst C (v := 0) rfl dX11_again_19 ?_
    refine G_istore (L' := [(6, .int (0 : Int32)), (5, .int (0 : Int32)), (0, .ref 32), (1, .int p0), (2, .int p1), (3, .int p2), (4, .int p3)]) C (Nat.le_of_ble_eq_true rfl) rfl dX11_again_20 ?_
    refine G_sub [2, 3, 4, 5, 6, 1, 0] rfl ?_
    exact eX11_again_22 C hr hlx htb h
  · replace h := (if_neg hc1).symm.trans h
    obtain rfl := Option.some.inj h
    exact G_throwW C hlx htb rfl (x := 1) rfl xw_155 nl_X11_151 xi_1 (List.mem_of_getElem? (l := msgs) (i := 12) rfl) (Nat.le_of_ble_eq_true rfl) (Nat.le_of_ble_eq_true rfl) (Nat.le_of_ble_eq_true rfl) (Nat.le_of_ble_eq_true rfl) (Nat.le_of_ble_eq_true rfl) (Nat.le_of_ble_eq_true rfl) dX11_again_5 dX11_again_8 dX11_again_9 dX11_again_12 dX11_again_15
set_option maxRecDepth 100000 in
set_option maxHeartbeats 4000000 in
theorem eX11_with_89 (C : Cx E p s m args meth c cX11_with 8 RX11) (hr : meth.sig.returnType = (some .int)) (hlx : l.stackTraces = false) (htb : ∀ x ∈ c.exceptionTable.toList, False) {r : Nat ⊕ Int32} {σ : Sto} {f34 : Int32 → Int32 → Int32 → Int32 → Int32 → Sto → Option (Nat ⊕ Int32)} {x1 : Int32} {x2 : Int32} {x3 : Int32} {x4 : Int32} {x5 : Int32} {x6 : Nat} {y0 : Int32} (hf34 : ∀ (x1 : Int32) (x2 : Int32) (x3 : Int32) (x4 : Int32) (x5 : Int32), f34 x1 x2 x3 x4 x5 σ = some r → G p l e (rmd 7 2 12) s m args below meth c E true (sZ σ) ad0 (vx_MQ below (QIx E true σ (embS σ r) ad0) (XX E true σ Int32 (embS σ r) ad0) args s 2 12 (AE E)) 8 2 12 σ 34 [(0, .ref 32), (1, .int x1), (2, .int x2), (3, .int x3), (4, .int x4), (5, .int x5)] []) (h : mX11_with_89 f34 x1 x2 x3 x4 x5 x6 y0 σ = some r) : G p l e (rmd 7 2 12) s m args below meth c E true (sZ σ) ad0 (vx_MQ below (QIx E true σ (embS σ r) ad0) (XX E true σ Int32 (embS σ r) ad0) args s 2 12 (AE E)) 8 2 12 σ 89 [(0, .ref 32), (1, .int x1), (2, .int x2), (3, .int x3), (4, .int x4), (5, .int x5), (6, .ref x6)] [.int y0] := by
  unfold mX11_with_89 at h
  refine G_istore (L' := [(7, .int y0), (0, .ref 32), (1, .int x1), (2, .int x2), (3, .int x3), (4, .int x4), (5, .int x5), (6, .ref x6)]) C (Nat.le_of_ble_eq_true rfl) rfl dX11_with_89 ?_
  refine G_iload C 0 rfl dX11_with_91 ?_
  refine G_if_eq (tgt := 120) C rfl dX11_with_93 (fun hc12 => ?_) (fun hc12 => ?_)
  · replace h := (if_pos hc12).symm.trans h
    refine G_iinc (v := 1) (L' := [(5, .int (x5 + (1 : Int32))), (7, .int y0), (0, .ref 32), (1, .int x1), (2, .int x2), (3, .int x3), (4, .int x4), (6, .ref x6)]) C 6 rfl rfl (Nat.le_of_ble_eq_true rfl) rfl dX11_with_120 ?_
    refine G_goto (tgt := 34) C rfl dX11_with_123 ?_
    refine G_sub [2, 3, 4, 5, 6, 0] rfl ?_
    exact hf34 _ _ _ _ _ h
  · replace h := (if_neg hc12).symm.trans h
    refine G_aload C 7 rfl dX11_with_96 ?_
    obtain ⟨hc13, h⟩ := ifn h
    refine G_getI C fl_X11_285_3 (Or.inl rfl) (KO.dy hc13) dX11_with_98 ?_
    refine G_aload_n C 1 rfl rfl dX11_with_101 ?_
    refine G_getF C fl_X11_10_10 rfl rfl fn_32_0 dX11_with_102 ?_
    refine G_iload C 5 rfl dX11_with_105 ?_
    obtain ⟨v14, hv14, h⟩ := bnd h
    refine G_callR (run_V C [.int x4] [.int (sI σ x6 6)] (dX1_factAt hv14) ml_X1_factAt mv_X1_factAt lk_X11_218 ⟨(Nat.le_of_ble_eq_true rfl), (Nat.le_of_ble_eq_true rfl)⟩ ⟨(Nat.le_of_ble_eq_true rfl), (Nat.le_of_ble_eq_true rfl)⟩ vq_1 rfl ko_33 rfl (Nat.le_of_ble_eq_true rfl) dX11_with_107) ?_
    obtain ⟨hc15, h⟩ := ifn h
    refine G_getI C fl_X11_285_3 (Or.inl rfl) (KO.dy hc15) dX11_with_110 ?_
    refine G_icmp_lt (tgt := 120) C rfl dX11_with_113 (fun hc16 => ?_) (fun hc16 => ?_)
    · replace h := (if_pos hc16).symm.trans h
      refine G_iinc (v := 1) (L' := [(5, .int (x5 + (1 : Int32))), (7, .int y0), (0, .ref 32), (1, .int x1), (2, .int x2), (3, .int x3), (4, .int x4), (6, .ref x6)]) C 6 rfl rfl (Nat.le_of_ble_eq_true rfl) rfl dX11_with_120 ?_
      refine G_goto (tgt := 34) C rfl dX11_with_123 ?_
      refine G_sub [2, 3, 4, 5, 6, 0] rfl ?_
      exact hf34 _ _ _ _ _ h
    · replace h := (if_neg hc16).symm.trans h
      refine G_iload C 6 rfl dX11_with_116 ?_
      refine G_istore (L' := [(4, .int x5), (7, .int y0), (0, .ref 32), (1, .int x1), (2, .int x2), (3, .int x3), (5, .int x5), (6, .ref x6)]) C (Nat.le_of_ble_eq_true rfl) rfl dX11_with_118 ?_
      refine G_iinc (v := 1) (L' := [(5, .int (x5 + (1 : Int32))), (4, .int x5), (7, .int y0), (0, .ref 32), (1, .int x1), (2, .int x2), (3, .int x3), (6, .ref x6)]) C 6 rfl rfl (Nat.le_of_ble_eq_true rfl) rfl dX11_with_120 ?_
      refine G_goto (tgt := 34) C rfl dX11_with_123 ?_
      refine G_sub [3, 4, 5, 6, 1, 0] rfl ?_
      exact hf34 _ _ _ _ _ h
set_option maxRecDepth 100000 in
set_option maxHeartbeats 4000000 in
theorem eX11_with_88 (C : Cx E p s m args meth c cX11_with 8 RX11) (hr : meth.sig.returnType = (some .int)) (hlx : l.stackTraces = false) (htb : ∀ x ∈ c.exceptionTable.toList, False) {r : Nat ⊕ Int32} {σ : Sto} {f34 : Int32 → Int32 → Int32 → Int32 → Int32 → Sto → Option (Nat ⊕ Int32)} {x1 : Int32} {x2 : Int32} {x3 : Int32} {x4 : Int32} {x5 : Int32} {x6 : Nat} (hf34 : ∀ (x1 : Int32) (x2 : Int32) (x3 : Int32) (x4 : Int32) (x5 : Int32), f34 x1 x2 x3 x4 x5 σ = some r → G p l e (rmd 7 2 12) s m args below meth c E true (sZ σ) ad0 (vx_MQ below (QIx E true σ (embS σ r) ad0) (XX E true σ Int32 (embS σ r) ad0) args s 2 12 (AE E)) 8 2 12 σ 34 [(0, .ref 32), (1, .int x1), (2, .int x2), (3, .int x3), (4, .int x4), (5, .int x5)] []) (h : mX11_with_88 f34 x1 x2 x3 x4 x5 x6 σ = some r) : G p l e (rmd 7 2 12) s m args below meth c E true (sZ σ) ad0 (vx_MQ below (QIx E true σ (embS σ r) ad0) (XX E true σ Int32 (embS σ r) ad0) args s 2 12 (AE E)) 8 2 12 σ 88 [(0, .ref 32), (1, .int x1), (2, .int x2), (3, .int x3), (4, .int x4), (5, .int x5), (6, .ref x6)] [] := by
  unfold mX11_with_88 at h
  refine G_iconst C (v := 0) rfl dX11_with_88 ?_
  exact eX11_with_89 C hr hlx htb hf34 h
set_option maxRecDepth 100000 in
set_option maxHeartbeats 4000000 in
theorem eX11_with_34B (C : Cx E p s m args meth c cX11_with 8 RX11) (hr : meth.sig.returnType = (some .int)) (hlx : l.stackTraces = false) (htb : ∀ x ∈ c.exceptionTable.toList, False) {r : Nat ⊕ Int32} {σ : Sto} {f34 : Int32 → Int32 → Int32 → Int32 → Int32 → Sto → Option (Nat ⊕ Int32)} {x1 : Int32} {x2 : Int32} {x3 : Int32} {x4 : Int32} {x5 : Int32} (hf34 : ∀ (x1 : Int32) (x2 : Int32) (x3 : Int32) (x4 : Int32) (x5 : Int32), f34 x1 x2 x3 x4 x5 σ = some r → G p l e (rmd 7 2 12) s m args below meth c E true (sZ σ) ad0 (vx_MQ below (QIx E true σ (embS σ r) ad0) (XX E true σ Int32 (embS σ r) ad0) args s 2 12 (AE E)) 8 2 12 σ 34 [(0, .ref 32), (1, .int x1), (2, .int x2), (3, .int x3), (4, .int x4), (5, .int x5)] []) (h : mX11_with_34B f34 x1 x2 x3 x4 x5 σ = some r) : G p l e (rmd 7 2 12) s m args below meth c E true (sZ σ) ad0 (vx_MQ below (QIx E true σ (embS σ r) ad0) (XX E true σ Int32 (embS σ r) ad0) args s 2 12 (AE E)) 8 2 12 σ 34 [(0, .ref 32), (1, .int x1), (2, .int x2), (3, .int x3), (4, .int x4), (5, .int x5)] [] := by
  unfold mX11_with_34B at h
  refine G_iload C 5 rfl dX11_with_34 ?_
  refine G_aload_n C 0 rfl rfl dX11_with_36 ?_
  refine G_getF C fl_X11_10_10 rfl rfl fn_32_0 dX11_with_37 ?_
  refine G_getI C fl_X11_209_1 (Or.inl rfl) ko_33 dX11_with_40 ?_
  refine G_icmp_ge (tgt := 126) C rfl dX11_with_43 (fun hc5 => ?_) (fun hc5 => ?_)
  · replace h := (if_pos hc5).symm.trans h
    refine G_aload_n C 0 rfl rfl dX11_with_126 ?_
    refine G_getF C fl_X11_10_10 rfl rfl fn_32_0 dX11_with_127 ?_
    refine G_iload C 4 rfl dX11_with_130 ?_
    obtain ⟨v6, hv6, h⟩ := bnd h
    refine G_callR (run_V C [.int x4] [] (dX1_factAt hv6) ml_X1_factAt mv_X1_factAt lk_X11_218 ⟨(Nat.le_of_ble_eq_true rfl), (Nat.le_of_ble_eq_true rfl)⟩ ⟨(Nat.le_of_ble_eq_true rfl), (Nat.le_of_ble_eq_true rfl)⟩ vq_1 rfl ko_33 rfl (Nat.le_of_ble_eq_true rfl) dX11_with_132) ?_
    obtain ⟨hc7, h⟩ := ifn h
    refine G_getI C fl_X11_342_3 (Or.inl rfl) (KO.dy hc7) dX11_with_135 ?_
    obtain rfl := Option.some.inj h
    exact G_iretx C hr (Nat.le_of_ble_eq_true rfl) (Nat.le_of_ble_eq_true rfl) dX11_with_138
  · replace h := (if_neg hc5).symm.trans h
    refine G_aload_n C 0 rfl rfl dX11_with_46 ?_
    refine G_getF C fl_X11_10_10 rfl rfl fn_32_0 dX11_with_47 ?_
    refine G_iload C 5 rfl dX11_with_50 ?_
    obtain ⟨v8, hv8, h⟩ := bnd h
    refine G_callR (run_V C [.int x5] [] (dX1_factAt hv8) ml_X1_factAt mv_X1_factAt lk_X11_218 ⟨(Nat.le_of_ble_eq_true rfl), (Nat.le_of_ble_eq_true rfl)⟩ ⟨(Nat.le_of_ble_eq_true rfl), (Nat.le_of_ble_eq_true rfl)⟩ vq_1 rfl ko_33 rfl (Nat.le_of_ble_eq_true rfl) dX11_with_52) ?_
    refine G_astore (L' := [(6, .ref v8), (0, .ref 32), (1, .int x1), (2, .int x2), (3, .int x3), (4, .int x4), (5, .int x5)]) C (Nat.le_of_ble_eq_true rfl) rfl dX11_with_55 ?_
    refine G_aload C 0 rfl dX11_with_57 ?_
    refine G_iload_n C 2 rfl rfl dX11_with_59 ?_
    obtain ⟨hc10, h⟩ := ifn h
    obtain ⟨v9, hv9, h⟩ := bnd h
    refine G_callI (run_V C [.int x1] [] (dX3_isHandOf hc10 hv9) ml_X3_isHandOf mv_X3_isHandOf lk_X11_339 ⟨(Nat.le_of_ble_eq_true rfl), (Nat.le_of_ble_eq_true rfl)⟩ ⟨(Nat.le_of_ble_eq_true rfl), (Nat.le_of_ble_eq_true rfl)⟩ vq_3 rfl (KO.dy hc10) rfl (Nat.le_of_ble_eq_true rfl) dX11_with_60) ?_
    refine G_if_eq (tgt := 88) C rfl dX11_with_63 (fun hc11 => ?_) (fun hc11 => ?_)
    · replace h := (if_pos hc11).symm.trans h
      refine G_sub [1, 2, 3, 4, 5, 6, 0] rfl ?_
      exact eX11_with_88 C hr hlx htb hf34 h
    · replace h := (if_neg hc11).symm.trans h
      refine G_aload C 0 rfl dX11_with_66 ?_
      refine G_iload_n C 4 rfl rfl dX11_with_68 ?_
      obtain ⟨v17, hv17, h⟩ := bnd h
      refine G_callI (run_U C [.int x3] [] (dX9_isKnownOn3 hc10 hv17) wu_X11_261 ⟨(Nat.le_of_ble_eq_true rfl), (Nat.le_of_ble_eq_true rfl)⟩ ⟨(Nat.le_of_ble_eq_true rfl), (Nat.le_of_ble_eq_true rfl)⟩ vq_3 (KO.dy hc10) rfl (Nat.le_of_ble_eq_true rfl) dX11_with_69) ?_
      refine G_if_eq (tgt := 88) C rfl dX11_with_72 (fun hc18 => ?_) (fun hc18 => ?_)
      · replace h := (if_pos hc18).symm.trans h
        refine G_sub [1, 2, 3, 4, 5, 6, 0] rfl ?_
        exact eX11_with_88 C hr hlx htb hf34 h
      · replace h := (if_neg hc18).symm.trans h
        refine G_aload C 0 rfl dX11_with_75 ?_
        refine G_getI C fl_X11_285_3 (Or.inl rfl) (KO.dy hc10) dX11_with_77 ?_
        refine G_iload_n C 3 rfl rfl dX11_with_80 ?_
        refine G_icmp_gt (tgt := 88) C rfl dX11_with_81 (fun hc19 => ?_) (fun hc19 => ?_)
        · replace h := (if_pos hc19).symm.trans h
          refine G_sub [1, 2, 3, 4, 5, 6, 0] rfl ?_
          exact eX11_with_88 C hr hlx htb hf34 h
        · replace h := (if_neg hc19).symm.trans h
          refine G_iconst C (v := 1) rfl dX11_with_84 ?_
          refine G_goto (tgt := 89) C rfl dX11_with_85 ?_
          refine G_sub [1, 2, 3, 4, 5, 6, 0] rfl ?_
          exact eX11_with_89 C hr hlx htb hf34 h
set_option maxRecDepth 100000 in
set_option maxHeartbeats 4000000 in
theorem eX11_with_34 (C : Cx E p s m args meth c cX11_with 8 RX11) (hr : meth.sig.returnType = (some .int)) (hlx : l.stackTraces = false) (htb : ∀ x ∈ c.exceptionTable.toList, False) {r : Nat ⊕ Int32} {σ : Sto} {n : Nat} {x1 : Int32} {x2 : Int32} {x3 : Int32} {x4 : Int32} {x5 : Int32} (h : mX11_with_34 n x1 x2 x3 x4 x5 σ = some r) : G p l e (rmd 7 2 12) s m args below meth c E true (sZ σ) ad0 (vx_MQ below (QIx E true σ (embS σ r) ad0) (XX E true σ Int32 (embS σ r) ad0) args s 2 12 (AE E)) 8 2 12 σ 34 [(0, .ref 32), (1, .int x1), (2, .int x2), (3, .int x3), (4, .int x4), (5, .int x5)] [] := by
  induction n generalizing x1 x2 x3 x4 x5 with
  | zero => exact nomatch (show (none : Option (Nat ⊕ Int32)) = some r from h)
  | succ n ih => exact eX11_with_34B C hr hlx htb (fun z0 z1 z2 z3 z4 h9 => ih h9) h
set_option maxRecDepth 100000 in
set_option maxHeartbeats 4000000 in
theorem dX11_with (hlx : l.stackTraces = false) {σ : Sto} {p0 : Int32} {p1 : Int32} {p2 : Int32} {r : Nat ⊕ Int32} (h : mX11_with p0 p1 p2 σ = some r) : MX l yX11_with cX11_with 8 (some .int) 7 2 12 E true σ [.ref 32, .int p0, .int p1, .int p2] Int32 (embS σ r) (QIx E true σ (embS σ r)) := by
  unfold mX11_with at h
  refine MX_of (by decide) (Nat.le_of_ble_eq_true rfl) rfl (fun p e s m args below meth c ad0 C hr htb => ?_)
  refine G_aload_n C 0 rfl rfl dX11_with_0 ?_
  refine G_iload_n C 1 rfl rfl dX11_with_1 ?_
  rcases bdp_elim h with ⟨x1, hv1, rfl⟩ | ⟨u1, hv1, h⟩
  · exact G_callVx_thr C htb (Nat.le_of_ble_eq_true rfl) (Nat.le_of_ble_eq_true rfl) (run_Vx C [.int p0] [] (dX11_needWork hlx hv1) ml_X11_needWork mv_X11_needWork lk_X11_122 ⟨(Nat.le_of_ble_eq_true rfl), (Nat.le_of_ble_eq_true rfl)⟩ ⟨(Nat.le_of_ble_eq_true rfl), (Nat.le_of_ble_eq_true rfl)⟩ vq_10 rfl ko_32 rfl (Nat.le_of_ble_eq_true rfl) dX11_with_2)
  refine G_callVx (run_Vx C [.int p0] [] (dX11_needWork hlx hv1) ml_X11_needWork mv_X11_needWork lk_X11_122 ⟨(Nat.le_of_ble_eq_true rfl), (Nat.le_of_ble_eq_true rfl)⟩ ⟨(Nat.le_of_ble_eq_true rfl), (Nat.le_of_ble_eq_true rfl)⟩ vq_10 rfl ko_32 rfl (Nat.le_of_ble_eq_true rfl) dX11_with_2) ?_
  refine G_iload_n C 2 rfl rfl dX11_with_5 ?_
  refine G_callI (run_S C [.int p1] [] (dX11_isDay rfl) ml_X11_isDay ms_X11_isDay lk_X11_73 ⟨(Nat.le_of_ble_eq_true rfl), (Nat.le_of_ble_eq_true rfl)⟩ ⟨(Nat.le_of_ble_eq_true rfl), (Nat.le_of_ble_eq_true rfl)⟩ rfl (Nat.le_of_ble_eq_true rfl) dX11_with_6) ?_
  refine G_if_ne (tgt := 23) C rfl dX11_with_9 (fun hc3 => ?_) (fun hc3 => ?_)
  · replace h := (if_neg hc3).symm.trans h
    refine G_aload_n C 0 rfl rfl dX11_with_23 ?_
    refine G_iload_n C 3 rfl rfl dX11_with_24 ?_
    rcases bdp_elim h with ⟨x4, hv4, rfl⟩ | ⟨u4, hv4, h⟩
    · exact G_callVx_thr C htb (Nat.le_of_ble_eq_true rfl) (Nat.le_of_ble_eq_true rfl) (run_Vx C [.int p2] [] (dX11_needEvening hlx hv4) ml_X11_needEvening mv_X11_needEvening lk_X11_258 ⟨(Nat.le_of_ble_eq_true rfl), (Nat.le_of_ble_eq_true rfl)⟩ ⟨(Nat.le_of_ble_eq_true rfl), (Nat.le_of_ble_eq_true rfl)⟩ vq_10 rfl ko_32 rfl (Nat.le_of_ble_eq_true rfl) dX11_with_25)
    refine G_callVx (run_Vx C [.int p2] [] (dX11_needEvening hlx hv4) ml_X11_needEvening mv_X11_needEvening lk_X11_258 ⟨(Nat.le_of_ble_eq_true rfl), (Nat.le_of_ble_eq_true rfl)⟩ ⟨(Nat.le_of_ble_eq_true rfl), (Nat.le_of_ble_eq_true rfl)⟩ vq_10 rfl ko_32 rfl (Nat.le_of_ble_eq_true rfl) dX11_with_25) ?_
    refine G_iconst C (v := -1) rfl dX11_with_28 ?_
    refine G_istore (L' := [(4, .int (-1 : Int32)), (0, .ref 32), (1, .int p0), (2, .int p1), (3, .int p2)]) C (Nat.le_of_ble_eq_true rfl) rfl dX11_with_29 ?_
    refine G_iconst C (v := 0) rfl dX11_with_31 ?_
    refine G_istore (L' := [(5, .int (0 : Int32)), (4, .int (-1 : Int32)), (0, .ref 32), (1, .int p0), (2, .int p1), (3, .int p2)]) C (Nat.le_of_ble_eq_true rfl) rfl dX11_with_32 ?_
    refine G_sub [2, 3, 4, 5, 1, 0] rfl ?_
    exact eX11_with_34 C hr hlx htb h
  · replace h := (if_pos hc3).symm.trans h
    obtain rfl := Option.some.inj h
    exact G_throwW C hlx htb rfl (x := 0) rfl xw_202 nl_X11_198 xi_0 (List.mem_of_getElem? (l := msgs) (i := 13) rfl) (Nat.le_of_ble_eq_true rfl) (Nat.le_of_ble_eq_true rfl) (Nat.le_of_ble_eq_true rfl) (Nat.le_of_ble_eq_true rfl) (Nat.le_of_ble_eq_true rfl) (Nat.le_of_ble_eq_true rfl) dX11_with_12 dX11_with_15 dX11_with_16 dX11_with_19 dX11_with_22
set_option maxRecDepth 100000 in
set_option maxHeartbeats 4000000 in
theorem dX11_tellHidden {σ : Sto} {p0 : Nat} {p1 : Nat} {p2 : Int32} {r : Int32} (h : mX11_tellHidden p0 p1 p2 σ = some r) : MM l yX11_tellHidden cX11_tellHidden 3 (some .int) 1 0 0 E st σ [.ref p0, .ref p1, .int p2] (QI E st σ r σ) := by
  unfold mX11_tellHidden at h
  refine MM_of (by decide) (Nat.le_of_ble_eq_true rfl) rfl (fun p e s m args below meth c ad0 C hr hn => ?_)
  refine G_iload_n C 2 rfl rfl dX11_tellHidden_0 ?_
  by_cases hc1 : p2 = (0 : Int32)
  · replace h := (if_pos hc1).symm.trans h
    refine G_tswIn (tgt := 28) C (0) 0 hc1 (by decide) (by decide) (by decide) rfl rfl dX11_tellHidden_1 ?_
    refine G_aload_n C 0 rfl rfl dX11_tellHidden_28 ?_
    obtain ⟨hc2, h⟩ := ifn h
    refine G_getI C fl_X11_285_3 (Or.inl rfl) (KO.dy hc2) dX11_tellHidden_29 ?_
    obtain rfl := Option.some.inj h
    exact G_iret C hr (Nat.le_of_ble_eq_true rfl) (Nat.le_of_ble_eq_true rfl) dX11_tellHidden_32
  replace h := (if_neg hc1).symm.trans h
  by_cases hc3 : p2 = (1 : Int32)
  · replace h := (if_pos hc3).symm.trans h
    refine G_tswIn (tgt := 33) C (1) 1 hc3 (by decide) (by decide) (by decide) rfl rfl dX11_tellHidden_1 ?_
    refine G_aload_n C 1 rfl rfl dX11_tellHidden_33 ?_
    obtain ⟨hc4, h⟩ := ifn h
    refine G_getI C fl_X11_285_3 (Or.inl rfl) (KO.dy hc4) dX11_tellHidden_34 ?_
    obtain rfl := Option.some.inj h
    exact G_iret C hr (Nat.le_of_ble_eq_true rfl) (Nat.le_of_ble_eq_true rfl) dX11_tellHidden_37
  replace h := (if_neg hc3).symm.trans h
  by_cases hc5 : p2 = (2 : Int32)
  · replace h := (if_pos hc5).symm.trans h
    refine G_tswIn (tgt := 38) C (2) 2 hc5 (by decide) (by decide) (by decide) rfl rfl dX11_tellHidden_1 ?_
    refine G_aload_n C 0 rfl rfl dX11_tellHidden_38 ?_
    obtain ⟨hc6, h⟩ := ifn h
    refine G_getI C fl_X11_342_3 (Or.inl rfl) (KO.dy hc6) dX11_tellHidden_39 ?_
    obtain rfl := Option.some.inj h
    exact G_iret C hr (Nat.le_of_ble_eq_true rfl) (Nat.le_of_ble_eq_true rfl) dX11_tellHidden_42
  replace h := (if_neg hc5).symm.trans h
  have ht8 : ∀ j : Nat, j < 3 → p2 ≠ Int32.ofInt (0 + (j : Int)) := by
    intro j hj
    rcases (show j = 0 ∨ j = 1 ∨ j = 2 by omega) with rfl | rfl | rfl
    · exact hc1
    · exact hc3
    · exact hc5
  refine G_tswOut (tgt := 43) C 3 ht8 (by decide) (by decide) rfl dX11_tellHidden_1 ?_
  refine G_aload_n C 1 rfl rfl dX11_tellHidden_43 ?_
  obtain ⟨hc7, h⟩ := ifn h
  refine G_getI C fl_X11_348_3 (Or.inl rfl) (KO.dy hc7) dX11_tellHidden_44 ?_
  obtain rfl := Option.some.inj h
  exact G_iret C hr (Nat.le_of_ble_eq_true rfl) (Nat.le_of_ble_eq_true rfl) dX11_tellHidden_47
set_option maxRecDepth 100000 in
set_option maxHeartbeats 4000000 in
theorem eX11_hidden_139 (C : Cx E p s m args meth c cX11_hidden 9 RX11) (hr : meth.sig.returnType = (some .int)) (hlx : l.stackTraces = false) (htb : ∀ x ∈ c.exceptionTable.toList, False) {r : Nat ⊕ Int32} {σ : Sto} {x2 : Int32} {x5 : Int32} (h : mX11_hidden_139 x2 x5 σ = some r) : G p l e (rmd 7 4 24) s m args below meth c E true (sZ σ) ad0 (vx_MQ below (QIx E true σ (embS σ r) ad0) (XX E true σ Int32 (embS σ r) ad0) args s 4 24 (AE E)) 9 3 18 σ 139 [(2, .int x2), (5, .int x5)] [] := by
  unfold mX11_hidden_139 at h
  refine G_iload_n C 0 rfl rfl dX11_hidden_139 ?_
  refine G_iconst C (v := -1) rfl dX11_hidden_140 ?_
  refine G_icmp_eq (tgt := 155) C rfl dX11_hidden_141 (fun hc6 => ?_) (fun hc6 => ?_)
  · replace h := (if_pos hc6).symm.trans h
    refine G_iload C 1 rfl dX11_hidden_155 ?_
    obtain rfl := Option.some.inj h
    exact G_iretx C hr (Nat.le_of_ble_eq_true rfl) (Nat.le_of_ble_eq_true rfl) dX11_hidden_157
  · replace h := (if_neg hc6).symm.trans h
    obtain rfl := Option.some.inj h
    exact G_throwW C hlx htb rfl (x := 0) rfl xw_202 nl_X11_198 xi_0 (List.mem_of_getElem? (l := msgs) (i := 14) rfl) (Nat.le_of_ble_eq_true rfl) (Nat.le_of_ble_eq_true rfl) (Nat.le_of_ble_eq_true rfl) (Nat.le_of_ble_eq_true rfl) (Nat.le_of_ble_eq_true rfl) (Nat.le_of_ble_eq_true rfl) dX11_hidden_144 dX11_hidden_147 dX11_hidden_148 dX11_hidden_151 dX11_hidden_154
set_option maxRecDepth 100000 in
set_option maxHeartbeats 4000000 in
theorem eX11_hidden_36B (C : Cx E p s m args meth c cX11_hidden 9 RX11) (hr : meth.sig.returnType = (some .int)) (hlx : l.stackTraces = false) (htb : ∀ x ∈ c.exceptionTable.toList, False) {r : Nat ⊕ Int32} {σ : Sto} {f36 : Int32 → Int32 → Int32 → Int32 → Int32 → Int32 → Int32 → Sto → Option (Nat ⊕ Int32)} {x1 : Int32} {x2 : Int32} {x3 : Int32} {x4 : Int32} {x5 : Int32} {x6 : Int32} {x7 : Int32} (hf36 : ∀ (x1 : Int32) (x2 : Int32) (x3 : Int32) (x4 : Int32) (x5 : Int32) (x6 : Int32) (x7 : Int32), f36 x1 x2 x3 x4 x5 x6 x7 σ = some r → G p l e (rmd 7 4 24) s m args below meth c E true (sZ σ) ad0 (vx_MQ below (QIx E true σ (embS σ r) ad0) (XX E true σ Int32 (embS σ r) ad0) args s 4 24 (AE E)) 9 3 18 σ 36 [(0, .ref 32), (1, .int x1), (2, .int x2), (3, .int x3), (4, .int x4), (5, .int x5), (6, .int x6), (7, .int x7)] []) (h : mX11_hidden_36B f36 x1 x2 x3 x4 x5 x6 x7 σ = some r) : G p l e (rmd 7 4 24) s m args below meth c E true (sZ σ) ad0 (vx_MQ below (QIx E true σ (embS σ r) ad0) (XX E true σ Int32 (embS σ r) ad0) args s 4 24 (AE E)) 9 3 18 σ 36 [(0, .ref 32), (1, .int x1), (2, .int x2), (3, .int x3), (4, .int x4), (5, .int x5), (6, .int x6), (7, .int x7)] [] := by
  unfold mX11_hidden_36B at h
  refine G_iload C 7 rfl dX11_hidden_36 ?_
  refine G_sipush C (v := 200) rfl dX11_hidden_38 ?_
  refine G_icmp_ge (tgt := 139) C rfl dX11_hidden_41 (fun hc5 => ?_) (fun hc5 => ?_)
  · replace h := (if_pos hc5).symm.trans h
    refine G_sub [2, 5] rfl ?_
    exact eX11_hidden_139 C hr hlx htb h
  · replace h := (if_neg hc5).symm.trans h
    refine G_iload C 6 rfl dX11_hidden_44 ?_
    refine G_iconst C (v := -1) rfl dX11_hidden_46 ?_
    refine G_icmp_eq (tgt := 139) C rfl dX11_hidden_47 (fun hc7 => ?_) (fun hc7 => ?_)
    · replace h := (if_pos hc7).symm.trans h
      refine G_sub [2, 5] rfl ?_
      exact eX11_hidden_139 C hr hlx htb h
    · replace h := (if_neg hc7).symm.trans h
      refine G_aload_n C 0 rfl rfl dX11_hidden_50 ?_
      refine G_getF C fl_X11_10_10 rfl rfl fn_32_0 dX11_hidden_51 ?_
      refine G_iload_n C 1 rfl rfl dX11_hidden_54 ?_
      refine G_iload C 6 rfl dX11_hidden_55 ?_
      refine G_iload C 4 rfl dX11_hidden_57 ?_
      obtain ⟨v8, hv8, h⟩ := bnd h
      refine G_callI (run_V C [.int x1, .int x6, .int x4] [] (dX1_handBehind hv8) ml_X1_handBehind mv_X1_handBehind lk_X11_345 ⟨(Nat.le_of_ble_eq_true rfl), (Nat.le_of_ble_eq_true rfl)⟩ ⟨(Nat.le_of_ble_eq_true rfl), (Nat.le_of_ble_eq_true rfl)⟩ vq_1 rfl ko_33 rfl (Nat.le_of_ble_eq_true rfl) dX11_hidden_59) ?_
      refine G_istore (L' := [(8, .int v8), (0, .ref 32), (1, .int x1), (2, .int x2), (3, .int x3), (4, .int x4), (5, .int x5), (6, .int x6), (7, .int x7)]) C (Nat.le_of_ble_eq_true rfl) rfl dX11_hidden_62 ?_
      refine G_iload C 0 rfl dX11_hidden_64 ?_
      refine G_iconst C (v := -1) rfl dX11_hidden_66 ?_
      refine G_icmp_eq (tgt := 129) C rfl dX11_hidden_67 (fun hc9 => ?_) (fun hc9 => ?_)
      · replace h := (if_pos hc9).symm.trans h
        refine G_iload C 0 rfl dX11_hidden_129 ?_
        refine G_istore (L' := [(6, .int v8), (8, .int v8), (0, .ref 32), (1, .int x1), (2, .int x2), (3, .int x3), (4, .int x4), (5, .int x5), (7, .int x7)]) C (Nat.le_of_ble_eq_true rfl) rfl dX11_hidden_131 ?_
        refine G_iinc (v := 1) (L' := [(7, .int (x7 + (1 : Int32))), (6, .int v8), (8, .int v8), (0, .ref 32), (1, .int x1), (2, .int x2), (3, .int x3), (4, .int x4), (5, .int x5)]) C 8 rfl rfl (Nat.le_of_ble_eq_true rfl) rfl dX11_hidden_133 ?_
        refine G_goto (tgt := 36) C rfl dX11_hidden_136 ?_
        refine G_sub [3, 4, 5, 6, 7, 8, 1, 0] rfl ?_
        exact hf36 _ _ _ _ _ _ _ h
      · replace h := (if_neg hc9).symm.trans h
        refine G_aload_n C 1 rfl rfl dX11_hidden_70 ?_
        refine G_getF C fl_X11_10_10 rfl rfl fn_32_0 dX11_hidden_71 ?_
        refine G_iload C 0 rfl dX11_hidden_74 ?_
        obtain ⟨v10, hv10, h⟩ := bnd h
        refine G_callR (run_V C [.int v8] [] (dX1_factAt hv10) ml_X1_factAt mv_X1_factAt lk_X11_218 ⟨(Nat.le_of_ble_eq_true rfl), (Nat.le_of_ble_eq_true rfl)⟩ ⟨(Nat.le_of_ble_eq_true rfl), (Nat.le_of_ble_eq_true rfl)⟩ vq_1 rfl ko_33 rfl (Nat.le_of_ble_eq_true rfl) dX11_hidden_76) ?_
        obtain ⟨hc11, h⟩ := ifn h
        refine G_getI C fl_X11_348_3 (Or.inl rfl) (KO.dy hc11) dX11_hidden_79 ?_
        refine G_aload_n C 1 rfl rfl dX11_hidden_82 ?_
        refine G_getF C fl_X11_10_10 rfl rfl fn_32_0 dX11_hidden_83 ?_
        refine G_iload C 7 rfl dX11_hidden_86 ?_
        obtain ⟨v12, hv12, h⟩ := bnd h
        refine G_callR (run_V C [.int x6] [.int (sI σ v10 4)] (dX1_factAt hv12) ml_X1_factAt mv_X1_factAt lk_X11_218 ⟨(Nat.le_of_ble_eq_true rfl), (Nat.le_of_ble_eq_true rfl)⟩ ⟨(Nat.le_of_ble_eq_true rfl), (Nat.le_of_ble_eq_true rfl)⟩ vq_1 rfl ko_33 rfl (Nat.le_of_ble_eq_true rfl) dX11_hidden_88) ?_
        obtain ⟨hc13, h⟩ := ifn h
        refine G_getI C fl_X11_342_3 (Or.inl rfl) (KO.dy hc13) dX11_hidden_91 ?_
        refine G_icmp_eq (tgt := 129) C rfl dX11_hidden_94 (fun hc14 => ?_) (fun hc14 => ?_)
        · replace h := (if_pos hc14).symm.trans h
          refine G_iload C 0 rfl dX11_hidden_129 ?_
          refine G_istore (L' := [(6, .int v8), (8, .int v8), (0, .ref 32), (1, .int x1), (2, .int x2), (3, .int x3), (4, .int x4), (5, .int x5), (7, .int x7)]) C (Nat.le_of_ble_eq_true rfl) rfl dX11_hidden_131 ?_
          refine G_iinc (v := 1) (L' := [(7, .int (x7 + (1 : Int32))), (6, .int v8), (8, .int v8), (0, .ref 32), (1, .int x1), (2, .int x2), (3, .int x3), (4, .int x4), (5, .int x5)]) C 8 rfl rfl (Nat.le_of_ble_eq_true rfl) rfl dX11_hidden_133 ?_
          refine G_goto (tgt := 36) C rfl dX11_hidden_136 ?_
          refine G_sub [3, 4, 5, 6, 7, 8, 1, 0] rfl ?_
          exact hf36 _ _ _ _ _ _ _ h
        · replace h := (if_neg hc14).symm.trans h
          refine G_iload C 6 rfl dX11_hidden_97 ?_
          refine G_iload_n C 3 rfl rfl dX11_hidden_99 ?_
          refine G_icmp_ne (tgt := 126) C rfl dX11_hidden_100 (fun hc15 => ?_) (fun hc15 => ?_)
          · replace h := (if_neg hc15).symm.trans h
            refine G_iinc (v := 1) (L' := [(5, .int (x5 + (1 : Int32))), (8, .int v8), (0, .ref 32), (1, .int x1), (2, .int x2), (3, .int x3), (4, .int x4), (6, .int x6), (7, .int x7)]) C 6 rfl rfl (Nat.le_of_ble_eq_true rfl) rfl dX11_hidden_126 ?_
            refine G_iload C 1 rfl dX11_hidden_129 ?_
            refine G_istore (L' := [(6, .int v8), (5, .int (x5 + (1 : Int32))), (8, .int v8), (0, .ref 32), (1, .int x1), (2, .int x2), (3, .int x3), (4, .int x4), (7, .int x7)]) C (Nat.le_of_ble_eq_true rfl) rfl dX11_hidden_131 ?_
            refine G_iinc (v := 1) (L' := [(7, .int (x7 + (1 : Int32))), (6, .int v8), (5, .int (x5 + (1 : Int32))), (8, .int v8), (0, .ref 32), (1, .int x1), (2, .int x2), (3, .int x3), (4, .int x4)]) C 8 rfl rfl (Nat.le_of_ble_eq_true rfl) rfl dX11_hidden_133 ?_
            refine G_goto (tgt := 36) C rfl dX11_hidden_136 ?_
            refine G_sub [4, 5, 6, 7, 8, 2, 1, 0] rfl ?_
            exact hf36 _ _ _ _ _ _ _ h
          · replace h := (if_pos hc15).symm.trans h
            refine G_aload_n C 1 rfl rfl dX11_hidden_103 ?_
            refine G_getF C fl_X11_10_10 rfl rfl fn_32_0 dX11_hidden_104 ?_
            refine G_iload C 7 rfl dX11_hidden_107 ?_
            obtain ⟨v16, hv16, h⟩ := bnd h
            refine G_callR (run_V C [.int x6] [] (dX1_factAt hv16) ml_X1_factAt mv_X1_factAt lk_X11_218 ⟨(Nat.le_of_ble_eq_true rfl), (Nat.le_of_ble_eq_true rfl)⟩ ⟨(Nat.le_of_ble_eq_true rfl), (Nat.le_of_ble_eq_true rfl)⟩ vq_1 rfl ko_33 rfl (Nat.le_of_ble_eq_true rfl) dX11_hidden_109) ?_
            refine G_aload_n C 1 rfl rfl dX11_hidden_112 ?_
            refine G_getF C fl_X11_10_10 rfl rfl fn_32_0 dX11_hidden_113 ?_
            refine G_iload C 0 rfl dX11_hidden_116 ?_
            obtain ⟨v17, hv17, h⟩ := bnd h
            refine G_callR (run_V C [.int v8] [.ref v16] (dX1_factAt hv17) ml_X1_factAt mv_X1_factAt lk_X11_218 ⟨(Nat.le_of_ble_eq_true rfl), (Nat.le_of_ble_eq_true rfl)⟩ ⟨(Nat.le_of_ble_eq_true rfl), (Nat.le_of_ble_eq_true rfl)⟩ vq_1 rfl ko_33 rfl (Nat.le_of_ble_eq_true rfl) dX11_hidden_118) ?_
            refine G_iload_n C 4 rfl rfl dX11_hidden_121 ?_
            obtain ⟨v18, hv18, h⟩ := bnd h
            refine G_callI (run_S C [.ref v16, .ref v17, .int x3] [] (dX11_tellHidden hv18) ml_X11_tellHidden ms_X11_tellHidden lk_X11_351 ⟨(Nat.le_of_ble_eq_true rfl), (Nat.le_of_ble_eq_true rfl)⟩ ⟨(Nat.le_of_ble_eq_true rfl), (Nat.le_of_ble_eq_true rfl)⟩ rfl (Nat.le_of_ble_eq_true rfl) dX11_hidden_122) ?_
            obtain rfl := Option.some.inj h
            exact G_iretx C hr (Nat.le_of_ble_eq_true rfl) (Nat.le_of_ble_eq_true rfl) dX11_hidden_125
set_option maxRecDepth 100000 in
set_option maxHeartbeats 4000000 in
theorem eX11_hidden_36 (C : Cx E p s m args meth c cX11_hidden 9 RX11) (hr : meth.sig.returnType = (some .int)) (hlx : l.stackTraces = false) (htb : ∀ x ∈ c.exceptionTable.toList, False) {r : Nat ⊕ Int32} {σ : Sto} {n : Nat} {x1 : Int32} {x2 : Int32} {x3 : Int32} {x4 : Int32} {x5 : Int32} {x6 : Int32} {x7 : Int32} (h : mX11_hidden_36 n x1 x2 x3 x4 x5 x6 x7 σ = some r) : G p l e (rmd 7 4 24) s m args below meth c E true (sZ σ) ad0 (vx_MQ below (QIx E true σ (embS σ r) ad0) (XX E true σ Int32 (embS σ r) ad0) args s 4 24 (AE E)) 9 3 18 σ 36 [(0, .ref 32), (1, .int x1), (2, .int x2), (3, .int x3), (4, .int x4), (5, .int x5), (6, .int x6), (7, .int x7)] [] := by
  induction n generalizing x1 x2 x3 x4 x5 x6 x7 with
  | zero => exact nomatch (show (none : Option (Nat ⊕ Int32)) = some r from h)
  | succ n ih => exact eX11_hidden_36B C hr hlx htb (fun z0 z1 z2 z3 z4 z5 z6 h9 => ih h9) h
set_option maxRecDepth 100000 in
set_option maxHeartbeats 4000000 in
theorem dX11_hidden (hlx : l.stackTraces = false) {σ : Sto} {p0 : Int32} {p1 : Int32} {p2 : Int32} {p3 : Int32} {r : Nat ⊕ Int32} (h : mX11_hidden p0 p1 p2 p3 σ = some r) : MX l yX11_hidden cX11_hidden 9 (some .int) 7 4 24 E true σ [.ref 32, .int p0, .int p1, .int p2, .int p3] Int32 (embS σ r) (QIx E true σ (embS σ r)) := by
  unfold mX11_hidden at h
  refine MX_of (by decide) (Nat.le_of_ble_eq_true rfl) rfl (fun p e s m args below meth c ad0 C hr htb => ?_)
  refine G_aload_n C 0 rfl rfl dX11_hidden_0 ?_
  refine G_iload_n C 1 rfl rfl dX11_hidden_1 ?_
  rcases bdp_elim h with ⟨x1, hv1, rfl⟩ | ⟨u1, hv1, h⟩
  · exact G_callVx_thr C htb (Nat.le_of_ble_eq_true rfl) (Nat.le_of_ble_eq_true rfl) (run_Vx C [.int p0] [] (dX11_needWork hlx hv1) ml_X11_needWork mv_X11_needWork lk_X11_122 ⟨(Nat.le_of_ble_eq_true rfl), (Nat.le_of_ble_eq_true rfl)⟩ ⟨(Nat.le_of_ble_eq_true rfl), (Nat.le_of_ble_eq_true rfl)⟩ vq_10 rfl ko_32 rfl (Nat.le_of_ble_eq_true rfl) dX11_hidden_2)
  refine G_callVx (run_Vx C [.int p0] [] (dX11_needWork hlx hv1) ml_X11_needWork mv_X11_needWork lk_X11_122 ⟨(Nat.le_of_ble_eq_true rfl), (Nat.le_of_ble_eq_true rfl)⟩ ⟨(Nat.le_of_ble_eq_true rfl), (Nat.le_of_ble_eq_true rfl)⟩ vq_10 rfl ko_32 rfl (Nat.le_of_ble_eq_true rfl) dX11_hidden_2) ?_
  refine G_aload_n C 0 rfl rfl dX11_hidden_5 ?_
  refine G_iload_n C 3 rfl rfl dX11_hidden_6 ?_
  refine G_iconst C (v := 3) rfl dX11_hidden_7 ?_
  rcases bdp_elim h with ⟨x2, hv2, rfl⟩ | ⟨u2, hv2, h⟩
  · exact G_callVx_thr C htb (Nat.le_of_ble_eq_true rfl) (Nat.le_of_ble_eq_true rfl) (run_Vx C [.int p2, .int (3 : Int32)] [] (dX11_needWhat hlx hv2) ml_X11_needWhat mv_X11_needWhat lk_X11_255 ⟨(Nat.le_of_ble_eq_true rfl), (Nat.le_of_ble_eq_true rfl)⟩ ⟨(Nat.le_of_ble_eq_true rfl), (Nat.le_of_ble_eq_true rfl)⟩ vq_10 rfl ko_32 rfl (Nat.le_of_ble_eq_true rfl) dX11_hidden_8)
  refine G_callVx (run_Vx C [.int p2, .int (3 : Int32)] [] (dX11_needWhat hlx hv2) ml_X11_needWhat mv_X11_needWhat lk_X11_255 ⟨(Nat.le_of_ble_eq_true rfl), (Nat.le_of_ble_eq_true rfl)⟩ ⟨(Nat.le_of_ble_eq_true rfl), (Nat.le_of_ble_eq_true rfl)⟩ vq_10 rfl ko_32 rfl (Nat.le_of_ble_eq_true rfl) dX11_hidden_8) ?_
  refine G_aload_n C 0 rfl rfl dX11_hidden_11 ?_
  refine G_iload C 4 rfl dX11_hidden_12 ?_
  rcases bdp_elim h with ⟨x3, hv3, rfl⟩ | ⟨u3, hv3, h⟩
  · exact G_callVx_thr C htb (Nat.le_of_ble_eq_true rfl) (Nat.le_of_ble_eq_true rfl) (run_Vx C [.int p3] [] (dX11_needEvening hlx hv3) ml_X11_needEvening mv_X11_needEvening lk_X11_258 ⟨(Nat.le_of_ble_eq_true rfl), (Nat.le_of_ble_eq_true rfl)⟩ ⟨(Nat.le_of_ble_eq_true rfl), (Nat.le_of_ble_eq_true rfl)⟩ vq_10 rfl ko_32 rfl (Nat.le_of_ble_eq_true rfl) dX11_hidden_14)
  refine G_callVx (run_Vx C [.int p3] [] (dX11_needEvening hlx hv3) ml_X11_needEvening mv_X11_needEvening lk_X11_258 ⟨(Nat.le_of_ble_eq_true rfl), (Nat.le_of_ble_eq_true rfl)⟩ ⟨(Nat.le_of_ble_eq_true rfl), (Nat.le_of_ble_eq_true rfl)⟩ vq_10 rfl ko_32 rfl (Nat.le_of_ble_eq_true rfl) dX11_hidden_14) ?_
  refine G_iconst C (v := 0) rfl dX11_hidden_17 ?_
  refine G_istore (L' := [(5, .int (0 : Int32)), (0, .ref 32), (1, .int p0), (2, .int p1), (3, .int p2), (4, .int p3)]) C (Nat.le_of_ble_eq_true rfl) rfl dX11_hidden_18 ?_
  refine G_aload_n C 1 rfl rfl dX11_hidden_20 ?_
  refine G_getF C fl_X11_10_10 rfl rfl fn_32_0 dX11_hidden_21 ?_
  refine G_iload_n C 2 rfl rfl dX11_hidden_24 ?_
  refine G_iconst C (v := -1) rfl dX11_hidden_25 ?_
  refine G_iload C 5 rfl dX11_hidden_26 ?_
  obtain ⟨v4, hv4, h⟩ := bnd h
  refine G_callI (run_V C [.int p0, .int (-1 : Int32), .int p3] [] (dX1_handBehind hv4) ml_X1_handBehind mv_X1_handBehind lk_X11_345 ⟨(Nat.le_of_ble_eq_true rfl), (Nat.le_of_ble_eq_true rfl)⟩ ⟨(Nat.le_of_ble_eq_true rfl), (Nat.le_of_ble_eq_true rfl)⟩ vq_1 rfl ko_33 rfl (Nat.le_of_ble_eq_true rfl) dX11_hidden_28) ?_
  refine G_istore (L' := [(6, .int v4), (5, .int (0 : Int32)), (0, .ref 32), (1, .int p0), (2, .int p1), (3, .int p2), (4, .int p3)]) C (Nat.le_of_ble_eq_true rfl) rfl dX11_hidden_31 ?_
  refine G_iconst C (v := 0) rfl dX11_hidden_33 ?_
  refine G_istore (L' := [(7, .int (0 : Int32)), (6, .int v4), (5, .int (0 : Int32)), (0, .ref 32), (1, .int p0), (2, .int p1), (3, .int p2), (4, .int p3)]) C (Nat.le_of_ble_eq_true rfl) rfl dX11_hidden_34 ?_
  refine G_sub [3, 4, 5, 6, 7, 2, 1, 0] rfl ?_
  exact eX11_hidden_36 C hr hlx htb h
set_option maxRecDepth 100000 in
set_option maxHeartbeats 4000000 in
theorem dX11_more (hlx : l.stackTraces = false) {σ : Sto} {p0 : Int32} {r : Nat ⊕ Int64} (h : mX11_more p0 σ = some r) : MX l yX11_more cX11_more 2 (some .long) 7 1 6 E true σ [.ref 32, .int p0] Int64 (embS σ r) (QLx E true σ (embS σ r)) := by
  unfold mX11_more at h
  refine MX_of (by decide) (Nat.le_of_ble_eq_true rfl) rfl (fun p e s m args below meth c ad0 C hr htb => ?_)
  refine G_aload_n C 0 rfl rfl dX11_more_0 ?_
  refine G_iload_n C 1 rfl rfl dX11_more_1 ?_
  rcases bdp_elim h with ⟨x1, hv1, rfl⟩ | ⟨u1, hv1, h⟩
  · exact G_callVx_thr C htb (Nat.le_of_ble_eq_true rfl) (Nat.le_of_ble_eq_true rfl) (run_Vx C [.int p0] [] (dX11_needPerson hlx hv1) ml_X11_needPerson mv_X11_needPerson lk_X11_103 ⟨(Nat.le_of_ble_eq_true rfl), (Nat.le_of_ble_eq_true rfl)⟩ ⟨(Nat.le_of_ble_eq_true rfl), (Nat.le_of_ble_eq_true rfl)⟩ vq_10 rfl ko_32 rfl (Nat.le_of_ble_eq_true rfl) dX11_more_2)
  refine G_callVx (run_Vx C [.int p0] [] (dX11_needPerson hlx hv1) ml_X11_needPerson mv_X11_needPerson lk_X11_103 ⟨(Nat.le_of_ble_eq_true rfl), (Nat.le_of_ble_eq_true rfl)⟩ ⟨(Nat.le_of_ble_eq_true rfl), (Nat.le_of_ble_eq_true rfl)⟩ vq_10 rfl ko_32 rfl (Nat.le_of_ble_eq_true rfl) dX11_more_2) ?_
  refine G_aload_n C 0 rfl rfl dX11_more_5 ?_
  refine G_getF C fl_X11_59_10 rfl rfl fn_32_8 dX11_more_6 ?_
  refine G_iload_n C 1 rfl rfl dX11_more_9 ?_
  obtain ⟨hc2, h⟩ := ifn h
  refine G_laload C ks_80 hc2 dX11_more_10 ?_
  obtain rfl := Option.some.inj h
  exact G_lretx C hr (Nat.le_of_ble_eq_true rfl) (Nat.le_of_ble_eq_true rfl) dX11_more_11
set_option maxRecDepth 100000 in
set_option maxHeartbeats 4000000 in
theorem dX11_count (hlx : l.stackTraces = false) {σ : Sto} {p0 : Int32} {r : Nat ⊕ Int32} (h : mX11_count p0 σ = some r) : MX l yX11_count cX11_count 2 (some .int) 7 1 6 E true σ [.ref 32, .int p0] Int32 (embS σ r) (QIx E true σ (embS σ r)) := by
  unfold mX11_count at h
  refine MX_of (by decide) (Nat.le_of_ble_eq_true rfl) rfl (fun p e s m args below meth c ad0 C hr htb => ?_)
  refine G_aload_n C 0 rfl rfl dX11_count_0 ?_
  refine G_iload_n C 1 rfl rfl dX11_count_1 ?_
  refine G_bipush C (v := 8) rfl dX11_count_2 ?_
  rcases bdp_elim h with ⟨x1, hv1, rfl⟩ | ⟨u1, hv1, h⟩
  · exact G_callVx_thr C htb (Nat.le_of_ble_eq_true rfl) (Nat.le_of_ble_eq_true rfl) (run_Vx C [.int p0, .int (8 : Int32)] [] (dX11_needWhat hlx hv1) ml_X11_needWhat mv_X11_needWhat lk_X11_255 ⟨(Nat.le_of_ble_eq_true rfl), (Nat.le_of_ble_eq_true rfl)⟩ ⟨(Nat.le_of_ble_eq_true rfl), (Nat.le_of_ble_eq_true rfl)⟩ vq_10 rfl ko_32 rfl (Nat.le_of_ble_eq_true rfl) dX11_count_4)
  refine G_callVx (run_Vx C [.int p0, .int (8 : Int32)] [] (dX11_needWhat hlx hv1) ml_X11_needWhat mv_X11_needWhat lk_X11_255 ⟨(Nat.le_of_ble_eq_true rfl), (Nat.le_of_ble_eq_true rfl)⟩ ⟨(Nat.le_of_ble_eq_true rfl), (Nat.le_of_ble_eq_true rfl)⟩ vq_10 rfl ko_32 rfl (Nat.le_of_ble_eq_true rfl) dX11_count_4) ?_
  refine G_iload_n C 1 rfl rfl dX11_count_7 ?_
  by_cases hc2 : p0 = (0 : Int32)
  · replace h := (if_pos hc2).symm.trans h
    refine G_tswIn (tgt := 56) C (0) 0 hc2 (by decide) (by decide) (by decide) rfl rfl dX11_count_8 ?_
    refine G_aload_n C 0 rfl rfl dX11_count_56 ?_
    refine G_getF C fl_X11_10_10 rfl rfl fn_32_0 dX11_count_57 ?_
    refine G_getI C fl_X11_148_1 (Or.inl rfl) ko_33 dX11_count_60 ?_
    obtain rfl := Option.some.inj h
    exact G_iretx C hr (Nat.le_of_ble_eq_true rfl) (Nat.le_of_ble_eq_true rfl) dX11_count_63
  replace h := (if_neg hc2).symm.trans h
  by_cases hc3 : p0 = (1 : Int32)
  · replace h := (if_pos hc3).symm.trans h
    refine G_tswIn (tgt := 64) C (1) 1 hc3 (by decide) (by decide) (by decide) rfl rfl dX11_count_8 ?_
    refine G_aload_n C 0 rfl rfl dX11_count_64 ?_
    refine G_getF C fl_X11_10_10 rfl rfl fn_32_0 dX11_count_65 ?_
    refine G_getI C fl_X11_63_1 (Or.inl rfl) ko_33 dX11_count_68 ?_
    obtain rfl := Option.some.inj h
    exact G_iretx C hr (Nat.le_of_ble_eq_true rfl) (Nat.le_of_ble_eq_true rfl) dX11_count_71
  replace h := (if_neg hc3).symm.trans h
  by_cases hc4 : p0 = (2 : Int32)
  · replace h := (if_pos hc4).symm.trans h
    refine G_tswIn (tgt := 72) C (2) 2 hc4 (by decide) (by decide) (by decide) rfl rfl dX11_count_8 ?_
    refine G_aload_n C 0 rfl rfl dX11_count_72 ?_
    refine G_getF C fl_X11_10_10 rfl rfl fn_32_0 dX11_count_73 ?_
    refine G_getI C fl_X11_91_1 (Or.inl rfl) ko_33 dX11_count_76 ?_
    obtain rfl := Option.some.inj h
    exact G_iretx C hr (Nat.le_of_ble_eq_true rfl) (Nat.le_of_ble_eq_true rfl) dX11_count_79
  replace h := (if_neg hc4).symm.trans h
  by_cases hc5 : p0 = (3 : Int32)
  · replace h := (if_pos hc5).symm.trans h
    refine G_tswIn (tgt := 80) C (3) 3 hc5 (by decide) (by decide) (by decide) rfl rfl dX11_count_8 ?_
    refine G_aload_n C 0 rfl rfl dX11_count_80 ?_
    refine G_getF C fl_X11_10_10 rfl rfl fn_32_0 dX11_count_81 ?_
    refine G_getI C fl_X11_107_1 (Or.inl rfl) ko_33 dX11_count_84 ?_
    obtain rfl := Option.some.inj h
    exact G_iretx C hr (Nat.le_of_ble_eq_true rfl) (Nat.le_of_ble_eq_true rfl) dX11_count_87
  replace h := (if_neg hc5).symm.trans h
  by_cases hc6 : p0 = (4 : Int32)
  · replace h := (if_pos hc6).symm.trans h
    refine G_tswIn (tgt := 88) C (4) 4 hc6 (by decide) (by decide) (by decide) rfl rfl dX11_count_8 ?_
    refine G_aload_n C 0 rfl rfl dX11_count_88 ?_
    refine G_getF C fl_X11_10_10 rfl rfl fn_32_0 dX11_count_89 ?_
    refine G_getI C fl_X11_138_1 (Or.inl rfl) ko_33 dX11_count_92 ?_
    obtain rfl := Option.some.inj h
    exact G_iretx C hr (Nat.le_of_ble_eq_true rfl) (Nat.le_of_ble_eq_true rfl) dX11_count_95
  replace h := (if_neg hc6).symm.trans h
  by_cases hc7 : p0 = (5 : Int32)
  · replace h := (if_pos hc7).symm.trans h
    refine G_tswIn (tgt := 96) C (5) 5 hc7 (by decide) (by decide) (by decide) rfl rfl dX11_count_8 ?_
    refine G_aload_n C 0 rfl rfl dX11_count_96 ?_
    refine G_getF C fl_X11_10_10 rfl rfl fn_32_0 dX11_count_97 ?_
    refine G_getI C fl_X11_209_1 (Or.inl rfl) ko_33 dX11_count_100 ?_
    obtain rfl := Option.some.inj h
    exact G_iretx C hr (Nat.le_of_ble_eq_true rfl) (Nat.le_of_ble_eq_true rfl) dX11_count_103
  replace h := (if_neg hc7).symm.trans h
  by_cases hc8 : p0 = (6 : Int32)
  · replace h := (if_pos hc8).symm.trans h
    refine G_tswIn (tgt := 104) C (6) 6 hc8 (by decide) (by decide) (by decide) rfl rfl dX11_count_8 ?_
    refine G_aload_n C 0 rfl rfl dX11_count_104 ?_
    refine G_getF C fl_X11_10_10 rfl rfl fn_32_0 dX11_count_105 ?_
    refine G_getI C fl_X11_206_1 (Or.inl rfl) ko_33 dX11_count_108 ?_
    obtain rfl := Option.some.inj h
    exact G_iretx C hr (Nat.le_of_ble_eq_true rfl) (Nat.le_of_ble_eq_true rfl) dX11_count_111
  replace h := (if_neg hc8).symm.trans h
  by_cases hc9 : p0 = (7 : Int32)
  · replace h := (if_pos hc9).symm.trans h
    refine G_tswIn (tgt := 112) C (7) 7 hc9 (by decide) (by decide) (by decide) rfl rfl dX11_count_8 ?_
    refine G_aload_n C 0 rfl rfl dX11_count_112 ?_
    refine G_getF C fl_X11_10_10 rfl rfl fn_32_0 dX11_count_113 ?_
    refine G_getI C fl_X11_231_1 (Or.inl rfl) ko_33 dX11_count_116 ?_
    obtain rfl := Option.some.inj h
    exact G_iretx C hr (Nat.le_of_ble_eq_true rfl) (Nat.le_of_ble_eq_true rfl) dX11_count_119
  replace h := (if_neg hc9).symm.trans h
  have ht10 : ∀ j : Nat, j < 8 → p0 ≠ Int32.ofInt (0 + (j : Int)) := by
    intro j hj
    rcases (show j = 0 ∨ j = 1 ∨ j = 2 ∨ j = 3 ∨ j = 4 ∨ j = 5 ∨ j = 6 ∨ j = 7 by omega) with rfl | rfl | rfl | rfl | rfl | rfl | rfl | rfl
    · exact hc2
    · exact hc3
    · exact hc4
    · exact hc5
    · exact hc6
    · exact hc7
    · exact hc8
    · exact hc9
  refine G_tswOut (tgt := 120) C 8 ht10 (by decide) (by decide) rfl dX11_count_8 ?_
  refine G_aload_n C 0 rfl rfl dX11_count_120 ?_
  refine G_getI C fl_X11_45_10 (Or.inl rfl) ko_32 dX11_count_121 ?_
  obtain rfl := Option.some.inj h
  exact G_iretx C hr (Nat.le_of_ble_eq_true rfl) (Nat.le_of_ble_eq_true rfl) dX11_count_124
set_option maxRecDepth 100000 in
set_option maxHeartbeats 4000000 in
theorem eX11_addShares_2B (C : Cx E p s m args meth c cX11_addShares 3 RX11) (hr : meth.sig.returnType = none) {σ0 : Sto} {r2 : Sto} {σ : Sto} {f2 : Int32 → Int32 → Sto → Option Sto} {x1 : Int32} {x2 : Int32} (hf2 : ∀ (x1 : Int32) (x2 : Int32) (σ' : Sto), f2 x1 x2 σ' = some r2 → G p l e (rmd 1 0 0) s m args below meth c E true (sZ σ0) ad0 (MQ below (QV E true σ0 r2 ad0) args s 0 0 (AE E)) 3 0 0 σ' 2 [(0, .ref 32), (1, .int x1), (2, .int x2)] []) (h : mX11_addShares_2B f2 x1 x2 σ = some r2) : G p l e (rmd 1 0 0) s m args below meth c E true (sZ σ0) ad0 (MQ below (QV E true σ0 r2 ad0) args s 0 0 (AE E)) 3 0 0 σ 2 [(0, .ref 32), (1, .int x1), (2, .int x2)] [] := by
  unfold mX11_addShares_2B at h
  refine G_iload_n C 2 rfl rfl dX11_addShares_2 ?_
  refine G_aload_n C 0 rfl rfl dX11_addShares_3 ?_
  refine G_getF C fl_X11_59_10 rfl rfl fn_32_8 dX11_addShares_4 ?_
  refine G_alen (t := 1) (v := (30 : Int32)) C (by decide) ks_80 rfl dX11_addShares_7 ?_
  refine G_icmp_ge (tgt := 39) C rfl dX11_addShares_8 (fun hc1 => ?_) (fun hc1 => ?_)
  · replace h := (if_pos hc1).symm.trans h
    obtain rfl := Option.some.inj h
    exact G_vret C hr (Nat.le_of_ble_eq_true rfl) (Nat.le_of_ble_eq_true rfl) dX11_addShares_39
  · replace h := (if_neg hc1).symm.trans h
    refine G_aload_n C 0 rfl rfl dX11_addShares_11 ?_
    refine G_getF C fl_X11_59_10 rfl rfl fn_32_8 dX11_addShares_12 ?_
    refine G_iload_n C 2 rfl rfl dX11_addShares_15 ?_
    refine G_dup2 C rfl rfl dX11_addShares_16 ?_
    obtain ⟨hc2, h⟩ := ifn h
    refine G_laload C ks_80 hc2 dX11_addShares_17 ?_
    refine G_iload_n C 1 rfl rfl dX11_addShares_18 ?_
    refine G_i2l C dX11_addShares_19 ?_
    refine G_aload_n C 0 rfl rfl dX11_addShares_20 ?_
    refine G_getF C fl_X11_21_10 rfl rfl fn_32_1 dX11_addShares_21 ?_
    refine G_getF C fl_X11_298_0 rfl rfl fn_53_13 dX11_addShares_24 ?_
    refine G_iload_n C 2 rfl rfl dX11_addShares_27 ?_
    refine G_iaload C ks_57 hc2 dX11_addShares_28 ?_
    refine G_i2l C dX11_addShares_29 ?_
    refine G_lmul C dX11_addShares_30 ?_
    refine G_ladd C dX11_addShares_31 ?_
    obtain ⟨σ3, hs3, h⟩ := stp_elim h
    refine G_lastore C ks_80 hc2 dX11_addShares_32 ?_
    rw [← hs3]
    refine G_iinc (v := 1) (L' := [(2, .int (x2 + (1 : Int32))), (0, .ref 32), (1, .int x1)]) C 2 rfl rfl (Nat.le_of_ble_eq_true rfl) rfl dX11_addShares_33 ?_
    refine G_goto (tgt := 2) C rfl dX11_addShares_36 ?_
    refine G_sub [1, 2, 0] rfl ?_
    exact hf2 _ _ _ h
set_option maxRecDepth 100000 in
set_option maxHeartbeats 4000000 in
theorem eX11_addShares_2 (C : Cx E p s m args meth c cX11_addShares 3 RX11) (hr : meth.sig.returnType = none) {σ0 : Sto} {r2 : Sto} {σ : Sto} {n : Nat} {x1 : Int32} {x2 : Int32} (h : mX11_addShares_2 n x1 x2 σ = some r2) : G p l e (rmd 1 0 0) s m args below meth c E true (sZ σ0) ad0 (MQ below (QV E true σ0 r2 ad0) args s 0 0 (AE E)) 3 0 0 σ 2 [(0, .ref 32), (1, .int x1), (2, .int x2)] [] := by
  induction n generalizing x1 x2 σ with
  | zero => exact nomatch (show (none : Option Sto) = some r2 from h)
  | succ n ih => exact eX11_addShares_2B C hr (fun z0 z1 σ9 h9 => ih h9) h
set_option maxRecDepth 100000 in
set_option maxHeartbeats 4000000 in
theorem dX11_addShares {σ : Sto} {p0 : Int32} {r2 : Sto} (h : mX11_addShares p0 σ = some r2) : MM l yX11_addShares cX11_addShares 3 none 1 0 0 E true σ [.ref 32, .int p0] (QV E true σ r2) := by
  unfold mX11_addShares at h
  refine MM_of (by decide) (Nat.le_of_ble_eq_true rfl) rfl (fun p e s m args below meth c ad0 C hr hn => ?_)
  refine G_iconst C (v := 0) rfl dX11_addShares_0 ?_
  refine G_istore_n (L' := [(2, .int (0 : Int32)), (0, .ref 32), (1, .int p0)]) C rfl (Nat.le_of_ble_eq_true rfl) rfl dX11_addShares_1 ?_
  refine G_sub [1, 2, 0] rfl ?_
  exact eX11_addShares_2 C hr h
set_option maxRecDepth 100000 in
set_option maxHeartbeats 4000000 in
theorem eX11_tryDraft_101 (C : Cx E p s m args meth c cX11_tryDraft 5 RX11) (hr : meth.sig.returnType = none) {σ0 : Sto} {r2 : Sto} {σ : Sto} {f40 : Int32 → Sto → Option Sto} {x1 : Int32} {x2 : Nat} {y0 : Int32} (hf40 : ∀ (x1 : Int32) (σ' : Sto), f40 x1 σ' = some r2 → G p l e (rmd 6 0 0) s m args below meth c E true (sZ σ0) ad0 (MQ below (QV E true σ0 r2 ad0) args s 0 0 (AE E)) 5 0 0 σ' 40 [(0, .ref 32), (1, .int x1)] []) (h : mX11_tryDraft_101 f40 x1 x2 y0 σ = some r2) : G p l e (rmd 6 0 0) s m args below meth c E true (sZ σ0) ad0 (MQ below (QV E true σ0 r2 ad0) args s 0 0 (AE E)) 5 0 0 σ 101 [(0, .ref 32), (1, .int x1), (2, .ref x2)] [.int y0] := by
  unfold mX11_tryDraft_101 at h
  refine G_istore_n (L' := [(3, .int y0), (0, .ref 32), (1, .int x1), (2, .ref x2)]) C rfl (Nat.le_of_ble_eq_true rfl) rfl dX11_tryDraft_101 ?_
  refine G_aload_n C 1 rfl rfl dX11_tryDraft_102 ?_
  refine G_getF C fl_X11_10_10 rfl rfl fn_32_0 dX11_tryDraft_103 ?_
  refine G_aload_n C 1 rfl rfl dX11_tryDraft_106 ?_
  refine G_getF C fl_X11_10_10 rfl rfl fn_32_0 dX11_tryDraft_107 ?_
  refine G_aload_n C 3 rfl rfl dX11_tryDraft_110 ?_
  obtain ⟨hc7, h⟩ := ifn h
  refine G_getI C fl_X11_189_3 (Or.inl rfl) (KO.dy hc7) dX11_tryDraft_111 ?_
  refine G_aload_n C 3 rfl rfl dX11_tryDraft_114 ?_
  refine G_getI C fl_X11_285_3 (Or.inl rfl) (KO.dy hc7) dX11_tryDraft_115 ?_
  refine G_aload_n C 1 rfl rfl dX11_tryDraft_118 ?_
  refine G_getF C fl_X11_10_10 rfl rfl fn_32_0 dX11_tryDraft_119 ?_
  refine G_getI C fl_X11_148_1 (Or.inl rfl) ko_33 dX11_tryDraft_122 ?_
  obtain ⟨v8, hv8, h⟩ := bnd h
  refine G_callI (run_V C [.int (sI σ x2 10), .int (sI σ x2 6), .int (sI σ 33 0)] [.ref 33] (dX1_lawFor hv8) ml_X1_lawFor mv_X1_lawFor lk_X11_288 ⟨(Nat.le_of_ble_eq_true rfl), (Nat.le_of_ble_eq_true rfl)⟩ ⟨(Nat.le_of_ble_eq_true rfl), (Nat.le_of_ble_eq_true rfl)⟩ vq_1 rfl ko_33 rfl (Nat.le_of_ble_eq_true rfl) dX11_tryDraft_125) ?_
  obtain ⟨v9, hv9, h⟩ := bnd h
  refine G_callR (run_V C [.int v8] [] (dX1_lawAt hv9) ml_X1_lawAt mv_X1_lawAt lk_X11_214 ⟨(Nat.le_of_ble_eq_true rfl), (Nat.le_of_ble_eq_true rfl)⟩ ⟨(Nat.le_of_ble_eq_true rfl), (Nat.le_of_ble_eq_true rfl)⟩ vq_1 rfl ko_33 rfl (Nat.le_of_ble_eq_true rfl) dX11_tryDraft_128) ?_
  refine G_astore (L' := [(4, .ref v9), (3, .int y0), (0, .ref 32), (1, .int x1), (2, .ref x2)]) C (Nat.le_of_ble_eq_true rfl) rfl dX11_tryDraft_131 ?_
  refine G_iload_n C 1 rfl rfl dX11_tryDraft_133 ?_
  refine G_if_eq (tgt := 204) C rfl dX11_tryDraft_134 (fun hc10 => ?_) (fun hc10 => ?_)
  · replace h := (if_pos hc10).symm.trans h
    refine G_iinc (v := 1) (L' := [(1, .int (x1 + (1 : Int32))), (4, .ref v9), (3, .int y0), (0, .ref 32), (2, .ref x2)]) C 3 rfl rfl (Nat.le_of_ble_eq_true rfl) rfl dX11_tryDraft_204 ?_
    refine G_goto (tgt := 40) C rfl dX11_tryDraft_207 ?_
    refine G_sub [3, 0] rfl ?_
    exact hf40 _ _ h
  · replace h := (if_neg hc10).symm.trans h
    refine G_aload_n C 2 rfl rfl dX11_tryDraft_137 ?_
    refine G_getR C fl_X11_55_10 rfl ko_32 dX11_tryDraft_138 ?_
    obtain ⟨hc11, h⟩ := ifn h
    refine G_getI C fl_X11_388_4 (Or.inl rfl) (KO.dy hc11) dX11_tryDraft_141 ?_
    refine G_aload_n C 4 rfl rfl dX11_tryDraft_144 ?_
    refine G_getI C fl_X11_285_3 (Or.inl rfl) (KO.dy hc7) dX11_tryDraft_145 ?_
    refine G_icmp_gt (tgt := 204) C rfl dX11_tryDraft_148 (fun hc12 => ?_) (fun hc12 => ?_)
    · replace h := (if_pos hc12).symm.trans h
      refine G_iinc (v := 1) (L' := [(1, .int (x1 + (1 : Int32))), (4, .ref v9), (3, .int y0), (0, .ref 32), (2, .ref x2)]) C 3 rfl rfl (Nat.le_of_ble_eq_true rfl) rfl dX11_tryDraft_204 ?_
      refine G_goto (tgt := 40) C rfl dX11_tryDraft_207 ?_
      refine G_sub [3, 0] rfl ?_
      exact hf40 _ _ h
    · replace h := (if_neg hc12).symm.trans h
      refine G_aload_n C 2 rfl rfl dX11_tryDraft_151 ?_
      refine G_getR C fl_X11_55_10 rfl ko_32 dX11_tryDraft_152 ?_
      refine G_getI C fl_X11_388_4 (Or.inl rfl) (KO.dy hc11) dX11_tryDraft_155 ?_
      refine G_aload C 0 rfl dX11_tryDraft_158 ?_
      obtain ⟨hc13, h⟩ := ifn h
      refine G_getI C fl_X11_388_4 (Or.inl rfl) (KO.dy hc13) dX11_tryDraft_160 ?_
      refine G_icmp_lt (tgt := 204) C rfl dX11_tryDraft_163 (fun hc14 => ?_) (fun hc14 => ?_)
      · replace h := (if_pos hc14).symm.trans h
        refine G_iinc (v := 1) (L' := [(1, .int (x1 + (1 : Int32))), (4, .ref v9), (3, .int y0), (0, .ref 32), (2, .ref x2)]) C 3 rfl rfl (Nat.le_of_ble_eq_true rfl) rfl dX11_tryDraft_204 ?_
        refine G_goto (tgt := 40) C rfl dX11_tryDraft_207 ?_
        refine G_sub [3, 0] rfl ?_
        exact hf40 _ _ h
      · replace h := (if_neg hc14).symm.trans h
        refine G_aload_n C 2 rfl rfl dX11_tryDraft_166 ?_
        refine G_getF C fl_X11_21_10 rfl rfl fn_32_1 dX11_tryDraft_167 ?_
        refine G_aload_n C 4 rfl rfl dX11_tryDraft_170 ?_
        obtain ⟨σ15, hv15, h⟩ := bnd h
        refine G_callV (run_V C [.ref x2] [] (dX0_look hv15) ml_X0_look mv_X0_look lk_X11_391 ⟨(Nat.le_of_ble_eq_true rfl), (Nat.le_of_ble_eq_true rfl)⟩ ⟨(Nat.le_of_ble_eq_true rfl), (Nat.le_of_ble_eq_true rfl)⟩ vq_0 rfl ko_53 rfl (Nat.le_of_ble_eq_true rfl) dX11_tryDraft_171) ?_
        refine G_aload_n C 2 rfl rfl dX11_tryDraft_174 ?_
        refine G_getF C fl_X11_21_10 rfl rfl fn_32_1 dX11_tryDraft_175 ?_
        refine G_aload C 0 rfl dX11_tryDraft_178 ?_
        obtain ⟨σ16, hv16, h⟩ := bnd h
        refine G_callV (run_V C [.ref v9] [] (dX0_apply hv16) ml_X0_apply mv_X0_apply lk_X11_395 ⟨(Nat.le_of_ble_eq_true rfl), (Nat.le_of_ble_eq_true rfl)⟩ ⟨(Nat.le_of_ble_eq_true rfl), (Nat.le_of_ble_eq_true rfl)⟩ vq_0 rfl ko_53 rfl (Nat.le_of_ble_eq_true rfl) dX11_tryDraft_180) ?_
        refine G_aload_n C 2 rfl rfl dX11_tryDraft_183 ?_
        refine G_iconst C (v := -1) rfl dX11_tryDraft_184 ?_
        obtain ⟨σ17, hv17, h⟩ := bnd h
        refine G_callV (run_V C [.int (-1 : Int32)] [] (dX11_addShares hv17) ml_X11_addShares mv_X11_addShares lk_X11_399 ⟨(Nat.le_of_ble_eq_true rfl), (Nat.le_of_ble_eq_true rfl)⟩ ⟨(Nat.le_of_ble_eq_true rfl), (Nat.le_of_ble_eq_true rfl)⟩ vq_10 rfl ko_32 rfl (Nat.le_of_ble_eq_true rfl) dX11_tryDraft_185) ?_
        refine G_aload_n C 2 rfl rfl dX11_tryDraft_188 ?_
        refine G_getF C fl_X11_21_10 rfl rfl fn_32_1 dX11_tryDraft_189 ?_
        refine G_aload_n C 2 rfl rfl dX11_tryDraft_192 ?_
        refine G_getR C fl_X11_55_10 rfl ko_32 dX11_tryDraft_193 ?_
        obtain ⟨σ18, hv18, h⟩ := bnd h
        refine G_callV (run_V C [.ref (sR σ17 32 7)] [] (dX0_apply hv18) ml_X0_apply mv_X0_apply lk_X11_395 ⟨(Nat.le_of_ble_eq_true rfl), (Nat.le_of_ble_eq_true rfl)⟩ ⟨(Nat.le_of_ble_eq_true rfl), (Nat.le_of_ble_eq_true rfl)⟩ vq_0 rfl ko_53 rfl (Nat.le_of_ble_eq_true rfl) dX11_tryDraft_196) ?_
        refine G_aload_n C 2 rfl rfl dX11_tryDraft_199 ?_
        refine G_iconst C (v := 1) rfl dX11_tryDraft_200 ?_
        obtain ⟨σ19, hv19, h⟩ := bnd h
        refine G_callV (run_V C [.int (1 : Int32)] [] (dX11_addShares hv19) ml_X11_addShares mv_X11_addShares lk_X11_399 ⟨(Nat.le_of_ble_eq_true rfl), (Nat.le_of_ble_eq_true rfl)⟩ ⟨(Nat.le_of_ble_eq_true rfl), (Nat.le_of_ble_eq_true rfl)⟩ vq_10 rfl ko_32 rfl (Nat.le_of_ble_eq_true rfl) dX11_tryDraft_201) ?_
        refine G_iinc (v := 1) (L' := [(1, .int (x1 + (1 : Int32))), (4, .ref v9), (3, .int y0), (0, .ref 32), (2, .ref x2)]) C 3 rfl rfl (Nat.le_of_ble_eq_true rfl) rfl dX11_tryDraft_204 ?_
        refine G_goto (tgt := 40) C rfl dX11_tryDraft_207 ?_
        refine G_sub [3, 0] rfl ?_
        exact hf40 _ _ h
set_option maxRecDepth 100000 in
set_option maxHeartbeats 4000000 in
theorem eX11_tryDraft_100 (C : Cx E p s m args meth c cX11_tryDraft 5 RX11) (hr : meth.sig.returnType = none) {σ0 : Sto} {r2 : Sto} {σ : Sto} {f40 : Int32 → Sto → Option Sto} {x1 : Int32} {x2 : Nat} (hf40 : ∀ (x1 : Int32) (σ' : Sto), f40 x1 σ' = some r2 → G p l e (rmd 6 0 0) s m args below meth c E true (sZ σ0) ad0 (MQ below (QV E true σ0 r2 ad0) args s 0 0 (AE E)) 5 0 0 σ' 40 [(0, .ref 32), (1, .int x1)] []) (h : mX11_tryDraft_100 f40 x1 x2 σ = some r2) : G p l e (rmd 6 0 0) s m args below meth c E true (sZ σ0) ad0 (MQ below (QV E true σ0 r2 ad0) args s 0 0 (AE E)) 5 0 0 σ 100 [(0, .ref 32), (1, .int x1), (2, .ref x2)] [] := by
  unfold mX11_tryDraft_100 at h
  refine G_iconst C (v := 0) rfl dX11_tryDraft_100 ?_
  exact eX11_tryDraft_101 C hr hf40 h
set_option maxRecDepth 100000 in
set_option maxHeartbeats 4000000 in
theorem eX11_tryDraft_40B (C : Cx E p s m args meth c cX11_tryDraft 5 RX11) (hr : meth.sig.returnType = none) {σ0 : Sto} {r2 : Sto} {σ : Sto} {f40 : Int32 → Sto → Option Sto} {x1 : Int32} (hf40 : ∀ (x1 : Int32) (σ' : Sto), f40 x1 σ' = some r2 → G p l e (rmd 6 0 0) s m args below meth c E true (sZ σ0) ad0 (MQ below (QV E true σ0 r2 ad0) args s 0 0 (AE E)) 5 0 0 σ' 40 [(0, .ref 32), (1, .int x1)] []) (h : mX11_tryDraft_40B f40 x1 σ = some r2) : G p l e (rmd 6 0 0) s m args below meth c E true (sZ σ0) ad0 (MQ below (QV E true σ0 r2 ad0) args s 0 0 (AE E)) 5 0 0 σ 40 [(0, .ref 32), (1, .int x1)] [] := by
  unfold mX11_tryDraft_40B at h
  refine G_iload_n C 1 rfl rfl dX11_tryDraft_40 ?_
  refine G_aload_n C 0 rfl rfl dX11_tryDraft_41 ?_
  refine G_getF C fl_X11_10_10 rfl rfl fn_32_0 dX11_tryDraft_42 ?_
  refine G_getI C fl_X11_209_1 (Or.inl rfl) ko_33 dX11_tryDraft_45 ?_
  refine G_icmp_ge (tgt := 210) C rfl dX11_tryDraft_48 (fun hc3 => ?_) (fun hc3 => ?_)
  · replace h := (if_pos hc3).symm.trans h
    obtain rfl := Option.some.inj h
    exact G_vret C hr (Nat.le_of_ble_eq_true rfl) (Nat.le_of_ble_eq_true rfl) dX11_tryDraft_210
  · replace h := (if_neg hc3).symm.trans h
    refine G_aload_n C 0 rfl rfl dX11_tryDraft_51 ?_
    refine G_getF C fl_X11_10_10 rfl rfl fn_32_0 dX11_tryDraft_52 ?_
    refine G_iload_n C 1 rfl rfl dX11_tryDraft_55 ?_
    obtain ⟨v4, hv4, h⟩ := bnd h
    refine G_callR (run_V C [.int x1] [] (dX1_factAt hv4) ml_X1_factAt mv_X1_factAt lk_X11_218 ⟨(Nat.le_of_ble_eq_true rfl), (Nat.le_of_ble_eq_true rfl)⟩ ⟨(Nat.le_of_ble_eq_true rfl), (Nat.le_of_ble_eq_true rfl)⟩ vq_1 rfl ko_33 rfl (Nat.le_of_ble_eq_true rfl) dX11_tryDraft_56) ?_
    refine G_astore_n (L' := [(2, .ref v4), (0, .ref 32), (1, .int x1)]) C rfl (Nat.le_of_ble_eq_true rfl) rfl dX11_tryDraft_59 ?_
    refine G_aload_n C 0 rfl rfl dX11_tryDraft_60 ?_
    obtain ⟨hc5, h⟩ := ifn h
    refine G_getI C fl_X11_368_3 (Or.inl rfl) (KO.dy hc5) dX11_tryDraft_61 ?_
    refine G_iconst C (v := 2) rfl dX11_tryDraft_64 ?_
    refine G_icmp_ne (tgt := 100) C rfl dX11_tryDraft_65 (fun hc6 => ?_) (fun hc6 => ?_)
    · replace h := (if_neg hc6).symm.trans h
      refine G_sub [1, 2, 0] rfl ?_
      exact eX11_tryDraft_100 C hr hf40 h
    · replace h := (if_pos hc6).symm.trans h
      refine G_aload_n C 0 rfl rfl dX11_tryDraft_68 ?_
      refine G_getI C fl_X11_189_3 (Or.inl rfl) (KO.dy hc5) dX11_tryDraft_69 ?_
      refine G_aload_n C 1 rfl rfl dX11_tryDraft_72 ?_
      refine G_getR C fl_X11_55_10 rfl ko_32 dX11_tryDraft_73 ?_
      obtain ⟨hc20, h⟩ := ifn h
      refine G_getI C fl_X11_387_4 (Or.inl rfl) (KO.dy hc20) dX11_tryDraft_76 ?_
      refine G_icmp_ne (tgt := 100) C rfl dX11_tryDraft_79 (fun hc21 => ?_) (fun hc21 => ?_)
      · replace h := (if_neg hc21).symm.trans h
        refine G_sub [1, 2, 0] rfl ?_
        exact eX11_tryDraft_100 C hr hf40 h
      · replace h := (if_pos hc21).symm.trans h
        refine G_aload_n C 0 rfl rfl dX11_tryDraft_82 ?_
        refine G_aload_n C 1 rfl rfl dX11_tryDraft_83 ?_
        refine G_getF C fl_X11_10_10 rfl rfl fn_32_0 dX11_tryDraft_84 ?_
        refine G_getI C fl_X11_148_1 (Or.inl rfl) ko_33 dX11_tryDraft_87 ?_
        obtain ⟨v22, hv22, h⟩ := bnd h
        refine G_callI (run_U C [.int (sI σ 33 0)] [] (dX9_isKnownOn3 hc5 hv22) wu_X11_261 ⟨(Nat.le_of_ble_eq_true rfl), (Nat.le_of_ble_eq_true rfl)⟩ ⟨(Nat.le_of_ble_eq_true rfl), (Nat.le_of_ble_eq_true rfl)⟩ vq_3 (KO.dy hc5) rfl (Nat.le_of_ble_eq_true rfl) dX11_tryDraft_90) ?_
        refine G_if_eq (tgt := 100) C rfl dX11_tryDraft_93 (fun hc23 => ?_) (fun hc23 => ?_)
        · replace h := (if_pos hc23).symm.trans h
          refine G_sub [1, 2, 0] rfl ?_
          exact eX11_tryDraft_100 C hr hf40 h
        · replace h := (if_neg hc23).symm.trans h
          refine G_iconst C (v := 1) rfl dX11_tryDraft_96 ?_
          refine G_goto (tgt := 101) C rfl dX11_tryDraft_97 ?_
          refine G_sub [1, 2, 0] rfl ?_
          exact eX11_tryDraft_101 C hr hf40 h
set_option maxRecDepth 100000 in
set_option maxHeartbeats 4000000 in
theorem eX11_tryDraft_40 (C : Cx E p s m args meth c cX11_tryDraft 5 RX11) (hr : meth.sig.returnType = none) {σ0 : Sto} {r2 : Sto} {σ : Sto} {n : Nat} {x1 : Int32} (h : mX11_tryDraft_40 n x1 σ = some r2) : G p l e (rmd 6 0 0) s m args below meth c E true (sZ σ0) ad0 (MQ below (QV E true σ0 r2 ad0) args s 0 0 (AE E)) 5 0 0 σ 40 [(0, .ref 32), (1, .int x1)] [] := by
  induction n generalizing x1 σ with
  | zero => exact nomatch (show (none : Option Sto) = some r2 from h)
  | succ n ih => exact eX11_tryDraft_40B C hr (fun z0 σ9 h9 => ih h9) h
set_option maxRecDepth 100000 in
set_option maxHeartbeats 4000000 in
theorem eX11_tryDraft_16B (C : Cx E p s m args meth c cX11_tryDraft 5 RX11) (hr : meth.sig.returnType = none) {σ0 : Sto} {r2 : Sto} {σ : Sto} {f16 : Int32 → Sto → Option Sto} {x1 : Int32} (hf16 : ∀ (x1 : Int32) (σ' : Sto), f16 x1 σ' = some r2 → G p l e (rmd 6 0 0) s m args below meth c E true (sZ σ0) ad0 (MQ below (QV E true σ0 r2 ad0) args s 0 0 (AE E)) 5 0 0 σ' 16 [(0, .ref 32), (1, .int x1)] []) (h : mX11_tryDraft_16B f16 x1 σ = some r2) : G p l e (rmd 6 0 0) s m args below meth c E true (sZ σ0) ad0 (MQ below (QV E true σ0 r2 ad0) args s 0 0 (AE E)) 5 0 0 σ 16 [(0, .ref 32), (1, .int x1)] [] := by
  unfold mX11_tryDraft_16B at h
  refine G_iload_n C 1 rfl rfl dX11_tryDraft_16 ?_
  refine G_aload_n C 0 rfl rfl dX11_tryDraft_17 ?_
  refine G_getF C fl_X11_59_10 rfl rfl fn_32_8 dX11_tryDraft_18 ?_
  refine G_alen (t := 1) (v := (30 : Int32)) C (by decide) ks_80 rfl dX11_tryDraft_21 ?_
  refine G_icmp_ge (tgt := 38) C rfl dX11_tryDraft_22 (fun hc2 => ?_) (fun hc2 => ?_)
  · replace h := (if_pos hc2).symm.trans h
    refine G_iconst C (v := 0) rfl dX11_tryDraft_38 ?_
    refine G_istore_n (L' := [(1, .int (0 : Int32)), (0, .ref 32)]) C rfl (Nat.le_of_ble_eq_true rfl) rfl dX11_tryDraft_39 ?_
    refine G_sub [1, 0] rfl ?_
    exact eX11_tryDraft_40 C hr h
  · replace h := (if_neg hc2).symm.trans h
    refine G_aload_n C 0 rfl rfl dX11_tryDraft_25 ?_
    refine G_getF C fl_X11_59_10 rfl rfl fn_32_8 dX11_tryDraft_26 ?_
    refine G_iload_n C 1 rfl rfl dX11_tryDraft_29 ?_
    refine G_lconst C (v := 0) rfl dX11_tryDraft_30 ?_
    obtain ⟨hc24, h⟩ := ifn h
    obtain ⟨σ25, hs25, h⟩ := stp_elim h
    refine G_lastore C ks_80 hc24 dX11_tryDraft_31 ?_
    rw [← hs25]
    refine G_iinc (v := 1) (L' := [(1, .int (x1 + (1 : Int32))), (0, .ref 32)]) C 1 rfl rfl (Nat.le_of_ble_eq_true rfl) rfl dX11_tryDraft_32 ?_
    refine G_goto (tgt := 16) C rfl dX11_tryDraft_35 ?_
    refine G_sub [1, 0] rfl ?_
    exact hf16 _ _ h
set_option maxRecDepth 100000 in
set_option maxHeartbeats 4000000 in
theorem eX11_tryDraft_16 (C : Cx E p s m args meth c cX11_tryDraft 5 RX11) (hr : meth.sig.returnType = none) {σ0 : Sto} {r2 : Sto} {σ : Sto} {n : Nat} {x1 : Int32} (h : mX11_tryDraft_16 n x1 σ = some r2) : G p l e (rmd 6 0 0) s m args below meth c E true (sZ σ0) ad0 (MQ below (QV E true σ0 r2 ad0) args s 0 0 (AE E)) 5 0 0 σ 16 [(0, .ref 32), (1, .int x1)] [] := by
  induction n generalizing x1 σ with
  | zero => exact nomatch (show (none : Option Sto) = some r2 from h)
  | succ n ih => exact eX11_tryDraft_16B C hr (fun z0 σ9 h9 => ih h9) h
set_option maxRecDepth 100000 in
set_option maxHeartbeats 4000000 in
theorem dX11_tryDraft {σ : Sto} {r2 : Sto} (h : mX11_tryDraft σ = some r2) : MM l yX11_tryDraft cX11_tryDraft 5 none 6 0 0 E true σ [.ref 32] (QV E true σ r2) := by
  unfold mX11_tryDraft at h
  refine MM_of (by decide) (Nat.le_of_ble_eq_true rfl) rfl (fun p e s m args below meth c ad0 C hr hn => ?_)
  refine G_aload_n C 0 rfl rfl dX11_tryDraft_0 ?_
  refine G_getF C fl_X11_21_10 rfl rfl fn_32_1 dX11_tryDraft_1 ?_
  refine G_aload_n C 0 rfl rfl dX11_tryDraft_4 ?_
  refine G_getF C fl_X11_10_10 rfl rfl fn_32_0 dX11_tryDraft_5 ?_
  refine G_getI C fl_X11_148_1 (Or.inl rfl) ko_33 dX11_tryDraft_8 ?_
  obtain ⟨σ1, hv1, h⟩ := bnd h
  refine G_callV (run_V C [.int (sI σ 33 0)] [] (dX0_open hv1) ml_X0_open mv_X0_open lk_X11_264 ⟨(Nat.le_of_ble_eq_true rfl), (Nat.le_of_ble_eq_true rfl)⟩ ⟨(Nat.le_of_ble_eq_true rfl), (Nat.le_of_ble_eq_true rfl)⟩ vq_0 rfl ko_53 rfl (Nat.le_of_ble_eq_true rfl) dX11_tryDraft_11) ?_
  refine G_iconst C (v := 0) rfl dX11_tryDraft_14 ?_
  refine G_istore_n (L' := [(1, .int (0 : Int32)), (0, .ref 32)]) C rfl (Nat.le_of_ble_eq_true rfl) rfl dX11_tryDraft_15 ?_
  refine G_sub [1, 0] rfl ?_
  exact eX11_tryDraft_16 C hr h
end
