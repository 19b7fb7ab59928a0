def mX7_refuse (p0 : Int32) (σ : Sto) : Option Sto :=
  if (sI σ 67 4) = 0 then (
    stp (wI σ 67 4 p0) fun σ2 =>
    stp (wI σ2 67 5 (sI σ2 67 7)) fun σ3 =>
    some σ3
  ) else (
    some σ
  )
def mX7_next_341 (y1 : Int32) (σ : Sto) : Option Sto :=
  stp (wI σ 67 6 y1) fun σ16 =>
  stp (wI σ16 67 8 ((sI σ16 67 8) + (1 : Int32))) fun σ17 =>
  some σ17
def mX7_next_309 (σ : Sto) : Option Sto :=
  if sK σ (sR σ 67 0) = 100 then
  if inb (sI σ 67 8) (sN σ (sR σ 67 0)) then
  (mS_indexOf (((sI σ (sR σ 67 0) ((sI σ 67 8)).toNatClampNeg)).toUInt32 % 65536).toInt32).bind fun v14 =>
  if v14 < 0 then (
    mX7_next_341 (1 : Int32) σ
  ) else (
    mX7_next_341 (sI σ (sR σ 67 0) ((sI σ 67 8)).toNatClampNeg) σ
  )
  else none
  else none
def mX7_next_283 (f207 : Sto → Option Sto) (y1 : Int32) (σ : Sto) : Option Sto :=
  stp (wI σ 67 9 y1) fun σ28 =>
  stp (wI σ28 67 10 ((sI σ28 67 10) + (1 : Int32))) fun σ29 =>
  stp (wI σ29 67 8 ((sI σ29 67 8) + (1 : Int32))) fun σ30 =>
  f207 σ30
def mX7_next_207B (f207 : Sto → Option Sto) (σ : Sto) : Option Sto :=
  if (sI σ 67 1) ≤ (sI σ 67 8) then (
    some σ
  ) else (
    if sK σ (sR σ 67 0) = 100 then
    if inb (sI σ 67 8) (sN σ (sR σ 67 0)) then
    if (sI σ (sR σ 67 0) ((sI σ 67 8)).toNatClampNeg) < (48 : Int32) then (
      some σ
    ) else (
      if (57 : Int32) < (sI σ (sR σ 67 0) ((sI σ 67 8)).toNatClampNeg) then (
        some σ
      ) else (
        if (8 : Int32) ≤ (sI σ 67 10) then (
          mX7_next_283 f207 (sI σ 67 9) σ
        ) else (
          mX7_next_283 f207 ((((sI σ 67 9) * (10 : Int32)) + (sI σ (sR σ 67 0) ((sI σ 67 8)).toNatClampNeg)) - (48 : Int32)) σ
        )
      )
    )
    else none
    else none
  )
def mX7_next_207 : Nat → Sto → Option Sto
  | 0, _ => none
  | n + 1, σ => mX7_next_207B (mX7_next_207 n)  σ
def mX7_next_174 (σ : Sto) : Option Sto :=
  if sK σ (sR σ 67 0) = 100 then
  if inb (sI σ 67 8) (sN σ (sR σ 67 0)) then
  if (sI σ (sR σ 67 0) ((sI σ 67 8)).toNatClampNeg) < (48 : Int32) then (
    mX7_next_309 σ
  ) else (
    if (57 : Int32) < (sI σ (sR σ 67 0) ((sI σ 67 8)).toNatClampNeg) then (
      mX7_next_309 σ
    ) else (
      stp (wI σ 67 6 (3 : Int32)) fun σ19 =>
      mX7_next_207 FU σ19
    )
  )
  else none
  else none
def mX7_next_122B (f122 : Sto → Option Sto) (σ : Sto) : Option Sto :=
  if (sI σ 67 1) ≤ (sI σ 67 8) then (
    some σ
  ) else (
    if sK σ (sR σ 67 0) = 100 then
    if inb (sI σ 67 8) (sN σ (sR σ 67 0)) then
    if (sI σ (sR σ 67 0) ((sI σ 67 8)).toNatClampNeg) < (97 : Int32) then (
      some σ
    ) else (
      if (122 : Int32) < (sI σ (sR σ 67 0) ((sI σ 67 8)).toNatClampNeg) then (
        some σ
      ) else (
        stp (wI σ 67 8 ((sI σ 67 8) + (1 : Int32))) fun σ40 =>
        f122 σ40
      )
    )
    else none
    else none
  )
def mX7_next_122 : Nat → Sto → Option Sto
  | 0, _ => none
  | n + 1, σ => mX7_next_122B (mX7_next_122 n)  σ
def mX7_next_52 (σ : Sto) : Option Sto :=
  stp (wI σ 67 7 (sI σ 67 8)) fun σ2 =>
  stp (wI σ2 67 9 (0 : Int32)) fun σ3 =>
  stp (wI σ3 67 10 (0 : Int32)) fun σ4 =>
  if (sI σ4 67 8) < (sI σ4 67 1) then (
    if sK σ4 (sR σ4 67 0) = 100 then
    if inb (sI σ4 67 8) (sN σ4 (sR σ4 67 0)) then
    if (sI σ4 (sR σ4 67 0) ((sI σ4 67 8)).toNatClampNeg) < (97 : Int32) then (
      mX7_next_174 σ4
    ) else (
      if (122 : Int32) < (sI σ4 (sR σ4 67 0) ((sI σ4 67 8)).toNatClampNeg) then (
        mX7_next_174 σ4
      ) else (
        stp (wI σ4 67 6 (2 : Int32)) fun σ32 =>
        mX7_next_122 FU σ32
      )
    )
    else none
    else none
  ) else (
    stp (wI σ4 67 6 (0 : Int32)) fun σ43 =>
    some σ43
  )
def mX7_next_39 (f0 : Sto → Option Sto) (σ : Sto) : Option Sto :=
  stp (wI σ 67 8 ((sI σ 67 8) + (1 : Int32))) fun σ47 =>
  f0 σ47
def mX7_next_0B (f0 : Sto → Option Sto) (σ : Sto) : Option Sto :=
  if (sI σ 67 1) ≤ (sI σ 67 8) then (
    mX7_next_52 σ
  ) else (
    if sK σ (sR σ 67 0) = 100 then
    if inb (sI σ 67 8) (sN σ (sR σ 67 0)) then
    if (sI σ (sR σ 67 0) ((sI σ 67 8)).toNatClampNeg) = (32 : Int32) then (
      mX7_next_39 f0 σ
    ) else (
      if (sI σ (sR σ 67 0) ((sI σ 67 8)).toNatClampNeg) = (10 : Int32) then (
        mX7_next_39 f0 σ
      ) else (
        mX7_next_52 σ
      )
    )
    else none
    else none
  )
def mX7_next_0 : Nat → Sto → Option Sto
  | 0, _ => none
  | n + 1, σ => mX7_next_0B (mX7_next_0 n)  σ
def mX7_next (σ : Sto) : Option Sto :=
  mX7_next_0 FU σ
def mX7_takeNumber_51 (x3 : Int32) (σ : Sto) : Option (Int32 × Sto) :=
  (mX7_next σ).bind fun σ4 =>
  some (x3, σ4)
def mX7_takeNumber_46 (x3 : Int32) (σ : Sto) : Option (Int32 × Sto) :=
  (mX7_refuse (2 : Int32) σ).bind fun σ3 =>
  mX7_takeNumber_51 x3 σ3
def mX7_takeNumber (p0 : Int32) (p1 : Int32) (σ : Sto) : Option (Int32 × Sto) :=
  if (sI σ 67 6) = (3 : Int32) then (
    if (8 : Int32) < (sI σ 67 10) then (
      mX7_takeNumber_46 (sI σ 67 9) σ
    ) else (
      if (sI σ 67 9) < p0 then (
        mX7_takeNumber_46 (sI σ 67 9) σ
      ) else (
        if (sI σ 67 9) ≤ p1 then (
          mX7_takeNumber_51 (sI σ 67 9) σ
        ) else (
          mX7_takeNumber_46 (sI σ 67 9) σ
        )
      )
    )
  ) else (
    (mX7_refuse (1 : Int32) σ).bind fun σ7 =>
    mX7_takeNumber_51 (sI σ 67 9) σ7
  )
def mX7_isName_20B (f20 : Nat → Int32 → Int32 → Int32 → Sto → Option Int32) (x1 : Nat) (x2 : Int32) (x3 : Int32) (x4 : Int32) (σ : Sto) : Option Int32 :=
  if x3 ≤ x4 then (
    some (1 : Int32)
  ) else (
    if isT x1 then
    if inb x4 (txLen.getD (x1 - 2) 0) then
    if sK σ (sR σ 67 0) = 100 then
    if inb (((sI σ 67 7) + x4) - x2) (sN σ (sR σ 67 0)) then
    if (tchr x1 x4) = (sI σ (sR σ 67 0) ((((sI σ 67 7) + x4) - x2)).toNatClampNeg) then (
      f20 x1 x2 x3 (x4 + (1 : Int32)) σ
    ) else (
      some (0 : Int32)
    )
    else none
    else none
    else none
    else none
  )
def mX7_isName_20 : Nat → Nat → Int32 → Int32 → Int32 → Sto → Option Int32
  | 0, _, _, _, _, _ => none
  | n + 1, x1, x2, x3, x4, σ => mX7_isName_20B (mX7_isName_20 n) x1 x2 x3 x4 σ
def mX7_isName (p0 : Nat) (p1 : Int32) (p2 : Int32) (σ : Sto) : Option Int32 :=
  if (p2 - p1) = ((sI σ 67 8) - (sI σ 67 7)) then (
    mX7_isName_20 FU p0 p1 p2 p1 σ
  ) else (
    some (0 : Int32)
  )
def mX7_wordAmong_44 (f7 : Nat → Int32 → Int32 → Int32 → Sto → Option Int32) (x1 : Nat) (x2 : Int32) (x3 : Int32) (x4 : Int32) (σ : Sto) : Option Int32 :=
  (mX7_isName x1 x3 x4 σ).bind fun v6 =>
  if v6 = 0 then (
    f7 x1 (x2 + (1 : Int32)) (x4 + (1 : Int32)) (x4 + (1 : Int32)) σ
  ) else (
    some x2
  )
def mX7_wordAmong_7B (f7 : Nat → Int32 → Int32 → Int32 → Sto → Option Int32) (x1 : Nat) (x2 : Int32) (x3 : Int32) (x4 : Int32) (σ : Sto) : Option Int32 :=
  if isT x1 then
  if (tlen x1) < x4 then (
    some (-1 : Int32)
  ) else (
    if (sI σ 67 6) = (2 : Int32) then (
      if x4 = (tlen x1) then (
        mX7_wordAmong_44 f7 x1 x2 x3 x4 σ
      ) else (
        if inb x4 (txLen.getD (x1 - 2) 0) then
        if (tchr x1 x4) = (32 : Int32) then (
          mX7_wordAmong_44 f7 x1 x2 x3 x4 σ
        ) else (
          f7 x1 x2 x3 (x4 + (1 : Int32)) σ
        )
        else none
      )
    ) else (
      some (-1 : Int32)
    )
  )
  else none
def mX7_wordAmong_7 : Nat → Nat → Int32 → Int32 → Int32 → Sto → Option Int32
  | 0, _, _, _, _, _ => none
  | n + 1, x1, x2, x3, x4, σ => mX7_wordAmong_7B (mX7_wordAmong_7 n) x1 x2 x3 x4 σ
def mX7_wordAmong (p0 : Nat) (σ : Sto) : Option Int32 :=
  mX7_wordAmong_7 FU p0 (0 : Int32) (0 : Int32) (0 : Int32) σ
def mX7_takeSign_13 (σ : Sto) : Option Sto :=
  (mX7_next σ).bind fun σ2 =>
  some σ2
def mX7_takeSign (p0 : Int32) (σ : Sto) : Option Sto :=
  if (sI σ 67 6) = p0 then (
    mX7_takeSign_13 σ
  ) else (
    (mX7_refuse (1 : Int32) σ).bind fun σ3 =>
    mX7_takeSign_13 σ3
  )
def mX7_isWord (p0 : Nat) (σ : Sto) : Option Int32 :=
  (mX7_wordAmong p0 σ).bind fun v1 =>
  if v1 = 0 then (
    some (1 : Int32)
  ) else (
    some (0 : Int32)
  )
def mX7_readPart_50 (fE : Int32 → Sto → Option Sto) (x2 : Int32) (σ : Sto) : Option Sto :=
  if sK σ (sR σ 67 3) = 5 then
  (mX4_addDue (sR σ 67 3) ((-1 : Int32) - x2) σ).bind fun σ9 =>
  (mX7_next σ9).bind fun σ11 =>
  some σ11
  else none
def mX7_readPart (fE : Int32 → Sto → Option Sto) (p0 : Int32) (σ : Sto) : Option Sto :=
  if (sI σ 67 6) = (3 : Int32) then (
    bd2 (mX7_takeNumber (0 : Int32) (99999999 : Int32) σ) fun v13 σ13 =>
    if sK σ13 (sR σ 67 3) = 5 then
    (mX4_addDue (sR σ 67 3) v13 σ13).bind fun σ14 =>
    some σ14
    else none
  ) else (
    if (sI σ 67 6) = (2 : Int32) then (
      (mX7_wordAmong 5 σ).bind fun v7 =>
      if v7 = (-1 : Int32) then (
        (mX7_refuse (3 : Int32) σ).bind fun σ12 =>
        mX7_readPart_50 fE v7 σ12
      ) else (
        mX7_readPart_50 fE v7 σ
      )
    ) else (
      (mX7_takeSign (40 : Int32) σ).bind fun σ3 =>
      if (sI σ3 67 4) = 0 then (
        (fE (p0 + (1 : Int32)) σ3).bind fun σ5 =>
        (mX7_takeSign (41 : Int32) σ5).bind fun σ6 =>
        some σ6
      ) else (
        some σ3
      )
    )
  )
def mX7_readProduct_56 (fE : Int32 → Sto → Option Sto) (f7 : Int32 → Int32 → Sto → Option Sto) (x1 : Int32) (x2 : Int32) (y0 : Int32) (σ : Sto) : Option Sto :=
  (mX7_next σ).bind fun σ6 =>
  (mX7_readPart fE x1 σ6).bind fun σ7 =>
  if sK σ7 (sR σ7 67 3) = 5 then
  (mX4_addDue (sR σ7 67 3) y0 σ7).bind fun σ8 =>
  f7 x1 (x2 + (1 : Int32)) σ8
  else none
def mX7_readProduct_40 (fE : Int32 → Sto → Option Sto) (f7 : Int32 → Int32 → Sto → Option Sto) (x1 : Int32) (x2 : Int32) (σ : Sto) : Option Sto :=
  if (sI σ 67 6) = (42 : Int32) then (
    mX7_readProduct_56 fE f7 x1 x2 (-18 : Int32) σ
  ) else (
    mX7_readProduct_56 fE f7 x1 x2 (-19 : Int32) σ
  )
def mX7_readProduct_7B (fE : Int32 → Sto → Option Sto) (f7 : Int32 → Int32 → Sto → Option Sto) (x1 : Int32) (x2 : Int32) (σ : Sto) : Option Sto :=
  if (sI σ 67 1) ≤ x2 then (
    some σ
  ) else (
    if (sI σ 67 4) = 0 then (
      if (sI σ 67 6) = (42 : Int32) then (
        mX7_readProduct_40 fE f7 x1 x2 σ
      ) else (
        if (sI σ 67 6) = (47 : Int32) then (
          mX7_readProduct_40 fE f7 x1 x2 σ
        ) else (
          some σ
        )
      )
    ) else (
      some σ
    )
  )
def mX7_readProduct_7 (fE : Int32 → Sto → Option Sto) : Nat → Int32 → Int32 → Sto → Option Sto
  | 0, _, _, _ => none
  | n + 1, x1, x2, σ => mX7_readProduct_7B fE (mX7_readProduct_7 fE n) x1 x2 σ
def mX7_readProduct (fE : Int32 → Sto → Option Sto) (p0 : Int32) (σ : Sto) : Option Sto :=
  (mX7_readPart fE p0 σ).bind fun σ1 =>
  mX7_readProduct_7 fE FU p0 (0 : Int32) σ1
def mX7_readSum_56 (fE : Int32 → Sto → Option Sto) (f7 : Int32 → Int32 → Sto → Option Sto) (x1 : Int32) (x2 : Int32) (y0 : Int32) (σ : Sto) : Option Sto :=
  (mX7_next σ).bind fun σ6 =>
  (mX7_readProduct fE x1 σ6).bind fun σ7 =>
  if sK σ7 (sR σ7 67 3) = 5 then
  (mX4_addDue (sR σ7 67 3) y0 σ7).bind fun σ8 =>
  f7 x1 (x2 + (1 : Int32)) σ8
  else none
def mX7_readSum_40 (fE : Int32 → Sto → Option Sto) (f7 : Int32 → Int32 → Sto → Option Sto) (x1 : Int32) (x2 : Int32) (σ : Sto) : Option Sto :=
  if (sI σ 67 6) = (43 : Int32) then (
    mX7_readSum_56 fE f7 x1 x2 (-16 : Int32) σ
  ) else (
    mX7_readSum_56 fE f7 x1 x2 (-17 : Int32) σ
  )
def mX7_readSum_7B (fE : Int32 → Sto → Option Sto) (f7 : Int32 → Int32 → Sto → Option Sto) (x1 : Int32) (x2 : Int32) (σ : Sto) : Option Sto :=
  if (sI σ 67 1) ≤ x2 then (
    some σ
  ) else (
    if (sI σ 67 4) = 0 then (
      if (sI σ 67 6) = (43 : Int32) then (
        mX7_readSum_40 fE f7 x1 x2 σ
      ) else (
        if (sI σ 67 6) = (45 : Int32) then (
          mX7_readSum_40 fE f7 x1 x2 σ
        ) else (
          some σ
        )
      )
    ) else (
      some σ
    )
  )
def mX7_readSum_7 (fE : Int32 → Sto → Option Sto) : Nat → Int32 → Int32 → Sto → Option Sto
  | 0, _, _, _ => none
  | n + 1, x1, x2, σ => mX7_readSum_7B fE (mX7_readSum_7 fE n) x1 x2 σ
def mX7_readSum (fE : Int32 → Sto → Option Sto) (p0 : Int32) (σ : Sto) : Option Sto :=
  (mX7_readProduct fE p0 σ).bind fun σ1 =>
  mX7_readSum_7 fE FU p0 (0 : Int32) σ1
def mX7_readNot_108B (fE : Int32 → Sto → Option Sto) (f108 : Int32 → Int32 → Sto → Option Sto) (x2 : Int32) (x3 : Int32) (σ : Sto) : Option Sto :=
  if x2 ≤ x3 then (
    some σ
  ) else (
    if sK σ (sR σ 67 3) = 5 then
    (mX4_addDue (sR σ 67 3) (-13 : Int32) σ).bind fun σ7 =>
    f108 x2 (x3 + (1 : Int32)) σ7
    else none
  )
def mX7_readNot_108 (fE : Int32 → Sto → Option Sto) : Nat → Int32 → Int32 → Sto → Option Sto
  | 0, _, _, _ => none
  | n + 1, x2, x3, σ => mX7_readNot_108B fE (mX7_readNot_108 fE n) x2 x3 σ
def mX7_readNot_88 (fE : Int32 → Sto → Option Sto) (x1 : Int32) (x2 : Int32) (y0 : Int32) (σ : Sto) : Option Sto :=
  (mX7_next σ).bind fun σ11 =>
  (mX7_readSum fE x1 σ11).bind fun σ12 =>
  if sK σ12 (sR σ12 67 3) = 5 then
  (mX4_addDue (sR σ12 67 3) y0 σ12).bind fun σ13 =>
  mX7_readNot_108 fE FU x2 (0 : Int32) σ13
  else none
def mX7_readNot_72 (fE : Int32 → Sto → Option Sto) (x1 : Int32) (x2 : Int32) (σ : Sto) : Option Sto :=
  if (sI σ 67 6) = (60 : Int32) then (
    mX7_readNot_88 fE x1 x2 (-14 : Int32) σ
  ) else (
    mX7_readNot_88 fE x1 x2 (-15 : Int32) σ
  )
def mX7_readNot_27 (fE : Int32 → Sto → Option Sto) (x1 : Int32) (x2 : Int32) (σ : Sto) : Option Sto :=
  (mX7_isWord 4 σ).bind fun v2 =>
  if v2 = 0 then (
    (mX7_readSum fE x1 σ).bind fun σ4 =>
    if (sI σ4 67 4) = 0 then (
      if (sI σ4 67 6) = (60 : Int32) then (
        mX7_readNot_72 fE x1 x2 σ4
      ) else (
        if (sI σ4 67 6) = (61 : Int32) then (
          mX7_readNot_72 fE x1 x2 σ4
        ) else (
          mX7_readNot_108 fE FU x2 (0 : Int32) σ4
        )
      )
    ) else (
      mX7_readNot_108 fE FU x2 (0 : Int32) σ4
    )
  ) else (
    (mX7_refuse (2 : Int32) σ).bind fun σ16 =>
    some σ16
  )
def mX7_readNot_2B (fE : Int32 → Sto → Option Sto) (f2 : Int32 → Int32 → Sto → Option Sto) (x1 : Int32) (x2 : Int32) (σ : Sto) : Option Sto :=
  if (6 : Int32) ≤ x2 then (
    mX7_readNot_27 fE x1 x2 σ
  ) else (
    (mX7_isWord 4 σ).bind fun v17 =>
    if v17 = 0 then (
      mX7_readNot_27 fE x1 x2 σ
    ) else (
      (mX7_next σ).bind fun σ19 =>
      f2 x1 (x2 + (1 : Int32)) σ19
    )
  )
def mX7_readNot_2 (fE : Int32 → Sto → Option Sto) : Nat → Int32 → Int32 → Sto → Option Sto
  | 0, _, _, _ => none
  | n + 1, x1, x2, σ => mX7_readNot_2B fE (mX7_readNot_2 fE n) x1 x2 σ
def mX7_readNot (fE : Int32 → Sto → Option Sto) (p0 : Int32) (σ : Sto) : Option Sto :=
  mX7_readNot_2 fE FU p0 (0 : Int32) σ
def mX7_readAnd_7B (fE : Int32 → Sto → Option Sto) (f7 : Int32 → Int32 → Sto → Option Sto) (x1 : Int32) (x2 : Int32) (σ : Sto) : Option Sto :=
  if (sI σ 67 1) ≤ x2 then (
    some σ
  ) else (
    if (sI σ 67 4) = 0 then (
      (mX7_isWord 6 σ).bind fun v4 =>
      if v4 = 0 then (
        some σ
      ) else (
        (mX7_next σ).bind fun σ6 =>
        (mX7_readNot fE x1 σ6).bind fun σ7 =>
        if sK σ7 (sR σ7 67 3) = 5 then
        (mX4_addDue (sR σ7 67 3) (-12 : Int32) σ7).bind fun σ8 =>
        f7 x1 (x2 + (1 : Int32)) σ8
        else none
      )
    ) else (
      some σ
    )
  )
def mX7_readAnd_7 (fE : Int32 → Sto → Option Sto) : Nat → Int32 → Int32 → Sto → Option Sto
  | 0, _, _, _ => none
  | n + 1, x1, x2, σ => mX7_readAnd_7B fE (mX7_readAnd_7 fE n) x1 x2 σ
def mX7_readAnd (fE : Int32 → Sto → Option Sto) (p0 : Int32) (σ : Sto) : Option Sto :=
  (mX7_readNot fE p0 σ).bind fun σ1 =>
  mX7_readAnd_7 fE FU p0 (0 : Int32) σ1
def mX7_readExprO_44B (fE : Int32 → Sto → Option Sto) (f44 : Int32 → Int32 → Sto → Option Sto) (x1 : Int32) (x2 : Int32) (σ : Sto) : Option Sto :=
  if (sI σ 67 1) ≤ x2 then (
    some σ
  ) else (
    if (sI σ 67 4) = 0 then (
      (mX7_isWord 7 σ).bind fun v5 =>
      if v5 = 0 then (
        some σ
      ) else (
        (mX7_next σ).bind fun σ7 =>
        (mX7_readAnd fE x1 σ7).bind fun σ8 =>
        if sK σ8 (sR σ8 67 3) = 5 then
        (mX4_addDue (sR σ8 67 3) (-11 : Int32) σ8).bind fun σ9 =>
        f44 x1 (x2 + (1 : Int32)) σ9
        else none
      )
    ) else (
      some σ
    )
  )
def mX7_readExprO_44 (fE : Int32 → Sto → Option Sto) : Nat → Int32 → Int32 → Sto → Option Sto
  | 0, _, _, _ => none
  | n + 1, x1, x2, σ => mX7_readExprO_44B fE (mX7_readExprO_44 fE n) x1 x2 σ
def mX7_readExprO_37 (fE : Int32 → Sto → Option Sto) (x1 : Int32) (σ : Sto) : Option Sto :=
  (mX7_readAnd fE x1 σ).bind fun σ2 =>
  mX7_readExprO_44 fE FU x1 (0 : Int32) σ2
def mX7_readExprO_31 (fE : Int32 → Sto → Option Sto) (σ : Sto) : Option Sto :=
  (mX7_refuse (2 : Int32) σ).bind fun σ12 =>
  some σ12
def mX7_readExprO (fE : Int32 → Sto → Option Sto) (p0 : Int32) (σ : Sto) : Option Sto :=
  if p0 < (6 : Int32) then (
    mX7_readExprO_37 fE p0 σ
  ) else (
    if (sI σ 67 6) = (3 : Int32) then (
      mX7_readExprO_31 fE σ
    ) else (
      if (sI σ 67 6) = (2 : Int32) then (
        mX7_readExprO_31 fE σ
      ) else (
        if (sI σ 67 6) = (40 : Int32) then (
          mX7_readExprO_31 fE σ
        ) else (
          mX7_readExprO_37 fE p0 σ
        )
      )
    )
  )
def mX7_readExpr : Nat → Int32 → Sto → Option Sto
  | 0, _, _ => none
  | n + 1, x, σ => mX7_readExprO (mX7_readExpr n) x σ
def mX7_init (a0 : Nat) (σ : Sto) : Option Sto :=
  stp (nwK σ (100 + 0) 0) fun σ1 =>
  if sK σ1 a0 = 8 then
  stp (wR σ1 a0 0 (sZ σ)) fun σ5 =>
  stp (wI σ5 a0 1 (0 : Int32)) fun σ9 =>
  stp (wI σ9 a0 2 (0 : Int32)) fun σ13 =>
  stp (nwK σ13 (4 + 1) 0) fun σ17 =>
  (mX4_init (sZ σ13) σ17).bind fun σ19 =>
  if sK σ19 a0 = 8 then
  stp (wR σ19 a0 3 (sZ σ13)) fun σ21 =>
  stp (wI σ21 a0 4 (0 : Int32)) fun σ23 =>
  stp (wI σ23 a0 5 (-1 : Int32)) fun σ25 =>
  stp (wI σ25 a0 6 (0 : Int32)) fun σ27 =>
  stp (wI σ27 a0 7 (0 : Int32)) fun σ29 =>
  stp (wI σ29 a0 8 (0 : Int32)) fun σ31 =>
  stp (wI σ31 a0 9 (0 : Int32)) fun σ33 =>
  stp (wI σ33 a0 10 (0 : Int32)) fun σ35 =>
  some σ35
  else none
  else none
def mX7_readSetting_156 (σ : Sto) : Option Sto :=
  bd2 (mX7_takeNumber (0 : Int32) (99999999 : Int32) σ) fun v27 σ27 =>
  if sK σ27 (sR σ 67 3) = 5 then
  (mX4_agreeWith (sR σ 67 3) v27 σ27).bind fun σ28 =>
  some σ28
  else none
def mX7_readSetting (p0 : Int32) (σ : Sto) : Option Sto :=
  if p0 = (2 : Int32) then (
    bd2 (mX7_takeNumber (0 : Int32) (10000 : Int32) σ) fun v2 σ2 =>
    if sK σ2 (sR σ 67 3) = 5 then
    stp (wI σ2 (sR σ 67 3) 7 v2) fun σ4 =>
    some σ4
    else none
  ) else
  if p0 = (3 : Int32) then (
    bd2 (mX7_takeNumber (0 : Int32) (99999999 : Int32) σ) fun v7 σ7 =>
    if sK σ7 (sR σ 67 3) = 5 then
    stp (wI σ7 (sR σ 67 3) 8 v7) fun σ9 =>
    some σ9
    else none
  ) else
  if p0 = (4 : Int32) then (
    bd2 (mX7_takeNumber (0 : Int32) (99999999 : Int32) σ) fun v12 σ12 =>
    if sK σ12 (sR σ 67 3) = 5 then
    stp (wI σ12 (sR σ 67 3) 9 v12) fun σ14 =>
    some σ14
    else none
  ) else
  if p0 = (5 : Int32) then (
    bd2 (mX7_takeNumber (0 : Int32) (200 : Int32) σ) fun v17 σ17 =>
    if sK σ17 (sR σ 67 3) = 5 then
    stp (wI σ17 (sR σ 67 3) 10 v17) fun σ19 =>
    some σ19
    else none
  ) else
  if p0 = (6 : Int32) then (
    bd2 (mX7_takeNumber (0 : Int32) (99999999 : Int32) σ) fun v22 σ22 =>
    if sK σ22 (sR σ 67 3) = 5 then
    stp (wI σ22 (sR σ 67 3) 11 v22) fun σ24 =>
    some σ24
    else none
  ) else
  (
  if (sI σ 67 6) = (3 : Int32) then (
    if (8 : Int32) < (sI σ 67 10) then (
      mX7_readSetting_156 σ
    ) else (
      if (sI σ 67 9) < (sI σ 67 2) then (
        mX7_readSetting_156 σ
      ) else (
        (mX7_refuse (4 : Int32) σ).bind fun σ32 =>
        mX7_readSetting_156 σ32
      )
    )
  ) else (
    mX7_readSetting_156 σ
  )
  )
def mX7_readClause_98 (σ : Sto) : Option Sto :=
  (mX7_takeSign (59 : Int32) σ).bind fun σ8 =>
  some σ8
def mX7_readClause (p0 : Int32) (σ : Sto) : Option Sto :=
  (mX7_wordAmong 3 σ).bind fun v1 =>
  if v1 = (-1 : Int32) then (
    (mX7_refuse (1 : Int32) σ).bind fun σ19 =>
    some σ19
  ) else (
    if p0 < (16 : Int32) then (
      (mX7_next σ).bind fun σ4 =>
      if v1 = 0 then (
        if sK σ4 (sR σ4 67 3) = 5 then
        (mX4_startDue (sR σ4 67 3) σ4).bind fun σ15 =>
        (mX7_readExpr 8 (0 : Int32) σ15).bind fun σ17 =>
        mX7_readClause_98 σ17
        else none
      ) else (
        if v1 = (1 : Int32) then (
          if sK σ4 (sR σ4 67 3) = 5 then
          (mX4_lastStep (sR σ4 67 3) σ4).bind fun v9 =>
          bd2 (mX7_takeNumber (v9 + (1 : Int32)) (99999999 : Int32) σ4) fun v11 σ11 =>
          bd2 (mX7_takeNumber (0 : Int32) (10000 : Int32) σ11) fun v12 σ12 =>
          if sK σ12 (sR σ11 67 3) = 5 then
          (mX4_addStep (sR σ11 67 3) v11 v12 σ12).bind fun σ13 =>
          mX7_readClause_98 σ13
          else none
          else none
        ) else (
          (mX7_readSetting v1 σ4).bind fun σ7 =>
          mX7_readClause_98 σ7
        )
      )
    ) else (
      (mX7_refuse (2 : Int32) σ).bind fun σ18 =>
      some σ18
    )
  )
def mX7_read_55B (f55 : Int32 → Sto → Option (Int32 × Sto)) (x5 : Int32) (σ : Sto) : Option (Int32 × Sto) :=
  if (16 : Int32) < x5 then (
    some ((sI σ 67 4), σ)
  ) else (
    if (sI σ 67 4) = 0 then (
      if (sI σ 67 6) = 0 then (
        some ((sI σ 67 4), σ)
      ) else (
        (mX7_readClause x5 σ).bind fun σ21 =>
        f55 (x5 + (1 : Int32)) σ21
      )
    ) else (
      some ((sI σ 67 4), σ)
    )
  )
def mX7_read_55 : Nat → Int32 → Sto → Option (Int32 × Sto)
  | 0, _, _ => none
  | n + 1, x5, σ => mX7_read_55B (mX7_read_55 n) x5 σ
def mX7_read (p0 : Nat) (p1 : Int32) (p2 : Int32) (p3 : Nat) (σ : Sto) : Option (Int32 × Sto) :=
  stp (wR σ 67 0 p0) fun σ1 =>
  if sK σ1 p0 = 100 then
  stp (wI σ1 67 1 (if (Int32.ofNat (sN σ1 p0)) < p1 then (Int32.ofNat (sN σ1 p0)) else p1)) fun σ3 =>
  stp (wI σ3 67 2 p2) fun σ6 =>
  stp (wR σ6 67 3 p3) fun σ9 =>
  if sK σ9 (sR σ9 67 3) = 5 then
  (mX4_blank (sR σ9 67 3) σ9).bind fun σ12 =>
  stp (wI σ12 67 4 (0 : Int32)) fun σ14 =>
  stp (wI σ14 67 5 (-1 : Int32)) fun σ15 =>
  stp (wI σ15 67 8 (0 : Int32)) fun σ16 =>
  (mX7_next σ16).bind fun σ17 =>
  mX7_read_55 FU (0 : Int32) σ17
  else none
  else none
def mX11_readTape_17 (σ : Sto) : Option (Nat ⊕ (Int32 × Sto)) :=
  some (.inl 1)
def mX11_readTape (p0 : Int32) (p1 : Int32) (p2 : Int32) (p3 : Int32) (σ : Sto) : Option (Nat ⊕ (Int32 × Sto)) :=
  bdp (mX11_needLand p0 σ) fun u1 =>
  if p1 < 0 then (
    mX11_readTape_17 σ
  ) else (
    if p1 ≤ (sI σ 32 5) then (
      stp (wI σ 32 5 (0 : Int32)) fun σ4 =>
      stp (wI σ4 32 6 (-1 : Int32)) fun σ5 =>
      if p3 = 0 then (
        some (.inr ((9 : Int32), σ5))
      ) else (
        if (mX11_isDay p2 σ5) = 0 then (
          some (.inr ((9 : Int32), σ5))
        ) else (
          bd2 (mX7_read 74 p1 (sI σ5 33 1) (sR σ5 32 7) σ5) fun v9 σ9 =>
          stp (wI σ9 32 6 (sI σ9 67 5)) fun σ10 =>
          if sK σ10 (sR σ10 32 7) = 5 then
          stp (wI σ10 (sR σ10 32 7) 2 p0) fun σ12 =>
          if sK σ12 (sR σ12 32 7) = 5 then
          stp (wI σ12 (sR σ12 32 7) 3 p2) fun σ15 =>
          some (.inr (v9, σ15))
          else none
          else none
        )
      )
    ) else (
      mX11_readTape_17 σ
    )
  )
def mX11_attempt (p0 : Int32) (p1 : Int32) (p2 : Int32) (σ : Sto) : Option (Nat ⊕ (Int32 × Sto)) :=
  bdx (mX11_readTape p0 p1 p2 (1 : Int32) σ) fun v1 σ1 =>
  if v1 = 0 then (
    (mX11_tryDraft σ1).bind fun σ3 =>
    some (.inr (v1, σ3))
  ) else (
    some (.inr (v1, σ1))
  )
def mX11_law_21 (y1 : Int32) (y2 : Int32) (y3 : Int32) (y4 : Int32) (σ : Sto) : Option (Nat ⊕ (Int32 × Sto)) :=
  bdx (mX11_readTape y1 y2 y3 y4 σ) fun v2 σ2 =>
  if v2 = (9 : Int32) then (
    some (.inr ((-9 : Int32), σ2))
  ) else (
    if v2 = 0 then (
      if sK σ2 (sR σ2 32 7) = 5 then
      stp (wI σ2 (sR σ2 32 7) 0 (sI σ2 33 0)) fun σ6 =>
      if inb (sI σ6 33 15) 13 then
      if sK σ6 (sR σ6 32 7) = 5 then
      stp (wR σ6 40 ((sI σ6 33 15)).toNatClampNeg (sR σ6 32 7)) fun σ10 =>
      stp (wI σ10 33 15 ((sI σ10 33 15) + (1 : Int32))) fun σ13 =>
      stp (nwK σ13 (4 + 1) 0) fun σ16 =>
      (mX4_init (sZ σ13) σ16).bind fun σ18 =>
      stp (wR σ18 32 7 (sZ σ13)) fun σ19 =>
      some (.inr (((sI σ19 33 15) - (1 : Int32)), σ19))
      else none
      else none
      else none
    ) else (
      some (.inr (((-1 : Int32) - v2), σ2))
    )
  )
def mX11_law (p0 : Int32) (p1 : Int32) (p2 : Int32) (σ : Sto) : Option (Nat ⊕ (Int32 × Sto)) :=
  if (12 : Int32) ≤ (sI σ 33 15) then (
    mX11_law_21 p0 p1 p2 (0 : Int32) σ
  ) else (
    mX11_law_21 p0 p1 p2 (1 : Int32) σ
  )
def mX11_init (a0 : Nat) (σ : Sto) : Option Sto :=
  stp (nwK σ (1 + 1) 0) fun σ1 =>
  (mX1_init (sZ σ) σ1).bind fun σ3 =>
  if sK σ3 a0 = 11 then
  stp (wR σ3 a0 0 (sZ σ)) fun σ5 =>
  stp (nwK σ5 (0 + 1) 0) fun σ7 =>
  if sK σ7 a0 = 11 then
  (mX0_init (sZ σ5) (sR σ7 a0 0) σ7).bind fun σ10 =>
  if sK σ10 a0 = 11 then
  stp (wR σ10 a0 1 (sZ σ5)) fun σ12 =>
  stp (nwK σ12 (2 + 1) 0) fun σ14 =>
  if sK σ14 a0 = 11 then
  (mX2_init (sZ σ12) (sR σ14 a0 0) (sR σ14 a0 1) σ14).bind fun σ17 =>
  if sK σ17 a0 = 11 then
  stp (wR σ17 a0 2 (sZ σ12)) fun σ19 =>
  stp (nwK σ19 (7 + 1) 0) fun σ21 =>
  (mX7_init (sZ σ19) σ21).bind fun σ23 =>
  if sK σ23 a0 = 11 then
  stp (wR σ23 a0 3 (sZ σ19)) fun σ25 =>
  stp (nwK σ25 (100 + 0) 500) fun σ27 =>
  if sK σ27 a0 = 11 then
  stp (wR σ27 a0 4 (sZ σ25)) fun σ31 =>
  stp (wI σ31 a0 5 (0 : Int32)) fun σ35 =>
  stp (wI σ35 a0 6 (-1 : Int32)) fun σ39 =>
  stp (nwK σ39 (4 + 1) 0) fun σ43 =>
  (mX4_init (sZ σ39) σ43).bind fun σ45 =>
  if sK σ45 a0 = 11 then
  stp (wR σ45 a0 7 (sZ σ39)) fun σ47 =>
  stp (nwK σ47 (100 + 1) 30) fun σ49 =>
  if sK σ49 a0 = 11 then
  stp (wR σ49 a0 8 (sZ σ47)) fun σ53 =>
  some σ53
  else none
  else none
  else none
  else none
  else none
  else none
  else none
  else none
  else none
section
variable {p : Program} {l : Launch} {e : Env} {s : State} {m : MethodId} {args : Array Value} {below : List Frame} {meth : Method} {c : Code} {E : Ev} {ad0 : Nat → Nat} {st : Bool}
set_option maxRecDepth 100000 in
set_option maxHeartbeats 4000000 in
theorem dX7_refuse {σ : Sto} {p0 : Int32} {r2 : Sto} (h : mX7_refuse p0 σ = some r2) : MM l yX7_refuse cX7_refuse 2 none 1 0 0 E true σ [.ref 67, .int p0] (QV E true σ r2) := by
  unfold mX7_refuse at h
  refine MM_of (by decide) (Nat.le_of_ble_eq_true rfl) rfl (fun p e s m args below meth c ad0 C hr hn => ?_)
  refine G_aload_n C 0 rfl rfl dX7_refuse_0 ?_
  refine G_getI C fl_X7_29_7 (Or.inl rfl) ko_67 dX7_refuse_1 ?_
  refine G_if_ne (tgt := 20) C rfl dX7_refuse_4 (fun hc1 => ?_) (fun hc1 => ?_)
  · replace h := (if_neg hc1).symm.trans h
    obtain rfl := Option.some.inj h
    exact G_vret C hr (Nat.le_of_ble_eq_true rfl) (Nat.le_of_ble_eq_true rfl) dX7_refuse_20
  · replace h := (if_pos hc1).symm.trans h
    refine G_aload_n C 0 rfl rfl dX7_refuse_7 ?_
    refine G_iload_n C 1 rfl rfl dX7_refuse_8 ?_
    obtain ⟨σ2, hs2, h⟩ := stp_elim h
    refine G_putI C fl_X7_29_7 fp_X7_7_4 (Or.inl rfl) (Or.inl rfl) ko_67 dX7_refuse_9 ?_
    rw [← hs2]
    refine G_aload_n C 0 rfl rfl dX7_refuse_12 ?_
    refine G_aload_n C 0 rfl rfl dX7_refuse_13 ?_
    refine G_getI C fl_X7_38_7 (Or.inl rfl) ko_67 dX7_refuse_14 ?_
    obtain ⟨σ3, hs3, h⟩ := stp_elim h
    refine G_putI C fl_X7_32_7 fp_X7_7_5 (Or.inl rfl) (Or.inl rfl) ko_67 dX7_refuse_17 ?_
    rw [← hs3]
    obtain rfl := Option.some.inj h
    exact G_vret C hr (Nat.le_of_ble_eq_true rfl) (Nat.le_of_ble_eq_true rfl) dX7_refuse_20
set_option maxRecDepth 100000 in
set_option maxHeartbeats 4000000 in
theorem eX7_next_341 (C : Cx E p s m args meth c cX7_next 1 RX7) (hr : meth.sig.returnType = none) {σ0 : Sto} {r2 : Sto} {σ : Sto} {y1 : Int32} (h : mX7_next_341 y1 σ = some r2) : G p l e (rmd 8 0 0) s m args below meth c E true (sZ σ0) ad0 (MQ below (QV E true σ0 r2 ad0) args s 0 0 (AE E)) 1 0 0 σ 341 [(0, .ref 67)] [.int y1, .ref 67] := by
  unfold mX7_next_341 at h
  obtain ⟨σ16, hs16, h⟩ := stp_elim h
  refine G_putI C fl_X7_35_7 fp_X7_7_6 (Or.inl rfl) (Or.inl rfl) ko_67 dX7_next_341 ?_
  rw [← hs16]
  refine G_aload_n C 0 rfl rfl dX7_next_344 ?_
  refine G_dup C rfl dX7_next_345 ?_
  refine G_getI C fl_X7_41_7 (Or.inl rfl) ko_67 dX7_next_346 ?_
  refine G_iconst C (v := 1) rfl dX7_next_349 ?_
  refine G_iadd C dX7_next_350 ?_
  obtain ⟨σ17, hs17, h⟩ := stp_elim h
  refine G_putI C fl_X7_41_7 fp_X7_7_8 (Or.inl rfl) (Or.inl rfl) ko_67 dX7_next_351 ?_
  rw [← hs17]
  obtain rfl := Option.some.inj h
  exact G_vret C hr (Nat.le_of_ble_eq_true rfl) (Nat.le_of_ble_eq_true rfl) dX7_next_354
set_option maxRecDepth 100000 in
set_option maxHeartbeats 4000000 in
theorem eX7_next_309 (C : Cx E p s m args meth c cX7_next 1 RX7) (hr : meth.sig.returnType = none) {σ0 : Sto} {r2 : Sto} {σ : Sto} (h : mX7_next_309 σ = some r2) : G p l e (rmd 8 0 0) s m args below meth c E true (sZ σ0) ad0 (MQ below (QV E true σ0 r2 ad0) args s 0 0 (AE E)) 1 0 0 σ 309 [(0, .ref 67)] [] := by
  unfold mX7_next_309 at h
  refine G_aload_n C 0 rfl rfl dX7_next_309 ?_
  refine G_ldcS (k := 0) C rfl (by decide) (List.mem_of_getElem? (l := rtx) (i := 0) rfl) dX7_next_310 ?_
  refine G_aload_n C 0 rfl rfl dX7_next_312 ?_
  refine G_getR C fl_X7_9_7 rfl ko_67 dX7_next_313 ?_
  refine G_aload_n C 0 rfl rfl dX7_next_316 ?_
  refine G_getI C fl_X7_41_7 (Or.inl rfl) ko_67 dX7_next_317 ?_
  obtain ⟨hc12, h⟩ := ifn h
  obtain ⟨hc13, h⟩ := ifn h
  refine G_iaload C (KD.nz hc12 rfl) hc13 dX7_next_320 ?_
  refine G_i2c C dX7_next_321 ?_
  obtain ⟨v14, hv14, h⟩ := bnd h
  refine G_callI (run_T (k := 0) C [.int (((sI σ (sR σ 67 0) ((sI σ 67 8)).toNatClampNeg)).toUInt32 % 65536).toInt32] [.ref 67] (dS_indexOf hv14) ml_J0_indexOf_0f7a4 mv_J0_indexOf_0f7a4 lk_X7_68 ⟨(Nat.le_of_ble_eq_true rfl), (Nat.le_of_ble_eq_true rfl)⟩ ⟨(Nat.le_of_ble_eq_true rfl), (Nat.le_of_ble_eq_true rfl)⟩ (by decide) rfl rfl (Nat.le_of_ble_eq_true rfl) dX7_next_322) ?_
  refine G_if_lt (tgt := 340) C rfl dX7_next_325 (fun hc15 => ?_) (fun hc15 => ?_)
  · replace h := (if_pos hc15).symm.trans h
    refine G_iconst C (v := 1) rfl dX7_next_340 ?_
    exact eX7_next_341 C hr h
  · replace h := (if_neg hc15).symm.trans h
    refine G_aload_n C 0 rfl rfl dX7_next_328 ?_
    refine G_getR C fl_X7_9_7 rfl ko_67 dX7_next_329 ?_
    refine G_aload_n C 0 rfl rfl dX7_next_332 ?_
    refine G_getI C fl_X7_41_7 (Or.inl rfl) ko_67 dX7_next_333 ?_
    refine G_iaload C (KD.nz hc12 rfl) hc13 dX7_next_336 ?_
    refine G_goto (tgt := 341) C rfl dX7_next_337 ?_
    exact eX7_next_341 C hr h
set_option maxRecDepth 100000 in
set_option maxHeartbeats 4000000 in
theorem eX7_next_283 (C : Cx E p s m args meth c cX7_next 1 RX7) (hr : meth.sig.returnType = none) {σ0 : Sto} {r2 : Sto} {σ : Sto} {f207 : Sto → Option Sto} {y1 : Int32} (hf207 : ∀ (σ' : Sto), f207 σ' = some r2 → G p l e (rmd 8 0 0) s m args below meth c E true (sZ σ0) ad0 (MQ below (QV E true σ0 r2 ad0) args s 0 0 (AE E)) 1 0 0 σ' 207 [(0, .ref 67)] []) (h : mX7_next_283 f207 y1 σ = some r2) : G p l e (rmd 8 0 0) s m args below meth c E true (sZ σ0) ad0 (MQ below (QV E true σ0 r2 ad0) args s 0 0 (AE E)) 1 0 0 σ 283 [(0, .ref 67)] [.int y1, .ref 67] := by
  unfold mX7_next_283 at h
  obtain ⟨σ28, hs28, h⟩ := stp_elim h
  refine G_putI C fl_X7_44_7 fp_X7_7_9 (Or.inl rfl) (Or.inl rfl) ko_67 dX7_next_283 ?_
  rw [← hs28]
  refine G_aload_n C 0 rfl rfl dX7_next_286 ?_
  refine G_dup C rfl dX7_next_287 ?_
  refine G_getI C fl_X7_47_7 (Or.inl rfl) ko_67 dX7_next_288 ?_
  refine G_iconst C (v := 1) rfl dX7_next_291 ?_
  refine G_iadd C dX7_next_292 ?_
  obtain ⟨σ29, hs29, h⟩ := stp_elim h
  refine G_putI C fl_X7_47_7 fp_X7_7_10 (Or.inl rfl) (Or.inl rfl) ko_67 dX7_next_293 ?_
  rw [← hs29]
  refine G_aload_n C 0 rfl rfl dX7_next_296 ?_
  refine G_dup C rfl dX7_next_297 ?_
  refine G_getI C fl_X7_41_7 (Or.inl rfl) ko_67 dX7_next_298 ?_
  refine G_iconst C (v := 1) rfl dX7_next_301 ?_
  refine G_iadd C dX7_next_302 ?_
  obtain ⟨σ30, hs30, h⟩ := stp_elim h
  refine G_putI C fl_X7_41_7 fp_X7_7_8 (Or.inl rfl) (Or.inl rfl) ko_67 dX7_next_303 ?_
  rw [← hs30]
  refine G_goto (tgt := 207) C rfl dX7_next_306 ?_
  exact hf207  _ h
set_option maxRecDepth 100000 in
set_option maxHeartbeats 4000000 in
theorem eX7_next_207B (C : Cx E p s m args meth c cX7_next 1 RX7) (hr : meth.sig.returnType = none) {σ0 : Sto} {r2 : Sto} {σ : Sto} {f207 : Sto → Option Sto} (hf207 : ∀ (σ' : Sto), f207 σ' = some r2 → G p l e (rmd 8 0 0) s m args below meth c E true (sZ σ0) ad0 (MQ below (QV E true σ0 r2 ad0) args s 0 0 (AE E)) 1 0 0 σ' 207 [(0, .ref 67)] []) (h : mX7_next_207B f207 σ = some r2) : G p l e (rmd 8 0 0) s m args below meth c E true (sZ σ0) ad0 (MQ below (QV E true σ0 r2 ad0) args s 0 0 (AE E)) 1 0 0 σ 207 [(0, .ref 67)] [] := by
  unfold mX7_next_207B at h
  refine G_aload_n C 0 rfl rfl dX7_next_207 ?_
  refine G_getI C fl_X7_41_7 (Or.inl rfl) ko_67 dX7_next_208 ?_
  refine G_aload_n C 0 rfl rfl dX7_next_211 ?_
  refine G_getI C fl_X7_15_7 (Or.inl rfl) ko_67 dX7_next_212 ?_
  refine G_icmp_ge (tgt := 354) C rfl dX7_next_215 (fun hc22 => ?_) (fun hc22 => ?_)
  · replace h := (if_pos hc22).symm.trans h
    obtain rfl := Option.some.inj h
    exact G_vret C hr (Nat.le_of_ble_eq_true rfl) (Nat.le_of_ble_eq_true rfl) dX7_next_354
  · replace h := (if_neg hc22).symm.trans h
    refine G_aload_n C 0 rfl rfl dX7_next_218 ?_
    refine G_getR C fl_X7_9_7 rfl ko_67 dX7_next_219 ?_
    refine G_aload_n C 0 rfl rfl dX7_next_222 ?_
    refine G_getI C fl_X7_41_7 (Or.inl rfl) ko_67 dX7_next_223 ?_
    obtain ⟨hc23, h⟩ := ifn h
    obtain ⟨hc24, h⟩ := ifn h
    refine G_iaload C (KD.nz hc23 rfl) hc24 dX7_next_226 ?_
    refine G_bipush C (v := 48) rfl dX7_next_227 ?_
    refine G_icmp_lt (tgt := 354) C rfl dX7_next_229 (fun hc25 => ?_) (fun hc25 => ?_)
    · replace h := (if_pos hc25).symm.trans h
      obtain rfl := Option.some.inj h
      exact G_vret C hr (Nat.le_of_ble_eq_true rfl) (Nat.le_of_ble_eq_true rfl) dX7_next_354
    · replace h := (if_neg hc25).symm.trans h
      refine G_aload_n C 0 rfl rfl dX7_next_232 ?_
      refine G_getR C fl_X7_9_7 rfl ko_67 dX7_next_233 ?_
      refine G_aload_n C 0 rfl rfl dX7_next_236 ?_
      refine G_getI C fl_X7_41_7 (Or.inl rfl) ko_67 dX7_next_237 ?_
      refine G_iaload C (KD.nz hc23 rfl) hc24 dX7_next_240 ?_
      refine G_bipush C (v := 57) rfl dX7_next_241 ?_
      refine G_icmp_gt (tgt := 354) C rfl dX7_next_243 (fun hc26 => ?_) (fun hc26 => ?_)
      · replace h := (if_pos hc26).symm.trans h
        obtain rfl := Option.some.inj h
        exact G_vret C hr (Nat.le_of_ble_eq_true rfl) (Nat.le_of_ble_eq_true rfl) dX7_next_354
      · replace h := (if_neg hc26).symm.trans h
        refine G_aload_n C 0 rfl rfl dX7_next_246 ?_
        refine G_aload_n C 0 rfl rfl dX7_next_247 ?_
        refine G_getI C fl_X7_47_7 (Or.inl rfl) ko_67 dX7_next_248 ?_
        refine G_bipush C (v := 8) rfl dX7_next_251 ?_
        refine G_icmp_ge (tgt := 279) C rfl dX7_next_253 (fun hc27 => ?_) (fun hc27 => ?_)
        · replace h := (if_pos hc27).symm.trans h
          refine G_aload_n C 0 rfl rfl dX7_next_279 ?_
          refine G_getI C fl_X7_44_7 (Or.inl rfl) ko_67 dX7_next_280 ?_
          exact eX7_next_283 C hr hf207 h
        · replace h := (if_neg hc27).symm.trans h
          refine G_aload_n C 0 rfl rfl dX7_next_256 ?_
          refine G_getI C fl_X7_44_7 (Or.inl rfl) ko_67 dX7_next_257 ?_
          refine G_bipush C (v := 10) rfl dX7_next_260 ?_
          refine G_imul C dX7_next_262 ?_
          refine G_aload_n C 0 rfl rfl dX7_next_263 ?_
          refine G_getR C fl_X7_9_7 rfl ko_67 dX7_next_264 ?_
          refine G_aload_n C 0 rfl rfl dX7_next_267 ?_
          refine G_getI C fl_X7_41_7 (Or.inl rfl) ko_67 dX7_next_268 ?_
          refine G_iaload C (KD.nz hc23 rfl) hc24 dX7_next_271 ?_
          refine G_iadd C dX7_next_272 ?_
          refine G_bipush C (v := 48) rfl dX7_next_273 ?_
          refine G_isub C dX7_next_275 ?_
          refine G_goto (tgt := 283) C rfl dX7_next_276 ?_
          exact eX7_next_283 C hr hf207 h
set_option maxRecDepth 100000 in
set_option maxHeartbeats 4000000 in
theorem eX7_next_207 (C : Cx E p s m args meth c cX7_next 1 RX7) (hr : meth.sig.returnType = none) {σ0 : Sto} {r2 : Sto} {σ : Sto} {n : Nat} (h : mX7_next_207 n σ = some r2) : G p l e (rmd 8 0 0) s m args below meth c E true (sZ σ0) ad0 (MQ below (QV E true σ0 r2 ad0) args s 0 0 (AE E)) 1 0 0 σ 207 [(0, .ref 67)] [] := by
  induction n generalizing  σ with
  | zero => exact nomatch (show (none : Option Sto) = some r2 from h)
  | succ n ih => exact eX7_next_207B C hr (fun σ9 h9 => ih h9) h
set_option maxRecDepth 100000 in
set_option maxHeartbeats 4000000 in
theorem eX7_next_174 (C : Cx E p s m args meth c cX7_next 1 RX7) (hr : meth.sig.returnType = none) {σ0 : Sto} {r2 : Sto} {σ : Sto} (h : mX7_next_174 σ = some r2) : G p l e (rmd 8 0 0) s m args below meth c E true (sZ σ0) ad0 (MQ below (QV E true σ0 r2 ad0) args s 0 0 (AE E)) 1 0 0 σ 174 [(0, .ref 67)] [] := by
  unfold mX7_next_174 at h
  refine G_aload_n C 0 rfl rfl dX7_next_174 ?_
  refine G_getR C fl_X7_9_7 rfl ko_67 dX7_next_175 ?_
  refine G_aload_n C 0 rfl rfl dX7_next_178 ?_
  refine G_getI C fl_X7_41_7 (Or.inl rfl) ko_67 dX7_next_179 ?_
  obtain ⟨hc9, h⟩ := ifn h
  obtain ⟨hc10, h⟩ := ifn h
  refine G_iaload C (KD.nz hc9 rfl) hc10 dX7_next_182 ?_
  refine G_bipush C (v := 48) rfl dX7_next_183 ?_
  refine G_icmp_lt (tgt := 309) C rfl dX7_next_185 (fun hc11 => ?_) (fun hc11 => ?_)
  · replace h := (if_pos hc11).symm.trans h
    exact eX7_next_309 C hr h
  · replace h := (if_neg hc11).symm.trans h
    refine G_aload_n C 0 rfl rfl dX7_next_188 ?_
    refine G_getR C fl_X7_9_7 rfl ko_67 dX7_next_189 ?_
    refine G_aload_n C 0 rfl rfl dX7_next_192 ?_
    refine G_getI C fl_X7_41_7 (Or.inl rfl) ko_67 dX7_next_193 ?_
    refine G_iaload C (KD.nz hc9 rfl) hc10 dX7_next_196 ?_
    refine G_bipush C (v := 57) rfl dX7_next_197 ?_
    refine G_icmp_gt (tgt := 309) C rfl dX7_next_199 (fun hc18 => ?_) (fun hc18 => ?_)
    · replace h := (if_pos hc18).symm.trans h
      exact eX7_next_309 C hr h
    · replace h := (if_neg hc18).symm.trans h
      refine G_aload_n C 0 rfl rfl dX7_next_202 ?_
      refine G_iconst C (v := 3) rfl dX7_next_203 ?_
      obtain ⟨σ19, hs19, h⟩ := stp_elim h
      refine G_putI C fl_X7_35_7 fp_X7_7_6 (Or.inl rfl) (Or.inl rfl) ko_67 dX7_next_204 ?_
      rw [← hs19]
      have hc20 : sK σ19 (sR σ 67 0) = 100 := by rw [hs19]; exact hc9
      have hc21 : sN σ19 (sR σ 67 0) = (sN σ (sR σ 67 0)) := by rw [hs19]; exact rfl
      exact eX7_next_207 C hr h
set_option maxRecDepth 100000 in
set_option maxHeartbeats 4000000 in
theorem eX7_next_122B (C : Cx E p s m args meth c cX7_next 1 RX7) (hr : meth.sig.returnType = none) {σ0 : Sto} {r2 : Sto} {σ : Sto} {f122 : Sto → Option Sto} (hf122 : ∀ (σ' : Sto), f122 σ' = some r2 → G p l e (rmd 8 0 0) s m args below meth c E true (sZ σ0) ad0 (MQ below (QV E true σ0 r2 ad0) args s 0 0 (AE E)) 1 0 0 σ' 122 [(0, .ref 67)] []) (h : mX7_next_122B f122 σ = some r2) : G p l e (rmd 8 0 0) s m args below meth c E true (sZ σ0) ad0 (MQ below (QV E true σ0 r2 ad0) args s 0 0 (AE E)) 1 0 0 σ 122 [(0, .ref 67)] [] := by
  unfold mX7_next_122B at h
  refine G_aload_n C 0 rfl rfl dX7_next_122 ?_
  refine G_getI C fl_X7_41_7 (Or.inl rfl) ko_67 dX7_next_123 ?_
  refine G_aload_n C 0 rfl rfl dX7_next_126 ?_
  refine G_getI C fl_X7_15_7 (Or.inl rfl) ko_67 dX7_next_127 ?_
  refine G_icmp_ge (tgt := 354) C rfl dX7_next_130 (fun hc35 => ?_) (fun hc35 => ?_)
  · replace h := (if_pos hc35).symm.trans h
    obtain rfl := Option.some.inj h
    exact G_vret C hr (Nat.le_of_ble_eq_true rfl) (Nat.le_of_ble_eq_true rfl) dX7_next_354
  · replace h := (if_neg hc35).symm.trans h
    refine G_aload_n C 0 rfl rfl dX7_next_133 ?_
    refine G_getR C fl_X7_9_7 rfl ko_67 dX7_next_134 ?_
    refine G_aload_n C 0 rfl rfl dX7_next_137 ?_
    refine G_getI C fl_X7_41_7 (Or.inl rfl) ko_67 dX7_next_138 ?_
    obtain ⟨hc36, h⟩ := ifn h
    obtain ⟨hc37, h⟩ := ifn h
    refine G_iaload C (KD.nz hc36 rfl) hc37 dX7_next_141 ?_
    refine G_bipush C (v := 97) rfl dX7_next_142 ?_
    refine G_icmp_lt (tgt := 354) C rfl dX7_next_144 (fun hc38 => ?_) (fun hc38 => ?_)
    · replace h := (if_pos hc38).symm.trans h
      obtain rfl := Option.some.inj h
      exact G_vret C hr (Nat.le_of_ble_eq_true rfl) (Nat.le_of_ble_eq_true rfl) dX7_next_354
    · replace h := (if_neg hc38).symm.trans h
      refine G_aload_n C 0 rfl rfl dX7_next_147 ?_
      refine G_getR C fl_X7_9_7 rfl ko_67 dX7_next_148 ?_
      refine G_aload_n C 0 rfl rfl dX7_next_151 ?_
      refine G_getI C fl_X7_41_7 (Or.inl rfl) ko_67 dX7_next_152 ?_
      refine G_iaload C (KD.nz hc36 rfl) hc37 dX7_next_155 ?_
      refine G_bipush C (v := 122) rfl dX7_next_156 ?_
      refine G_icmp_gt (tgt := 354) C rfl dX7_next_158 (fun hc39 => ?_) (fun hc39 => ?_)
      · replace h := (if_pos hc39).symm.trans h
        obtain rfl := Option.some.inj h
        exact G_vret C hr (Nat.le_of_ble_eq_true rfl) (Nat.le_of_ble_eq_true rfl) dX7_next_354
      · replace h := (if_neg hc39).symm.trans h
        refine G_aload_n C 0 rfl rfl dX7_next_161 ?_
        refine G_dup C rfl dX7_next_162 ?_
        refine G_getI C fl_X7_41_7 (Or.inl rfl) ko_67 dX7_next_163 ?_
        refine G_iconst C (v := 1) rfl dX7_next_166 ?_
        refine G_iadd C dX7_next_167 ?_
        obtain ⟨σ40, hs40, h⟩ := stp_elim h
        refine G_putI C fl_X7_41_7 fp_X7_7_8 (Or.inl rfl) (Or.inl rfl) ko_67 dX7_next_168 ?_
        rw [← hs40]
        have hc41 : sK σ40 (sR σ 67 0) = 100 := by rw [hs40]; exact hc36
        have hc42 : sN σ40 (sR σ 67 0) = (sN σ (sR σ 67 0)) := by rw [hs40]; exact rfl
        refine G_goto (tgt := 122) C rfl dX7_next_171 ?_
        exact hf122  _ h
set_option maxRecDepth 100000 in
set_option maxHeartbeats 4000000 in
theorem eX7_next_122 (C : Cx E p s m args meth c cX7_next 1 RX7) (hr : meth.sig.returnType = none) {σ0 : Sto} {r2 : Sto} {σ : Sto} {n : Nat} (h : mX7_next_122 n σ = some r2) : G p l e (rmd 8 0 0) s m args below meth c E true (sZ σ0) ad0 (MQ below (QV E true σ0 r2 ad0) args s 0 0 (AE E)) 1 0 0 σ 122 [(0, .ref 67)] [] := by
  induction n generalizing  σ with
  | zero => exact nomatch (show (none : Option Sto) = some r2 from h)
  | succ n ih => exact eX7_next_122B C hr (fun σ9 h9 => ih h9) h
set_option maxRecDepth 100000 in
set_option maxHeartbeats 4000000 in
theorem eX7_next_52 (C : Cx E p s m args meth c cX7_next 1 RX7) (hr : meth.sig.returnType = none) {σ0 : Sto} {r2 : Sto} {σ : Sto} (h : mX7_next_52 σ = some r2) : G p l e (rmd 8 0 0) s m args below meth c E true (sZ σ0) ad0 (MQ below (QV E true σ0 r2 ad0) args s 0 0 (AE E)) 1 0 0 σ 52 [(0, .ref 67)] [] := by
  unfold mX7_next_52 at h
  refine G_aload_n C 0 rfl rfl dX7_next_52 ?_
  refine G_aload_n C 0 rfl rfl dX7_next_53 ?_
  refine G_getI C fl_X7_41_7 (Or.inl rfl) ko_67 dX7_next_54 ?_
  obtain ⟨σ2, hs2, h⟩ := stp_elim h
  refine G_putI C fl_X7_38_7 fp_X7_7_7 (Or.inl rfl) (Or.inl rfl) ko_67 dX7_next_57 ?_
  rw [← hs2]
  refine G_aload_n C 0 rfl rfl dX7_next_60 ?_
  refine G_iconst C (v := 0) rfl dX7_next_61 ?_
  obtain ⟨σ3, hs3, h⟩ := stp_elim h
  refine G_putI C fl_X7_44_7 fp_X7_7_9 (Or.inl rfl) (Or.inl rfl) ko_67 dX7_next_62 ?_
  rw [← hs3]
  refine G_aload_n C 0 rfl rfl dX7_next_65 ?_
  refine G_iconst C (v := 0) rfl dX7_next_66 ?_
  obtain ⟨σ4, hs4, h⟩ := stp_elim h
  refine G_putI C fl_X7_47_7 fp_X7_7_10 (Or.inl rfl) (Or.inl rfl) ko_67 dX7_next_67 ?_
  rw [← hs4]
  refine G_aload_n C 0 rfl rfl dX7_next_70 ?_
  refine G_getI C fl_X7_41_7 (Or.inl rfl) ko_67 dX7_next_71 ?_
  refine G_aload_n C 0 rfl rfl dX7_next_74 ?_
  refine G_getI C fl_X7_15_7 (Or.inl rfl) ko_67 dX7_next_75 ?_
  refine G_icmp_lt (tgt := 89) C rfl dX7_next_78 (fun hc5 => ?_) (fun hc5 => ?_)
  · replace h := (if_pos hc5).symm.trans h
    refine G_aload_n C 0 rfl rfl dX7_next_89 ?_
    refine G_getR C fl_X7_9_7 rfl ko_67 dX7_next_90 ?_
    refine G_aload_n C 0 rfl rfl dX7_next_93 ?_
    refine G_getI C fl_X7_41_7 (Or.inl rfl) ko_67 dX7_next_94 ?_
    obtain ⟨hc6, h⟩ := ifn h
    obtain ⟨hc7, h⟩ := ifn h
    refine G_iaload C (KD.nz hc6 rfl) hc7 dX7_next_97 ?_
    refine G_bipush C (v := 97) rfl dX7_next_98 ?_
    refine G_icmp_lt (tgt := 174) C rfl dX7_next_100 (fun hc8 => ?_) (fun hc8 => ?_)
    · replace h := (if_pos hc8).symm.trans h
      exact eX7_next_174 C hr h
    · replace h := (if_neg hc8).symm.trans h
      refine G_aload_n C 0 rfl rfl dX7_next_103 ?_
      refine G_getR C fl_X7_9_7 rfl ko_67 dX7_next_104 ?_
      refine G_aload_n C 0 rfl rfl dX7_next_107 ?_
      refine G_getI C fl_X7_41_7 (Or.inl rfl) ko_67 dX7_next_108 ?_
      refine G_iaload C (KD.nz hc6 rfl) hc7 dX7_next_111 ?_
      refine G_bipush C (v := 122) rfl dX7_next_112 ?_
      refine G_icmp_gt (tgt := 174) C rfl dX7_next_114 (fun hc31 => ?_) (fun hc31 => ?_)
      · replace h := (if_pos hc31).symm.trans h
        exact eX7_next_174 C hr h
      · replace h := (if_neg hc31).symm.trans h
        refine G_aload_n C 0 rfl rfl dX7_next_117 ?_
        refine G_iconst C (v := 2) rfl dX7_next_118 ?_
        obtain ⟨σ32, hs32, h⟩ := stp_elim h
        refine G_putI C fl_X7_35_7 fp_X7_7_6 (Or.inl rfl) (Or.inl rfl) ko_67 dX7_next_119 ?_
        rw [← hs32]
        have hc33 : sK σ32 (sR σ4 67 0) = 100 := by rw [hs32]; exact hc6
        have hc34 : sN σ32 (sR σ4 67 0) = (sN σ4 (sR σ4 67 0)) := by rw [hs32]; exact rfl
        exact eX7_next_122 C hr h
  · replace h := (if_neg hc5).symm.trans h
    refine G_aload_n C 0 rfl rfl dX7_next_81 ?_
    refine G_iconst C (v := 0) rfl dX7_next_82 ?_
    obtain ⟨σ43, hs43, h⟩ := stp_elim h
    refine G_putI C fl_X7_35_7 fp_X7_7_6 (Or.inl rfl) (Or.inl rfl) ko_67 dX7_next_83 ?_
    rw [← hs43]
    refine G_goto (tgt := 354) C rfl dX7_next_86 ?_
    obtain rfl := Option.some.inj h
    exact G_vret C hr (Nat.le_of_ble_eq_true rfl) (Nat.le_of_ble_eq_true rfl) dX7_next_354
set_option maxRecDepth 100000 in
set_option maxHeartbeats 4000000 in
theorem eX7_next_39 (C : Cx E p s m args meth c cX7_next 1 RX7) (hr : meth.sig.returnType = none) {σ0 : Sto} {r2 : Sto} {σ : Sto} {f0 : Sto → Option Sto} (hf0 : ∀ (σ' : Sto), f0 σ' = some r2 → G p l e (rmd 8 0 0) s m args below meth c E true (sZ σ0) ad0 (MQ below (QV E true σ0 r2 ad0) args s 0 0 (AE E)) 1 0 0 σ' 0 [(0, .ref 67)] []) (h : mX7_next_39 f0 σ = some r2) : G p l e (rmd 8 0 0) s m args below meth c E true (sZ σ0) ad0 (MQ below (QV E true σ0 r2 ad0) args s 0 0 (AE E)) 1 0 0 σ 39 [(0, .ref 67)] [] := by
  unfold mX7_next_39 at h
  refine G_aload_n C 0 rfl rfl dX7_next_39 ?_
  refine G_dup C rfl dX7_next_40 ?_
  refine G_getI C fl_X7_41_7 (Or.inl rfl) ko_67 dX7_next_41 ?_
  refine G_iconst C (v := 1) rfl dX7_next_44 ?_
  refine G_iadd C dX7_next_45 ?_
  obtain ⟨σ47, hs47, h⟩ := stp_elim h
  refine G_putI C fl_X7_41_7 fp_X7_7_8 (Or.inl rfl) (Or.inl rfl) ko_67 dX7_next_46 ?_
  rw [← hs47]
  refine G_goto (tgt := 0) C rfl dX7_next_49 ?_
  exact hf0  _ h
set_option maxRecDepth 100000 in
set_option maxHeartbeats 4000000 in
theorem eX7_next_0B (C : Cx E p s m args meth c cX7_next 1 RX7) (hr : meth.sig.returnType = none) {σ0 : Sto} {r2 : Sto} {σ : Sto} {f0 : Sto → Option Sto} (hf0 : ∀ (σ' : Sto), f0 σ' = some r2 → G p l e (rmd 8 0 0) s m args below meth c E true (sZ σ0) ad0 (MQ below (QV E true σ0 r2 ad0) args s 0 0 (AE E)) 1 0 0 σ' 0 [(0, .ref 67)] []) (h : mX7_next_0B f0 σ = some r2) : G p l e (rmd 8 0 0) s m args below meth c E true (sZ σ0) ad0 (MQ below (QV E true σ0 r2 ad0) args s 0 0 (AE E)) 1 0 0 σ 0 [(0, .ref 67)] [] := by
  unfold mX7_next_0B at h
  refine G_aload_n C 0 rfl rfl dX7_next_0 ?_
  refine G_getI C fl_X7_41_7 (Or.inl rfl) ko_67 dX7_next_1 ?_
  refine G_aload_n C 0 rfl rfl dX7_next_4 ?_
  refine G_getI C fl_X7_15_7 (Or.inl rfl) ko_67 dX7_next_5 ?_
  refine G_icmp_ge (tgt := 52) C rfl dX7_next_8 (fun hc1 => ?_) (fun hc1 => ?_)
  · replace h := (if_pos hc1).symm.trans h
    exact eX7_next_52 C hr h
  · replace h := (if_neg hc1).symm.trans h
    refine G_aload_n C 0 rfl rfl dX7_next_11 ?_
    refine G_getR C fl_X7_9_7 rfl ko_67 dX7_next_12 ?_
    refine G_aload_n C 0 rfl rfl dX7_next_15 ?_
    refine G_getI C fl_X7_41_7 (Or.inl rfl) ko_67 dX7_next_16 ?_
    obtain ⟨hc44, h⟩ := ifn h
    obtain ⟨hc45, h⟩ := ifn h
    refine G_iaload C (KD.nz hc44 rfl) hc45 dX7_next_19 ?_
    refine G_bipush C (v := 32) rfl dX7_next_20 ?_
    refine G_icmp_eq (tgt := 39) C rfl dX7_next_22 (fun hc46 => ?_) (fun hc46 => ?_)
    · replace h := (if_pos hc46).symm.trans h
      exact eX7_next_39 C hr hf0 h
    · replace h := (if_neg hc46).symm.trans h
      refine G_aload_n C 0 rfl rfl dX7_next_25 ?_
      refine G_getR C fl_X7_9_7 rfl ko_67 dX7_next_26 ?_
      refine G_aload_n C 0 rfl rfl dX7_next_29 ?_
      refine G_getI C fl_X7_41_7 (Or.inl rfl) ko_67 dX7_next_30 ?_
      refine G_iaload C (KD.nz hc44 rfl) hc45 dX7_next_33 ?_
      refine G_bipush C (v := 10) rfl dX7_next_34 ?_
      refine G_icmp_ne (tgt := 52) C rfl dX7_next_36 (fun hc48 => ?_) (fun hc48 => ?_)
      · replace h := (if_neg hc48).symm.trans h
        exact eX7_next_52 C hr h
      · replace h := (if_pos hc48).symm.trans h
        exact eX7_next_39 C hr hf0 h
set_option maxRecDepth 100000 in
set_option maxHeartbeats 4000000 in
theorem eX7_next_0 (C : Cx E p s m args meth c cX7_next 1 RX7) (hr : meth.sig.returnType = none) {σ0 : Sto} {r2 : Sto} {σ : Sto} {n : Nat} (h : mX7_next_0 n σ = some r2) : G p l e (rmd 8 0 0) s m args below meth c E true (sZ σ0) ad0 (MQ below (QV E true σ0 r2 ad0) args s 0 0 (AE E)) 1 0 0 σ 0 [(0, .ref 67)] [] := by
  induction n generalizing  σ with
  | zero => exact nomatch (show (none : Option Sto) = some r2 from h)
  | succ n ih => exact eX7_next_0B C hr (fun σ9 h9 => ih h9) h
set_option maxRecDepth 100000 in
set_option maxHeartbeats 4000000 in
theorem dX7_next {σ : Sto} {r2 : Sto} (h : mX7_next σ = some r2) : MM l yX7_next cX7_next 1 none 8 0 0 E true σ [.ref 67] (QV E true σ r2) := by
  unfold mX7_next at h
  refine MM_of (by decide) (Nat.le_of_ble_eq_true rfl) rfl (fun p e s m args below meth c ad0 C hr hn => ?_)
  exact eX7_next_0 C hr h
set_option maxRecDepth 100000 in
set_option maxHeartbeats 4000000 in
theorem eX7_takeNumber_51 (C : Cx E p s m args meth c cX7_takeNumber 4 RX7) (hr : meth.sig.returnType = (some .int)) {σ0 : Sto} {r1 : Int32} {r2 : Sto} {σ : Sto} {x3 : Int32} (h : mX7_takeNumber_51 x3 σ = some (r1, r2)) : G p l e (rmd 9 0 0) s m args below meth c E true (sZ σ0) ad0 (MQ below (QI E true σ0 r1 r2 ad0) args s 0 0 (AE E)) 4 0 0 σ 51 [(0, .ref 67), (3, .int x3)] [] := by
  unfold mX7_takeNumber_51 at h
  refine G_aload_n C 0 rfl rfl dX7_takeNumber_51 ?_
  obtain ⟨σ4, hv4, h⟩ := bnd h
  refine G_callV (run_V C [] [] (dX7_next hv4) ml_X7_next mv_X7_next lk_X7_59 ⟨(Nat.le_of_ble_eq_true rfl), (Nat.le_of_ble_eq_true rfl)⟩ ⟨(Nat.le_of_ble_eq_true rfl), (Nat.le_of_ble_eq_true rfl)⟩ vq_7 rfl ko_67 rfl (Nat.le_of_ble_eq_true rfl) dX7_takeNumber_52) ?_
  refine G_iload_n C 1 rfl rfl dX7_takeNumber_55 ?_
  obtain ⟨rfl, rfl⟩ := some2 h
  exact G_iret C hr (Nat.le_of_ble_eq_true rfl) (Nat.le_of_ble_eq_true rfl) dX7_takeNumber_56
set_option maxRecDepth 100000 in
set_option maxHeartbeats 4000000 in
theorem eX7_takeNumber_46 (C : Cx E p s m args meth c cX7_takeNumber 4 RX7) (hr : meth.sig.returnType = (some .int)) {σ0 : Sto} {r1 : Int32} {r2 : Sto} {σ : Sto} {x3 : Int32} (h : mX7_takeNumber_46 x3 σ = some (r1, r2)) : G p l e (rmd 9 0 0) s m args below meth c E true (sZ σ0) ad0 (MQ below (QI E true σ0 r1 r2 ad0) args s 0 0 (AE E)) 4 0 0 σ 46 [(0, .ref 67), (3, .int x3)] [] := by
  unfold mX7_takeNumber_46 at h
  refine G_aload_n C 0 rfl rfl dX7_takeNumber_46 ?_
  refine G_iconst C (v := 2) rfl dX7_takeNumber_47 ?_
  obtain ⟨σ3, hv3, h⟩ := bnd h
  refine G_callV (run_V C [.int (2 : Int32)] [] (dX7_refuse hv3) ml_X7_refuse mv_X7_refuse lk_X7_91 ⟨(Nat.le_of_ble_eq_true rfl), (Nat.le_of_ble_eq_true rfl)⟩ ⟨(Nat.le_of_ble_eq_true rfl), (Nat.le_of_ble_eq_true rfl)⟩ vq_7 rfl ko_67 rfl (Nat.le_of_ble_eq_true rfl) dX7_takeNumber_48) ?_
  exact eX7_takeNumber_51 C hr h
set_option maxRecDepth 100000 in
set_option maxHeartbeats 4000000 in
theorem dX7_takeNumber {σ : Sto} {p0 : Int32} {p1 : Int32} {r1 : Int32} {r2 : Sto} (h : mX7_takeNumber p0 p1 σ = some (r1, r2)) : MM l yX7_takeNumber cX7_takeNumber 4 (some .int) 9 0 0 E true σ [.ref 67, .int p0, .int p1] (QI E true σ r1 r2) := by
  unfold mX7_takeNumber at h
  refine MM_of (by decide) (Nat.le_of_ble_eq_true rfl) rfl (fun p e s m args below meth c ad0 C hr hn => ?_)
  refine G_aload_n C 0 rfl rfl dX7_takeNumber_0 ?_
  refine G_getI C fl_X7_44_7 (Or.inl rfl) ko_67 dX7_takeNumber_1 ?_
  refine G_istore_n (L' := [(3, .int (sI σ 67 9)), (0, .ref 67), (1, .int p0), (2, .int p1)]) C rfl (Nat.le_of_ble_eq_true rfl) rfl dX7_takeNumber_4 ?_
  refine G_aload_n C 1 rfl rfl dX7_takeNumber_5 ?_
  refine G_getI C fl_X7_35_7 (Or.inl rfl) ko_67 dX7_takeNumber_6 ?_
  refine G_iconst C (v := 3) rfl dX7_takeNumber_9 ?_
  refine G_icmp_eq (tgt := 21) C rfl dX7_takeNumber_10 (fun hc1 => ?_) (fun hc1 => ?_)
  · replace h := (if_pos hc1).symm.trans h
    refine G_aload_n C 1 rfl rfl dX7_takeNumber_21 ?_
    refine G_getI C fl_X7_47_7 (Or.inl rfl) ko_67 dX7_takeNumber_22 ?_
    refine G_bipush C (v := 8) rfl dX7_takeNumber_25 ?_
    refine G_icmp_gt (tgt := 46) C rfl dX7_takeNumber_27 (fun hc2 => ?_) (fun hc2 => ?_)
    · replace h := (if_pos hc2).symm.trans h
      refine G_sub [1, 0] rfl ?_
      exact eX7_takeNumber_46 C hr h
    · replace h := (if_neg hc2).symm.trans h
      refine G_aload_n C 1 rfl rfl dX7_takeNumber_30 ?_
      refine G_getI C fl_X7_44_7 (Or.inl rfl) ko_67 dX7_takeNumber_31 ?_
      refine G_iload_n C 2 rfl rfl dX7_takeNumber_34 ?_
      refine G_icmp_lt (tgt := 46) C rfl dX7_takeNumber_35 (fun hc5 => ?_) (fun hc5 => ?_)
      · replace h := (if_pos hc5).symm.trans h
        refine G_sub [1, 0] rfl ?_
        exact eX7_takeNumber_46 C hr h
      · replace h := (if_neg hc5).symm.trans h
        refine G_aload_n C 1 rfl rfl dX7_takeNumber_38 ?_
        refine G_getI C fl_X7_44_7 (Or.inl rfl) ko_67 dX7_takeNumber_39 ?_
        refine G_iload_n C 3 rfl rfl dX7_takeNumber_42 ?_
        refine G_icmp_le (tgt := 51) C rfl dX7_takeNumber_43 (fun hc6 => ?_) (fun hc6 => ?_)
        · replace h := (if_pos hc6).symm.trans h
          refine G_sub [1, 0] rfl ?_
          exact eX7_takeNumber_51 C hr h
        · replace h := (if_neg hc6).symm.trans h
          refine G_sub [1, 0] rfl ?_
          exact eX7_takeNumber_46 C hr h
  · replace h := (if_neg hc1).symm.trans h
    refine G_aload_n C 1 rfl rfl dX7_takeNumber_13 ?_
    refine G_iconst C (v := 1) rfl dX7_takeNumber_14 ?_
    obtain ⟨σ7, hv7, h⟩ := bnd h
    refine G_callV (run_V C [.int (1 : Int32)] [] (dX7_refuse hv7) ml_X7_refuse mv_X7_refuse lk_X7_91 ⟨(Nat.le_of_ble_eq_true rfl), (Nat.le_of_ble_eq_true rfl)⟩ ⟨(Nat.le_of_ble_eq_true rfl), (Nat.le_of_ble_eq_true rfl)⟩ vq_7 rfl ko_67 rfl (Nat.le_of_ble_eq_true rfl) dX7_takeNumber_15) ?_
    refine G_goto (tgt := 51) C rfl dX7_takeNumber_18 ?_
    refine G_sub [1, 0] rfl ?_
    exact eX7_takeNumber_51 C hr h
set_option maxRecDepth 100000 in
set_option maxHeartbeats 4000000 in
theorem eX7_isName_20B (C : Cx E p s m args meth c cX7_isName 5 RX7) (hr : meth.sig.returnType = (some .boolean)) {r : Int32} {σ : Sto} {f20 : Nat → Int32 → Int32 → Int32 → Sto → Option Int32} {x1 : Nat} {x2 : Int32} {x3 : Int32} {x4 : Int32} (hf20 : ∀ (x1 : Nat) (x2 : Int32) (x3 : Int32) (x4 : Int32), f20 x1 x2 x3 x4 σ = some r → G p l e (rmd 8 0 0) s m args below meth c E true (sZ σ) ad0 (MQ below (QI E true σ r σ ad0) args s 0 0 (AE E)) 5 0 0 σ 20 [(0, .ref 67), (1, .ref x1), (2, .int x2), (3, .int x3), (4, .int x4)] []) (h : mX7_isName_20B f20 x1 x2 x3 x4 σ = some r) : G p l e (rmd 8 0 0) s m args below meth c E true (sZ σ) ad0 (MQ below (QI E true σ r σ ad0) args s 0 0 (AE E)) 5 0 0 σ 20 [(0, .ref 67), (1, .ref x1), (2, .int x2), (3, .int x3), (4, .int x4)] [] := by
  unfold mX7_isName_20B at h
  refine G_iload C 4 rfl dX7_isName_20 ?_
  refine G_iload_n C 3 rfl rfl dX7_isName_22 ?_
  refine G_icmp_ge (tgt := 57) C rfl dX7_isName_23 (fun hc2 => ?_) (fun hc2 => ?_)
  · replace h := (if_pos hc2).symm.trans h
    refine G_iconst C (v := 1) rfl dX7_isName_57 ?_
    obtain rfl := Option.some.inj h
    exact G_zret C (by decide) hr (Nat.le_of_ble_eq_true rfl) (Nat.le_of_ble_eq_true rfl) dX7_isName_58
  · replace h := (if_neg hc2).symm.trans h
    refine G_aload_n C 1 rfl rfl dX7_isName_26 ?_
    refine G_iload C 4 rfl dX7_isName_27 ?_
    obtain ⟨hc3, h⟩ := ifn h
    obtain ⟨hc4, h⟩ := ifn h
    refine G_callI (run_TT C [.int x4] [] (dT_charAt hc3 hc4) ml_J0_charAt_5068e mv_J0_charAt_5068e lk_X7_77 ⟨(Nat.le_of_ble_eq_true rfl), (Nat.le_of_ble_eq_true rfl)⟩ ⟨(Nat.le_of_ble_eq_true rfl), (Nat.le_of_ble_eq_true rfl)⟩ hc3 rfl rfl (Nat.le_of_ble_eq_true rfl) dX7_isName_29) ?_
    refine G_aload_n C 0 rfl rfl dX7_isName_32 ?_
    refine G_getR C fl_X7_9_7 rfl ko_67 dX7_isName_33 ?_
    refine G_aload_n C 0 rfl rfl dX7_isName_36 ?_
    refine G_getI C fl_X7_38_7 (Or.inl rfl) ko_67 dX7_isName_37 ?_
    refine G_iload C 4 rfl dX7_isName_40 ?_
    refine G_iadd C dX7_isName_42 ?_
    refine G_iload_n C 2 rfl rfl dX7_isName_43 ?_
    refine G_isub C dX7_isName_44 ?_
    obtain ⟨hc5, h⟩ := ifn h
    obtain ⟨hc6, h⟩ := ifn h
    refine G_iaload C (KD.nz hc5 rfl) hc6 dX7_isName_45 ?_
    refine G_icmp_eq (tgt := 51) C rfl dX7_isName_46 (fun hc7 => ?_) (fun hc7 => ?_)
    · replace h := (if_pos hc7).symm.trans h
      refine G_iinc (v := 1) (L' := [(4, .int (x4 + (1 : Int32))), (0, .ref 67), (1, .ref x1), (2, .int x2), (3, .int x3)]) C 4 rfl rfl (Nat.le_of_ble_eq_true rfl) rfl dX7_isName_51 ?_
      refine G_goto (tgt := 20) C rfl dX7_isName_54 ?_
      refine G_sub [1, 2, 3, 4, 0] rfl ?_
      exact hf20 _ _ _ _ h
    · replace h := (if_neg hc7).symm.trans h
      refine G_iconst C (v := 0) rfl dX7_isName_49 ?_
      obtain rfl := Option.some.inj h
      exact G_zret C (by decide) hr (Nat.le_of_ble_eq_true rfl) (Nat.le_of_ble_eq_true rfl) dX7_isName_50
set_option maxRecDepth 100000 in
set_option maxHeartbeats 4000000 in
theorem eX7_isName_20 (C : Cx E p s m args meth c cX7_isName 5 RX7) (hr : meth.sig.returnType = (some .boolean)) {r : Int32} {σ : Sto} {n : Nat} {x1 : Nat} {x2 : Int32} {x3 : Int32} {x4 : Int32} (h : mX7_isName_20 n x1 x2 x3 x4 σ = some r) : G p l e (rmd 8 0 0) s m args below meth c E true (sZ σ) ad0 (MQ below (QI E true σ r σ ad0) args s 0 0 (AE E)) 5 0 0 σ 20 [(0, .ref 67), (1, .ref x1), (2, .int x2), (3, .int x3), (4, .int x4)] [] := by
  induction n generalizing x1 x2 x3 x4 with
  | zero => exact nomatch (show (none : Option Int32) = some r from h)
  | succ n ih => exact eX7_isName_20B C hr (fun z0 z1 z2 z3 h9 => ih h9) h
set_option maxRecDepth 100000 in
set_option maxHeartbeats 4000000 in
theorem dX7_isName {σ : Sto} {p0 : Nat} {p1 : Int32} {p2 : Int32} {r : Int32} (h : mX7_isName p0 p1 p2 σ = some r) : MM l yX7_isName cX7_isName 5 (some .boolean) 8 0 0 E true σ [.ref 67, .ref p0, .int p1, .int p2] (QI E true σ r σ) := by
  unfold mX7_isName at h
  refine MM_of (by decide) (Nat.le_of_ble_eq_true rfl) rfl (fun p e s m args below meth c ad0 C hr hn => ?_)
  refine G_iload_n C 3 rfl rfl dX7_isName_0 ?_
  refine G_iload_n C 2 rfl rfl dX7_isName_1 ?_
  refine G_isub C dX7_isName_2 ?_
  refine G_aload_n C 0 rfl rfl dX7_isName_3 ?_
  refine G_getI C fl_X7_41_7 (Or.inl rfl) ko_67 dX7_isName_4 ?_
  refine G_aload_n C 0 rfl rfl dX7_isName_7 ?_
  refine G_getI C fl_X7_38_7 (Or.inl rfl) ko_67 dX7_isName_8 ?_
  refine G_isub C dX7_isName_11 ?_
  refine G_icmp_eq (tgt := 17) C rfl dX7_isName_12 (fun hc1 => ?_) (fun hc1 => ?_)
  · replace h := (if_pos hc1).symm.trans h
    refine G_iload_n C 2 rfl rfl dX7_isName_17 ?_
    refine G_istore (L' := [(4, .int p1), (0, .ref 67), (1, .ref p0), (2, .int p1), (3, .int p2)]) C (Nat.le_of_ble_eq_true rfl) rfl dX7_isName_18 ?_
    refine G_sub [1, 2, 3, 4, 0] rfl ?_
    exact eX7_isName_20 C hr h
  · replace h := (if_neg hc1).symm.trans h
    refine G_iconst C (v := 0) rfl dX7_isName_15 ?_
    obtain rfl := Option.some.inj h
    exact G_zret C (by decide) hr (Nat.le_of_ble_eq_true rfl) (Nat.le_of_ble_eq_true rfl) dX7_isName_16
set_option maxRecDepth 100000 in
set_option maxHeartbeats 4000000 in
theorem eX7_wordAmong_44 (C : Cx E p s m args meth c cX7_wordAmong 5 RX7) (hr : meth.sig.returnType = (some .int)) {r : Int32} {σ : Sto} {f7 : Nat → Int32 → Int32 → Int32 → Sto → Option Int32} {x1 : Nat} {x2 : Int32} {x3 : Int32} {x4 : Int32} (hf7 : ∀ (x1 : Nat) (x2 : Int32) (x3 : Int32) (x4 : Int32), f7 x1 x2 x3 x4 σ = some r → G p l e (rmd 9 0 0) s m args below meth c E true (sZ σ) ad0 (MQ below (QI E true σ r σ ad0) args s 0 0 (AE E)) 5 0 0 σ 7 [(0, .ref 67), (1, .ref x1), (2, .int x2), (3, .int x3), (4, .int x4)] []) (h : mX7_wordAmong_44 f7 x1 x2 x3 x4 σ = some r) : G p l e (rmd 9 0 0) s m args below meth c E true (sZ σ) ad0 (MQ below (QI E true σ r σ ad0) args s 0 0 (AE E)) 5 0 0 σ 44 [(0, .ref 67), (1, .ref x1), (2, .int x2), (3, .int x3), (4, .int x4)] [] := by
  unfold mX7_wordAmong_44 at h
  refine G_aload_n C 0 rfl rfl dX7_wordAmong_44 ?_
  refine G_aload_n C 1 rfl rfl dX7_wordAmong_45 ?_
  refine G_iload_n C 3 rfl rfl dX7_wordAmong_46 ?_
  refine G_iload C 4 rfl dX7_wordAmong_47 ?_
  obtain ⟨v6, hv6, h⟩ := bnd h
  refine G_callI (run_V C [.ref x1, .int x3, .int x4] [] (dX7_isName hv6) ml_X7_isName mv_X7_isName lk_X7_81 ⟨(Nat.le_of_ble_eq_true rfl), (Nat.le_of_ble_eq_true rfl)⟩ ⟨(Nat.le_of_ble_eq_true rfl), (Nat.le_of_ble_eq_true rfl)⟩ vq_7 rfl ko_67 rfl (Nat.le_of_ble_eq_true rfl) dX7_wordAmong_49) ?_
  refine G_if_eq (tgt := 57) C rfl dX7_wordAmong_52 (fun hc7 => ?_) (fun hc7 => ?_)
  · replace h := (if_pos hc7).symm.trans h
    refine G_iinc (v := 1) (L' := [(2, .int (x2 + (1 : Int32))), (0, .ref 67), (1, .ref x1), (3, .int x3), (4, .int x4)]) C 2 rfl rfl (Nat.le_of_ble_eq_true rfl) rfl dX7_wordAmong_57 ?_
    refine G_iload C 4 rfl dX7_wordAmong_60 ?_
    refine G_iconst C (v := 1) rfl dX7_wordAmong_62 ?_
    refine G_iadd C dX7_wordAmong_63 ?_
    refine G_istore_n (L' := [(3, .int (x4 + (1 : Int32))), (2, .int (x2 + (1 : Int32))), (0, .ref 67), (1, .ref x1), (4, .int x4)]) C rfl (Nat.le_of_ble_eq_true rfl) rfl dX7_wordAmong_64 ?_
    refine G_iinc (v := 1) (L' := [(4, .int (x4 + (1 : Int32))), (3, .int (x4 + (1 : Int32))), (2, .int (x2 + (1 : Int32))), (0, .ref 67), (1, .ref x1)]) C 4 rfl rfl (Nat.le_of_ble_eq_true rfl) rfl dX7_wordAmong_65 ?_
    refine G_goto (tgt := 7) C rfl dX7_wordAmong_68 ?_
    refine G_sub [3, 4, 2, 1, 0] rfl ?_
    exact hf7 _ _ _ _ h
  · replace h := (if_neg hc7).symm.trans h
    refine G_iload_n C 2 rfl rfl dX7_wordAmong_55 ?_
    obtain rfl := Option.some.inj h
    exact G_iret C hr (Nat.le_of_ble_eq_true rfl) (Nat.le_of_ble_eq_true rfl) dX7_wordAmong_56
set_option maxRecDepth 100000 in
set_option maxHeartbeats 4000000 in
theorem eX7_wordAmong_7B (C : Cx E p s m args meth c cX7_wordAmong 5 RX7) (hr : meth.sig.returnType = (some .int)) {r : Int32} {σ : Sto} {f7 : Nat → Int32 → Int32 → Int32 → Sto → Option Int32} {x1 : Nat} {x2 : Int32} {x3 : Int32} {x4 : Int32} (hf7 : ∀ (x1 : Nat) (x2 : Int32) (x3 : Int32) (x4 : Int32), f7 x1 x2 x3 x4 σ = some r → G p l e (rmd 9 0 0) s m args below meth c E true (sZ σ) ad0 (MQ below (QI E true σ r σ ad0) args s 0 0 (AE E)) 5 0 0 σ 7 [(0, .ref 67), (1, .ref x1), (2, .int x2), (3, .int x3), (4, .int x4)] []) (h : mX7_wordAmong_7B f7 x1 x2 x3 x4 σ = some r) : G p l e (rmd 9 0 0) s m args below meth c E true (sZ σ) ad0 (MQ below (QI E true σ r σ ad0) args s 0 0 (AE E)) 5 0 0 σ 7 [(0, .ref 67), (1, .ref x1), (2, .int x2), (3, .int x3), (4, .int x4)] [] := by
  unfold mX7_wordAmong_7B at h
  refine G_iload C 4 rfl dX7_wordAmong_7 ?_
  refine G_aload_n C 1 rfl rfl dX7_wordAmong_9 ?_
  obtain ⟨hc1, h⟩ := ifn h
  refine G_callI (run_TT C [] [.int x4] (dT_length hc1) ml_J0_length_8abf5 mv_J0_length_8abf5 lk_X7_74 ⟨(Nat.le_of_ble_eq_true rfl), (Nat.le_of_ble_eq_true rfl)⟩ ⟨(Nat.le_of_ble_eq_true rfl), (Nat.le_of_ble_eq_true rfl)⟩ hc1 rfl rfl (Nat.le_of_ble_eq_true rfl) dX7_wordAmong_10) ?_
  refine G_icmp_gt (tgt := 71) C rfl dX7_wordAmong_13 (fun hc2 => ?_) (fun hc2 => ?_)
  · replace h := (if_pos hc2).symm.trans h
    refine G_iconst C (v := -1) rfl dX7_wordAmong_71 ?_
    obtain rfl := Option.some.inj h
    exact G_iret C hr (Nat.le_of_ble_eq_true rfl) (Nat.le_of_ble_eq_true rfl) dX7_wordAmong_72
  · replace h := (if_neg hc2).symm.trans h
    refine G_aload_n C 0 rfl rfl dX7_wordAmong_16 ?_
    refine G_getI C fl_X7_35_7 (Or.inl rfl) ko_67 dX7_wordAmong_17 ?_
    refine G_iconst C (v := 2) rfl dX7_wordAmong_20 ?_
    refine G_icmp_ne (tgt := 71) C rfl dX7_wordAmong_21 (fun hc3 => ?_) (fun hc3 => ?_)
    · replace h := (if_neg hc3).symm.trans h
      refine G_iconst C (v := -1) rfl dX7_wordAmong_71 ?_
      obtain rfl := Option.some.inj h
      exact G_iret C hr (Nat.le_of_ble_eq_true rfl) (Nat.le_of_ble_eq_true rfl) dX7_wordAmong_72
    · replace h := (if_pos hc3).symm.trans h
      refine G_iload C 4 rfl dX7_wordAmong_24 ?_
      refine G_aload_n C 1 rfl rfl dX7_wordAmong_26 ?_
      refine G_callI (run_TT C [] [.int x4] (dT_length hc1) ml_J0_length_8abf5 mv_J0_length_8abf5 lk_X7_74 ⟨(Nat.le_of_ble_eq_true rfl), (Nat.le_of_ble_eq_true rfl)⟩ ⟨(Nat.le_of_ble_eq_true rfl), (Nat.le_of_ble_eq_true rfl)⟩ hc1 rfl rfl (Nat.le_of_ble_eq_true rfl) dX7_wordAmong_27) ?_
      refine G_icmp_eq (tgt := 44) C rfl dX7_wordAmong_30 (fun hc5 => ?_) (fun hc5 => ?_)
      · replace h := (if_pos hc5).symm.trans h
        exact eX7_wordAmong_44 C hr hf7 h
      · replace h := (if_neg hc5).symm.trans h
        refine G_aload_n C 1 rfl rfl dX7_wordAmong_33 ?_
        refine G_iload C 4 rfl dX7_wordAmong_34 ?_
        obtain ⟨hc9, h⟩ := ifn h
        refine G_callI (run_TT C [.int x4] [] (dT_charAt hc1 hc9) ml_J0_charAt_5068e mv_J0_charAt_5068e lk_X7_77 ⟨(Nat.le_of_ble_eq_true rfl), (Nat.le_of_ble_eq_true rfl)⟩ ⟨(Nat.le_of_ble_eq_true rfl), (Nat.le_of_ble_eq_true rfl)⟩ hc1 rfl rfl (Nat.le_of_ble_eq_true rfl) dX7_wordAmong_36) ?_
        refine G_bipush C (v := 32) rfl dX7_wordAmong_39 ?_
        refine G_icmp_ne (tgt := 65) C rfl dX7_wordAmong_41 (fun hc10 => ?_) (fun hc10 => ?_)
        · replace h := (if_neg hc10).symm.trans h
          refine G_iinc (v := 1) (L' := [(4, .int (x4 + (1 : Int32))), (0, .ref 67), (1, .ref x1), (2, .int x2), (3, .int x3)]) C 4 rfl rfl (Nat.le_of_ble_eq_true rfl) rfl dX7_wordAmong_65 ?_
          refine G_goto (tgt := 7) C rfl dX7_wordAmong_68 ?_
          refine G_sub [1, 2, 3, 4, 0] rfl ?_
          exact hf7 _ _ _ _ h
        · replace h := (if_pos hc10).symm.trans h
          exact eX7_wordAmong_44 C hr hf7 h
set_option maxRecDepth 100000 in
set_option maxHeartbeats 4000000 in
theorem eX7_wordAmong_7 (C : Cx E p s m args meth c cX7_wordAmong 5 RX7) (hr : meth.sig.returnType = (some .int)) {r : Int32} {σ : Sto} {n : Nat} {x1 : Nat} {x2 : Int32} {x3 : Int32} {x4 : Int32} (h : mX7_wordAmong_7 n x1 x2 x3 x4 σ = some r) : G p l e (rmd 9 0 0) s m args below meth c E true (sZ σ) ad0 (MQ below (QI E true σ r σ ad0) args s 0 0 (AE E)) 5 0 0 σ 7 [(0, .ref 67), (1, .ref x1), (2, .int x2), (3, .int x3), (4, .int x4)] [] := by
  induction n generalizing x1 x2 x3 x4 with
  | zero => exact nomatch (show (none : Option Int32) = some r from h)
  | succ n ih => exact eX7_wordAmong_7B C hr (fun z0 z1 z2 z3 h9 => ih h9) h
set_option maxRecDepth 100000 in
set_option maxHeartbeats 4000000 in
theorem dX7_wordAmong {σ : Sto} {p0 : Nat} {r : Int32} (h : mX7_wordAmong p0 σ = some r) : MM l yX7_wordAmong cX7_wordAmong 5 (some .int) 9 0 0 E true σ [.ref 67, .ref p0] (QI E true σ r σ) := by
  unfold mX7_wordAmong at h
  refine MM_of (by decide) (Nat.le_of_ble_eq_true rfl) rfl (fun p e s m args below meth c ad0 C hr hn => ?_)
  refine G_iconst C (v := 0) rfl dX7_wordAmong_0 ?_
  refine G_istore_n (L' := [(2, .int (0 : Int32)), (0, .ref 67), (1, .ref p0)]) C rfl (Nat.le_of_ble_eq_true rfl) rfl dX7_wordAmong_1 ?_
  refine G_iconst C (v := 0) rfl dX7_wordAmong_2 ?_
  refine G_istore_n (L' := [(3, .int (0 : Int32)), (2, .int (0 : Int32)), (0, .ref 67), (1, .ref p0)]) C rfl (Nat.le_of_ble_eq_true rfl) rfl dX7_wordAmong_3 ?_
  refine G_iconst C (v := 0) rfl dX7_wordAmong_4 ?_
  refine G_istore (L' := [(4, .int (0 : Int32)), (3, .int (0 : Int32)), (2, .int (0 : Int32)), (0, .ref 67), (1, .ref p0)]) C (Nat.le_of_ble_eq_true rfl) rfl dX7_wordAmong_5 ?_
  refine G_sub [3, 4, 2, 1, 0] rfl ?_
  exact eX7_wordAmong_7 C hr h
set_option maxRecDepth 100000 in
set_option maxHeartbeats 4000000 in
theorem eX7_takeSign_13 (C : Cx E p s m args meth c cX7_takeSign 2 RX7) (hr : meth.sig.returnType = none) {σ0 : Sto} {r2 : Sto} {σ : Sto} (h : mX7_takeSign_13 σ = some r2) : G p l e (rmd 9 0 0) s m args below meth c E true (sZ σ0) ad0 (MQ below (QV E true σ0 r2 ad0) args s 0 0 (AE E)) 2 0 0 σ 13 [(0, .ref 67)] [] := by
  unfold mX7_takeSign_13 at h
  refine G_aload_n C 0 rfl rfl dX7_takeSign_13 ?_
  obtain ⟨σ2, hv2, h⟩ := bnd h
  refine G_callV (run_V C [] [] (dX7_next hv2) ml_X7_next mv_X7_next lk_X7_59 ⟨(Nat.le_of_ble_eq_true rfl), (Nat.le_of_ble_eq_true rfl)⟩ ⟨(Nat.le_of_ble_eq_true rfl), (Nat.le_of_ble_eq_true rfl)⟩ vq_7 rfl ko_67 rfl (Nat.le_of_ble_eq_true rfl) dX7_takeSign_14) ?_
  obtain rfl := Option.some.inj h
  exact G_vret C hr (Nat.le_of_ble_eq_true rfl) (Nat.le_of_ble_eq_true rfl) dX7_takeSign_17
set_option maxRecDepth 100000 in
set_option maxHeartbeats 4000000 in
theorem dX7_takeSign {σ : Sto} {p0 : Int32} {r2 : Sto} (h : mX7_takeSign p0 σ = some r2) : MM l yX7_takeSign cX7_takeSign 2 none 9 0 0 E true σ [.ref 67, .int p0] (QV E true σ r2) := by
  unfold mX7_takeSign at h
  refine MM_of (by decide) (Nat.le_of_ble_eq_true rfl) rfl (fun p e s m args below meth c ad0 C hr hn => ?_)
  refine G_aload_n C 0 rfl rfl dX7_takeSign_0 ?_
  refine G_getI C fl_X7_35_7 (Or.inl rfl) ko_67 dX7_takeSign_1 ?_
  refine G_iload_n C 1 rfl rfl dX7_takeSign_4 ?_
  refine G_icmp_eq (tgt := 13) C rfl dX7_takeSign_5 (fun hc1 => ?_) (fun hc1 => ?_)
  · replace h := (if_pos hc1).symm.trans h
    refine G_sub [0] rfl ?_
    exact eX7_takeSign_13 C hr h
  · replace h := (if_neg hc1).symm.trans h
    refine G_aload_n C 0 rfl rfl dX7_takeSign_8 ?_
    refine G_iconst C (v := 1) rfl dX7_takeSign_9 ?_
    obtain ⟨σ3, hv3, h⟩ := bnd h
    refine G_callV (run_V C [.int (1 : Int32)] [] (dX7_refuse hv3) ml_X7_refuse mv_X7_refuse lk_X7_91 ⟨(Nat.le_of_ble_eq_true rfl), (Nat.le_of_ble_eq_true rfl)⟩ ⟨(Nat.le_of_ble_eq_true rfl), (Nat.le_of_ble_eq_true rfl)⟩ vq_7 rfl ko_67 rfl (Nat.le_of_ble_eq_true rfl) dX7_takeSign_10) ?_
    refine G_sub [0] rfl ?_
    exact eX7_takeSign_13 C hr h
set_option maxRecDepth 100000 in
set_option maxHeartbeats 4000000 in
theorem dX7_isWord {σ : Sto} {p0 : Nat} {r : Int32} (h : mX7_isWord p0 σ = some r) : MM l yX7_isWord cX7_isWord 2 (some .boolean) 10 0 0 E true σ [.ref 67, .ref p0] (QI E true σ r σ) := by
  unfold mX7_isWord at h
  refine MM_of (by decide) (Nat.le_of_ble_eq_true rfl) rfl (fun p e s m args below meth c ad0 C hr hn => ?_)
  refine G_aload_n C 0 rfl rfl dX7_isWord_0 ?_
  refine G_aload_n C 1 rfl rfl dX7_isWord_1 ?_
  obtain ⟨v1, hv1, h⟩ := bnd h
  refine G_callI (run_V C [.ref p0] [] (dX7_wordAmong hv1) ml_X7_wordAmong mv_X7_wordAmong lk_X7_85 ⟨(Nat.le_of_ble_eq_true rfl), (Nat.le_of_ble_eq_true rfl)⟩ ⟨(Nat.le_of_ble_eq_true rfl), (Nat.le_of_ble_eq_true rfl)⟩ vq_7 rfl ko_67 rfl (Nat.le_of_ble_eq_true rfl) dX7_isWord_2) ?_
  refine G_if_ne (tgt := 12) C rfl dX7_isWord_5 (fun hc2 => ?_) (fun hc2 => ?_)
  · replace h := (if_neg hc2).symm.trans h
    refine G_iconst C (v := 0) rfl dX7_isWord_12 ?_
    obtain rfl := Option.some.inj h
    exact G_zret C (by decide) hr (Nat.le_of_ble_eq_true rfl) (Nat.le_of_ble_eq_true rfl) dX7_isWord_13
  · replace h := (if_pos hc2).symm.trans h
    refine G_iconst C (v := 1) rfl dX7_isWord_8 ?_
    refine G_goto (tgt := 13) C rfl dX7_isWord_9 ?_
    obtain rfl := Option.some.inj h
    exact G_zret C (by decide) hr (Nat.le_of_ble_eq_true rfl) (Nat.le_of_ble_eq_true rfl) dX7_isWord_13
set_option maxRecDepth 100000 in
set_option maxHeartbeats 4000000 in
theorem eX7_readPart_50  {fE : Int32 → Sto → Option Sto} {D : Nat} (hD : 16 ≤ D) (hfE : EH l E fE D)(C : Cx E p s m args meth c cX7_readPart 3 RX7) (hr : meth.sig.returnType = none) {σ0 : Sto} {r2 : Sto} {σ : Sto} {x2 : Int32} (h : mX7_readPart_50 fE x2 σ = some r2) : G p l e (rmd (D + 1) 0 0) s m args below meth c E true (sZ σ0) ad0 (MQ below (QV E true σ0 r2 ad0) args s 0 0 (AE E)) 3 0 0 σ 50 [(0, .ref 67), (2, .int x2)] [] := by
  unfold mX7_readPart_50 at h
  refine G_aload_n C 0 rfl rfl dX7_readPart_50 ?_
  refine G_getR C fl_X7_25_7 rfl ko_67 dX7_readPart_51 ?_
  refine G_iconst C (v := -1) rfl dX7_readPart_54 ?_
  refine G_iload_n C 1 rfl rfl dX7_readPart_55 ?_
  refine G_isub C dX7_readPart_56 ?_
  obtain ⟨hc10, h⟩ := ifn h
  obtain ⟨σ9, hv9, h⟩ := bnd h
  refine G_callV (run_V C [.int ((-1 : Int32) - x2)] [] (dX4_addDue hc10 hv9) ml_X4_addDue mv_X4_addDue lk_X7_144 (rml (by omega) (by omega)) ⟨(Nat.le_of_ble_eq_true rfl), (Nat.le_of_ble_eq_true rfl)⟩ vq_4 rfl (KO.dy hc10) rfl (Nat.le_of_ble_eq_true rfl) dX7_readPart_57) ?_
  refine G_aload_n C 0 rfl rfl dX7_readPart_60 ?_
  obtain ⟨σ11, hv11, h⟩ := bnd h
  refine G_callV (run_V C [] [] (dX7_next hv11) ml_X7_next mv_X7_next lk_X7_59 (rml (by omega) (by omega)) ⟨(Nat.le_of_ble_eq_true rfl), (Nat.le_of_ble_eq_true rfl)⟩ vq_7 rfl ko_67 rfl (Nat.le_of_ble_eq_true rfl) dX7_readPart_61) ?_
  refine G_goto (tgt := 93) C rfl dX7_readPart_64 ?_
  obtain rfl := Option.some.inj h
  exact G_vret C hr (Nat.le_of_ble_eq_true rfl) (Nat.le_of_ble_eq_true rfl) dX7_readPart_93
set_option maxRecDepth 100000 in
set_option maxHeartbeats 4000000 in
theorem dX7_readPart {fE : Int32 → Sto → Option Sto} {D : Nat} (hD : 16 ≤ D) (hfE : EH l E fE D) {σ : Sto} {p0 : Int32} {r2 : Sto} (h : mX7_readPart fE p0 σ = some r2) : MM l yX7_readPart cX7_readPart 3 none (D + 1) 0 0 E true σ [.ref 67, .int p0] (QV E true σ r2) := by
  unfold mX7_readPart at h
  refine MM_of (by decide) (Nat.le_of_ble_eq_true rfl) rfl (fun p e s m args below meth c ad0 C hr hn => ?_)
  refine G_aload_n C 0 rfl rfl dX7_readPart_0 ?_
  refine G_getI C fl_X7_35_7 (Or.inl rfl) ko_67 dX7_readPart_1 ?_
  refine G_iconst C (v := 3) rfl dX7_readPart_4 ?_
  refine G_icmp_ne (tgt := 25) C rfl dX7_readPart_5 (fun hc1 => ?_) (fun hc1 => ?_)
  · replace h := (if_neg hc1).symm.trans h
    refine G_aload_n C 0 rfl rfl dX7_readPart_25 ?_
    refine G_getI C fl_X7_35_7 (Or.inl rfl) ko_67 dX7_readPart_26 ?_
    refine G_iconst C (v := 2) rfl dX7_readPart_29 ?_
    refine G_icmp_ne (tgt := 67) C rfl dX7_readPart_30 (fun hc2 => ?_) (fun hc2 => ?_)
    · replace h := (if_neg hc2).symm.trans h
      refine G_aload_n C 0 rfl rfl dX7_readPart_67 ?_
      refine G_bipush C (v := 40) rfl dX7_readPart_68 ?_
      obtain ⟨σ3, hv3, h⟩ := bnd h
      refine G_callV (run_V C [.int (40 : Int32)] [] (dX7_takeSign hv3) ml_X7_takeSign mv_X7_takeSign lk_X7_114 (rml (by omega) (by omega)) ⟨(Nat.le_of_ble_eq_true rfl), (Nat.le_of_ble_eq_true rfl)⟩ vq_7 rfl ko_67 rfl (Nat.le_of_ble_eq_true rfl) dX7_readPart_70) ?_
      refine G_aload_n C 0 rfl rfl dX7_readPart_73 ?_
      refine G_getI C fl_X7_29_7 (Or.inl rfl) ko_67 dX7_readPart_74 ?_
      refine G_if_ne (tgt := 93) C rfl dX7_readPart_77 (fun hc4 => ?_) (fun hc4 => ?_)
      · replace h := (if_neg hc4).symm.trans h
        obtain rfl := Option.some.inj h
        exact G_vret C hr (Nat.le_of_ble_eq_true rfl) (Nat.le_of_ble_eq_true rfl) dX7_readPart_93
      · replace h := (if_pos hc4).symm.trans h
        refine G_aload_n C 0 rfl rfl dX7_readPart_80 ?_
        refine G_iload_n C 1 rfl rfl dX7_readPart_81 ?_
        refine G_iconst C (v := 1) rfl dX7_readPart_82 ?_
        refine G_iadd C dX7_readPart_83 ?_
        obtain ⟨σ5, hv5, h⟩ := bnd h
        refine G_callV (run_V C [.int (p0 + (1 : Int32))] [] (hfE _ _ _ hv5) ml_X7_readExpr mv_X7_readExpr lk_X7_97 (rml (by omega) (by omega)) ⟨(Nat.le_of_ble_eq_true rfl), (Nat.le_of_ble_eq_true rfl)⟩ vq_7 rfl ko_67 rfl (Nat.le_of_ble_eq_true rfl) dX7_readPart_84) ?_
        refine G_aload_n C 0 rfl rfl dX7_readPart_87 ?_
        refine G_bipush C (v := 41) rfl dX7_readPart_88 ?_
        obtain ⟨σ6, hv6, h⟩ := bnd h
        refine G_callV (run_V C [.int (41 : Int32)] [] (dX7_takeSign hv6) ml_X7_takeSign mv_X7_takeSign lk_X7_114 (rml (by omega) (by omega)) ⟨(Nat.le_of_ble_eq_true rfl), (Nat.le_of_ble_eq_true rfl)⟩ vq_7 rfl ko_67 rfl (Nat.le_of_ble_eq_true rfl) dX7_readPart_90) ?_
        obtain rfl := Option.some.inj h
        exact G_vret C hr (Nat.le_of_ble_eq_true rfl) (Nat.le_of_ble_eq_true rfl) dX7_readPart_93
    · replace h := (if_pos hc2).symm.trans h
      refine G_aload_n C 0 rfl rfl dX7_readPart_33 ?_
      refine G_ldcS (k := 3) C rfl (by decide) (List.mem_of_getElem? (l := rtx) (i := 3) rfl) dX7_readPart_34 ?_
      obtain ⟨v7, hv7, h⟩ := bnd h
      refine G_callI (run_V C [.ref 5] [] (dX7_wordAmong hv7) ml_X7_wordAmong mv_X7_wordAmong lk_X7_85 (rml (by omega) (by omega)) ⟨(Nat.le_of_ble_eq_true rfl), (Nat.le_of_ble_eq_true rfl)⟩ vq_7 rfl ko_67 rfl (Nat.le_of_ble_eq_true rfl) dX7_readPart_36) ?_
      refine G_istore_n (L' := [(2, .int v7), (0, .ref 67), (1, .int p0)]) C rfl (Nat.le_of_ble_eq_true rfl) rfl dX7_readPart_39 ?_
      refine G_iload_n C 0 rfl rfl dX7_readPart_40 ?_
      refine G_iconst C (v := -1) rfl dX7_readPart_41 ?_
      refine G_icmp_ne (tgt := 50) C rfl dX7_readPart_42 (fun hc8 => ?_) (fun hc8 => ?_)
      · replace h := (if_neg hc8).symm.trans h
        refine G_sub [1, 0] rfl ?_
        exact eX7_readPart_50 hD hfE C hr h
      · replace h := (if_pos hc8).symm.trans h
        refine G_aload_n C 1 rfl rfl dX7_readPart_45 ?_
        refine G_iconst C (v := 3) rfl dX7_readPart_46 ?_
        obtain ⟨σ12, hv12, h⟩ := bnd h
        refine G_callV (run_V C [.int (3 : Int32)] [] (dX7_refuse hv12) ml_X7_refuse mv_X7_refuse lk_X7_91 (rml (by omega) (by omega)) ⟨(Nat.le_of_ble_eq_true rfl), (Nat.le_of_ble_eq_true rfl)⟩ vq_7 rfl ko_67 rfl (Nat.le_of_ble_eq_true rfl) dX7_readPart_47) ?_
        refine G_sub [1, 0] rfl ?_
        exact eX7_readPart_50 hD hfE C hr h
  · replace h := (if_pos hc1).symm.trans h
    refine G_aload_n C 0 rfl rfl dX7_readPart_8 ?_
    refine G_getR C fl_X7_25_7 rfl ko_67 dX7_readPart_9 ?_
    refine G_aload_n C 0 rfl rfl dX7_readPart_12 ?_
    refine G_iconst C (v := 0) rfl dX7_readPart_13 ?_
    refine G_ldc C kc_X7_103 dX7_readPart_14 ?_
    obtain ⟨v13, σ13, hv13, h⟩ := bd2_elim h
    refine G_callI (run_V C [.int (0 : Int32), .int (99999999 : Int32)] [.ref (sR σ 67 3)] (dX7_takeNumber hv13) ml_X7_takeNumber mv_X7_takeNumber lk_X7_104 (rml (by omega) (by omega)) ⟨(Nat.le_of_ble_eq_true rfl), (Nat.le_of_ble_eq_true rfl)⟩ vq_7 rfl ko_67 rfl (Nat.le_of_ble_eq_true rfl) dX7_readPart_16) ?_
    obtain ⟨hc15, h⟩ := ifn h
    obtain ⟨σ14, hv14, h⟩ := bnd h
    refine G_callV (run_V C [.int v13] [] (dX4_addDue hc15 hv14) ml_X4_addDue mv_X4_addDue lk_X7_144 (rml (by omega) (by omega)) ⟨(Nat.le_of_ble_eq_true rfl), (Nat.le_of_ble_eq_true rfl)⟩ vq_4 rfl (KO.dy hc15) rfl (Nat.le_of_ble_eq_true rfl) dX7_readPart_19) ?_
    refine G_goto (tgt := 93) C rfl dX7_readPart_22 ?_
    obtain rfl := Option.some.inj h
    exact G_vret C hr (Nat.le_of_ble_eq_true rfl) (Nat.le_of_ble_eq_true rfl) dX7_readPart_93
set_option maxRecDepth 100000 in
set_option maxHeartbeats 4000000 in
theorem eX7_readProduct_56  {fE : Int32 → Sto → Option Sto} {D : Nat} (hD : 16 ≤ D) (hfE : EH l E fE D)(C : Cx E p s m args meth c cX7_readProduct 4 RX7) (hr : meth.sig.returnType = none) {σ0 : Sto} {r2 : Sto} {σ : Sto} {f7 : Int32 → Int32 → Sto → Option Sto} {x1 : Int32} {x2 : Int32} {y0 : Int32} (hf7 : ∀ (x1 : Int32) (x2 : Int32) (σ' : Sto), f7 x1 x2 σ' = some r2 → G p l e (rmd (D + 2) 0 0) s m args below meth c E true (sZ σ0) ad0 (MQ below (QV E true σ0 r2 ad0) args s 0 0 (AE E)) 4 0 0 σ' 7 [(0, .ref 67), (1, .int x1), (2, .int x2)] []) (h : mX7_readProduct_56 fE f7 x1 x2 y0 σ = some r2) : G p l e (rmd (D + 2) 0 0) s m args below meth c E true (sZ σ0) ad0 (MQ below (QV E true σ0 r2 ad0) args s 0 0 (AE E)) 4 0 0 σ 56 [(0, .ref 67), (1, .int x1), (2, .int x2)] [.int y0] := by
  unfold mX7_readProduct_56 at h
  refine G_istore_n (L' := [(3, .int y0), (0, .ref 67), (1, .int x1), (2, .int x2)]) C rfl (Nat.le_of_ble_eq_true rfl) rfl dX7_readProduct_56 ?_
  refine G_aload_n C 1 rfl rfl dX7_readProduct_57 ?_
  obtain ⟨σ6, hv6, h⟩ := bnd h
  refine G_callV (run_V C [] [] (dX7_next hv6) ml_X7_next mv_X7_next lk_X7_59 (rml (by omega) (by omega)) ⟨(Nat.le_of_ble_eq_true rfl), (Nat.le_of_ble_eq_true rfl)⟩ vq_7 rfl ko_67 rfl (Nat.le_of_ble_eq_true rfl) dX7_readProduct_58) ?_
  refine G_aload_n C 1 rfl rfl dX7_readProduct_61 ?_
  refine G_iload_n C 2 rfl rfl dX7_readProduct_62 ?_
  obtain ⟨σ7, hv7, h⟩ := bnd h
  refine G_callV (run_V C [.int x1] [] (dX7_readPart hD hfE hv7) ml_X7_readPart mv_X7_readPart lk_X7_160 (rml (by omega) (by omega)) ⟨(Nat.le_of_ble_eq_true rfl), (Nat.le_of_ble_eq_true rfl)⟩ vq_7 rfl ko_67 rfl (Nat.le_of_ble_eq_true rfl) dX7_readProduct_63) ?_
  refine G_aload_n C 1 rfl rfl dX7_readProduct_66 ?_
  refine G_getR C fl_X7_25_7 rfl ko_67 dX7_readProduct_67 ?_
  refine G_iload_n C 0 rfl rfl dX7_readProduct_70 ?_
  obtain ⟨hc9, h⟩ := ifn h
  obtain ⟨σ8, hv8, h⟩ := bnd h
  refine G_callV (run_V C [.int y0] [] (dX4_addDue hc9 hv8) ml_X4_addDue mv_X4_addDue lk_X7_144 (rml (by omega) (by omega)) ⟨(Nat.le_of_ble_eq_true rfl), (Nat.le_of_ble_eq_true rfl)⟩ vq_4 rfl (KO.dy hc9) rfl (Nat.le_of_ble_eq_true rfl) dX7_readProduct_71) ?_
  refine G_iinc (v := 1) (L' := [(2, .int (x2 + (1 : Int32))), (3, .int y0), (0, .ref 67), (1, .int x1)]) C 3 rfl rfl (Nat.le_of_ble_eq_true rfl) rfl dX7_readProduct_74 ?_
  refine G_goto (tgt := 7) C rfl dX7_readProduct_77 ?_
  refine G_sub [2, 3, 0] rfl ?_
  exact hf7 _ _ _ h
set_option maxRecDepth 100000 in
set_option maxHeartbeats 4000000 in
theorem eX7_readProduct_40  {fE : Int32 → Sto → Option Sto} {D : Nat} (hD : 16 ≤ D) (hfE : EH l E fE D)(C : Cx E p s m args meth c cX7_readProduct 4 RX7) (hr : meth.sig.returnType = none) {σ0 : Sto} {r2 : Sto} {σ : Sto} {f7 : Int32 → Int32 → Sto → Option Sto} {x1 : Int32} {x2 : Int32} (hf7 : ∀ (x1 : Int32) (x2 : Int32) (σ' : Sto), f7 x1 x2 σ' = some r2 → G p l e (rmd (D + 2) 0 0) s m args below meth c E true (sZ σ0) ad0 (MQ below (QV E true σ0 r2 ad0) args s 0 0 (AE E)) 4 0 0 σ' 7 [(0, .ref 67), (1, .int x1), (2, .int x2)] []) (h : mX7_readProduct_40 fE f7 x1 x2 σ = some r2) : G p l e (rmd (D + 2) 0 0) s m args below meth c E true (sZ σ0) ad0 (MQ below (QV E true σ0 r2 ad0) args s 0 0 (AE E)) 4 0 0 σ 40 [(0, .ref 67), (1, .int x1), (2, .int x2)] [] := by
  unfold mX7_readProduct_40 at h
  refine G_aload_n C 0 rfl rfl dX7_readProduct_40 ?_
  refine G_getI C fl_X7_35_7 (Or.inl rfl) ko_67 dX7_readProduct_41 ?_
  refine G_bipush C (v := 42) rfl dX7_readProduct_44 ?_
  refine G_icmp_ne (tgt := 54) C rfl dX7_readProduct_46 (fun hc5 => ?_) (fun hc5 => ?_)
  · replace h := (if_neg hc5).symm.trans h
    refine G_bipush C (v := -19) rfl dX7_readProduct_54 ?_
    exact eX7_readProduct_56 hD hfE C hr hf7 h
  · replace h := (if_pos hc5).symm.trans h
    refine G_bipush C (v := -18) rfl dX7_readProduct_49 ?_
    refine G_goto (tgt := 56) C rfl dX7_readProduct_51 ?_
    exact eX7_readProduct_56 hD hfE C hr hf7 h
set_option maxRecDepth 100000 in
set_option maxHeartbeats 4000000 in
theorem eX7_readProduct_7B  {fE : Int32 → Sto → Option Sto} {D : Nat} (hD : 16 ≤ D) (hfE : EH l E fE D)(C : Cx E p s m args meth c cX7_readProduct 4 RX7) (hr : meth.sig.returnType = none) {σ0 : Sto} {r2 : Sto} {σ : Sto} {f7 : Int32 → Int32 → Sto → Option Sto} {x1 : Int32} {x2 : Int32} (hf7 : ∀ (x1 : Int32) (x2 : Int32) (σ' : Sto), f7 x1 x2 σ' = some r2 → G p l e (rmd (D + 2) 0 0) s m args below meth c E true (sZ σ0) ad0 (MQ below (QV E true σ0 r2 ad0) args s 0 0 (AE E)) 4 0 0 σ' 7 [(0, .ref 67), (1, .int x1), (2, .int x2)] []) (h : mX7_readProduct_7B fE f7 x1 x2 σ = some r2) : G p l e (rmd (D + 2) 0 0) s m args below meth c E true (sZ σ0) ad0 (MQ below (QV E true σ0 r2 ad0) args s 0 0 (AE E)) 4 0 0 σ 7 [(0, .ref 67), (1, .int x1), (2, .int x2)] [] := by
  unfold mX7_readProduct_7B at h
  refine G_iload_n C 2 rfl rfl dX7_readProduct_7 ?_
  refine G_aload_n C 0 rfl rfl dX7_readProduct_8 ?_
  refine G_getI C fl_X7_15_7 (Or.inl rfl) ko_67 dX7_readProduct_9 ?_
  refine G_icmp_ge (tgt := 80) C rfl dX7_readProduct_12 (fun hc2 => ?_) (fun hc2 => ?_)
  · replace h := (if_pos hc2).symm.trans h
    obtain rfl := Option.some.inj h
    exact G_vret C hr (Nat.le_of_ble_eq_true rfl) (Nat.le_of_ble_eq_true rfl) dX7_readProduct_80
  · replace h := (if_neg hc2).symm.trans h
    refine G_aload_n C 0 rfl rfl dX7_readProduct_15 ?_
    refine G_getI C fl_X7_29_7 (Or.inl rfl) ko_67 dX7_readProduct_16 ?_
    refine G_if_ne (tgt := 80) C rfl dX7_readProduct_19 (fun hc3 => ?_) (fun hc3 => ?_)
    · replace h := (if_neg hc3).symm.trans h
      obtain rfl := Option.some.inj h
      exact G_vret C hr (Nat.le_of_ble_eq_true rfl) (Nat.le_of_ble_eq_true rfl) dX7_readProduct_80
    · replace h := (if_pos hc3).symm.trans h
      refine G_aload_n C 0 rfl rfl dX7_readProduct_22 ?_
      refine G_getI C fl_X7_35_7 (Or.inl rfl) ko_67 dX7_readProduct_23 ?_
      refine G_bipush C (v := 42) rfl dX7_readProduct_26 ?_
      refine G_icmp_eq (tgt := 40) C rfl dX7_readProduct_28 (fun hc4 => ?_) (fun hc4 => ?_)
      · replace h := (if_pos hc4).symm.trans h
        exact eX7_readProduct_40 hD hfE C hr hf7 h
      · replace h := (if_neg hc4).symm.trans h
        refine G_aload_n C 0 rfl rfl dX7_readProduct_31 ?_
        refine G_getI C fl_X7_35_7 (Or.inl rfl) ko_67 dX7_readProduct_32 ?_
        refine G_bipush C (v := 47) rfl dX7_readProduct_35 ?_
        refine G_icmp_ne (tgt := 80) C rfl dX7_readProduct_37 (fun hc10 => ?_) (fun hc10 => ?_)
        · replace h := (if_neg hc10).symm.trans h
          obtain rfl := Option.some.inj h
          exact G_vret C hr (Nat.le_of_ble_eq_true rfl) (Nat.le_of_ble_eq_true rfl) dX7_readProduct_80
        · replace h := (if_pos hc10).symm.trans h
          exact eX7_readProduct_40 hD hfE C hr hf7 h
set_option maxRecDepth 100000 in
set_option maxHeartbeats 4000000 in
theorem eX7_readProduct_7  {fE : Int32 → Sto → Option Sto} {D : Nat} (hD : 16 ≤ D) (hfE : EH l E fE D)(C : Cx E p s m args meth c cX7_readProduct 4 RX7) (hr : meth.sig.returnType = none) {σ0 : Sto} {r2 : Sto} {σ : Sto} {n : Nat} {x1 : Int32} {x2 : Int32} (h : mX7_readProduct_7 fE n x1 x2 σ = some r2) : G p l e (rmd (D + 2) 0 0) s m args below meth c E true (sZ σ0) ad0 (MQ below (QV E true σ0 r2 ad0) args s 0 0 (AE E)) 4 0 0 σ 7 [(0, .ref 67), (1, .int x1), (2, .int x2)] [] := by
  induction n generalizing x1 x2 σ with
  | zero => exact nomatch (show (none : Option Sto) = some r2 from h)
  | succ n ih => exact eX7_readProduct_7B hD hfE C hr (fun z0 z1 σ9 h9 => ih h9) h
set_option maxRecDepth 100000 in
set_option maxHeartbeats 4000000 in
theorem dX7_readProduct {fE : Int32 → Sto → Option Sto} {D : Nat} (hD : 16 ≤ D) (hfE : EH l E fE D) {σ : Sto} {p0 : Int32} {r2 : Sto} (h : mX7_readProduct fE p0 σ = some r2) : MM l yX7_readProduct cX7_readProduct 4 none (D + 2) 0 0 E true σ [.ref 67, .int p0] (QV E true σ r2) := by
  unfold mX7_readProduct at h
  refine MM_of (by decide) (Nat.le_of_ble_eq_true rfl) rfl (fun p e s m args below meth c ad0 C hr hn => ?_)
  refine G_aload_n C 0 rfl rfl dX7_readProduct_0 ?_
  refine G_iload_n C 1 rfl rfl dX7_readProduct_1 ?_
  obtain ⟨σ1, hv1, h⟩ := bnd h
  refine G_callV (run_V C [.int p0] [] (dX7_readPart hD hfE hv1) ml_X7_readPart mv_X7_readPart lk_X7_160 (rml (by omega) (by omega)) ⟨(Nat.le_of_ble_eq_true rfl), (Nat.le_of_ble_eq_true rfl)⟩ vq_7 rfl ko_67 rfl (Nat.le_of_ble_eq_true rfl) dX7_readProduct_2) ?_
  refine G_iconst C (v := 0) rfl dX7_readProduct_5 ?_
  refine G_istore_n (L' := [(2, .int (0 : Int32)), (0, .ref 67), (1, .int p0)]) C rfl (Nat.le_of_ble_eq_true rfl) rfl dX7_readProduct_6 ?_
  refine G_sub [1, 2, 0] rfl ?_
  exact eX7_readProduct_7 hD hfE C hr h
set_option maxRecDepth 100000 in
set_option maxHeartbeats 4000000 in
theorem eX7_readSum_56  {fE : Int32 → Sto → Option Sto} {D : Nat} (hD : 16 ≤ D) (hfE : EH l E fE D)(C : Cx E p s m args meth c cX7_readSum 4 RX7) (hr : meth.sig.returnType = none) {σ0 : Sto} {r2 : Sto} {σ : Sto} {f7 : Int32 → Int32 → Sto → Option Sto} {x1 : Int32} {x2 : Int32} {y0 : Int32} (hf7 : ∀ (x1 : Int32) (x2 : Int32) (σ' : Sto), f7 x1 x2 σ' = some r2 → G p l e (rmd (D + 3) 0 0) s m args below meth c E true (sZ σ0) ad0 (MQ below (QV E true σ0 r2 ad0) args s 0 0 (AE E)) 4 0 0 σ' 7 [(0, .ref 67), (1, .int x1), (2, .int x2)] []) (h : mX7_readSum_56 fE f7 x1 x2 y0 σ = some r2) : G p l e (rmd (D + 3) 0 0) s m args below meth c E true (sZ σ0) ad0 (MQ below (QV E true σ0 r2 ad0) args s 0 0 (AE E)) 4 0 0 σ 56 [(0, .ref 67), (1, .int x1), (2, .int x2)] [.int y0] := by
  unfold mX7_readSum_56 at h
  refine G_istore_n (L' := [(3, .int y0), (0, .ref 67), (1, .int x1), (2, .int x2)]) C rfl (Nat.le_of_ble_eq_true rfl) rfl dX7_readSum_56 ?_
  refine G_aload_n C 1 rfl rfl dX7_readSum_57 ?_
  obtain ⟨σ6, hv6, h⟩ := bnd h
  refine G_callV (run_V C [] [] (dX7_next hv6) ml_X7_next mv_X7_next lk_X7_59 (rml (by omega) (by omega)) ⟨(Nat.le_of_ble_eq_true rfl), (Nat.le_of_ble_eq_true rfl)⟩ vq_7 rfl ko_67 rfl (Nat.le_of_ble_eq_true rfl) dX7_readSum_58) ?_
  refine G_aload_n C 1 rfl rfl dX7_readSum_61 ?_
  refine G_iload_n C 2 rfl rfl dX7_readSum_62 ?_
  obtain ⟨σ7, hv7, h⟩ := bnd h
  refine G_callV (run_V C [.int x1] [] (dX7_readProduct hD hfE hv7) ml_X7_readProduct mv_X7_readProduct lk_X7_157 (rml (by omega) (by omega)) ⟨(Nat.le_of_ble_eq_true rfl), (Nat.le_of_ble_eq_true rfl)⟩ vq_7 rfl ko_67 rfl (Nat.le_of_ble_eq_true rfl) dX7_readSum_63) ?_
  refine G_aload_n C 1 rfl rfl dX7_readSum_66 ?_
  refine G_getR C fl_X7_25_7 rfl ko_67 dX7_readSum_67 ?_
  refine G_iload_n C 0 rfl rfl dX7_readSum_70 ?_
  obtain ⟨hc9, h⟩ := ifn h
  obtain ⟨σ8, hv8, h⟩ := bnd h
  refine G_callV (run_V C [.int y0] [] (dX4_addDue hc9 hv8) ml_X4_addDue mv_X4_addDue lk_X7_144 (rml (by omega) (by omega)) ⟨(Nat.le_of_ble_eq_true rfl), (Nat.le_of_ble_eq_true rfl)⟩ vq_4 rfl (KO.dy hc9) rfl (Nat.le_of_ble_eq_true rfl) dX7_readSum_71) ?_
  refine G_iinc (v := 1) (L' := [(2, .int (x2 + (1 : Int32))), (3, .int y0), (0, .ref 67), (1, .int x1)]) C 3 rfl rfl (Nat.le_of_ble_eq_true rfl) rfl dX7_readSum_74 ?_
  refine G_goto (tgt := 7) C rfl dX7_readSum_77 ?_
  refine G_sub [2, 3, 0] rfl ?_
  exact hf7 _ _ _ h
set_option maxRecDepth 100000 in
set_option maxHeartbeats 4000000 in
theorem eX7_readSum_40  {fE : Int32 → Sto → Option Sto} {D : Nat} (hD : 16 ≤ D) (hfE : EH l E fE D)(C : Cx E p s m args meth c cX7_readSum 4 RX7) (hr : meth.sig.returnType = none) {σ0 : Sto} {r2 : Sto} {σ : Sto} {f7 : Int32 → Int32 → Sto → Option Sto} {x1 : Int32} {x2 : Int32} (hf7 : ∀ (x1 : Int32) (x2 : Int32) (σ' : Sto), f7 x1 x2 σ' = some r2 → G p l e (rmd (D + 3) 0 0) s m args below meth c E true (sZ σ0) ad0 (MQ below (QV E true σ0 r2 ad0) args s 0 0 (AE E)) 4 0 0 σ' 7 [(0, .ref 67), (1, .int x1), (2, .int x2)] []) (h : mX7_readSum_40 fE f7 x1 x2 σ = some r2) : G p l e (rmd (D + 3) 0 0) s m args below meth c E true (sZ σ0) ad0 (MQ below (QV E true σ0 r2 ad0) args s 0 0 (AE E)) 4 0 0 σ 40 [(0, .ref 67), (1, .int x1), (2, .int x2)] [] := by
  unfold mX7_readSum_40 at h
  refine G_aload_n C 0 rfl rfl dX7_readSum_40 ?_
  refine G_getI C fl_X7_35_7 (Or.inl rfl) ko_67 dX7_readSum_41 ?_
  refine G_bipush C (v := 43) rfl dX7_readSum_44 ?_
  refine G_icmp_ne (tgt := 54) C rfl dX7_readSum_46 (fun hc5 => ?_) (fun hc5 => ?_)
  · replace h := (if_neg hc5).symm.trans h
    refine G_bipush C (v := -17) rfl dX7_readSum_54 ?_
    exact eX7_readSum_56 hD hfE C hr hf7 h
  · replace h := (if_pos hc5).symm.trans h
    refine G_bipush C (v := -16) rfl dX7_readSum_49 ?_
    refine G_goto (tgt := 56) C rfl dX7_readSum_51 ?_
    exact eX7_readSum_56 hD hfE C hr hf7 h
set_option maxRecDepth 100000 in
set_option maxHeartbeats 4000000 in
theorem eX7_readSum_7B  {fE : Int32 → Sto → Option Sto} {D : Nat} (hD : 16 ≤ D) (hfE : EH l E fE D)(C : Cx E p s m args meth c cX7_readSum 4 RX7) (hr : meth.sig.returnType = none) {σ0 : Sto} {r2 : Sto} {σ : Sto} {f7 : Int32 → Int32 → Sto → Option Sto} {x1 : Int32} {x2 : Int32} (hf7 : ∀ (x1 : Int32) (x2 : Int32) (σ' : Sto), f7 x1 x2 σ' = some r2 → G p l e (rmd (D + 3) 0 0) s m args below meth c E true (sZ σ0) ad0 (MQ below (QV E true σ0 r2 ad0) args s 0 0 (AE E)) 4 0 0 σ' 7 [(0, .ref 67), (1, .int x1), (2, .int x2)] []) (h : mX7_readSum_7B fE f7 x1 x2 σ = some r2) : G p l e (rmd (D + 3) 0 0) s m args below meth c E true (sZ σ0) ad0 (MQ below (QV E true σ0 r2 ad0) args s 0 0 (AE E)) 4 0 0 σ 7 [(0, .ref 67), (1, .int x1), (2, .int x2)] [] := by
  unfold mX7_readSum_7B at h
  refine G_iload_n C 2 rfl rfl dX7_readSum_7 ?_
  refine G_aload_n C 0 rfl rfl dX7_readSum_8 ?_
  refine G_getI C fl_X7_15_7 (Or.inl rfl) ko_67 dX7_readSum_9 ?_
  refine G_icmp_ge (tgt := 80) C rfl dX7_readSum_12 (fun hc2 => ?_) (fun hc2 => ?_)
  · replace h := (if_pos hc2).symm.trans h
    obtain rfl := Option.some.inj h
    exact G_vret C hr (Nat.le_of_ble_eq_true rfl) (Nat.le_of_ble_eq_true rfl) dX7_readSum_80
  · replace h := (if_neg hc2).symm.trans h
    refine G_aload_n C 0 rfl rfl dX7_readSum_15 ?_
    refine G_getI C fl_X7_29_7 (Or.inl rfl) ko_67 dX7_readSum_16 ?_
    refine G_if_ne (tgt := 80) C rfl dX7_readSum_19 (fun hc3 => ?_) (fun hc3 => ?_)
    · replace h := (if_neg hc3).symm.trans h
      obtain rfl := Option.some.inj h
      exact G_vret C hr (Nat.le_of_ble_eq_true rfl) (Nat.le_of_ble_eq_true rfl) dX7_readSum_80
    · replace h := (if_pos hc3).symm.trans h
      refine G_aload_n C 0 rfl rfl dX7_readSum_22 ?_
      refine G_getI C fl_X7_35_7 (Or.inl rfl) ko_67 dX7_readSum_23 ?_
      refine G_bipush C (v := 43) rfl dX7_readSum_26 ?_
      refine G_icmp_eq (tgt := 40) C rfl dX7_readSum_28 (fun hc4 => ?_) (fun hc4 => ?_)
      · replace h := (if_pos hc4).symm.trans h
        exact eX7_readSum_40 hD hfE C hr hf7 h
      · replace h := (if_neg hc4).symm.trans h
        refine G_aload_n C 0 rfl rfl dX7_readSum_31 ?_
        refine G_getI C fl_X7_35_7 (Or.inl rfl) ko_67 dX7_readSum_32 ?_
        refine G_bipush C (v := 45) rfl dX7_readSum_35 ?_
        refine G_icmp_ne (tgt := 80) C rfl dX7_readSum_37 (fun hc10 => ?_) (fun hc10 => ?_)
        · replace h := (if_neg hc10).symm.trans h
          obtain rfl := Option.some.inj h
          exact G_vret C hr (Nat.le_of_ble_eq_true rfl) (Nat.le_of_ble_eq_true rfl) dX7_readSum_80
        · replace h := (if_pos hc10).symm.trans h
          exact eX7_readSum_40 hD hfE C hr hf7 h
set_option maxRecDepth 100000 in
set_option maxHeartbeats 4000000 in
theorem eX7_readSum_7  {fE : Int32 → Sto → Option Sto} {D : Nat} (hD : 16 ≤ D) (hfE : EH l E fE D)(C : Cx E p s m args meth c cX7_readSum 4 RX7) (hr : meth.sig.returnType = none) {σ0 : Sto} {r2 : Sto} {σ : Sto} {n : Nat} {x1 : Int32} {x2 : Int32} (h : mX7_readSum_7 fE n x1 x2 σ = some r2) : G p l e (rmd (D + 3) 0 0) s m args below meth c E true (sZ σ0) ad0 (MQ below (QV E true σ0 r2 ad0) args s 0 0 (AE E)) 4 0 0 σ 7 [(0, .ref 67), (1, .int x1), (2, .int x2)] [] := by
  induction n generalizing x1 x2 σ with
  | zero => exact nomatch (show (none : Option Sto) = some r2 from h)
  | succ n ih => exact eX7_readSum_7B hD hfE C hr (fun z0 z1 σ9 h9 => ih h9) h
set_option maxRecDepth 100000 in
set_option maxHeartbeats 4000000 in
theorem dX7_readSum {fE : Int32 → Sto → Option Sto} {D : Nat} (hD : 16 ≤ D) (hfE : EH l E fE D) {σ : Sto} {p0 : Int32} {r2 : Sto} (h : mX7_readSum fE p0 σ = some r2) : MM l yX7_readSum cX7_readSum 4 none (D + 3) 0 0 E true σ [.ref 67, .int p0] (QV E true σ r2) := by
  unfold mX7_readSum at h
  refine MM_of (by decide) (Nat.le_of_ble_eq_true rfl) rfl (fun p e s m args below meth c ad0 C hr hn => ?_)
  refine G_aload_n C 0 rfl rfl dX7_readSum_0 ?_
  refine G_iload_n C 1 rfl rfl dX7_readSum_1 ?_
  obtain ⟨σ1, hv1, h⟩ := bnd h
  refine G_callV (run_V C [.int p0] [] (dX7_readProduct hD hfE hv1) ml_X7_readProduct mv_X7_readProduct lk_X7_157 (rml (by omega) (by omega)) ⟨(Nat.le_of_ble_eq_true rfl), (Nat.le_of_ble_eq_true rfl)⟩ vq_7 rfl ko_67 rfl (Nat.le_of_ble_eq_true rfl) dX7_readSum_2) ?_
  refine G_iconst C (v := 0) rfl dX7_readSum_5 ?_
  refine G_istore_n (L' := [(2, .int (0 : Int32)), (0, .ref 67), (1, .int p0)]) C rfl (Nat.le_of_ble_eq_true rfl) rfl dX7_readSum_6 ?_
  refine G_sub [1, 2, 0] rfl ?_
  exact eX7_readSum_7 hD hfE C hr h
set_option maxRecDepth 100000 in
set_option maxHeartbeats 4000000 in
theorem eX7_readNot_108B  {fE : Int32 → Sto → Option Sto} {D : Nat} (hD : 16 ≤ D) (hfE : EH l E fE D)(C : Cx E p s m args meth c cX7_readNot 4 RX7) (hr : meth.sig.returnType = none) {σ0 : Sto} {r2 : Sto} {σ : Sto} {f108 : Int32 → Int32 → Sto → Option Sto} {x2 : Int32} {x3 : Int32} (hf108 : ∀ (x2 : Int32) (x3 : Int32) (σ' : Sto), f108 x2 x3 σ' = some r2 → G p l e (rmd (D + 4) 0 0) s m args below meth c E true (sZ σ0) ad0 (MQ below (QV E true σ0 r2 ad0) args s 0 0 (AE E)) 4 0 0 σ' 108 [(0, .ref 67), (2, .int x2), (3, .int x3)] []) (h : mX7_readNot_108B fE f108 x2 x3 σ = some r2) : G p l e (rmd (D + 4) 0 0) s m args below meth c E true (sZ σ0) ad0 (MQ below (QV E true σ0 r2 ad0) args s 0 0 (AE E)) 4 0 0 σ 108 [(0, .ref 67), (2, .int x2), (3, .int x3)] [] := by
  unfold mX7_readNot_108B at h
  refine G_iload_n C 2 rfl rfl dX7_readNot_108 ?_
  refine G_iload_n C 1 rfl rfl dX7_readNot_109 ?_
  refine G_icmp_ge (tgt := 128) C rfl dX7_readNot_110 (fun hc6 => ?_) (fun hc6 => ?_)
  · replace h := (if_pos hc6).symm.trans h
    obtain rfl := Option.some.inj h
    exact G_vret C hr (Nat.le_of_ble_eq_true rfl) (Nat.le_of_ble_eq_true rfl) dX7_readNot_128
  · replace h := (if_neg hc6).symm.trans h
    refine G_aload_n C 0 rfl rfl dX7_readNot_113 ?_
    refine G_getR C fl_X7_25_7 rfl ko_67 dX7_readNot_114 ?_
    refine G_bipush C (v := -13) rfl dX7_readNot_117 ?_
    obtain ⟨hc8, h⟩ := ifn h
    obtain ⟨σ7, hv7, h⟩ := bnd h
    refine G_callV (run_V C [.int (-13 : Int32)] [] (dX4_addDue hc8 hv7) ml_X4_addDue mv_X4_addDue lk_X7_144 (rml (by omega) (by omega)) ⟨(Nat.le_of_ble_eq_true rfl), (Nat.le_of_ble_eq_true rfl)⟩ vq_4 rfl (KO.dy hc8) rfl (Nat.le_of_ble_eq_true rfl) dX7_readNot_119) ?_
    refine G_iinc (v := 1) (L' := [(3, .int (x3 + (1 : Int32))), (0, .ref 67), (2, .int x2)]) C 2 rfl rfl (Nat.le_of_ble_eq_true rfl) rfl dX7_readNot_122 ?_
    refine G_goto (tgt := 108) C rfl dX7_readNot_125 ?_
    refine G_sub [1, 2, 0] rfl ?_
    exact hf108 _ _ _ h
set_option maxRecDepth 100000 in
set_option maxHeartbeats 4000000 in
theorem eX7_readNot_108  {fE : Int32 → Sto → Option Sto} {D : Nat} (hD : 16 ≤ D) (hfE : EH l E fE D)(C : Cx E p s m args meth c cX7_readNot 4 RX7) (hr : meth.sig.returnType = none) {σ0 : Sto} {r2 : Sto} {σ : Sto} {n : Nat} {x2 : Int32} {x3 : Int32} (h : mX7_readNot_108 fE n x2 x3 σ = some r2) : G p l e (rmd (D + 4) 0 0) s m args below meth c E true (sZ σ0) ad0 (MQ below (QV E true σ0 r2 ad0) args s 0 0 (AE E)) 4 0 0 σ 108 [(0, .ref 67), (2, .int x2), (3, .int x3)] [] := by
  induction n generalizing x2 x3 σ with
  | zero => exact nomatch (show (none : Option Sto) = some r2 from h)
  | succ n ih => exact eX7_readNot_108B hD hfE C hr (fun z0 z1 σ9 h9 => ih h9) h
set_option maxRecDepth 100000 in
set_option maxHeartbeats 4000000 in
theorem eX7_readNot_88  {fE : Int32 → Sto → Option Sto} {D : Nat} (hD : 16 ≤ D) (hfE : EH l E fE D)(C : Cx E p s m args meth c cX7_readNot 4 RX7) (hr : meth.sig.returnType = none) {σ0 : Sto} {r2 : Sto} {σ : Sto} {x1 : Int32} {x2 : Int32} {y0 : Int32} (h : mX7_readNot_88 fE x1 x2 y0 σ = some r2) : G p l e (rmd (D + 4) 0 0) s m args below meth c E true (sZ σ0) ad0 (MQ below (QV E true σ0 r2 ad0) args s 0 0 (AE E)) 4 0 0 σ 88 [(0, .ref 67), (1, .int x1), (2, .int x2)] [.int y0] := by
  unfold mX7_readNot_88 at h
  refine G_istore_n (L' := [(3, .int y0), (0, .ref 67), (1, .int x1), (2, .int x2)]) C rfl (Nat.le_of_ble_eq_true rfl) rfl dX7_readNot_88 ?_
  refine G_aload_n C 1 rfl rfl dX7_readNot_89 ?_
  obtain ⟨σ11, hv11, h⟩ := bnd h
  refine G_callV (run_V C [] [] (dX7_next hv11) ml_X7_next mv_X7_next lk_X7_59 (rml (by omega) (by omega)) ⟨(Nat.le_of_ble_eq_true rfl), (Nat.le_of_ble_eq_true rfl)⟩ vq_7 rfl ko_67 rfl (Nat.le_of_ble_eq_true rfl) dX7_readNot_90) ?_
  refine G_aload_n C 1 rfl rfl dX7_readNot_93 ?_
  refine G_iload_n C 2 rfl rfl dX7_readNot_94 ?_
  obtain ⟨σ12, hv12, h⟩ := bnd h
  refine G_callV (run_V C [.int x1] [] (dX7_readSum hD hfE hv12) ml_X7_readSum mv_X7_readSum lk_X7_154 (rml (by omega) (by omega)) ⟨(Nat.le_of_ble_eq_true rfl), (Nat.le_of_ble_eq_true rfl)⟩ vq_7 rfl ko_67 rfl (Nat.le_of_ble_eq_true rfl) dX7_readNot_95) ?_
  refine G_aload_n C 1 rfl rfl dX7_readNot_98 ?_
  refine G_getR C fl_X7_25_7 rfl ko_67 dX7_readNot_99 ?_
  refine G_iload_n C 0 rfl rfl dX7_readNot_102 ?_
  obtain ⟨hc14, h⟩ := ifn h
  obtain ⟨σ13, hv13, h⟩ := bnd h
  refine G_callV (run_V C [.int y0] [] (dX4_addDue hc14 hv13) ml_X4_addDue mv_X4_addDue lk_X7_144 (rml (by omega) (by omega)) ⟨(Nat.le_of_ble_eq_true rfl), (Nat.le_of_ble_eq_true rfl)⟩ vq_4 rfl (KO.dy hc14) rfl (Nat.le_of_ble_eq_true rfl) dX7_readNot_103) ?_
  refine G_iconst C (v := 0) rfl dX7_readNot_106 ?_
  refine G_istore_n (L' := [(3, .int (0 : Int32)), (0, .ref 67), (1, .int x1), (2, .int x2)]) C rfl (Nat.le_of_ble_eq_true rfl) rfl dX7_readNot_107 ?_
  refine G_sub [1, 3, 0] rfl ?_
  exact eX7_readNot_108 hD hfE C hr h
set_option maxRecDepth 100000 in
set_option maxHeartbeats 4000000 in
theorem eX7_readNot_72  {fE : Int32 → Sto → Option Sto} {D : Nat} (hD : 16 ≤ D) (hfE : EH l E fE D)(C : Cx E p s m args meth c cX7_readNot 4 RX7) (hr : meth.sig.returnType = none) {σ0 : Sto} {r2 : Sto} {σ : Sto} {x1 : Int32} {x2 : Int32} (h : mX7_readNot_72 fE x1 x2 σ = some r2) : G p l e (rmd (D + 4) 0 0) s m args below meth c E true (sZ σ0) ad0 (MQ below (QV E true σ0 r2 ad0) args s 0 0 (AE E)) 4 0 0 σ 72 [(0, .ref 67), (1, .int x1), (2, .int x2)] [] := by
  unfold mX7_readNot_72 at h
  refine G_aload_n C 0 rfl rfl dX7_readNot_72 ?_
  refine G_getI C fl_X7_35_7 (Or.inl rfl) ko_67 dX7_readNot_73 ?_
  refine G_bipush C (v := 60) rfl dX7_readNot_76 ?_
  refine G_icmp_ne (tgt := 86) C rfl dX7_readNot_78 (fun hc10 => ?_) (fun hc10 => ?_)
  · replace h := (if_neg hc10).symm.trans h
    refine G_bipush C (v := -15) rfl dX7_readNot_86 ?_
    exact eX7_readNot_88 hD hfE C hr h
  · replace h := (if_pos hc10).symm.trans h
    refine G_bipush C (v := -14) rfl dX7_readNot_81 ?_
    refine G_goto (tgt := 88) C rfl dX7_readNot_83 ?_
    exact eX7_readNot_88 hD hfE C hr h
set_option maxRecDepth 100000 in
set_option maxHeartbeats 4000000 in
theorem eX7_readNot_27  {fE : Int32 → Sto → Option Sto} {D : Nat} (hD : 16 ≤ D) (hfE : EH l E fE D)(C : Cx E p s m args meth c cX7_readNot 4 RX7) (hr : meth.sig.returnType = none) {σ0 : Sto} {r2 : Sto} {σ : Sto} {x1 : Int32} {x2 : Int32} (h : mX7_readNot_27 fE x1 x2 σ = some r2) : G p l e (rmd (D + 4) 0 0) s m args below meth c E true (sZ σ0) ad0 (MQ below (QV E true σ0 r2 ad0) args s 0 0 (AE E)) 4 0 0 σ 27 [(0, .ref 67), (1, .int x1), (2, .int x2)] [] := by
  unfold mX7_readNot_27 at h
  refine G_aload_n C 0 rfl rfl dX7_readNot_27 ?_
  refine G_ldcS (k := 2) C rfl (by decide) (List.mem_of_getElem? (l := rtx) (i := 2) rfl) dX7_readNot_28 ?_
  obtain ⟨v2, hv2, h⟩ := bnd h
  refine G_callI (run_V C [.ref 4] [] (dX7_isWord hv2) ml_X7_isWord mv_X7_isWord lk_X7_140 (rml (by omega) (by omega)) ⟨(Nat.le_of_ble_eq_true rfl), (Nat.le_of_ble_eq_true rfl)⟩ vq_7 rfl ko_67 rfl (Nat.le_of_ble_eq_true rfl) dX7_readNot_30) ?_
  refine G_if_eq (tgt := 42) C rfl dX7_readNot_33 (fun hc3 => ?_) (fun hc3 => ?_)
  · replace h := (if_pos hc3).symm.trans h
    refine G_aload_n C 0 rfl rfl dX7_readNot_42 ?_
    refine G_iload_n C 1 rfl rfl dX7_readNot_43 ?_
    obtain ⟨σ4, hv4, h⟩ := bnd h
    refine G_callV (run_V C [.int x1] [] (dX7_readSum hD hfE hv4) ml_X7_readSum mv_X7_readSum lk_X7_154 (rml (by omega) (by omega)) ⟨(Nat.le_of_ble_eq_true rfl), (Nat.le_of_ble_eq_true rfl)⟩ vq_7 rfl ko_67 rfl (Nat.le_of_ble_eq_true rfl) dX7_readNot_44) ?_
    refine G_aload_n C 0 rfl rfl dX7_readNot_47 ?_
    refine G_getI C fl_X7_29_7 (Or.inl rfl) ko_67 dX7_readNot_48 ?_
    refine G_if_ne (tgt := 106) C rfl dX7_readNot_51 (fun hc5 => ?_) (fun hc5 => ?_)
    · replace h := (if_neg hc5).symm.trans h
      refine G_iconst C (v := 0) rfl dX7_readNot_106 ?_
      refine G_istore_n (L' := [(3, .int (0 : Int32)), (0, .ref 67), (1, .int x1), (2, .int x2)]) C rfl (Nat.le_of_ble_eq_true rfl) rfl dX7_readNot_107 ?_
      refine G_sub [1, 3, 0] rfl ?_
      exact eX7_readNot_108 hD hfE C hr h
    · replace h := (if_pos hc5).symm.trans h
      refine G_aload_n C 0 rfl rfl dX7_readNot_54 ?_
      refine G_getI C fl_X7_35_7 (Or.inl rfl) ko_67 dX7_readNot_55 ?_
      refine G_bipush C (v := 60) rfl dX7_readNot_58 ?_
      refine G_icmp_eq (tgt := 72) C rfl dX7_readNot_60 (fun hc9 => ?_) (fun hc9 => ?_)
      · replace h := (if_pos hc9).symm.trans h
        exact eX7_readNot_72 hD hfE C hr h
      · replace h := (if_neg hc9).symm.trans h
        refine G_aload_n C 0 rfl rfl dX7_readNot_63 ?_
        refine G_getI C fl_X7_35_7 (Or.inl rfl) ko_67 dX7_readNot_64 ?_
        refine G_bipush C (v := 61) rfl dX7_readNot_67 ?_
        refine G_icmp_ne (tgt := 106) C rfl dX7_readNot_69 (fun hc15 => ?_) (fun hc15 => ?_)
        · replace h := (if_neg hc15).symm.trans h
          refine G_iconst C (v := 0) rfl dX7_readNot_106 ?_
          refine G_istore_n (L' := [(3, .int (0 : Int32)), (0, .ref 67), (1, .int x1), (2, .int x2)]) C rfl (Nat.le_of_ble_eq_true rfl) rfl dX7_readNot_107 ?_
          refine G_sub [1, 3, 0] rfl ?_
          exact eX7_readNot_108 hD hfE C hr h
        · replace h := (if_pos hc15).symm.trans h
          exact eX7_readNot_72 hD hfE C hr h
  · replace h := (if_neg hc3).symm.trans h
    refine G_aload_n C 0 rfl rfl dX7_readNot_36 ?_
    refine G_iconst C (v := 2) rfl dX7_readNot_37 ?_
    obtain ⟨σ16, hv16, h⟩ := bnd h
    refine G_callV (run_V C [.int (2 : Int32)] [] (dX7_refuse hv16) ml_X7_refuse mv_X7_refuse lk_X7_91 (rml (by omega) (by omega)) ⟨(Nat.le_of_ble_eq_true rfl), (Nat.le_of_ble_eq_true rfl)⟩ vq_7 rfl ko_67 rfl (Nat.le_of_ble_eq_true rfl) dX7_readNot_38) ?_
    obtain rfl := Option.some.inj h
    exact G_vret C hr (Nat.le_of_ble_eq_true rfl) (Nat.le_of_ble_eq_true rfl) dX7_readNot_41
set_option maxRecDepth 100000 in
set_option maxHeartbeats 4000000 in
theorem eX7_readNot_2B  {fE : Int32 → Sto → Option Sto} {D : Nat} (hD : 16 ≤ D) (hfE : EH l E fE D)(C : Cx E p s m args meth c cX7_readNot 4 RX7) (hr : meth.sig.returnType = none) {σ0 : Sto} {r2 : Sto} {σ : Sto} {f2 : Int32 → Int32 → Sto → Option Sto} {x1 : Int32} {x2 : Int32} (hf2 : ∀ (x1 : Int32) (x2 : Int32) (σ' : Sto), f2 x1 x2 σ' = some r2 → G p l e (rmd (D + 4) 0 0) s m args below meth c E true (sZ σ0) ad0 (MQ below (QV E true σ0 r2 ad0) args s 0 0 (AE E)) 4 0 0 σ' 2 [(0, .ref 67), (1, .int x1), (2, .int x2)] []) (h : mX7_readNot_2B fE f2 x1 x2 σ = some r2) : G p l e (rmd (D + 4) 0 0) s m args below meth c E true (sZ σ0) ad0 (MQ below (QV E true σ0 r2 ad0) args s 0 0 (AE E)) 4 0 0 σ 2 [(0, .ref 67), (1, .int x1), (2, .int x2)] [] := by
  unfold mX7_readNot_2B at h
  refine G_iload_n C 2 rfl rfl dX7_readNot_2 ?_
  refine G_bipush C (v := 6) rfl dX7_readNot_3 ?_
  refine G_icmp_ge (tgt := 27) C rfl dX7_readNot_5 (fun hc1 => ?_) (fun hc1 => ?_)
  · replace h := (if_pos hc1).symm.trans h
    exact eX7_readNot_27 hD hfE C hr h
  · replace h := (if_neg hc1).symm.trans h
    refine G_aload_n C 0 rfl rfl dX7_readNot_8 ?_
    refine G_ldcS (k := 2) C rfl (by decide) (List.mem_of_getElem? (l := rtx) (i := 2) rfl) dX7_readNot_9 ?_
    obtain ⟨v17, hv17, h⟩ := bnd h
    refine G_callI (run_V C [.ref 4] [] (dX7_isWord hv17) ml_X7_isWord mv_X7_isWord lk_X7_140 (rml (by omega) (by omega)) ⟨(Nat.le_of_ble_eq_true rfl), (Nat.le_of_ble_eq_true rfl)⟩ vq_7 rfl ko_67 rfl (Nat.le_of_ble_eq_true rfl) dX7_readNot_11) ?_
    refine G_if_eq (tgt := 27) C rfl dX7_readNot_14 (fun hc18 => ?_) (fun hc18 => ?_)
    · replace h := (if_pos hc18).symm.trans h
      exact eX7_readNot_27 hD hfE C hr h
    · replace h := (if_neg hc18).symm.trans h
      refine G_iinc (v := 1) (L' := [(2, .int (x2 + (1 : Int32))), (0, .ref 67), (1, .int x1)]) C 2 rfl rfl (Nat.le_of_ble_eq_true rfl) rfl dX7_readNot_17 ?_
      refine G_aload_n C 1 rfl rfl dX7_readNot_20 ?_
      obtain ⟨σ19, hv19, h⟩ := bnd h
      refine G_callV (run_V C [] [] (dX7_next hv19) ml_X7_next mv_X7_next lk_X7_59 (rml (by omega) (by omega)) ⟨(Nat.le_of_ble_eq_true rfl), (Nat.le_of_ble_eq_true rfl)⟩ vq_7 rfl ko_67 rfl (Nat.le_of_ble_eq_true rfl) dX7_readNot_21) ?_
      refine G_goto (tgt := 2) C rfl dX7_readNot_24 ?_
      refine G_sub [1, 2, 0] rfl ?_
      exact hf2 _ _ _ h
set_option maxRecDepth 100000 in
set_option maxHeartbeats 4000000 in
theorem eX7_readNot_2  {fE : Int32 → Sto → Option Sto} {D : Nat} (hD : 16 ≤ D) (hfE : EH l E fE D)(C : Cx E p s m args meth c cX7_readNot 4 RX7) (hr : meth.sig.returnType = none) {σ0 : Sto} {r2 : Sto} {σ : Sto} {n : Nat} {x1 : Int32} {x2 : Int32} (h : mX7_readNot_2 fE n x1 x2 σ = some r2) : G p l e (rmd (D + 4) 0 0) s m args below meth c E true (sZ σ0) ad0 (MQ below (QV E true σ0 r2 ad0) args s 0 0 (AE E)) 4 0 0 σ 2 [(0, .ref 67), (1, .int x1), (2, .int x2)] [] := by
  induction n generalizing x1 x2 σ with
  | zero => exact nomatch (show (none : Option Sto) = some r2 from h)
  | succ n ih => exact eX7_readNot_2B hD hfE C hr (fun z0 z1 σ9 h9 => ih h9) h
set_option maxRecDepth 100000 in
set_option maxHeartbeats 4000000 in
theorem dX7_readNot {fE : Int32 → Sto → Option Sto} {D : Nat} (hD : 16 ≤ D) (hfE : EH l E fE D) {σ : Sto} {p0 : Int32} {r2 : Sto} (h : mX7_readNot fE p0 σ = some r2) : MM l yX7_readNot cX7_readNot 4 none (D + 4) 0 0 E true σ [.ref 67, .int p0] (QV E true σ r2) := by
  unfold mX7_readNot at h
  refine MM_of (by decide) (Nat.le_of_ble_eq_true rfl) rfl (fun p e s m args below meth c ad0 C hr hn => ?_)
  refine G_iconst C (v := 0) rfl dX7_readNot_0 ?_
  refine G_istore_n (L' := [(2, .int (0 : Int32)), (0, .ref 67), (1, .int p0)]) C rfl (Nat.le_of_ble_eq_true rfl) rfl dX7_readNot_1 ?_
  refine G_sub [1, 2, 0] rfl ?_
  exact eX7_readNot_2 hD hfE C hr h
set_option maxRecDepth 100000 in
set_option maxHeartbeats 4000000 in
theorem eX7_readAnd_7B  {fE : Int32 → Sto → Option Sto} {D : Nat} (hD : 16 ≤ D) (hfE : EH l E fE D)(C : Cx E p s m args meth c cX7_readAnd 3 RX7) (hr : meth.sig.returnType = none) {σ0 : Sto} {r2 : Sto} {σ : Sto} {f7 : Int32 → Int32 → Sto → Option Sto} {x1 : Int32} {x2 : Int32} (hf7 : ∀ (x1 : Int32) (x2 : Int32) (σ' : Sto), f7 x1 x2 σ' = some r2 → G p l e (rmd (D + 5) 0 0) s m args below meth c E true (sZ σ0) ad0 (MQ below (QV E true σ0 r2 ad0) args s 0 0 (AE E)) 3 0 0 σ' 7 [(0, .ref 67), (1, .int x1), (2, .int x2)] []) (h : mX7_readAnd_7B fE f7 x1 x2 σ = some r2) : G p l e (rmd (D + 5) 0 0) s m args below meth c E true (sZ σ0) ad0 (MQ below (QV E true σ0 r2 ad0) args s 0 0 (AE E)) 3 0 0 σ 7 [(0, .ref 67), (1, .int x1), (2, .int x2)] [] := by
  unfold mX7_readAnd_7B at h
  refine G_iload_n C 2 rfl rfl dX7_readAnd_7 ?_
  refine G_aload_n C 0 rfl rfl dX7_readAnd_8 ?_
  refine G_getI C fl_X7_15_7 (Or.inl rfl) ko_67 dX7_readAnd_9 ?_
  refine G_icmp_ge (tgt := 55) C rfl dX7_readAnd_12 (fun hc2 => ?_) (fun hc2 => ?_)
  · replace h := (if_pos hc2).symm.trans h
    obtain rfl := Option.some.inj h
    exact G_vret C hr (Nat.le_of_ble_eq_true rfl) (Nat.le_of_ble_eq_true rfl) dX7_readAnd_55
  · replace h := (if_neg hc2).symm.trans h
    refine G_aload_n C 0 rfl rfl dX7_readAnd_15 ?_
    refine G_getI C fl_X7_29_7 (Or.inl rfl) ko_67 dX7_readAnd_16 ?_
    refine G_if_ne (tgt := 55) C rfl dX7_readAnd_19 (fun hc3 => ?_) (fun hc3 => ?_)
    · replace h := (if_neg hc3).symm.trans h
      obtain rfl := Option.some.inj h
      exact G_vret C hr (Nat.le_of_ble_eq_true rfl) (Nat.le_of_ble_eq_true rfl) dX7_readAnd_55
    · replace h := (if_pos hc3).symm.trans h
      refine G_aload_n C 0 rfl rfl dX7_readAnd_22 ?_
      refine G_ldcS (k := 4) C rfl (by decide) (List.mem_of_getElem? (l := rtx) (i := 4) rfl) dX7_readAnd_23 ?_
      obtain ⟨v4, hv4, h⟩ := bnd h
      refine G_callI (run_V C [.ref 6] [] (dX7_isWord hv4) ml_X7_isWord mv_X7_isWord lk_X7_140 (rml (by omega) (by omega)) ⟨(Nat.le_of_ble_eq_true rfl), (Nat.le_of_ble_eq_true rfl)⟩ vq_7 rfl ko_67 rfl (Nat.le_of_ble_eq_true rfl) dX7_readAnd_25) ?_
      refine G_if_eq (tgt := 55) C rfl dX7_readAnd_28 (fun hc5 => ?_) (fun hc5 => ?_)
      · replace h := (if_pos hc5).symm.trans h
        obtain rfl := Option.some.inj h
        exact G_vret C hr (Nat.le_of_ble_eq_true rfl) (Nat.le_of_ble_eq_true rfl) dX7_readAnd_55
      · replace h := (if_neg hc5).symm.trans h
        refine G_aload_n C 0 rfl rfl dX7_readAnd_31 ?_
        obtain ⟨σ6, hv6, h⟩ := bnd h
        refine G_callV (run_V C [] [] (dX7_next hv6) ml_X7_next mv_X7_next lk_X7_59 (rml (by omega) (by omega)) ⟨(Nat.le_of_ble_eq_true rfl), (Nat.le_of_ble_eq_true rfl)⟩ vq_7 rfl ko_67 rfl (Nat.le_of_ble_eq_true rfl) dX7_readAnd_32) ?_
        refine G_aload_n C 0 rfl rfl dX7_readAnd_35 ?_
        refine G_iload_n C 1 rfl rfl dX7_readAnd_36 ?_
        obtain ⟨σ7, hv7, h⟩ := bnd h
        refine G_callV (run_V C [.int x1] [] (dX7_readNot hD hfE hv7) ml_X7_readNot mv_X7_readNot lk_X7_147 (rml (by omega) (by omega)) ⟨(Nat.le_of_ble_eq_true rfl), (Nat.le_of_ble_eq_true rfl)⟩ vq_7 rfl ko_67 rfl (Nat.le_of_ble_eq_true rfl) dX7_readAnd_37) ?_
        refine G_aload_n C 0 rfl rfl dX7_readAnd_40 ?_
        refine G_getR C fl_X7_25_7 rfl ko_67 dX7_readAnd_41 ?_
        refine G_bipush C (v := -12) rfl dX7_readAnd_44 ?_
        obtain ⟨hc9, h⟩ := ifn h
        obtain ⟨σ8, hv8, h⟩ := bnd h
        refine G_callV (run_V C [.int (-12 : Int32)] [] (dX4_addDue hc9 hv8) ml_X4_addDue mv_X4_addDue lk_X7_144 (rml (by omega) (by omega)) ⟨(Nat.le_of_ble_eq_true rfl), (Nat.le_of_ble_eq_true rfl)⟩ vq_4 rfl (KO.dy hc9) rfl (Nat.le_of_ble_eq_true rfl) dX7_readAnd_46) ?_
        refine G_iinc (v := 1) (L' := [(2, .int (x2 + (1 : Int32))), (0, .ref 67), (1, .int x1)]) C 2 rfl rfl (Nat.le_of_ble_eq_true rfl) rfl dX7_readAnd_49 ?_
        refine G_goto (tgt := 7) C rfl dX7_readAnd_52 ?_
        refine G_sub [1, 2, 0] rfl ?_
        exact hf7 _ _ _ h
set_option maxRecDepth 100000 in
set_option maxHeartbeats 4000000 in
theorem eX7_readAnd_7  {fE : Int32 → Sto → Option Sto} {D : Nat} (hD : 16 ≤ D) (hfE : EH l E fE D)(C : Cx E p s m args meth c cX7_readAnd 3 RX7) (hr : meth.sig.returnType = none) {σ0 : Sto} {r2 : Sto} {σ : Sto} {n : Nat} {x1 : Int32} {x2 : Int32} (h : mX7_readAnd_7 fE n x1 x2 σ = some r2) : G p l e (rmd (D + 5) 0 0) s m args below meth c E true (sZ σ0) ad0 (MQ below (QV E true σ0 r2 ad0) args s 0 0 (AE E)) 3 0 0 σ 7 [(0, .ref 67), (1, .int x1), (2, .int x2)] [] := by
  induction n generalizing x1 x2 σ with
  | zero => exact nomatch (show (none : Option Sto) = some r2 from h)
  | succ n ih => exact eX7_readAnd_7B hD hfE C hr (fun z0 z1 σ9 h9 => ih h9) h
set_option maxRecDepth 100000 in
set_option maxHeartbeats 4000000 in
theorem dX7_readAnd {fE : Int32 → Sto → Option Sto} {D : Nat} (hD : 16 ≤ D) (hfE : EH l E fE D) {σ : Sto} {p0 : Int32} {r2 : Sto} (h : mX7_readAnd fE p0 σ = some r2) : MM l yX7_readAnd cX7_readAnd 3 none (D + 5) 0 0 E true σ [.ref 67, .int p0] (QV E true σ r2) := by
  unfold mX7_readAnd at h
  refine MM_of (by decide) (Nat.le_of_ble_eq_true rfl) rfl (fun p e s m args below meth c ad0 C hr hn => ?_)
  refine G_aload_n C 0 rfl rfl dX7_readAnd_0 ?_
  refine G_iload_n C 1 rfl rfl dX7_readAnd_1 ?_
  obtain ⟨σ1, hv1, h⟩ := bnd h
  refine G_callV (run_V C [.int p0] [] (dX7_readNot hD hfE hv1) ml_X7_readNot mv_X7_readNot lk_X7_147 (rml (by omega) (by omega)) ⟨(Nat.le_of_ble_eq_true rfl), (Nat.le_of_ble_eq_true rfl)⟩ vq_7 rfl ko_67 rfl (Nat.le_of_ble_eq_true rfl) dX7_readAnd_2) ?_
  refine G_iconst C (v := 0) rfl dX7_readAnd_5 ?_
  refine G_istore_n (L' := [(2, .int (0 : Int32)), (0, .ref 67), (1, .int p0)]) C rfl (Nat.le_of_ble_eq_true rfl) rfl dX7_readAnd_6 ?_
  refine G_sub [1, 2, 0] rfl ?_
  exact eX7_readAnd_7 hD hfE C hr h
set_option maxRecDepth 100000 in
set_option maxHeartbeats 4000000 in
theorem eX7_readExprO_44B  {fE : Int32 → Sto → Option Sto} {D : Nat} (hD : 16 ≤ D) (hfE : EH l E fE D)(C : Cx E p s m args meth c cX7_readExpr 3 RX7) (hr : meth.sig.returnType = none) {σ0 : Sto} {r2 : Sto} {σ : Sto} {f44 : Int32 → Int32 → Sto → Option Sto} {x1 : Int32} {x2 : Int32} (hf44 : ∀ (x1 : Int32) (x2 : Int32) (σ' : Sto), f44 x1 x2 σ' = some r2 → G p l e (rmd (D + 6) 0 0) s m args below meth c E true (sZ σ0) ad0 (MQ below (QV E true σ0 r2 ad0) args s 0 0 (AE E)) 3 0 0 σ' 44 [(0, .ref 67), (1, .int x1), (2, .int x2)] []) (h : mX7_readExprO_44B fE f44 x1 x2 σ = some r2) : G p l e (rmd (D + 6) 0 0) s m args below meth c E true (sZ σ0) ad0 (MQ below (QV E true σ0 r2 ad0) args s 0 0 (AE E)) 3 0 0 σ 44 [(0, .ref 67), (1, .int x1), (2, .int x2)] [] := by
  unfold mX7_readExprO_44B at h
  refine G_iload_n C 2 rfl rfl dX7_readExpr_44 ?_
  refine G_aload_n C 0 rfl rfl dX7_readExpr_45 ?_
  refine G_getI C fl_X7_15_7 (Or.inl rfl) ko_67 dX7_readExpr_46 ?_
  refine G_icmp_ge (tgt := 92) C rfl dX7_readExpr_49 (fun hc3 => ?_) (fun hc3 => ?_)
  · replace h := (if_pos hc3).symm.trans h
    obtain rfl := Option.some.inj h
    exact G_vret C hr (Nat.le_of_ble_eq_true rfl) (Nat.le_of_ble_eq_true rfl) dX7_readExpr_92
  · replace h := (if_neg hc3).symm.trans h
    refine G_aload_n C 0 rfl rfl dX7_readExpr_52 ?_
    refine G_getI C fl_X7_29_7 (Or.inl rfl) ko_67 dX7_readExpr_53 ?_
    refine G_if_ne (tgt := 92) C rfl dX7_readExpr_56 (fun hc4 => ?_) (fun hc4 => ?_)
    · replace h := (if_neg hc4).symm.trans h
      obtain rfl := Option.some.inj h
      exact G_vret C hr (Nat.le_of_ble_eq_true rfl) (Nat.le_of_ble_eq_true rfl) dX7_readExpr_92
    · replace h := (if_pos hc4).symm.trans h
      refine G_aload_n C 0 rfl rfl dX7_readExpr_59 ?_
      refine G_ldcS (k := 5) C rfl (by decide) (List.mem_of_getElem? (l := rtx) (i := 5) rfl) dX7_readExpr_60 ?_
      obtain ⟨v5, hv5, h⟩ := bnd h
      refine G_callI (run_V C [.ref 7] [] (dX7_isWord hv5) ml_X7_isWord mv_X7_isWord lk_X7_140 (rml (by omega) (by omega)) ⟨(Nat.le_of_ble_eq_true rfl), (Nat.le_of_ble_eq_true rfl)⟩ vq_7 rfl ko_67 rfl (Nat.le_of_ble_eq_true rfl) dX7_readExpr_62) ?_
      refine G_if_eq (tgt := 92) C rfl dX7_readExpr_65 (fun hc6 => ?_) (fun hc6 => ?_)
      · replace h := (if_pos hc6).symm.trans h
        obtain rfl := Option.some.inj h
        exact G_vret C hr (Nat.le_of_ble_eq_true rfl) (Nat.le_of_ble_eq_true rfl) dX7_readExpr_92
      · replace h := (if_neg hc6).symm.trans h
        refine G_aload_n C 0 rfl rfl dX7_readExpr_68 ?_
        obtain ⟨σ7, hv7, h⟩ := bnd h
        refine G_callV (run_V C [] [] (dX7_next hv7) ml_X7_next mv_X7_next lk_X7_59 (rml (by omega) (by omega)) ⟨(Nat.le_of_ble_eq_true rfl), (Nat.le_of_ble_eq_true rfl)⟩ vq_7 rfl ko_67 rfl (Nat.le_of_ble_eq_true rfl) dX7_readExpr_69) ?_
        refine G_aload_n C 0 rfl rfl dX7_readExpr_72 ?_
        refine G_iload_n C 1 rfl rfl dX7_readExpr_73 ?_
        obtain ⟨σ8, hv8, h⟩ := bnd h
        refine G_callV (run_V C [.int x1] [] (dX7_readAnd hD hfE hv8) ml_X7_readAnd mv_X7_readAnd lk_X7_135 (rml (by omega) (by omega)) ⟨(Nat.le_of_ble_eq_true rfl), (Nat.le_of_ble_eq_true rfl)⟩ vq_7 rfl ko_67 rfl (Nat.le_of_ble_eq_true rfl) dX7_readExpr_74) ?_
        refine G_aload_n C 0 rfl rfl dX7_readExpr_77 ?_
        refine G_getR C fl_X7_25_7 rfl ko_67 dX7_readExpr_78 ?_
        refine G_bipush C (v := -11) rfl dX7_readExpr_81 ?_
        obtain ⟨hc10, h⟩ := ifn h
        obtain ⟨σ9, hv9, h⟩ := bnd h
        refine G_callV (run_V C [.int (-11 : Int32)] [] (dX4_addDue hc10 hv9) ml_X4_addDue mv_X4_addDue lk_X7_144 (rml (by omega) (by omega)) ⟨(Nat.le_of_ble_eq_true rfl), (Nat.le_of_ble_eq_true rfl)⟩ vq_4 rfl (KO.dy hc10) rfl (Nat.le_of_ble_eq_true rfl) dX7_readExpr_83) ?_
        refine G_iinc (v := 1) (L' := [(2, .int (x2 + (1 : Int32))), (0, .ref 67), (1, .int x1)]) C 2 rfl rfl (Nat.le_of_ble_eq_true rfl) rfl dX7_readExpr_86 ?_
        refine G_goto (tgt := 44) C rfl dX7_readExpr_89 ?_
        refine G_sub [1, 2, 0] rfl ?_
        exact hf44 _ _ _ h
set_option maxRecDepth 100000 in
set_option maxHeartbeats 4000000 in
theorem eX7_readExprO_44  {fE : Int32 → Sto → Option Sto} {D : Nat} (hD : 16 ≤ D) (hfE : EH l E fE D)(C : Cx E p s m args meth c cX7_readExpr 3 RX7) (hr : meth.sig.returnType = none) {σ0 : Sto} {r2 : Sto} {σ : Sto} {n : Nat} {x1 : Int32} {x2 : Int32} (h : mX7_readExprO_44 fE n x1 x2 σ = some r2) : G p l e (rmd (D + 6) 0 0) s m args below meth c E true (sZ σ0) ad0 (MQ below (QV E true σ0 r2 ad0) args s 0 0 (AE E)) 3 0 0 σ 44 [(0, .ref 67), (1, .int x1), (2, .int x2)] [] := by
  induction n generalizing x1 x2 σ with
  | zero => exact nomatch (show (none : Option Sto) = some r2 from h)
  | succ n ih => exact eX7_readExprO_44B hD hfE C hr (fun z0 z1 σ9 h9 => ih h9) h
set_option maxRecDepth 100000 in
set_option maxHeartbeats 4000000 in
theorem eX7_readExprO_37  {fE : Int32 → Sto → Option Sto} {D : Nat} (hD : 16 ≤ D) (hfE : EH l E fE D)(C : Cx E p s m args meth c cX7_readExpr 3 RX7) (hr : meth.sig.returnType = none) {σ0 : Sto} {r2 : Sto} {σ : Sto} {x1 : Int32} (h : mX7_readExprO_37 fE x1 σ = some r2) : G p l e (rmd (D + 6) 0 0) s m args below meth c E true (sZ σ0) ad0 (MQ below (QV E true σ0 r2 ad0) args s 0 0 (AE E)) 3 0 0 σ 37 [(0, .ref 67), (1, .int x1)] [] := by
  unfold mX7_readExprO_37 at h
  refine G_aload_n C 0 rfl rfl dX7_readExpr_37 ?_
  refine G_iload_n C 1 rfl rfl dX7_readExpr_38 ?_
  obtain ⟨σ2, hv2, h⟩ := bnd h
  refine G_callV (run_V C [.int x1] [] (dX7_readAnd hD hfE hv2) ml_X7_readAnd mv_X7_readAnd lk_X7_135 (rml (by omega) (by omega)) ⟨(Nat.le_of_ble_eq_true rfl), (Nat.le_of_ble_eq_true rfl)⟩ vq_7 rfl ko_67 rfl (Nat.le_of_ble_eq_true rfl) dX7_readExpr_39) ?_
  refine G_iconst C (v := 0) rfl dX7_readExpr_42 ?_
  refine G_istore_n (L' := [(2, .int (0 : Int32)), (0, .ref 67), (1, .int x1)]) C rfl (Nat.le_of_ble_eq_true rfl) rfl dX7_readExpr_43 ?_
  refine G_sub [1, 2, 0] rfl ?_
  exact eX7_readExprO_44 hD hfE C hr h
set_option maxRecDepth 100000 in
set_option maxHeartbeats 4000000 in
theorem eX7_readExprO_31  {fE : Int32 → Sto → Option Sto} {D : Nat} (hD : 16 ≤ D) (hfE : EH l E fE D)(C : Cx E p s m args meth c cX7_readExpr 3 RX7) (hr : meth.sig.returnType = none) {σ0 : Sto} {r2 : Sto} {σ : Sto} (h : mX7_readExprO_31 fE σ = some r2) : G p l e (rmd (D + 6) 0 0) s m args below meth c E true (sZ σ0) ad0 (MQ below (QV E true σ0 r2 ad0) args s 0 0 (AE E)) 3 0 0 σ 31 [(0, .ref 67)] [] := by
  unfold mX7_readExprO_31 at h
  refine G_aload_n C 0 rfl rfl dX7_readExpr_31 ?_
  refine G_iconst C (v := 2) rfl dX7_readExpr_32 ?_
  obtain ⟨σ12, hv12, h⟩ := bnd h
  refine G_callV (run_V C [.int (2 : Int32)] [] (dX7_refuse hv12) ml_X7_refuse mv_X7_refuse lk_X7_91 (rml (by omega) (by omega)) ⟨(Nat.le_of_ble_eq_true rfl), (Nat.le_of_ble_eq_true rfl)⟩ vq_7 rfl ko_67 rfl (Nat.le_of_ble_eq_true rfl) dX7_readExpr_33) ?_
  obtain rfl := Option.some.inj h
  exact G_vret C hr (Nat.le_of_ble_eq_true rfl) (Nat.le_of_ble_eq_true rfl) dX7_readExpr_36
set_option maxRecDepth 100000 in
set_option maxHeartbeats 4000000 in
theorem dX7_readExprO {fE : Int32 → Sto → Option Sto} {D : Nat} (hD : 16 ≤ D) (hfE : EH l E fE D) {σ : Sto} {p0 : Int32} {r2 : Sto} (h : mX7_readExprO fE p0 σ = some r2) : MM l yX7_readExpr cX7_readExpr 3 none (D + 6) 0 0 E true σ [.ref 67, .int p0] (QV E true σ r2) := by
  unfold mX7_readExprO at h
  refine MM_of (by decide) (Nat.le_of_ble_eq_true rfl) rfl (fun p e s m args below meth c ad0 C hr hn => ?_)
  refine G_iload_n C 1 rfl rfl dX7_readExpr_0 ?_
  refine G_bipush C (v := 6) rfl dX7_readExpr_1 ?_
  refine G_icmp_lt (tgt := 37) C rfl dX7_readExpr_3 (fun hc1 => ?_) (fun hc1 => ?_)
  · replace h := (if_pos hc1).symm.trans h
    exact eX7_readExprO_37 hD hfE C hr h
  · replace h := (if_neg hc1).symm.trans h
    refine G_aload_n C 0 rfl rfl dX7_readExpr_6 ?_
    refine G_getI C fl_X7_35_7 (Or.inl rfl) ko_67 dX7_readExpr_7 ?_
    refine G_iconst C (v := 3) rfl dX7_readExpr_10 ?_
    refine G_icmp_eq (tgt := 31) C rfl dX7_readExpr_11 (fun hc11 => ?_) (fun hc11 => ?_)
    · replace h := (if_pos hc11).symm.trans h
      refine G_sub [0] rfl ?_
      exact eX7_readExprO_31 hD hfE C hr h
    · replace h := (if_neg hc11).symm.trans h
      refine G_aload_n C 0 rfl rfl dX7_readExpr_14 ?_
      refine G_getI C fl_X7_35_7 (Or.inl rfl) ko_67 dX7_readExpr_15 ?_
      refine G_iconst C (v := 2) rfl dX7_readExpr_18 ?_
      refine G_icmp_eq (tgt := 31) C rfl dX7_readExpr_19 (fun hc13 => ?_) (fun hc13 => ?_)
      · replace h := (if_pos hc13).symm.trans h
        refine G_sub [0] rfl ?_
        exact eX7_readExprO_31 hD hfE C hr h
      · replace h := (if_neg hc13).symm.trans h
        refine G_aload_n C 0 rfl rfl dX7_readExpr_22 ?_
        refine G_getI C fl_X7_35_7 (Or.inl rfl) ko_67 dX7_readExpr_23 ?_
        refine G_bipush C (v := 40) rfl dX7_readExpr_26 ?_
        refine G_icmp_ne (tgt := 37) C rfl dX7_readExpr_28 (fun hc14 => ?_) (fun hc14 => ?_)
        · replace h := (if_neg hc14).symm.trans h
          exact eX7_readExprO_37 hD hfE C hr h
        · replace h := (if_pos hc14).symm.trans h
          refine G_sub [0] rfl ?_
          exact eX7_readExprO_31 hD hfE C hr h
theorem dX7_readExprN : ∀ n : Nat, EH l E (mX7_readExpr n) (16 + 6 * n)
  | 0 => fun _ _ _ h => nomatch (show (none : Option Sto) = some _ from h)
  | n + 1 => fun x σ r h => dX7_readExprO (D := 16 + 6 * n) (by omega) (dX7_readExprN n) h
theorem dX7_readExpr {σ : Sto} {x : Int32} {r : Sto} (h : mX7_readExpr 8 x σ = some r) : MM l yX7_readExpr cX7_readExpr 3 none 64 0 0 E true σ [.ref 67, .int x] (QV E true σ r) := dX7_readExprN 8 x σ r h
set_option maxRecDepth 100000 in
set_option maxHeartbeats 4000000 in
theorem dX7_init {σ : Sto} {a0 : Nat} {r2 : Sto} (hk0 : sK σ a0 = 8) (h : mX7_init a0 σ = some r2) : MM l yX7_init cX7_init 1 none 4 6 612 E false σ [.ref a0] (QV E false σ r2) := by
  unfold mX7_init at h
  refine MM_of (by decide) (Nat.le_of_ble_eq_true rfl) rfl (fun p e s m args below meth c ad0 C hr hn => ?_)
  refine G_aload_n C 0 rfl rfl dX7_init_0 ?_
  refine G_objInit C lk_X7_3 oi_1 oi_2 (kd := 8) (by decide) (KO.dy hk0) (Nat.le_of_ble_eq_true rfl) (Nat.le_of_ble_eq_true rfl) dX7_init_1 ?_
  refine G_aload_n C 0 rfl rfl dX7_init_4 ?_
  refine G_iconst C (v := 0) rfl dX7_init_5 ?_
  obtain ⟨σ1, hs1, h⟩ := stp_elim h
  refine G_newI (N := 0) C na_I (by decide) rfl (Nat.le_of_ble_eq_true rfl) (Nat.le_of_ble_eq_true rfl) (Nat.le_of_ble_eq_true rfl) dX7_init_6 ?_
  rw [← hs1]
  have hc2 : sK σ1 (sZ σ) = 100 := by rw [hs1]; exact (nwK_K _ _ _ _).trans (if_pos rfl)
  have hc3 : sN σ1 (sZ σ) = 0 := by rw [hs1]; exact (nwK_N _ _ _ _).trans (if_pos rfl)
  obtain ⟨hc4, h⟩ := ifn h
  obtain ⟨σ5, hs5, h⟩ := stp_elim h
  refine G_putR C fl_X7_9_7 fp_X7_7_0 (Or.inl rfl) rfl (fun z => nomatch z) (KO.dy hc4) dX7_init_8 ?_
  rw [← hs5]
  have hc6 : sK σ5 (sZ σ) = 100 := by rw [hs5]; exact hc2
  have hc7 : sN σ5 (sZ σ) = 0 := by rw [hs5]; exact hc3
  have hc8 : sK σ5 a0 = 8 := by rw [hs5]; exact hc4
  refine G_aload_n C 0 rfl rfl dX7_init_11 ?_
  refine G_iconst C (v := 0) rfl dX7_init_12 ?_
  obtain ⟨σ9, hs9, h⟩ := stp_elim h
  refine G_putI C fl_X7_15_7 fp_X7_7_1 (Or.inl rfl) (Or.inl rfl) (KO.dy hc8) dX7_init_13 ?_
  rw [← hs9]
  have hc10 : sK σ9 (sZ σ) = 100 := by rw [hs9]; exact hc6
  have hc11 : sN σ9 (sZ σ) = 0 := by rw [hs9]; exact hc7
  have hc12 : sK σ9 a0 = 8 := by rw [hs9]; exact hc8
  refine G_aload_n C 0 rfl rfl dX7_init_16 ?_
  refine G_iconst C (v := 0) rfl dX7_init_17 ?_
  obtain ⟨σ13, hs13, h⟩ := stp_elim h
  refine G_putI C fl_X7_19_7 fp_X7_7_2 (Or.inl rfl) (Or.inl rfl) (KO.dy hc12) dX7_init_18 ?_
  rw [← hs13]
  have hc14 : sK σ13 (sZ σ) = 100 := by rw [hs13]; exact hc10
  have hc15 : sN σ13 (sZ σ) = 0 := by rw [hs13]; exact hc11
  have hc16 : sK σ13 a0 = 8 := by rw [hs13]; exact hc12
  refine G_aload_n C 0 rfl rfl dX7_init_21 ?_
  obtain ⟨σ17, hs17, h⟩ := stp_elim h
  refine G_new C vq_4 uw_X4 nl_X7_22 ni_X4.1 ni_X4.2 (Nat.le_of_ble_eq_true rfl) (Nat.le_of_ble_eq_true rfl) dX7_init_22 ?_
  rw [← hs17]
  have hc18 : sK σ17 (sZ σ13) = 5 := by rw [hs17]; exact (nwK_K _ _ _ _).trans (if_pos rfl)
  refine G_dup C rfl dX7_init_25 ?_
  obtain ⟨σ19, hv19, h⟩ := bnd h
  refine G_callV (run_I (kd := 5) C [] [.ref (sZ σ13), .ref a0] (dX4_init hc18 hv19) ml_X4_init mi_X4_init lk_X7_24 ⟨(Nat.le_of_ble_eq_true rfl), (Nat.le_of_ble_eq_true rfl)⟩ ⟨(Nat.le_of_ble_eq_true rfl), (Nat.le_of_ble_eq_true rfl)⟩ (by decide) (KO.dy hc18) rfl (Nat.le_of_ble_eq_true rfl) dX7_init_26) ?_
  obtain ⟨hc20, h⟩ := ifn h
  obtain ⟨σ21, hs21, h⟩ := stp_elim h
  refine G_putR C fl_X7_25_7 fp_X7_7_3 (Or.inl rfl) rfl (fun z => nomatch z) (KO.dy hc20) dX7_init_29 ?_
  rw [← hs21]
  have hc22 : sK σ21 a0 = 8 := by rw [hs21]; exact hc20
  refine G_aload_n C 0 rfl rfl dX7_init_32 ?_
  refine G_iconst C (v := 0) rfl dX7_init_33 ?_
  obtain ⟨σ23, hs23, h⟩ := stp_elim h
  refine G_putI C fl_X7_29_7 fp_X7_7_4 (Or.inl rfl) (Or.inl rfl) (KO.dy hc22) dX7_init_34 ?_
  rw [← hs23]
  have hc24 : sK σ23 a0 = 8 := by rw [hs23]; exact hc22
  refine G_aload_n C 0 rfl rfl dX7_init_37 ?_
  refine G_iconst C (v := -1) rfl dX7_init_38 ?_
  obtain ⟨σ25, hs25, h⟩ := stp_elim h
  refine G_putI C fl_X7_32_7 fp_X7_7_5 (Or.inl rfl) (Or.inl rfl) (KO.dy hc24) dX7_init_39 ?_
  rw [← hs25]
  have hc26 : sK σ25 a0 = 8 := by rw [hs25]; exact hc24
  refine G_aload_n C 0 rfl rfl dX7_init_42 ?_
  refine G_iconst C (v := 0) rfl dX7_init_43 ?_
  obtain ⟨σ27, hs27, h⟩ := stp_elim h
  refine G_putI C fl_X7_35_7 fp_X7_7_6 (Or.inl rfl) (Or.inl rfl) (KO.dy hc26) dX7_init_44 ?_
  rw [← hs27]
  have hc28 : sK σ27 a0 = 8 := by rw [hs27]; exact hc26
  refine G_aload_n C 0 rfl rfl dX7_init_47 ?_
  refine G_iconst C (v := 0) rfl dX7_init_48 ?_
  obtain ⟨σ29, hs29, h⟩ := stp_elim h
  refine G_putI C fl_X7_38_7 fp_X7_7_7 (Or.inl rfl) (Or.inl rfl) (KO.dy hc28) dX7_init_49 ?_
  rw [← hs29]
  have hc30 : sK σ29 a0 = 8 := by rw [hs29]; exact hc28
  refine G_aload_n C 0 rfl rfl dX7_init_52 ?_
  refine G_iconst C (v := 0) rfl dX7_init_53 ?_
  obtain ⟨σ31, hs31, h⟩ := stp_elim h
  refine G_putI C fl_X7_41_7 fp_X7_7_8 (Or.inl rfl) (Or.inl rfl) (KO.dy hc30) dX7_init_54 ?_
  rw [← hs31]
  have hc32 : sK σ31 a0 = 8 := by rw [hs31]; exact hc30
  refine G_aload_n C 0 rfl rfl dX7_init_57 ?_
  refine G_iconst C (v := 0) rfl dX7_init_58 ?_
  obtain ⟨σ33, hs33, h⟩ := stp_elim h
  refine G_putI C fl_X7_44_7 fp_X7_7_9 (Or.inl rfl) (Or.inl rfl) (KO.dy hc32) dX7_init_59 ?_
  rw [← hs33]
  have hc34 : sK σ33 a0 = 8 := by rw [hs33]; exact hc32
  refine G_aload_n C 0 rfl rfl dX7_init_62 ?_
  refine G_iconst C (v := 0) rfl dX7_init_63 ?_
  obtain ⟨σ35, hs35, h⟩ := stp_elim h
  refine G_putI C fl_X7_47_7 fp_X7_7_10 (Or.inl rfl) (Or.inl rfl) (KO.dy hc34) dX7_init_64 ?_
  rw [← hs35]
  have hc36 : sK σ35 a0 = 8 := by rw [hs35]; exact hc34
  obtain rfl := Option.some.inj h
  exact G_vret C hr (Nat.le_of_ble_eq_true rfl) (Nat.le_of_ble_eq_true rfl) dX7_init_67
set_option maxRecDepth 100000 in
set_option maxHeartbeats 4000000 in
theorem eX7_readSetting_156 (C : Cx E p s m args meth c cX7_readSetting 2 RX7) (hr : meth.sig.returnType = none) {σ0 : Sto} {r2 : Sto} {σ : Sto} (h : mX7_readSetting_156 σ = some r2) : G p l e (rmd 10 0 0) s m args below meth c E true (sZ σ0) ad0 (MQ below (QV E true σ0 r2 ad0) args s 0 0 (AE E)) 2 0 0 σ 156 [(0, .ref 67)] [] := by
  unfold mX7_readSetting_156 at h
  refine G_aload_n C 0 rfl rfl dX7_readSetting_156 ?_
  refine G_getR C fl_X7_25_7 rfl ko_67 dX7_readSetting_157 ?_
  refine G_aload_n C 0 rfl rfl dX7_readSetting_160 ?_
  refine G_iconst C (v := 0) rfl dX7_readSetting_161 ?_
  refine G_ldc C kc_X7_103 dX7_readSetting_162 ?_
  obtain ⟨v27, σ27, hv27, h⟩ := bd2_elim h
  refine G_callI (run_V C [.int (0 : Int32), .int (99999999 : Int32)] [.ref (sR σ 67 3)] (dX7_takeNumber hv27) ml_X7_takeNumber mv_X7_takeNumber lk_X7_104 ⟨(Nat.le_of_ble_eq_true rfl), (Nat.le_of_ble_eq_true rfl)⟩ ⟨(Nat.le_of_ble_eq_true rfl), (Nat.le_of_ble_eq_true rfl)⟩ vq_7 rfl ko_67 rfl (Nat.le_of_ble_eq_true rfl) dX7_readSetting_164) ?_
  obtain ⟨hc29, h⟩ := ifn h
  obtain ⟨σ28, hv28, h⟩ := bnd h
  refine G_callV (run_V C [.int v27] [] (dX4_agreeWith hc29 hv28) ml_X4_agreeWith mv_X4_agreeWith lk_X7_132 ⟨(Nat.le_of_ble_eq_true rfl), (Nat.le_of_ble_eq_true rfl)⟩ ⟨(Nat.le_of_ble_eq_true rfl), (Nat.le_of_ble_eq_true rfl)⟩ vq_4 rfl (KO.dy hc29) rfl (Nat.le_of_ble_eq_true rfl) dX7_readSetting_167) ?_
  obtain rfl := Option.some.inj h
  exact G_vret C hr (Nat.le_of_ble_eq_true rfl) (Nat.le_of_ble_eq_true rfl) dX7_readSetting_170
set_option maxRecDepth 100000 in
set_option maxHeartbeats 4000000 in
theorem dX7_readSetting {σ : Sto} {p0 : Int32} {r2 : Sto} (h : mX7_readSetting p0 σ = some r2) : MM l yX7_readSetting cX7_readSetting 2 none 10 0 0 E true σ [.ref 67, .int p0] (QV E true σ r2) := by
  unfold mX7_readSetting at h
  refine MM_of (by decide) (Nat.le_of_ble_eq_true rfl) rfl (fun p e s m args below meth c ad0 C hr hn => ?_)
  refine G_iload_n C 1 rfl rfl dX7_readSetting_0 ?_
  by_cases hc1 : p0 = (2 : Int32)
  · replace h := (if_pos hc1).symm.trans h
    refine G_tswIn (tgt := 36) C (2) 0 hc1 (by decide) (by decide) (by decide) rfl rfl dX7_readSetting_1 ?_
    refine G_aload_n C 0 rfl rfl dX7_readSetting_36 ?_
    refine G_getR C fl_X7_25_7 rfl ko_67 dX7_readSetting_37 ?_
    refine G_aload_n C 0 rfl rfl dX7_readSetting_40 ?_
    refine G_iconst C (v := 0) rfl dX7_readSetting_41 ?_
    refine G_sipush C (v := 10000) rfl dX7_readSetting_42 ?_
    obtain ⟨v2, σ2, hv2, h⟩ := bd2_elim h
    refine G_callI (run_V C [.int (0 : Int32), .int (10000 : Int32)] [.ref (sR σ 67 3)] (dX7_takeNumber hv2) ml_X7_takeNumber mv_X7_takeNumber lk_X7_104 ⟨(Nat.le_of_ble_eq_true rfl), (Nat.le_of_ble_eq_true rfl)⟩ ⟨(Nat.le_of_ble_eq_true rfl), (Nat.le_of_ble_eq_true rfl)⟩ vq_7 rfl ko_67 rfl (Nat.le_of_ble_eq_true rfl) dX7_readSetting_45) ?_
    obtain ⟨hc3, h⟩ := ifn h
    obtain ⟨σ4, hs4, h⟩ := stp_elim h
    refine G_putI C fl_X7_117_4 fp_X7_4_7 (Or.inl rfl) (Or.inl rfl) (KO.dy hc3) dX7_readSetting_48 ?_
    rw [← hs4]
    have hc5 : sK σ4 (sR σ 67 3) = 5 := by rw [hs4]; exact hc3
    refine G_goto (tgt := 170) C rfl dX7_readSetting_51 ?_
    obtain rfl := Option.some.inj h
    exact G_vret C hr (Nat.le_of_ble_eq_true rfl) (Nat.le_of_ble_eq_true rfl) dX7_readSetting_170
  replace h := (if_neg hc1).symm.trans h
  by_cases hc6 : p0 = (3 : Int32)
  · replace h := (if_pos hc6).symm.trans h
    refine G_tswIn (tgt := 54) C (3) 1 hc6 (by decide) (by decide) (by decide) rfl rfl dX7_readSetting_1 ?_
    refine G_aload_n C 0 rfl rfl dX7_readSetting_54 ?_
    refine G_getR C fl_X7_25_7 rfl ko_67 dX7_readSetting_55 ?_
    refine G_aload_n C 0 rfl rfl dX7_readSetting_58 ?_
    refine G_iconst C (v := 0) rfl dX7_readSetting_59 ?_
    refine G_ldc C kc_X7_103 dX7_readSetting_60 ?_
    obtain ⟨v7, σ7, hv7, h⟩ := bd2_elim h
    refine G_callI (run_V C [.int (0 : Int32), .int (99999999 : Int32)] [.ref (sR σ 67 3)] (dX7_takeNumber hv7) ml_X7_takeNumber mv_X7_takeNumber lk_X7_104 ⟨(Nat.le_of_ble_eq_true rfl), (Nat.le_of_ble_eq_true rfl)⟩ ⟨(Nat.le_of_ble_eq_true rfl), (Nat.le_of_ble_eq_true rfl)⟩ vq_7 rfl ko_67 rfl (Nat.le_of_ble_eq_true rfl) dX7_readSetting_62) ?_
    obtain ⟨hc8, h⟩ := ifn h
    obtain ⟨σ9, hs9, h⟩ := stp_elim h
    refine G_putI C fl_X7_120_4 fp_X7_4_8 (Or.inl rfl) (Or.inl rfl) (KO.dy hc8) dX7_readSetting_65 ?_
    rw [← hs9]
    have hc10 : sK σ9 (sR σ 67 3) = 5 := by rw [hs9]; exact hc8
    refine G_goto (tgt := 170) C rfl dX7_readSetting_68 ?_
    obtain rfl := Option.some.inj h
    exact G_vret C hr (Nat.le_of_ble_eq_true rfl) (Nat.le_of_ble_eq_true rfl) dX7_readSetting_170
  replace h := (if_neg hc6).symm.trans h
  by_cases hc11 : p0 = (4 : Int32)
  · replace h := (if_pos hc11).symm.trans h
    refine G_tswIn (tgt := 71) C (4) 2 hc11 (by decide) (by decide) (by decide) rfl rfl dX7_readSetting_1 ?_
    refine G_aload_n C 0 rfl rfl dX7_readSetting_71 ?_
    refine G_getR C fl_X7_25_7 rfl ko_67 dX7_readSetting_72 ?_
    refine G_aload_n C 0 rfl rfl dX7_readSetting_75 ?_
    refine G_iconst C (v := 0) rfl dX7_readSetting_76 ?_
    refine G_ldc C kc_X7_103 dX7_readSetting_77 ?_
    obtain ⟨v12, σ12, hv12, h⟩ := bd2_elim h
    refine G_callI (run_V C [.int (0 : Int32), .int (99999999 : Int32)] [.ref (sR σ 67 3)] (dX7_takeNumber hv12) ml_X7_takeNumber mv_X7_takeNumber lk_X7_104 ⟨(Nat.le_of_ble_eq_true rfl), (Nat.le_of_ble_eq_true rfl)⟩ ⟨(Nat.le_of_ble_eq_true rfl), (Nat.le_of_ble_eq_true rfl)⟩ vq_7 rfl ko_67 rfl (Nat.le_of_ble_eq_true rfl) dX7_readSetting_79) ?_
    obtain ⟨hc13, h⟩ := ifn h
    obtain ⟨σ14, hs14, h⟩ := stp_elim h
    refine G_putI C fl_X7_123_4 fp_X7_4_9 (Or.inl rfl) (Or.inl rfl) (KO.dy hc13) dX7_readSetting_82 ?_
    rw [← hs14]
    have hc15 : sK σ14 (sR σ 67 3) = 5 := by rw [hs14]; exact hc13
    refine G_goto (tgt := 170) C rfl dX7_readSetting_85 ?_
    obtain rfl := Option.some.inj h
    exact G_vret C hr (Nat.le_of_ble_eq_true rfl) (Nat.le_of_ble_eq_true rfl) dX7_readSetting_170
  replace h := (if_neg hc11).symm.trans h
  by_cases hc16 : p0 = (5 : Int32)
  · replace h := (if_pos hc16).symm.trans h
    refine G_tswIn (tgt := 88) C (5) 3 hc16 (by decide) (by decide) (by decide) rfl rfl dX7_readSetting_1 ?_
    refine G_aload_n C 0 rfl rfl dX7_readSetting_88 ?_
    refine G_getR C fl_X7_25_7 rfl ko_67 dX7_readSetting_89 ?_
    refine G_aload_n C 0 rfl rfl dX7_readSetting_92 ?_
    refine G_iconst C (v := 0) rfl dX7_readSetting_93 ?_
    refine G_sipush C (v := 200) rfl dX7_readSetting_94 ?_
    obtain ⟨v17, σ17, hv17, h⟩ := bd2_elim h
    refine G_callI (run_V C [.int (0 : Int32), .int (200 : Int32)] [.ref (sR σ 67 3)] (dX7_takeNumber hv17) ml_X7_takeNumber mv_X7_takeNumber lk_X7_104 ⟨(Nat.le_of_ble_eq_true rfl), (Nat.le_of_ble_eq_true rfl)⟩ ⟨(Nat.le_of_ble_eq_true rfl), (Nat.le_of_ble_eq_true rfl)⟩ vq_7 rfl ko_67 rfl (Nat.le_of_ble_eq_true rfl) dX7_readSetting_97) ?_
    obtain ⟨hc18, h⟩ := ifn h
    obtain ⟨σ19, hs19, h⟩ := stp_elim h
    refine G_putI C fl_X7_126_4 fp_X7_4_10 (Or.inl rfl) (Or.inl rfl) (KO.dy hc18) dX7_readSetting_100 ?_
    rw [← hs19]
    have hc20 : sK σ19 (sR σ 67 3) = 5 := by rw [hs19]; exact hc18
    refine G_goto (tgt := 170) C rfl dX7_readSetting_103 ?_
    obtain rfl := Option.some.inj h
    exact G_vret C hr (Nat.le_of_ble_eq_true rfl) (Nat.le_of_ble_eq_true rfl) dX7_readSetting_170
  replace h := (if_neg hc16).symm.trans h
  by_cases hc21 : p0 = (6 : Int32)
  · replace h := (if_pos hc21).symm.trans h
    refine G_tswIn (tgt := 106) C (6) 4 hc21 (by decide) (by decide) (by decide) rfl rfl dX7_readSetting_1 ?_
    refine G_aload_n C 0 rfl rfl dX7_readSetting_106 ?_
    refine G_getR C fl_X7_25_7 rfl ko_67 dX7_readSetting_107 ?_
    refine G_aload_n C 0 rfl rfl dX7_readSetting_110 ?_
    refine G_iconst C (v := 0) rfl dX7_readSetting_111 ?_
    refine G_ldc C kc_X7_103 dX7_readSetting_112 ?_
    obtain ⟨v22, σ22, hv22, h⟩ := bd2_elim h
    refine G_callI (run_V C [.int (0 : Int32), .int (99999999 : Int32)] [.ref (sR σ 67 3)] (dX7_takeNumber hv22) ml_X7_takeNumber mv_X7_takeNumber lk_X7_104 ⟨(Nat.le_of_ble_eq_true rfl), (Nat.le_of_ble_eq_true rfl)⟩ ⟨(Nat.le_of_ble_eq_true rfl), (Nat.le_of_ble_eq_true rfl)⟩ vq_7 rfl ko_67 rfl (Nat.le_of_ble_eq_true rfl) dX7_readSetting_114) ?_
    obtain ⟨hc23, h⟩ := ifn h
    obtain ⟨σ24, hs24, h⟩ := stp_elim h
    refine G_putI C fl_X7_129_4 fp_X7_4_11 (Or.inl rfl) (Or.inl rfl) (KO.dy hc23) dX7_readSetting_117 ?_
    rw [← hs24]
    have hc25 : sK σ24 (sR σ 67 3) = 5 := by rw [hs24]; exact hc23
    refine G_goto (tgt := 170) C rfl dX7_readSetting_120 ?_
    obtain rfl := Option.some.inj h
    exact G_vret C hr (Nat.le_of_ble_eq_true rfl) (Nat.le_of_ble_eq_true rfl) dX7_readSetting_170
  replace h := (if_neg hc21).symm.trans h
  have ht33 : ∀ j : Nat, j < 5 → p0 ≠ Int32.ofInt (2 + (j : Int)) := by
    intro j hj
    rcases (show j = 0 ∨ j = 1 ∨ j = 2 ∨ j = 3 ∨ j = 4 by omega) with rfl | rfl | rfl | rfl | rfl
    · exact hc1
    · exact hc6
    · exact hc11
    · exact hc16
    · exact hc21
  refine G_tswOut (tgt := 123) C 5 ht33 (by decide) (by decide) rfl dX7_readSetting_1 ?_
  refine G_aload_n C 0 rfl rfl dX7_readSetting_123 ?_
  refine G_getI C fl_X7_35_7 (Or.inl rfl) ko_67 dX7_readSetting_124 ?_
  refine G_iconst C (v := 3) rfl dX7_readSetting_127 ?_
  refine G_icmp_ne (tgt := 156) C rfl dX7_readSetting_128 (fun hc26 => ?_) (fun hc26 => ?_)
  · replace h := (if_neg hc26).symm.trans h
    refine G_sub [0] rfl ?_
    exact eX7_readSetting_156 C hr h
  · replace h := (if_pos hc26).symm.trans h
    refine G_aload_n C 0 rfl rfl dX7_readSetting_131 ?_
    refine G_getI C fl_X7_47_7 (Or.inl rfl) ko_67 dX7_readSetting_132 ?_
    refine G_bipush C (v := 8) rfl dX7_readSetting_135 ?_
    refine G_icmp_gt (tgt := 156) C rfl dX7_readSetting_137 (fun hc30 => ?_) (fun hc30 => ?_)
    · replace h := (if_pos hc30).symm.trans h
      refine G_sub [0] rfl ?_
      exact eX7_readSetting_156 C hr h
    · replace h := (if_neg hc30).symm.trans h
      refine G_aload_n C 0 rfl rfl dX7_readSetting_140 ?_
      refine G_getI C fl_X7_44_7 (Or.inl rfl) ko_67 dX7_readSetting_141 ?_
      refine G_aload_n C 0 rfl rfl dX7_readSetting_144 ?_
      refine G_getI C fl_X7_19_7 (Or.inl rfl) ko_67 dX7_readSetting_145 ?_
      refine G_icmp_lt (tgt := 156) C rfl dX7_readSetting_148 (fun hc31 => ?_) (fun hc31 => ?_)
      · replace h := (if_pos hc31).symm.trans h
        refine G_sub [0] rfl ?_
        exact eX7_readSetting_156 C hr h
      · replace h := (if_neg hc31).symm.trans h
        refine G_aload_n C 0 rfl rfl dX7_readSetting_151 ?_
        refine G_iconst C (v := 4) rfl dX7_readSetting_152 ?_
        obtain ⟨σ32, hv32, h⟩ := bnd h
        refine G_callV (run_V C [.int (4 : Int32)] [] (dX7_refuse hv32) ml_X7_refuse mv_X7_refuse lk_X7_91 ⟨(Nat.le_of_ble_eq_true rfl), (Nat.le_of_ble_eq_true rfl)⟩ ⟨(Nat.le_of_ble_eq_true rfl), (Nat.le_of_ble_eq_true rfl)⟩ vq_7 rfl ko_67 rfl (Nat.le_of_ble_eq_true rfl) dX7_readSetting_153) ?_
        refine G_sub [0] rfl ?_
        exact eX7_readSetting_156 C hr h
set_option maxRecDepth 100000 in
set_option maxHeartbeats 4000000 in
theorem eX7_readClause_98 (C : Cx E p s m args meth c cX7_readClause 4 RX7) (hr : meth.sig.returnType = none) {σ0 : Sto} {r2 : Sto} {σ : Sto} (h : mX7_readClause_98 σ = some r2) : G p l e (rmd 65 0 0) s m args below meth c E true (sZ σ0) ad0 (MQ below (QV E true σ0 r2 ad0) args s 0 0 (AE E)) 4 0 0 σ 98 [(0, .ref 67)] [] := by
  unfold mX7_readClause_98 at h
  refine G_aload_n C 0 rfl rfl dX7_readClause_98 ?_
  refine G_bipush C (v := 59) rfl dX7_readClause_99 ?_
  obtain ⟨σ8, hv8, h⟩ := bnd h
  refine G_callV (run_V C [.int (59 : Int32)] [] (dX7_takeSign hv8) ml_X7_takeSign mv_X7_takeSign lk_X7_114 ⟨(Nat.le_of_ble_eq_true rfl), (Nat.le_of_ble_eq_true rfl)⟩ ⟨(Nat.le_of_ble_eq_true rfl), (Nat.le_of_ble_eq_true rfl)⟩ vq_7 rfl ko_67 rfl (Nat.le_of_ble_eq_true rfl) dX7_readClause_101) ?_
  obtain rfl := Option.some.inj h
  exact G_vret C hr (Nat.le_of_ble_eq_true rfl) (Nat.le_of_ble_eq_true rfl) dX7_readClause_104
set_option maxRecDepth 100000 in
set_option maxHeartbeats 4000000 in
theorem dX7_readClause {σ : Sto} {p0 : Int32} {r2 : Sto} (h : mX7_readClause p0 σ = some r2) : MM l yX7_readClause cX7_readClause 4 none 65 0 0 E true σ [.ref 67, .int p0] (QV E true σ r2) := by
  unfold mX7_readClause at h
  refine MM_of (by decide) (Nat.le_of_ble_eq_true rfl) rfl (fun p e s m args below meth c ad0 C hr hn => ?_)
  refine G_aload_n C 0 rfl rfl dX7_readClause_0 ?_
  refine G_ldcS (k := 1) C rfl (by decide) (List.mem_of_getElem? (l := rtx) (i := 1) rfl) dX7_readClause_1 ?_
  obtain ⟨v1, hv1, h⟩ := bnd h
  refine G_callI (run_V C [.ref 3] [] (dX7_wordAmong hv1) ml_X7_wordAmong mv_X7_wordAmong lk_X7_85 ⟨(Nat.le_of_ble_eq_true rfl), (Nat.le_of_ble_eq_true rfl)⟩ ⟨(Nat.le_of_ble_eq_true rfl), (Nat.le_of_ble_eq_true rfl)⟩ vq_7 rfl ko_67 rfl (Nat.le_of_ble_eq_true rfl) dX7_readClause_3) ?_
  refine G_istore_n (L' := [(2, .int v1), (0, .ref 67), (1, .int p0)]) C rfl (Nat.le_of_ble_eq_true rfl) rfl dX7_readClause_6 ?_
  refine G_iload_n C 0 rfl rfl dX7_readClause_7 ?_
  refine G_iconst C (v := -1) rfl dX7_readClause_8 ?_
  refine G_icmp_ne (tgt := 18) C rfl dX7_readClause_9 (fun hc2 => ?_) (fun hc2 => ?_)
  · replace h := (if_neg hc2).symm.trans h
    refine G_iload_n C 2 rfl rfl dX7_readClause_18 ?_
    refine G_bipush C (v := 16) rfl dX7_readClause_19 ?_
    refine G_icmp_lt (tgt := 30) C rfl dX7_readClause_21 (fun hc3 => ?_) (fun hc3 => ?_)
    · replace h := (if_pos hc3).symm.trans h
      refine G_aload_n C 1 rfl rfl dX7_readClause_30 ?_
      obtain ⟨σ4, hv4, h⟩ := bnd h
      refine G_callV (run_V C [] [] (dX7_next hv4) ml_X7_next mv_X7_next lk_X7_59 ⟨(Nat.le_of_ble_eq_true rfl), (Nat.le_of_ble_eq_true rfl)⟩ ⟨(Nat.le_of_ble_eq_true rfl), (Nat.le_of_ble_eq_true rfl)⟩ vq_7 rfl ko_67 rfl (Nat.le_of_ble_eq_true rfl) dX7_readClause_31) ?_
      refine G_iload_n C 0 rfl rfl dX7_readClause_34 ?_
      refine G_if_ne (tgt := 53) C rfl dX7_readClause_35 (fun hc5 => ?_) (fun hc5 => ?_)
      · replace h := (if_neg hc5).symm.trans h
        refine G_iload_n C 0 rfl rfl dX7_readClause_53 ?_
        refine G_iconst C (v := 1) rfl dX7_readClause_54 ?_
        refine G_icmp_ne (tgt := 93) C rfl dX7_readClause_55 (fun hc6 => ?_) (fun hc6 => ?_)
        · replace h := (if_neg hc6).symm.trans h
          refine G_aload_n C 1 rfl rfl dX7_readClause_93 ?_
          refine G_iload_n C 0 rfl rfl dX7_readClause_94 ?_
          obtain ⟨σ7, hv7, h⟩ := bnd h
          refine G_callV (run_V C [.int v1] [] (dX7_readSetting hv7) ml_X7_readSetting mv_X7_readSetting lk_X7_111 ⟨(Nat.le_of_ble_eq_true rfl), (Nat.le_of_ble_eq_true rfl)⟩ ⟨(Nat.le_of_ble_eq_true rfl), (Nat.le_of_ble_eq_true rfl)⟩ vq_7 rfl ko_67 rfl (Nat.le_of_ble_eq_true rfl) dX7_readClause_95) ?_
          refine G_sub [1] rfl ?_
          exact eX7_readClause_98 C hr h
        · replace h := (if_pos hc6).symm.trans h
          refine G_aload_n C 1 rfl rfl dX7_readClause_58 ?_
          refine G_aload_n C 1 rfl rfl dX7_readClause_59 ?_
          refine G_getR C fl_X7_25_7 rfl ko_67 dX7_readClause_60 ?_
          obtain ⟨hc10, h⟩ := ifn h
          obtain ⟨v9, hv9, h⟩ := bnd h
          refine G_callI (run_V C [] [.ref 67] (dX4_lastStep hc10 hv9) ml_X4_lastStep mv_X4_lastStep lk_X7_100 ⟨(Nat.le_of_ble_eq_true rfl), (Nat.le_of_ble_eq_true rfl)⟩ ⟨(Nat.le_of_ble_eq_true rfl), (Nat.le_of_ble_eq_true rfl)⟩ vq_4 rfl (KO.dy hc10) rfl (Nat.le_of_ble_eq_true rfl) dX7_readClause_63) ?_
          refine G_iconst C (v := 1) rfl dX7_readClause_66 ?_
          refine G_iadd C dX7_readClause_67 ?_
          refine G_ldc C kc_X7_103 dX7_readClause_68 ?_
          obtain ⟨v11, σ11, hv11, h⟩ := bd2_elim h
          refine G_callI (run_V C [.int (v9 + (1 : Int32)), .int (99999999 : Int32)] [] (dX7_takeNumber hv11) ml_X7_takeNumber mv_X7_takeNumber lk_X7_104 ⟨(Nat.le_of_ble_eq_true rfl), (Nat.le_of_ble_eq_true rfl)⟩ ⟨(Nat.le_of_ble_eq_true rfl), (Nat.le_of_ble_eq_true rfl)⟩ vq_7 rfl ko_67 rfl (Nat.le_of_ble_eq_true rfl) dX7_readClause_70) ?_
          refine G_istore_n (L' := [(3, .int v11), (2, .int v1), (0, .ref 67), (1, .int p0)]) C rfl (Nat.le_of_ble_eq_true rfl) rfl dX7_readClause_73 ?_
          refine G_aload_n C 2 rfl rfl dX7_readClause_74 ?_
          refine G_getR C fl_X7_25_7 rfl ko_67 dX7_readClause_75 ?_
          refine G_iload_n C 0 rfl rfl dX7_readClause_78 ?_
          refine G_aload_n C 2 rfl rfl dX7_readClause_79 ?_
          refine G_iconst C (v := 0) rfl dX7_readClause_80 ?_
          refine G_sipush C (v := 10000) rfl dX7_readClause_81 ?_
          obtain ⟨v12, σ12, hv12, h⟩ := bd2_elim h
          refine G_callI (run_V C [.int (0 : Int32), .int (10000 : Int32)] [.int v11, .ref (sR σ11 67 3)] (dX7_takeNumber hv12) ml_X7_takeNumber mv_X7_takeNumber lk_X7_104 ⟨(Nat.le_of_ble_eq_true rfl), (Nat.le_of_ble_eq_true rfl)⟩ ⟨(Nat.le_of_ble_eq_true rfl), (Nat.le_of_ble_eq_true rfl)⟩ vq_7 rfl ko_67 rfl (Nat.le_of_ble_eq_true rfl) dX7_readClause_84) ?_
          obtain ⟨hc14, h⟩ := ifn h
          obtain ⟨σ13, hv13, h⟩ := bnd h
          refine G_callV (run_V C [.int v11, .int v12] [] (dX4_addStep hc14 hv13) ml_X4_addStep mv_X4_addStep lk_X7_107 ⟨(Nat.le_of_ble_eq_true rfl), (Nat.le_of_ble_eq_true rfl)⟩ ⟨(Nat.le_of_ble_eq_true rfl), (Nat.le_of_ble_eq_true rfl)⟩ vq_4 rfl (KO.dy hc14) rfl (Nat.le_of_ble_eq_true rfl) dX7_readClause_87) ?_
          refine G_goto (tgt := 98) C rfl dX7_readClause_90 ?_
          refine G_sub [2] rfl ?_
          exact eX7_readClause_98 C hr h
      · replace h := (if_pos hc5).symm.trans h
        refine G_aload_n C 1 rfl rfl dX7_readClause_38 ?_
        refine G_getR C fl_X7_25_7 rfl ko_67 dX7_readClause_39 ?_
        obtain ⟨hc16, h⟩ := ifn h
        obtain ⟨σ15, hv15, h⟩ := bnd h
        refine G_callV (run_V C [] [] (dX4_startDue hc16 hv15) ml_X4_startDue mv_X4_startDue lk_X7_94 ⟨(Nat.le_of_ble_eq_true rfl), (Nat.le_of_ble_eq_true rfl)⟩ ⟨(Nat.le_of_ble_eq_true rfl), (Nat.le_of_ble_eq_true rfl)⟩ vq_4 rfl (KO.dy hc16) rfl (Nat.le_of_ble_eq_true rfl) dX7_readClause_42) ?_
        refine G_aload_n C 1 rfl rfl dX7_readClause_45 ?_
        refine G_iconst C (v := 0) rfl dX7_readClause_46 ?_
        obtain ⟨σ17, hv17, h⟩ := bnd h
        refine G_callV (run_V C [.int (0 : Int32)] [] (dX7_readExpr hv17) ml_X7_readExpr mv_X7_readExpr lk_X7_97 ⟨(Nat.le_of_ble_eq_true rfl), (Nat.le_of_ble_eq_true rfl)⟩ ⟨(Nat.le_of_ble_eq_true rfl), (Nat.le_of_ble_eq_true rfl)⟩ vq_7 rfl ko_67 rfl (Nat.le_of_ble_eq_true rfl) dX7_readClause_47) ?_
        refine G_goto (tgt := 98) C rfl dX7_readClause_50 ?_
        refine G_sub [1] rfl ?_
        exact eX7_readClause_98 C hr h
    · replace h := (if_neg hc3).symm.trans h
      refine G_aload_n C 1 rfl rfl dX7_readClause_24 ?_
      refine G_iconst C (v := 2) rfl dX7_readClause_25 ?_
      obtain ⟨σ18, hv18, h⟩ := bnd h
      refine G_callV (run_V C [.int (2 : Int32)] [] (dX7_refuse hv18) ml_X7_refuse mv_X7_refuse lk_X7_91 ⟨(Nat.le_of_ble_eq_true rfl), (Nat.le_of_ble_eq_true rfl)⟩ ⟨(Nat.le_of_ble_eq_true rfl), (Nat.le_of_ble_eq_true rfl)⟩ vq_7 rfl ko_67 rfl (Nat.le_of_ble_eq_true rfl) dX7_readClause_26) ?_
      obtain rfl := Option.some.inj h
      exact G_vret C hr (Nat.le_of_ble_eq_true rfl) (Nat.le_of_ble_eq_true rfl) dX7_readClause_29
  · replace h := (if_pos hc2).symm.trans h
    refine G_aload_n C 1 rfl rfl dX7_readClause_12 ?_
    refine G_iconst C (v := 1) rfl dX7_readClause_13 ?_
    obtain ⟨σ19, hv19, h⟩ := bnd h
    refine G_callV (run_V C [.int (1 : Int32)] [] (dX7_refuse hv19) ml_X7_refuse mv_X7_refuse lk_X7_91 ⟨(Nat.le_of_ble_eq_true rfl), (Nat.le_of_ble_eq_true rfl)⟩ ⟨(Nat.le_of_ble_eq_true rfl), (Nat.le_of_ble_eq_true rfl)⟩ vq_7 rfl ko_67 rfl (Nat.le_of_ble_eq_true rfl) dX7_readClause_14) ?_
    obtain rfl := Option.some.inj h
    exact G_vret C hr (Nat.le_of_ble_eq_true rfl) (Nat.le_of_ble_eq_true rfl) dX7_readClause_17
set_option maxRecDepth 100000 in
set_option maxHeartbeats 4000000 in
theorem eX7_read_55B (C : Cx E p s m args meth c cX7_read 6 RX7) (hr : meth.sig.returnType = (some .int)) {σ0 : Sto} {r1 : Int32} {r2 : Sto} {σ : Sto} {f55 : Int32 → Sto → Option (Int32 × Sto)} {x5 : Int32} (hf55 : ∀ (x5 : Int32) (σ' : Sto), f55 x5 σ' = some (r1, r2) → G p l e (rmd 66 0 0) s m args below meth c E true (sZ σ0) ad0 (MQ below (QI E true σ0 r1 r2 ad0) args s 0 0 (AE E)) 6 0 0 σ' 55 [(0, .ref 67), (5, .int x5)] []) (h : mX7_read_55B f55 x5 σ = some (r1, r2)) : G p l e (rmd 66 0 0) s m args below meth c E true (sZ σ0) ad0 (MQ below (QI E true σ0 r1 r2 ad0) args s 0 0 (AE E)) 6 0 0 σ 55 [(0, .ref 67), (5, .int x5)] [] := by
  unfold mX7_read_55B at h
  refine G_iload C 1 rfl dX7_read_55 ?_
  refine G_bipush C (v := 16) rfl dX7_read_57 ?_
  refine G_icmp_gt (tgt := 88) C rfl dX7_read_59 (fun hc18 => ?_) (fun hc18 => ?_)
  · replace h := (if_pos hc18).symm.trans h
    refine G_aload_n C 0 rfl rfl dX7_read_88 ?_
    refine G_getI C fl_X7_29_7 (Or.inl rfl) ko_67 dX7_read_89 ?_
    obtain ⟨rfl, rfl⟩ := some2 h
    exact G_iret C hr (Nat.le_of_ble_eq_true rfl) (Nat.le_of_ble_eq_true rfl) dX7_read_92
  · replace h := (if_neg hc18).symm.trans h
    refine G_aload_n C 0 rfl rfl dX7_read_62 ?_
    refine G_getI C fl_X7_29_7 (Or.inl rfl) ko_67 dX7_read_63 ?_
    refine G_if_ne (tgt := 88) C rfl dX7_read_66 (fun hc19 => ?_) (fun hc19 => ?_)
    · replace h := (if_neg hc19).symm.trans h
      refine G_aload_n C 0 rfl rfl dX7_read_88 ?_
      refine G_getI C fl_X7_29_7 (Or.inl rfl) ko_67 dX7_read_89 ?_
      obtain ⟨rfl, rfl⟩ := some2 h
      exact G_iret C hr (Nat.le_of_ble_eq_true rfl) (Nat.le_of_ble_eq_true rfl) dX7_read_92
    · replace h := (if_pos hc19).symm.trans h
      refine G_aload_n C 0 rfl rfl dX7_read_69 ?_
      refine G_getI C fl_X7_35_7 (Or.inl rfl) ko_67 dX7_read_70 ?_
      refine G_if_eq (tgt := 88) C rfl dX7_read_73 (fun hc20 => ?_) (fun hc20 => ?_)
      · replace h := (if_pos hc20).symm.trans h
        refine G_aload_n C 0 rfl rfl dX7_read_88 ?_
        refine G_getI C fl_X7_29_7 (Or.inl rfl) ko_67 dX7_read_89 ?_
        obtain ⟨rfl, rfl⟩ := some2 h
        exact G_iret C hr (Nat.le_of_ble_eq_true rfl) (Nat.le_of_ble_eq_true rfl) dX7_read_92
      · replace h := (if_neg hc20).symm.trans h
        refine G_aload_n C 0 rfl rfl dX7_read_76 ?_
        refine G_iload C 1 rfl dX7_read_77 ?_
        obtain ⟨σ21, hv21, h⟩ := bnd h
        refine G_callV (run_V C [.int x5] [] (dX7_readClause hv21) ml_X7_readClause mv_X7_readClause lk_X7_62 ⟨(Nat.le_of_ble_eq_true rfl), (Nat.le_of_ble_eq_true rfl)⟩ ⟨(Nat.le_of_ble_eq_true rfl), (Nat.le_of_ble_eq_true rfl)⟩ vq_7 rfl ko_67 rfl (Nat.le_of_ble_eq_true rfl) dX7_read_79) ?_
        refine G_iinc (v := 1) (L' := [(5, .int (x5 + (1 : Int32))), (0, .ref 67)]) C 1 rfl rfl (Nat.le_of_ble_eq_true rfl) rfl dX7_read_82 ?_
        refine G_goto (tgt := 55) C rfl dX7_read_85 ?_
        refine G_sub [1, 0] rfl ?_
        exact hf55 _ _ h
set_option maxRecDepth 100000 in
set_option maxHeartbeats 4000000 in
theorem eX7_read_55 (C : Cx E p s m args meth c cX7_read 6 RX7) (hr : meth.sig.returnType = (some .int)) {σ0 : Sto} {r1 : Int32} {r2 : Sto} {σ : Sto} {n : Nat} {x5 : Int32} (h : mX7_read_55 n x5 σ = some (r1, r2)) : G p l e (rmd 66 0 0) s m args below meth c E true (sZ σ0) ad0 (MQ below (QI E true σ0 r1 r2 ad0) args s 0 0 (AE E)) 6 0 0 σ 55 [(0, .ref 67), (5, .int x5)] [] := by
  induction n generalizing x5 σ with
  | zero => exact nomatch (show (none : Option (Int32 × Sto)) = some (r1, r2) from h)
  | succ n ih => exact eX7_read_55B C hr (fun z0 σ9 h9 => ih h9) h
set_option maxRecDepth 100000 in
set_option maxHeartbeats 4000000 in
theorem dX7_read {σ : Sto} {p0 : Nat} {p1 : Int32} {p2 : Int32} {p3 : Nat} {r1 : Int32} {r2 : Sto} (h : mX7_read p0 p1 p2 p3 σ = some (r1, r2)) : MM l yX7_read cX7_read 6 (some .int) 66 0 0 E true σ [.ref 67, .ref p0, .int p1, .int p2, .ref p3] (QI E true σ r1 r2) := by
  unfold mX7_read at h
  refine MM_of (by decide) (Nat.le_of_ble_eq_true rfl) rfl (fun p e s m args below meth c ad0 C hr hn => ?_)
  refine G_aload_n C 0 rfl rfl dX7_read_0 ?_
  refine G_aload_n C 1 rfl rfl dX7_read_1 ?_
  obtain ⟨σ1, hs1, h⟩ := stp_elim h
  refine G_putR C fl_X7_9_7 fp_X7_7_0 (Or.inl rfl) rfl (fun _ => rfl) ko_67 dX7_read_2 ?_
  rw [← hs1]
  refine G_aload_n C 0 rfl rfl dX7_read_5 ?_
  refine G_iload_n C 2 rfl rfl dX7_read_6 ?_
  refine G_aload_n C 1 rfl rfl dX7_read_7 ?_
  obtain ⟨hc2, h⟩ := ifn h
  refine G_alen (t := 0) (v := (Int32.ofNat (sN σ1 p0))) C (by decide) (KD.nz hc2 rfl) rfl dX7_read_8 ?_
  refine G_mmin C lk_X7_50 mj_min_i.1 mj_ini mj_min_i.2 (Nat.le_of_ble_eq_true rfl) (Nat.le_of_ble_eq_true rfl) (Nat.le_of_ble_eq_true rfl) (Nat.le_of_ble_eq_true rfl) dX7_read_9 ?_
  obtain ⟨σ3, hs3, h⟩ := stp_elim h
  refine G_putI C fl_X7_15_7 fp_X7_7_1 (Or.inl rfl) (Or.inl rfl) ko_67 dX7_read_12 ?_
  rw [← hs3]
  have hc4 : sK σ3 p0 = 100 := by rw [hs3]; exact hc2
  have hc5 : sN σ3 p0 = (sN σ1 p0) := by rw [hs3]; exact rfl
  refine G_aload_n C 0 rfl rfl dX7_read_15 ?_
  refine G_iload_n C 3 rfl rfl dX7_read_16 ?_
  obtain ⟨σ6, hs6, h⟩ := stp_elim h
  refine G_putI C fl_X7_19_7 fp_X7_7_2 (Or.inl rfl) (Or.inl rfl) ko_67 dX7_read_17 ?_
  rw [← hs6]
  have hc7 : sK σ6 p0 = 100 := by rw [hs6]; exact hc4
  have hc8 : sN σ6 p0 = (sN σ1 p0) := by rw [hs6]; exact hc5
  refine G_aload_n C 0 rfl rfl dX7_read_20 ?_
  refine G_aload C 4 rfl dX7_read_21 ?_
  obtain ⟨σ9, hs9, h⟩ := stp_elim h
  refine G_putR C fl_X7_25_7 fp_X7_7_3 (Or.inl rfl) rfl (fun _ => rfl) ko_67 dX7_read_23 ?_
  rw [← hs9]
  have hc10 : sK σ9 p0 = 100 := by rw [hs9]; exact hc7
  have hc11 : sN σ9 p0 = (sN σ1 p0) := by rw [hs9]; exact hc8
  refine G_aload_n C 0 rfl rfl dX7_read_26 ?_
  refine G_getR C fl_X7_25_7 rfl ko_67 dX7_read_27 ?_
  obtain ⟨hc13, h⟩ := ifn h
  obtain ⟨σ12, hv12, h⟩ := bnd h
  refine G_callV (run_V C [] [] (dX4_blank hc13 hv12) ml_X4_blank mv_X4_blank lk_X7_56 ⟨(Nat.le_of_ble_eq_true rfl), (Nat.le_of_ble_eq_true rfl)⟩ ⟨(Nat.le_of_ble_eq_true rfl), (Nat.le_of_ble_eq_true rfl)⟩ vq_4 rfl (KO.dy hc13) rfl (Nat.le_of_ble_eq_true rfl) dX7_read_30) ?_
  refine G_aload_n C 0 rfl rfl dX7_read_33 ?_
  refine G_iconst C (v := 0) rfl dX7_read_34 ?_
  obtain ⟨σ14, hs14, h⟩ := stp_elim h
  refine G_putI C fl_X7_29_7 fp_X7_7_4 (Or.inl rfl) (Or.inl rfl) ko_67 dX7_read_35 ?_
  rw [← hs14]
  refine G_aload_n C 0 rfl rfl dX7_read_38 ?_
  refine G_iconst C (v := -1) rfl dX7_read_39 ?_
  obtain ⟨σ15, hs15, h⟩ := stp_elim h
  refine G_putI C fl_X7_32_7 fp_X7_7_5 (Or.inl rfl) (Or.inl rfl) ko_67 dX7_read_40 ?_
  rw [← hs15]
  refine G_aload_n C 0 rfl rfl dX7_read_43 ?_
  refine G_iconst C (v := 0) rfl dX7_read_44 ?_
  obtain ⟨σ16, hs16, h⟩ := stp_elim h
  refine G_putI C fl_X7_41_7 fp_X7_7_8 (Or.inl rfl) (Or.inl rfl) ko_67 dX7_read_45 ?_
  rw [← hs16]
  refine G_aload_n C 0 rfl rfl dX7_read_48 ?_
  obtain ⟨σ17, hv17, h⟩ := bnd h
  refine G_callV (run_V C [] [] (dX7_next hv17) ml_X7_next mv_X7_next lk_X7_59 ⟨(Nat.le_of_ble_eq_true rfl), (Nat.le_of_ble_eq_true rfl)⟩ ⟨(Nat.le_of_ble_eq_true rfl), (Nat.le_of_ble_eq_true rfl)⟩ vq_7 rfl ko_67 rfl (Nat.le_of_ble_eq_true rfl) dX7_read_49) ?_
  refine G_iconst C (v := 0) rfl dX7_read_52 ?_
  refine G_istore (L' := [(5, .int (0 : Int32)), (0, .ref 67), (1, .ref p0), (2, .int p1), (3, .int p2), (4, .ref p3)]) C (Nat.le_of_ble_eq_true rfl) rfl dX7_read_53 ?_
  refine G_sub [1, 0] rfl ?_
  exact eX7_read_55 C hr h
set_option maxRecDepth 100000 in
set_option maxHeartbeats 4000000 in
theorem eX11_readTape_17 (C : Cx E p s m args meth c cX11_readTape 6 RX11) (hr : meth.sig.returnType = (some .int)) (hlx : l.stackTraces = false) (htb : ∀ x ∈ c.exceptionTable.toList, False) {r : Nat ⊕ (Int32 × Sto)} {σ : Sto} (h : mX11_readTape_17 σ = some r) : G p l e (rmd 67 2 12) s m args below meth c E true (sZ σ) ad0 (vx_MQ below (QIx E true σ r ad0) (XX E true σ Int32 r ad0) args s 2 12 (AE E)) 6 1 6 σ 17 [] [] := by
  unfold mX11_readTape_17 at h
  obtain rfl := Option.some.inj h
  exact G_throwW C hlx htb rfl (x := 1) rfl xw_155 nl_X11_151 xi_1 (List.mem_of_getElem? (l := msgs) (i := 8) rfl) (Nat.le_of_ble_eq_true rfl) (Nat.le_of_ble_eq_true rfl) (Nat.le_of_ble_eq_true rfl) (Nat.le_of_ble_eq_true rfl) (Nat.le_of_ble_eq_true rfl) (Nat.le_of_ble_eq_true rfl) dX11_readTape_17 dX11_readTape_20 dX11_readTape_21 dX11_readTape_24 dX11_readTape_27
set_option maxRecDepth 100000 in
set_option maxHeartbeats 4000000 in
theorem dX11_readTape (hlx : l.stackTraces = false) {σ : Sto} {p0 : Int32} {p1 : Int32} {p2 : Int32} {p3 : Int32} {r : Nat ⊕ (Int32 × Sto)} (h : mX11_readTape p0 p1 p2 p3 σ = some r) : MX l yX11_readTape cX11_readTape 6 (some .int) 67 2 12 E true σ [.ref 32, .int p0, .int p1, .int p2, .int p3] Int32 r (QIx E true σ r) := by
  unfold mX11_readTape at h
  refine MX_of (by decide) (Nat.le_of_ble_eq_true rfl) rfl (fun p e s m args below meth c ad0 C hr htb => ?_)
  refine G_aload_n C 0 rfl rfl dX11_readTape_0 ?_
  refine G_iload_n C 1 rfl rfl dX11_readTape_1 ?_
  rcases bdp_elim h with ⟨x1, hv1, rfl⟩ | ⟨u1, hv1, h⟩
  · exact G_callVx_thr C htb (Nat.le_of_ble_eq_true rfl) (Nat.le_of_ble_eq_true rfl) (run_Vx C [.int p0] [] (dX11_needLand hlx hv1) ml_X11_needLand mv_X11_needLand lk_X11_66 ⟨(Nat.le_of_ble_eq_true rfl), (Nat.le_of_ble_eq_true rfl)⟩ ⟨(Nat.le_of_ble_eq_true rfl), (Nat.le_of_ble_eq_true rfl)⟩ vq_10 rfl ko_32 rfl (Nat.le_of_ble_eq_true rfl) dX11_readTape_2)
  refine G_callVx (run_Vx C [.int p0] [] (dX11_needLand hlx hv1) ml_X11_needLand mv_X11_needLand lk_X11_66 ⟨(Nat.le_of_ble_eq_true rfl), (Nat.le_of_ble_eq_true rfl)⟩ ⟨(Nat.le_of_ble_eq_true rfl), (Nat.le_of_ble_eq_true rfl)⟩ vq_10 rfl ko_32 rfl (Nat.le_of_ble_eq_true rfl) dX11_readTape_2) ?_
  refine G_iload_n C 2 rfl rfl dX11_readTape_5 ?_
  refine G_if_lt (tgt := 17) C rfl dX11_readTape_6 (fun hc2 => ?_) (fun hc2 => ?_)
  · replace h := (if_pos hc2).symm.trans h
    refine G_sub [] rfl ?_
    exact eX11_readTape_17 C hr hlx htb h
  · replace h := (if_neg hc2).symm.trans h
    refine G_iload_n C 2 rfl rfl dX11_readTape_9 ?_
    refine G_aload_n C 0 rfl rfl dX11_readTape_10 ?_
    refine G_getI C fl_X11_45_10 (Or.inl rfl) ko_32 dX11_readTape_11 ?_
    refine G_icmp_le (tgt := 28) C rfl dX11_readTape_14 (fun hc3 => ?_) (fun hc3 => ?_)
    · replace h := (if_pos hc3).symm.trans h
      refine G_aload_n C 0 rfl rfl dX11_readTape_28 ?_
      refine G_iconst C (v := 0) rfl dX11_readTape_29 ?_
      obtain ⟨σ4, hs4, h⟩ := stp_elim h
      refine G_putI C fl_X11_45_10 fp_X11_10_5 (Or.inl rfl) (Or.inl rfl) ko_32 dX11_readTape_30 ?_
      rw [← hs4]
      refine G_aload_n C 0 rfl rfl dX11_readTape_33 ?_
      refine G_iconst C (v := -1) rfl dX11_readTape_34 ?_
      obtain ⟨σ5, hs5, h⟩ := stp_elim h
      refine G_putI C fl_X11_49_10 fp_X11_10_6 (Or.inl rfl) (Or.inl rfl) ko_32 dX11_readTape_35 ?_
      rw [← hs5]
      refine G_iload C 4 rfl dX11_readTape_38 ?_
      refine G_if_eq (tgt := 50) C rfl dX11_readTape_40 (fun hc6 => ?_) (fun hc6 => ?_)
      · replace h := (if_pos hc6).symm.trans h
        refine G_bipush C (v := 9) rfl dX11_readTape_50 ?_
        obtain rfl := Option.some.inj h
        exact G_iretx C hr (Nat.le_of_ble_eq_true rfl) (Nat.le_of_ble_eq_true rfl) dX11_readTape_52
      · replace h := (if_neg hc6).symm.trans h
        refine G_iload_n C 3 rfl rfl dX11_readTape_43 ?_
        refine G_callI (run_S C [.int p2] [] (dX11_isDay rfl) ml_X11_isDay ms_X11_isDay lk_X11_73 ⟨(Nat.le_of_ble_eq_true rfl), (Nat.le_of_ble_eq_true rfl)⟩ ⟨(Nat.le_of_ble_eq_true rfl), (Nat.le_of_ble_eq_true rfl)⟩ rfl (Nat.le_of_ble_eq_true rfl) dX11_readTape_44) ?_
        refine G_if_ne (tgt := 53) C rfl dX11_readTape_47 (fun hc8 => ?_) (fun hc8 => ?_)
        · replace h := (if_neg hc8).symm.trans h
          refine G_aload_n C 0 rfl rfl dX11_readTape_53 ?_
          refine G_getF C fl_X11_37_10 rfl rfl fn_32_3 dX11_readTape_54 ?_
          refine G_aload_n C 0 rfl rfl dX11_readTape_57 ?_
          refine G_getF C fl_X11_41_10 rfl rfl fn_32_4 dX11_readTape_58 ?_
          refine G_iload_n C 2 rfl rfl dX11_readTape_61 ?_
          refine G_aload_n C 0 rfl rfl dX11_readTape_62 ?_
          refine G_getF C fl_X11_10_10 rfl rfl fn_32_0 dX11_readTape_63 ?_
          refine G_getI C fl_X11_63_1 (Or.inl rfl) ko_33 dX11_readTape_66 ?_
          refine G_aload_n C 0 rfl rfl dX11_readTape_69 ?_
          refine G_getR C fl_X11_55_10 rfl ko_32 dX11_readTape_70 ?_
          obtain ⟨v9, σ9, hv9, h⟩ := bd2_elim h
          refine G_callI (run_V C [.ref 74, .int p1, .int (sI σ5 33 1), .ref (sR σ5 32 7)] [] (dX7_read hv9) ml_X7_read mv_X7_read lk_X11_382 ⟨(Nat.le_of_ble_eq_true rfl), (Nat.le_of_ble_eq_true rfl)⟩ ⟨(Nat.le_of_ble_eq_true rfl), (Nat.le_of_ble_eq_true rfl)⟩ vq_7 rfl ko_67 rfl (Nat.le_of_ble_eq_true rfl) dX11_readTape_73) ?_
          refine G_istore (L' := [(5, .int v9), (0, .ref 32), (1, .int p0), (2, .int p1), (3, .int p2), (4, .int p3)]) C (Nat.le_of_ble_eq_true rfl) rfl dX11_readTape_76 ?_
          refine G_aload_n C 1 rfl rfl dX11_readTape_78 ?_
          refine G_aload_n C 1 rfl rfl dX11_readTape_79 ?_
          refine G_getF C fl_X11_37_10 rfl rfl fn_32_3 dX11_readTape_80 ?_
          refine G_getI C fl_X11_386_7 (Or.inl rfl) ko_67 dX11_readTape_83 ?_
          obtain ⟨σ10, hs10, h⟩ := stp_elim h
          refine G_putI C fl_X11_49_10 fp_X11_10_6 (Or.inl rfl) (Or.inl rfl) ko_32 dX11_readTape_86 ?_
          rw [← hs10]
          refine G_aload_n C 1 rfl rfl dX11_readTape_89 ?_
          refine G_getR C fl_X11_55_10 rfl ko_32 dX11_readTape_90 ?_
          refine G_iload_n C 2 rfl rfl dX11_readTape_93 ?_
          obtain ⟨hc11, h⟩ := ifn h
          obtain ⟨σ12, hs12, h⟩ := stp_elim h
          refine G_putI C fl_X11_387_4 fp_X11_4_2 (Or.inl rfl) (Or.inl rfl) (KO.dy hc11) dX11_readTape_94 ?_
          rw [← hs12]
          have hc13 : sK σ12 (sR σ10 32 7) = 5 := by rw [hs12]; exact hc11
          refine G_aload_n C 1 rfl rfl dX11_readTape_97 ?_
          refine G_getR C fl_X11_55_10 rfl ko_32 dX11_readTape_98 ?_
          refine G_iload_n C 4 rfl rfl dX11_readTape_101 ?_
          obtain ⟨hc14, h⟩ := ifn h
          obtain ⟨σ15, hs15, h⟩ := stp_elim h
          refine G_putI C fl_X11_388_4 fp_X11_4_3 (Or.inl rfl) (Or.inl rfl) (KO.dy hc14) dX11_readTape_102 ?_
          rw [← hs15]
          have hc16 : sK σ15 (sR σ10 32 7) = 5 := by rw [hs15]; exact hc13
          have hc17 : sK σ15 (sR σ12 32 7) = 5 := by rw [hs15]; exact hc14
          refine G_iload C 0 rfl dX11_readTape_105 ?_
          obtain rfl := Option.some.inj h
          exact G_iretx C hr (Nat.le_of_ble_eq_true rfl) (Nat.le_of_ble_eq_true rfl) dX11_readTape_107
        · replace h := (if_pos hc8).symm.trans h
          refine G_bipush C (v := 9) rfl dX11_readTape_50 ?_
          obtain rfl := Option.some.inj h
          exact G_iretx C hr (Nat.le_of_ble_eq_true rfl) (Nat.le_of_ble_eq_true rfl) dX11_readTape_52
    · replace h := (if_neg hc3).symm.trans h
      refine G_sub [] rfl ?_
      exact eX11_readTape_17 C hr hlx htb h
set_option maxRecDepth 100000 in
set_option maxHeartbeats 4000000 in
theorem dX11_attempt (hlx : l.stackTraces = false) {σ : Sto} {p0 : Int32} {p1 : Int32} {p2 : Int32} {r : Nat ⊕ (Int32 × Sto)} (h : mX11_attempt p0 p1 p2 σ = some r) : MX l yX11_attempt cX11_attempt 5 (some .int) 68 2 12 E true σ [.ref 32, .int p0, .int p1, .int p2] Int32 r (QIx E true σ r) := by
  unfold mX11_attempt at h
  refine MX_of (by decide) (Nat.le_of_ble_eq_true rfl) rfl (fun p e s m args below meth c ad0 C hr htb => ?_)
  refine G_aload_n C 0 rfl rfl dX11_attempt_0 ?_
  refine G_iload_n C 1 rfl rfl dX11_attempt_1 ?_
  refine G_iload_n C 2 rfl rfl dX11_attempt_2 ?_
  refine G_iload_n C 3 rfl rfl dX11_attempt_3 ?_
  refine G_iconst C (v := 1) rfl dX11_attempt_4 ?_
  rcases bdx_elim h with ⟨x1, hv1, rfl⟩ | ⟨v1, σ1, hv1, h⟩
  · exact G_callIx_thr C htb (Nat.le_of_ble_eq_true rfl) (Nat.le_of_ble_eq_true rfl) (run_Vx C [.int p0, .int p1, .int p2, .int (1 : Int32)] [] (dX11_readTape hlx hv1) ml_X11_readTape mv_X11_readTape lk_X11_244 ⟨(Nat.le_of_ble_eq_true rfl), (Nat.le_of_ble_eq_true rfl)⟩ ⟨(Nat.le_of_ble_eq_true rfl), (Nat.le_of_ble_eq_true rfl)⟩ vq_10 rfl ko_32 rfl (Nat.le_of_ble_eq_true rfl) dX11_attempt_5)
  refine G_callIx (run_Vx C [.int p0, .int p1, .int p2, .int (1 : Int32)] [] (dX11_readTape hlx hv1) ml_X11_readTape mv_X11_readTape lk_X11_244 ⟨(Nat.le_of_ble_eq_true rfl), (Nat.le_of_ble_eq_true rfl)⟩ ⟨(Nat.le_of_ble_eq_true rfl), (Nat.le_of_ble_eq_true rfl)⟩ vq_10 rfl ko_32 rfl (Nat.le_of_ble_eq_true rfl) dX11_attempt_5) ?_
  refine G_istore (L' := [(4, .int v1), (0, .ref 32), (1, .int p0), (2, .int p1), (3, .int p2)]) C (Nat.le_of_ble_eq_true rfl) rfl dX11_attempt_8 ?_
  refine G_iload C 0 rfl dX11_attempt_10 ?_
  refine G_if_ne (tgt := 19) C rfl dX11_attempt_12 (fun hc2 => ?_) (fun hc2 => ?_)
  · replace h := (if_neg hc2).symm.trans h
    refine G_iload C 0 rfl dX11_attempt_19 ?_
    obtain rfl := Option.some.inj h
    exact G_iretx C hr (Nat.le_of_ble_eq_true rfl) (Nat.le_of_ble_eq_true rfl) dX11_attempt_21
  · replace h := (if_pos hc2).symm.trans h
    refine G_aload_n C 1 rfl rfl dX11_attempt_15 ?_
    obtain ⟨σ3, hv3, h⟩ := bnd h
    refine G_callV (run_V C [] [] (dX11_tryDraft hv3) ml_X11_tryDraft mv_X11_tryDraft lk_X11_357 ⟨(Nat.le_of_ble_eq_true rfl), (Nat.le_of_ble_eq_true rfl)⟩ ⟨(Nat.le_of_ble_eq_true rfl), (Nat.le_of_ble_eq_true rfl)⟩ vq_10 rfl ko_32 rfl (Nat.le_of_ble_eq_true rfl) dX11_attempt_16) ?_
    refine G_iload C 0 rfl dX11_attempt_19 ?_
    obtain rfl := Option.some.inj h
    exact G_iretx C hr (Nat.le_of_ble_eq_true rfl) (Nat.le_of_ble_eq_true rfl) dX11_attempt_21
set_option maxRecDepth 100000 in
set_option maxHeartbeats 4000000 in
theorem eX11_law_21 (C : Cx E p s m args meth c cX11_law 5 RX11) (hr : meth.sig.returnType = (some .int)) (hlx : l.stackTraces = false) (htb : ∀ x ∈ c.exceptionTable.toList, False) {r : Nat ⊕ (Int32 × Sto)} {σ : Sto} {y1 : Int32} {y2 : Int32} {y3 : Int32} {y4 : Int32} (h : mX11_law_21 y1 y2 y3 y4 σ = some r) : G p l e (rmd 68 7 624) s m args below meth c E true (sZ σ) ad0 (vx_MQ below (QIx E true σ r ad0) (XX E true σ Int32 r ad0) args s 7 624 (AE E)) 5 0 0 σ 21 [(0, .ref 32)] [.int y4, .int y3, .int y2, .int y1, .ref 32] := by
  unfold mX11_law_21 at h
  rcases bdx_elim h with ⟨x2, hv2, rfl⟩ | ⟨v2, σ2, hv2, h⟩
  · exact G_callIx_thr C htb (Nat.le_of_ble_eq_true rfl) (Nat.le_of_ble_eq_true rfl) (run_Vx C [.int y1, .int y2, .int y3, .int y4] [] (dX11_readTape hlx hv2) ml_X11_readTape mv_X11_readTape lk_X11_244 ⟨(Nat.le_of_ble_eq_true rfl), (Nat.le_of_ble_eq_true rfl)⟩ ⟨(Nat.le_of_ble_eq_true rfl), (Nat.le_of_ble_eq_true rfl)⟩ vq_10 rfl ko_32 rfl (Nat.le_of_ble_eq_true rfl) dX11_law_21)
  refine G_callIx (run_Vx C [.int y1, .int y2, .int y3, .int y4] [] (dX11_readTape hlx hv2) ml_X11_readTape mv_X11_readTape lk_X11_244 ⟨(Nat.le_of_ble_eq_true rfl), (Nat.le_of_ble_eq_true rfl)⟩ ⟨(Nat.le_of_ble_eq_true rfl), (Nat.le_of_ble_eq_true rfl)⟩ vq_10 rfl ko_32 rfl (Nat.le_of_ble_eq_true rfl) dX11_law_21) ?_
  refine G_istore (L' := [(4, .int v2), (0, .ref 32)]) C (Nat.le_of_ble_eq_true rfl) rfl dX11_law_24 ?_
  refine G_iload C 0 rfl dX11_law_26 ?_
  refine G_bipush C (v := 9) rfl dX11_law_28 ?_
  refine G_icmp_ne (tgt := 36) C rfl dX11_law_30 (fun hc3 => ?_) (fun hc3 => ?_)
  · replace h := (if_neg hc3).symm.trans h
    refine G_iload C 0 rfl dX11_law_36 ?_
    refine G_if_eq (tgt := 46) C rfl dX11_law_38 (fun hc4 => ?_) (fun hc4 => ?_)
    · replace h := (if_pos hc4).symm.trans h
      refine G_aload_n C 1 rfl rfl dX11_law_46 ?_
      refine G_getR C fl_X11_55_10 rfl ko_32 dX11_law_47 ?_
      refine G_aload_n C 1 rfl rfl dX11_law_50 ?_
      refine G_getF C fl_X11_10_10 rfl rfl fn_32_0 dX11_law_51 ?_
      refine G_getI C fl_X11_148_1 (Or.inl rfl) ko_33 dX11_law_54 ?_
      obtain ⟨hc5, h⟩ := ifn h
      obtain ⟨σ6, hs6, h⟩ := stp_elim h
      refine G_putI C fl_X11_248_4 fp_X11_4_0 (Or.inl rfl) (Or.inl rfl) (KO.dy hc5) dX11_law_57 ?_
      rw [← hs6]
      have hc7 : sK σ6 (sR σ2 32 7) = 5 := by rw [hs6]; exact hc5
      refine G_aload_n C 1 rfl rfl dX11_law_60 ?_
      refine G_getF C fl_X11_10_10 rfl rfl fn_32_0 dX11_law_61 ?_
      refine G_getF C fl_X11_251_1 rfl rfl fn_33_14 dX11_law_64 ?_
      refine G_aload_n C 1 rfl rfl dX11_law_67 ?_
      refine G_getF C fl_X11_10_10 rfl rfl fn_32_0 dX11_law_68 ?_
      refine G_getI C fl_X11_206_1 (Or.inl rfl) ko_33 dX11_law_71 ?_
      refine G_aload_n C 1 rfl rfl dX11_law_74 ?_
      refine G_getR C fl_X11_55_10 rfl ko_32 dX11_law_75 ?_
      obtain ⟨hc8, h⟩ := ifn h
      obtain ⟨hc9, h⟩ := ifn h
      obtain ⟨σ10, hs10, h⟩ := stp_elim h
      refine G_aastore (t := 8) (ci := 4) C ⟨by decide, by decide⟩ vq_4 rfl ks_40 (KO.dy hc9) hc8 dX11_law_78 ?_
      rw [← hs10]
      have hc11 : sK σ10 (sR σ2 32 7) = 5 := by rw [hs10]; exact hc7
      have hc12 : sK σ10 (sR σ6 32 7) = 5 := by rw [hs10]; exact hc9
      refine G_aload_n C 1 rfl rfl dX11_law_79 ?_
      refine G_getF C fl_X11_10_10 rfl rfl fn_32_0 dX11_law_80 ?_
      refine G_dup C rfl dX11_law_83 ?_
      refine G_getI C fl_X11_206_1 (Or.inl rfl) ko_33 dX11_law_84 ?_
      refine G_iconst C (v := 1) rfl dX11_law_87 ?_
      refine G_iadd C dX11_law_88 ?_
      obtain ⟨σ13, hs13, h⟩ := stp_elim h
      refine G_putI C fl_X11_206_1 fp_X11_1_15 (Or.inl rfl) (Or.inl rfl) ko_33 dX11_law_89 ?_
      rw [← hs13]
      have hc14 : sK σ13 (sR σ2 32 7) = 5 := by rw [hs13]; exact hc11
      have hc15 : sK σ13 (sR σ6 32 7) = 5 := by rw [hs13]; exact hc12
      refine G_aload_n C 1 rfl rfl dX11_law_92 ?_
      obtain ⟨σ16, hs16, h⟩ := stp_elim h
      refine G_new C vq_4 uw_X4 nl_X11_52 ni_X4.1 ni_X4.2 (Nat.le_of_ble_eq_true rfl) (Nat.le_of_ble_eq_true rfl) dX11_law_93 ?_
      rw [← hs16]
      have hc17 : sK σ16 (sZ σ13) = 5 := by rw [hs16]; exact (nwK_K _ _ _ _).trans (if_pos rfl)
      refine G_dup C rfl dX11_law_96 ?_
      obtain ⟨σ18, hv18, h⟩ := bnd h
      refine G_callV (run_I (kd := 5) C [] [.ref (sZ σ13), .ref 32] (dX4_init hc17 hv18) ml_X4_init mi_X4_init lk_X11_54 ⟨(Nat.le_of_ble_eq_true rfl), (Nat.le_of_ble_eq_true rfl)⟩ ⟨(Nat.le_of_ble_eq_true rfl), (Nat.le_of_ble_eq_true rfl)⟩ (by decide) (KO.dy hc17) rfl (Nat.le_of_ble_eq_true rfl) dX11_law_97) ?_
      obtain ⟨σ19, hs19, h⟩ := stp_elim h
      refine G_putR C fl_X11_55_10 fp_X11_10_7 (Or.inl rfl) rfl (fun _ => rfl) ko_32 dX11_law_100 ?_
      rw [← hs19]
      refine G_aload_n C 1 rfl rfl dX11_law_103 ?_
      refine G_getF C fl_X11_10_10 rfl rfl fn_32_0 dX11_law_104 ?_
      refine G_getI C fl_X11_206_1 (Or.inl rfl) ko_33 dX11_law_107 ?_
      refine G_iconst C (v := 1) rfl dX11_law_110 ?_
      refine G_isub C dX11_law_111 ?_
      obtain rfl := Option.some.inj h
      exact G_iretx C hr (Nat.le_of_ble_eq_true rfl) (Nat.le_of_ble_eq_true rfl) dX11_law_112
    · replace h := (if_neg hc4).symm.trans h
      refine G_iconst C (v := -1) rfl dX11_law_41 ?_
      refine G_iload C 0 rfl dX11_law_42 ?_
      refine G_isub C dX11_law_44 ?_
      obtain rfl := Option.some.inj h
      exact G_iretx C hr (Nat.le_of_ble_eq_true rfl) (Nat.le_of_ble_eq_true rfl) dX11_law_45
  · replace h := (if_pos hc3).symm.trans h
    refine G_bipush C (v := -9) rfl dX11_law_33 ?_
    obtain rfl := Option.some.inj h
    exact G_iretx C hr (Nat.le_of_ble_eq_true rfl) (Nat.le_of_ble_eq_true rfl) dX11_law_35
set_option maxRecDepth 100000 in
set_option maxHeartbeats 4000000 in
theorem dX11_law (hlx : l.stackTraces = false) {σ : Sto} {p0 : Int32} {p1 : Int32} {p2 : Int32} {r : Nat ⊕ (Int32 × Sto)} (h : mX11_law p0 p1 p2 σ = some r) : MX l yX11_law cX11_law 5 (some .int) 68 7 624 E true σ [.ref 32, .int p0, .int p1, .int p2] Int32 r (QIx E true σ r) := by
  unfold mX11_law at h
  refine MX_of (by decide) (Nat.le_of_ble_eq_true rfl) rfl (fun p e s m args below meth c ad0 C hr htb => ?_)
  refine G_aload_n C 0 rfl rfl dX11_law_0 ?_
  refine G_iload_n C 1 rfl rfl dX11_law_1 ?_
  refine G_iload_n C 2 rfl rfl dX11_law_2 ?_
  refine G_iload_n C 3 rfl rfl dX11_law_3 ?_
  refine G_aload_n C 0 rfl rfl dX11_law_4 ?_
  refine G_getF C fl_X11_10_10 rfl rfl fn_32_0 dX11_law_5 ?_
  refine G_getI C fl_X11_206_1 (Or.inl rfl) ko_33 dX11_law_8 ?_
  refine G_bipush C (v := 12) rfl dX11_law_11 ?_
  refine G_icmp_ge (tgt := 20) C rfl dX11_law_13 (fun hc1 => ?_) (fun hc1 => ?_)
  · replace h := (if_pos hc1).symm.trans h
    refine G_iconst C (v := 0) rfl dX11_law_20 ?_
    refine G_sub [0] rfl ?_
    exact eX11_law_21 C hr hlx htb h
  · replace h := (if_neg hc1).symm.trans h
    refine G_iconst C (v := 1) rfl dX11_law_16 ?_
    refine G_goto (tgt := 21) C rfl dX11_law_17 ?_
    refine G_sub [0] rfl ?_
    exact eX11_law_21 C hr hlx htb h
set_option maxRecDepth 100000 in
set_option maxHeartbeats 4000000 in
theorem dX11_init {σ : Sto} {a0 : Nat} {r2 : Sto} (hk0 : sK σ a0 = 11) (h : mX11_init a0 σ = some r2) : MM l yX11_init cX11_init 1 none 5 48 3334 E false σ [.ref a0] (QV E false σ r2) := by
  unfold mX11_init at h
  refine MM_of (by decide) (Nat.le_of_ble_eq_true rfl) rfl (fun p e s m args below meth c ad0 C hr hn => ?_)
  refine G_aload_n C 0 rfl rfl dX11_init_0 ?_
  refine G_objInit C lk_X11_1 oi_1 oi_2 (kd := 11) (by decide) (KO.dy hk0) (Nat.le_of_ble_eq_true rfl) (Nat.le_of_ble_eq_true rfl) dX11_init_1 ?_
  refine G_aload_n C 0 rfl rfl dX11_init_4 ?_
  obtain ⟨σ1, hs1, h⟩ := stp_elim h
  refine G_new C vq_1 uw_X1 nl_X11_7 ni_X1.1 ni_X1.2 (Nat.le_of_ble_eq_true rfl) (Nat.le_of_ble_eq_true rfl) dX11_init_5 ?_
  rw [← hs1]
  have hc2 : sK σ1 (sZ σ) = 2 := by rw [hs1]; exact (nwK_K _ _ _ _).trans (if_pos rfl)
  refine G_dup C rfl dX11_init_8 ?_
  obtain ⟨σ3, hv3, h⟩ := bnd h
  refine G_callV (run_I (kd := 2) C [] [.ref (sZ σ), .ref a0] (dX1_init hc2 hv3) ml_X1_init mi_X1_init lk_X11_9 ⟨(Nat.le_of_ble_eq_true rfl), (Nat.le_of_ble_eq_true rfl)⟩ ⟨(Nat.le_of_ble_eq_true rfl), (Nat.le_of_ble_eq_true rfl)⟩ (by decide) (KO.dy hc2) rfl (Nat.le_of_ble_eq_true rfl) dX11_init_9) ?_
  obtain ⟨hc4, h⟩ := ifn h
  obtain ⟨σ5, hs5, h⟩ := stp_elim h
  refine G_putR C fl_X11_10_10 fp_X11_10_0 (Or.inr hn) rfl (fun z => nomatch z) (KO.dy hc4) dX11_init_12 ?_
  rw [← hs5]
  have hc6 : sK σ5 a0 = 11 := by rw [hs5]; exact hc4
  refine G_aload_n C 0 rfl rfl dX11_init_15 ?_
  obtain ⟨σ7, hs7, h⟩ := stp_elim h
  refine G_new C vq_0 uw_X0 nl_X11_16 ni_X0.1 ni_X0.2 (Nat.le_of_ble_eq_true rfl) (Nat.le_of_ble_eq_true rfl) dX11_init_16 ?_
  rw [← hs7]
  have hc8 : sK σ7 (sZ σ5) = 1 := by rw [hs7]; exact (nwK_K _ _ _ _).trans (if_pos rfl)
  refine G_dup C rfl dX11_init_19 ?_
  refine G_aload_n C 0 rfl rfl dX11_init_20 ?_
  obtain ⟨hc9, h⟩ := ifn h
  refine G_getR C fl_X11_10_10 rfl (KO.dy hc9) dX11_init_21 ?_
  obtain ⟨σ10, hv10, h⟩ := bnd h
  refine G_callV (run_I (kd := 1) C [.ref (sR σ7 a0 0)] [.ref (sZ σ5), .ref a0] (dX0_init hc8 hv10) ml_X0_init mi_X0_init lk_X11_18 ⟨(Nat.le_of_ble_eq_true rfl), (Nat.le_of_ble_eq_true rfl)⟩ ⟨(Nat.le_of_ble_eq_true rfl), (Nat.le_of_ble_eq_true rfl)⟩ (by decide) (KO.dy hc8) rfl (Nat.le_of_ble_eq_true rfl) dX11_init_24) ?_
  obtain ⟨hc11, h⟩ := ifn h
  obtain ⟨σ12, hs12, h⟩ := stp_elim h
  refine G_putR C fl_X11_21_10 fp_X11_10_1 (Or.inr hn) rfl (fun z => nomatch z) (KO.dy hc11) dX11_init_27 ?_
  rw [← hs12]
  have hc13 : sK σ12 a0 = 11 := by rw [hs12]; exact hc11
  refine G_aload_n C 0 rfl rfl dX11_init_30 ?_
  obtain ⟨σ14, hs14, h⟩ := stp_elim h
  refine G_new C vq_2 uw_X2 nl_X11_25 ni_X2.1 ni_X2.2 (Nat.le_of_ble_eq_true rfl) (Nat.le_of_ble_eq_true rfl) dX11_init_31 ?_
  rw [← hs14]
  have hc15 : sK σ14 (sZ σ12) = 3 := by rw [hs14]; exact (nwK_K _ _ _ _).trans (if_pos rfl)
  refine G_dup C rfl dX11_init_34 ?_
  refine G_aload_n C 0 rfl rfl dX11_init_35 ?_
  obtain ⟨hc16, h⟩ := ifn h
  refine G_getR C fl_X11_10_10 rfl (KO.dy hc16) dX11_init_36 ?_
  refine G_aload_n C 0 rfl rfl dX11_init_39 ?_
  refine G_getR C fl_X11_21_10 rfl (KO.dy hc16) dX11_init_40 ?_
  obtain ⟨σ17, hv17, h⟩ := bnd h
  refine G_callV (run_I (kd := 3) C [.ref (sR σ14 a0 0), .ref (sR σ14 a0 1)] [.ref (sZ σ12), .ref a0] (dX2_init hc15 hv17) ml_X2_init mi_X2_init lk_X11_27 ⟨(Nat.le_of_ble_eq_true rfl), (Nat.le_of_ble_eq_true rfl)⟩ ⟨(Nat.le_of_ble_eq_true rfl), (Nat.le_of_ble_eq_true rfl)⟩ (by decide) (KO.dy hc15) rfl (Nat.le_of_ble_eq_true rfl) dX11_init_43) ?_
  obtain ⟨hc18, h⟩ := ifn h
  obtain ⟨σ19, hs19, h⟩ := stp_elim h
  refine G_putR C fl_X11_30_10 fp_X11_10_2 (Or.inr hn) rfl (fun z => nomatch z) (KO.dy hc18) dX11_init_46 ?_
  rw [← hs19]
  have hc20 : sK σ19 a0 = 11 := by rw [hs19]; exact hc18
  refine G_aload_n C 0 rfl rfl dX11_init_49 ?_
  obtain ⟨σ21, hs21, h⟩ := stp_elim h
  refine G_new C vq_7 uw_X7 nl_X11_34 ni_X7.1 ni_X7.2 (Nat.le_of_ble_eq_true rfl) (Nat.le_of_ble_eq_true rfl) dX11_init_50 ?_
  rw [← hs21]
  have hc22 : sK σ21 (sZ σ19) = 8 := by rw [hs21]; exact (nwK_K _ _ _ _).trans (if_pos rfl)
  refine G_dup C rfl dX11_init_53 ?_
  obtain ⟨σ23, hv23, h⟩ := bnd h
  refine G_callV (run_IN (kd := 8) C [] [.ref (sZ σ19), .ref a0] (dX7_init hc22 hv23) ml_X7_init mi_X7_init (by decide) ⟨(Nat.le_of_ble_eq_true rfl), (Nat.le_of_ble_eq_true rfl)⟩ ⟨(Nat.le_of_ble_eq_true rfl), (Nat.le_of_ble_eq_true rfl)⟩ (by decide) (KO.dy hc22) rfl (Nat.le_of_ble_eq_true rfl) dX11_init_54) ?_
  obtain ⟨hc24, h⟩ := ifn h
  obtain ⟨σ25, hs25, h⟩ := stp_elim h
  refine G_putR C fl_X11_37_10 fp_X11_10_3 (Or.inr hn) rfl (fun z => nomatch z) (KO.dy hc24) dX11_init_57 ?_
  rw [← hs25]
  have hc26 : sK σ25 a0 = 11 := by rw [hs25]; exact hc24
  refine G_aload_n C 0 rfl rfl dX11_init_60 ?_
  refine G_sipush C (v := 500) rfl dX11_init_61 ?_
  obtain ⟨σ27, hs27, h⟩ := stp_elim h
  refine G_newI (N := 500) C na_I (by decide) rfl (Nat.le_of_ble_eq_true rfl) (Nat.le_of_ble_eq_true rfl) (Nat.le_of_ble_eq_true rfl) dX11_init_64 ?_
  rw [← hs27]
  have hc28 : sK σ27 (sZ σ25) = 100 := by rw [hs27]; exact (nwK_K _ _ _ _).trans (if_pos rfl)
  have hc29 : sN σ27 (sZ σ25) = 500 := by rw [hs27]; exact (nwK_N _ _ _ _).trans (if_pos rfl)
  obtain ⟨hc30, h⟩ := ifn h
  obtain ⟨σ31, hs31, h⟩ := stp_elim h
  refine G_putR C fl_X11_41_10 fp_X11_10_4 (Or.inr hn) rfl (fun z => nomatch z) (KO.dy hc30) dX11_init_66 ?_
  rw [← hs31]
  have hc32 : sK σ31 (sZ σ25) = 100 := by rw [hs31]; exact hc28
  have hc33 : sN σ31 (sZ σ25) = 500 := by rw [hs31]; exact hc29
  have hc34 : sK σ31 a0 = 11 := by rw [hs31]; exact hc30
  refine G_aload_n C 0 rfl rfl dX11_init_69 ?_
  refine G_iconst C (v := 0) rfl dX11_init_70 ?_
  obtain ⟨σ35, hs35, h⟩ := stp_elim h
  refine G_putI C fl_X11_45_10 fp_X11_10_5 (Or.inl rfl) (Or.inl rfl) (KO.dy hc34) dX11_init_71 ?_
  rw [← hs35]
  have hc36 : sK σ35 (sZ σ25) = 100 := by rw [hs35]; exact hc32
  have hc37 : sN σ35 (sZ σ25) = 500 := by rw [hs35]; exact hc33
  have hc38 : sK σ35 a0 = 11 := by rw [hs35]; exact hc34
  refine G_aload_n C 0 rfl rfl dX11_init_74 ?_
  refine G_iconst C (v := -1) rfl dX11_init_75 ?_
  obtain ⟨σ39, hs39, h⟩ := stp_elim h
  refine G_putI C fl_X11_49_10 fp_X11_10_6 (Or.inl rfl) (Or.inl rfl) (KO.dy hc38) dX11_init_76 ?_
  rw [← hs39]
  have hc40 : sK σ39 (sZ σ25) = 100 := by rw [hs39]; exact hc36
  have hc41 : sN σ39 (sZ σ25) = 500 := by rw [hs39]; exact hc37
  have hc42 : sK σ39 a0 = 11 := by rw [hs39]; exact hc38
  refine G_aload_n C 0 rfl rfl dX11_init_79 ?_
  obtain ⟨σ43, hs43, h⟩ := stp_elim h
  refine G_new C vq_4 uw_X4 nl_X11_52 ni_X4.1 ni_X4.2 (Nat.le_of_ble_eq_true rfl) (Nat.le_of_ble_eq_true rfl) dX11_init_80 ?_
  rw [← hs43]
  have hc44 : sK σ43 (sZ σ39) = 5 := by rw [hs43]; exact (nwK_K _ _ _ _).trans (if_pos rfl)
  refine G_dup C rfl dX11_init_83 ?_
  obtain ⟨σ45, hv45, h⟩ := bnd h
  refine G_callV (run_I (kd := 5) C [] [.ref (sZ σ39), .ref a0] (dX4_init hc44 hv45) ml_X4_init mi_X4_init lk_X11_54 ⟨(Nat.le_of_ble_eq_true rfl), (Nat.le_of_ble_eq_true rfl)⟩ ⟨(Nat.le_of_ble_eq_true rfl), (Nat.le_of_ble_eq_true rfl)⟩ (by decide) (KO.dy hc44) rfl (Nat.le_of_ble_eq_true rfl) dX11_init_84) ?_
  obtain ⟨hc46, h⟩ := ifn h
  obtain ⟨σ47, hs47, h⟩ := stp_elim h
  refine G_putR C fl_X11_55_10 fp_X11_10_7 (Or.inl rfl) rfl (fun z => nomatch z) (KO.dy hc46) dX11_init_87 ?_
  rw [← hs47]
  have hc48 : sK σ47 a0 = 11 := by rw [hs47]; exact hc46
  refine G_aload_n C 0 rfl rfl dX11_init_90 ?_
  refine G_bipush C (v := 30) rfl dX11_init_91 ?_
  obtain ⟨σ49, hs49, h⟩ := stp_elim h
  refine G_newJ (N := 30) C na_J (by decide) rfl (Nat.le_of_ble_eq_true rfl) (Nat.le_of_ble_eq_true rfl) (Nat.le_of_ble_eq_true rfl) dX11_init_93 ?_
  rw [← hs49]
  have hc50 : sK σ49 (sZ σ47) = 101 := by rw [hs49]; exact (nwK_K _ _ _ _).trans (if_pos rfl)
  have hc51 : sN σ49 (sZ σ47) = 30 := by rw [hs49]; exact (nwK_N _ _ _ _).trans (if_pos rfl)
  obtain ⟨hc52, h⟩ := ifn h
  obtain ⟨σ53, hs53, h⟩ := stp_elim h
  refine G_putR C fl_X11_59_10 fp_X11_10_8 (Or.inr hn) rfl (fun z => nomatch z) (KO.dy hc52) dX11_init_95 ?_
  rw [← hs53]
  have hc54 : sK σ53 (sZ σ47) = 101 := by rw [hs53]; exact hc50
  have hc55 : sN σ53 (sZ σ47) = 30 := by rw [hs53]; exact hc51
  have hc56 : sK σ53 a0 = 11 := by rw [hs53]; exact hc52
  obtain rfl := Option.some.inj h
  exact G_vret C hr (Nat.le_of_ble_eq_true rfl) (Nat.le_of_ble_eq_true rfl) dX11_init_98
end
