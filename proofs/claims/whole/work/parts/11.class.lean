def mX5_init (a0 : Nat) (p0 : Int32) (p1 : Int32) (σ : Sto) : Option Sto :=
  stp (wI σ a0 0 p0) fun σ1 =>
  stp (wI σ1 a0 1 p1) fun σ3 =>
  some σ3
def mX6_init (a0 : Nat) (p0 : Int32) (p1 : Int32) (p2 : Int32) (σ : Sto) : Option Sto :=
  stp (wI σ a0 0 p0) fun σ1 =>
  stp (wI σ1 a0 1 p1) fun σ3 =>
  stp (wI σ3 a0 2 p2) fun σ5 =>
  some σ5
def mX8_init (a0 : Nat) (p0 : Int32) (p1 : Int32) (σ : Sto) : Option Sto :=
  stp (wI σ a0 0 p0) fun σ1 =>
  stp (wI σ1 a0 1 p1) fun σ3 =>
  some σ3
def mX10_init (a0 : Nat) (p0 : Int32) (p1 : Int32) (p2 : Int32) (p3 : Int32) (σ : Sto) : Option Sto :=
  stp (nwK σ (100 + 0) 3) fun σ1 =>
  if sK σ1 a0 = 10 then
  stp (wR σ1 a0 4 (sZ σ)) fun σ5 =>
  stp (nwK σ5 (100 + 0) 3) fun σ9 =>
  if sK σ9 a0 = 10 then
  stp (wR σ9 a0 5 (sZ σ5)) fun σ13 =>
  stp (wI σ13 a0 6 (0 : Int32)) fun σ17 =>
  stp (wI σ17 a0 7 (0 : Int32)) fun σ21 =>
  stp (wI σ21 a0 0 p0) fun σ25 =>
  stp (wI σ25 a0 1 p1) fun σ29 =>
  stp (wI σ29 a0 2 p2) fun σ33 =>
  stp (wI σ33 a0 3 p3) fun σ37 =>
  some σ37
  else none
  else none
def mX10_addArtist (a0 : Nat) (p0 : Int32) (p1 : Int32) (σ : Sto) : Option Sto :=
  if sK σ (sR σ a0 4) = 100 then
  if (Int32.ofNat (sN σ (sR σ a0 4))) ≤ (sI σ a0 6) then (
    some σ
  ) else (
    if inb (sI σ a0 6) (sN σ (sR σ a0 4)) then
    stp (wI σ (sR σ a0 4) ((sI σ a0 6)).toNatClampNeg p0) fun σ4 =>
    if sK σ4 (sR σ4 a0 5) = 100 then
    if inb (sI σ4 a0 6) (sN σ4 (sR σ4 a0 5)) then
    stp (wI σ4 (sR σ4 a0 5) ((sI σ4 a0 6)).toNatClampNeg p1) fun σ10 =>
    stp (wI σ10 a0 6 ((sI σ10 a0 6) + (1 : Int32))) fun σ16 =>
    stp (wI σ16 a0 7 ((sI σ16 a0 7) + p1)) fun σ22 =>
    some σ22
    else none
    else none
    else none
  )
  else none
def mX10_weightOf_2B (f2 : Nat → Int32 → Int32 → Sto → Option Int32) (x0 : Nat) (x1 : Int32) (x2 : Int32) (σ : Sto) : Option Int32 :=
  if sK σ x0 = 10 then
  if (sI σ x0 6) ≤ x2 then (
    some (0 : Int32)
  ) else (
    if sK σ (sR σ x0 4) = 100 then
    if (Int32.ofNat (sN σ (sR σ x0 4))) ≤ x2 then (
      some (0 : Int32)
    ) else (
      if inb x2 (sN σ (sR σ x0 4)) then
      if (sI σ (sR σ x0 4) (x2).toNatClampNeg) = x1 then (
        if sK σ (sR σ x0 5) = 100 then
        if inb x2 (sN σ (sR σ x0 5)) then
        some (sI σ (sR σ x0 5) (x2).toNatClampNeg)
        else none
        else none
      ) else (
        f2 x0 x1 (x2 + (1 : Int32)) σ
      )
      else none
    )
    else none
  )
  else none
def mX10_weightOf_2 : Nat → Nat → Int32 → Int32 → Sto → Option Int32
  | 0, _, _, _, _ => none
  | n + 1, x0, x1, x2, σ => mX10_weightOf_2B (mX10_weightOf_2 n) x0 x1 x2 σ
def mX10_weightOf (a0 : Nat) (p0 : Int32) (σ : Sto) : Option Int32 :=
  mX10_weightOf_2 FU a0 p0 (0 : Int32) σ
def mX10_isBy (a0 : Nat) (p0 : Int32) (σ : Sto) : Option Int32 :=
  (mX10_weightOf a0 p0 σ).bind fun v1 =>
  if v1 = 0 then (
    some (0 : Int32)
  ) else (
    some (1 : Int32)
  )
def mX10_mayBe (a0 : Nat) (p0 : Int32) (p1 : Int32) (p2 : Int32) (p3 : Int32) (σ : Sto) : Option Int32 :=
  if (p0 &&& ((sI σ a0 1) ^^^ (-1 : Int32))) = 0 then (
    if 0 < (lg_cmp (if 0 < ((p1).toInt64 - ((sI σ a0 2)).toInt64) then ((p1).toInt64 - ((sI σ a0 2)).toInt64) else -((p1).toInt64 - ((sI σ a0 2)).toInt64)) (p3).toInt64) then (
      some (0 : Int32)
    ) else (
      if 0 < (lg_cmp (if 0 < ((p2).toInt64 - ((sI σ a0 3)).toInt64) then ((p2).toInt64 - ((sI σ a0 3)).toInt64) else -((p2).toInt64 - ((sI σ a0 3)).toInt64)) (p3).toInt64) then (
        some (0 : Int32)
      ) else (
        some (1 : Int32)
      )
    )
  ) else (
    some (0 : Int32)
  )
def mX9_init3 (a0 : Nat) (σ : Sto) : Option Sto :=
  stp (wI σ a0 0 (1000000 : Int32)) fun σ1 =>
  stp (wI σ1 a0 1 (1000000 : Int32)) fun σ3 =>
  some σ3
def mX3_init (a0 : Nat) (p0 : Int32) (p1 : Int32) (p2 : Int32) (p3 : Int32) (p4 : Int32) (p5 : Int32) (σ : Sto) : Option Sto :=
  (mX9_init3 a0 σ).bind fun σ1 =>
  if sK σ1 a0 = 4 then
  stp (wI σ1 a0 7 (-1 : Int32)) fun σ3 =>
  stp (wI σ3 a0 8 (0 : Int32)) fun σ5 =>
  stp (wI σ5 a0 9 (1 : Int32)) fun σ7 =>
  stp (wI σ7 a0 10 (-1 : Int32)) fun σ9 =>
  stp (wI σ9 a0 11 (0 : Int32)) fun σ11 =>
  stp (wI σ11 a0 12 (0 : Int32)) fun σ13 =>
  stp (wI σ13 a0 2 p0) fun σ15 =>
  stp (wI σ15 a0 3 p1) fun σ17 =>
  stp (wI σ17 a0 4 p2) fun σ19 =>
  stp (wI σ19 a0 5 p3) fun σ21 =>
  stp (wI σ21 a0 6 p4) fun σ23 =>
  stp (wI σ23 a0 0 p5) fun σ25 =>
  some σ25
  else none
def mX3_isHandOf (a0 : Nat) (p0 : Int32) (σ : Sto) : Option Int32 :=
  if (sI σ a0 3) = p0 then (
    if (sI σ a0 2) = (2 : Int32) then (
      some (1 : Int32)
    ) else (
      if (sI σ a0 2) = (3 : Int32) then (
        some (1 : Int32)
      ) else (
        if (sI σ a0 2) = (4 : Int32) then (
          some (1 : Int32)
        ) else (
          some (0 : Int32)
        )
      )
    )
  ) else (
    some (0 : Int32)
  )
def mX3_isSaleOf (a0 : Nat) (p0 : Int32) (σ : Sto) : Option Int32 :=
  if (sI σ a0 2) = (2 : Int32) then (
    if ((sI σ a0 6) / (365 : Int32)) = p0 then (
      some (1 : Int32)
    ) else (
      some (0 : Int32)
    )
  ) else (
    some (0 : Int32)
  )
def mX9_init4 (a0 : Nat) (σ : Sto) : Option Sto :=
  stp (wI σ a0 0 (1000000 : Int32)) fun σ1 =>
  stp (wI σ1 a0 1 (1000000 : Int32)) fun σ3 =>
  some σ3
def mX4_blank (a0 : Nat) (σ : Sto) : Option Sto :=
  stp (wI σ a0 6 (0 : Int32)) fun σ1 =>
  stp (wI σ1 a0 7 (0 : Int32)) fun σ3 =>
  stp (wI σ3 a0 8 (0 : Int32)) fun σ5 =>
  stp (wI σ5 a0 9 (-1 : Int32)) fun σ7 =>
  stp (wI σ7 a0 10 (70 : Int32)) fun σ9 =>
  stp (wI σ9 a0 11 (300 : Int32)) fun σ11 =>
  stp (wI σ11 a0 12 (0 : Int32)) fun σ13 =>
  stp (wI σ13 a0 14 (0 : Int32)) fun σ15 =>
  some σ15
def mX4_init (a0 : Nat) (σ : Sto) : Option Sto :=
  (mX9_init4 a0 σ).bind fun σ1 =>
  if sK σ1 a0 = 5 then
  stp (wI σ1 a0 2 (-1 : Int32)) fun σ3 =>
  stp (wI σ3 a0 3 (-1 : Int32)) fun σ5 =>
  stp (nwK σ5 (100 + 0) 16) fun σ7 =>
  if sK σ7 a0 = 5 then
  stp (wR σ7 a0 4 (sZ σ5)) fun σ11 =>
  stp (nwK σ11 (100 + 0) 16) fun σ15 =>
  if sK σ15 a0 = 5 then
  stp (wR σ15 a0 5 (sZ σ11)) fun σ19 =>
  stp (nwK σ19 (100 + 0) 500) fun σ23 =>
  if sK σ23 a0 = 5 then
  stp (wR σ23 a0 13 (sZ σ19)) fun σ27 =>
  stp (nwK σ27 (100 + 0) 64) fun σ31 =>
  if sK σ31 a0 = 5 then
  stp (wR σ31 a0 15 (sZ σ27)) fun σ35 =>
  (mX4_blank a0 σ35).bind fun σ39 =>
  some σ39
  else none
  else none
  else none
  else none
  else none
def mX4_startDue (a0 : Nat) (σ : Sto) : Option Sto :=
  stp (wI σ a0 14 (0 : Int32)) fun σ1 =>
  some σ1
def mX4_addDue (a0 : Nat) (p0 : Int32) (σ : Sto) : Option Sto :=
  if sK σ (sR σ a0 13) = 100 then
  if (Int32.ofNat (sN σ (sR σ a0 13))) ≤ (sI σ a0 14) then (
    some σ
  ) else (
    if inb (sI σ a0 14) (sN σ (sR σ a0 13)) then
    stp (wI σ (sR σ a0 13) ((sI σ a0 14)).toNatClampNeg p0) fun σ4 =>
    stp (wI σ4 a0 14 ((sI σ4 a0 14) + (1 : Int32))) fun σ8 =>
    some σ8
    else none
  )
  else none
def mX4_lastStep (a0 : Nat) (σ : Sto) : Option Int32 :=
  if (sI σ a0 6) ≤ 0 then (
    some (0 : Int32)
  ) else (
    if sK σ (sR σ a0 4) = 100 then
    if (Int32.ofNat (sN σ (sR σ a0 4))) < (sI σ a0 6) then (
      some (0 : Int32)
    ) else (
      if inb ((sI σ a0 6) - (1 : Int32)) (sN σ (sR σ a0 4)) then
      some (sI σ (sR σ a0 4) (((sI σ a0 6) - (1 : Int32))).toNatClampNeg)
      else none
    )
    else none
  )
def mX4_addStep (a0 : Nat) (p0 : Int32) (p1 : Int32) (σ : Sto) : Option Sto :=
  if sK σ (sR σ a0 4) = 100 then
  if (Int32.ofNat (sN σ (sR σ a0 4))) ≤ (sI σ a0 6) then (
    some σ
  ) else (
    if inb (sI σ a0 6) (sN σ (sR σ a0 4)) then
    stp (wI σ (sR σ a0 4) ((sI σ a0 6)).toNatClampNeg p0) fun σ4 =>
    if sK σ4 (sR σ4 a0 5) = 100 then
    if inb (sI σ4 a0 6) (sN σ4 (sR σ4 a0 5)) then
    stp (wI σ4 (sR σ4 a0 5) ((sI σ4 a0 6)).toNatClampNeg p1) fun σ10 =>
    stp (wI σ10 a0 6 ((sI σ10 a0 6) + (1 : Int32))) fun σ16 =>
    some σ16
    else none
    else none
    else none
  )
  else none
def mX4_agreeWith (a0 : Nat) (p0 : Int32) (σ : Sto) : Option Sto :=
  stp (wI σ a0 12 ((sI σ a0 12) ||| ((1 : Int32) <<< (p0 &&& 31)))) fun σ1 =>
  some σ1
def mX4_isFor (a0 : Nat) (p0 : Int32) (σ : Sto) : Option Int32 :=
  if p0 = (sI σ a0 2) then (
    some (1 : Int32)
  ) else (
    if p0 < 0 then (
      some (0 : Int32)
    ) else (
      if (((sI σ a0 12) >>> (p0 &&& 31)) &&& (1 : Int32)) = (1 : Int32) then (
        some (1 : Int32)
      ) else (
        some (0 : Int32)
      )
    )
  )
def mX4_partOf_73 (x0 : Nat) (x1 : Int32) (x2 : Int64) (x4 : Int32) (σ : Sto) : Option Int32 :=
  if sK σ x0 = 5 then
  if (sI σ x0 9) = (-1 : Int32) then (
    some (((x2 + (((if (0 : Int32) < (x1 - x4) then (x1 - x4) else (0 : Int32))).toInt64 * ((sI σ x0 7)).toInt64)) / (10000 : Int64))).toInt32
  ) else (
    some ((if ((sI σ x0 9)).toInt64 < ((x2 + (((if (0 : Int32) < (x1 - x4) then (x1 - x4) else (0 : Int32))).toInt64 * ((sI σ x0 7)).toInt64)) / (10000 : Int64)) then ((sI σ x0 9)).toInt64 else ((x2 + (((if (0 : Int32) < (x1 - x4) then (x1 - x4) else (0 : Int32))).toInt64 * ((sI σ x0 7)).toInt64)) / (10000 : Int64)))).toInt32
  )
  else none
def mX4_partOf_8B (f8 : Nat → Int32 → Int64 → Int32 → Int32 → Sto → Option Int32) (x0 : Nat) (x1 : Int32) (x2 : Int64) (x4 : Int32) (x5 : Int32) (σ : Sto) : Option Int32 :=
  if sK σ x0 = 5 then
  if (sI σ x0 6) ≤ x5 then (
    mX4_partOf_73 x0 x1 x2 x4 σ
  ) else (
    if sK σ (sR σ x0 4) = 100 then
    if (Int32.ofNat (sN σ (sR σ x0 4))) ≤ x5 then (
      mX4_partOf_73 x0 x1 x2 x4 σ
    ) else (
      if inb x5 (sN σ (sR σ x0 4)) then
      if sK σ (sR σ x0 5) = 100 then
      if inb x5 (sN σ (sR σ x0 5)) then
      f8 x0 x1 (x2 + (((if (0 : Int32) < ((if (sI σ (sR σ x0 4) (x5).toNatClampNeg) < x1 then (sI σ (sR σ x0 4) (x5).toNatClampNeg) else x1) - x4) then ((if (sI σ (sR σ x0 4) (x5).toNatClampNeg) < x1 then (sI σ (sR σ x0 4) (x5).toNatClampNeg) else x1) - x4) else (0 : Int32))).toInt64 * ((sI σ (sR σ x0 5) (x5).toNatClampNeg)).toInt64)) (sI σ (sR σ x0 4) (x5).toNatClampNeg) (x5 + (1 : Int32)) σ
      else none
      else none
      else none
    )
    else none
  )
  else none
def mX4_partOf_8 : Nat → Nat → Int32 → Int64 → Int32 → Int32 → Sto → Option Int32
  | 0, _, _, _, _, _, _ => none
  | n + 1, x0, x1, x2, x4, x5, σ => mX4_partOf_8B (mX4_partOf_8 n) x0 x1 x2 x4 x5 σ
def mX4_partOf (a0 : Nat) (p0 : Int32) (σ : Sto) : Option Int32 :=
  mX4_partOf_8 FU a0 p0 (0 : Int64) (0 : Int32) (0 : Int32) σ
def mX4_operand (p0 : Int32) (p1 : Nat) (σ : Sto) : Option Int32 :=
  if p0 < 0 then (
    if sK σ p1 = 100 then
    if (Int32.ofNat (sN σ p1)) ≤ ((-1 : Int32) - p0) then (
      some (0 : Int32)
    ) else (
      if inb ((-1 : Int32) - p0) (sN σ p1) then
      some (sI σ p1 (((-1 : Int32) - p0)).toNatClampNeg)
      else none
    )
    else none
  ) else (
    some p0
  )
def mX4_truth (p0 : Int32) (σ : Sto) : Int32 :=
  if p0 = 0 then (
    (0 : Int32)
  ) else (
    (1 : Int32)
  )
def mX4_join_106 (y0 : Int32) (σ : Sto) : Option Int32 :=
  some (mX4_truth y0 σ)
def mX4_join_92 (y0 : Int32) (σ : Sto) : Option Int32 :=
  some (mX4_truth y0 σ)
def mX4_join_122 (x1 : Int32) (x2 : Int32) (σ : Sto) : Option Int32 :=
  if x2 = 0 then (
    some (0 : Int32)
  ) else (
    if ¬ x2 = 0 then
    some (x1 / x2)
    else none
  )
def mX4_join_78 (y0 : Int32) (σ : Sto) : Option Int32 :=
  some (mX4_truth y0 σ)
def mX4_join_77 (σ : Sto) : Option Int32 :=
  mX4_join_78 (0 : Int32) σ
def mX4_join_61 (y0 : Int32) (σ : Sto) : Option Int32 :=
  some (mX4_truth y0 σ)
def mX4_join (p0 : Int32) (p1 : Int32) (p2 : Int32) (σ : Sto) : Option Int32 :=
  if p0 = (-18 : Int32) then (
    some (p1 * p2)
  ) else
  if p0 = (-17 : Int32) then (
    some (p1 - p2)
  ) else
  if p0 = (-16 : Int32) then (
    some (p1 + p2)
  ) else
  if p0 = (-15 : Int32) then (
    if p1 = p2 then (
      mX4_join_106 (1 : Int32) σ
    ) else (
      mX4_join_106 (0 : Int32) σ
    )
  ) else
  if p0 = (-14 : Int32) then (
    if p2 ≤ p1 then (
      mX4_join_92 (0 : Int32) σ
    ) else (
      mX4_join_92 (1 : Int32) σ
    )
  ) else
  if p0 = (-13 : Int32) then (
    mX4_join_122 p1 p2 σ
  ) else
  if p0 = (-12 : Int32) then (
    if p1 = 0 then (
      mX4_join_77 σ
    ) else (
      if p2 = 0 then (
        mX4_join_77 σ
      ) else (
        mX4_join_78 (1 : Int32) σ
      )
    )
  ) else
  if p0 = (-11 : Int32) then (
    if p1 = 0 then (
      if p2 = 0 then (
        mX4_join_61 (0 : Int32) σ
      ) else (
        mX4_join_61 (1 : Int32) σ
      )
    ) else (
      mX4_join_61 (1 : Int32) σ
    )
  ) else
  (
  mX4_join_122 p1 p2 σ
  )
def mX4_worth_104 (f4 : Nat → Nat → Int32 → Int32 → Sto → Option (Int32 × Sto)) (x0 : Nat) (x1 : Nat) (x2 : Int32) (x3 : Int32) (x4 : Int32) (σ : Sto) : Option (Int32 × Sto) :=
  if x2 ≤ (1 : Int32) then (
    f4 x0 x1 x2 (x3 + (1 : Int32)) σ
  ) else (
    if sK σ x0 = 5 then
    if sK σ (sR σ x0 15) = 100 then
    if inb ((x2 + (-1 : Int32)) - (1 : Int32)) (sN σ (sR σ x0 15)) then
    if inb (x2 + (-1 : Int32)) (sN σ (sR σ x0 15)) then
    (mX4_join x4 (sI σ (sR σ x0 15) (((x2 + (-1 : Int32)) - (1 : Int32))).toNatClampNeg) (sI σ (sR σ x0 15) ((x2 + (-1 : Int32))).toNatClampNeg) σ).bind fun v17 =>
    stp (wI σ (sR σ x0 15) (((x2 + (-1 : Int32)) - (1 : Int32))).toNatClampNeg v17) fun σ18 =>
    f4 x0 x1 (x2 + (-1 : Int32)) (x3 + (1 : Int32)) σ18
    else none
    else none
    else none
    else none
  )
def mX4_worth_97 (f4 : Nat → Nat → Int32 → Int32 → Sto → Option (Int32 × Sto)) (x0 : Nat) (x1 : Nat) (x2 : Int32) (x3 : Int32) (y0 : Nat) (y1 : Int32) (y2 : Int32) (σ : Sto) : Option (Int32 × Sto) :=
  if sK σ y0 = 100 then
  if inb y1 (sN σ y0) then
  stp (wI σ y0 (y1).toNatClampNeg (mX4_truth y2 σ)) fun σ30 =>
  f4 x0 x1 x2 (x3 + (1 : Int32)) σ30
  else none
  else none
def mX4_worth_63 (f4 : Nat → Nat → Int32 → Int32 → Sto → Option (Int32 × Sto)) (x0 : Nat) (x1 : Nat) (x2 : Int32) (x3 : Int32) (x4 : Int32) (σ : Sto) : Option (Int32 × Sto) :=
  if x4 = (-13 : Int32) then (
    if x2 ≤ 0 then (
      mX4_worth_104 f4 x0 x1 x2 x3 x4 σ
    ) else (
      if sK σ x0 = 5 then
      if sK σ (sR σ x0 15) = 100 then
      if inb (x2 - (1 : Int32)) (sN σ (sR σ x0 15)) then
      if (sI σ (sR σ x0 15) ((x2 - (1 : Int32))).toNatClampNeg) = 0 then (
        mX4_worth_97 f4 x0 x1 x2 x3 (sR σ x0 15) (x2 - (1 : Int32)) (1 : Int32) σ
      ) else (
        mX4_worth_97 f4 x0 x1 x2 x3 (sR σ x0 15) (x2 - (1 : Int32)) (0 : Int32) σ
      )
      else none
      else none
      else none
    )
  ) else (
    mX4_worth_104 f4 x0 x1 x2 x3 x4 σ
  )
def mX4_worth_4B (f4 : Nat → Nat → Int32 → Int32 → Sto → Option (Int32 × Sto)) (x0 : Nat) (x1 : Nat) (x2 : Int32) (x3 : Int32) (σ : Sto) : Option (Int32 × Sto) :=
  if sK σ x0 = 5 then
  if (sI σ x0 14) ≤ x3 then (
    if sK σ (sR σ x0 15) = 100 then
    if inb (0 : Int32) (sN σ (sR σ x0 15)) then
    some ((sI σ (sR σ x0 15) ((0 : Int32)).toNatClampNeg), σ)
    else none
    else none
  ) else (
    if sK σ (sR σ x0 13) = 100 then
    if (Int32.ofNat (sN σ (sR σ x0 13))) ≤ x3 then (
      if sK σ (sR σ x0 15) = 100 then
      if inb (0 : Int32) (sN σ (sR σ x0 15)) then
      some ((sI σ (sR σ x0 15) ((0 : Int32)).toNatClampNeg), σ)
      else none
      else none
    ) else (
      if inb x3 (sN σ (sR σ x0 13)) then
      if (sI σ (sR σ x0 13) (x3).toNatClampNeg) ≤ (-11 : Int32) then (
        mX4_worth_63 f4 x0 x1 x2 x3 (sI σ (sR σ x0 13) (x3).toNatClampNeg) σ
      ) else (
        if sK σ (sR σ x0 15) = 100 then
        if (Int32.ofNat (sN σ (sR σ x0 15))) ≤ x2 then (
          mX4_worth_63 f4 x0 x1 x2 x3 (sI σ (sR σ x0 13) (x3).toNatClampNeg) σ
        ) else (
          (mX4_operand (sI σ (sR σ x0 13) (x3).toNatClampNeg) x1 σ).bind fun v35 =>
          if inb x2 (sN σ (sR σ x0 15)) then
          stp (wI σ (sR σ x0 15) (x2).toNatClampNeg v35) fun σ37 =>
          f4 x0 x1 (x2 + (1 : Int32)) (x3 + (1 : Int32)) σ37
          else none
        )
        else none
      )
      else none
    )
    else none
  )
  else none
def mX4_worth_4 : Nat → Nat → Nat → Int32 → Int32 → Sto → Option (Int32 × Sto)
  | 0, _, _, _, _, _ => none
  | n + 1, x0, x1, x2, x3, σ => mX4_worth_4B (mX4_worth_4 n) x0 x1 x2 x3 σ
def mX4_worth (a0 : Nat) (p0 : Nat) (σ : Sto) : Option (Int32 × Sto) :=
  mX4_worth_4 FU a0 p0 (0 : Int32) (0 : Int32) σ
def mX4_isDue (a0 : Nat) (p0 : Nat) (p1 : Int32) (σ : Sto) : Option (Int32 × Sto) :=
  if (sI σ a0 14) = 0 then (
    if isB p1 then
    some (p1, σ)
    else none
  ) else (
    bd2 (mX4_worth a0 p0 σ) fun v2 σ2 =>
    if v2 = 0 then (
      some ((0 : Int32), σ2)
    ) else (
      some ((1 : Int32), σ2)
    )
  )
def mX1_init_347B (f347 : Nat → Nat → Int32 → Sto → Option Sto) (x0 : Nat) (x6 : Nat) (x7 : Int32) (σ : Sto) : Option Sto :=
  if sK σ x0 = 2 then
  if sK σ (sR σ x0 14) = 108 then
  if (Int32.ofNat (sN σ (sR σ x0 14))) ≤ x7 then (
    some σ
  ) else (
    if inb x7 (sN σ (sR σ x0 14)) then
    if sK σ x6 = 5 then
    stp (wR σ (sR σ x0 14) (x7).toNatClampNeg x6) fun σ130 =>
    f347 x0 x6 (x7 + (1 : Int32)) σ130
    else none
    else none
  )
  else none
  else none
def mX1_init_347 : Nat → Nat → Nat → Int32 → Sto → Option Sto
  | 0, _, _, _, _ => none
  | n + 1, x0, x6, x7, σ => mX1_init_347B (mX1_init_347 n) x0 x6 x7 σ
def mX1_init_310B (f310 : Nat → Nat → Int32 → Sto → Option Sto) (x0 : Nat) (x5 : Nat) (x6 : Int32) (σ : Sto) : Option Sto :=
  if sK σ x0 = 2 then
  if sK σ (sR σ x0 12) = 107 then
  if (Int32.ofNat (sN σ (sR σ x0 12))) ≤ x6 then (
    stp (nwK σ (4 + 1) 0) fun σ122 =>
    (mX4_init (sZ σ) σ122).bind fun σ124 =>
    mX1_init_347 FU x0 (sZ σ) (0 : Int32) σ124
  ) else (
    if inb x6 (sN σ (sR σ x0 12)) then
    if sK σ x5 = 4 then
    stp (wR σ (sR σ x0 12) (x6).toNatClampNeg x5) fun σ137 =>
    f310 x0 x5 (x6 + (1 : Int32)) σ137
    else none
    else none
  )
  else none
  else none
def mX1_init_310 : Nat → Nat → Nat → Int32 → Sto → Option Sto
  | 0, _, _, _, _ => none
  | n + 1, x0, x5, x6, σ => mX1_init_310B (mX1_init_310 n) x0 x5 x6 σ
def mX1_init_282B (f282 : Nat → Nat → Int32 → Sto → Option Sto) (x0 : Nat) (x5 : Nat) (x6 : Int32) (σ : Sto) : Option Sto :=
  if sK σ x0 = 2 then
  if sK σ (sR σ x0 10) = 107 then
  if (Int32.ofNat (sN σ (sR σ x0 10))) ≤ x6 then (
    mX1_init_310 FU x0 x5 (0 : Int32) σ
  ) else (
    if inb x6 (sN σ (sR σ x0 10)) then
    if sK σ x5 = 4 then
    stp (wR σ (sR σ x0 10) (x6).toNatClampNeg x5) fun σ144 =>
    f282 x0 x5 (x6 + (1 : Int32)) σ144
    else none
    else none
  )
  else none
  else none
def mX1_init_282 : Nat → Nat → Nat → Int32 → Sto → Option Sto
  | 0, _, _, _, _ => none
  | n + 1, x0, x5, x6, σ => mX1_init_282B (mX1_init_282 n) x0 x5 x6 σ
def mX1_init_238B (f238 : Nat → Nat → Int32 → Sto → Option Sto) (x0 : Nat) (x4 : Nat) (x5 : Int32) (σ : Sto) : Option Sto :=
  if sK σ x0 = 2 then
  if sK σ (sR σ x0 8) = 106 then
  if (Int32.ofNat (sN σ (sR σ x0 8))) ≤ x5 then (
    stp (nwK σ (3 + 1) 0) fun σ113 =>
    (mX3_init (sZ σ) (-1 : Int32) (-1 : Int32) (-1 : Int32) (-1 : Int32) (-1 : Int32) (1000000 : Int32) σ113).bind fun σ115 =>
    mX1_init_282 FU x0 (sZ σ) (0 : Int32) σ115
  ) else (
    if inb x5 (sN σ (sR σ x0 8)) then
    if sK σ x4 = 7 then
    stp (wR σ (sR σ x0 8) (x5).toNatClampNeg x4) fun σ151 =>
    f238 x0 x4 (x5 + (1 : Int32)) σ151
    else none
    else none
  )
  else none
  else none
def mX1_init_238 : Nat → Nat → Nat → Int32 → Sto → Option Sto
  | 0, _, _, _, _ => none
  | n + 1, x0, x4, x5, σ => mX1_init_238B (mX1_init_238 n) x0 x4 x5 σ
def mX1_init_197B (f197 : Nat → Nat → Int32 → Sto → Option Sto) (x0 : Nat) (x3 : Nat) (x4 : Int32) (σ : Sto) : Option Sto :=
  if sK σ x0 = 2 then
  if sK σ (sR σ x0 6) = 105 then
  if (Int32.ofNat (sN σ (sR σ x0 6))) ≤ x4 then (
    stp (nwK σ (6 + 1) 0) fun σ107 =>
    (mX6_init (sZ σ) (-1 : Int32) (-1 : Int32) (1000 : Int32) σ107).bind fun σ109 =>
    mX1_init_238 FU x0 (sZ σ) (0 : Int32) σ109
  ) else (
    if inb x4 (sN σ (sR σ x0 6)) then
    if sK σ x3 = 9 then
    stp (wR σ (sR σ x0 6) (x4).toNatClampNeg x3) fun σ158 =>
    f197 x0 x3 (x4 + (1 : Int32)) σ158
    else none
    else none
  )
  else none
  else none
def mX1_init_197 : Nat → Nat → Nat → Int32 → Sto → Option Sto
  | 0, _, _, _, _ => none
  | n + 1, x0, x3, x4, σ => mX1_init_197B (mX1_init_197 n) x0 x3 x4 σ
def mX1_init_162B (f162 : Nat → Nat → Int32 → Sto → Option Sto) (x0 : Nat) (x2 : Nat) (x3 : Int32) (σ : Sto) : Option Sto :=
  if sK σ x0 = 2 then
  if sK σ (sR σ x0 4) = 104 then
  if (Int32.ofNat (sN σ (sR σ x0 4))) ≤ x3 then (
    stp (nwK σ (8 + 1) 0) fun σ101 =>
    (mX8_init (sZ σ) (-1 : Int32) (0 : Int32) σ101).bind fun σ103 =>
    mX1_init_197 FU x0 (sZ σ) (0 : Int32) σ103
  ) else (
    if inb x3 (sN σ (sR σ x0 4)) then
    if sK σ x2 = 10 then
    stp (wR σ (sR σ x0 4) (x3).toNatClampNeg x2) fun σ165 =>
    f162 x0 x2 (x3 + (1 : Int32)) σ165
    else none
    else none
  )
  else none
  else none
def mX1_init_162 : Nat → Nat → Nat → Int32 → Sto → Option Sto
  | 0, _, _, _, _ => none
  | n + 1, x0, x2, x3, σ => mX1_init_162B (mX1_init_162 n) x0 x2 x3 σ
def mX1_init_126B (f126 : Nat → Nat → Int32 → Sto → Option Sto) (x0 : Nat) (x1 : Nat) (x2 : Int32) (σ : Sto) : Option Sto :=
  if sK σ x0 = 2 then
  if sK σ (sR σ x0 2) = 103 then
  if (Int32.ofNat (sN σ (sR σ x0 2))) ≤ x2 then (
    stp (nwK σ (9 + 1) 0) fun σ95 =>
    (mX10_init (sZ σ) (0 : Int32) (0 : Int32) (0 : Int32) (0 : Int32) σ95).bind fun σ97 =>
    mX1_init_162 FU x0 (sZ σ) (0 : Int32) σ97
  ) else (
    if inb x2 (sN σ (sR σ x0 2)) then
    if sK σ x1 = 6 then
    stp (wR σ (sR σ x0 2) (x2).toNatClampNeg x1) fun σ172 =>
    f126 x0 x1 (x2 + (1 : Int32)) σ172
    else none
    else none
  )
  else none
  else none
def mX1_init_126 : Nat → Nat → Nat → Int32 → Sto → Option Sto
  | 0, _, _, _, _ => none
  | n + 1, x0, x1, x2, σ => mX1_init_126B (mX1_init_126 n) x0 x1 x2 σ
def mX1_init (a0 : Nat) (σ : Sto) : Option Sto :=
  stp (wI σ a0 0 (0 : Int32)) fun σ1 =>
  stp (wI σ1 a0 1 (0 : Int32)) fun σ3 =>
  stp (nwK σ3 (100 + 3) 31) fun σ5 =>
  if sK σ5 a0 = 2 then
  stp (wR σ5 a0 2 (sZ σ3)) fun σ9 =>
  stp (wI σ9 a0 3 (0 : Int32)) fun σ13 =>
  stp (nwK σ13 (100 + 4) 31) fun σ17 =>
  if sK σ17 a0 = 2 then
  stp (wR σ17 a0 4 (sZ σ13)) fun σ21 =>
  stp (wI σ21 a0 5 (0 : Int32)) fun σ25 =>
  stp (nwK σ25 (100 + 5) 6) fun σ29 =>
  if sK σ29 a0 = 2 then
  stp (wR σ29 a0 6 (sZ σ25)) fun σ33 =>
  stp (wI σ33 a0 7 (0 : Int32)) fun σ37 =>
  stp (nwK σ37 (100 + 6) 61) fun σ41 =>
  if sK σ41 a0 = 2 then
  stp (wR σ41 a0 8 (sZ σ37)) fun σ45 =>
  stp (wI σ45 a0 9 (0 : Int32)) fun σ49 =>
  stp (nwK σ49 (100 + 7) 201) fun σ53 =>
  if sK σ53 a0 = 2 then
  stp (wR σ53 a0 10 (sZ σ49)) fun σ57 =>
  stp (wI σ57 a0 11 (0 : Int32)) fun σ61 =>
  stp (nwK σ61 (100 + 7) 201) fun σ65 =>
  if sK σ65 a0 = 2 then
  stp (wR σ65 a0 12 (sZ σ61)) fun σ69 =>
  stp (wI σ69 a0 13 (0 : Int32)) fun σ73 =>
  stp (nwK σ73 (100 + 8) 13) fun σ77 =>
  if sK σ77 a0 = 2 then
  stp (wR σ77 a0 14 (sZ σ73)) fun σ81 =>
  stp (wI σ81 a0 15 (0 : Int32)) fun σ85 =>
  stp (nwK σ85 (5 + 1) 0) fun σ89 =>
  (mX5_init (sZ σ85) (-1 : Int32) (-1 : Int32) σ89).bind fun σ91 =>
  mX1_init_126 FU a0 (sZ σ85) (0 : Int32) σ91
  else none
  else none
  else none
  else none
  else none
  else none
  else none
def mX1_personAt (p0 : Int32) (σ : Sto) : Option Nat :=
  if p0 < 0 then (
    if ¬ (sR σ 34 ((30 : Int32)).toNatClampNeg) = 0 then
    some (sR σ 34 ((30 : Int32)).toNatClampNeg)
    else none
  ) else (
    if (sI σ 33 3) ≤ p0 then (
      if ¬ (sR σ 34 ((30 : Int32)).toNatClampNeg) = 0 then
      some (sR σ 34 ((30 : Int32)).toNatClampNeg)
      else none
    ) else (
      if inb p0 31 then
      if ¬ (sR σ 34 (p0).toNatClampNeg) = 0 then
      some (sR σ 34 (p0).toNatClampNeg)
      else none
      else none
    )
  )
def mX1_workAt (p0 : Int32) (σ : Sto) : Option Nat :=
  if p0 < 0 then (
    if ¬ (sR σ 35 ((30 : Int32)).toNatClampNeg) = 0 then
    some (sR σ 35 ((30 : Int32)).toNatClampNeg)
    else none
  ) else (
    if (sI σ 33 5) ≤ p0 then (
      if ¬ (sR σ 35 ((30 : Int32)).toNatClampNeg) = 0 then
      some (sR σ 35 ((30 : Int32)).toNatClampNeg)
      else none
    ) else (
      if inb p0 31 then
      if ¬ (sR σ 35 (p0).toNatClampNeg) = 0 then
      some (sR σ 35 (p0).toNatClampNeg)
      else none
      else none
    )
  )
def mX1_societyAt (p0 : Int32) (σ : Sto) : Option Nat :=
  if p0 < 0 then (
    if ¬ (sR σ 36 ((5 : Int32)).toNatClampNeg) = 0 then
    some (sR σ 36 ((5 : Int32)).toNatClampNeg)
    else none
  ) else (
    if (sI σ 33 7) ≤ p0 then (
      if ¬ (sR σ 36 ((5 : Int32)).toNatClampNeg) = 0 then
      some (sR σ 36 ((5 : Int32)).toNatClampNeg)
      else none
    ) else (
      if inb p0 6 then
      if ¬ (sR σ 36 (p0).toNatClampNeg) = 0 then
      some (sR σ 36 (p0).toNatClampNeg)
      else none
      else none
    )
  )
def mX1_rateAt (p0 : Int32) (σ : Sto) : Option Nat :=
  if p0 < 0 then (
    if ¬ (sR σ 37 ((60 : Int32)).toNatClampNeg) = 0 then
    some (sR σ 37 ((60 : Int32)).toNatClampNeg)
    else none
  ) else (
    if (sI σ 33 9) ≤ p0 then (
      if ¬ (sR σ 37 ((60 : Int32)).toNatClampNeg) = 0 then
      some (sR σ 37 ((60 : Int32)).toNatClampNeg)
      else none
    ) else (
      if inb p0 61 then
      if ¬ (sR σ 37 (p0).toNatClampNeg) = 0 then
      some (sR σ 37 (p0).toNatClampNeg)
      else none
      else none
    )
  )
def mX1_factAt (p0 : Int32) (σ : Sto) : Option Nat :=
  if p0 < 0 then (
    if ¬ (sR σ 38 ((200 : Int32)).toNatClampNeg) = 0 then
    some (sR σ 38 ((200 : Int32)).toNatClampNeg)
    else none
  ) else (
    if (sI σ 33 11) ≤ p0 then (
      if ¬ (sR σ 38 ((200 : Int32)).toNatClampNeg) = 0 then
      some (sR σ 38 ((200 : Int32)).toNatClampNeg)
      else none
    ) else (
      if inb p0 201 then
      if ¬ (sR σ 38 (p0).toNatClampNeg) = 0 then
      some (sR σ 38 (p0).toNatClampNeg)
      else none
      else none
    )
  )
def mX1_claimAt (p0 : Int32) (σ : Sto) : Option Nat :=
  if p0 < 0 then (
    if ¬ (sR σ 39 ((200 : Int32)).toNatClampNeg) = 0 then
    some (sR σ 39 ((200 : Int32)).toNatClampNeg)
    else none
  ) else (
    if (sI σ 33 13) ≤ p0 then (
      if ¬ (sR σ 39 ((200 : Int32)).toNatClampNeg) = 0 then
      some (sR σ 39 ((200 : Int32)).toNatClampNeg)
      else none
    ) else (
      if inb p0 201 then
      if ¬ (sR σ 39 (p0).toNatClampNeg) = 0 then
      some (sR σ 39 (p0).toNatClampNeg)
      else none
      else none
    )
  )
def mX1_lawAt (p0 : Int32) (σ : Sto) : Option Nat :=
  if p0 < 0 then (
    if ¬ (sR σ 40 ((12 : Int32)).toNatClampNeg) = 0 then
    some (sR σ 40 ((12 : Int32)).toNatClampNeg)
    else none
  ) else (
    if (sI σ 33 15) ≤ p0 then (
      if ¬ (sR σ 40 ((12 : Int32)).toNatClampNeg) = 0 then
      some (sR σ 40 ((12 : Int32)).toNatClampNeg)
      else none
    ) else (
      if inb p0 13 then
      if ¬ (sR σ 40 (p0).toNatClampNeg) = 0 then
      some (sR σ 40 (p0).toNatClampNeg)
      else none
      else none
    )
  )
def mX1_hasAllFacts (σ : Sto) : Int32 :=
  if (sI σ 33 11) < (200 : Int32) then (
    (0 : Int32)
  ) else (
    (1 : Int32)
  )
theorem bX1_hasAllFacts (σ : Sto) : isB (mX1_hasAllFacts σ) := by
  unfold mX1_hasAllFacts
  repeat' split
  all_goals first | exact Or.inl rfl | exact Or.inr rfl | exact bX11_isWithin _ _ _ _
def mX1_addFact (p0 : Nat) (σ : Sto) : Option (Int32 × Sto) :=
  if (mX1_hasAllFacts σ) = 0 then (
    if inb (sI σ 33 11) 201 then
    if sK σ p0 = 4 then
    stp (wR σ 38 ((sI σ 33 11)).toNatClampNeg p0) fun σ5 =>
    stp (wI σ5 33 11 ((sI σ5 33 11) + (1 : Int32))) fun σ7 =>
    some (((sI σ7 33 11) - (1 : Int32)), σ7)
    else none
    else none
  ) else (
    some ((-1 : Int32), σ)
  )
def mX1_wasEverSold_2B (f2 : Int32 → Int32 → Sto → Option Int32) (x1 : Int32) (x2 : Int32) (σ : Sto) : Option Int32 :=
  if (sI σ 33 11) ≤ x2 then (
    some (0 : Int32)
  ) else (
    (mX1_factAt x2 σ).bind fun v2 =>
    if sK σ v2 = 4 then
    if (sI σ v2 2) = (2 : Int32) then (
      (mX1_factAt x2 σ).bind fun v5 =>
      if sK σ v5 = 4 then
      if (sI σ v5 3) = x1 then (
        some (1 : Int32)
      ) else (
        f2 x1 (x2 + (1 : Int32)) σ
      )
      else none
    ) else (
      f2 x1 (x2 + (1 : Int32)) σ
    )
    else none
  )
def mX1_wasEverSold_2 : Nat → Int32 → Int32 → Sto → Option Int32
  | 0, _, _, _ => none
  | n + 1, x1, x2, σ => mX1_wasEverSold_2B (mX1_wasEverSold_2 n) x1 x2 σ
def mX1_wasEverSold (p0 : Int32) (σ : Sto) : Option Int32 :=
  mX1_wasEverSold_2 FU p0 (0 : Int32) σ
def mX9_isKnownOn3 (a0 : Nat) (p0 : Int32) (σ : Sto) : Option Int32 :=
  if p0 < (sI σ a0 0) then (
    some (0 : Int32)
  ) else (
    if (sI σ a0 1) ≤ p0 then (
      some (0 : Int32)
    ) else (
      some (1 : Int32)
    )
  )
def mX11_twelfths (p0 : Int32) (p1 : Int32) (σ : Sto) : Option Int32 :=
  if (1 : Int32) ≤ p1 then (
    if ¬ p1 = 0 then
    some (((27720 : Int32) / p1) * p0)
    else none
  ) else (
    some (0 : Int32)
  )
def mX1_inheritedOf_4B (f4 : Int32 → Int32 → Int32 → Sto → Option Int32) (x1 : Int32) (x2 : Int32) (x3 : Int32) (σ : Sto) : Option Int32 :=
  if (sI σ 33 11) ≤ x3 then (
    some x2
  ) else (
    (mX1_factAt x3 σ).bind fun v2 =>
    if sK σ v2 = 4 then
    if (sI σ v2 2) = (1 : Int32) then (
      if (sI σ v2 4) = x1 then (
        (mX9_isKnownOn3 v2 (sI σ 33 0) σ).bind fun v6 =>
        if v6 = 0 then (
          f4 x1 x2 (x3 + (1 : Int32)) σ
        ) else (
          (mX11_twelfths (sI σ v2 8) (sI σ v2 9) σ).bind fun v8 =>
          f4 x1 (x2 + v8) (x3 + (1 : Int32)) σ
        )
      ) else (
        f4 x1 x2 (x3 + (1 : Int32)) σ
      )
    ) else (
      f4 x1 x2 (x3 + (1 : Int32)) σ
    )
    else none
  )
def mX1_inheritedOf_4 : Nat → Int32 → Int32 → Int32 → Sto → Option Int32
  | 0, _, _, _, _ => none
  | n + 1, x1, x2, x3, σ => mX1_inheritedOf_4B (mX1_inheritedOf_4 n) x1 x2 x3 σ
def mX1_inheritedOf (p0 : Int32) (σ : Sto) : Option Int32 :=
  mX1_inheritedOf_4 FU p0 (0 : Int32) (0 : Int32) σ
def mX1_claimOf_2B (f2 : Int32 → Int32 → Int32 → Sto → Option Int32) (x1 : Int32) (x2 : Int32) (x3 : Int32) (σ : Sto) : Option Int32 :=
  if (sI σ 33 13) ≤ x3 then (
    some (-1 : Int32)
  ) else (
    (mX1_claimAt x3 σ).bind fun v2 =>
    if sK σ v2 = 4 then
    if (sI σ v2 4) = x1 then (
      (mX1_claimAt x3 σ).bind fun v5 =>
      if sK σ v5 = 4 then
      if (sI σ v5 3) = x2 then (
        some x3
      ) else (
        f2 x1 x2 (x3 + (1 : Int32)) σ
      )
      else none
    ) else (
      f2 x1 x2 (x3 + (1 : Int32)) σ
    )
    else none
  )
def mX1_claimOf_2 : Nat → Int32 → Int32 → Int32 → Sto → Option Int32
  | 0, _, _, _, _ => none
  | n + 1, x1, x2, x3, σ => mX1_claimOf_2B (mX1_claimOf_2 n) x1 x2 x3 σ
def mX1_claimOf (p0 : Int32) (p1 : Int32) (σ : Sto) : Option Int32 :=
  mX1_claimOf_2 FU p0 p1 (0 : Int32) σ
def mX1_rateFor_5B (f5 : Int32 → Int32 → Int32 → Int32 → Sto → Option Int32) (x1 : Int32) (x2 : Int32) (x3 : Int32) (x4 : Int32) (σ : Sto) : Option Int32 :=
  if (sI σ 33 9) ≤ x4 then (
    (mX1_rateAt x3 σ).bind fun v2 =>
    if sK σ v2 = 7 then
    some (sI σ v2 2)
    else none
  ) else (
    (mX1_rateAt x4 σ).bind fun v4 =>
    if sK σ v4 = 7 then
    if (sI σ v4 0) = x1 then (
      if x2 < (sI σ v4 1) then (
        f5 x1 x2 x3 (x4 + (1 : Int32)) σ
      ) else (
        (mX1_rateAt x3 σ).bind fun v8 =>
        if sK σ v8 = 7 then
        if (sI σ v4 1) < (sI σ v8 1) then (
          f5 x1 x2 x3 (x4 + (1 : Int32)) σ
        ) else (
          f5 x1 x2 x4 (x4 + (1 : Int32)) σ
        )
        else none
      )
    ) else (
      f5 x1 x2 x3 (x4 + (1 : Int32)) σ
    )
    else none
  )
def mX1_rateFor_5 : Nat → Int32 → Int32 → Int32 → Int32 → Sto → Option Int32
  | 0, _, _, _, _, _ => none
  | n + 1, x1, x2, x3, x4, σ => mX1_rateFor_5B (mX1_rateFor_5 n) x1 x2 x3 x4 σ
def mX1_rateFor (p0 : Int32) (p1 : Int32) (σ : Sto) : Option Int32 :=
  mX1_rateFor_5 FU p0 p1 (-1 : Int32) (0 : Int32) σ
def mX9_isKnownOn4 (a0 : Nat) (p0 : Int32) (σ : Sto) : Option Int32 :=
  if p0 < (sI σ a0 0) then (
    some (0 : Int32)
  ) else (
    if (sI σ a0 1) ≤ p0 then (
      some (0 : Int32)
    ) else (
      some (1 : Int32)
    )
  )
def mX1_lawFor_55 (f6 : Int32 → Int32 → Int32 → Int32 → Int32 → Sto → Option Int32) (x1 : Int32) (x2 : Int32) (x3 : Int32) (x4 : Int32) (x5 : Int32) (x6 : Nat) (y0 : Int32) (σ : Sto) : Option Int32 :=
  if y0 = 0 then (
    f6 x1 x2 x3 x4 (x5 + (1 : Int32)) σ
  ) else (
    if sK σ x6 = 5 then
    (mX1_lawAt x4 σ).bind fun v7 =>
    if sK σ v7 = 5 then
    if (sI σ x6 3) < (sI σ v7 3) then (
      f6 x1 x2 x3 x4 (x5 + (1 : Int32)) σ
    ) else (
      f6 x1 x2 x3 x5 (x5 + (1 : Int32)) σ
    )
    else none
    else none
  )
def mX1_lawFor_54 (f6 : Int32 → Int32 → Int32 → Int32 → Int32 → Sto → Option Int32) (x1 : Int32) (x2 : Int32) (x3 : Int32) (x4 : Int32) (x5 : Int32) (x6 : Nat) (σ : Sto) : Option Int32 :=
  mX1_lawFor_55 f6 x1 x2 x3 x4 x5 x6 (0 : Int32) σ
def mX1_lawFor_6B (f6 : Int32 → Int32 → Int32 → Int32 → Int32 → Sto → Option Int32) (x1 : Int32) (x2 : Int32) (x3 : Int32) (x4 : Int32) (x5 : Int32) (σ : Sto) : Option Int32 :=
  if (sI σ 33 15) ≤ x5 then (
    some x4
  ) else (
    (mX1_lawAt x5 σ).bind fun v2 =>
    if sK σ v2 = 5 then
    if (sI σ v2 2) = x1 then (
      if x2 < (sI σ v2 3) then (
        mX1_lawFor_54 f6 x1 x2 x3 x4 x5 v2 σ
      ) else (
        (mX9_isKnownOn4 v2 x3 σ).bind fun v11 =>
        if v11 = 0 then (
          mX1_lawFor_54 f6 x1 x2 x3 x4 x5 v2 σ
        ) else (
          mX1_lawFor_55 f6 x1 x2 x3 x4 x5 v2 (1 : Int32) σ
        )
      )
    ) else (
      mX1_lawFor_54 f6 x1 x2 x3 x4 x5 v2 σ
    )
    else none
  )
def mX1_lawFor_6 : Nat → Int32 → Int32 → Int32 → Int32 → Int32 → Sto → Option Int32
  | 0, _, _, _, _, _, _ => none
  | n + 1, x1, x2, x3, x4, x5, σ => mX1_lawFor_6B (mX1_lawFor_6 n) x1 x2 x3 x4 x5 σ
def mX1_lawFor (p0 : Int32) (p1 : Int32) (p2 : Int32) (σ : Sto) : Option Int32 :=
  mX1_lawFor_6 FU p0 p1 p2 (-1 : Int32) (0 : Int32) σ
def mX1_collectorIn_2B (f2 : Int32 → Int32 → Sto → Option Int32) (x1 : Int32) (x2 : Int32) (σ : Sto) : Option Int32 :=
  if (sI σ 33 7) ≤ x2 then (
    some (-1 : Int32)
  ) else (
    (mX1_societyAt x2 σ).bind fun v2 =>
    if sK σ v2 = 9 then
    if (sI σ v2 0) = x1 then (
      some x2
    ) else (
      f2 x1 (x2 + (1 : Int32)) σ
    )
    else none
  )
def mX1_collectorIn_2 : Nat → Int32 → Int32 → Sto → Option Int32
  | 0, _, _, _ => none
  | n + 1, x1, x2, σ => mX1_collectorIn_2B (mX1_collectorIn_2 n) x1 x2 σ
def mX1_collectorIn (p0 : Int32) (σ : Sto) : Option Int32 :=
  mX1_collectorIn_2 FU p0 (0 : Int32) σ
def mX1_mandateOf_55 (f6 : Int32 → Int32 → Int32 → Int32 → Int32 → Sto → Option Int32) (x1 : Int32) (x2 : Int32) (x3 : Int32) (x4 : Int32) (x5 : Int32) (x6 : Nat) (y0 : Int32) (σ : Sto) : Option Int32 :=
  if y0 = 0 then (
    f6 x1 x2 x3 x4 (x5 + (1 : Int32)) σ
  ) else (
    if sK σ x6 = 4 then
    (mX9_isKnownOn3 x6 x3 σ).bind fun v6 =>
    if v6 = 0 then (
      f6 x1 x2 x3 x4 (x5 + (1 : Int32)) σ
    ) else (
      f6 x1 x2 x3 (sI σ x6 5) (x5 + (1 : Int32)) σ
    )
    else none
  )
def mX1_mandateOf_54 (f6 : Int32 → Int32 → Int32 → Int32 → Int32 → Sto → Option Int32) (x1 : Int32) (x2 : Int32) (x3 : Int32) (x4 : Int32) (x5 : Int32) (x6 : Nat) (σ : Sto) : Option Int32 :=
  mX1_mandateOf_55 f6 x1 x2 x3 x4 x5 x6 (0 : Int32) σ
def mX1_mandateOf_6B (f6 : Int32 → Int32 → Int32 → Int32 → Int32 → Sto → Option Int32) (x1 : Int32) (x2 : Int32) (x3 : Int32) (x4 : Int32) (x5 : Int32) (σ : Sto) : Option Int32 :=
  if (sI σ 33 11) ≤ x5 then (
    some x4
  ) else (
    (mX1_factAt x5 σ).bind fun v2 =>
    if sK σ v2 = 4 then
    if (sI σ v2 2) = (5 : Int32) then (
      if (sI σ v2 4) = x1 then (
        if x2 < (sI σ v2 6) then (
          mX1_mandateOf_54 f6 x1 x2 x3 x4 x5 v2 σ
        ) else (
          mX1_mandateOf_55 f6 x1 x2 x3 x4 x5 v2 (1 : Int32) σ
        )
      ) else (
        mX1_mandateOf_54 f6 x1 x2 x3 x4 x5 v2 σ
      )
    ) else (
      mX1_mandateOf_54 f6 x1 x2 x3 x4 x5 v2 σ
    )
    else none
  )
def mX1_mandateOf_6 : Nat → Int32 → Int32 → Int32 → Int32 → Int32 → Sto → Option Int32
  | 0, _, _, _, _, _, _ => none
  | n + 1, x1, x2, x3, x4, x5, σ => mX1_mandateOf_6B (mX1_mandateOf_6 n) x1 x2 x3 x4 x5 σ
def mX1_mandateOf (p0 : Int32) (p1 : Int32) (p2 : Int32) (σ : Sto) : Option Int32 :=
  mX1_mandateOf_6 FU p0 p1 p2 (-1 : Int32) (0 : Int32) σ
def mX1_handBehind_94 (f16 : Int32 → Int32 → Int32 → Int32 → Int32 → Int32 → Sto → Option Int32) (x1 : Int32) (x2 : Int32) (x3 : Int32) (x4 : Int32) (x5 : Int32) (x6 : Int32) (x7 : Nat) (x8 : Int32) (y0 : Int32) (σ : Sto) : Option Int32 :=
  if x8 = 0 then (
    f16 x1 x2 x3 x4 x5 (x6 + (1 : Int32)) σ
  ) else (
    if y0 = 0 then (
      f16 x1 x2 x3 x4 x5 (x6 + (1 : Int32)) σ
    ) else (
      if sK σ x7 = 4 then
      (mX3_isHandOf x7 x1 σ).bind fun v10 =>
      if v10 = 0 then (
        f16 x1 x2 x3 x4 x5 (x6 + (1 : Int32)) σ
      ) else (
        (mX9_isKnownOn3 x7 x3 σ).bind fun v13 =>
        if v13 = 0 then (
          f16 x1 x2 x3 x4 x5 (x6 + (1 : Int32)) σ
        ) else (
          f16 x1 x2 x3 x4 x6 (x6 + (1 : Int32)) σ
        )
      )
      else none
    )
  )
def mX1_handBehind_64 (f16 : Int32 → Int32 → Int32 → Int32 → Int32 → Int32 → Sto → Option Int32) (x1 : Int32) (x2 : Int32) (x3 : Int32) (x4 : Int32) (x5 : Int32) (x6 : Int32) (x7 : Nat) (y0 : Int32) (σ : Sto) : Option Int32 :=
  if x5 = (-1 : Int32) then (
    mX1_handBehind_94 f16 x1 x2 x3 x4 x5 x6 x7 y0 (1 : Int32) σ
  ) else (
    if sK σ x7 = 4 then
    (mX1_factAt x5 σ).bind fun v16 =>
    if sK σ v16 = 4 then
    if (sI σ v16 6) ≤ (sI σ x7 6) then (
      mX1_handBehind_94 f16 x1 x2 x3 x4 x5 x6 x7 y0 (0 : Int32) σ
    ) else (
      mX1_handBehind_94 f16 x1 x2 x3 x4 x5 x6 x7 y0 (1 : Int32) σ
    )
    else none
    else none
  )
def mX1_handBehind_63 (f16 : Int32 → Int32 → Int32 → Int32 → Int32 → Int32 → Sto → Option Int32) (x1 : Int32) (x2 : Int32) (x3 : Int32) (x4 : Int32) (x5 : Int32) (x6 : Int32) (x7 : Nat) (σ : Sto) : Option Int32 :=
  mX1_handBehind_64 f16 x1 x2 x3 x4 x5 x6 x7 (0 : Int32) σ
def mX1_handBehind_16B (f16 : Int32 → Int32 → Int32 → Int32 → Int32 → Int32 → Sto → Option Int32) (x1 : Int32) (x2 : Int32) (x3 : Int32) (x4 : Int32) (x5 : Int32) (x6 : Int32) (σ : Sto) : Option Int32 :=
  if (sI σ 33 11) ≤ x6 then (
    some x5
  ) else (
    (mX1_factAt x6 σ).bind fun v4 =>
    if sK σ v4 = 4 then
    if x4 < (sI σ v4 6) then (
      mX1_handBehind_64 f16 x1 x2 x3 x4 x5 x6 v4 (1 : Int32) σ
    ) else (
      if (sI σ v4 6) = x4 then (
        if x6 ≤ x2 then (
          mX1_handBehind_63 f16 x1 x2 x3 x4 x5 x6 v4 σ
        ) else (
          mX1_handBehind_64 f16 x1 x2 x3 x4 x5 x6 v4 (1 : Int32) σ
        )
      ) else (
        mX1_handBehind_63 f16 x1 x2 x3 x4 x5 x6 v4 σ
      )
    )
    else none
  )
def mX1_handBehind_16 : Nat → Int32 → Int32 → Int32 → Int32 → Int32 → Int32 → Sto → Option Int32
  | 0, _, _, _, _, _, _, _ => none
  | n + 1, x1, x2, x3, x4, x5, x6, σ => mX1_handBehind_16B (mX1_handBehind_16 n) x1 x2 x3 x4 x5 x6 σ
def mX1_handBehind (p0 : Int32) (p1 : Int32) (p2 : Int32) (σ : Sto) : Option Int32 :=
  (mX1_factAt p1 σ).bind fun v1 =>
  if sK σ v1 = 4 then
  mX1_handBehind_16 FU p0 p1 p2 (sI σ v1 6) (-1 : Int32) (0 : Int32) σ
  else none
def mX1_factAtd (a0 : Nat) (p0 : Int32) (σ : Sto) : Option Nat :=
  if p0 < 0 then (
    if sK σ (sR σ a0 10) = 107 then
    if inb (200 : Int32) (sN σ (sR σ a0 10)) then
    if ¬ (sR σ (sR σ a0 10) ((200 : Int32)).toNatClampNeg) = 0 then
    some (sR σ (sR σ a0 10) ((200 : Int32)).toNatClampNeg)
    else none
    else none
    else none
  ) else (
    if (sI σ a0 11) ≤ p0 then (
      if sK σ (sR σ a0 10) = 107 then
      if inb (200 : Int32) (sN σ (sR σ a0 10)) then
      if ¬ (sR σ (sR σ a0 10) ((200 : Int32)).toNatClampNeg) = 0 then
      some (sR σ (sR σ a0 10) ((200 : Int32)).toNatClampNeg)
      else none
      else none
      else none
    ) else (
      if sK σ (sR σ a0 10) = 107 then
      if inb p0 (sN σ (sR σ a0 10)) then
      if ¬ (sR σ (sR σ a0 10) (p0).toNatClampNeg) = 0 then
      some (sR σ (sR σ a0 10) (p0).toNatClampNeg)
      else none
      else none
      else none
    )
  )
def mX1_workAtd (a0 : Nat) (p0 : Int32) (σ : Sto) : Option Nat :=
  if p0 < 0 then (
    if sK σ (sR σ a0 4) = 104 then
    if inb (30 : Int32) (sN σ (sR σ a0 4)) then
    if ¬ (sR σ (sR σ a0 4) ((30 : Int32)).toNatClampNeg) = 0 then
    some (sR σ (sR σ a0 4) ((30 : Int32)).toNatClampNeg)
    else none
    else none
    else none
  ) else (
    if (sI σ a0 5) ≤ p0 then (
      if sK σ (sR σ a0 4) = 104 then
      if inb (30 : Int32) (sN σ (sR σ a0 4)) then
      if ¬ (sR σ (sR σ a0 4) ((30 : Int32)).toNatClampNeg) = 0 then
      some (sR σ (sR σ a0 4) ((30 : Int32)).toNatClampNeg)
      else none
      else none
      else none
    ) else (
      if sK σ (sR σ a0 4) = 104 then
      if inb p0 (sN σ (sR σ a0 4)) then
      if ¬ (sR σ (sR σ a0 4) (p0).toNatClampNeg) = 0 then
      some (sR σ (sR σ a0 4) (p0).toNatClampNeg)
      else none
      else none
      else none
    )
  )
def mX0_init (a0 : Nat) (p0 : Nat) (σ : Sto) : Option Sto :=
  stp (wI σ a0 1 (0 : Int32)) fun σ1 =>
  stp (nwK σ1 (100 + 0) 30) fun σ3 =>
  if sK σ3 a0 = 1 then
  stp (wR σ3 a0 2 (sZ σ1)) fun σ7 =>
  stp (nwK σ7 (100 + 0) 30) fun σ11 =>
  if sK σ11 a0 = 1 then
  stp (wR σ11 a0 3 (sZ σ7)) fun σ15 =>
  stp (nwK σ15 (100 + 0) 10) fun σ19 =>
  if sK σ19 a0 = 1 then
  stp (wR σ19 a0 4 (sZ σ15)) fun σ23 =>
  stp (wI σ23 a0 7 (0 : Int32)) fun σ27 =>
  stp (wI σ27 a0 8 (0 : Int32)) fun σ31 =>
  stp (wI σ31 a0 9 (0 : Int32)) fun σ35 =>
  stp (wI σ35 a0 10 (0 : Int32)) fun σ39 =>
  stp (wI σ39 a0 11 (0 : Int32)) fun σ43 =>
  stp (wI σ43 a0 12 (0 : Int32)) fun σ47 =>
  stp (nwK σ47 (100 + 0) 30) fun σ51 =>
  if sK σ51 a0 = 1 then
  stp (wR σ51 a0 13 (sZ σ47)) fun σ55 =>
  stp (nwK σ55 (100 + 0) 30) fun σ59 =>
  if sK σ59 a0 = 1 then
  stp (wR σ59 a0 14 (sZ σ55)) fun σ63 =>
  stp (nwK σ63 (100 + 0) 30) fun σ67 =>
  if sK σ67 a0 = 1 then
  stp (wR σ67 a0 15 (sZ σ63)) fun σ71 =>
  stp (nwK σ71 (100 + 0) 30) fun σ75 =>
  if sK σ75 a0 = 1 then
  stp (wR σ75 a0 16 (sZ σ71)) fun σ79 =>
  stp (nwK σ79 (100 + 0) 30) fun σ83 =>
  if sK σ83 a0 = 1 then
  stp (wR σ83 a0 17 (sZ σ79)) fun σ87 =>
  stp (nwK σ87 (100 + 0) 30) fun σ91 =>
  if sK σ91 a0 = 1 then
  stp (wR σ91 a0 18 (sZ σ87)) fun σ95 =>
  stp (wR σ95 a0 0 p0) fun σ99 =>
  if sK σ99 p0 = 2 then
  (mX1_factAtd p0 (-1 : Int32) σ99).bind fun v103 =>
  stp (wR σ99 a0 5 v103) fun σ105 =>
  (mX1_workAtd p0 (-1 : Int32) σ105).bind fun v110 =>
  stp (wR σ105 a0 6 v110) fun σ111 =>
  some σ111
  else none
  else none
  else none
  else none
  else none
  else none
  else none
  else none
  else none
  else none
def mX11_isWithin (p0 : Int32) (p1 : Int32) (p2 : Int32) (σ : Sto) : Int32 :=
  if p0 < p1 then (
    (0 : Int32)
  ) else (
    if p2 < p0 then (
      (0 : Int32)
    ) else (
      (1 : Int32)
    )
  )
theorem bX11_isWithin (p0 : Int32) (p1 : Int32) (p2 : Int32) (σ : Sto) : isB (mX11_isWithin p0 p1 p2 σ) := by
  unfold mX11_isWithin
  repeat' split
  all_goals first | exact Or.inl rfl | exact Or.inr rfl | exact bX11_isWithin _ _ _ _
def mX0_open_37B (f37 : Int32 → Int32 → Sto → Option Sto) (x1 : Int32) (x2 : Int32) (σ : Sto) : Option Sto :=
  if (sI σ 33 11) ≤ x2 then (
    some σ
  ) else (
    (mX1_factAt x2 σ).bind fun v4 =>
    if sK σ v4 = 4 then
    if (sI σ v4 2) = 0 then (
      (mX9_isKnownOn3 v4 x1 σ).bind fun v7 =>
      if v7 = 0 then (
        f37 x1 (x2 + (1 : Int32)) σ
      ) else (
        if (mX11_isWithin (sI σ v4 4) (0 : Int32) (29 : Int32) σ) = 0 then (
          f37 x1 (x2 + (1 : Int32)) σ
        ) else (
          if inb (sI σ v4 4) 30 then
          stp (wI σ 54 ((sI σ v4 4)).toNatClampNeg (sI σ v4 6)) fun σ12 =>
          if inb (sI σ12 v4 4) 30 then
          stp (wI σ12 55 ((sI σ12 v4 4)).toNatClampNeg (sI σ12 v4 7)) fun σ15 =>
          f37 x1 (x2 + (1 : Int32)) σ15
          else none
          else none
        )
      )
    ) else (
      f37 x1 (x2 + (1 : Int32)) σ
    )
    else none
  )
def mX0_open_37 : Nat → Int32 → Int32 → Sto → Option Sto
  | 0, _, _, _ => none
  | n + 1, x1, x2, σ => mX0_open_37B (mX0_open_37 n) x1 x2 σ
def mX0_open_7B (f7 : Int32 → Int32 → Sto → Option Sto) (x1 : Int32) (x2 : Int32) (σ : Sto) : Option Sto :=
  if (30 : Int32) ≤ x2 then (
    mX0_open_37 FU x1 (0 : Int32) σ
  ) else (
    if inb x2 30 then
    stp (wI σ 54 (x2).toNatClampNeg (1000000 : Int32)) fun σ18 =>
    stp (wI σ18 55 (x2).toNatClampNeg (1000000 : Int32)) fun σ19 =>
    f7 x1 (x2 + (1 : Int32)) σ19
    else none
  )
def mX0_open_7 : Nat → Int32 → Int32 → Sto → Option Sto
  | 0, _, _, _ => none
  | n + 1, x1, x2, σ => mX0_open_7B (mX0_open_7 n) x1 x2 σ
def mX0_open (p0 : Int32) (σ : Sto) : Option Sto :=
  stp (wI σ 53 1 p0) fun σ1 =>
  mX0_open_7 FU p0 (0 : Int32) σ1
def mX0_fillValues_122 (y1 : Int32) (y2 : Int32) (σ : Sto) : Option Sto :=
  if inb y1 10 then
  stp (wI σ 56 (y1).toNatClampNeg y2) fun σ32 =>
  stp (wI σ32 56 ((7 : Int32)).toNatClampNeg (sI σ32 53 9)) fun σ33 =>
  if sK σ33 (sR σ33 53 6) = 10 then
  stp (wI σ33 56 ((8 : Int32)).toNatClampNeg (sI σ33 (sR σ33 53 6) 6)) fun σ35 =>
  if sK σ35 (sR σ35 53 6) = 10 then
  stp (wI σ35 56 ((9 : Int32)).toNatClampNeg (sI σ35 (sR σ35 53 6) 0)) fun σ38 =>
  some σ38
  else none
  else none
  else none
def mX0_fillValues_96 (x1 : Int32) (y1 : Int32) (y2 : Int32) (σ : Sto) : Option Sto :=
  if inb y1 10 then
  stp (wI σ 56 (y1).toNatClampNeg y2) fun σ28 =>
  stp (wI σ28 56 ((5 : Int32)).toNatClampNeg (sI σ28 53 8)) fun σ29 =>
  if x1 = 0 then (
    mX0_fillValues_122 (6 : Int32) (0 : Int32) σ29
  ) else (
    mX0_fillValues_122 (6 : Int32) (1 : Int32) σ29
  )
  else none
def mX0_fillValues (p0 : Int32) (σ : Sto) : Option Sto :=
  stp (wI σ 56 ((0 : Int32)).toNatClampNeg (sI σ 53 7)) fun σ1 =>
  if sK σ1 (sR σ1 53 5) = 4 then
  (mX1_personAt (sI σ1 (sR σ1 53 5) 4) σ1).bind fun v3 =>
  if sK σ1 v3 = 6 then
  stp (wI σ1 56 ((1 : Int32)).toNatClampNeg (sI σ1 v3 1)) fun σ5 =>
  if sK σ5 (sR σ5 53 5) = 4 then
  (mX1_personAt (sI σ5 (sR σ5 53 5) 5) σ5).bind fun v9 =>
  if sK σ5 v9 = 6 then
  stp (wI σ5 56 ((2 : Int32)).toNatClampNeg (sI σ5 v9 1)) fun σ11 =>
  if sK σ11 (sR σ11 53 5) = 4 then
  stp (wI σ11 56 ((3 : Int32)).toNatClampNeg (sI σ11 (sR σ11 53 5) 12)) fun σ17 =>
  if sK σ17 (sR σ17 53 5) = 4 then
  if sK σ17 (sR σ17 53 6) = 10 then
  (mX10_isBy (sR σ17 53 6) (sI σ17 (sR σ17 53 5) 4) σ17).bind fun v24 =>
  if v24 = 0 then (
    mX0_fillValues_96 p0 (4 : Int32) (0 : Int32) σ17
  ) else (
    mX0_fillValues_96 p0 (4 : Int32) (1 : Int32) σ17
  )
  else none
  else none
  else none
  else none
  else none
  else none
  else none
def mX0_look_232 (x3 : Int32) (y1 : Int32) (σ : Sto) : Option Sto :=
  stp (wI σ 53 8 y1) fun σ14 =>
  (mX0_fillValues x3 σ14).bind fun σ15 =>
  some σ15
def mX0_look_160 (f63 : Nat → Int32 → Int32 → Int32 → Sto → Option Sto) (x1 : Nat) (x2 : Int32) (x3 : Int32) (x4 : Int32) (x5 : Nat) (σ : Sto) : Option Sto :=
  if sK σ x5 = 4 then
  if (sI σ x5 2) = (4 : Int32) then (
    f63 x1 x2 x3 (x4 + (1 : Int32)) σ
  ) else (
    if sK σ x1 = 4 then
    if (sI σ x5 5) = (sI σ x1 4) then (
      if (sI σ x5 6) < x2 then (
        f63 x1 x2 x3 (x4 + (1 : Int32)) σ
      ) else (
        if sK σ (sR σ 53 6) = 10 then
        (mX10_isBy (sR σ 53 6) (sI σ x5 4) σ).bind fun v30 =>
        f63 x1 (sI σ x5 6) v30 (x4 + (1 : Int32)) σ
        else none
      )
    ) else (
      f63 x1 x2 x3 (x4 + (1 : Int32)) σ
    )
    else none
  )
  else none
def mX0_look_63B (f63 : Nat → Int32 → Int32 → Int32 → Sto → Option Sto) (x1 : Nat) (x2 : Int32) (x3 : Int32) (x4 : Int32) (σ : Sto) : Option Sto :=
  if (sI σ 33 11) ≤ x4 then (
    if x2 = (-1 : Int32) then (
      mX0_look_232 x3 (99999 : Int32) σ
    ) else (
      if sK σ x1 = 4 then
      mX0_look_232 x3 ((sI σ x1 6) - x2) σ
      else none
    )
  ) else (
    (mX1_factAt x4 σ).bind fun v16 =>
    if sK σ x1 = 4 then
    if sK σ v16 = 4 then
    (mX3_isHandOf v16 (sI σ x1 3) σ).bind fun v18 =>
    if v18 = 0 then (
      f63 x1 x2 x3 (x4 + (1 : Int32)) σ
    ) else (
      if (sI σ x1 6) ≤ (sI σ v16 6) then (
        f63 x1 x2 x3 (x4 + (1 : Int32)) σ
      ) else (
        (mX9_isKnownOn3 v16 (sI σ 53 1) σ).bind fun v22 =>
        if v22 = 0 then (
          f63 x1 x2 x3 (x4 + (1 : Int32)) σ
        ) else (
          if (sI σ v16 2) = (2 : Int32) then (
            if (sI σ v16 6) < ((sI σ x1 6) - (365 : Int32)) then (
              mX0_look_160 f63 x1 x2 x3 x4 v16 σ
            ) else (
              stp (wI σ 53 9 ((sI σ 53 9) + (1 : Int32))) fun σ33 =>
              mX0_look_160 f63 x1 x2 x3 x4 v16 σ33
            )
          ) else (
            mX0_look_160 f63 x1 x2 x3 x4 v16 σ
          )
        )
      )
    )
    else none
    else none
  )
def mX0_look_63 : Nat → Nat → Int32 → Int32 → Int32 → Sto → Option Sto
  | 0, _, _, _, _, _ => none
  | n + 1, x1, x2, x3, x4, σ => mX0_look_63B (mX0_look_63 n) x1 x2 x3 x4 σ
def mX0_look (p0 : Nat) (σ : Sto) : Option Sto :=
  stp (wR σ 53 5 p0) fun σ1 =>
  if sK σ1 p0 = 4 then
  (mX1_workAt (sI σ1 p0 3) σ1).bind fun v3 =>
  stp (wR σ1 53 6 v3) fun σ4 =>
  (mX1_rateFor (sI σ4 p0 10) (sI σ4 p0 6) σ4).bind fun v6 =>
  stp (wI σ4 53 7 (((((sI σ4 p0 11)).toInt64 * (v6).toInt64) / (1000 : Int64))).toInt32) fun σ7 =>
  stp (wI σ7 53 9 (0 : Int32)) fun σ9 =>
  mX0_look_63 FU p0 (-1 : Int32) (0 : Int32) (0 : Int32) σ9
  else none
def mX0_statusOf (p0 : Int32) (p1 : Nat) (σ : Sto) : Option Int32 :=
  if sK σ p1 = 5 then
  (mX1_personAt p0 σ).bind fun v2 =>
  if sK σ v2 = 6 then
  (mX4_isFor p1 (sI σ v2 0) σ).bind fun v4 =>
  if v4 = 0 then (
    some (0 : Int32)
  ) else (
    if sK σ (sR σ 53 5) = 4 then
    if inb p0 30 then
    if (sI σ (sR σ 53 5) 6) < ((sI σ 55 (p0).toNatClampNeg) + ((365 : Int32) * (sI σ p1 10))) then (
      if (sI σ (sR σ 53 5) 6) < ((sI σ 54 (p0).toNatClampNeg) + ((365 : Int32) * (sI σ p1 10))) then (
        some (1 : Int32)
      ) else (
        some (2 : Int32)
      )
    ) else (
      some (0 : Int32)
    )
    else none
    else none
  )
  else none
  else none
def mX0_apply_127 (f86 : Nat → Int32 → Sto → Option Sto) (x1 : Nat) (x2 : Int32) (x3 : Int32) (y1 : Int32) (y2 : Int32) (σ : Sto) : Option Sto :=
  if inb y1 30 then
  stp (wI σ 58 (y1).toNatClampNeg y2) fun σ12 =>
  if inb x2 30 then
  stp (wI σ12 57 (x2).toNatClampNeg (0 : Int32)) fun σ14 =>
  if (sI σ14 58 (x2).toNatClampNeg) = 0 then (
    f86 x1 (x2 + (1 : Int32)) σ14
  ) else (
    if sK σ14 (sR σ14 53 6) = 10 then
    if (sI σ14 (sR σ14 53 6) 7) ≤ 0 then (
      f86 x1 (x2 + (1 : Int32)) σ14
    ) else (
      if ¬ ((sI σ14 (sR σ14 53 6) 7)).toInt64 = 0 then
      stp (wI σ14 57 (x2).toNatClampNeg (((((sI σ14 53 11)).toInt64 * (x3).toInt64) / ((sI σ14 (sR σ14 53 6) 7)).toInt64)).toInt32) fun σ19 =>
      f86 x1 (x2 + (1 : Int32)) σ19
      else none
    )
    else none
  )
  else none
  else none
def mX0_apply_126 (f86 : Nat → Int32 → Sto → Option Sto) (x1 : Nat) (x2 : Int32) (x3 : Int32) (y1 : Int32) (σ : Sto) : Option Sto :=
  mX0_apply_127 f86 x1 x2 x3 y1 (0 : Int32) σ
def mX0_apply_86B (f86 : Nat → Int32 → Sto → Option Sto) (x1 : Nat) (x2 : Int32) (σ : Sto) : Option Sto :=
  if (30 : Int32) ≤ x2 then (
    some σ
  ) else (
    if sK σ (sR σ 53 6) = 10 then
    (mX10_weightOf (sR σ 53 6) x2 σ).bind fun v8 =>
    if (sI σ 53 10) = 0 then (
      mX0_apply_126 f86 x1 x2 v8 x2 σ
    ) else (
      if v8 ≤ 0 then (
        mX0_apply_126 f86 x1 x2 v8 x2 σ
      ) else (
        (mX0_statusOf x2 x1 σ).bind fun v22 =>
        mX0_apply_127 f86 x1 x2 v8 x2 v22 σ
      )
    )
    else none
  )
def mX0_apply_86 : Nat → Nat → Int32 → Sto → Option Sto
  | 0, _, _, _ => none
  | n + 1, x1, x2, σ => mX0_apply_86B (mX0_apply_86 n) x1 x2 σ
def mX0_apply_81 (x1 : Nat) (y1 : Int32) (σ : Sto) : Option Sto :=
  stp (wI σ 53 11 y1) fun σ6 =>
  mX0_apply_86 FU x1 (0 : Int32) σ6
def mX0_apply_58 (x1 : Nat) (y1 : Int32) (σ : Sto) : Option Sto :=
  if isB y1 then
  stp (wI σ 53 10 y1) fun σ4 =>
  if (sI σ4 53 10) = 0 then (
    mX0_apply_81 x1 (0 : Int32) σ4
  ) else (
    if sK σ4 x1 = 5 then
    (mX4_partOf x1 (sI σ4 53 7) σ4).bind fun v23 =>
    mX0_apply_81 x1 v23 σ4
    else none
  )
  else none
def mX0_apply_57 (x1 : Nat) (σ : Sto) : Option Sto :=
  mX0_apply_58 x1 (0 : Int32) σ
def mX0_apply_47 (x1 : Nat) (y1 : Nat) (y3 : Int32) (σ : Sto) : Option Sto :=
  if sK σ y1 = 5 then
  bd2 (mX4_isDue y1 56 y3 σ) fun v30 σ30 =>
  if v30 = 0 then (
    mX0_apply_57 x1 σ30
  ) else (
    mX0_apply_58 x1 (1 : Int32) σ30
  )
  else none
def mX0_apply (p0 : Nat) (σ : Sto) : Option Sto :=
  if sK σ p0 = 5 then
  if (sI σ p0 2) = (-1 : Int32) then (
    mX0_apply_57 p0 σ
  ) else (
    if (sI σ 53 7) < (sI σ p0 8) then (
      mX0_apply_57 p0 σ
    ) else (
      if sK σ (sR σ 53 5) = 4 then
      if sK σ (sR σ 53 6) = 10 then
      (mX10_isBy (sR σ 53 6) (sI σ (sR σ 53 5) 4) σ).bind fun v27 =>
      if v27 = 0 then (
        mX0_apply_47 p0 p0 (1 : Int32) σ
      ) else (
        mX0_apply_47 p0 p0 (0 : Int32) σ
      )
      else none
      else none
    )
  )
  else none
def mX0_isDead (p0 : Int32) (σ : Sto) : Option Int32 :=
  if (mX11_isWithin p0 (0 : Int32) (29 : Int32) σ) = 0 then (
    some (0 : Int32)
  ) else (
    if inb p0 30 then
    if sK σ (sR σ 53 5) = 4 then
    if (sI σ (sR σ 53 5) 6) < (sI σ 55 (p0).toNatClampNeg) then (
      some (0 : Int32)
    ) else (
      some (1 : Int32)
    )
    else none
    else none
  )
def mX0_goOneRound_214 (f161 : Int32 → Int32 → Int32 → Sto → Option (Int32 × Sto)) (x1 : Int32) (x2 : Int32) (x3 : Int32) (σ : Sto) : Option (Int32 × Sto) :=
  if inb x3 30 then
  stp (wI σ 59 (x3).toNatClampNeg ((sI σ 59 (x3).toNatClampNeg) + (sI σ 60 (x3).toNatClampNeg))) fun σ9 =>
  f161 x1 x2 (x3 + (1 : Int32)) σ9
  else none
def mX0_goOneRound_212 (f161 : Int32 → Int32 → Int32 → Sto → Option (Int32 × Sto)) (x1 : Int32) (x3 : Int32) (y0 : Int32) (y1 : Int32) (σ : Sto) : Option (Int32 × Sto) :=
  mX0_goOneRound_214 f161 x1 (y0 ||| y1) x3 σ
def mX0_goOneRound_161B (f161 : Int32 → Int32 → Int32 → Sto → Option (Int32 × Sto)) (x1 : Int32) (x2 : Int32) (x3 : Int32) (σ : Sto) : Option (Int32 × Sto) :=
  if (30 : Int32) ≤ x3 then (
    stp (wI σ 53 12 ((sI σ 53 12) - x1)) fun σ4 =>
    if isB x2 then
    some (x2, σ4)
    else none
  ) else (
    (mX0_isDead x3 σ).bind fun v6 =>
    if v6 = 0 then (
      mX0_goOneRound_214 f161 x1 x2 x3 σ
    ) else (
      if inb x3 30 then
      stp (wI σ 53 12 ((sI σ 53 12) + (sI σ 59 (x3).toNatClampNeg))) fun σ11 =>
      stp (wI σ11 59 (x3).toNatClampNeg (0 : Int32)) fun σ12 =>
      if (sI σ12 60 (x3).toNatClampNeg) ≤ 0 then (
        mX0_goOneRound_212 f161 x1 x3 x2 (0 : Int32) σ12
      ) else (
        mX0_goOneRound_212 f161 x1 x3 x2 (1 : Int32) σ12
      )
      else none
    )
  )
def mX0_goOneRound_161 : Nat → Int32 → Int32 → Int32 → Sto → Option (Int32 × Sto)
  | 0, _, _, _, _ => none
  | n + 1, x1, x2, x3, σ => mX0_goOneRound_161B (mX0_goOneRound_161 n) x1 x2 x3 σ
def mX0_goOneRound_87 (f25 : Int32 → Int32 → Sto → Option (Int32 × Sto)) (x1 : Int32) (x2 : Int32) (x3 : Nat) (y0 : Int32) (σ : Sto) : Option (Int32 × Sto) :=
  if y0 = 0 then (
    f25 x1 (x2 + (1 : Int32)) σ
  ) else (
    if sK σ x3 = 4 then
    if (mX11_isWithin (sI σ x3 5) (0 : Int32) (29 : Int32) σ) = 0 then (
      f25 x1 (x2 + (1 : Int32)) σ
    ) else (
      if inb (sI σ x3 4) 30 then
      if ¬ ((sI σ x3 9)).toInt64 = 0 then
      if inb (sI σ x3 5) 30 then
      stp (wI σ 60 ((sI σ x3 5)).toNatClampNeg ((sI σ 60 ((sI σ x3 5)).toNatClampNeg) + (((((sI σ 59 ((sI σ x3 4)).toNatClampNeg)).toInt64 * ((sI σ x3 8)).toInt64) / ((sI σ x3 9)).toInt64)).toInt32)) fun σ24 =>
      f25 (x1 + (((((sI σ 59 ((sI σ x3 4)).toNatClampNeg)).toInt64 * ((sI σ x3 8)).toInt64) / ((sI σ x3 9)).toInt64)).toInt32) (x2 + (1 : Int32)) σ24
      else none
      else none
      else none
    )
    else none
  )
def mX0_goOneRound_86 (f25 : Int32 → Int32 → Sto → Option (Int32 × Sto)) (x1 : Int32) (x2 : Int32) (x3 : Nat) (σ : Sto) : Option (Int32 × Sto) :=
  mX0_goOneRound_87 f25 x1 x2 x3 (0 : Int32) σ
def mX0_goOneRound_25B (f25 : Int32 → Int32 → Sto → Option (Int32 × Sto)) (x1 : Int32) (x2 : Int32) (σ : Sto) : Option (Int32 × Sto) :=
  if (sI σ 33 11) ≤ x2 then (
    mX0_goOneRound_161 FU x1 (0 : Int32) (0 : Int32) σ
  ) else (
    (mX1_factAt x2 σ).bind fun v14 =>
    if sK σ v14 = 4 then
    if (sI σ v14 2) = (1 : Int32) then (
      (mX9_isKnownOn3 v14 (sI σ 53 1) σ).bind fun v26 =>
      if v26 = 0 then (
        mX0_goOneRound_86 f25 x1 x2 v14 σ
      ) else (
        (mX0_isDead (sI σ v14 4) σ).bind fun v28 =>
        if v28 = 0 then (
          mX0_goOneRound_86 f25 x1 x2 v14 σ
        ) else (
          if (sI σ v14 9) ≤ 0 then (
            mX0_goOneRound_86 f25 x1 x2 v14 σ
          ) else (
            mX0_goOneRound_87 f25 x1 x2 v14 (1 : Int32) σ
          )
        )
      )
    ) else (
      mX0_goOneRound_86 f25 x1 x2 v14 σ
    )
    else none
  )
def mX0_goOneRound_25 : Nat → Int32 → Int32 → Sto → Option (Int32 × Sto)
  | 0, _, _, _ => none
  | n + 1, x1, x2, σ => mX0_goOneRound_25B (mX0_goOneRound_25 n) x1 x2 σ
def mX0_goOneRound_2B (f2 : Int32 → Sto → Option (Int32 × Sto)) (x1 : Int32) (σ : Sto) : Option (Int32 × Sto) :=
  if (30 : Int32) ≤ x1 then (
    mX0_goOneRound_25 FU (0 : Int32) (0 : Int32) σ
  ) else (
    if inb x1 30 then
    stp (wI σ 60 (x1).toNatClampNeg (0 : Int32)) fun σ32 =>
    f2 (x1 + (1 : Int32)) σ32
    else none
  )
def mX0_goOneRound_2 : Nat → Int32 → Sto → Option (Int32 × Sto)
  | 0, _, _ => none
  | n + 1, x1, σ => mX0_goOneRound_2B (mX0_goOneRound_2 n) x1 σ
def mX0_goOneRound (σ : Sto) : Option (Int32 × Sto) :=
  mX0_goOneRound_2 FU (0 : Int32) σ
def mX0_passOn_83B (f83 : Int32 → Sto → Option Sto) (x2 : Int32) (σ : Sto) : Option Sto :=
  if (30 : Int32) ≤ x2 then (
    some σ
  ) else (
    (mX0_isDead x2 σ).bind fun v5 =>
    if v5 = 0 then (
      f83 (x2 + (1 : Int32)) σ
    ) else (
      if inb x2 30 then
      stp (wI σ 53 12 ((sI σ 53 12) + (sI σ 59 (x2).toNatClampNeg))) fun σ8 =>
      stp (wI σ8 59 (x2).toNatClampNeg (0 : Int32)) fun σ9 =>
      f83 (x2 + (1 : Int32)) σ9
      else none
    )
  )
def mX0_passOn_83 : Nat → Int32 → Sto → Option Sto
  | 0, _, _ => none
  | n + 1, x2, σ => mX0_passOn_83B (mX0_passOn_83 n) x2 σ
def mX0_passOn_60B (f60 : Int32 → Int32 → Sto → Option Sto) (x1 : Int32) (x2 : Int32) (σ : Sto) : Option Sto :=
  if (8 : Int32) ≤ x2 then (
    mX0_passOn_83 FU (0 : Int32) σ
  ) else (
    if x1 = 0 then (
      mX0_passOn_83 FU (0 : Int32) σ
    ) else (
      bd2 (mX0_goOneRound σ) fun v11 σ11 =>
      f60 v11 (x2 + (1 : Int32)) σ11
    )
  )
def mX0_passOn_60 : Nat → Int32 → Int32 → Sto → Option Sto
  | 0, _, _, _ => none
  | n + 1, x1, x2, σ => mX0_passOn_60B (mX0_passOn_60 n) x1 x2 σ
def mX0_passOn_9B (f9 : Int32 → Int32 → Sto → Option Sto) (x1 : Int32) (x2 : Int32) (σ : Sto) : Option Sto :=
  if (30 : Int32) ≤ x2 then (
    mX0_passOn_60 FU x1 (0 : Int32) σ
  ) else (
    if inb x2 30 then
    stp (wI σ 59 (x2).toNatClampNeg (sI σ 57 (x2).toNatClampNeg)) fun σ13 =>
    if (sI σ13 59 (x2).toNatClampNeg) ≤ 0 then (
      f9 (x1 ||| (0 : Int32)) (x2 + (1 : Int32)) σ13
    ) else (
      (mX0_isDead x2 σ13).bind fun v15 =>
      if v15 = 0 then (
        f9 (x1 ||| (0 : Int32)) (x2 + (1 : Int32)) σ13
      ) else (
        f9 (x1 ||| (1 : Int32)) (x2 + (1 : Int32)) σ13
      )
    )
    else none
  )
def mX0_passOn_9 : Nat → Int32 → Int32 → Sto → Option Sto
  | 0, _, _, _ => none
  | n + 1, x1, x2, σ => mX0_passOn_9B (mX0_passOn_9 n) x1 x2 σ
def mX0_passOn (σ : Sto) : Option Sto :=
  stp (wI σ 53 12 (0 : Int32)) fun σ1 =>
  mX0_passOn_9 FU (0 : Int32) (0 : Int32) σ1
def mX0_gottenBy_107 (x1 : Int32) (y0 : Int32) (σ : Sto) : Option Int32 :=
  if y0 = 0 then (
    some (0 : Int32)
  ) else (
    if inb x1 30 then
    some (sI σ 59 (x1).toNatClampNeg)
    else none
  )
def mX0_gottenBy_106 (x1 : Int32) (σ : Sto) : Option Int32 :=
  mX0_gottenBy_107 x1 (0 : Int32) σ
def mX0_gottenBy (p0 : Int32) (p1 : Nat) (p2 : Int32) (σ : Sto) : Option Int32 :=
  if inb p0 30 then
  if (sI σ 61 (p0).toNatClampNeg) = (-1 : Int32) then (
    (mX1_claimOf p0 p2 σ).bind fun v3 =>
    (mX1_claimAt v3 σ).bind fun v4 =>
    if sK σ v4 = 4 then
    (mX9_isKnownOn3 v4 (sI σ 53 1) σ).bind fun v5 =>
    if v5 = 0 then (
      mX0_gottenBy_106 p0 σ
    ) else (
      if sK σ (sR σ 53 5) = 4 then
      if sK σ p1 = 5 then
      if (sI σ p1 11) < ((sI σ v4 0) - (sI σ (sR σ 53 5) 0)) then (
        mX0_gottenBy_106 p0 σ
      ) else (
        mX0_gottenBy_107 p0 (1 : Int32) σ
      )
      else none
      else none
    )
    else none
  ) else (
    (mX1_societyAt (sI σ 61 (p0).toNatClampNeg) σ).bind fun v13 =>
    if sK σ v13 = 9 then
    some ((sI σ 59 (p0).toNatClampNeg) - (((((sI σ 59 (p0).toNatClampNeg)).toInt64 * ((sI σ v13 1)).toInt64) / (1000 : Int64))).toInt32)
    else none
  )
  else none
def mX0_payOut_93 (f2 : Nat → Int32 → Int32 → Sto → Option Sto) (x1 : Nat) (x2 : Int32) (x3 : Int32) (y1 : Int32) (y2 : Int32) (σ : Sto) : Option Sto :=
  stp (wI σ 53 12 (y1 + y2)) fun σ14 =>
  f2 x1 x2 (x3 + (1 : Int32)) σ14
def mX0_payOut_2B (f2 : Nat → Int32 → Int32 → Sto → Option Sto) (x1 : Nat) (x2 : Int32) (x3 : Int32) (σ : Sto) : Option Sto :=
  if (30 : Int32) ≤ x3 then (
    some σ
  ) else (
    if inb x3 30 then
    stp (wI σ 62 (x3).toNatClampNeg (0 : Int32)) fun σ3 =>
    stp (wI σ3 61 (x3).toNatClampNeg (-1 : Int32)) fun σ4 =>
    if (sI σ4 59 (x3).toNatClampNeg) ≤ 0 then (
      f2 x1 x2 (x3 + (1 : Int32)) σ4
    ) else (
      if sK σ4 (sR σ4 53 5) = 4 then
      (mX1_mandateOf x3 (sI σ4 (sR σ4 53 5) 6) (sI σ4 53 1) σ4).bind fun v7 =>
      stp (wI σ4 61 (x3).toNatClampNeg v7) fun σ8 =>
      (mX0_gottenBy x3 x1 x2 σ8).bind fun v10 =>
      stp (wI σ8 62 (x3).toNatClampNeg v10) fun σ11 =>
      if (sI σ11 62 (x3).toNatClampNeg) = 0 then (
        mX0_payOut_93 f2 x1 x2 x3 (sI σ11 53 12) (sI σ11 59 (x3).toNatClampNeg) σ11
      ) else (
        mX0_payOut_93 f2 x1 x2 x3 (sI σ11 53 12) (0 : Int32) σ11
      )
      else none
    )
    else none
  )
def mX0_payOut_2 : Nat → Nat → Int32 → Int32 → Sto → Option Sto
  | 0, _, _, _, _ => none
  | n + 1, x1, x2, x3, σ => mX0_payOut_2B (mX0_payOut_2 n) x1 x2 x3 σ
def mX0_payOut (p0 : Nat) (p1 : Int32) (σ : Sto) : Option Sto :=
  mX0_payOut_2 FU p0 p1 (0 : Int32) σ
def mX0_settle (p0 : Nat) (p1 : Int32) (σ : Sto) : Option Sto :=
  (mX0_look p0 σ).bind fun σ1 =>
  if sK σ1 p0 = 4 then
  (mX1_lawFor (sI σ1 p0 10) (sI σ1 p0 6) (sI σ1 53 1) σ1).bind fun v3 =>
  (mX1_lawAt v3 σ1).bind fun v4 =>
  (mX0_apply v4 σ1).bind fun σ5 =>
  (mX0_passOn σ5).bind fun σ6 =>
  (mX0_payOut v4 p1 σ6).bind fun σ7 =>
  some σ7
  else none
def mX2_init (a0 : Nat) (p0 : Nat) (p1 : Nat) (σ : Sto) : Option Sto :=
  stp (nwK σ (100 + 1) 25) fun σ1 =>
  if sK σ1 a0 = 3 then
  stp (wR σ1 a0 2 (sZ σ)) fun σ5 =>
  stp (nwK σ5 (100 + 1) 32) fun σ9 =>
  if sK σ9 a0 = 3 then
  stp (wR σ9 a0 3 (sZ σ5)) fun σ13 =>
  stp (nwK σ13 (100 + 0) 32) fun σ17 =>
  if sK σ17 a0 = 3 then
  stp (wR σ17 a0 4 (sZ σ13)) fun σ21 =>
  stp (wR σ21 a0 0 p0) fun σ25 =>
  stp (wR σ25 a0 1 p1) fun σ29 =>
  some σ29
  else none
  else none
  else none
def mX2_pairOf_23 (x0 : Int32) (x1 : Int32) (y0 : Int32) (σ : Sto) : Int32 :=
  if y0 = 0 then (
    (-1 : Int32)
  ) else (
    ((x0 * (5 : Int32)) + x1)
  )
def mX2_pairOf_22 (x0 : Int32) (x1 : Int32) (σ : Sto) : Int32 :=
  mX2_pairOf_23 x0 x1 (0 : Int32) σ
def mX2_pairOf (p0 : Int32) (p1 : Int32) (σ : Sto) : Int32 :=
  if (mX11_isWithin p0 (0 : Int32) (4 : Int32) σ) = 0 then (
    mX2_pairOf_22 p0 p1 σ
  ) else (
    if (mX11_isWithin p1 (0 : Int32) (4 : Int32) σ) = 0 then (
      mX2_pairOf_22 p0 p1 σ
    ) else (
      mX2_pairOf_23 p0 p1 (1 : Int32) σ
    )
  )
def mX2_addOwed_2B (f2 : Int32 → Int32 → Sto → Option Sto) (x1 : Int32) (x2 : Int32) (σ : Sto) : Option Sto :=
  if (30 : Int32) ≤ x2 then (
    some σ
  ) else (
    if inb x2 30 then
    if (mX2_pairOf x1 (sI σ 61 (x2).toNatClampNeg) σ) = (-1 : Int32) then (
      f2 x1 (x2 + (1 : Int32)) σ
    ) else (
      if (sI σ 61 (x2).toNatClampNeg) = x1 then (
        f2 x1 (x2 + (1 : Int32)) σ
      ) else (
        if inb (mX2_pairOf x1 (sI σ 61 (x2).toNatClampNeg) σ) 25 then
        stp (wL σ 64 ((mX2_pairOf x1 (sI σ 61 (x2).toNatClampNeg) σ)).toNatClampNeg ((sL σ 64 ((mX2_pairOf x1 (sI σ 61 (x2).toNatClampNeg) σ)).toNatClampNeg) + ((sI σ 59 (x2).toNatClampNeg)).toInt64)) fun σ7 =>
        f2 x1 (x2 + (1 : Int32)) σ7
        else none
      )
    )
    else none
  )
def mX2_addOwed_2 : Nat → Int32 → Int32 → Sto → Option Sto
  | 0, _, _, _ => none
  | n + 1, x1, x2, σ => mX2_addOwed_2B (mX2_addOwed_2 n) x1 x2 σ
def mX2_addOwed (p0 : Int32) (σ : Sto) : Option Sto :=
  mX2_addOwed_2 FU p0 (0 : Int32) σ
def mX2_clear_34B (f34 : Int32 → Int32 → Int32 → Sto → Option Sto) (x1 : Int32) (x2 : Int32) (x3 : Int32) (σ : Sto) : Option Sto :=
  if (sI σ 33 11) ≤ x3 then (
    some σ
  ) else (
    (mX1_factAt x3 σ).bind fun v4 =>
    if sK σ v4 = 4 then
    (mX1_collectorIn (sI σ v4 10) σ).bind fun v6 =>
    if v6 = (-1 : Int32) then (
      f34 x1 x2 (x3 + (1 : Int32)) σ
    ) else (
      (mX3_isSaleOf v4 x1 σ).bind fun v8 =>
      if v8 = 0 then (
        f34 x1 x2 (x3 + (1 : Int32)) σ
      ) else (
        (mX9_isKnownOn3 v4 x2 σ).bind fun v10 =>
        if v10 = 0 then (
          f34 x1 x2 (x3 + (1 : Int32)) σ
        ) else (
          (mX0_settle v4 x3 σ).bind fun σ12 =>
          (mX2_addOwed v6 σ12).bind fun σ13 =>
          f34 x1 x2 (x3 + (1 : Int32)) σ13
        )
      )
    )
    else none
  )
def mX2_clear_34 : Nat → Int32 → Int32 → Int32 → Sto → Option Sto
  | 0, _, _, _, _ => none
  | n + 1, x1, x2, x3, σ => mX2_clear_34B (mX2_clear_34 n) x1 x2 x3 σ
def mX2_clear_2B (f2 : Int32 → Int32 → Int32 → Sto → Option Sto) (x1 : Int32) (x2 : Int32) (x3 : Int32) (σ : Sto) : Option Sto :=
  if (25 : Int32) ≤ x3 then (
    (mX0_open x2 σ).bind fun σ2 =>
    mX2_clear_34 FU x1 x2 (0 : Int32) σ2
  ) else (
    if inb x3 25 then
    stp (wL σ 64 (x3).toNatClampNeg (0 : Int64)) fun σ15 =>
    f2 x1 x2 (x3 + (1 : Int32)) σ15
    else none
  )
def mX2_clear_2 : Nat → Int32 → Int32 → Int32 → Sto → Option Sto
  | 0, _, _, _, _ => none
  | n + 1, x1, x2, x3, σ => mX2_clear_2B (mX2_clear_2 n) x1 x2 x3 σ
def mX2_clear (p0 : Int32) (p1 : Int32) (σ : Sto) : Option Sto :=
  mX2_clear_2 FU p0 p1 (0 : Int32) σ
def mX2_owed (p0 : Int32) (p1 : Int32) (σ : Sto) : Option Int64 :=
  if (mX2_pairOf p0 p1 σ) = (-1 : Int32) then (
    some (0 : Int64)
  ) else (
    if inb (mX2_pairOf p0 p1 σ) 25 then
    some (sL σ 64 ((mX2_pairOf p0 p1 σ)).toNatClampNeg)
    else none
  )
def mX2_netOf_5B (f5 : Int32 → Int64 → Int32 → Sto → Option Int64) (x1 : Int32) (x2 : Int64) (x4 : Int32) (σ : Sto) : Option Int64 :=
  if (5 : Int32) ≤ x4 then (
    some x2
  ) else (
    (mX2_owed x4 x1 σ).bind fun v2 =>
    (mX2_owed x1 x4 σ).bind fun v3 =>
    f5 x1 (x2 + (v2 - v3)) (x4 + (1 : Int32)) σ
  )
def mX2_netOf_5 : Nat → Int32 → Int64 → Int32 → Sto → Option Int64
  | 0, _, _, _, _ => none
  | n + 1, x1, x2, x4, σ => mX2_netOf_5B (mX2_netOf_5 n) x1 x2 x4 σ
def mX2_netOf (p0 : Int32) (σ : Sto) : Option Int64 :=
  mX2_netOf_5 FU p0 (0 : Int64) (0 : Int32) σ
def mX2_fewestPayments_27B (f2 : Int32 → Sto → Option (Int32 × Sto)) (f27 : Int32 → Int32 → Sto → Option (Int32 × Sto)) (x1 : Int32) (x2 : Int32) (σ : Sto) : Option (Int32 × Sto) :=
  if (5 : Int32) ≤ x2 then (
    if inb x1 32 then
    if (lg_cmp (sL σ 65 (x1).toNatClampNeg) (0 : Int64)) = 0 then (
      stp (wI σ 66 (x1).toNatClampNeg ((sI σ 66 (x1).toNatClampNeg) + (1 : Int32))) fun σ9 =>
      f2 (x1 + (1 : Int32)) σ9
    ) else (
      f2 (x1 + (1 : Int32)) σ
    )
    else none
  ) else (
    if ((x1 >>> (x2 &&& 31)) &&& (1 : Int32)) = (1 : Int32) then (
      if inb x1 32 then
      (mX2_netOf x2 σ).bind fun v12 =>
      stp (wL σ 65 (x1).toNatClampNeg ((sL σ 65 (x1).toNatClampNeg) + v12)) fun σ13 =>
      if inb (x1 &&& (((1 : Int32) <<< (x2 &&& 31)) ^^^ (-1 : Int32))) 32 then
      stp (wI σ13 66 (x1).toNatClampNeg (if (sI σ13 66 (x1).toNatClampNeg) < (sI σ13 66 ((x1 &&& (((1 : Int32) <<< (x2 &&& 31)) ^^^ (-1 : Int32)))).toNatClampNeg) then (sI σ13 66 ((x1 &&& (((1 : Int32) <<< (x2 &&& 31)) ^^^ (-1 : Int32)))).toNatClampNeg) else (sI σ13 66 (x1).toNatClampNeg))) fun σ15 =>
      f27 x1 (x2 + (1 : Int32)) σ15
      else none
      else none
    ) else (
      f27 x1 (x2 + (1 : Int32)) σ
    )
  )
def mX2_fewestPayments_27 (f2 : Int32 → Sto → Option (Int32 × Sto)) : Nat → Int32 → Int32 → Sto → Option (Int32 × Sto)
  | 0, _, _, _ => none
  | n + 1, x1, x2, σ => mX2_fewestPayments_27B f2 (mX2_fewestPayments_27 f2 n) x1 x2 σ
def mX2_fewestPayments_2B (f2 : Int32 → Sto → Option (Int32 × Sto)) (x1 : Int32) (σ : Sto) : Option (Int32 × Sto) :=
  if (32 : Int32) ≤ x1 then (
    if inb ((32 : Int32) - (1 : Int32)) 32 then
    some (((5 : Int32) - (sI σ 66 (((32 : Int32) - (1 : Int32))).toNatClampNeg)), σ)
    else none
  ) else (
    if inb x1 32 then
    stp (wL σ 65 (x1).toNatClampNeg (0 : Int64)) fun σ4 =>
    stp (wI σ4 66 (x1).toNatClampNeg (0 : Int32)) fun σ5 =>
    mX2_fewestPayments_27 f2 FU x1 (0 : Int32) σ5
    else none
  )
def mX2_fewestPayments_2 : Nat → Int32 → Sto → Option (Int32 × Sto)
  | 0, _, _ => none
  | n + 1, x1, σ => mX2_fewestPayments_2B (mX2_fewestPayments_2 n) x1 σ
def mX2_fewestPayments (σ : Sto) : Option (Int32 × Sto) :=
  mX2_fewestPayments_2 FU (1 : Int32) σ
section
variable {p : Program} {l : Launch} {e : Env} {s : State} {m : MethodId} {args : Array Value} {below : List Frame} {meth : Method} {c : Code} {E : Ev} {ad0 : Nat → Nat} {st : Bool}
set_option maxRecDepth 100000 in
set_option maxHeartbeats 4000000 in
theorem dX5_init {σ : Sto} {a0 : Nat} {p0 : Int32} {p1 : Int32} {r2 : Sto} (hk0 : sK σ a0 = 6) (h : mX5_init a0 p0 p1 σ = some r2) : MM l yX5_init cX5_init 3 none 2 0 0 E st σ [.ref a0, .int p0, .int p1] (QV E st σ r2) := by
  unfold mX5_init at h
  refine MM_of (by decide) (Nat.le_of_ble_eq_true rfl) rfl (fun p e s m args below meth c ad0 C hr hn => ?_)
  refine G_aload_n C 0 rfl rfl dX5_init_0 ?_
  refine G_objInit C lk_X5_1 oi_1 oi_2 (kd := 6) (by decide) (KO.dy hk0) (Nat.le_of_ble_eq_true rfl) (Nat.le_of_ble_eq_true rfl) dX5_init_1 ?_
  refine G_aload_n C 0 rfl rfl dX5_init_4 ?_
  refine G_iload_n C 1 rfl rfl dX5_init_5 ?_
  obtain ⟨σ1, hs1, h⟩ := stp_elim h
  refine G_putI C fl_X5_7_5 fp_X5_5_0 (Or.inr hn) (Or.inl rfl) (KO.dy hk0) dX5_init_6 ?_
  rw [← hs1]
  have hc2 : sK σ1 a0 = 6 := by rw [hs1]; exact hk0
  refine G_aload_n C 0 rfl rfl dX5_init_9 ?_
  refine G_iload_n C 2 rfl rfl dX5_init_10 ?_
  obtain ⟨σ3, hs3, h⟩ := stp_elim h
  refine G_putI C fl_X5_13_5 fp_X5_5_1 (Or.inr hn) (Or.inl rfl) (KO.dy hc2) dX5_init_11 ?_
  rw [← hs3]
  have hc4 : sK σ3 a0 = 6 := by rw [hs3]; exact hc2
  obtain rfl := Option.some.inj h
  exact G_vret C hr (Nat.le_of_ble_eq_true rfl) (Nat.le_of_ble_eq_true rfl) dX5_init_14
set_option maxRecDepth 100000 in
set_option maxHeartbeats 4000000 in
theorem dX6_init {σ : Sto} {a0 : Nat} {p0 : Int32} {p1 : Int32} {p2 : Int32} {r2 : Sto} (hk0 : sK σ a0 = 7) (h : mX6_init a0 p0 p1 p2 σ = some r2) : MM l yX6_init cX6_init 4 none 2 0 0 E st σ [.ref a0, .int p0, .int p1, .int p2] (QV E st σ r2) := by
  unfold mX6_init at h
  refine MM_of (by decide) (Nat.le_of_ble_eq_true rfl) rfl (fun p e s m args below meth c ad0 C hr hn => ?_)
  refine G_aload_n C 0 rfl rfl dX6_init_0 ?_
  refine G_objInit C lk_X6_1 oi_1 oi_2 (kd := 7) (by decide) (KO.dy hk0) (Nat.le_of_ble_eq_true rfl) (Nat.le_of_ble_eq_true rfl) dX6_init_1 ?_
  refine G_aload_n C 0 rfl rfl dX6_init_4 ?_
  refine G_iload_n C 1 rfl rfl dX6_init_5 ?_
  obtain ⟨σ1, hs1, h⟩ := stp_elim h
  refine G_putI C fl_X6_7_6 fp_X6_6_0 (Or.inr hn) (Or.inl rfl) (KO.dy hk0) dX6_init_6 ?_
  rw [← hs1]
  have hc2 : sK σ1 a0 = 7 := by rw [hs1]; exact hk0
  refine G_aload_n C 0 rfl rfl dX6_init_9 ?_
  refine G_iload_n C 2 rfl rfl dX6_init_10 ?_
  obtain ⟨σ3, hs3, h⟩ := stp_elim h
  refine G_putI C fl_X6_13_6 fp_X6_6_1 (Or.inr hn) (Or.inl rfl) (KO.dy hc2) dX6_init_11 ?_
  rw [← hs3]
  have hc4 : sK σ3 a0 = 7 := by rw [hs3]; exact hc2
  refine G_aload_n C 0 rfl rfl dX6_init_14 ?_
  refine G_iload_n C 3 rfl rfl dX6_init_15 ?_
  obtain ⟨σ5, hs5, h⟩ := stp_elim h
  refine G_putI C fl_X6_16_6 fp_X6_6_2 (Or.inr hn) (Or.inl rfl) (KO.dy hc4) dX6_init_16 ?_
  rw [← hs5]
  have hc6 : sK σ5 a0 = 7 := by rw [hs5]; exact hc4
  obtain rfl := Option.some.inj h
  exact G_vret C hr (Nat.le_of_ble_eq_true rfl) (Nat.le_of_ble_eq_true rfl) dX6_init_19
set_option maxRecDepth 100000 in
set_option maxHeartbeats 4000000 in
theorem dX8_init {σ : Sto} {a0 : Nat} {p0 : Int32} {p1 : Int32} {r2 : Sto} (hk0 : sK σ a0 = 9) (h : mX8_init a0 p0 p1 σ = some r2) : MM l yX8_init cX8_init 3 none 2 0 0 E st σ [.ref a0, .int p0, .int p1] (QV E st σ r2) := by
  unfold mX8_init at h
  refine MM_of (by decide) (Nat.le_of_ble_eq_true rfl) rfl (fun p e s m args below meth c ad0 C hr hn => ?_)
  refine G_aload_n C 0 rfl rfl dX8_init_0 ?_
  refine G_objInit C lk_X8_1 oi_1 oi_2 (kd := 9) (by decide) (KO.dy hk0) (Nat.le_of_ble_eq_true rfl) (Nat.le_of_ble_eq_true rfl) dX8_init_1 ?_
  refine G_aload_n C 0 rfl rfl dX8_init_4 ?_
  refine G_iload_n C 1 rfl rfl dX8_init_5 ?_
  obtain ⟨σ1, hs1, h⟩ := stp_elim h
  refine G_putI C fl_X8_7_8 fp_X8_8_0 (Or.inr hn) (Or.inl rfl) (KO.dy hk0) dX8_init_6 ?_
  rw [← hs1]
  have hc2 : sK σ1 a0 = 9 := by rw [hs1]; exact hk0
  refine G_aload_n C 0 rfl rfl dX8_init_9 ?_
  refine G_iload_n C 2 rfl rfl dX8_init_10 ?_
  obtain ⟨σ3, hs3, h⟩ := stp_elim h
  refine G_putI C fl_X8_13_8 fp_X8_8_1 (Or.inr hn) (Or.inl rfl) (KO.dy hc2) dX8_init_11 ?_
  rw [← hs3]
  have hc4 : sK σ3 a0 = 9 := by rw [hs3]; exact hc2
  obtain rfl := Option.some.inj h
  exact G_vret C hr (Nat.le_of_ble_eq_true rfl) (Nat.le_of_ble_eq_true rfl) dX8_init_14
set_option maxRecDepth 100000 in
set_option maxHeartbeats 4000000 in
theorem dX10_init {σ : Sto} {a0 : Nat} {p0 : Int32} {p1 : Int32} {p2 : Int32} {p3 : Int32} {r2 : Sto} (hk0 : sK σ a0 = 10) (h : mX10_init a0 p0 p1 p2 p3 σ = some r2) : MM l yX10_init cX10_init 5 none 2 2 6 E st σ [.ref a0, .int p0, .int p1, .int p2, .int p3] (QV E st σ r2) := by
  unfold mX10_init at h
  refine MM_of (by decide) (Nat.le_of_ble_eq_true rfl) rfl (fun p e s m args below meth c ad0 C hr hn => ?_)
  refine G_aload_n C 0 rfl rfl dX10_init_0 ?_
  refine G_objInit C lk_X10_3 oi_1 oi_2 (kd := 10) (by decide) (KO.dy hk0) (Nat.le_of_ble_eq_true rfl) (Nat.le_of_ble_eq_true rfl) dX10_init_1 ?_
  refine G_aload_n C 0 rfl rfl dX10_init_4 ?_
  refine G_iconst C (v := 3) rfl dX10_init_5 ?_
  obtain ⟨σ1, hs1, h⟩ := stp_elim h
  refine G_newI (N := 3) C na_I (by decide) rfl (Nat.le_of_ble_eq_true rfl) (Nat.le_of_ble_eq_true rfl) (Nat.le_of_ble_eq_true rfl) dX10_init_6 ?_
  rw [← hs1]
  have hc2 : sK σ1 (sZ σ) = 100 := by rw [hs1]; exact (nwK_K _ _ _ _).trans (if_pos rfl)
  have hc3 : sN σ1 (sZ σ) = 3 := by rw [hs1]; exact (nwK_N _ _ _ _).trans (if_pos rfl)
  obtain ⟨hc4, h⟩ := ifn h
  obtain ⟨σ5, hs5, h⟩ := stp_elim h
  refine G_putR C fl_X10_9_9 fp_X10_9_4 (Or.inr hn) rfl (fun _ => rfl) (KO.dy hc4) dX10_init_8 ?_
  rw [← hs5]
  have hc6 : sK σ5 (sZ σ) = 100 := by rw [hs5]; exact hc2
  have hc7 : sN σ5 (sZ σ) = 3 := by rw [hs5]; exact hc3
  have hc8 : sK σ5 a0 = 10 := by rw [hs5]; exact hc4
  refine G_aload_n C 0 rfl rfl dX10_init_11 ?_
  refine G_iconst C (v := 3) rfl dX10_init_12 ?_
  obtain ⟨σ9, hs9, h⟩ := stp_elim h
  refine G_newI (N := 3) C na_I (by decide) rfl (Nat.le_of_ble_eq_true rfl) (Nat.le_of_ble_eq_true rfl) (Nat.le_of_ble_eq_true rfl) dX10_init_13 ?_
  rw [← hs9]
  have hc10 : sK σ9 (sZ σ5) = 100 := by rw [hs9]; exact (nwK_K _ _ _ _).trans (if_pos rfl)
  have hc11 : sN σ9 (sZ σ5) = 3 := by rw [hs9]; exact (nwK_N _ _ _ _).trans (if_pos rfl)
  obtain ⟨hc12, h⟩ := ifn h
  obtain ⟨σ13, hs13, h⟩ := stp_elim h
  refine G_putR C fl_X10_15_9 fp_X10_9_5 (Or.inr hn) rfl (fun _ => rfl) (KO.dy hc12) dX10_init_15 ?_
  rw [← hs13]
  have hc14 : sK σ13 (sZ σ5) = 100 := by rw [hs13]; exact hc10
  have hc15 : sN σ13 (sZ σ5) = 3 := by rw [hs13]; exact hc11
  have hc16 : sK σ13 a0 = 10 := by rw [hs13]; exact hc12
  refine G_aload_n C 0 rfl rfl dX10_init_18 ?_
  refine G_iconst C (v := 0) rfl dX10_init_19 ?_
  obtain ⟨σ17, hs17, h⟩ := stp_elim h
  refine G_putI C fl_X10_18_9 fp_X10_9_6 (Or.inl rfl) (Or.inl rfl) (KO.dy hc16) dX10_init_20 ?_
  rw [← hs17]
  have hc18 : sK σ17 (sZ σ5) = 100 := by rw [hs17]; exact hc14
  have hc19 : sN σ17 (sZ σ5) = 3 := by rw [hs17]; exact hc15
  have hc20 : sK σ17 a0 = 10 := by rw [hs17]; exact hc16
  refine G_aload_n C 0 rfl rfl dX10_init_23 ?_
  refine G_iconst C (v := 0) rfl dX10_init_24 ?_
  obtain ⟨σ21, hs21, h⟩ := stp_elim h
  refine G_putI C fl_X10_22_9 fp_X10_9_7 (Or.inl rfl) (Or.inl rfl) (KO.dy hc20) dX10_init_25 ?_
  rw [← hs21]
  have hc22 : sK σ21 (sZ σ5) = 100 := by rw [hs21]; exact hc18
  have hc23 : sN σ21 (sZ σ5) = 3 := by rw [hs21]; exact hc19
  have hc24 : sK σ21 a0 = 10 := by rw [hs21]; exact hc20
  refine G_aload_n C 0 rfl rfl dX10_init_28 ?_
  refine G_iload_n C 1 rfl rfl dX10_init_29 ?_
  obtain ⟨σ25, hs25, h⟩ := stp_elim h
  refine G_putI C fl_X10_25_9 fp_X10_9_0 (Or.inr hn) (Or.inl rfl) (KO.dy hc24) dX10_init_30 ?_
  rw [← hs25]
  have hc26 : sK σ25 (sZ σ5) = 100 := by rw [hs25]; exact hc22
  have hc27 : sN σ25 (sZ σ5) = 3 := by rw [hs25]; exact hc23
  have hc28 : sK σ25 a0 = 10 := by rw [hs25]; exact hc24
  refine G_aload_n C 0 rfl rfl dX10_init_33 ?_
  refine G_iload_n C 2 rfl rfl dX10_init_34 ?_
  obtain ⟨σ29, hs29, h⟩ := stp_elim h
  refine G_putI C fl_X10_28_9 fp_X10_9_1 (Or.inr hn) (Or.inl rfl) (KO.dy hc28) dX10_init_35 ?_
  rw [← hs29]
  have hc30 : sK σ29 (sZ σ5) = 100 := by rw [hs29]; exact hc26
  have hc31 : sN σ29 (sZ σ5) = 3 := by rw [hs29]; exact hc27
  have hc32 : sK σ29 a0 = 10 := by rw [hs29]; exact hc28
  refine G_aload_n C 0 rfl rfl dX10_init_38 ?_
  refine G_iload_n C 3 rfl rfl dX10_init_39 ?_
  obtain ⟨σ33, hs33, h⟩ := stp_elim h
  refine G_putI C fl_X10_31_9 fp_X10_9_2 (Or.inr hn) (Or.inl rfl) (KO.dy hc32) dX10_init_40 ?_
  rw [← hs33]
  have hc34 : sK σ33 (sZ σ5) = 100 := by rw [hs33]; exact hc30
  have hc35 : sN σ33 (sZ σ5) = 3 := by rw [hs33]; exact hc31
  have hc36 : sK σ33 a0 = 10 := by rw [hs33]; exact hc32
  refine G_aload_n C 0 rfl rfl dX10_init_43 ?_
  refine G_iload C 4 rfl dX10_init_44 ?_
  obtain ⟨σ37, hs37, h⟩ := stp_elim h
  refine G_putI C fl_X10_34_9 fp_X10_9_3 (Or.inr hn) (Or.inl rfl) (KO.dy hc36) dX10_init_46 ?_
  rw [← hs37]
  have hc38 : sK σ37 (sZ σ5) = 100 := by rw [hs37]; exact hc34
  have hc39 : sN σ37 (sZ σ5) = 3 := by rw [hs37]; exact hc35
  have hc40 : sK σ37 a0 = 10 := by rw [hs37]; exact hc36
  obtain rfl := Option.some.inj h
  exact G_vret C hr (Nat.le_of_ble_eq_true rfl) (Nat.le_of_ble_eq_true rfl) dX10_init_49
set_option maxRecDepth 100000 in
set_option maxHeartbeats 4000000 in
theorem dX10_addArtist {σ : Sto} {a0 : Nat} {p0 : Int32} {p1 : Int32} {r2 : Sto} (hk0 : sK σ a0 = 10) (h : mX10_addArtist a0 p0 p1 σ = some r2) : MM l yX10_addArtist cX10_addArtist 3 none 1 0 0 E st σ [.ref a0, .int p0, .int p1] (QV E st σ r2) := by
  unfold mX10_addArtist at h
  refine MM_of (by decide) (Nat.le_of_ble_eq_true rfl) rfl (fun p e s m args below meth c ad0 C hr hn => ?_)
  refine G_aload_n C 0 rfl rfl dX10_addArtist_0 ?_
  refine G_getI C fl_X10_18_9 (Or.inl rfl) (KO.dy hk0) dX10_addArtist_1 ?_
  refine G_aload_n C 0 rfl rfl dX10_addArtist_4 ?_
  refine G_getR C fl_X10_9_9 rfl (KO.dy hk0) dX10_addArtist_5 ?_
  obtain ⟨hc1, h⟩ := ifn h
  refine G_alen (t := 0) (v := (Int32.ofNat (sN σ (sR σ a0 4)))) C (by decide) (KD.nz hc1 rfl) rfl dX10_addArtist_8 ?_
  refine G_icmp_ge (tgt := 52) C rfl dX10_addArtist_9 (fun hc2 => ?_) (fun hc2 => ?_)
  · replace h := (if_pos hc2).symm.trans h
    obtain rfl := Option.some.inj h
    exact G_vret C hr (Nat.le_of_ble_eq_true rfl) (Nat.le_of_ble_eq_true rfl) dX10_addArtist_52
  · replace h := (if_neg hc2).symm.trans h
    refine G_aload_n C 0 rfl rfl dX10_addArtist_12 ?_
    refine G_getR C fl_X10_9_9 rfl (KO.dy hk0) dX10_addArtist_13 ?_
    refine G_aload_n C 0 rfl rfl dX10_addArtist_16 ?_
    refine G_getI C fl_X10_18_9 (Or.inl rfl) (KO.dy hk0) dX10_addArtist_17 ?_
    refine G_iload_n C 1 rfl rfl dX10_addArtist_20 ?_
    obtain ⟨hc3, h⟩ := ifn h
    obtain ⟨σ4, hs4, h⟩ := stp_elim h
    refine G_iastore C (KD.nz hc1 rfl) hc3 dX10_addArtist_21 ?_
    rw [← hs4]
    have hc5 : sK σ4 a0 = 10 := by rw [hs4]; exact hk0
    have hc6 : sK σ4 (sR σ a0 4) = 100 := by rw [hs4]; exact hc1
    have hc7 : sN σ4 (sR σ a0 4) = (sN σ (sR σ a0 4)) := by rw [hs4]; exact rfl
    refine G_aload_n C 0 rfl rfl dX10_addArtist_22 ?_
    refine G_getR C fl_X10_15_9 rfl (KO.dy hc5) dX10_addArtist_23 ?_
    refine G_aload_n C 0 rfl rfl dX10_addArtist_26 ?_
    refine G_getI C fl_X10_18_9 (Or.inl rfl) (KO.dy hc5) dX10_addArtist_27 ?_
    refine G_iload_n C 2 rfl rfl dX10_addArtist_30 ?_
    obtain ⟨hc8, h⟩ := ifn h
    obtain ⟨hc9, h⟩ := ifn h
    obtain ⟨σ10, hs10, h⟩ := stp_elim h
    refine G_iastore C (KD.nz hc8 rfl) hc9 dX10_addArtist_31 ?_
    rw [← hs10]
    have hc11 : sK σ10 a0 = 10 := by rw [hs10]; exact hc5
    have hc12 : sK σ10 (sR σ a0 4) = 100 := by rw [hs10]; exact hc6
    have hc13 : sN σ10 (sR σ a0 4) = (sN σ (sR σ a0 4)) := by rw [hs10]; exact hc7
    have hc14 : sK σ10 (sR σ4 a0 5) = 100 := by rw [hs10]; exact hc8
    have hc15 : sN σ10 (sR σ4 a0 5) = (sN σ4 (sR σ4 a0 5)) := by rw [hs10]; exact rfl
    refine G_aload_n C 0 rfl rfl dX10_addArtist_32 ?_
    refine G_dup C rfl dX10_addArtist_33 ?_
    refine G_getI C fl_X10_18_9 (Or.inl rfl) (KO.dy hc11) dX10_addArtist_34 ?_
    refine G_iconst C (v := 1) rfl dX10_addArtist_37 ?_
    refine G_iadd C dX10_addArtist_38 ?_
    obtain ⟨σ16, hs16, h⟩ := stp_elim h
    refine G_putI C fl_X10_18_9 fp_X10_9_6 (Or.inl rfl) (Or.inl rfl) (KO.dy hc11) dX10_addArtist_39 ?_
    rw [← hs16]
    have hc17 : sK σ16 a0 = 10 := by rw [hs16]; exact hc11
    have hc18 : sK σ16 (sR σ a0 4) = 100 := by rw [hs16]; exact hc12
    have hc19 : sN σ16 (sR σ a0 4) = (sN σ (sR σ a0 4)) := by rw [hs16]; exact hc13
    have hc20 : sK σ16 (sR σ4 a0 5) = 100 := by rw [hs16]; exact hc14
    have hc21 : sN σ16 (sR σ4 a0 5) = (sN σ4 (sR σ4 a0 5)) := by rw [hs16]; exact hc15
    refine G_aload_n C 0 rfl rfl dX10_addArtist_42 ?_
    refine G_dup C rfl dX10_addArtist_43 ?_
    refine G_getI C fl_X10_22_9 (Or.inl rfl) (KO.dy hc17) dX10_addArtist_44 ?_
    refine G_iload_n C 2 rfl rfl dX10_addArtist_47 ?_
    refine G_iadd C dX10_addArtist_48 ?_
    obtain ⟨σ22, hs22, h⟩ := stp_elim h
    refine G_putI C fl_X10_22_9 fp_X10_9_7 (Or.inl rfl) (Or.inl rfl) (KO.dy hc17) dX10_addArtist_49 ?_
    rw [← hs22]
    have hc23 : sK σ22 a0 = 10 := by rw [hs22]; exact hc17
    have hc24 : sK σ22 (sR σ a0 4) = 100 := by rw [hs22]; exact hc18
    have hc25 : sN σ22 (sR σ a0 4) = (sN σ (sR σ a0 4)) := by rw [hs22]; exact hc19
    have hc26 : sK σ22 (sR σ4 a0 5) = 100 := by rw [hs22]; exact hc20
    have hc27 : sN σ22 (sR σ4 a0 5) = (sN σ4 (sR σ4 a0 5)) := by rw [hs22]; exact hc21
    obtain rfl := Option.some.inj h
    exact G_vret C hr (Nat.le_of_ble_eq_true rfl) (Nat.le_of_ble_eq_true rfl) dX10_addArtist_52
set_option maxRecDepth 100000 in
set_option maxHeartbeats 4000000 in
theorem eX10_weightOf_2B (C : Cx E p s m args meth c cX10_weightOf 3 RX10) (hr : meth.sig.returnType = (some .int)) {r : Int32} {σ : Sto} {f2 : Nat → Int32 → Int32 → Sto → Option Int32} {x0 : Nat} {x1 : Int32} {x2 : Int32} (hf2 : ∀ (x0 : Nat) (x1 : Int32) (x2 : Int32), f2 x0 x1 x2 σ = some r → G p l e (rmd 1 0 0) s m args below meth c E st (sZ σ) ad0 (MQ below (QI E st σ r σ ad0) args s 0 0 (AE E)) 3 0 0 σ 2 [(0, .ref x0), (1, .int x1), (2, .int x2)] []) (h : mX10_weightOf_2B f2 x0 x1 x2 σ = some r) : G p l e (rmd 1 0 0) s m args below meth c E st (sZ σ) ad0 (MQ below (QI E st σ r σ ad0) args s 0 0 (AE E)) 3 0 0 σ 2 [(0, .ref x0), (1, .int x1), (2, .int x2)] [] := by
  unfold mX10_weightOf_2B at h
  refine G_iload_n C 2 rfl rfl dX10_weightOf_2 ?_
  refine G_aload_n C 0 rfl rfl dX10_weightOf_3 ?_
  obtain ⟨hc1, h⟩ := ifn h
  refine G_getI C fl_X10_18_9 (Or.inl rfl) (KO.dy hc1) dX10_weightOf_4 ?_
  refine G_icmp_ge (tgt := 42) C rfl dX10_weightOf_7 (fun hc2 => ?_) (fun hc2 => ?_)
  · replace h := (if_pos hc2).symm.trans h
    refine G_iconst C (v := 0) rfl dX10_weightOf_42 ?_
    obtain rfl := Option.some.inj h
    exact G_iret C hr (Nat.le_of_ble_eq_true rfl) (Nat.le_of_ble_eq_true rfl) dX10_weightOf_43
  · replace h := (if_neg hc2).symm.trans h
    refine G_iload_n C 2 rfl rfl dX10_weightOf_10 ?_
    refine G_aload_n C 0 rfl rfl dX10_weightOf_11 ?_
    refine G_getR C fl_X10_9_9 rfl (KO.dy hc1) dX10_weightOf_12 ?_
    obtain ⟨hc3, h⟩ := ifn h
    refine G_alen (t := 0) (v := (Int32.ofNat (sN σ (sR σ x0 4)))) C (by decide) (KD.nz hc3 rfl) rfl dX10_weightOf_15 ?_
    refine G_icmp_ge (tgt := 42) C rfl dX10_weightOf_16 (fun hc4 => ?_) (fun hc4 => ?_)
    · replace h := (if_pos hc4).symm.trans h
      refine G_iconst C (v := 0) rfl dX10_weightOf_42 ?_
      obtain rfl := Option.some.inj h
      exact G_iret C hr (Nat.le_of_ble_eq_true rfl) (Nat.le_of_ble_eq_true rfl) dX10_weightOf_43
    · replace h := (if_neg hc4).symm.trans h
      refine G_aload_n C 0 rfl rfl dX10_weightOf_19 ?_
      refine G_getR C fl_X10_9_9 rfl (KO.dy hc1) dX10_weightOf_20 ?_
      refine G_iload_n C 2 rfl rfl dX10_weightOf_23 ?_
      obtain ⟨hc5, h⟩ := ifn h
      refine G_iaload C (KD.nz hc3 rfl) hc5 dX10_weightOf_24 ?_
      refine G_iload_n C 1 rfl rfl dX10_weightOf_25 ?_
      refine G_icmp_ne (tgt := 36) C rfl dX10_weightOf_26 (fun hc6 => ?_) (fun hc6 => ?_)
      · replace h := (if_neg hc6).symm.trans h
        refine G_iinc (v := 1) (L' := [(2, .int (x2 + (1 : Int32))), (0, .ref x0), (1, .int x1)]) C 2 rfl rfl (Nat.le_of_ble_eq_true rfl) rfl dX10_weightOf_36 ?_
        refine G_goto (tgt := 2) C rfl dX10_weightOf_39 ?_
        refine G_sub [1, 2, 0] rfl ?_
        exact hf2 _ _ _ h
      · replace h := (if_pos hc6).symm.trans h
        refine G_aload_n C 0 rfl rfl dX10_weightOf_29 ?_
        refine G_getR C fl_X10_15_9 rfl (KO.dy hc1) dX10_weightOf_30 ?_
        refine G_iload_n C 2 rfl rfl dX10_weightOf_33 ?_
        obtain ⟨hc7, h⟩ := ifn h
        obtain ⟨hc8, h⟩ := ifn h
        refine G_iaload C (KD.nz hc7 rfl) hc8 dX10_weightOf_34 ?_
        obtain rfl := Option.some.inj h
        exact G_iret C hr (Nat.le_of_ble_eq_true rfl) (Nat.le_of_ble_eq_true rfl) dX10_weightOf_35
set_option maxRecDepth 100000 in
set_option maxHeartbeats 4000000 in
theorem eX10_weightOf_2 (C : Cx E p s m args meth c cX10_weightOf 3 RX10) (hr : meth.sig.returnType = (some .int)) {r : Int32} {σ : Sto} {n : Nat} {x0 : Nat} {x1 : Int32} {x2 : Int32} (h : mX10_weightOf_2 n x0 x1 x2 σ = some r) : G p l e (rmd 1 0 0) s m args below meth c E st (sZ σ) ad0 (MQ below (QI E st σ r σ ad0) args s 0 0 (AE E)) 3 0 0 σ 2 [(0, .ref x0), (1, .int x1), (2, .int x2)] [] := by
  induction n generalizing x0 x1 x2 with
  | zero => exact nomatch (show (none : Option Int32) = some r from h)
  | succ n ih => exact eX10_weightOf_2B C hr (fun z0 z1 z2 h9 => ih h9) h
set_option maxRecDepth 100000 in
set_option maxHeartbeats 4000000 in
theorem dX10_weightOf {σ : Sto} {a0 : Nat} {p0 : Int32} {r : Int32} (hk0 : sK σ a0 = 10) (h : mX10_weightOf a0 p0 σ = some r) : MM l yX10_weightOf cX10_weightOf 3 (some .int) 1 0 0 E st σ [.ref a0, .int p0] (QI E st σ r σ) := by
  unfold mX10_weightOf at h
  refine MM_of (by decide) (Nat.le_of_ble_eq_true rfl) rfl (fun p e s m args below meth c ad0 C hr hn => ?_)
  refine G_iconst C (v := 0) rfl dX10_weightOf_0 ?_
  refine G_istore_n (L' := [(2, .int (0 : Int32)), (0, .ref a0), (1, .int p0)]) C rfl (Nat.le_of_ble_eq_true rfl) rfl dX10_weightOf_1 ?_
  refine G_sub [1, 2, 0] rfl ?_
  exact eX10_weightOf_2 C hr h
set_option maxRecDepth 100000 in
set_option maxHeartbeats 4000000 in
theorem dX10_isBy {σ : Sto} {a0 : Nat} {p0 : Int32} {r : Int32} (hk0 : sK σ a0 = 10) (h : mX10_isBy a0 p0 σ = some r) : MM l yX10_isBy cX10_isBy 2 (some .boolean) 2 0 0 E st σ [.ref a0, .int p0] (QI E st σ r σ) := by
  unfold mX10_isBy at h
  refine MM_of (by decide) (Nat.le_of_ble_eq_true rfl) rfl (fun p e s m args below meth c ad0 C hr hn => ?_)
  refine G_aload_n C 0 rfl rfl dX10_isBy_0 ?_
  refine G_iload_n C 1 rfl rfl dX10_isBy_1 ?_
  obtain ⟨v1, hv1, h⟩ := bnd h
  refine G_callI (run_V C [.int p0] [] (dX10_weightOf hk0 hv1) ml_X10_weightOf mv_X10_weightOf lk_X10_37 ⟨(Nat.le_of_ble_eq_true rfl), (Nat.le_of_ble_eq_true rfl)⟩ ⟨(Nat.le_of_ble_eq_true rfl), (Nat.le_of_ble_eq_true rfl)⟩ vq_9 rfl (KO.dy hk0) rfl (Nat.le_of_ble_eq_true rfl) dX10_isBy_2) ?_
  refine G_if_eq (tgt := 12) C rfl dX10_isBy_5 (fun hc2 => ?_) (fun hc2 => ?_)
  · replace h := (if_pos hc2).symm.trans h
    refine G_iconst C (v := 0) rfl dX10_isBy_12 ?_
    obtain rfl := Option.some.inj h
    exact G_zret C (by decide) hr (Nat.le_of_ble_eq_true rfl) (Nat.le_of_ble_eq_true rfl) dX10_isBy_13
  · replace h := (if_neg hc2).symm.trans h
    refine G_iconst C (v := 1) rfl dX10_isBy_8 ?_
    refine G_goto (tgt := 13) C rfl dX10_isBy_9 ?_
    obtain rfl := Option.some.inj h
    exact G_zret C (by decide) hr (Nat.le_of_ble_eq_true rfl) (Nat.le_of_ble_eq_true rfl) dX10_isBy_13
set_option maxRecDepth 100000 in
set_option maxHeartbeats 4000000 in
theorem dX10_mayBe {σ : Sto} {a0 : Nat} {p0 : Int32} {p1 : Int32} {p2 : Int32} {p3 : Int32} {r : Int32} (hk0 : sK σ a0 = 10) (h : mX10_mayBe a0 p0 p1 p2 p3 σ = some r) : MM l yX10_mayBe cX10_mayBe 5 (some .boolean) 2 0 0 E st σ [.ref a0, .int p0, .int p1, .int p2, .int p3] (QI E st σ r σ) := by
  unfold mX10_mayBe at h
  refine MM_of (by decide) (Nat.le_of_ble_eq_true rfl) rfl (fun p e s m args below meth c ad0 C hr hn => ?_)
  refine G_iload_n C 1 rfl rfl dX10_mayBe_0 ?_
  refine G_aload_n C 0 rfl rfl dX10_mayBe_1 ?_
  refine G_getI C fl_X10_28_9 (Or.inl rfl) (KO.dy hk0) dX10_mayBe_2 ?_
  refine G_iconst C (v := -1) rfl dX10_mayBe_5 ?_
  refine G_ixor C dX10_mayBe_6 ?_
  refine G_iand C dX10_mayBe_7 ?_
  refine G_if_ne (tgt := 51) C rfl dX10_mayBe_8 (fun hc1 => ?_) (fun hc1 => ?_)
  · replace h := (if_neg hc1).symm.trans h
    refine G_iconst C (v := 0) rfl dX10_mayBe_51 ?_
    obtain rfl := Option.some.inj h
    exact G_zret C (by decide) hr (Nat.le_of_ble_eq_true rfl) (Nat.le_of_ble_eq_true rfl) dX10_mayBe_52
  · replace h := (if_pos hc1).symm.trans h
    refine G_iload_n C 2 rfl rfl dX10_mayBe_11 ?_
    refine G_i2l C dX10_mayBe_12 ?_
    refine G_aload_n C 0 rfl rfl dX10_mayBe_13 ?_
    refine G_getI C fl_X10_31_9 (Or.inl rfl) (KO.dy hk0) dX10_mayBe_14 ?_
    refine G_i2l C dX10_mayBe_17 ?_
    refine G_lsub C dX10_mayBe_18 ?_
    refine G_labs C lk_X10_41 mj_abs_l.1 mj_ini mj_abs_l.2 (Nat.le_of_ble_eq_true rfl) (Nat.le_of_ble_eq_true rfl) (Nat.le_of_ble_eq_true rfl) (Nat.le_of_ble_eq_true rfl) dX10_mayBe_19 ?_
    refine G_iload C 4 rfl dX10_mayBe_22 ?_
    refine G_i2l C dX10_mayBe_24 ?_
    refine G_lcmp C dX10_mayBe_25 ?_
    refine G_if_gt (tgt := 51) C rfl dX10_mayBe_26 (fun hc2 => ?_) (fun hc2 => ?_)
    · replace h := (if_pos hc2).symm.trans h
      refine G_iconst C (v := 0) rfl dX10_mayBe_51 ?_
      obtain rfl := Option.some.inj h
      exact G_zret C (by decide) hr (Nat.le_of_ble_eq_true rfl) (Nat.le_of_ble_eq_true rfl) dX10_mayBe_52
    · replace h := (if_neg hc2).symm.trans h
      refine G_iload_n C 3 rfl rfl dX10_mayBe_29 ?_
      refine G_i2l C dX10_mayBe_30 ?_
      refine G_aload_n C 0 rfl rfl dX10_mayBe_31 ?_
      refine G_getI C fl_X10_34_9 (Or.inl rfl) (KO.dy hk0) dX10_mayBe_32 ?_
      refine G_i2l C dX10_mayBe_35 ?_
      refine G_lsub C dX10_mayBe_36 ?_
      refine G_labs C lk_X10_41 mj_abs_l.1 mj_ini mj_abs_l.2 (Nat.le_of_ble_eq_true rfl) (Nat.le_of_ble_eq_true rfl) (Nat.le_of_ble_eq_true rfl) (Nat.le_of_ble_eq_true rfl) dX10_mayBe_37 ?_
      refine G_iload C 4 rfl dX10_mayBe_40 ?_
      refine G_i2l C dX10_mayBe_42 ?_
      refine G_lcmp C dX10_mayBe_43 ?_
      refine G_if_gt (tgt := 51) C rfl dX10_mayBe_44 (fun hc3 => ?_) (fun hc3 => ?_)
      · replace h := (if_pos hc3).symm.trans h
        refine G_iconst C (v := 0) rfl dX10_mayBe_51 ?_
        obtain rfl := Option.some.inj h
        exact G_zret C (by decide) hr (Nat.le_of_ble_eq_true rfl) (Nat.le_of_ble_eq_true rfl) dX10_mayBe_52
      · replace h := (if_neg hc3).symm.trans h
        refine G_iconst C (v := 1) rfl dX10_mayBe_47 ?_
        refine G_goto (tgt := 52) C rfl dX10_mayBe_48 ?_
        obtain rfl := Option.some.inj h
        exact G_zret C (by decide) hr (Nat.le_of_ble_eq_true rfl) (Nat.le_of_ble_eq_true rfl) dX10_mayBe_52
set_option maxRecDepth 100000 in
set_option maxHeartbeats 4000000 in
theorem dX9_init3 {σ : Sto} {a0 : Nat} {r2 : Sto} (hk0 : sK σ a0 = 4) (h : mX9_init3 a0 σ = some r2) : MM l yX9_init cX9_init 1 none 2 0 0 E st σ [.ref a0] (QV E st σ r2) := by
  unfold mX9_init3 at h
  refine MM_of (by decide) (Nat.le_of_ble_eq_true rfl) rfl (fun p e s m args below meth c ad0 C hr hn => ?_)
  refine G_aload_n C 0 rfl rfl dX9_init_0 ?_
  refine G_objInit C lk_X9_3 oi_1 oi_2 (kd := 4) (by decide) (KO.dy hk0) (Nat.le_of_ble_eq_true rfl) (Nat.le_of_ble_eq_true rfl) dX9_init_1 ?_
  refine G_aload_n C 0 rfl rfl dX9_init_4 ?_
  refine G_ldc C kc_X9_9 dX9_init_5 ?_
  obtain ⟨σ1, hs1, h⟩ := stp_elim h
  refine G_putI C fl_X9_10_3 fp_X9_3_0 (Or.inl rfl) (Or.inl rfl) (KO.dy hk0) dX9_init_7 ?_
  rw [← hs1]
  have hc2 : sK σ1 a0 = 4 := by rw [hs1]; exact hk0
  refine G_aload_n C 0 rfl rfl dX9_init_10 ?_
  refine G_ldc C kc_X9_9 dX9_init_11 ?_
  obtain ⟨σ3, hs3, h⟩ := stp_elim h
  refine G_putI C fl_X9_16_3 fp_X9_3_1 (Or.inl rfl) (Or.inl rfl) (KO.dy hc2) dX9_init_13 ?_
  rw [← hs3]
  have hc4 : sK σ3 a0 = 4 := by rw [hs3]; exact hc2
  obtain rfl := Option.some.inj h
  exact G_vret C hr (Nat.le_of_ble_eq_true rfl) (Nat.le_of_ble_eq_true rfl) dX9_init_16
set_option maxRecDepth 100000 in
set_option maxHeartbeats 4000000 in
theorem dX3_init {σ : Sto} {a0 : Nat} {p0 : Int32} {p1 : Int32} {p2 : Int32} {p3 : Int32} {p4 : Int32} {p5 : Int32} {r2 : Sto} (hk0 : sK σ a0 = 4) (h : mX3_init a0 p0 p1 p2 p3 p4 p5 σ = some r2) : MM l yX3_init cX3_init 7 none 3 0 0 E st σ [.ref a0, .int p0, .int p1, .int p2, .int p3, .int p4, .int p5] (QV E st σ r2) := by
  unfold mX3_init at h
  refine MM_of (by decide) (Nat.le_of_ble_eq_true rfl) rfl (fun p e s m args below meth c ad0 C hr hn => ?_)
  refine G_aload_n C 0 rfl rfl dX3_init_0 ?_
  obtain ⟨σ1, hv1, h⟩ := bnd h
  refine G_callV (run_IN (kd := 4) C [] [] (dX9_init3 hk0 hv1) ml_X9_init mi_X9_init (by decide) ⟨(Nat.le_of_ble_eq_true rfl), (Nat.le_of_ble_eq_true rfl)⟩ ⟨(Nat.le_of_ble_eq_true rfl), (Nat.le_of_ble_eq_true rfl)⟩ (by decide) (KO.dy hk0) rfl (Nat.le_of_ble_eq_true rfl) dX3_init_1) ?_
  refine G_aload_n C 0 rfl rfl dX3_init_4 ?_
  refine G_iconst C (v := -1) rfl dX3_init_5 ?_
  obtain ⟨hc2, h⟩ := ifn h
  obtain ⟨σ3, hs3, h⟩ := stp_elim h
  refine G_putI C fl_X3_9_3 fp_X3_3_7 (Or.inl rfl) (Or.inl rfl) (KO.dy hc2) dX3_init_6 ?_
  rw [← hs3]
  have hc4 : sK σ3 a0 = 4 := by rw [hs3]; exact hc2
  refine G_aload_n C 0 rfl rfl dX3_init_9 ?_
  refine G_iconst C (v := 0) rfl dX3_init_10 ?_
  obtain ⟨σ5, hs5, h⟩ := stp_elim h
  refine G_putI C fl_X3_15_3 fp_X3_3_8 (Or.inl rfl) (Or.inl rfl) (KO.dy hc4) dX3_init_11 ?_
  rw [← hs5]
  have hc6 : sK σ5 a0 = 4 := by rw [hs5]; exact hc4
  refine G_aload_n C 0 rfl rfl dX3_init_14 ?_
  refine G_iconst C (v := 1) rfl dX3_init_15 ?_
  obtain ⟨σ7, hs7, h⟩ := stp_elim h
  refine G_putI C fl_X3_18_3 fp_X3_3_9 (Or.inl rfl) (Or.inl rfl) (KO.dy hc6) dX3_init_16 ?_
  rw [← hs7]
  have hc8 : sK σ7 a0 = 4 := by rw [hs7]; exact hc6
  refine G_aload_n C 0 rfl rfl dX3_init_19 ?_
  refine G_iconst C (v := -1) rfl dX3_init_20 ?_
  obtain ⟨σ9, hs9, h⟩ := stp_elim h
  refine G_putI C fl_X3_21_3 fp_X3_3_10 (Or.inl rfl) (Or.inl rfl) (KO.dy hc8) dX3_init_21 ?_
  rw [← hs9]
  have hc10 : sK σ9 a0 = 4 := by rw [hs9]; exact hc8
  refine G_aload_n C 0 rfl rfl dX3_init_24 ?_
  refine G_iconst C (v := 0) rfl dX3_init_25 ?_
  obtain ⟨σ11, hs11, h⟩ := stp_elim h
  refine G_putI C fl_X3_24_3 fp_X3_3_11 (Or.inl rfl) (Or.inl rfl) (KO.dy hc10) dX3_init_26 ?_
  rw [← hs11]
  have hc12 : sK σ11 a0 = 4 := by rw [hs11]; exact hc10
  refine G_aload_n C 0 rfl rfl dX3_init_29 ?_
  refine G_iconst C (v := 0) rfl dX3_init_30 ?_
  obtain ⟨σ13, hs13, h⟩ := stp_elim h
  refine G_putI C fl_X3_27_3 fp_X3_3_12 (Or.inl rfl) (Or.inl rfl) (KO.dy hc12) dX3_init_31 ?_
  rw [← hs13]
  have hc14 : sK σ13 a0 = 4 := by rw [hs13]; exact hc12
  refine G_aload_n C 0 rfl rfl dX3_init_34 ?_
  refine G_iload_n C 1 rfl rfl dX3_init_35 ?_
  obtain ⟨σ15, hs15, h⟩ := stp_elim h
  refine G_putI C fl_X3_30_3 fp_X3_3_2 (Or.inr hn) (Or.inl rfl) (KO.dy hc14) dX3_init_36 ?_
  rw [← hs15]
  have hc16 : sK σ15 a0 = 4 := by rw [hs15]; exact hc14
  refine G_aload_n C 0 rfl rfl dX3_init_39 ?_
  refine G_iload_n C 2 rfl rfl dX3_init_40 ?_
  obtain ⟨σ17, hs17, h⟩ := stp_elim h
  refine G_putI C fl_X3_33_3 fp_X3_3_3 (Or.inr hn) (Or.inl rfl) (KO.dy hc16) dX3_init_41 ?_
  rw [← hs17]
  have hc18 : sK σ17 a0 = 4 := by rw [hs17]; exact hc16
  refine G_aload_n C 0 rfl rfl dX3_init_44 ?_
  refine G_iload_n C 3 rfl rfl dX3_init_45 ?_
  obtain ⟨σ19, hs19, h⟩ := stp_elim h
  refine G_putI C fl_X3_36_3 fp_X3_3_4 (Or.inr hn) (Or.inl rfl) (KO.dy hc18) dX3_init_46 ?_
  rw [← hs19]
  have hc20 : sK σ19 a0 = 4 := by rw [hs19]; exact hc18
  refine G_aload_n C 0 rfl rfl dX3_init_49 ?_
  refine G_iload C 4 rfl dX3_init_50 ?_
  obtain ⟨σ21, hs21, h⟩ := stp_elim h
  refine G_putI C fl_X3_39_3 fp_X3_3_5 (Or.inr hn) (Or.inl rfl) (KO.dy hc20) dX3_init_52 ?_
  rw [← hs21]
  have hc22 : sK σ21 a0 = 4 := by rw [hs21]; exact hc20
  refine G_aload_n C 0 rfl rfl dX3_init_55 ?_
  refine G_iload C 5 rfl dX3_init_56 ?_
  obtain ⟨σ23, hs23, h⟩ := stp_elim h
  refine G_putI C fl_X3_42_3 fp_X3_3_6 (Or.inr hn) (Or.inl rfl) (KO.dy hc22) dX3_init_58 ?_
  rw [← hs23]
  have hc24 : sK σ23 a0 = 4 := by rw [hs23]; exact hc22
  refine G_aload_n C 0 rfl rfl dX3_init_61 ?_
  refine G_iload C 6 rfl dX3_init_62 ?_
  obtain ⟨σ25, hs25, h⟩ := stp_elim h
  refine G_putI C fl_X3_45_3 fp_X3_3_0 (Or.inl rfl) (Or.inl rfl) (KO.dy hc24) dX3_init_64 ?_
  rw [← hs25]
  have hc26 : sK σ25 a0 = 4 := by rw [hs25]; exact hc24
  obtain rfl := Option.some.inj h
  exact G_vret C hr (Nat.le_of_ble_eq_true rfl) (Nat.le_of_ble_eq_true rfl) dX3_init_67
set_option maxRecDepth 100000 in
set_option maxHeartbeats 4000000 in
theorem dX3_isHandOf {σ : Sto} {a0 : Nat} {p0 : Int32} {r : Int32} (hk0 : sK σ a0 = 4) (h : mX3_isHandOf a0 p0 σ = some r) : MM l yX3_isHandOf cX3_isHandOf 2 (some .boolean) 1 0 0 E st σ [.ref a0, .int p0] (QI E st σ r σ) := by
  unfold mX3_isHandOf at h
  refine MM_of (by decide) (Nat.le_of_ble_eq_true rfl) rfl (fun p e s m args below meth c ad0 C hr hn => ?_)
  refine G_aload_n C 0 rfl rfl dX3_isHandOf_0 ?_
  refine G_getI C fl_X3_33_3 (Or.inl rfl) (KO.dy hk0) dX3_isHandOf_1 ?_
  refine G_iload_n C 1 rfl rfl dX3_isHandOf_4 ?_
  refine G_icmp_ne (tgt := 36) C rfl dX3_isHandOf_5 (fun hc1 => ?_) (fun hc1 => ?_)
  · replace h := (if_neg hc1).symm.trans h
    refine G_iconst C (v := 0) rfl dX3_isHandOf_36 ?_
    obtain rfl := Option.some.inj h
    exact G_zret C (by decide) hr (Nat.le_of_ble_eq_true rfl) (Nat.le_of_ble_eq_true rfl) dX3_isHandOf_37
  · replace h := (if_pos hc1).symm.trans h
    refine G_aload_n C 0 rfl rfl dX3_isHandOf_8 ?_
    refine G_getI C fl_X3_30_3 (Or.inl rfl) (KO.dy hk0) dX3_isHandOf_9 ?_
    refine G_iconst C (v := 2) rfl dX3_isHandOf_12 ?_
    refine G_icmp_eq (tgt := 32) C rfl dX3_isHandOf_13 (fun hc2 => ?_) (fun hc2 => ?_)
    · replace h := (if_pos hc2).symm.trans h
      refine G_iconst C (v := 1) rfl dX3_isHandOf_32 ?_
      refine G_goto (tgt := 37) C rfl dX3_isHandOf_33 ?_
      obtain rfl := Option.some.inj h
      exact G_zret C (by decide) hr (Nat.le_of_ble_eq_true rfl) (Nat.le_of_ble_eq_true rfl) dX3_isHandOf_37
    · replace h := (if_neg hc2).symm.trans h
      refine G_aload_n C 0 rfl rfl dX3_isHandOf_16 ?_
      refine G_getI C fl_X3_30_3 (Or.inl rfl) (KO.dy hk0) dX3_isHandOf_17 ?_
      refine G_iconst C (v := 3) rfl dX3_isHandOf_20 ?_
      refine G_icmp_eq (tgt := 32) C rfl dX3_isHandOf_21 (fun hc3 => ?_) (fun hc3 => ?_)
      · replace h := (if_pos hc3).symm.trans h
        refine G_iconst C (v := 1) rfl dX3_isHandOf_32 ?_
        refine G_goto (tgt := 37) C rfl dX3_isHandOf_33 ?_
        obtain rfl := Option.some.inj h
        exact G_zret C (by decide) hr (Nat.le_of_ble_eq_true rfl) (Nat.le_of_ble_eq_true rfl) dX3_isHandOf_37
      · replace h := (if_neg hc3).symm.trans h
        refine G_aload_n C 0 rfl rfl dX3_isHandOf_24 ?_
        refine G_getI C fl_X3_30_3 (Or.inl rfl) (KO.dy hk0) dX3_isHandOf_25 ?_
        refine G_iconst C (v := 4) rfl dX3_isHandOf_28 ?_
        refine G_icmp_ne (tgt := 36) C rfl dX3_isHandOf_29 (fun hc4 => ?_) (fun hc4 => ?_)
        · replace h := (if_neg hc4).symm.trans h
          refine G_iconst C (v := 0) rfl dX3_isHandOf_36 ?_
          obtain rfl := Option.some.inj h
          exact G_zret C (by decide) hr (Nat.le_of_ble_eq_true rfl) (Nat.le_of_ble_eq_true rfl) dX3_isHandOf_37
        · replace h := (if_pos hc4).symm.trans h
          refine G_iconst C (v := 1) rfl dX3_isHandOf_32 ?_
          refine G_goto (tgt := 37) C rfl dX3_isHandOf_33 ?_
          obtain rfl := Option.some.inj h
          exact G_zret C (by decide) hr (Nat.le_of_ble_eq_true rfl) (Nat.le_of_ble_eq_true rfl) dX3_isHandOf_37
set_option maxRecDepth 100000 in
set_option maxHeartbeats 4000000 in
theorem dX3_isSaleOf {σ : Sto} {a0 : Nat} {p0 : Int32} {r : Int32} (hk0 : sK σ a0 = 4) (h : mX3_isSaleOf a0 p0 σ = some r) : MM l yX3_isSaleOf cX3_isSaleOf 2 (some .boolean) 1 0 0 E st σ [.ref a0, .int p0] (QI E st σ r σ) := by
  unfold mX3_isSaleOf at h
  refine MM_of (by decide) (Nat.le_of_ble_eq_true rfl) rfl (fun p e s m args below meth c ad0 C hr hn => ?_)
  refine G_aload_n C 0 rfl rfl dX3_isSaleOf_0 ?_
  refine G_getI C fl_X3_30_3 (Or.inl rfl) (KO.dy hk0) dX3_isSaleOf_1 ?_
  refine G_iconst C (v := 2) rfl dX3_isSaleOf_4 ?_
  refine G_icmp_ne (tgt := 24) C rfl dX3_isSaleOf_5 (fun hc1 => ?_) (fun hc1 => ?_)
  · replace h := (if_neg hc1).symm.trans h
    refine G_iconst C (v := 0) rfl dX3_isSaleOf_24 ?_
    obtain rfl := Option.some.inj h
    exact G_zret C (by decide) hr (Nat.le_of_ble_eq_true rfl) (Nat.le_of_ble_eq_true rfl) dX3_isSaleOf_25
  · replace h := (if_pos hc1).symm.trans h
    refine G_aload_n C 0 rfl rfl dX3_isSaleOf_8 ?_
    refine G_getI C fl_X3_42_3 (Or.inl rfl) (KO.dy hk0) dX3_isSaleOf_9 ?_
    refine G_sipush C (v := 365) rfl dX3_isSaleOf_12 ?_
    refine G_idiv C (by decide) dX3_isSaleOf_15 ?_
    refine G_iload_n C 1 rfl rfl dX3_isSaleOf_16 ?_
    refine G_icmp_ne (tgt := 24) C rfl dX3_isSaleOf_17 (fun hc2 => ?_) (fun hc2 => ?_)
    · replace h := (if_neg hc2).symm.trans h
      refine G_iconst C (v := 0) rfl dX3_isSaleOf_24 ?_
      obtain rfl := Option.some.inj h
      exact G_zret C (by decide) hr (Nat.le_of_ble_eq_true rfl) (Nat.le_of_ble_eq_true rfl) dX3_isSaleOf_25
    · replace h := (if_pos hc2).symm.trans h
      refine G_iconst C (v := 1) rfl dX3_isSaleOf_20 ?_
      refine G_goto (tgt := 25) C rfl dX3_isSaleOf_21 ?_
      obtain rfl := Option.some.inj h
      exact G_zret C (by decide) hr (Nat.le_of_ble_eq_true rfl) (Nat.le_of_ble_eq_true rfl) dX3_isSaleOf_25
set_option maxRecDepth 100000 in
set_option maxHeartbeats 4000000 in
theorem dX9_init4 {σ : Sto} {a0 : Nat} {r2 : Sto} (hk0 : sK σ a0 = 5) (h : mX9_init4 a0 σ = some r2) : MM l yX9_init cX9_init 1 none 2 0 0 E st σ [.ref a0] (QV E st σ r2) := by
  unfold mX9_init4 at h
  refine MM_of (by decide) (Nat.le_of_ble_eq_true rfl) rfl (fun p e s m args below meth c ad0 C hr hn => ?_)
  refine G_aload_n C 0 rfl rfl dX9_init_0 ?_
  refine G_objInit C lk_X9_3 oi_1 oi_2 (kd := 5) (by decide) (KO.dy hk0) (Nat.le_of_ble_eq_true rfl) (Nat.le_of_ble_eq_true rfl) dX9_init_1 ?_
  refine G_aload_n C 0 rfl rfl dX9_init_4 ?_
  refine G_ldc C kc_X9_9 dX9_init_5 ?_
  obtain ⟨σ1, hs1, h⟩ := stp_elim h
  refine G_putI C fl_X9_10_4 fp_X9_4_0 (Or.inl rfl) (Or.inl rfl) (KO.dy hk0) dX9_init_7 ?_
  rw [← hs1]
  have hc2 : sK σ1 a0 = 5 := by rw [hs1]; exact hk0
  refine G_aload_n C 0 rfl rfl dX9_init_10 ?_
  refine G_ldc C kc_X9_9 dX9_init_11 ?_
  obtain ⟨σ3, hs3, h⟩ := stp_elim h
  refine G_putI C fl_X9_16_4 fp_X9_4_1 (Or.inl rfl) (Or.inl rfl) (KO.dy hc2) dX9_init_13 ?_
  rw [← hs3]
  have hc4 : sK σ3 a0 = 5 := by rw [hs3]; exact hc2
  obtain rfl := Option.some.inj h
  exact G_vret C hr (Nat.le_of_ble_eq_true rfl) (Nat.le_of_ble_eq_true rfl) dX9_init_16
set_option maxRecDepth 100000 in
set_option maxHeartbeats 4000000 in
theorem dX4_blank {σ : Sto} {a0 : Nat} {r2 : Sto} (hk0 : sK σ a0 = 5) (h : mX4_blank a0 σ = some r2) : MM l yX4_blank cX4_blank 1 none 1 0 0 E st σ [.ref a0] (QV E st σ r2) := by
  unfold mX4_blank at h
  refine MM_of (by decide) (Nat.le_of_ble_eq_true rfl) rfl (fun p e s m args below meth c ad0 C hr hn => ?_)
  refine G_aload_n C 0 rfl rfl dX4_blank_0 ?_
  refine G_iconst C (v := 0) rfl dX4_blank_1 ?_
  obtain ⟨σ1, hs1, h⟩ := stp_elim h
  refine G_putI C fl_X4_34_4 fp_X4_4_6 (Or.inl rfl) (Or.inl rfl) (KO.dy hk0) dX4_blank_2 ?_
  rw [← hs1]
  have hc2 : sK σ1 a0 = 5 := by rw [hs1]; exact hk0
  refine G_aload_n C 0 rfl rfl dX4_blank_5 ?_
  refine G_iconst C (v := 0) rfl dX4_blank_6 ?_
  obtain ⟨σ3, hs3, h⟩ := stp_elim h
  refine G_putI C fl_X4_37_4 fp_X4_4_7 (Or.inl rfl) (Or.inl rfl) (KO.dy hc2) dX4_blank_7 ?_
  rw [← hs3]
  have hc4 : sK σ3 a0 = 5 := by rw [hs3]; exact hc2
  refine G_aload_n C 0 rfl rfl dX4_blank_10 ?_
  refine G_iconst C (v := 0) rfl dX4_blank_11 ?_
  obtain ⟨σ5, hs5, h⟩ := stp_elim h
  refine G_putI C fl_X4_40_4 fp_X4_4_8 (Or.inl rfl) (Or.inl rfl) (KO.dy hc4) dX4_blank_12 ?_
  rw [← hs5]
  have hc6 : sK σ5 a0 = 5 := by rw [hs5]; exact hc4
  refine G_aload_n C 0 rfl rfl dX4_blank_15 ?_
  refine G_iconst C (v := -1) rfl dX4_blank_16 ?_
  obtain ⟨σ7, hs7, h⟩ := stp_elim h
  refine G_putI C fl_X4_43_4 fp_X4_4_9 (Or.inl rfl) (Or.inl rfl) (KO.dy hc6) dX4_blank_17 ?_
  rw [← hs7]
  have hc8 : sK σ7 a0 = 5 := by rw [hs7]; exact hc6
  refine G_aload_n C 0 rfl rfl dX4_blank_20 ?_
  refine G_bipush C (v := 70) rfl dX4_blank_21 ?_
  obtain ⟨σ9, hs9, h⟩ := stp_elim h
  refine G_putI C fl_X4_46_4 fp_X4_4_10 (Or.inl rfl) (Or.inl rfl) (KO.dy hc8) dX4_blank_23 ?_
  rw [← hs9]
  have hc10 : sK σ9 a0 = 5 := by rw [hs9]; exact hc8
  refine G_aload_n C 0 rfl rfl dX4_blank_26 ?_
  refine G_sipush C (v := 300) rfl dX4_blank_27 ?_
  obtain ⟨σ11, hs11, h⟩ := stp_elim h
  refine G_putI C fl_X4_49_4 fp_X4_4_11 (Or.inl rfl) (Or.inl rfl) (KO.dy hc10) dX4_blank_30 ?_
  rw [← hs11]
  have hc12 : sK σ11 a0 = 5 := by rw [hs11]; exact hc10
  refine G_aload_n C 0 rfl rfl dX4_blank_33 ?_
  refine G_iconst C (v := 0) rfl dX4_blank_34 ?_
  obtain ⟨σ13, hs13, h⟩ := stp_elim h
  refine G_putI C fl_X4_52_4 fp_X4_4_12 (Or.inl rfl) (Or.inl rfl) (KO.dy hc12) dX4_blank_35 ?_
  rw [← hs13]
  have hc14 : sK σ13 a0 = 5 := by rw [hs13]; exact hc12
  refine G_aload_n C 0 rfl rfl dX4_blank_38 ?_
  refine G_iconst C (v := 0) rfl dX4_blank_39 ?_
  obtain ⟨σ15, hs15, h⟩ := stp_elim h
  refine G_putI C fl_X4_55_4 fp_X4_4_14 (Or.inl rfl) (Or.inl rfl) (KO.dy hc14) dX4_blank_40 ?_
  rw [← hs15]
  have hc16 : sK σ15 a0 = 5 := by rw [hs15]; exact hc14
  obtain rfl := Option.some.inj h
  exact G_vret C hr (Nat.le_of_ble_eq_true rfl) (Nat.le_of_ble_eq_true rfl) dX4_blank_43
set_option maxRecDepth 100000 in
set_option maxHeartbeats 4000000 in
theorem dX4_init {σ : Sto} {a0 : Nat} {r2 : Sto} (hk0 : sK σ a0 = 5) (h : mX4_init a0 σ = some r2) : MM l yX4_init cX4_init 1 none 3 4 596 E st σ [.ref a0] (QV E st σ r2) := by
  unfold mX4_init at h
  refine MM_of (by decide) (Nat.le_of_ble_eq_true rfl) rfl (fun p e s m args below meth c ad0 C hr hn => ?_)
  refine G_aload_n C 0 rfl rfl dX4_init_0 ?_
  obtain ⟨σ1, hv1, h⟩ := bnd h
  refine G_callV (run_IN (kd := 5) C [] [] (dX9_init4 hk0 hv1) ml_X9_init mi_X9_init (by decide) ⟨(Nat.le_of_ble_eq_true rfl), (Nat.le_of_ble_eq_true rfl)⟩ ⟨(Nat.le_of_ble_eq_true rfl), (Nat.le_of_ble_eq_true rfl)⟩ (by decide) (KO.dy hk0) rfl (Nat.le_of_ble_eq_true rfl) dX4_init_1) ?_
  refine G_aload_n C 0 rfl rfl dX4_init_4 ?_
  refine G_iconst C (v := -1) rfl dX4_init_5 ?_
  obtain ⟨hc2, h⟩ := ifn h
  obtain ⟨σ3, hs3, h⟩ := stp_elim h
  refine G_putI C fl_X4_9_4 fp_X4_4_2 (Or.inl rfl) (Or.inl rfl) (KO.dy hc2) dX4_init_6 ?_
  rw [← hs3]
  have hc4 : sK σ3 a0 = 5 := by rw [hs3]; exact hc2
  refine G_aload_n C 0 rfl rfl dX4_init_9 ?_
  refine G_iconst C (v := -1) rfl dX4_init_10 ?_
  obtain ⟨σ5, hs5, h⟩ := stp_elim h
  refine G_putI C fl_X4_15_4 fp_X4_4_3 (Or.inl rfl) (Or.inl rfl) (KO.dy hc4) dX4_init_11 ?_
  rw [← hs5]
  have hc6 : sK σ5 a0 = 5 := by rw [hs5]; exact hc4
  refine G_aload_n C 0 rfl rfl dX4_init_14 ?_
  refine G_bipush C (v := 16) rfl dX4_init_15 ?_
  obtain ⟨σ7, hs7, h⟩ := stp_elim h
  refine G_newI (N := 16) C na_I (by decide) rfl (Nat.le_of_ble_eq_true rfl) (Nat.le_of_ble_eq_true rfl) (Nat.le_of_ble_eq_true rfl) dX4_init_17 ?_
  rw [← hs7]
  have hc8 : sK σ7 (sZ σ5) = 100 := by rw [hs7]; exact (nwK_K _ _ _ _).trans (if_pos rfl)
  have hc9 : sN σ7 (sZ σ5) = 16 := by rw [hs7]; exact (nwK_N _ _ _ _).trans (if_pos rfl)
  obtain ⟨hc10, h⟩ := ifn h
  obtain ⟨σ11, hs11, h⟩ := stp_elim h
  refine G_putR C fl_X4_18_4 fp_X4_4_4 (Or.inr hn) rfl (fun _ => rfl) (KO.dy hc10) dX4_init_19 ?_
  rw [← hs11]
  have hc12 : sK σ11 (sZ σ5) = 100 := by rw [hs11]; exact hc8
  have hc13 : sN σ11 (sZ σ5) = 16 := by rw [hs11]; exact hc9
  have hc14 : sK σ11 a0 = 5 := by rw [hs11]; exact hc10
  refine G_aload_n C 0 rfl rfl dX4_init_22 ?_
  refine G_bipush C (v := 16) rfl dX4_init_23 ?_
  obtain ⟨σ15, hs15, h⟩ := stp_elim h
  refine G_newI (N := 16) C na_I (by decide) rfl (Nat.le_of_ble_eq_true rfl) (Nat.le_of_ble_eq_true rfl) (Nat.le_of_ble_eq_true rfl) dX4_init_25 ?_
  rw [← hs15]
  have hc16 : sK σ15 (sZ σ11) = 100 := by rw [hs15]; exact (nwK_K _ _ _ _).trans (if_pos rfl)
  have hc17 : sN σ15 (sZ σ11) = 16 := by rw [hs15]; exact (nwK_N _ _ _ _).trans (if_pos rfl)
  obtain ⟨hc18, h⟩ := ifn h
  obtain ⟨σ19, hs19, h⟩ := stp_elim h
  refine G_putR C fl_X4_22_4 fp_X4_4_5 (Or.inr hn) rfl (fun _ => rfl) (KO.dy hc18) dX4_init_27 ?_
  rw [← hs19]
  have hc20 : sK σ19 (sZ σ11) = 100 := by rw [hs19]; exact hc16
  have hc21 : sN σ19 (sZ σ11) = 16 := by rw [hs19]; exact hc17
  have hc22 : sK σ19 a0 = 5 := by rw [hs19]; exact hc18
  refine G_aload_n C 0 rfl rfl dX4_init_30 ?_
  refine G_sipush C (v := 500) rfl dX4_init_31 ?_
  obtain ⟨σ23, hs23, h⟩ := stp_elim h
  refine G_newI (N := 500) C na_I (by decide) rfl (Nat.le_of_ble_eq_true rfl) (Nat.le_of_ble_eq_true rfl) (Nat.le_of_ble_eq_true rfl) dX4_init_34 ?_
  rw [← hs23]
  have hc24 : sK σ23 (sZ σ19) = 100 := by rw [hs23]; exact (nwK_K _ _ _ _).trans (if_pos rfl)
  have hc25 : sN σ23 (sZ σ19) = 500 := by rw [hs23]; exact (nwK_N _ _ _ _).trans (if_pos rfl)
  obtain ⟨hc26, h⟩ := ifn h
  obtain ⟨σ27, hs27, h⟩ := stp_elim h
  refine G_putR C fl_X4_25_4 fp_X4_4_13 (Or.inr hn) rfl (fun _ => rfl) (KO.dy hc26) dX4_init_36 ?_
  rw [← hs27]
  have hc28 : sK σ27 (sZ σ19) = 100 := by rw [hs27]; exact hc24
  have hc29 : sN σ27 (sZ σ19) = 500 := by rw [hs27]; exact hc25
  have hc30 : sK σ27 a0 = 5 := by rw [hs27]; exact hc26
  refine G_aload_n C 0 rfl rfl dX4_init_39 ?_
  refine G_bipush C (v := 64) rfl dX4_init_40 ?_
  obtain ⟨σ31, hs31, h⟩ := stp_elim h
  refine G_newI (N := 64) C na_I (by decide) rfl (Nat.le_of_ble_eq_true rfl) (Nat.le_of_ble_eq_true rfl) (Nat.le_of_ble_eq_true rfl) dX4_init_42 ?_
  rw [← hs31]
  have hc32 : sK σ31 (sZ σ27) = 100 := by rw [hs31]; exact (nwK_K _ _ _ _).trans (if_pos rfl)
  have hc33 : sN σ31 (sZ σ27) = 64 := by rw [hs31]; exact (nwK_N _ _ _ _).trans (if_pos rfl)
  obtain ⟨hc34, h⟩ := ifn h
  obtain ⟨σ35, hs35, h⟩ := stp_elim h
  refine G_putR C fl_X4_28_4 fp_X4_4_15 (Or.inr hn) rfl (fun _ => rfl) (KO.dy hc34) dX4_init_44 ?_
  rw [← hs35]
  have hc36 : sK σ35 (sZ σ27) = 100 := by rw [hs35]; exact hc32
  have hc37 : sN σ35 (sZ σ27) = 64 := by rw [hs35]; exact hc33
  have hc38 : sK σ35 a0 = 5 := by rw [hs35]; exact hc34
  refine G_aload_n C 0 rfl rfl dX4_init_47 ?_
  obtain ⟨σ39, hv39, h⟩ := bnd h
  refine G_callV (run_V C [] [] (dX4_blank hc38 hv39) ml_X4_blank mv_X4_blank lk_X4_31 ⟨(Nat.le_of_ble_eq_true rfl), (Nat.le_of_ble_eq_true rfl)⟩ ⟨(Nat.le_of_ble_eq_true rfl), (Nat.le_of_ble_eq_true rfl)⟩ vq_4 rfl (KO.dy hc38) rfl (Nat.le_of_ble_eq_true rfl) dX4_init_48) ?_
  obtain rfl := Option.some.inj h
  exact G_vret C hr (Nat.le_of_ble_eq_true rfl) (Nat.le_of_ble_eq_true rfl) dX4_init_51
set_option maxRecDepth 100000 in
set_option maxHeartbeats 4000000 in
theorem dX4_startDue {σ : Sto} {a0 : Nat} {r2 : Sto} (hk0 : sK σ a0 = 5) (h : mX4_startDue a0 σ = some r2) : MM l yX4_startDue cX4_startDue 1 none 1 0 0 E st σ [.ref a0] (QV E st σ r2) := by
  unfold mX4_startDue at h
  refine MM_of (by decide) (Nat.le_of_ble_eq_true rfl) rfl (fun p e s m args below meth c ad0 C hr hn => ?_)
  refine G_aload_n C 0 rfl rfl dX4_startDue_0 ?_
  refine G_iconst C (v := 0) rfl dX4_startDue_1 ?_
  obtain ⟨σ1, hs1, h⟩ := stp_elim h
  refine G_putI C fl_X4_55_4 fp_X4_4_14 (Or.inl rfl) (Or.inl rfl) (KO.dy hk0) dX4_startDue_2 ?_
  rw [← hs1]
  have hc2 : sK σ1 a0 = 5 := by rw [hs1]; exact hk0
  obtain rfl := Option.some.inj h
  exact G_vret C hr (Nat.le_of_ble_eq_true rfl) (Nat.le_of_ble_eq_true rfl) dX4_startDue_5
set_option maxRecDepth 100000 in
set_option maxHeartbeats 4000000 in
theorem dX4_addDue {σ : Sto} {a0 : Nat} {p0 : Int32} {r2 : Sto} (hk0 : sK σ a0 = 5) (h : mX4_addDue a0 p0 σ = some r2) : MM l yX4_addDue cX4_addDue 2 none 1 0 0 E st σ [.ref a0, .int p0] (QV E st σ r2) := by
  unfold mX4_addDue at h
  refine MM_of (by decide) (Nat.le_of_ble_eq_true rfl) rfl (fun p e s m args below meth c ad0 C hr hn => ?_)
  refine G_aload_n C 0 rfl rfl dX4_addDue_0 ?_
  refine G_getI C fl_X4_55_4 (Or.inl rfl) (KO.dy hk0) dX4_addDue_1 ?_
  refine G_aload_n C 0 rfl rfl dX4_addDue_4 ?_
  refine G_getR C fl_X4_25_4 rfl (KO.dy hk0) dX4_addDue_5 ?_
  obtain ⟨hc1, h⟩ := ifn h
  refine G_alen (t := 0) (v := (Int32.ofNat (sN σ (sR σ a0 13)))) C (by decide) (KD.nz hc1 rfl) rfl dX4_addDue_8 ?_
  refine G_icmp_ge (tgt := 32) C rfl dX4_addDue_9 (fun hc2 => ?_) (fun hc2 => ?_)
  · replace h := (if_pos hc2).symm.trans h
    obtain rfl := Option.some.inj h
    exact G_vret C hr (Nat.le_of_ble_eq_true rfl) (Nat.le_of_ble_eq_true rfl) dX4_addDue_32
  · replace h := (if_neg hc2).symm.trans h
    refine G_aload_n C 0 rfl rfl dX4_addDue_12 ?_
    refine G_getR C fl_X4_25_4 rfl (KO.dy hk0) dX4_addDue_13 ?_
    refine G_aload_n C 0 rfl rfl dX4_addDue_16 ?_
    refine G_getI C fl_X4_55_4 (Or.inl rfl) (KO.dy hk0) dX4_addDue_17 ?_
    refine G_iload_n C 1 rfl rfl dX4_addDue_20 ?_
    obtain ⟨hc3, h⟩ := ifn h
    obtain ⟨σ4, hs4, h⟩ := stp_elim h
    refine G_iastore C (KD.nz hc1 rfl) hc3 dX4_addDue_21 ?_
    rw [← hs4]
    have hc5 : sK σ4 a0 = 5 := by rw [hs4]; exact hk0
    have hc6 : sK σ4 (sR σ a0 13) = 100 := by rw [hs4]; exact hc1
    have hc7 : sN σ4 (sR σ a0 13) = (sN σ (sR σ a0 13)) := by rw [hs4]; exact rfl
    refine G_aload_n C 0 rfl rfl dX4_addDue_22 ?_
    refine G_dup C rfl dX4_addDue_23 ?_
    refine G_getI C fl_X4_55_4 (Or.inl rfl) (KO.dy hc5) dX4_addDue_24 ?_
    refine G_iconst C (v := 1) rfl dX4_addDue_27 ?_
    refine G_iadd C dX4_addDue_28 ?_
    obtain ⟨σ8, hs8, h⟩ := stp_elim h
    refine G_putI C fl_X4_55_4 fp_X4_4_14 (Or.inl rfl) (Or.inl rfl) (KO.dy hc5) dX4_addDue_29 ?_
    rw [← hs8]
    have hc9 : sK σ8 a0 = 5 := by rw [hs8]; exact hc5
    have hc10 : sK σ8 (sR σ a0 13) = 100 := by rw [hs8]; exact hc6
    have hc11 : sN σ8 (sR σ a0 13) = (sN σ (sR σ a0 13)) := by rw [hs8]; exact hc7
    obtain rfl := Option.some.inj h
    exact G_vret C hr (Nat.le_of_ble_eq_true rfl) (Nat.le_of_ble_eq_true rfl) dX4_addDue_32
set_option maxRecDepth 100000 in
set_option maxHeartbeats 4000000 in
theorem dX4_lastStep {σ : Sto} {a0 : Nat} {r : Int32} (hk0 : sK σ a0 = 5) (h : mX4_lastStep a0 σ = some r) : MM l yX4_lastStep cX4_lastStep 1 (some .int) 1 0 0 E st σ [.ref a0] (QI E st σ r σ) := by
  unfold mX4_lastStep at h
  refine MM_of (by decide) (Nat.le_of_ble_eq_true rfl) rfl (fun p e s m args below meth c ad0 C hr hn => ?_)
  refine G_aload_n C 0 rfl rfl dX4_lastStep_0 ?_
  refine G_getI C fl_X4_34_4 (Or.inl rfl) (KO.dy hk0) dX4_lastStep_1 ?_
  refine G_if_le (tgt := 33) C rfl dX4_lastStep_4 (fun hc1 => ?_) (fun hc1 => ?_)
  · replace h := (if_pos hc1).symm.trans h
    refine G_iconst C (v := 0) rfl dX4_lastStep_33 ?_
    obtain rfl := Option.some.inj h
    exact G_iret C hr (Nat.le_of_ble_eq_true rfl) (Nat.le_of_ble_eq_true rfl) dX4_lastStep_34
  · replace h := (if_neg hc1).symm.trans h
    refine G_aload_n C 0 rfl rfl dX4_lastStep_7 ?_
    refine G_getI C fl_X4_34_4 (Or.inl rfl) (KO.dy hk0) dX4_lastStep_8 ?_
    refine G_aload_n C 0 rfl rfl dX4_lastStep_11 ?_
    refine G_getR C fl_X4_18_4 rfl (KO.dy hk0) dX4_lastStep_12 ?_
    obtain ⟨hc2, h⟩ := ifn h
    refine G_alen (t := 0) (v := (Int32.ofNat (sN σ (sR σ a0 4)))) C (by decide) (KD.nz hc2 rfl) rfl dX4_lastStep_15 ?_
    refine G_icmp_gt (tgt := 33) C rfl dX4_lastStep_16 (fun hc3 => ?_) (fun hc3 => ?_)
    · replace h := (if_pos hc3).symm.trans h
      refine G_iconst C (v := 0) rfl dX4_lastStep_33 ?_
      obtain rfl := Option.some.inj h
      exact G_iret C hr (Nat.le_of_ble_eq_true rfl) (Nat.le_of_ble_eq_true rfl) dX4_lastStep_34
    · replace h := (if_neg hc3).symm.trans h
      refine G_aload_n C 0 rfl rfl dX4_lastStep_19 ?_
      refine G_getR C fl_X4_18_4 rfl (KO.dy hk0) dX4_lastStep_20 ?_
      refine G_aload_n C 0 rfl rfl dX4_lastStep_23 ?_
      refine G_getI C fl_X4_34_4 (Or.inl rfl) (KO.dy hk0) dX4_lastStep_24 ?_
      refine G_iconst C (v := 1) rfl dX4_lastStep_27 ?_
      refine G_isub C dX4_lastStep_28 ?_
      obtain ⟨hc4, h⟩ := ifn h
      refine G_iaload C (KD.nz hc2 rfl) hc4 dX4_lastStep_29 ?_
      refine G_goto (tgt := 34) C rfl dX4_lastStep_30 ?_
      obtain rfl := Option.some.inj h
      exact G_iret C hr (Nat.le_of_ble_eq_true rfl) (Nat.le_of_ble_eq_true rfl) dX4_lastStep_34
set_option maxRecDepth 100000 in
set_option maxHeartbeats 4000000 in
theorem dX4_addStep {σ : Sto} {a0 : Nat} {p0 : Int32} {p1 : Int32} {r2 : Sto} (hk0 : sK σ a0 = 5) (h : mX4_addStep a0 p0 p1 σ = some r2) : MM l yX4_addStep cX4_addStep 3 none 1 0 0 E st σ [.ref a0, .int p0, .int p1] (QV E st σ r2) := by
  unfold mX4_addStep at h
  refine MM_of (by decide) (Nat.le_of_ble_eq_true rfl) rfl (fun p e s m args below meth c ad0 C hr hn => ?_)
  refine G_aload_n C 0 rfl rfl dX4_addStep_0 ?_
  refine G_getI C fl_X4_34_4 (Or.inl rfl) (KO.dy hk0) dX4_addStep_1 ?_
  refine G_aload_n C 0 rfl rfl dX4_addStep_4 ?_
  refine G_getR C fl_X4_18_4 rfl (KO.dy hk0) dX4_addStep_5 ?_
  obtain ⟨hc1, h⟩ := ifn h
  refine G_alen (t := 0) (v := (Int32.ofNat (sN σ (sR σ a0 4)))) C (by decide) (KD.nz hc1 rfl) rfl dX4_addStep_8 ?_
  refine G_icmp_ge (tgt := 42) C rfl dX4_addStep_9 (fun hc2 => ?_) (fun hc2 => ?_)
  · replace h := (if_pos hc2).symm.trans h
    obtain rfl := Option.some.inj h
    exact G_vret C hr (Nat.le_of_ble_eq_true rfl) (Nat.le_of_ble_eq_true rfl) dX4_addStep_42
  · replace h := (if_neg hc2).symm.trans h
    refine G_aload_n C 0 rfl rfl dX4_addStep_12 ?_
    refine G_getR C fl_X4_18_4 rfl (KO.dy hk0) dX4_addStep_13 ?_
    refine G_aload_n C 0 rfl rfl dX4_addStep_16 ?_
    refine G_getI C fl_X4_34_4 (Or.inl rfl) (KO.dy hk0) dX4_addStep_17 ?_
    refine G_iload_n C 1 rfl rfl dX4_addStep_20 ?_
    obtain ⟨hc3, h⟩ := ifn h
    obtain ⟨σ4, hs4, h⟩ := stp_elim h
    refine G_iastore C (KD.nz hc1 rfl) hc3 dX4_addStep_21 ?_
    rw [← hs4]
    have hc5 : sK σ4 a0 = 5 := by rw [hs4]; exact hk0
    have hc6 : sK σ4 (sR σ a0 4) = 100 := by rw [hs4]; exact hc1
    have hc7 : sN σ4 (sR σ a0 4) = (sN σ (sR σ a0 4)) := by rw [hs4]; exact rfl
    refine G_aload_n C 0 rfl rfl dX4_addStep_22 ?_
    refine G_getR C fl_X4_22_4 rfl (KO.dy hc5) dX4_addStep_23 ?_
    refine G_aload_n C 0 rfl rfl dX4_addStep_26 ?_
    refine G_getI C fl_X4_34_4 (Or.inl rfl) (KO.dy hc5) dX4_addStep_27 ?_
    refine G_iload_n C 2 rfl rfl dX4_addStep_30 ?_
    obtain ⟨hc8, h⟩ := ifn h
    obtain ⟨hc9, h⟩ := ifn h
    obtain ⟨σ10, hs10, h⟩ := stp_elim h
    refine G_iastore C (KD.nz hc8 rfl) hc9 dX4_addStep_31 ?_
    rw [← hs10]
    have hc11 : sK σ10 a0 = 5 := by rw [hs10]; exact hc5
    have hc12 : sK σ10 (sR σ a0 4) = 100 := by rw [hs10]; exact hc6
    have hc13 : sN σ10 (sR σ a0 4) = (sN σ (sR σ a0 4)) := by rw [hs10]; exact hc7
    have hc14 : sK σ10 (sR σ4 a0 5) = 100 := by rw [hs10]; exact hc8
    have hc15 : sN σ10 (sR σ4 a0 5) = (sN σ4 (sR σ4 a0 5)) := by rw [hs10]; exact rfl
    refine G_aload_n C 0 rfl rfl dX4_addStep_32 ?_
    refine G_dup C rfl dX4_addStep_33 ?_
    refine G_getI C fl_X4_34_4 (Or.inl rfl) (KO.dy hc11) dX4_addStep_34 ?_
    refine G_iconst C (v := 1) rfl dX4_addStep_37 ?_
    refine G_iadd C dX4_addStep_38 ?_
    obtain ⟨σ16, hs16, h⟩ := stp_elim h
    refine G_putI C fl_X4_34_4 fp_X4_4_6 (Or.inl rfl) (Or.inl rfl) (KO.dy hc11) dX4_addStep_39 ?_
    rw [← hs16]
    have hc17 : sK σ16 a0 = 5 := by rw [hs16]; exact hc11
    have hc18 : sK σ16 (sR σ a0 4) = 100 := by rw [hs16]; exact hc12
    have hc19 : sN σ16 (sR σ a0 4) = (sN σ (sR σ a0 4)) := by rw [hs16]; exact hc13
    have hc20 : sK σ16 (sR σ4 a0 5) = 100 := by rw [hs16]; exact hc14
    have hc21 : sN σ16 (sR σ4 a0 5) = (sN σ4 (sR σ4 a0 5)) := by rw [hs16]; exact hc15
    obtain rfl := Option.some.inj h
    exact G_vret C hr (Nat.le_of_ble_eq_true rfl) (Nat.le_of_ble_eq_true rfl) dX4_addStep_42
set_option maxRecDepth 100000 in
set_option maxHeartbeats 4000000 in
theorem dX4_agreeWith {σ : Sto} {a0 : Nat} {p0 : Int32} {r2 : Sto} (hk0 : sK σ a0 = 5) (h : mX4_agreeWith a0 p0 σ = some r2) : MM l yX4_agreeWith cX4_agreeWith 2 none 1 0 0 E st σ [.ref a0, .int p0] (QV E st σ r2) := by
  unfold mX4_agreeWith at h
  refine MM_of (by decide) (Nat.le_of_ble_eq_true rfl) rfl (fun p e s m args below meth c ad0 C hr hn => ?_)
  refine G_aload_n C 0 rfl rfl dX4_agreeWith_0 ?_
  refine G_dup C rfl dX4_agreeWith_1 ?_
  refine G_getI C fl_X4_52_4 (Or.inl rfl) (KO.dy hk0) dX4_agreeWith_2 ?_
  refine G_iconst C (v := 1) rfl dX4_agreeWith_5 ?_
  refine G_iload_n C 1 rfl rfl dX4_agreeWith_6 ?_
  refine G_ishl C dX4_agreeWith_7 ?_
  refine G_ior C dX4_agreeWith_8 ?_
  obtain ⟨σ1, hs1, h⟩ := stp_elim h
  refine G_putI C fl_X4_52_4 fp_X4_4_12 (Or.inl rfl) (Or.inl rfl) (KO.dy hk0) dX4_agreeWith_9 ?_
  rw [← hs1]
  have hc2 : sK σ1 a0 = 5 := by rw [hs1]; exact hk0
  obtain rfl := Option.some.inj h
  exact G_vret C hr (Nat.le_of_ble_eq_true rfl) (Nat.le_of_ble_eq_true rfl) dX4_agreeWith_12
set_option maxRecDepth 100000 in
set_option maxHeartbeats 4000000 in
theorem dX4_isFor {σ : Sto} {a0 : Nat} {p0 : Int32} {r : Int32} (hk0 : sK σ a0 = 5) (h : mX4_isFor a0 p0 σ = some r) : MM l yX4_isFor cX4_isFor 2 (some .boolean) 1 0 0 E st σ [.ref a0, .int p0] (QI E st σ r σ) := by
  unfold mX4_isFor at h
  refine MM_of (by decide) (Nat.le_of_ble_eq_true rfl) rfl (fun p e s m args below meth c ad0 C hr hn => ?_)
  refine G_iload_n C 1 rfl rfl dX4_isFor_0 ?_
  refine G_aload_n C 0 rfl rfl dX4_isFor_1 ?_
  refine G_getI C fl_X4_9_4 (Or.inl rfl) (KO.dy hk0) dX4_isFor_2 ?_
  refine G_icmp_eq (tgt := 24) C rfl dX4_isFor_5 (fun hc1 => ?_) (fun hc1 => ?_)
  · replace h := (if_pos hc1).symm.trans h
    refine G_iconst C (v := 1) rfl dX4_isFor_24 ?_
    refine G_goto (tgt := 29) C rfl dX4_isFor_25 ?_
    obtain rfl := Option.some.inj h
    exact G_zret C (by decide) hr (Nat.le_of_ble_eq_true rfl) (Nat.le_of_ble_eq_true rfl) dX4_isFor_29
  · replace h := (if_neg hc1).symm.trans h
    refine G_iload_n C 1 rfl rfl dX4_isFor_8 ?_
    refine G_if_lt (tgt := 28) C rfl dX4_isFor_9 (fun hc2 => ?_) (fun hc2 => ?_)
    · replace h := (if_pos hc2).symm.trans h
      refine G_iconst C (v := 0) rfl dX4_isFor_28 ?_
      obtain rfl := Option.some.inj h
      exact G_zret C (by decide) hr (Nat.le_of_ble_eq_true rfl) (Nat.le_of_ble_eq_true rfl) dX4_isFor_29
    · replace h := (if_neg hc2).symm.trans h
      refine G_aload_n C 0 rfl rfl dX4_isFor_12 ?_
      refine G_getI C fl_X4_52_4 (Or.inl rfl) (KO.dy hk0) dX4_isFor_13 ?_
      refine G_iload_n C 1 rfl rfl dX4_isFor_16 ?_
      refine G_ishr C dX4_isFor_17 ?_
      refine G_iconst C (v := 1) rfl dX4_isFor_18 ?_
      refine G_iand C dX4_isFor_19 ?_
      refine G_iconst C (v := 1) rfl dX4_isFor_20 ?_
      refine G_icmp_ne (tgt := 28) C rfl dX4_isFor_21 (fun hc3 => ?_) (fun hc3 => ?_)
      · replace h := (if_neg hc3).symm.trans h
        refine G_iconst C (v := 0) rfl dX4_isFor_28 ?_
        obtain rfl := Option.some.inj h
        exact G_zret C (by decide) hr (Nat.le_of_ble_eq_true rfl) (Nat.le_of_ble_eq_true rfl) dX4_isFor_29
      · replace h := (if_pos hc3).symm.trans h
        refine G_iconst C (v := 1) rfl dX4_isFor_24 ?_
        refine G_goto (tgt := 29) C rfl dX4_isFor_25 ?_
        obtain rfl := Option.some.inj h
        exact G_zret C (by decide) hr (Nat.le_of_ble_eq_true rfl) (Nat.le_of_ble_eq_true rfl) dX4_isFor_29
set_option maxRecDepth 100000 in
set_option maxHeartbeats 4000000 in
theorem eX4_partOf_73 (C : Cx E p s m args meth c cX4_partOf 7 RX4) (hr : meth.sig.returnType = (some .int)) {r : Int32} {σ : Sto} {x0 : Nat} {x1 : Int32} {x2 : Int64} {x4 : Int32} (h : mX4_partOf_73 x0 x1 x2 x4 σ = some r) : G p l e (rmd 2 0 0) s m args below meth c E st (sZ σ) ad0 (MQ below (QI E st σ r σ ad0) args s 0 0 (AE E)) 7 0 0 σ 73 [(0, .ref x0), (1, .int x1), (2, .long x2), (4, .int x4)] [] := by
  unfold mX4_partOf_73 at h
  refine G_lload_n C 2 rfl rfl dX4_partOf_73 ?_
  refine G_iconst C (v := 0) rfl dX4_partOf_74 ?_
  refine G_iload_n C 1 rfl rfl dX4_partOf_75 ?_
  refine G_iload C 3 rfl dX4_partOf_76 ?_
  refine G_isub C dX4_partOf_78 ?_
  refine G_mmax C lk_X4_64 mj_max_i.1 mj_ini mj_max_i.2 (Nat.le_of_ble_eq_true rfl) (Nat.le_of_ble_eq_true rfl) (Nat.le_of_ble_eq_true rfl) (Nat.le_of_ble_eq_true rfl) dX4_partOf_79 ?_
  refine G_i2l C dX4_partOf_82 ?_
  refine G_aload_n C 0 rfl rfl dX4_partOf_83 ?_
  obtain ⟨hc3, h⟩ := ifn h
  refine G_getI C fl_X4_37_4 (Or.inl rfl) (KO.dy hc3) dX4_partOf_84 ?_
  refine G_i2l C dX4_partOf_87 ?_
  refine G_lmul C dX4_partOf_88 ?_
  refine G_ladd C dX4_partOf_89 ?_
  refine G_lstore_n (L' := [(2, .long (x2 + (((if (0 : Int32) < (x1 - x4) then (x1 - x4) else (0 : Int32))).toInt64 * ((sI σ x0 7)).toInt64))), (0, .ref x0), (1, .int x1), (4, .int x4)]) C rfl (Nat.le_of_ble_eq_true rfl) rfl dX4_partOf_90 ?_
  refine G_lload_n C 0 rfl rfl dX4_partOf_91 ?_
  refine G_ldc2 C kc_X4_67 dX4_partOf_92 ?_
  refine G_ldiv C (by decide) dX4_partOf_95 ?_
  refine G_lstore (L' := [(5, .long ((x2 + (((if (0 : Int32) < (x1 - x4) then (x1 - x4) else (0 : Int32))).toInt64 * ((sI σ x0 7)).toInt64)) / (10000 : Int64))), (2, .long (x2 + (((if (0 : Int32) < (x1 - x4) then (x1 - x4) else (0 : Int32))).toInt64 * ((sI σ x0 7)).toInt64))), (0, .ref x0), (1, .int x1), (4, .int x4)]) C (Nat.le_of_ble_eq_true rfl) rfl dX4_partOf_96 ?_
  refine G_aload_n C 2 rfl rfl dX4_partOf_98 ?_
  refine G_getI C fl_X4_43_4 (Or.inl rfl) (KO.dy hc3) dX4_partOf_99 ?_
  refine G_iconst C (v := -1) rfl dX4_partOf_102 ?_
  refine G_icmp_ne (tgt := 111) C rfl dX4_partOf_103 (fun hc4 => ?_) (fun hc4 => ?_)
  · replace h := (if_neg hc4).symm.trans h
    refine G_lload C 0 rfl dX4_partOf_111 ?_
    refine G_aload_n C 2 rfl rfl dX4_partOf_113 ?_
    refine G_getI C fl_X4_43_4 (Or.inl rfl) (KO.dy hc3) dX4_partOf_114 ?_
    refine G_i2l C dX4_partOf_117 ?_
    refine G_lmin C lk_X4_69 mj_min_l.1 mj_ini mj_min_l.2 (Nat.le_of_ble_eq_true rfl) (Nat.le_of_ble_eq_true rfl) (Nat.le_of_ble_eq_true rfl) (Nat.le_of_ble_eq_true rfl) dX4_partOf_118 ?_
    refine G_l2i C dX4_partOf_121 ?_
    obtain rfl := Option.some.inj h
    exact G_iret C hr (Nat.le_of_ble_eq_true rfl) (Nat.le_of_ble_eq_true rfl) dX4_partOf_122
  · replace h := (if_pos hc4).symm.trans h
    refine G_lload C 0 rfl dX4_partOf_106 ?_
    refine G_goto (tgt := 121) C rfl dX4_partOf_108 ?_
    refine G_l2i C dX4_partOf_121 ?_
    obtain rfl := Option.some.inj h
    exact G_iret C hr (Nat.le_of_ble_eq_true rfl) (Nat.le_of_ble_eq_true rfl) dX4_partOf_122
set_option maxRecDepth 100000 in
set_option maxHeartbeats 4000000 in
theorem eX4_partOf_8B (C : Cx E p s m args meth c cX4_partOf 7 RX4) (hr : meth.sig.returnType = (some .int)) {r : Int32} {σ : Sto} {f8 : Nat → Int32 → Int64 → Int32 → Int32 → Sto → Option Int32} {x0 : Nat} {x1 : Int32} {x2 : Int64} {x4 : Int32} {x5 : Int32} (hf8 : ∀ (x0 : Nat) (x1 : Int32) (x2 : Int64) (x4 : Int32) (x5 : Int32), f8 x0 x1 x2 x4 x5 σ = some r → G p l e (rmd 2 0 0) s m args below meth c E st (sZ σ) ad0 (MQ below (QI E st σ r σ ad0) args s 0 0 (AE E)) 7 0 0 σ 8 [(0, .ref x0), (1, .int x1), (2, .long x2), (4, .int x4), (5, .int x5)] []) (h : mX4_partOf_8B f8 x0 x1 x2 x4 x5 σ = some r) : G p l e (rmd 2 0 0) s m args below meth c E st (sZ σ) ad0 (MQ below (QI E st σ r σ ad0) args s 0 0 (AE E)) 7 0 0 σ 8 [(0, .ref x0), (1, .int x1), (2, .long x2), (4, .int x4), (5, .int x5)] [] := by
  unfold mX4_partOf_8B at h
  refine G_iload C 4 rfl dX4_partOf_8 ?_
  refine G_aload_n C 0 rfl rfl dX4_partOf_10 ?_
  obtain ⟨hc1, h⟩ := ifn h
  refine G_getI C fl_X4_34_4 (Or.inl rfl) (KO.dy hc1) dX4_partOf_11 ?_
  refine G_icmp_ge (tgt := 73) C rfl dX4_partOf_14 (fun hc2 => ?_) (fun hc2 => ?_)
  · replace h := (if_pos hc2).symm.trans h
    refine G_sub [0, 1, 2, 3] rfl ?_
    exact eX4_partOf_73 C hr h
  · replace h := (if_neg hc2).symm.trans h
    refine G_iload C 4 rfl dX4_partOf_17 ?_
    refine G_aload_n C 0 rfl rfl dX4_partOf_19 ?_
    refine G_getR C fl_X4_18_4 rfl (KO.dy hc1) dX4_partOf_20 ?_
    obtain ⟨hc5, h⟩ := ifn h
    refine G_alen (t := 0) (v := (Int32.ofNat (sN σ (sR σ x0 4)))) C (by decide) (KD.nz hc5 rfl) rfl dX4_partOf_23 ?_
    refine G_icmp_ge (tgt := 73) C rfl dX4_partOf_24 (fun hc6 => ?_) (fun hc6 => ?_)
    · replace h := (if_pos hc6).symm.trans h
      refine G_sub [0, 1, 2, 3] rfl ?_
      exact eX4_partOf_73 C hr h
    · replace h := (if_neg hc6).symm.trans h
      refine G_lload_n C 2 rfl rfl dX4_partOf_27 ?_
      refine G_iconst C (v := 0) rfl dX4_partOf_28 ?_
      refine G_iload_n C 1 rfl rfl dX4_partOf_29 ?_
      refine G_aload_n C 0 rfl rfl dX4_partOf_30 ?_
      refine G_getR C fl_X4_18_4 rfl (KO.dy hc1) dX4_partOf_31 ?_
      refine G_iload C 4 rfl dX4_partOf_34 ?_
      obtain ⟨hc7, h⟩ := ifn h
      refine G_iaload C (KD.nz hc5 rfl) hc7 dX4_partOf_36 ?_
      refine G_mmin C lk_X4_58 mj_min_i.1 mj_ini mj_min_i.2 (Nat.le_of_ble_eq_true rfl) (Nat.le_of_ble_eq_true rfl) (Nat.le_of_ble_eq_true rfl) (Nat.le_of_ble_eq_true rfl) dX4_partOf_37 ?_
      refine G_iload C 3 rfl dX4_partOf_40 ?_
      refine G_isub C dX4_partOf_42 ?_
      refine G_mmax C lk_X4_64 mj_max_i.1 mj_ini mj_max_i.2 (Nat.le_of_ble_eq_true rfl) (Nat.le_of_ble_eq_true rfl) (Nat.le_of_ble_eq_true rfl) (Nat.le_of_ble_eq_true rfl) dX4_partOf_43 ?_
      refine G_i2l C dX4_partOf_46 ?_
      refine G_aload_n C 0 rfl rfl dX4_partOf_47 ?_
      refine G_getR C fl_X4_22_4 rfl (KO.dy hc1) dX4_partOf_48 ?_
      refine G_iload C 4 rfl dX4_partOf_51 ?_
      obtain ⟨hc8, h⟩ := ifn h
      obtain ⟨hc9, h⟩ := ifn h
      refine G_iaload C (KD.nz hc8 rfl) hc9 dX4_partOf_53 ?_
      refine G_i2l C dX4_partOf_54 ?_
      refine G_lmul C dX4_partOf_55 ?_
      refine G_ladd C dX4_partOf_56 ?_
      refine G_lstore_n (L' := [(2, .long (x2 + (((if (0 : Int32) < ((if (sI σ (sR σ x0 4) (x5).toNatClampNeg) < x1 then (sI σ (sR σ x0 4) (x5).toNatClampNeg) else x1) - x4) then ((if (sI σ (sR σ x0 4) (x5).toNatClampNeg) < x1 then (sI σ (sR σ x0 4) (x5).toNatClampNeg) else x1) - x4) else (0 : Int32))).toInt64 * ((sI σ (sR σ x0 5) (x5).toNatClampNeg)).toInt64))), (0, .ref x0), (1, .int x1), (4, .int x4), (5, .int x5)]) C rfl (Nat.le_of_ble_eq_true rfl) rfl dX4_partOf_57 ?_
      refine G_aload_n C 1 rfl rfl dX4_partOf_58 ?_
      refine G_getR C fl_X4_18_4 rfl (KO.dy hc1) dX4_partOf_59 ?_
      refine G_iload C 4 rfl dX4_partOf_62 ?_
      refine G_iaload C (KD.nz hc5 rfl) hc7 dX4_partOf_64 ?_
      refine G_istore (L' := [(4, .int (sI σ (sR σ x0 4) (x5).toNatClampNeg)), (2, .long (x2 + (((if (0 : Int32) < ((if (sI σ (sR σ x0 4) (x5).toNatClampNeg) < x1 then (sI σ (sR σ x0 4) (x5).toNatClampNeg) else x1) - x4) then ((if (sI σ (sR σ x0 4) (x5).toNatClampNeg) < x1 then (sI σ (sR σ x0 4) (x5).toNatClampNeg) else x1) - x4) else (0 : Int32))).toInt64 * ((sI σ (sR σ x0 5) (x5).toNatClampNeg)).toInt64))), (0, .ref x0), (1, .int x1), (5, .int x5)]) C (Nat.le_of_ble_eq_true rfl) rfl dX4_partOf_65 ?_
      refine G_iinc (v := 1) (L' := [(5, .int (x5 + (1 : Int32))), (4, .int (sI σ (sR σ x0 4) (x5).toNatClampNeg)), (2, .long (x2 + (((if (0 : Int32) < ((if (sI σ (sR σ x0 4) (x5).toNatClampNeg) < x1 then (sI σ (sR σ x0 4) (x5).toNatClampNeg) else x1) - x4) then ((if (sI σ (sR σ x0 4) (x5).toNatClampNeg) < x1 then (sI σ (sR σ x0 4) (x5).toNatClampNeg) else x1) - x4) else (0 : Int32))).toInt64 * ((sI σ (sR σ x0 5) (x5).toNatClampNeg)).toInt64))), (0, .ref x0), (1, .int x1)]) C 4 rfl rfl (Nat.le_of_ble_eq_true rfl) rfl dX4_partOf_67 ?_
      refine G_goto (tgt := 8) C rfl dX4_partOf_70 ?_
      refine G_sub [3, 4, 2, 1, 0] rfl ?_
      exact hf8 _ _ _ _ _ h
set_option maxRecDepth 100000 in
set_option maxHeartbeats 4000000 in
theorem eX4_partOf_8 (C : Cx E p s m args meth c cX4_partOf 7 RX4) (hr : meth.sig.returnType = (some .int)) {r : Int32} {σ : Sto} {n : Nat} {x0 : Nat} {x1 : Int32} {x2 : Int64} {x4 : Int32} {x5 : Int32} (h : mX4_partOf_8 n x0 x1 x2 x4 x5 σ = some r) : G p l e (rmd 2 0 0) s m args below meth c E st (sZ σ) ad0 (MQ below (QI E st σ r σ ad0) args s 0 0 (AE E)) 7 0 0 σ 8 [(0, .ref x0), (1, .int x1), (2, .long x2), (4, .int x4), (5, .int x5)] [] := by
  induction n generalizing x0 x1 x2 x4 x5 with
  | zero => exact nomatch (show (none : Option Int32) = some r from h)
  | succ n ih => exact eX4_partOf_8B C hr (fun z0 z1 z2 z3 z4 h9 => ih h9) h
set_option maxRecDepth 100000 in
set_option maxHeartbeats 4000000 in
theorem dX4_partOf {σ : Sto} {a0 : Nat} {p0 : Int32} {r : Int32} (hk0 : sK σ a0 = 5) (h : mX4_partOf a0 p0 σ = some r) : MM l yX4_partOf cX4_partOf 7 (some .int) 2 0 0 E st σ [.ref a0, .int p0] (QI E st σ r σ) := by
  unfold mX4_partOf at h
  refine MM_of (by decide) (Nat.le_of_ble_eq_true rfl) rfl (fun p e s m args below meth c ad0 C hr hn => ?_)
  refine G_lconst C (v := 0) rfl dX4_partOf_0 ?_
  refine G_lstore_n (L' := [(2, .long (0 : Int64)), (0, .ref a0), (1, .int p0)]) C rfl (Nat.le_of_ble_eq_true rfl) rfl dX4_partOf_1 ?_
  refine G_iconst C (v := 0) rfl dX4_partOf_2 ?_
  refine G_istore (L' := [(4, .int (0 : Int32)), (2, .long (0 : Int64)), (0, .ref a0), (1, .int p0)]) C (Nat.le_of_ble_eq_true rfl) rfl dX4_partOf_3 ?_
  refine G_iconst C (v := 0) rfl dX4_partOf_5 ?_
  refine G_istore (L' := [(5, .int (0 : Int32)), (4, .int (0 : Int32)), (2, .long (0 : Int64)), (0, .ref a0), (1, .int p0)]) C (Nat.le_of_ble_eq_true rfl) rfl dX4_partOf_6 ?_
  refine G_sub [3, 4, 2, 1, 0] rfl ?_
  exact eX4_partOf_8 C hr h
set_option maxRecDepth 100000 in
set_option maxHeartbeats 4000000 in
theorem dX4_operand {σ : Sto} {p0 : Int32} {p1 : Nat} {r : Int32} (h : mX4_operand p0 p1 σ = some r) : MM l yX4_operand cX4_operand 2 (some .int) 1 0 0 E st σ [.int p0, .ref p1] (QI E st σ r σ) := by
  unfold mX4_operand at h
  refine MM_of (by decide) (Nat.le_of_ble_eq_true rfl) rfl (fun p e s m args below meth c ad0 C hr hn => ?_)
  refine G_iload_n C 0 rfl rfl dX4_operand_0 ?_
  refine G_if_lt (tgt := 6) C rfl dX4_operand_1 (fun hc1 => ?_) (fun hc1 => ?_)
  · replace h := (if_pos hc1).symm.trans h
    refine G_iconst C (v := -1) rfl dX4_operand_6 ?_
    refine G_iload_n C 0 rfl rfl dX4_operand_7 ?_
    refine G_isub C dX4_operand_8 ?_
    refine G_aload_n C 1 rfl rfl dX4_operand_9 ?_
    obtain ⟨hc2, h⟩ := ifn h
    refine G_alen (t := 0) (v := (Int32.ofNat (sN σ p1))) C (by decide) (KD.nz hc2 rfl) rfl dX4_operand_10 ?_
    refine G_icmp_ge (tgt := 22) C rfl dX4_operand_11 (fun hc3 => ?_) (fun hc3 => ?_)
    · replace h := (if_pos hc3).symm.trans h
      refine G_iconst C (v := 0) rfl dX4_operand_22 ?_
      obtain rfl := Option.some.inj h
      exact G_iret C hr (Nat.le_of_ble_eq_true rfl) (Nat.le_of_ble_eq_true rfl) dX4_operand_23
    · replace h := (if_neg hc3).symm.trans h
      refine G_aload_n C 1 rfl rfl dX4_operand_14 ?_
      refine G_iconst C (v := -1) rfl dX4_operand_15 ?_
      refine G_iload_n C 0 rfl rfl dX4_operand_16 ?_
      refine G_isub C dX4_operand_17 ?_
      obtain ⟨hc4, h⟩ := ifn h
      refine G_iaload C (KD.nz hc2 rfl) hc4 dX4_operand_18 ?_
      refine G_goto (tgt := 23) C rfl dX4_operand_19 ?_
      obtain rfl := Option.some.inj h
      exact G_iret C hr (Nat.le_of_ble_eq_true rfl) (Nat.le_of_ble_eq_true rfl) dX4_operand_23
  · replace h := (if_neg hc1).symm.trans h
    refine G_iload_n C 0 rfl rfl dX4_operand_4 ?_
    obtain rfl := Option.some.inj h
    exact G_iret C hr (Nat.le_of_ble_eq_true rfl) (Nat.le_of_ble_eq_true rfl) dX4_operand_5
set_option maxRecDepth 100000 in
set_option maxHeartbeats 4000000 in
theorem dX4_truth {σ : Sto} {p0 : Int32} {r : Int32} (h : mX4_truth p0 σ = r) : MM l yX4_truth cX4_truth 1 (some .int) 1 0 0 E st σ [.int p0] (QI E st σ r σ) := by
  unfold mX4_truth at h
  refine MM_of (by decide) (Nat.le_of_ble_eq_true rfl) rfl (fun p e s m args below meth c ad0 C hr hn => ?_)
  refine G_iload_n C 0 rfl rfl dX4_truth_0 ?_
  refine G_if_eq (tgt := 8) C rfl dX4_truth_1 (fun hc1 => ?_) (fun hc1 => ?_)
  · replace h := (if_pos hc1).symm.trans h
    refine G_iconst C (v := 0) rfl dX4_truth_8 ?_
    subst h
    exact G_iret C hr (Nat.le_of_ble_eq_true rfl) (Nat.le_of_ble_eq_true rfl) dX4_truth_9
  · replace h := (if_neg hc1).symm.trans h
    refine G_iconst C (v := 1) rfl dX4_truth_4 ?_
    refine G_goto (tgt := 9) C rfl dX4_truth_5 ?_
    subst h
    exact G_iret C hr (Nat.le_of_ble_eq_true rfl) (Nat.le_of_ble_eq_true rfl) dX4_truth_9
set_option maxRecDepth 100000 in
set_option maxHeartbeats 4000000 in
theorem eX4_join_106 (C : Cx E p s m args meth c cX4_join 3 RX4) (hr : meth.sig.returnType = (some .int)) {r : Int32} {σ : Sto} {y0 : Int32} (h : mX4_join_106 y0 σ = some r) : G p l e (rmd 2 0 0) s m args below meth c E st (sZ σ) ad0 (MQ below (QI E st σ r σ ad0) args s 0 0 (AE E)) 3 0 0 σ 106 [] [.int y0] := by
  unfold mX4_join_106 at h
  refine G_callI (run_S C [.int y0] [] (dX4_truth rfl) ml_X4_truth ms_X4_truth lk_X4_80 ⟨(Nat.le_of_ble_eq_true rfl), (Nat.le_of_ble_eq_true rfl)⟩ ⟨(Nat.le_of_ble_eq_true rfl), (Nat.le_of_ble_eq_true rfl)⟩ rfl (Nat.le_of_ble_eq_true rfl) dX4_join_106) ?_
  obtain rfl := Option.some.inj h
  exact G_iret C hr (Nat.le_of_ble_eq_true rfl) (Nat.le_of_ble_eq_true rfl) dX4_join_109
set_option maxRecDepth 100000 in
set_option maxHeartbeats 4000000 in
theorem eX4_join_92 (C : Cx E p s m args meth c cX4_join 3 RX4) (hr : meth.sig.returnType = (some .int)) {r : Int32} {σ : Sto} {y0 : Int32} (h : mX4_join_92 y0 σ = some r) : G p l e (rmd 2 0 0) s m args below meth c E st (sZ σ) ad0 (MQ below (QI E st σ r σ ad0) args s 0 0 (AE E)) 3 0 0 σ 92 [] [.int y0] := by
  unfold mX4_join_92 at h
  refine G_callI (run_S C [.int y0] [] (dX4_truth rfl) ml_X4_truth ms_X4_truth lk_X4_80 ⟨(Nat.le_of_ble_eq_true rfl), (Nat.le_of_ble_eq_true rfl)⟩ ⟨(Nat.le_of_ble_eq_true rfl), (Nat.le_of_ble_eq_true rfl)⟩ rfl (Nat.le_of_ble_eq_true rfl) dX4_join_92) ?_
  obtain rfl := Option.some.inj h
  exact G_iret C hr (Nat.le_of_ble_eq_true rfl) (Nat.le_of_ble_eq_true rfl) dX4_join_95
set_option maxRecDepth 100000 in
set_option maxHeartbeats 4000000 in
theorem eX4_join_122 (C : Cx E p s m args meth c cX4_join 3 RX4) (hr : meth.sig.returnType = (some .int)) {r : Int32} {σ : Sto} {x1 : Int32} {x2 : Int32} (h : mX4_join_122 x1 x2 σ = some r) : G p l e (rmd 2 0 0) s m args below meth c E st (sZ σ) ad0 (MQ below (QI E st σ r σ ad0) args s 0 0 (AE E)) 3 0 0 σ 122 [(1, .int x1), (2, .int x2)] [] := by
  unfold mX4_join_122 at h
  refine G_iload_n C 1 rfl rfl dX4_join_122 ?_
  refine G_if_ne (tgt := 130) C rfl dX4_join_123 (fun hc11 => ?_) (fun hc11 => ?_)
  · replace h := (if_neg hc11).symm.trans h
    refine G_iload_n C 0 rfl rfl dX4_join_130 ?_
    refine G_iload_n C 1 rfl rfl dX4_join_131 ?_
    obtain ⟨hc12, h⟩ := ifn h
    refine G_idiv C hc12 dX4_join_132 ?_
    obtain rfl := Option.some.inj h
    exact G_iret C hr (Nat.le_of_ble_eq_true rfl) (Nat.le_of_ble_eq_true rfl) dX4_join_133
  · replace h := (if_pos hc11).symm.trans h
    refine G_iconst C (v := 0) rfl dX4_join_126 ?_
    refine G_goto (tgt := 133) C rfl dX4_join_127 ?_
    obtain rfl := Option.some.inj h
    exact G_iret C hr (Nat.le_of_ble_eq_true rfl) (Nat.le_of_ble_eq_true rfl) dX4_join_133
set_option maxRecDepth 100000 in
set_option maxHeartbeats 4000000 in
theorem eX4_join_78 (C : Cx E p s m args meth c cX4_join 3 RX4) (hr : meth.sig.returnType = (some .int)) {r : Int32} {σ : Sto} {y0 : Int32} (h : mX4_join_78 y0 σ = some r) : G p l e (rmd 2 0 0) s m args below meth c E st (sZ σ) ad0 (MQ below (QI E st σ r σ ad0) args s 0 0 (AE E)) 3 0 0 σ 78 [] [.int y0] := by
  unfold mX4_join_78 at h
  refine G_callI (run_S C [.int y0] [] (dX4_truth rfl) ml_X4_truth ms_X4_truth lk_X4_80 ⟨(Nat.le_of_ble_eq_true rfl), (Nat.le_of_ble_eq_true rfl)⟩ ⟨(Nat.le_of_ble_eq_true rfl), (Nat.le_of_ble_eq_true rfl)⟩ rfl (Nat.le_of_ble_eq_true rfl) dX4_join_78) ?_
  obtain rfl := Option.some.inj h
  exact G_iret C hr (Nat.le_of_ble_eq_true rfl) (Nat.le_of_ble_eq_true rfl) dX4_join_81
set_option maxRecDepth 100000 in
set_option maxHeartbeats 4000000 in
theorem eX4_join_77 (C : Cx E p s m args meth c cX4_join 3 RX4) (hr : meth.sig.returnType = (some .int)) {r : Int32} {σ : Sto} (h : mX4_join_77 σ = some r) : G p l e (rmd 2 0 0) s m args below meth c E st (sZ σ) ad0 (MQ below (QI E st σ r σ ad0) args s 0 0 (AE E)) 3 0 0 σ 77 [] [] := by
  unfold mX4_join_77 at h
  refine G_iconst C (v := 0) rfl dX4_join_77 ?_
  exact eX4_join_78 C hr h
set_option maxRecDepth 100000 in
set_option maxHeartbeats 4000000 in
theorem eX4_join_61 (C : Cx E p s m args meth c cX4_join 3 RX4) (hr : meth.sig.returnType = (some .int)) {r : Int32} {σ : Sto} {y0 : Int32} (h : mX4_join_61 y0 σ = some r) : G p l e (rmd 2 0 0) s m args below meth c E st (sZ σ) ad0 (MQ below (QI E st σ r σ ad0) args s 0 0 (AE E)) 3 0 0 σ 61 [] [.int y0] := by
  unfold mX4_join_61 at h
  refine G_callI (run_S C [.int y0] [] (dX4_truth rfl) ml_X4_truth ms_X4_truth lk_X4_80 ⟨(Nat.le_of_ble_eq_true rfl), (Nat.le_of_ble_eq_true rfl)⟩ ⟨(Nat.le_of_ble_eq_true rfl), (Nat.le_of_ble_eq_true rfl)⟩ rfl (Nat.le_of_ble_eq_true rfl) dX4_join_61) ?_
  obtain rfl := Option.some.inj h
  exact G_iret C hr (Nat.le_of_ble_eq_true rfl) (Nat.le_of_ble_eq_true rfl) dX4_join_64
set_option maxRecDepth 100000 in
set_option maxHeartbeats 4000000 in
theorem dX4_join {σ : Sto} {p0 : Int32} {p1 : Int32} {p2 : Int32} {r : Int32} (h : mX4_join p0 p1 p2 σ = some r) : MM l yX4_join cX4_join 3 (some .int) 2 0 0 E st σ [.int p0, .int p1, .int p2] (QI E st σ r σ) := by
  unfold mX4_join at h
  refine MM_of (by decide) (Nat.le_of_ble_eq_true rfl) rfl (fun p e s m args below meth c ad0 C hr hn => ?_)
  refine G_iload_n C 0 rfl rfl dX4_join_0 ?_
  by_cases hc1 : p0 = (-18 : Int32)
  · replace h := (if_pos hc1).symm.trans h
    refine G_tswIn (tgt := 118) C (-18) 0 hc1 (by decide) (by decide) (by decide) rfl rfl dX4_join_1 ?_
    refine G_iload_n C 1 rfl rfl dX4_join_118 ?_
    refine G_iload_n C 2 rfl rfl dX4_join_119 ?_
    refine G_imul C dX4_join_120 ?_
    obtain rfl := Option.some.inj h
    exact G_iret C hr (Nat.le_of_ble_eq_true rfl) (Nat.le_of_ble_eq_true rfl) dX4_join_121
  replace h := (if_neg hc1).symm.trans h
  by_cases hc2 : p0 = (-17 : Int32)
  · replace h := (if_pos hc2).symm.trans h
    refine G_tswIn (tgt := 114) C (-17) 1 hc2 (by decide) (by decide) (by decide) rfl rfl dX4_join_1 ?_
    refine G_iload_n C 1 rfl rfl dX4_join_114 ?_
    refine G_iload_n C 2 rfl rfl dX4_join_115 ?_
    refine G_isub C dX4_join_116 ?_
    obtain rfl := Option.some.inj h
    exact G_iret C hr (Nat.le_of_ble_eq_true rfl) (Nat.le_of_ble_eq_true rfl) dX4_join_117
  replace h := (if_neg hc2).symm.trans h
  by_cases hc3 : p0 = (-16 : Int32)
  · replace h := (if_pos hc3).symm.trans h
    refine G_tswIn (tgt := 110) C (-16) 2 hc3 (by decide) (by decide) (by decide) rfl rfl dX4_join_1 ?_
    refine G_iload_n C 1 rfl rfl dX4_join_110 ?_
    refine G_iload_n C 2 rfl rfl dX4_join_111 ?_
    refine G_iadd C dX4_join_112 ?_
    obtain rfl := Option.some.inj h
    exact G_iret C hr (Nat.le_of_ble_eq_true rfl) (Nat.le_of_ble_eq_true rfl) dX4_join_113
  replace h := (if_neg hc3).symm.trans h
  by_cases hc4 : p0 = (-15 : Int32)
  · replace h := (if_pos hc4).symm.trans h
    refine G_tswIn (tgt := 96) C (-15) 3 hc4 (by decide) (by decide) (by decide) rfl rfl dX4_join_1 ?_
    refine G_iload_n C 1 rfl rfl dX4_join_96 ?_
    refine G_iload_n C 2 rfl rfl dX4_join_97 ?_
    refine G_icmp_ne (tgt := 105) C rfl dX4_join_98 (fun hc5 => ?_) (fun hc5 => ?_)
    · replace h := (if_neg hc5).symm.trans h
      refine G_iconst C (v := 0) rfl dX4_join_105 ?_
      refine G_sub [] rfl ?_
      exact eX4_join_106 C hr h
    · replace h := (if_pos hc5).symm.trans h
      refine G_iconst C (v := 1) rfl dX4_join_101 ?_
      refine G_goto (tgt := 106) C rfl dX4_join_102 ?_
      refine G_sub [] rfl ?_
      exact eX4_join_106 C hr h
  replace h := (if_neg hc4).symm.trans h
  by_cases hc7 : p0 = (-14 : Int32)
  · replace h := (if_pos hc7).symm.trans h
    refine G_tswIn (tgt := 82) C (-14) 4 hc7 (by decide) (by decide) (by decide) rfl rfl dX4_join_1 ?_
    refine G_iload_n C 1 rfl rfl dX4_join_82 ?_
    refine G_iload_n C 2 rfl rfl dX4_join_83 ?_
    refine G_icmp_ge (tgt := 91) C rfl dX4_join_84 (fun hc8 => ?_) (fun hc8 => ?_)
    · replace h := (if_pos hc8).symm.trans h
      refine G_iconst C (v := 0) rfl dX4_join_91 ?_
      refine G_sub [] rfl ?_
      exact eX4_join_92 C hr h
    · replace h := (if_neg hc8).symm.trans h
      refine G_iconst C (v := 1) rfl dX4_join_87 ?_
      refine G_goto (tgt := 92) C rfl dX4_join_88 ?_
      refine G_sub [] rfl ?_
      exact eX4_join_92 C hr h
  replace h := (if_neg hc7).symm.trans h
  by_cases hc10 : p0 = (-13 : Int32)
  · replace h := (if_pos hc10).symm.trans h
    refine G_tswIn (tgt := 122) C (-13) 5 hc10 (by decide) (by decide) (by decide) rfl rfl dX4_join_1 ?_
    refine G_sub [1, 2] rfl ?_
    exact eX4_join_122 C hr h
  replace h := (if_neg hc10).symm.trans h
  by_cases hc13 : p0 = (-12 : Int32)
  · replace h := (if_pos hc13).symm.trans h
    refine G_tswIn (tgt := 65) C (-12) 6 hc13 (by decide) (by decide) (by decide) rfl rfl dX4_join_1 ?_
    refine G_iload_n C 1 rfl rfl dX4_join_65 ?_
    refine G_if_eq (tgt := 77) C rfl dX4_join_66 (fun hc14 => ?_) (fun hc14 => ?_)
    · replace h := (if_pos hc14).symm.trans h
      refine G_sub [] rfl ?_
      exact eX4_join_77 C hr h
    · replace h := (if_neg hc14).symm.trans h
      refine G_iload_n C 2 rfl rfl dX4_join_69 ?_
      refine G_if_eq (tgt := 77) C rfl dX4_join_70 (fun hc16 => ?_) (fun hc16 => ?_)
      · replace h := (if_pos hc16).symm.trans h
        refine G_sub [] rfl ?_
        exact eX4_join_77 C hr h
      · replace h := (if_neg hc16).symm.trans h
        refine G_iconst C (v := 1) rfl dX4_join_73 ?_
        refine G_goto (tgt := 78) C rfl dX4_join_74 ?_
        refine G_sub [] rfl ?_
        exact eX4_join_78 C hr h
  replace h := (if_neg hc13).symm.trans h
  by_cases hc17 : p0 = (-11 : Int32)
  · replace h := (if_pos hc17).symm.trans h
    refine G_tswIn (tgt := 48) C (-11) 7 hc17 (by decide) (by decide) (by decide) rfl rfl dX4_join_1 ?_
    refine G_iload_n C 1 rfl rfl dX4_join_48 ?_
    refine G_if_ne (tgt := 56) C rfl dX4_join_49 (fun hc18 => ?_) (fun hc18 => ?_)
    · replace h := (if_neg hc18).symm.trans h
      refine G_iconst C (v := 1) rfl dX4_join_56 ?_
      refine G_goto (tgt := 61) C rfl dX4_join_57 ?_
      refine G_sub [] rfl ?_
      exact eX4_join_61 C hr h
    · replace h := (if_pos hc18).symm.trans h
      refine G_iload_n C 2 rfl rfl dX4_join_52 ?_
      refine G_if_eq (tgt := 60) C rfl dX4_join_53 (fun hc20 => ?_) (fun hc20 => ?_)
      · replace h := (if_pos hc20).symm.trans h
        refine G_iconst C (v := 0) rfl dX4_join_60 ?_
        refine G_sub [] rfl ?_
        exact eX4_join_61 C hr h
      · replace h := (if_neg hc20).symm.trans h
        refine G_iconst C (v := 1) rfl dX4_join_56 ?_
        refine G_goto (tgt := 61) C rfl dX4_join_57 ?_
        refine G_sub [] rfl ?_
        exact eX4_join_61 C hr h
  replace h := (if_neg hc17).symm.trans h
  have ht21 : ∀ j : Nat, j < 8 → p0 ≠ Int32.ofInt (-18 + (j : Int)) := by
    intro j hj
    rcases (show j = 0 ∨ j = 1 ∨ j = 2 ∨ j = 3 ∨ j = 4 ∨ j = 5 ∨ j = 6 ∨ j = 7 by omega) with rfl | rfl | rfl | rfl | rfl | rfl | rfl | rfl
    · exact hc1
    · exact hc2
    · exact hc3
    · exact hc4
    · exact hc7
    · exact hc10
    · exact hc13
    · exact hc17
  refine G_tswOut (tgt := 122) C 8 ht21 (by decide) (by decide) rfl dX4_join_1 ?_
  refine G_sub [1, 2] rfl ?_
  exact eX4_join_122 C hr h
set_option maxRecDepth 100000 in
set_option maxHeartbeats 4000000 in
theorem eX4_worth_104 (C : Cx E p s m args meth c cX4_worth 5 RX4) (hr : meth.sig.returnType = (some .int)) {σ0 : Sto} {r1 : Int32} {r2 : Sto} {σ : Sto} {f4 : Nat → Nat → Int32 → Int32 → Sto → Option (Int32 × Sto)} {x0 : Nat} {x1 : Nat} {x2 : Int32} {x3 : Int32} {x4 : Int32} (hf4 : ∀ (x0 : Nat) (x1 : Nat) (x2 : Int32) (x3 : Int32) (σ' : Sto), f4 x0 x1 x2 x3 σ' = some (r1, r2) → G p l e (rmd 3 0 0) s m args below meth c E st (sZ σ0) ad0 (MQ below (QI E st σ0 r1 r2 ad0) args s 0 0 (AE E)) 5 0 0 σ' 4 [(0, .ref x0), (1, .ref x1), (2, .int x2), (3, .int x3)] []) (h : mX4_worth_104 f4 x0 x1 x2 x3 x4 σ = some (r1, r2)) : G p l e (rmd 3 0 0) s m args below meth c E st (sZ σ0) ad0 (MQ below (QI E st σ0 r1 r2 ad0) args s 0 0 (AE E)) 5 0 0 σ 104 [(0, .ref x0), (1, .ref x1), (2, .int x2), (3, .int x3), (4, .int x4)] [] := by
  unfold mX4_worth_104 at h
  refine G_iload_n C 2 rfl rfl dX4_worth_104 ?_
  refine G_iconst C (v := 1) rfl dX4_worth_105 ?_
  refine G_icmp_le (tgt := 139) C rfl dX4_worth_106 (fun hc12 => ?_) (fun hc12 => ?_)
  · replace h := (if_pos hc12).symm.trans h
    refine G_iinc (v := 1) (L' := [(3, .int (x3 + (1 : Int32))), (0, .ref x0), (1, .ref x1), (2, .int x2), (4, .int x4)]) C 3 rfl rfl (Nat.le_of_ble_eq_true rfl) rfl dX4_worth_139 ?_
    refine G_goto (tgt := 4) C rfl dX4_worth_142 ?_
    refine G_sub [1, 2, 3, 0] rfl ?_
    exact hf4 _ _ _ _ _ h
  · replace h := (if_neg hc12).symm.trans h
    refine G_iinc (v := -1) (L' := [(2, .int (x2 + (-1 : Int32))), (0, .ref x0), (1, .ref x1), (3, .int x3), (4, .int x4)]) C 2 rfl rfl (Nat.le_of_ble_eq_true rfl) rfl dX4_worth_109 ?_
    refine G_aload_n C 1 rfl rfl dX4_worth_112 ?_
    obtain ⟨hc13, h⟩ := ifn h
    refine G_getR C fl_X4_28_4 rfl (KO.dy hc13) dX4_worth_113 ?_
    refine G_iload_n C 0 rfl rfl dX4_worth_116 ?_
    refine G_iconst C (v := 1) rfl dX4_worth_117 ?_
    refine G_isub C dX4_worth_118 ?_
    refine G_iload C 4 rfl dX4_worth_119 ?_
    refine G_aload_n C 1 rfl rfl dX4_worth_121 ?_
    refine G_getR C fl_X4_28_4 rfl (KO.dy hc13) dX4_worth_122 ?_
    refine G_iload_n C 0 rfl rfl dX4_worth_125 ?_
    refine G_iconst C (v := 1) rfl dX4_worth_126 ?_
    refine G_isub C dX4_worth_127 ?_
    obtain ⟨hc14, h⟩ := ifn h
    obtain ⟨hc15, h⟩ := ifn h
    refine G_iaload C (KD.nz hc14 rfl) hc15 dX4_worth_128 ?_
    refine G_aload_n C 1 rfl rfl dX4_worth_129 ?_
    refine G_getR C fl_X4_28_4 rfl (KO.dy hc13) dX4_worth_130 ?_
    refine G_iload_n C 0 rfl rfl dX4_worth_133 ?_
    obtain ⟨hc16, h⟩ := ifn h
    refine G_iaload C (KD.nz hc14 rfl) hc16 dX4_worth_134 ?_
    obtain ⟨v17, hv17, h⟩ := bnd h
    refine G_callI (run_S C [.int x4, .int (sI σ (sR σ x0 15) (((x2 + (-1 : Int32)) - (1 : Int32))).toNatClampNeg), .int (sI σ (sR σ x0 15) ((x2 + (-1 : Int32))).toNatClampNeg)] [.int ((x2 + (-1 : Int32)) - (1 : Int32)), .ref (sR σ x0 15)] (dX4_join hv17) ml_X4_join ms_X4_join lk_X4_84 ⟨(Nat.le_of_ble_eq_true rfl), (Nat.le_of_ble_eq_true rfl)⟩ ⟨(Nat.le_of_ble_eq_true rfl), (Nat.le_of_ble_eq_true rfl)⟩ rfl (Nat.le_of_ble_eq_true rfl) dX4_worth_135) ?_
    obtain ⟨σ18, hs18, h⟩ := stp_elim h
    refine G_iastore C (KD.nz hc14 rfl) hc15 dX4_worth_138 ?_
    rw [← hs18]
    have hc19 : sK σ18 x0 = 5 := by rw [hs18]; exact hc13
    have hc20 : sK σ18 (sR σ x0 15) = 100 := by rw [hs18]; exact hc14
    have hc21 : sN σ18 (sR σ x0 15) = (sN σ (sR σ x0 15)) := by rw [hs18]; exact rfl
    refine G_iinc (v := 1) (L' := [(3, .int (x3 + (1 : Int32))), (2, .int (x2 + (-1 : Int32))), (0, .ref x0), (1, .ref x1), (4, .int x4)]) C 3 rfl rfl (Nat.le_of_ble_eq_true rfl) rfl dX4_worth_139 ?_
    refine G_goto (tgt := 4) C rfl dX4_worth_142 ?_
    refine G_sub [2, 3, 1, 0] rfl ?_
    exact hf4 _ _ _ _ _ h
set_option maxRecDepth 100000 in
set_option maxHeartbeats 4000000 in
theorem eX4_worth_97 (C : Cx E p s m args meth c cX4_worth 5 RX4) (hr : meth.sig.returnType = (some .int)) {σ0 : Sto} {r1 : Int32} {r2 : Sto} {σ : Sto} {f4 : Nat → Nat → Int32 → Int32 → Sto → Option (Int32 × Sto)} {x0 : Nat} {x1 : Nat} {x2 : Int32} {x3 : Int32} {y0 : Nat} {y1 : Int32} {y2 : Int32} (hf4 : ∀ (x0 : Nat) (x1 : Nat) (x2 : Int32) (x3 : Int32) (σ' : Sto), f4 x0 x1 x2 x3 σ' = some (r1, r2) → G p l e (rmd 3 0 0) s m args below meth c E st (sZ σ0) ad0 (MQ below (QI E st σ0 r1 r2 ad0) args s 0 0 (AE E)) 5 0 0 σ' 4 [(0, .ref x0), (1, .ref x1), (2, .int x2), (3, .int x3)] []) (h : mX4_worth_97 f4 x0 x1 x2 x3 y0 y1 y2 σ = some (r1, r2)) : G p l e (rmd 3 0 0) s m args below meth c E st (sZ σ0) ad0 (MQ below (QI E st σ0 r1 r2 ad0) args s 0 0 (AE E)) 5 0 0 σ 97 [(0, .ref x0), (1, .ref x1), (2, .int x2), (3, .int x3)] [.int y2, .int y1, .ref y0] := by
  unfold mX4_worth_97 at h
  refine G_callI (run_S C [.int y2] [.int y1, .ref y0] (dX4_truth rfl) ml_X4_truth ms_X4_truth lk_X4_80 ⟨(Nat.le_of_ble_eq_true rfl), (Nat.le_of_ble_eq_true rfl)⟩ ⟨(Nat.le_of_ble_eq_true rfl), (Nat.le_of_ble_eq_true rfl)⟩ rfl (Nat.le_of_ble_eq_true rfl) dX4_worth_97) ?_
  obtain ⟨hc28, h⟩ := ifn h
  obtain ⟨hc29, h⟩ := ifn h
  obtain ⟨σ30, hs30, h⟩ := stp_elim h
  refine G_iastore C (KD.nz hc28 rfl) hc29 dX4_worth_100 ?_
  rw [← hs30]
  have hc31 : sK σ30 y0 = 100 := by rw [hs30]; exact hc28
  have hc32 : sN σ30 y0 = (sN σ y0) := by rw [hs30]; exact rfl
  refine G_goto (tgt := 139) C rfl dX4_worth_101 ?_
  refine G_iinc (v := 1) (L' := [(3, .int (x3 + (1 : Int32))), (0, .ref x0), (1, .ref x1), (2, .int x2)]) C 3 rfl rfl (Nat.le_of_ble_eq_true rfl) rfl dX4_worth_139 ?_
  refine G_goto (tgt := 4) C rfl dX4_worth_142 ?_
  refine G_sub [1, 2, 3, 0] rfl ?_
  exact hf4 _ _ _ _ _ h
set_option maxRecDepth 100000 in
set_option maxHeartbeats 4000000 in
theorem eX4_worth_63 (C : Cx E p s m args meth c cX4_worth 5 RX4) (hr : meth.sig.returnType = (some .int)) {σ0 : Sto} {r1 : Int32} {r2 : Sto} {σ : Sto} {f4 : Nat → Nat → Int32 → Int32 → Sto → Option (Int32 × Sto)} {x0 : Nat} {x1 : Nat} {x2 : Int32} {x3 : Int32} {x4 : Int32} (hf4 : ∀ (x0 : Nat) (x1 : Nat) (x2 : Int32) (x3 : Int32) (σ' : Sto), f4 x0 x1 x2 x3 σ' = some (r1, r2) → G p l e (rmd 3 0 0) s m args below meth c E st (sZ σ0) ad0 (MQ below (QI E st σ0 r1 r2 ad0) args s 0 0 (AE E)) 5 0 0 σ' 4 [(0, .ref x0), (1, .ref x1), (2, .int x2), (3, .int x3)] []) (h : mX4_worth_63 f4 x0 x1 x2 x3 x4 σ = some (r1, r2)) : G p l e (rmd 3 0 0) s m args below meth c E st (sZ σ0) ad0 (MQ below (QI E st σ0 r1 r2 ad0) args s 0 0 (AE E)) 5 0 0 σ 63 [(0, .ref x0), (1, .ref x1), (2, .int x2), (3, .int x3), (4, .int x4)] [] := by
  unfold mX4_worth_63 at h
  refine G_iload C 4 rfl dX4_worth_63 ?_
  refine G_bipush C (v := -13) rfl dX4_worth_65 ?_
  refine G_icmp_ne (tgt := 104) C rfl dX4_worth_67 (fun hc11 => ?_) (fun hc11 => ?_)
  · replace h := (if_neg hc11).symm.trans h
    exact eX4_worth_104 C hr hf4 h
  · replace h := (if_pos hc11).symm.trans h
    refine G_iload_n C 2 rfl rfl dX4_worth_70 ?_
    refine G_if_le (tgt := 104) C rfl dX4_worth_71 (fun hc22 => ?_) (fun hc22 => ?_)
    · replace h := (if_pos hc22).symm.trans h
      exact eX4_worth_104 C hr hf4 h
    · replace h := (if_neg hc22).symm.trans h
      refine G_aload_n C 0 rfl rfl dX4_worth_74 ?_
      obtain ⟨hc23, h⟩ := ifn h
      refine G_getR C fl_X4_28_4 rfl (KO.dy hc23) dX4_worth_75 ?_
      refine G_iload_n C 2 rfl rfl dX4_worth_78 ?_
      refine G_iconst C (v := 1) rfl dX4_worth_79 ?_
      refine G_isub C dX4_worth_80 ?_
      refine G_aload_n C 0 rfl rfl dX4_worth_81 ?_
      refine G_getR C fl_X4_28_4 rfl (KO.dy hc23) dX4_worth_82 ?_
      refine G_iload_n C 2 rfl rfl dX4_worth_85 ?_
      refine G_iconst C (v := 1) rfl dX4_worth_86 ?_
      refine G_isub C dX4_worth_87 ?_
      obtain ⟨hc24, h⟩ := ifn h
      obtain ⟨hc25, h⟩ := ifn h
      refine G_iaload C (KD.nz hc24 rfl) hc25 dX4_worth_88 ?_
      refine G_if_ne (tgt := 96) C rfl dX4_worth_89 (fun hc26 => ?_) (fun hc26 => ?_)
      · replace h := (if_neg hc26).symm.trans h
        refine G_iconst C (v := 0) rfl dX4_worth_96 ?_
        refine G_sub [0, 1, 2, 3] rfl ?_
        exact eX4_worth_97 C hr hf4 h
      · replace h := (if_pos hc26).symm.trans h
        refine G_iconst C (v := 1) rfl dX4_worth_92 ?_
        refine G_goto (tgt := 97) C rfl dX4_worth_93 ?_
        refine G_sub [0, 1, 2, 3] rfl ?_
        exact eX4_worth_97 C hr hf4 h
set_option maxRecDepth 100000 in
set_option maxHeartbeats 4000000 in
theorem eX4_worth_4B (C : Cx E p s m args meth c cX4_worth 5 RX4) (hr : meth.sig.returnType = (some .int)) {σ0 : Sto} {r1 : Int32} {r2 : Sto} {σ : Sto} {f4 : Nat → Nat → Int32 → Int32 → Sto → Option (Int32 × Sto)} {x0 : Nat} {x1 : Nat} {x2 : Int32} {x3 : Int32} (hf4 : ∀ (x0 : Nat) (x1 : Nat) (x2 : Int32) (x3 : Int32) (σ' : Sto), f4 x0 x1 x2 x3 σ' = some (r1, r2) → G p l e (rmd 3 0 0) s m args below meth c E st (sZ σ0) ad0 (MQ below (QI E st σ0 r1 r2 ad0) args s 0 0 (AE E)) 5 0 0 σ' 4 [(0, .ref x0), (1, .ref x1), (2, .int x2), (3, .int x3)] []) (h : mX4_worth_4B f4 x0 x1 x2 x3 σ = some (r1, r2)) : G p l e (rmd 3 0 0) s m args below meth c E st (sZ σ0) ad0 (MQ below (QI E st σ0 r1 r2 ad0) args s 0 0 (AE E)) 5 0 0 σ 4 [(0, .ref x0), (1, .ref x1), (2, .int x2), (3, .int x3)] [] := by
  unfold mX4_worth_4B at h
  refine G_iload_n C 3 rfl rfl dX4_worth_4 ?_
  refine G_aload_n C 0 rfl rfl dX4_worth_5 ?_
  obtain ⟨hc1, h⟩ := ifn h
  refine G_getI C fl_X4_55_4 (Or.inl rfl) (KO.dy hc1) dX4_worth_6 ?_
  refine G_icmp_ge (tgt := 145) C rfl dX4_worth_9 (fun hc2 => ?_) (fun hc2 => ?_)
  · replace h := (if_pos hc2).symm.trans h
    refine G_aload_n C 0 rfl rfl dX4_worth_145 ?_
    refine G_getR C fl_X4_28_4 rfl (KO.dy hc1) dX4_worth_146 ?_
    refine G_iconst C (v := 0) rfl dX4_worth_149 ?_
    obtain ⟨hc3, h⟩ := ifn h
    obtain ⟨hc4, h⟩ := ifn h
    refine G_iaload C (KD.nz hc3 rfl) hc4 dX4_worth_150 ?_
    obtain ⟨rfl, rfl⟩ := some2 h
    exact G_iret C hr (Nat.le_of_ble_eq_true rfl) (Nat.le_of_ble_eq_true rfl) dX4_worth_151
  · replace h := (if_neg hc2).symm.trans h
    refine G_iload_n C 3 rfl rfl dX4_worth_12 ?_
    refine G_aload_n C 0 rfl rfl dX4_worth_13 ?_
    refine G_getR C fl_X4_25_4 rfl (KO.dy hc1) dX4_worth_14 ?_
    obtain ⟨hc5, h⟩ := ifn h
    refine G_alen (t := 0) (v := (Int32.ofNat (sN σ (sR σ x0 13)))) C (by decide) (KD.nz hc5 rfl) rfl dX4_worth_17 ?_
    refine G_icmp_ge (tgt := 145) C rfl dX4_worth_18 (fun hc6 => ?_) (fun hc6 => ?_)
    · replace h := (if_pos hc6).symm.trans h
      refine G_aload_n C 0 rfl rfl dX4_worth_145 ?_
      refine G_getR C fl_X4_28_4 rfl (KO.dy hc1) dX4_worth_146 ?_
      refine G_iconst C (v := 0) rfl dX4_worth_149 ?_
      obtain ⟨hc7, h⟩ := ifn h
      obtain ⟨hc8, h⟩ := ifn h
      refine G_iaload C (KD.nz hc7 rfl) hc8 dX4_worth_150 ?_
      obtain ⟨rfl, rfl⟩ := some2 h
      exact G_iret C hr (Nat.le_of_ble_eq_true rfl) (Nat.le_of_ble_eq_true rfl) dX4_worth_151
    · replace h := (if_neg hc6).symm.trans h
      refine G_aload_n C 0 rfl rfl dX4_worth_21 ?_
      refine G_getR C fl_X4_25_4 rfl (KO.dy hc1) dX4_worth_22 ?_
      refine G_iload_n C 3 rfl rfl dX4_worth_25 ?_
      obtain ⟨hc9, h⟩ := ifn h
      refine G_iaload C (KD.nz hc5 rfl) hc9 dX4_worth_26 ?_
      refine G_istore (L' := [(4, .int (sI σ (sR σ x0 13) (x3).toNatClampNeg)), (0, .ref x0), (1, .ref x1), (2, .int x2), (3, .int x3)]) C (Nat.le_of_ble_eq_true rfl) rfl dX4_worth_27 ?_
      refine G_iload C 0 rfl dX4_worth_29 ?_
      refine G_bipush C (v := -11) rfl dX4_worth_31 ?_
      refine G_icmp_le (tgt := 63) C rfl dX4_worth_33 (fun hc10 => ?_) (fun hc10 => ?_)
      · replace h := (if_pos hc10).symm.trans h
        refine G_sub [1, 2, 3, 4, 0] rfl ?_
        exact eX4_worth_63 C hr hf4 h
      · replace h := (if_neg hc10).symm.trans h
        refine G_iload_n C 3 rfl rfl dX4_worth_36 ?_
        refine G_aload_n C 1 rfl rfl dX4_worth_37 ?_
        refine G_getR C fl_X4_28_4 rfl (KO.dy hc1) dX4_worth_38 ?_
        obtain ⟨hc33, h⟩ := ifn h
        refine G_alen (t := 0) (v := (Int32.ofNat (sN σ (sR σ x0 15)))) C (by decide) (KD.nz hc33 rfl) rfl dX4_worth_41 ?_
        refine G_icmp_ge (tgt := 63) C rfl dX4_worth_42 (fun hc34 => ?_) (fun hc34 => ?_)
        · replace h := (if_pos hc34).symm.trans h
          refine G_sub [1, 2, 3, 4, 0] rfl ?_
          exact eX4_worth_63 C hr hf4 h
        · replace h := (if_neg hc34).symm.trans h
          refine G_aload_n C 1 rfl rfl dX4_worth_45 ?_
          refine G_getR C fl_X4_28_4 rfl (KO.dy hc1) dX4_worth_46 ?_
          refine G_iload_n C 3 rfl rfl dX4_worth_49 ?_
          refine G_iload C 0 rfl dX4_worth_50 ?_
          refine G_aload_n C 2 rfl rfl dX4_worth_52 ?_
          obtain ⟨v35, hv35, h⟩ := bnd h
          refine G_callI (run_S C [.int (sI σ (sR σ x0 13) (x3).toNatClampNeg), .ref x1] [.int x2, .ref (sR σ x0 15)] (dX4_operand hv35) ml_X4_operand ms_X4_operand lk_X4_76 ⟨(Nat.le_of_ble_eq_true rfl), (Nat.le_of_ble_eq_true rfl)⟩ ⟨(Nat.le_of_ble_eq_true rfl), (Nat.le_of_ble_eq_true rfl)⟩ rfl (Nat.le_of_ble_eq_true rfl) dX4_worth_53) ?_
          obtain ⟨hc36, h⟩ := ifn h
          obtain ⟨σ37, hs37, h⟩ := stp_elim h
          refine G_iastore C (KD.nz hc33 rfl) hc36 dX4_worth_56 ?_
          rw [← hs37]
          have hc38 : sK σ37 x0 = 5 := by rw [hs37]; exact hc1
          have hc39 : sK σ37 (sR σ x0 13) = 100 := by rw [hs37]; exact hc5
          have hc40 : sN σ37 (sR σ x0 13) = (sN σ (sR σ x0 13)) := by rw [hs37]; exact rfl
          have hc41 : sK σ37 (sR σ x0 15) = 100 := by rw [hs37]; exact hc33
          have hc42 : sN σ37 (sR σ x0 15) = (sN σ (sR σ x0 15)) := by rw [hs37]; exact rfl
          refine G_iinc (v := 1) (L' := [(2, .int (x2 + (1 : Int32))), (4, .int (sI σ (sR σ x0 13) (x3).toNatClampNeg)), (0, .ref x0), (1, .ref x1), (3, .int x3)]) C 3 rfl rfl (Nat.le_of_ble_eq_true rfl) rfl dX4_worth_57 ?_
          refine G_goto (tgt := 139) C rfl dX4_worth_60 ?_
          refine G_iinc (v := 1) (L' := [(3, .int (x3 + (1 : Int32))), (2, .int (x2 + (1 : Int32))), (4, .int (sI σ (sR σ x0 13) (x3).toNatClampNeg)), (0, .ref x0), (1, .ref x1)]) C 4 rfl rfl (Nat.le_of_ble_eq_true rfl) rfl dX4_worth_139 ?_
          refine G_goto (tgt := 4) C rfl dX4_worth_142 ?_
          refine G_sub [3, 4, 1, 0] rfl ?_
          exact hf4 _ _ _ _ _ h
set_option maxRecDepth 100000 in
set_option maxHeartbeats 4000000 in
theorem eX4_worth_4 (C : Cx E p s m args meth c cX4_worth 5 RX4) (hr : meth.sig.returnType = (some .int)) {σ0 : Sto} {r1 : Int32} {r2 : Sto} {σ : Sto} {n : Nat} {x0 : Nat} {x1 : Nat} {x2 : Int32} {x3 : Int32} (h : mX4_worth_4 n x0 x1 x2 x3 σ = some (r1, r2)) : G p l e (rmd 3 0 0) s m args below meth c E st (sZ σ0) ad0 (MQ below (QI E st σ0 r1 r2 ad0) args s 0 0 (AE E)) 5 0 0 σ 4 [(0, .ref x0), (1, .ref x1), (2, .int x2), (3, .int x3)] [] := by
  induction n generalizing x0 x1 x2 x3 σ with
  | zero => exact nomatch (show (none : Option (Int32 × Sto)) = some (r1, r2) from h)
  | succ n ih => exact eX4_worth_4B C hr (fun z0 z1 z2 z3 σ9 h9 => ih h9) h
set_option maxRecDepth 100000 in
set_option maxHeartbeats 4000000 in
theorem dX4_worth {σ : Sto} {a0 : Nat} {p0 : Nat} {r1 : Int32} {r2 : Sto} (hk0 : sK σ a0 = 5) (h : mX4_worth a0 p0 σ = some (r1, r2)) : MM l yX4_worth cX4_worth 5 (some .int) 3 0 0 E st σ [.ref a0, .ref p0] (QI E st σ r1 r2) := by
  unfold mX4_worth at h
  refine MM_of (by decide) (Nat.le_of_ble_eq_true rfl) rfl (fun p e s m args below meth c ad0 C hr hn => ?_)
  refine G_iconst C (v := 0) rfl dX4_worth_0 ?_
  refine G_istore_n (L' := [(2, .int (0 : Int32)), (0, .ref a0), (1, .ref p0)]) C rfl (Nat.le_of_ble_eq_true rfl) rfl dX4_worth_1 ?_
  refine G_iconst C (v := 0) rfl dX4_worth_2 ?_
  refine G_istore_n (L' := [(3, .int (0 : Int32)), (2, .int (0 : Int32)), (0, .ref a0), (1, .ref p0)]) C rfl (Nat.le_of_ble_eq_true rfl) rfl dX4_worth_3 ?_
  refine G_sub [2, 3, 1, 0] rfl ?_
  exact eX4_worth_4 C hr h
set_option maxRecDepth 100000 in
set_option maxHeartbeats 4000000 in
theorem dX4_isDue {σ : Sto} {a0 : Nat} {p0 : Nat} {p1 : Int32} {r1 : Int32} {r2 : Sto} (hk0 : sK σ a0 = 5) (h : mX4_isDue a0 p0 p1 σ = some (r1, r2)) : MM l yX4_isDue cX4_isDue 3 (some .boolean) 4 0 0 E st σ [.ref a0, .ref p0, .int p1] (QI E st σ r1 r2) := by
  unfold mX4_isDue at h
  refine MM_of (by decide) (Nat.le_of_ble_eq_true rfl) rfl (fun p e s m args below meth c ad0 C hr hn => ?_)
  refine G_aload_n C 0 rfl rfl dX4_isDue_0 ?_
  refine G_getI C fl_X4_55_4 (Or.inl rfl) (KO.dy hk0) dX4_isDue_1 ?_
  refine G_if_ne (tgt := 11) C rfl dX4_isDue_4 (fun hc1 => ?_) (fun hc1 => ?_)
  · replace h := (if_neg hc1).symm.trans h
    refine G_aload_n C 0 rfl rfl dX4_isDue_11 ?_
    refine G_aload_n C 1 rfl rfl dX4_isDue_12 ?_
    obtain ⟨v2, σ2, hv2, h⟩ := bd2_elim h
    refine G_callI (run_V C [.ref p0] [] (dX4_worth hk0 hv2) ml_X4_worth mv_X4_worth lk_X4_72 ⟨(Nat.le_of_ble_eq_true rfl), (Nat.le_of_ble_eq_true rfl)⟩ ⟨(Nat.le_of_ble_eq_true rfl), (Nat.le_of_ble_eq_true rfl)⟩ vq_4 rfl (KO.dy hk0) rfl (Nat.le_of_ble_eq_true rfl) dX4_isDue_13) ?_
    refine G_if_eq (tgt := 23) C rfl dX4_isDue_16 (fun hc3 => ?_) (fun hc3 => ?_)
    · replace h := (if_pos hc3).symm.trans h
      refine G_iconst C (v := 0) rfl dX4_isDue_23 ?_
      obtain ⟨rfl, rfl⟩ := some2 h
      exact G_zret C (by decide) hr (Nat.le_of_ble_eq_true rfl) (Nat.le_of_ble_eq_true rfl) dX4_isDue_24
    · replace h := (if_neg hc3).symm.trans h
      refine G_iconst C (v := 1) rfl dX4_isDue_19 ?_
      refine G_goto (tgt := 24) C rfl dX4_isDue_20 ?_
      obtain ⟨rfl, rfl⟩ := some2 h
      exact G_zret C (by decide) hr (Nat.le_of_ble_eq_true rfl) (Nat.le_of_ble_eq_true rfl) dX4_isDue_24
  · replace h := (if_pos hc1).symm.trans h
    refine G_iload_n C 2 rfl rfl dX4_isDue_7 ?_
    refine G_goto (tgt := 24) C rfl dX4_isDue_8 ?_
    obtain ⟨hc4, h⟩ := ifn h
    obtain ⟨rfl, rfl⟩ := some2 h
    exact G_zret C hc4 hr (Nat.le_of_ble_eq_true rfl) (Nat.le_of_ble_eq_true rfl) dX4_isDue_24
set_option maxRecDepth 100000 in
set_option maxHeartbeats 4000000 in
theorem eX1_init_347B (C : Cx E p s m args meth c cX1_init 8 RX1) (hr : meth.sig.returnType = none) (hn : meth.name = "<init>") {σ0 : Sto} {r2 : Sto} {σ : Sto} {f347 : Nat → Nat → Int32 → Sto → Option Sto} {x0 : Nat} {x6 : Nat} {x7 : Int32} (hf347 : ∀ (x0 : Nat) (x6 : Nat) (x7 : Int32) (σ' : Sto), f347 x0 x6 x7 σ' = some r2 → G p l e (rmd 4 19 1190) s m args below meth c E false (sZ σ0) ad0 (MQ below (QV E false σ0 r2 ad0) args s 19 1190 (AE E)) 8 19 1190 σ' 347 [(0, .ref x0), (6, .ref x6), (7, .int x7)] []) (h : mX1_init_347B f347 x0 x6 x7 σ = some r2) : G p l e (rmd 4 19 1190) s m args below meth c E false (sZ σ0) ad0 (MQ below (QV E false σ0 r2 ad0) args s 19 1190 (AE E)) 8 19 1190 σ 347 [(0, .ref x0), (6, .ref x6), (7, .int x7)] [] := by
  unfold mX1_init_347B at h
  refine G_iload C 2 rfl dX1_init_347 ?_
  refine G_aload_n C 0 rfl rfl dX1_init_349 ?_
  obtain ⟨hc125, h⟩ := ifn h
  refine G_getR C fl_X1_71_1 rfl (KO.dy hc125) dX1_init_350 ?_
  obtain ⟨hc126, h⟩ := ifn h
  refine G_alen (t := 8) (v := (Int32.ofNat (sN σ (sR σ x0 14)))) C (by decide) (KD.nz hc126 rfl) rfl dX1_init_353 ?_
  refine G_icmp_ge (tgt := 372) C rfl dX1_init_354 (fun hc127 => ?_) (fun hc127 => ?_)
  · replace h := (if_pos hc127).symm.trans h
    obtain rfl := Option.some.inj h
    exact G_vret C hr (Nat.le_of_ble_eq_true rfl) (Nat.le_of_ble_eq_true rfl) dX1_init_372
  · replace h := (if_neg hc127).symm.trans h
    refine G_aload_n C 0 rfl rfl dX1_init_357 ?_
    refine G_getR C fl_X1_71_1 rfl (KO.dy hc125) dX1_init_358 ?_
    refine G_iload C 2 rfl dX1_init_361 ?_
    refine G_aload C 1 rfl dX1_init_363 ?_
    obtain ⟨hc128, h⟩ := ifn h
    obtain ⟨hc129, h⟩ := ifn h
    obtain ⟨σ130, hs130, h⟩ := stp_elim h
    refine G_aastore (t := 8) (ci := 4) C ⟨by decide, by decide⟩ vq_4 rfl (KD.nz hc126 rfl) (KO.dy hc129) hc128 dX1_init_365 ?_
    rw [← hs130]
    have hc131 : sK σ130 x0 = 2 := by rw [hs130]; exact hc125
    have hc132 : sK σ130 (sR σ x0 14) = 108 := by rw [hs130]; exact hc126
    have hc133 : sN σ130 (sR σ x0 14) = (sN σ (sR σ x0 14)) := by rw [hs130]; exact rfl
    have hc134 : sK σ130 x6 = 5 := by rw [hs130]; exact hc129
    refine G_iinc (v := 1) (L' := [(7, .int (x7 + (1 : Int32))), (0, .ref x0), (6, .ref x6)]) C 2 rfl rfl (Nat.le_of_ble_eq_true rfl) rfl dX1_init_366 ?_
    refine G_goto (tgt := 347) C rfl dX1_init_369 ?_
    refine G_sub [1, 2, 0] rfl ?_
    exact hf347 _ _ _ _ h
set_option maxRecDepth 100000 in
set_option maxHeartbeats 4000000 in
theorem eX1_init_347 (C : Cx E p s m args meth c cX1_init 8 RX1) (hr : meth.sig.returnType = none) (hn : meth.name = "<init>") {σ0 : Sto} {r2 : Sto} {σ : Sto} {n : Nat} {x0 : Nat} {x6 : Nat} {x7 : Int32} (h : mX1_init_347 n x0 x6 x7 σ = some r2) : G p l e (rmd 4 19 1190) s m args below meth c E false (sZ σ0) ad0 (MQ below (QV E false σ0 r2 ad0) args s 19 1190 (AE E)) 8 19 1190 σ 347 [(0, .ref x0), (6, .ref x6), (7, .int x7)] [] := by
  induction n generalizing x0 x6 x7 σ with
  | zero => exact nomatch (show (none : Option Sto) = some r2 from h)
  | succ n ih => exact eX1_init_347B C hr hn (fun z0 z1 z2 σ9 h9 => ih h9) h
set_option maxRecDepth 100000 in
set_option maxHeartbeats 4000000 in
theorem eX1_init_310B (C : Cx E p s m args meth c cX1_init 8 RX1) (hr : meth.sig.returnType = none) (hn : meth.name = "<init>") {σ0 : Sto} {r2 : Sto} {σ : Sto} {f310 : Nat → Nat → Int32 → Sto → Option Sto} {x0 : Nat} {x5 : Nat} {x6 : Int32} (hf310 : ∀ (x0 : Nat) (x5 : Nat) (x6 : Int32) (σ' : Sto), f310 x0 x5 x6 σ' = some r2 → G p l e (rmd 4 19 1190) s m args below meth c E false (sZ σ0) ad0 (MQ below (QV E false σ0 r2 ad0) args s 19 1190 (AE E)) 8 14 578 σ' 310 [(0, .ref x0), (5, .ref x5), (6, .int x6)] []) (h : mX1_init_310B f310 x0 x5 x6 σ = some r2) : G p l e (rmd 4 19 1190) s m args below meth c E false (sZ σ0) ad0 (MQ below (QV E false σ0 r2 ad0) args s 19 1190 (AE E)) 8 14 578 σ 310 [(0, .ref x0), (5, .ref x5), (6, .int x6)] [] := by
  unfold mX1_init_310B at h
  refine G_iload C 2 rfl dX1_init_310 ?_
  refine G_aload_n C 0 rfl rfl dX1_init_312 ?_
  obtain ⟨hc119, h⟩ := ifn h
  refine G_getR C fl_X1_63_1 rfl (KO.dy hc119) dX1_init_313 ?_
  obtain ⟨hc120, h⟩ := ifn h
  refine G_alen (t := 7) (v := (Int32.ofNat (sN σ (sR σ x0 12)))) C (by decide) (KD.nz hc120 rfl) rfl dX1_init_316 ?_
  refine G_icmp_ge (tgt := 335) C rfl dX1_init_317 (fun hc121 => ?_) (fun hc121 => ?_)
  · replace h := (if_pos hc121).symm.trans h
    obtain ⟨σ122, hs122, h⟩ := stp_elim h
    refine G_new C vq_4 uw_X4 nl_X1_69 ni_X4.1 ni_X4.2 (Nat.le_of_ble_eq_true rfl) (Nat.le_of_ble_eq_true rfl) dX1_init_335 ?_
    rw [← hs122]
    have hc123 : sK σ122 (sZ σ) = 5 := by rw [hs122]; exact (nwK_K _ _ _ _).trans (if_pos rfl)
    refine G_dup C rfl dX1_init_338 ?_
    obtain ⟨σ124, hv124, h⟩ := bnd h
    refine G_callV (run_I (kd := 5) C [] [.ref (sZ σ)] (dX4_init hc123 hv124) ml_X4_init mi_X4_init lk_X1_92 ⟨(Nat.le_of_ble_eq_true rfl), (Nat.le_of_ble_eq_true rfl)⟩ ⟨(Nat.le_of_ble_eq_true rfl), (Nat.le_of_ble_eq_true rfl)⟩ (by decide) (KO.dy hc123) rfl (Nat.le_of_ble_eq_true rfl) dX1_init_339) ?_
    refine G_astore (L' := [(6, .ref (sZ σ)), (0, .ref x0), (5, .ref x5)]) C (Nat.le_of_ble_eq_true rfl) rfl dX1_init_342 ?_
    refine G_iconst C (v := 0) rfl dX1_init_344 ?_
    refine G_istore (L' := [(7, .int (0 : Int32)), (6, .ref (sZ σ)), (0, .ref x0), (5, .ref x5)]) C (Nat.le_of_ble_eq_true rfl) rfl dX1_init_345 ?_
    refine G_sub [2, 1, 0] rfl ?_
    exact eX1_init_347 C hr hn h
  · replace h := (if_neg hc121).symm.trans h
    refine G_aload_n C 0 rfl rfl dX1_init_320 ?_
    refine G_getR C fl_X1_63_1 rfl (KO.dy hc119) dX1_init_321 ?_
    refine G_iload C 2 rfl dX1_init_324 ?_
    refine G_aload C 1 rfl dX1_init_326 ?_
    obtain ⟨hc135, h⟩ := ifn h
    obtain ⟨hc136, h⟩ := ifn h
    obtain ⟨σ137, hs137, h⟩ := stp_elim h
    refine G_aastore (t := 7) (ci := 3) C ⟨by decide, by decide⟩ vq_3 rfl (KD.nz hc120 rfl) (KO.dy hc136) hc135 dX1_init_328 ?_
    rw [← hs137]
    have hc138 : sK σ137 x0 = 2 := by rw [hs137]; exact hc119
    have hc139 : sK σ137 (sR σ x0 12) = 107 := by rw [hs137]; exact hc120
    have hc140 : sN σ137 (sR σ x0 12) = (sN σ (sR σ x0 12)) := by rw [hs137]; exact rfl
    have hc141 : sK σ137 x5 = 4 := by rw [hs137]; exact hc136
    refine G_iinc (v := 1) (L' := [(6, .int (x6 + (1 : Int32))), (0, .ref x0), (5, .ref x5)]) C 2 rfl rfl (Nat.le_of_ble_eq_true rfl) rfl dX1_init_329 ?_
    refine G_goto (tgt := 310) C rfl dX1_init_332 ?_
    refine G_sub [1, 2, 0] rfl ?_
    exact hf310 _ _ _ _ h
set_option maxRecDepth 100000 in
set_option maxHeartbeats 4000000 in
theorem eX1_init_310 (C : Cx E p s m args meth c cX1_init 8 RX1) (hr : meth.sig.returnType = none) (hn : meth.name = "<init>") {σ0 : Sto} {r2 : Sto} {σ : Sto} {n : Nat} {x0 : Nat} {x5 : Nat} {x6 : Int32} (h : mX1_init_310 n x0 x5 x6 σ = some r2) : G p l e (rmd 4 19 1190) s m args below meth c E false (sZ σ0) ad0 (MQ below (QV E false σ0 r2 ad0) args s 19 1190 (AE E)) 8 14 578 σ 310 [(0, .ref x0), (5, .ref x5), (6, .int x6)] [] := by
  induction n generalizing x0 x5 x6 σ with
  | zero => exact nomatch (show (none : Option Sto) = some r2 from h)
  | succ n ih => exact eX1_init_310B C hr hn (fun z0 z1 z2 σ9 h9 => ih h9) h
set_option maxRecDepth 100000 in
set_option maxHeartbeats 4000000 in
theorem eX1_init_282B (C : Cx E p s m args meth c cX1_init 8 RX1) (hr : meth.sig.returnType = none) (hn : meth.name = "<init>") {σ0 : Sto} {r2 : Sto} {σ : Sto} {f282 : Nat → Nat → Int32 → Sto → Option Sto} {x0 : Nat} {x5 : Nat} {x6 : Int32} (hf282 : ∀ (x0 : Nat) (x5 : Nat) (x6 : Int32) (σ' : Sto), f282 x0 x5 x6 σ' = some r2 → G p l e (rmd 4 19 1190) s m args below meth c E false (sZ σ0) ad0 (MQ below (QV E false σ0 r2 ad0) args s 19 1190 (AE E)) 8 14 578 σ' 282 [(0, .ref x0), (5, .ref x5), (6, .int x6)] []) (h : mX1_init_282B f282 x0 x5 x6 σ = some r2) : G p l e (rmd 4 19 1190) s m args below meth c E false (sZ σ0) ad0 (MQ below (QV E false σ0 r2 ad0) args s 19 1190 (AE E)) 8 14 578 σ 282 [(0, .ref x0), (5, .ref x5), (6, .int x6)] [] := by
  unfold mX1_init_282B at h
  refine G_iload C 2 rfl dX1_init_282 ?_
  refine G_aload_n C 0 rfl rfl dX1_init_284 ?_
  obtain ⟨hc116, h⟩ := ifn h
  refine G_getR C fl_X1_56_1 rfl (KO.dy hc116) dX1_init_285 ?_
  obtain ⟨hc117, h⟩ := ifn h
  refine G_alen (t := 7) (v := (Int32.ofNat (sN σ (sR σ x0 10)))) C (by decide) (KD.nz hc117 rfl) rfl dX1_init_288 ?_
  refine G_icmp_ge (tgt := 307) C rfl dX1_init_289 (fun hc118 => ?_) (fun hc118 => ?_)
  · replace h := (if_pos hc118).symm.trans h
    refine G_iconst C (v := 0) rfl dX1_init_307 ?_
    refine G_istore (L' := [(6, .int (0 : Int32)), (0, .ref x0), (5, .ref x5)]) C (Nat.le_of_ble_eq_true rfl) rfl dX1_init_308 ?_
    refine G_sub [1, 2, 0] rfl ?_
    exact eX1_init_310 C hr hn h
  · replace h := (if_neg hc118).symm.trans h
    refine G_aload_n C 0 rfl rfl dX1_init_292 ?_
    refine G_getR C fl_X1_56_1 rfl (KO.dy hc116) dX1_init_293 ?_
    refine G_iload C 2 rfl dX1_init_296 ?_
    refine G_aload C 1 rfl dX1_init_298 ?_
    obtain ⟨hc142, h⟩ := ifn h
    obtain ⟨hc143, h⟩ := ifn h
    obtain ⟨σ144, hs144, h⟩ := stp_elim h
    refine G_aastore (t := 7) (ci := 3) C ⟨by decide, by decide⟩ vq_3 rfl (KD.nz hc117 rfl) (KO.dy hc143) hc142 dX1_init_300 ?_
    rw [← hs144]
    have hc145 : sK σ144 x0 = 2 := by rw [hs144]; exact hc116
    have hc146 : sK σ144 (sR σ x0 10) = 107 := by rw [hs144]; exact hc117
    have hc147 : sN σ144 (sR σ x0 10) = (sN σ (sR σ x0 10)) := by rw [hs144]; exact rfl
    have hc148 : sK σ144 x5 = 4 := by rw [hs144]; exact hc143
    refine G_iinc (v := 1) (L' := [(6, .int (x6 + (1 : Int32))), (0, .ref x0), (5, .ref x5)]) C 2 rfl rfl (Nat.le_of_ble_eq_true rfl) rfl dX1_init_301 ?_
    refine G_goto (tgt := 282) C rfl dX1_init_304 ?_
    refine G_sub [1, 2, 0] rfl ?_
    exact hf282 _ _ _ _ h
set_option maxRecDepth 100000 in
set_option maxHeartbeats 4000000 in
theorem eX1_init_282 (C : Cx E p s m args meth c cX1_init 8 RX1) (hr : meth.sig.returnType = none) (hn : meth.name = "<init>") {σ0 : Sto} {r2 : Sto} {σ : Sto} {n : Nat} {x0 : Nat} {x5 : Nat} {x6 : Int32} (h : mX1_init_282 n x0 x5 x6 σ = some r2) : G p l e (rmd 4 19 1190) s m args below meth c E false (sZ σ0) ad0 (MQ below (QV E false σ0 r2 ad0) args s 19 1190 (AE E)) 8 14 578 σ 282 [(0, .ref x0), (5, .ref x5), (6, .int x6)] [] := by
  induction n generalizing x0 x5 x6 σ with
  | zero => exact nomatch (show (none : Option Sto) = some r2 from h)
  | succ n ih => exact eX1_init_282B C hr hn (fun z0 z1 z2 σ9 h9 => ih h9) h
set_option maxRecDepth 100000 in
set_option maxHeartbeats 4000000 in
theorem eX1_init_238B (C : Cx E p s m args meth c cX1_init 8 RX1) (hr : meth.sig.returnType = none) (hn : meth.name = "<init>") {σ0 : Sto} {r2 : Sto} {σ : Sto} {f238 : Nat → Nat → Int32 → Sto → Option Sto} {x0 : Nat} {x4 : Nat} {x5 : Int32} (hf238 : ∀ (x0 : Nat) (x4 : Nat) (x5 : Int32) (σ' : Sto), f238 x0 x4 x5 σ' = some r2 → G p l e (rmd 4 19 1190) s m args below meth c E false (sZ σ0) ad0 (MQ below (QV E false σ0 r2 ad0) args s 19 1190 (AE E)) 8 13 565 σ' 238 [(0, .ref x0), (4, .ref x4), (5, .int x5)] []) (h : mX1_init_238B f238 x0 x4 x5 σ = some r2) : G p l e (rmd 4 19 1190) s m args below meth c E false (sZ σ0) ad0 (MQ below (QV E false σ0 r2 ad0) args s 19 1190 (AE E)) 8 13 565 σ 238 [(0, .ref x0), (4, .ref x4), (5, .int x5)] [] := by
  unfold mX1_init_238B at h
  refine G_iload C 2 rfl dX1_init_238 ?_
  refine G_aload_n C 0 rfl rfl dX1_init_240 ?_
  obtain ⟨hc110, h⟩ := ifn h
  refine G_getR C fl_X1_47_1 rfl (KO.dy hc110) dX1_init_241 ?_
  obtain ⟨hc111, h⟩ := ifn h
  refine G_alen (t := 6) (v := (Int32.ofNat (sN σ (sR σ x0 8)))) C (by decide) (KD.nz hc111 rfl) rfl dX1_init_244 ?_
  refine G_icmp_ge (tgt := 263) C rfl dX1_init_245 (fun hc112 => ?_) (fun hc112 => ?_)
  · replace h := (if_pos hc112).symm.trans h
    obtain ⟨σ113, hs113, h⟩ := stp_elim h
    refine G_new C vq_3 uw_X3 nl_X1_54 ni_X3.1 ni_X3.2 (Nat.le_of_ble_eq_true rfl) (Nat.le_of_ble_eq_true rfl) dX1_init_263 ?_
    rw [← hs113]
    have hc114 : sK σ113 (sZ σ) = 4 := by rw [hs113]; exact (nwK_K _ _ _ _).trans (if_pos rfl)
    refine G_dup C rfl dX1_init_266 ?_
    refine G_iconst C (v := -1) rfl dX1_init_267 ?_
    refine G_iconst C (v := -1) rfl dX1_init_268 ?_
    refine G_iconst C (v := -1) rfl dX1_init_269 ?_
    refine G_iconst C (v := -1) rfl dX1_init_270 ?_
    refine G_iconst C (v := -1) rfl dX1_init_271 ?_
    refine G_ldc C kc_X1_88 dX1_init_272 ?_
    obtain ⟨σ115, hv115, h⟩ := bnd h
    refine G_callV (run_I (kd := 4) C [.int (-1 : Int32), .int (-1 : Int32), .int (-1 : Int32), .int (-1 : Int32), .int (-1 : Int32), .int (1000000 : Int32)] [.ref (sZ σ)] (dX3_init hc114 hv115) ml_X3_init mi_X3_init lk_X1_89 ⟨(Nat.le_of_ble_eq_true rfl), (Nat.le_of_ble_eq_true rfl)⟩ ⟨(Nat.le_of_ble_eq_true rfl), (Nat.le_of_ble_eq_true rfl)⟩ (by decide) (KO.dy hc114) rfl (Nat.le_of_ble_eq_true rfl) dX1_init_274) ?_
    refine G_astore (L' := [(5, .ref (sZ σ)), (0, .ref x0), (4, .ref x4)]) C (Nat.le_of_ble_eq_true rfl) rfl dX1_init_277 ?_
    refine G_iconst C (v := 0) rfl dX1_init_279 ?_
    refine G_istore (L' := [(6, .int (0 : Int32)), (5, .ref (sZ σ)), (0, .ref x0), (4, .ref x4)]) C (Nat.le_of_ble_eq_true rfl) rfl dX1_init_280 ?_
    refine G_sub [2, 1, 0] rfl ?_
    exact eX1_init_282 C hr hn h
  · replace h := (if_neg hc112).symm.trans h
    refine G_aload_n C 0 rfl rfl dX1_init_248 ?_
    refine G_getR C fl_X1_47_1 rfl (KO.dy hc110) dX1_init_249 ?_
    refine G_iload C 2 rfl dX1_init_252 ?_
    refine G_aload C 1 rfl dX1_init_254 ?_
    obtain ⟨hc149, h⟩ := ifn h
    obtain ⟨hc150, h⟩ := ifn h
    obtain ⟨σ151, hs151, h⟩ := stp_elim h
    refine G_aastore (t := 6) (ci := 6) C ⟨by decide, by decide⟩ vq_6 rfl (KD.nz hc111 rfl) (KO.dy hc150) hc149 dX1_init_256 ?_
    rw [← hs151]
    have hc152 : sK σ151 x0 = 2 := by rw [hs151]; exact hc110
    have hc153 : sK σ151 (sR σ x0 8) = 106 := by rw [hs151]; exact hc111
    have hc154 : sN σ151 (sR σ x0 8) = (sN σ (sR σ x0 8)) := by rw [hs151]; exact rfl
    have hc155 : sK σ151 x4 = 7 := by rw [hs151]; exact hc150
    refine G_iinc (v := 1) (L' := [(5, .int (x5 + (1 : Int32))), (0, .ref x0), (4, .ref x4)]) C 2 rfl rfl (Nat.le_of_ble_eq_true rfl) rfl dX1_init_257 ?_
    refine G_goto (tgt := 238) C rfl dX1_init_260 ?_
    refine G_sub [1, 2, 0] rfl ?_
    exact hf238 _ _ _ _ h
set_option maxRecDepth 100000 in
set_option maxHeartbeats 4000000 in
theorem eX1_init_238 (C : Cx E p s m args meth c cX1_init 8 RX1) (hr : meth.sig.returnType = none) (hn : meth.name = "<init>") {σ0 : Sto} {r2 : Sto} {σ : Sto} {n : Nat} {x0 : Nat} {x4 : Nat} {x5 : Int32} (h : mX1_init_238 n x0 x4 x5 σ = some r2) : G p l e (rmd 4 19 1190) s m args below meth c E false (sZ σ0) ad0 (MQ below (QV E false σ0 r2 ad0) args s 19 1190 (AE E)) 8 13 565 σ 238 [(0, .ref x0), (4, .ref x4), (5, .int x5)] [] := by
  induction n generalizing x0 x4 x5 σ with
  | zero => exact nomatch (show (none : Option Sto) = some r2 from h)
  | succ n ih => exact eX1_init_238B C hr hn (fun z0 z1 z2 σ9 h9 => ih h9) h
set_option maxRecDepth 100000 in
set_option maxHeartbeats 4000000 in
theorem eX1_init_197B (C : Cx E p s m args meth c cX1_init 8 RX1) (hr : meth.sig.returnType = none) (hn : meth.name = "<init>") {σ0 : Sto} {r2 : Sto} {σ : Sto} {f197 : Nat → Nat → Int32 → Sto → Option Sto} {x0 : Nat} {x3 : Nat} {x4 : Int32} (hf197 : ∀ (x0 : Nat) (x3 : Nat) (x4 : Int32) (σ' : Sto), f197 x0 x3 x4 σ' = some r2 → G p l e (rmd 4 19 1190) s m args below meth c E false (sZ σ0) ad0 (MQ below (QV E false σ0 r2 ad0) args s 19 1190 (AE E)) 8 12 562 σ' 197 [(0, .ref x0), (3, .ref x3), (4, .int x4)] []) (h : mX1_init_197B f197 x0 x3 x4 σ = some r2) : G p l e (rmd 4 19 1190) s m args below meth c E false (sZ σ0) ad0 (MQ below (QV E false σ0 r2 ad0) args s 19 1190 (AE E)) 8 12 562 σ 197 [(0, .ref x0), (3, .ref x3), (4, .int x4)] [] := by
  unfold mX1_init_197B at h
  refine G_iload C 2 rfl dX1_init_197 ?_
  refine G_aload_n C 0 rfl rfl dX1_init_199 ?_
  obtain ⟨hc104, h⟩ := ifn h
  refine G_getR C fl_X1_38_1 rfl (KO.dy hc104) dX1_init_200 ?_
  obtain ⟨hc105, h⟩ := ifn h
  refine G_alen (t := 5) (v := (Int32.ofNat (sN σ (sR σ x0 6)))) C (by decide) (KD.nz hc105 rfl) rfl dX1_init_203 ?_
  refine G_icmp_ge (tgt := 221) C rfl dX1_init_204 (fun hc106 => ?_) (fun hc106 => ?_)
  · replace h := (if_pos hc106).symm.trans h
    obtain ⟨σ107, hs107, h⟩ := stp_elim h
    refine G_new C vq_6 uw_X6 nl_X1_45 ni_X6.1 ni_X6.2 (Nat.le_of_ble_eq_true rfl) (Nat.le_of_ble_eq_true rfl) dX1_init_221 ?_
    rw [← hs107]
    have hc108 : sK σ107 (sZ σ) = 7 := by rw [hs107]; exact (nwK_K _ _ _ _).trans (if_pos rfl)
    refine G_dup C rfl dX1_init_224 ?_
    refine G_iconst C (v := -1) rfl dX1_init_225 ?_
    refine G_iconst C (v := -1) rfl dX1_init_226 ?_
    refine G_sipush C (v := 1000) rfl dX1_init_227 ?_
    obtain ⟨σ109, hv109, h⟩ := bnd h
    refine G_callV (run_I (kd := 7) C [.int (-1 : Int32), .int (-1 : Int32), .int (1000 : Int32)] [.ref (sZ σ)] (dX6_init hc108 hv109) ml_X6_init mi_X6_init lk_X1_85 ⟨(Nat.le_of_ble_eq_true rfl), (Nat.le_of_ble_eq_true rfl)⟩ ⟨(Nat.le_of_ble_eq_true rfl), (Nat.le_of_ble_eq_true rfl)⟩ (by decide) (KO.dy hc108) rfl (Nat.le_of_ble_eq_true rfl) dX1_init_230) ?_
    refine G_astore (L' := [(4, .ref (sZ σ)), (0, .ref x0), (3, .ref x3)]) C (Nat.le_of_ble_eq_true rfl) rfl dX1_init_233 ?_
    refine G_iconst C (v := 0) rfl dX1_init_235 ?_
    refine G_istore (L' := [(5, .int (0 : Int32)), (4, .ref (sZ σ)), (0, .ref x0), (3, .ref x3)]) C (Nat.le_of_ble_eq_true rfl) rfl dX1_init_236 ?_
    refine G_sub [2, 1, 0] rfl ?_
    exact eX1_init_238 C hr hn h
  · replace h := (if_neg hc106).symm.trans h
    refine G_aload_n C 0 rfl rfl dX1_init_207 ?_
    refine G_getR C fl_X1_38_1 rfl (KO.dy hc104) dX1_init_208 ?_
    refine G_iload C 2 rfl dX1_init_211 ?_
    refine G_aload_n C 1 rfl rfl dX1_init_213 ?_
    obtain ⟨hc156, h⟩ := ifn h
    obtain ⟨hc157, h⟩ := ifn h
    obtain ⟨σ158, hs158, h⟩ := stp_elim h
    refine G_aastore (t := 5) (ci := 8) C ⟨by decide, by decide⟩ vq_8 rfl (KD.nz hc105 rfl) (KO.dy hc157) hc156 dX1_init_214 ?_
    rw [← hs158]
    have hc159 : sK σ158 x0 = 2 := by rw [hs158]; exact hc104
    have hc160 : sK σ158 (sR σ x0 6) = 105 := by rw [hs158]; exact hc105
    have hc161 : sN σ158 (sR σ x0 6) = (sN σ (sR σ x0 6)) := by rw [hs158]; exact rfl
    have hc162 : sK σ158 x3 = 9 := by rw [hs158]; exact hc157
    refine G_iinc (v := 1) (L' := [(4, .int (x4 + (1 : Int32))), (0, .ref x0), (3, .ref x3)]) C 2 rfl rfl (Nat.le_of_ble_eq_true rfl) rfl dX1_init_215 ?_
    refine G_goto (tgt := 197) C rfl dX1_init_218 ?_
    refine G_sub [1, 2, 0] rfl ?_
    exact hf197 _ _ _ _ h
set_option maxRecDepth 100000 in
set_option maxHeartbeats 4000000 in
theorem eX1_init_197 (C : Cx E p s m args meth c cX1_init 8 RX1) (hr : meth.sig.returnType = none) (hn : meth.name = "<init>") {σ0 : Sto} {r2 : Sto} {σ : Sto} {n : Nat} {x0 : Nat} {x3 : Nat} {x4 : Int32} (h : mX1_init_197 n x0 x3 x4 σ = some r2) : G p l e (rmd 4 19 1190) s m args below meth c E false (sZ σ0) ad0 (MQ below (QV E false σ0 r2 ad0) args s 19 1190 (AE E)) 8 12 562 σ 197 [(0, .ref x0), (3, .ref x3), (4, .int x4)] [] := by
  induction n generalizing x0 x3 x4 σ with
  | zero => exact nomatch (show (none : Option Sto) = some r2 from h)
  | succ n ih => exact eX1_init_197B C hr hn (fun z0 z1 z2 σ9 h9 => ih h9) h
set_option maxRecDepth 100000 in
set_option maxHeartbeats 4000000 in
theorem eX1_init_162B (C : Cx E p s m args meth c cX1_init 8 RX1) (hr : meth.sig.returnType = none) (hn : meth.name = "<init>") {σ0 : Sto} {r2 : Sto} {σ : Sto} {f162 : Nat → Nat → Int32 → Sto → Option Sto} {x0 : Nat} {x2 : Nat} {x3 : Int32} (hf162 : ∀ (x0 : Nat) (x2 : Nat) (x3 : Int32) (σ' : Sto), f162 x0 x2 x3 σ' = some r2 → G p l e (rmd 4 19 1190) s m args below meth c E false (sZ σ0) ad0 (MQ below (QV E false σ0 r2 ad0) args s 19 1190 (AE E)) 8 11 560 σ' 162 [(0, .ref x0), (2, .ref x2), (3, .int x3)] []) (h : mX1_init_162B f162 x0 x2 x3 σ = some r2) : G p l e (rmd 4 19 1190) s m args below meth c E false (sZ σ0) ad0 (MQ below (QV E false σ0 r2 ad0) args s 19 1190 (AE E)) 8 11 560 σ 162 [(0, .ref x0), (2, .ref x2), (3, .int x3)] [] := by
  unfold mX1_init_162B at h
  refine G_iload_n C 2 rfl rfl dX1_init_162 ?_
  refine G_aload_n C 0 rfl rfl dX1_init_163 ?_
  obtain ⟨hc98, h⟩ := ifn h
  refine G_getR C fl_X1_29_1 rfl (KO.dy hc98) dX1_init_164 ?_
  obtain ⟨hc99, h⟩ := ifn h
  refine G_alen (t := 4) (v := (Int32.ofNat (sN σ (sR σ x0 4)))) C (by decide) (KD.nz hc99 rfl) rfl dX1_init_167 ?_
  refine G_icmp_ge (tgt := 184) C rfl dX1_init_168 (fun hc100 => ?_) (fun hc100 => ?_)
  · replace h := (if_pos hc100).symm.trans h
    obtain ⟨σ101, hs101, h⟩ := stp_elim h
    refine G_new C vq_8 uw_X8 nl_X1_36 ni_X8.1 ni_X8.2 (Nat.le_of_ble_eq_true rfl) (Nat.le_of_ble_eq_true rfl) dX1_init_184 ?_
    rw [← hs101]
    have hc102 : sK σ101 (sZ σ) = 9 := by rw [hs101]; exact (nwK_K _ _ _ _).trans (if_pos rfl)
    refine G_dup C rfl dX1_init_187 ?_
    refine G_iconst C (v := -1) rfl dX1_init_188 ?_
    refine G_iconst C (v := 0) rfl dX1_init_189 ?_
    obtain ⟨σ103, hv103, h⟩ := bnd h
    refine G_callV (run_I (kd := 9) C [.int (-1 : Int32), .int (0 : Int32)] [.ref (sZ σ)] (dX8_init hc102 hv103) ml_X8_init mi_X8_init lk_X1_84 ⟨(Nat.le_of_ble_eq_true rfl), (Nat.le_of_ble_eq_true rfl)⟩ ⟨(Nat.le_of_ble_eq_true rfl), (Nat.le_of_ble_eq_true rfl)⟩ (by decide) (KO.dy hc102) rfl (Nat.le_of_ble_eq_true rfl) dX1_init_190) ?_
    refine G_astore_n (L' := [(3, .ref (sZ σ)), (0, .ref x0), (2, .ref x2)]) C rfl (Nat.le_of_ble_eq_true rfl) rfl dX1_init_193 ?_
    refine G_iconst C (v := 0) rfl dX1_init_194 ?_
    refine G_istore (L' := [(4, .int (0 : Int32)), (3, .ref (sZ σ)), (0, .ref x0), (2, .ref x2)]) C (Nat.le_of_ble_eq_true rfl) rfl dX1_init_195 ?_
    refine G_sub [2, 1, 0] rfl ?_
    exact eX1_init_197 C hr hn h
  · replace h := (if_neg hc100).symm.trans h
    refine G_aload_n C 0 rfl rfl dX1_init_171 ?_
    refine G_getR C fl_X1_29_1 rfl (KO.dy hc98) dX1_init_172 ?_
    refine G_iload_n C 2 rfl rfl dX1_init_175 ?_
    refine G_aload_n C 1 rfl rfl dX1_init_176 ?_
    obtain ⟨hc163, h⟩ := ifn h
    obtain ⟨hc164, h⟩ := ifn h
    obtain ⟨σ165, hs165, h⟩ := stp_elim h
    refine G_aastore (t := 4) (ci := 9) C ⟨by decide, by decide⟩ vq_9 rfl (KD.nz hc99 rfl) (KO.dy hc164) hc163 dX1_init_177 ?_
    rw [← hs165]
    have hc166 : sK σ165 x0 = 2 := by rw [hs165]; exact hc98
    have hc167 : sK σ165 (sR σ x0 4) = 104 := by rw [hs165]; exact hc99
    have hc168 : sN σ165 (sR σ x0 4) = (sN σ (sR σ x0 4)) := by rw [hs165]; exact rfl
    have hc169 : sK σ165 x2 = 10 := by rw [hs165]; exact hc164
    refine G_iinc (v := 1) (L' := [(3, .int (x3 + (1 : Int32))), (0, .ref x0), (2, .ref x2)]) C 2 rfl rfl (Nat.le_of_ble_eq_true rfl) rfl dX1_init_178 ?_
    refine G_goto (tgt := 162) C rfl dX1_init_181 ?_
    refine G_sub [1, 2, 0] rfl ?_
    exact hf162 _ _ _ _ h
set_option maxRecDepth 100000 in
set_option maxHeartbeats 4000000 in
theorem eX1_init_162 (C : Cx E p s m args meth c cX1_init 8 RX1) (hr : meth.sig.returnType = none) (hn : meth.name = "<init>") {σ0 : Sto} {r2 : Sto} {σ : Sto} {n : Nat} {x0 : Nat} {x2 : Nat} {x3 : Int32} (h : mX1_init_162 n x0 x2 x3 σ = some r2) : G p l e (rmd 4 19 1190) s m args below meth c E false (sZ σ0) ad0 (MQ below (QV E false σ0 r2 ad0) args s 19 1190 (AE E)) 8 11 560 σ 162 [(0, .ref x0), (2, .ref x2), (3, .int x3)] [] := by
  induction n generalizing x0 x2 x3 σ with
  | zero => exact nomatch (show (none : Option Sto) = some r2 from h)
  | succ n ih => exact eX1_init_162B C hr hn (fun z0 z1 z2 σ9 h9 => ih h9) h
set_option maxRecDepth 100000 in
set_option maxHeartbeats 4000000 in
theorem eX1_init_126B (C : Cx E p s m args meth c cX1_init 8 RX1) (hr : meth.sig.returnType = none) (hn : meth.name = "<init>") {σ0 : Sto} {r2 : Sto} {σ : Sto} {f126 : Nat → Nat → Int32 → Sto → Option Sto} {x0 : Nat} {x1 : Nat} {x2 : Int32} (hf126 : ∀ (x0 : Nat) (x1 : Nat) (x2 : Int32) (σ' : Sto), f126 x0 x1 x2 σ' = some r2 → G p l e (rmd 4 19 1190) s m args below meth c E false (sZ σ0) ad0 (MQ below (QV E false σ0 r2 ad0) args s 19 1190 (AE E)) 8 8 546 σ' 126 [(0, .ref x0), (1, .ref x1), (2, .int x2)] []) (h : mX1_init_126B f126 x0 x1 x2 σ = some r2) : G p l e (rmd 4 19 1190) s m args below meth c E false (sZ σ0) ad0 (MQ below (QV E false σ0 r2 ad0) args s 19 1190 (AE E)) 8 8 546 σ 126 [(0, .ref x0), (1, .ref x1), (2, .int x2)] [] := by
  unfold mX1_init_126B at h
  refine G_iload_n C 2 rfl rfl dX1_init_126 ?_
  refine G_aload_n C 0 rfl rfl dX1_init_127 ?_
  obtain ⟨hc92, h⟩ := ifn h
  refine G_getR C fl_X1_20_1 rfl (KO.dy hc92) dX1_init_128 ?_
  obtain ⟨hc93, h⟩ := ifn h
  refine G_alen (t := 3) (v := (Int32.ofNat (sN σ (sR σ x0 2)))) C (by decide) (KD.nz hc93 rfl) rfl dX1_init_131 ?_
  refine G_icmp_ge (tgt := 148) C rfl dX1_init_132 (fun hc94 => ?_) (fun hc94 => ?_)
  · replace h := (if_pos hc94).symm.trans h
    obtain ⟨σ95, hs95, h⟩ := stp_elim h
    refine G_new C vq_9 uw_X10 nl_X1_27 ni_X10.1 ni_X10.2 (Nat.le_of_ble_eq_true rfl) (Nat.le_of_ble_eq_true rfl) dX1_init_148 ?_
    rw [← hs95]
    have hc96 : sK σ95 (sZ σ) = 10 := by rw [hs95]; exact (nwK_K _ _ _ _).trans (if_pos rfl)
    refine G_dup C rfl dX1_init_151 ?_
    refine G_iconst C (v := 0) rfl dX1_init_152 ?_
    refine G_iconst C (v := 0) rfl dX1_init_153 ?_
    refine G_iconst C (v := 0) rfl dX1_init_154 ?_
    refine G_iconst C (v := 0) rfl dX1_init_155 ?_
    obtain ⟨σ97, hv97, h⟩ := bnd h
    refine G_callV (run_I (kd := 10) C [.int (0 : Int32), .int (0 : Int32), .int (0 : Int32), .int (0 : Int32)] [.ref (sZ σ)] (dX10_init hc96 hv97) ml_X10_init mi_X10_init lk_X1_81 ⟨(Nat.le_of_ble_eq_true rfl), (Nat.le_of_ble_eq_true rfl)⟩ ⟨(Nat.le_of_ble_eq_true rfl), (Nat.le_of_ble_eq_true rfl)⟩ (by decide) (KO.dy hc96) rfl (Nat.le_of_ble_eq_true rfl) dX1_init_156) ?_
    refine G_astore_n (L' := [(2, .ref (sZ σ)), (0, .ref x0), (1, .ref x1)]) C rfl (Nat.le_of_ble_eq_true rfl) rfl dX1_init_159 ?_
    refine G_iconst C (v := 0) rfl dX1_init_160 ?_
    refine G_istore_n (L' := [(3, .int (0 : Int32)), (2, .ref (sZ σ)), (0, .ref x0), (1, .ref x1)]) C rfl (Nat.le_of_ble_eq_true rfl) rfl dX1_init_161 ?_
    refine G_sub [2, 1, 0] rfl ?_
    exact eX1_init_162 C hr hn h
  · replace h := (if_neg hc94).symm.trans h
    refine G_aload_n C 0 rfl rfl dX1_init_135 ?_
    refine G_getR C fl_X1_20_1 rfl (KO.dy hc92) dX1_init_136 ?_
    refine G_iload_n C 2 rfl rfl dX1_init_139 ?_
    refine G_aload_n C 1 rfl rfl dX1_init_140 ?_
    obtain ⟨hc170, h⟩ := ifn h
    obtain ⟨hc171, h⟩ := ifn h
    obtain ⟨σ172, hs172, h⟩ := stp_elim h
    refine G_aastore (t := 3) (ci := 5) C ⟨by decide, by decide⟩ vq_5 rfl (KD.nz hc93 rfl) (KO.dy hc171) hc170 dX1_init_141 ?_
    rw [← hs172]
    have hc173 : sK σ172 x0 = 2 := by rw [hs172]; exact hc92
    have hc174 : sK σ172 (sR σ x0 2) = 103 := by rw [hs172]; exact hc93
    have hc175 : sN σ172 (sR σ x0 2) = (sN σ (sR σ x0 2)) := by rw [hs172]; exact rfl
    have hc176 : sK σ172 x1 = 6 := by rw [hs172]; exact hc171
    refine G_iinc (v := 1) (L' := [(2, .int (x2 + (1 : Int32))), (0, .ref x0), (1, .ref x1)]) C 2 rfl rfl (Nat.le_of_ble_eq_true rfl) rfl dX1_init_142 ?_
    refine G_goto (tgt := 126) C rfl dX1_init_145 ?_
    refine G_sub [1, 2, 0] rfl ?_
    exact hf126 _ _ _ _ h
set_option maxRecDepth 100000 in
set_option maxHeartbeats 4000000 in
theorem eX1_init_126 (C : Cx E p s m args meth c cX1_init 8 RX1) (hr : meth.sig.returnType = none) (hn : meth.name = "<init>") {σ0 : Sto} {r2 : Sto} {σ : Sto} {n : Nat} {x0 : Nat} {x1 : Nat} {x2 : Int32} (h : mX1_init_126 n x0 x1 x2 σ = some r2) : G p l e (rmd 4 19 1190) s m args below meth c E false (sZ σ0) ad0 (MQ below (QV E false σ0 r2 ad0) args s 19 1190 (AE E)) 8 8 546 σ 126 [(0, .ref x0), (1, .ref x1), (2, .int x2)] [] := by
  induction n generalizing x0 x1 x2 σ with
  | zero => exact nomatch (show (none : Option Sto) = some r2 from h)
  | succ n ih => exact eX1_init_126B C hr hn (fun z0 z1 z2 σ9 h9 => ih h9) h
set_option maxRecDepth 100000 in
set_option maxHeartbeats 4000000 in
theorem dX1_init {σ : Sto} {a0 : Nat} {r2 : Sto} (hk0 : sK σ a0 = 2) (h : mX1_init a0 σ = some r2) : MM l yX1_init cX1_init 8 none 4 19 1190 E false σ [.ref a0] (QV E false σ r2) := by
  unfold mX1_init at h
  refine MM_of (by decide) (Nat.le_of_ble_eq_true rfl) rfl (fun p e s m args below meth c ad0 C hr hn => ?_)
  refine G_aload_n C 0 rfl rfl dX1_init_0 ?_
  refine G_objInit C lk_X1_3 oi_1 oi_2 (kd := 2) (by decide) (KO.dy hk0) (Nat.le_of_ble_eq_true rfl) (Nat.le_of_ble_eq_true rfl) dX1_init_1 ?_
  refine G_aload_n C 0 rfl rfl dX1_init_4 ?_
  refine G_iconst C (v := 0) rfl dX1_init_5 ?_
  obtain ⟨σ1, hs1, h⟩ := stp_elim h
  refine G_putI C fl_X1_9_1 fp_X1_1_0 (Or.inl rfl) (Or.inl rfl) (KO.dy hk0) dX1_init_6 ?_
  rw [← hs1]
  have hc2 : sK σ1 a0 = 2 := by rw [hs1]; exact hk0
  refine G_aload_n C 0 rfl rfl dX1_init_9 ?_
  refine G_iconst C (v := 0) rfl dX1_init_10 ?_
  obtain ⟨σ3, hs3, h⟩ := stp_elim h
  refine G_putI C fl_X1_15_1 fp_X1_1_1 (Or.inl rfl) (Or.inl rfl) (KO.dy hc2) dX1_init_11 ?_
  rw [← hs3]
  have hc4 : sK σ3 a0 = 2 := by rw [hs3]; exact hc2
  refine G_aload_n C 0 rfl rfl dX1_init_14 ?_
  refine G_bipush C (v := 31) rfl dX1_init_15 ?_
  obtain ⟨σ5, hs5, h⟩ := stp_elim h
  refine G_newQ (N := 31) (t := 3) C ⟨by decide, by decide⟩ rfl nl_X1_18 (by decide) rfl (Nat.le_of_ble_eq_true rfl) (Nat.le_of_ble_eq_true rfl) (Nat.le_of_ble_eq_true rfl) dX1_init_17 ?_
  rw [← hs5]
  have hc6 : sK σ5 (sZ σ3) = 103 := by rw [hs5]; exact (nwK_K _ _ _ _).trans (if_pos rfl)
  have hc7 : sN σ5 (sZ σ3) = 31 := by rw [hs5]; exact (nwK_N _ _ _ _).trans (if_pos rfl)
  obtain ⟨hc8, h⟩ := ifn h
  obtain ⟨σ9, hs9, h⟩ := stp_elim h
  refine G_putR C fl_X1_20_1 fp_X1_1_2 (Or.inr hn) rfl (fun z => nomatch z) (KO.dy hc8) dX1_init_20 ?_
  rw [← hs9]
  have hc10 : sK σ9 (sZ σ3) = 103 := by rw [hs9]; exact hc6
  have hc11 : sN σ9 (sZ σ3) = 31 := by rw [hs9]; exact hc7
  have hc12 : sK σ9 a0 = 2 := by rw [hs9]; exact hc8
  refine G_aload_n C 0 rfl rfl dX1_init_23 ?_
  refine G_iconst C (v := 0) rfl dX1_init_24 ?_
  obtain ⟨σ13, hs13, h⟩ := stp_elim h
  refine G_putI C fl_X1_24_1 fp_X1_1_3 (Or.inl rfl) (Or.inl rfl) (KO.dy hc12) dX1_init_25 ?_
  rw [← hs13]
  have hc14 : sK σ13 (sZ σ3) = 103 := by rw [hs13]; exact hc10
  have hc15 : sN σ13 (sZ σ3) = 31 := by rw [hs13]; exact hc11
  have hc16 : sK σ13 a0 = 2 := by rw [hs13]; exact hc12
  refine G_aload_n C 0 rfl rfl dX1_init_28 ?_
  refine G_bipush C (v := 31) rfl dX1_init_29 ?_
  obtain ⟨σ17, hs17, h⟩ := stp_elim h
  refine G_newQ (N := 31) (t := 4) C ⟨by decide, by decide⟩ rfl nl_X1_27 (by decide) rfl (Nat.le_of_ble_eq_true rfl) (Nat.le_of_ble_eq_true rfl) (Nat.le_of_ble_eq_true rfl) dX1_init_31 ?_
  rw [← hs17]
  have hc18 : sK σ17 (sZ σ13) = 104 := by rw [hs17]; exact (nwK_K _ _ _ _).trans (if_pos rfl)
  have hc19 : sN σ17 (sZ σ13) = 31 := by rw [hs17]; exact (nwK_N _ _ _ _).trans (if_pos rfl)
  obtain ⟨hc20, h⟩ := ifn h
  obtain ⟨σ21, hs21, h⟩ := stp_elim h
  refine G_putR C fl_X1_29_1 fp_X1_1_4 (Or.inr hn) rfl (fun z => nomatch z) (KO.dy hc20) dX1_init_34 ?_
  rw [← hs21]
  have hc22 : sK σ21 (sZ σ13) = 104 := by rw [hs21]; exact hc18
  have hc23 : sN σ21 (sZ σ13) = 31 := by rw [hs21]; exact hc19
  have hc24 : sK σ21 a0 = 2 := by rw [hs21]; exact hc20
  refine G_aload_n C 0 rfl rfl dX1_init_37 ?_
  refine G_iconst C (v := 0) rfl dX1_init_38 ?_
  obtain ⟨σ25, hs25, h⟩ := stp_elim h
  refine G_putI C fl_X1_33_1 fp_X1_1_5 (Or.inl rfl) (Or.inl rfl) (KO.dy hc24) dX1_init_39 ?_
  rw [← hs25]
  have hc26 : sK σ25 (sZ σ13) = 104 := by rw [hs25]; exact hc22
  have hc27 : sN σ25 (sZ σ13) = 31 := by rw [hs25]; exact hc23
  have hc28 : sK σ25 a0 = 2 := by rw [hs25]; exact hc24
  refine G_aload_n C 0 rfl rfl dX1_init_42 ?_
  refine G_bipush C (v := 6) rfl dX1_init_43 ?_
  obtain ⟨σ29, hs29, h⟩ := stp_elim h
  refine G_newQ (N := 6) (t := 5) C ⟨by decide, by decide⟩ rfl nl_X1_36 (by decide) rfl (Nat.le_of_ble_eq_true rfl) (Nat.le_of_ble_eq_true rfl) (Nat.le_of_ble_eq_true rfl) dX1_init_45 ?_
  rw [← hs29]
  have hc30 : sK σ29 (sZ σ25) = 105 := by rw [hs29]; exact (nwK_K _ _ _ _).trans (if_pos rfl)
  have hc31 : sN σ29 (sZ σ25) = 6 := by rw [hs29]; exact (nwK_N _ _ _ _).trans (if_pos rfl)
  obtain ⟨hc32, h⟩ := ifn h
  obtain ⟨σ33, hs33, h⟩ := stp_elim h
  refine G_putR C fl_X1_38_1 fp_X1_1_6 (Or.inr hn) rfl (fun z => nomatch z) (KO.dy hc32) dX1_init_48 ?_
  rw [← hs33]
  have hc34 : sK σ33 (sZ σ25) = 105 := by rw [hs33]; exact hc30
  have hc35 : sN σ33 (sZ σ25) = 6 := by rw [hs33]; exact hc31
  have hc36 : sK σ33 a0 = 2 := by rw [hs33]; exact hc32
  refine G_aload_n C 0 rfl rfl dX1_init_51 ?_
  refine G_iconst C (v := 0) rfl dX1_init_52 ?_
  obtain ⟨σ37, hs37, h⟩ := stp_elim h
  refine G_putI C fl_X1_42_1 fp_X1_1_7 (Or.inl rfl) (Or.inl rfl) (KO.dy hc36) dX1_init_53 ?_
  rw [← hs37]
  have hc38 : sK σ37 (sZ σ25) = 105 := by rw [hs37]; exact hc34
  have hc39 : sN σ37 (sZ σ25) = 6 := by rw [hs37]; exact hc35
  have hc40 : sK σ37 a0 = 2 := by rw [hs37]; exact hc36
  refine G_aload_n C 0 rfl rfl dX1_init_56 ?_
  refine G_bipush C (v := 61) rfl dX1_init_57 ?_
  obtain ⟨σ41, hs41, h⟩ := stp_elim h
  refine G_newQ (N := 61) (t := 6) C ⟨by decide, by decide⟩ rfl nl_X1_45 (by decide) rfl (Nat.le_of_ble_eq_true rfl) (Nat.le_of_ble_eq_true rfl) (Nat.le_of_ble_eq_true rfl) dX1_init_59 ?_
  rw [← hs41]
  have hc42 : sK σ41 (sZ σ37) = 106 := by rw [hs41]; exact (nwK_K _ _ _ _).trans (if_pos rfl)
  have hc43 : sN σ41 (sZ σ37) = 61 := by rw [hs41]; exact (nwK_N _ _ _ _).trans (if_pos rfl)
  obtain ⟨hc44, h⟩ := ifn h
  obtain ⟨σ45, hs45, h⟩ := stp_elim h
  refine G_putR C fl_X1_47_1 fp_X1_1_8 (Or.inr hn) rfl (fun z => nomatch z) (KO.dy hc44) dX1_init_62 ?_
  rw [← hs45]
  have hc46 : sK σ45 (sZ σ37) = 106 := by rw [hs45]; exact hc42
  have hc47 : sN σ45 (sZ σ37) = 61 := by rw [hs45]; exact hc43
  have hc48 : sK σ45 a0 = 2 := by rw [hs45]; exact hc44
  refine G_aload_n C 0 rfl rfl dX1_init_65 ?_
  refine G_iconst C (v := 0) rfl dX1_init_66 ?_
  obtain ⟨σ49, hs49, h⟩ := stp_elim h
  refine G_putI C fl_X1_51_1 fp_X1_1_9 (Or.inl rfl) (Or.inl rfl) (KO.dy hc48) dX1_init_67 ?_
  rw [← hs49]
  have hc50 : sK σ49 (sZ σ37) = 106 := by rw [hs49]; exact hc46
  have hc51 : sN σ49 (sZ σ37) = 61 := by rw [hs49]; exact hc47
  have hc52 : sK σ49 a0 = 2 := by rw [hs49]; exact hc48
  refine G_aload_n C 0 rfl rfl dX1_init_70 ?_
  refine G_sipush C (v := 201) rfl dX1_init_71 ?_
  obtain ⟨σ53, hs53, h⟩ := stp_elim h
  refine G_newQ (N := 201) (t := 7) C ⟨by decide, by decide⟩ rfl nl_X1_54 (by decide) rfl (Nat.le_of_ble_eq_true rfl) (Nat.le_of_ble_eq_true rfl) (Nat.le_of_ble_eq_true rfl) dX1_init_74 ?_
  rw [← hs53]
  have hc54 : sK σ53 (sZ σ49) = 107 := by rw [hs53]; exact (nwK_K _ _ _ _).trans (if_pos rfl)
  have hc55 : sN σ53 (sZ σ49) = 201 := by rw [hs53]; exact (nwK_N _ _ _ _).trans (if_pos rfl)
  obtain ⟨hc56, h⟩ := ifn h
  obtain ⟨σ57, hs57, h⟩ := stp_elim h
  refine G_putR C fl_X1_56_1 fp_X1_1_10 (Or.inr hn) rfl (fun z => nomatch z) (KO.dy hc56) dX1_init_77 ?_
  rw [← hs57]
  have hc58 : sK σ57 (sZ σ49) = 107 := by rw [hs57]; exact hc54
  have hc59 : sN σ57 (sZ σ49) = 201 := by rw [hs57]; exact hc55
  have hc60 : sK σ57 a0 = 2 := by rw [hs57]; exact hc56
  refine G_aload_n C 0 rfl rfl dX1_init_80 ?_
  refine G_iconst C (v := 0) rfl dX1_init_81 ?_
  obtain ⟨σ61, hs61, h⟩ := stp_elim h
  refine G_putI C fl_X1_60_1 fp_X1_1_11 (Or.inl rfl) (Or.inl rfl) (KO.dy hc60) dX1_init_82 ?_
  rw [← hs61]
  have hc62 : sK σ61 (sZ σ49) = 107 := by rw [hs61]; exact hc58
  have hc63 : sN σ61 (sZ σ49) = 201 := by rw [hs61]; exact hc59
  have hc64 : sK σ61 a0 = 2 := by rw [hs61]; exact hc60
  refine G_aload_n C 0 rfl rfl dX1_init_85 ?_
  refine G_sipush C (v := 201) rfl dX1_init_86 ?_
  obtain ⟨σ65, hs65, h⟩ := stp_elim h
  refine G_newQ (N := 201) (t := 7) C ⟨by decide, by decide⟩ rfl nl_X1_54 (by decide) rfl (Nat.le_of_ble_eq_true rfl) (Nat.le_of_ble_eq_true rfl) (Nat.le_of_ble_eq_true rfl) dX1_init_89 ?_
  rw [← hs65]
  have hc66 : sK σ65 (sZ σ61) = 107 := by rw [hs65]; exact (nwK_K _ _ _ _).trans (if_pos rfl)
  have hc67 : sN σ65 (sZ σ61) = 201 := by rw [hs65]; exact (nwK_N _ _ _ _).trans (if_pos rfl)
  obtain ⟨hc68, h⟩ := ifn h
  obtain ⟨σ69, hs69, h⟩ := stp_elim h
  refine G_putR C fl_X1_63_1 fp_X1_1_12 (Or.inr hn) rfl (fun z => nomatch z) (KO.dy hc68) dX1_init_92 ?_
  rw [← hs69]
  have hc70 : sK σ69 (sZ σ61) = 107 := by rw [hs69]; exact hc66
  have hc71 : sN σ69 (sZ σ61) = 201 := by rw [hs69]; exact hc67
  have hc72 : sK σ69 a0 = 2 := by rw [hs69]; exact hc68
  refine G_aload_n C 0 rfl rfl dX1_init_95 ?_
  refine G_iconst C (v := 0) rfl dX1_init_96 ?_
  obtain ⟨σ73, hs73, h⟩ := stp_elim h
  refine G_putI C fl_X1_66_1 fp_X1_1_13 (Or.inl rfl) (Or.inl rfl) (KO.dy hc72) dX1_init_97 ?_
  rw [← hs73]
  have hc74 : sK σ73 (sZ σ61) = 107 := by rw [hs73]; exact hc70
  have hc75 : sN σ73 (sZ σ61) = 201 := by rw [hs73]; exact hc71
  have hc76 : sK σ73 a0 = 2 := by rw [hs73]; exact hc72
  refine G_aload_n C 0 rfl rfl dX1_init_100 ?_
  refine G_bipush C (v := 13) rfl dX1_init_101 ?_
  obtain ⟨σ77, hs77, h⟩ := stp_elim h
  refine G_newQ (N := 13) (t := 8) C ⟨by decide, by decide⟩ rfl nl_X1_69 (by decide) rfl (Nat.le_of_ble_eq_true rfl) (Nat.le_of_ble_eq_true rfl) (Nat.le_of_ble_eq_true rfl) dX1_init_103 ?_
  rw [← hs77]
  have hc78 : sK σ77 (sZ σ73) = 108 := by rw [hs77]; exact (nwK_K _ _ _ _).trans (if_pos rfl)
  have hc79 : sN σ77 (sZ σ73) = 13 := by rw [hs77]; exact (nwK_N _ _ _ _).trans (if_pos rfl)
  obtain ⟨hc80, h⟩ := ifn h
  obtain ⟨σ81, hs81, h⟩ := stp_elim h
  refine G_putR C fl_X1_71_1 fp_X1_1_14 (Or.inr hn) rfl (fun z => nomatch z) (KO.dy hc80) dX1_init_106 ?_
  rw [← hs81]
  have hc82 : sK σ81 (sZ σ73) = 108 := by rw [hs81]; exact hc78
  have hc83 : sN σ81 (sZ σ73) = 13 := by rw [hs81]; exact hc79
  have hc84 : sK σ81 a0 = 2 := by rw [hs81]; exact hc80
  refine G_aload_n C 0 rfl rfl dX1_init_109 ?_
  refine G_iconst C (v := 0) rfl dX1_init_110 ?_
  obtain ⟨σ85, hs85, h⟩ := stp_elim h
  refine G_putI C fl_X1_75_1 fp_X1_1_15 (Or.inl rfl) (Or.inl rfl) (KO.dy hc84) dX1_init_111 ?_
  rw [← hs85]
  have hc86 : sK σ85 (sZ σ73) = 108 := by rw [hs85]; exact hc82
  have hc87 : sN σ85 (sZ σ73) = 13 := by rw [hs85]; exact hc83
  have hc88 : sK σ85 a0 = 2 := by rw [hs85]; exact hc84
  obtain ⟨σ89, hs89, h⟩ := stp_elim h
  refine G_new C vq_5 uw_X5 nl_X1_18 ni_X5.1 ni_X5.2 (Nat.le_of_ble_eq_true rfl) (Nat.le_of_ble_eq_true rfl) dX1_init_114 ?_
  rw [← hs89]
  have hc90 : sK σ89 (sZ σ85) = 6 := by rw [hs89]; exact (nwK_K _ _ _ _).trans (if_pos rfl)
  refine G_dup C rfl dX1_init_117 ?_
  refine G_iconst C (v := -1) rfl dX1_init_118 ?_
  refine G_iconst C (v := -1) rfl dX1_init_119 ?_
  obtain ⟨σ91, hv91, h⟩ := bnd h
  refine G_callV (run_I (kd := 6) C [.int (-1 : Int32), .int (-1 : Int32)] [.ref (sZ σ85)] (dX5_init hc90 hv91) ml_X5_init mi_X5_init lk_X1_78 ⟨(Nat.le_of_ble_eq_true rfl), (Nat.le_of_ble_eq_true rfl)⟩ ⟨(Nat.le_of_ble_eq_true rfl), (Nat.le_of_ble_eq_true rfl)⟩ (by decide) (KO.dy hc90) rfl (Nat.le_of_ble_eq_true rfl) dX1_init_120) ?_
  refine G_astore_n (L' := [(1, .ref (sZ σ85)), (0, .ref a0)]) C rfl (Nat.le_of_ble_eq_true rfl) rfl dX1_init_123 ?_
  refine G_iconst C (v := 0) rfl dX1_init_124 ?_
  refine G_istore_n (L' := [(2, .int (0 : Int32)), (1, .ref (sZ σ85)), (0, .ref a0)]) C rfl (Nat.le_of_ble_eq_true rfl) rfl dX1_init_125 ?_
  refine G_sub [2, 1, 0] rfl ?_
  exact eX1_init_126 C hr hn h
set_option maxRecDepth 100000 in
set_option maxHeartbeats 4000000 in
theorem dX1_personAt {σ : Sto} {p0 : Int32} {r : Nat} (h : mX1_personAt p0 σ = some r) : MM l yX1_personAt cX1_personAt 2 (some (.object "SalePart$Person")) 1 0 0 E true σ [.ref 33, .int p0] (QR E true σ r σ) := by
  unfold mX1_personAt at h
  refine MM_of (by decide) (Nat.le_of_ble_eq_true rfl) rfl (fun p e s m args below meth c ad0 C hr hn => ?_)
  refine G_aload_n C 0 rfl rfl dX1_personAt_0 ?_
  refine G_getF C fl_X1_20_1 rfl rfl fn_33_2 dX1_personAt_1 ?_
  refine G_iload_n C 1 rfl rfl dX1_personAt_4 ?_
  refine G_if_lt (tgt := 20) C rfl dX1_personAt_5 (fun hc1 => ?_) (fun hc1 => ?_)
  · replace h := (if_pos hc1).symm.trans h
    refine G_bipush C (v := 30) rfl dX1_personAt_20 ?_
    refine G_aaload (t := 3) C ⟨by decide, by decide⟩ ks_34 ⟨by decide, by decide⟩ dX1_personAt_22 ?_
    obtain ⟨hc2, h⟩ := ifn h
    obtain rfl := Option.some.inj h
    exact G_aret C hc2 hr (Nat.le_of_ble_eq_true rfl) (Nat.le_of_ble_eq_true rfl) dX1_personAt_23
  · replace h := (if_neg hc1).symm.trans h
    refine G_iload_n C 1 rfl rfl dX1_personAt_8 ?_
    refine G_aload_n C 0 rfl rfl dX1_personAt_9 ?_
    refine G_getI C fl_X1_24_1 (Or.inl rfl) ko_33 dX1_personAt_10 ?_
    refine G_icmp_ge (tgt := 20) C rfl dX1_personAt_13 (fun hc3 => ?_) (fun hc3 => ?_)
    · replace h := (if_pos hc3).symm.trans h
      refine G_bipush C (v := 30) rfl dX1_personAt_20 ?_
      refine G_aaload (t := 3) C ⟨by decide, by decide⟩ ks_34 ⟨by decide, by decide⟩ dX1_personAt_22 ?_
      obtain ⟨hc4, h⟩ := ifn h
      obtain rfl := Option.some.inj h
      exact G_aret C hc4 hr (Nat.le_of_ble_eq_true rfl) (Nat.le_of_ble_eq_true rfl) dX1_personAt_23
    · replace h := (if_neg hc3).symm.trans h
      refine G_iload_n C 1 rfl rfl dX1_personAt_16 ?_
      refine G_goto (tgt := 22) C rfl dX1_personAt_17 ?_
      obtain ⟨hc5, h⟩ := ifn h
      refine G_aaload (t := 3) C ⟨by decide, by decide⟩ ks_34 hc5 dX1_personAt_22 ?_
      obtain ⟨hc6, h⟩ := ifn h
      obtain rfl := Option.some.inj h
      exact G_aret C hc6 hr (Nat.le_of_ble_eq_true rfl) (Nat.le_of_ble_eq_true rfl) dX1_personAt_23
set_option maxRecDepth 100000 in
set_option maxHeartbeats 4000000 in
theorem dX1_workAt {σ : Sto} {p0 : Int32} {r : Nat} (h : mX1_workAt p0 σ = some r) : MM l yX1_workAt cX1_workAt 2 (some (.object "SalePart$Work")) 1 0 0 E true σ [.ref 33, .int p0] (QR E true σ r σ) := by
  unfold mX1_workAt at h
  refine MM_of (by decide) (Nat.le_of_ble_eq_true rfl) rfl (fun p e s m args below meth c ad0 C hr hn => ?_)
  refine G_aload_n C 0 rfl rfl dX1_workAt_0 ?_
  refine G_getF C fl_X1_29_1 rfl rfl fn_33_4 dX1_workAt_1 ?_
  refine G_iload_n C 1 rfl rfl dX1_workAt_4 ?_
  refine G_if_lt (tgt := 20) C rfl dX1_workAt_5 (fun hc1 => ?_) (fun hc1 => ?_)
  · replace h := (if_pos hc1).symm.trans h
    refine G_bipush C (v := 30) rfl dX1_workAt_20 ?_
    refine G_aaload (t := 4) C ⟨by decide, by decide⟩ ks_35 ⟨by decide, by decide⟩ dX1_workAt_22 ?_
    obtain ⟨hc2, h⟩ := ifn h
    obtain rfl := Option.some.inj h
    exact G_aret C hc2 hr (Nat.le_of_ble_eq_true rfl) (Nat.le_of_ble_eq_true rfl) dX1_workAt_23
  · replace h := (if_neg hc1).symm.trans h
    refine G_iload_n C 1 rfl rfl dX1_workAt_8 ?_
    refine G_aload_n C 0 rfl rfl dX1_workAt_9 ?_
    refine G_getI C fl_X1_33_1 (Or.inl rfl) ko_33 dX1_workAt_10 ?_
    refine G_icmp_ge (tgt := 20) C rfl dX1_workAt_13 (fun hc3 => ?_) (fun hc3 => ?_)
    · replace h := (if_pos hc3).symm.trans h
      refine G_bipush C (v := 30) rfl dX1_workAt_20 ?_
      refine G_aaload (t := 4) C ⟨by decide, by decide⟩ ks_35 ⟨by decide, by decide⟩ dX1_workAt_22 ?_
      obtain ⟨hc4, h⟩ := ifn h
      obtain rfl := Option.some.inj h
      exact G_aret C hc4 hr (Nat.le_of_ble_eq_true rfl) (Nat.le_of_ble_eq_true rfl) dX1_workAt_23
    · replace h := (if_neg hc3).symm.trans h
      refine G_iload_n C 1 rfl rfl dX1_workAt_16 ?_
      refine G_goto (tgt := 22) C rfl dX1_workAt_17 ?_
      obtain ⟨hc5, h⟩ := ifn h
      refine G_aaload (t := 4) C ⟨by decide, by decide⟩ ks_35 hc5 dX1_workAt_22 ?_
      obtain ⟨hc6, h⟩ := ifn h
      obtain rfl := Option.some.inj h
      exact G_aret C hc6 hr (Nat.le_of_ble_eq_true rfl) (Nat.le_of_ble_eq_true rfl) dX1_workAt_23
set_option maxRecDepth 100000 in
set_option maxHeartbeats 4000000 in
theorem dX1_societyAt {σ : Sto} {p0 : Int32} {r : Nat} (h : mX1_societyAt p0 σ = some r) : MM l yX1_societyAt cX1_societyAt 2 (some (.object "SalePart$Society")) 1 0 0 E true σ [.ref 33, .int p0] (QR E true σ r σ) := by
  unfold mX1_societyAt at h
  refine MM_of (by decide) (Nat.le_of_ble_eq_true rfl) rfl (fun p e s m args below meth c ad0 C hr hn => ?_)
  refine G_aload_n C 0 rfl rfl dX1_societyAt_0 ?_
  refine G_getF C fl_X1_38_1 rfl rfl fn_33_6 dX1_societyAt_1 ?_
  refine G_iload_n C 1 rfl rfl dX1_societyAt_4 ?_
  refine G_if_lt (tgt := 20) C rfl dX1_societyAt_5 (fun hc1 => ?_) (fun hc1 => ?_)
  · replace h := (if_pos hc1).symm.trans h
    refine G_iconst C (v := 5) rfl dX1_societyAt_20 ?_
    refine G_aaload (t := 5) C ⟨by decide, by decide⟩ ks_36 ⟨by decide, by decide⟩ dX1_societyAt_21 ?_
    obtain ⟨hc2, h⟩ := ifn h
    obtain rfl := Option.some.inj h
    exact G_aret C hc2 hr (Nat.le_of_ble_eq_true rfl) (Nat.le_of_ble_eq_true rfl) dX1_societyAt_22
  · replace h := (if_neg hc1).symm.trans h
    refine G_iload_n C 1 rfl rfl dX1_societyAt_8 ?_
    refine G_aload_n C 0 rfl rfl dX1_societyAt_9 ?_
    refine G_getI C fl_X1_42_1 (Or.inl rfl) ko_33 dX1_societyAt_10 ?_
    refine G_icmp_ge (tgt := 20) C rfl dX1_societyAt_13 (fun hc3 => ?_) (fun hc3 => ?_)
    · replace h := (if_pos hc3).symm.trans h
      refine G_iconst C (v := 5) rfl dX1_societyAt_20 ?_
      refine G_aaload (t := 5) C ⟨by decide, by decide⟩ ks_36 ⟨by decide, by decide⟩ dX1_societyAt_21 ?_
      obtain ⟨hc4, h⟩ := ifn h
      obtain rfl := Option.some.inj h
      exact G_aret C hc4 hr (Nat.le_of_ble_eq_true rfl) (Nat.le_of_ble_eq_true rfl) dX1_societyAt_22
    · replace h := (if_neg hc3).symm.trans h
      refine G_iload_n C 1 rfl rfl dX1_societyAt_16 ?_
      refine G_goto (tgt := 21) C rfl dX1_societyAt_17 ?_
      obtain ⟨hc5, h⟩ := ifn h
      refine G_aaload (t := 5) C ⟨by decide, by decide⟩ ks_36 hc5 dX1_societyAt_21 ?_
      obtain ⟨hc6, h⟩ := ifn h
      obtain rfl := Option.some.inj h
      exact G_aret C hc6 hr (Nat.le_of_ble_eq_true rfl) (Nat.le_of_ble_eq_true rfl) dX1_societyAt_22
set_option maxRecDepth 100000 in
set_option maxHeartbeats 4000000 in
theorem dX1_rateAt {σ : Sto} {p0 : Int32} {r : Nat} (h : mX1_rateAt p0 σ = some r) : MM l yX1_rateAt cX1_rateAt 2 (some (.object "SalePart$Rate")) 1 0 0 E true σ [.ref 33, .int p0] (QR E true σ r σ) := by
  unfold mX1_rateAt at h
  refine MM_of (by decide) (Nat.le_of_ble_eq_true rfl) rfl (fun p e s m args below meth c ad0 C hr hn => ?_)
  refine G_aload_n C 0 rfl rfl dX1_rateAt_0 ?_
  refine G_getF C fl_X1_47_1 rfl rfl fn_33_8 dX1_rateAt_1 ?_
  refine G_iload_n C 1 rfl rfl dX1_rateAt_4 ?_
  refine G_if_lt (tgt := 20) C rfl dX1_rateAt_5 (fun hc1 => ?_) (fun hc1 => ?_)
  · replace h := (if_pos hc1).symm.trans h
    refine G_bipush C (v := 60) rfl dX1_rateAt_20 ?_
    refine G_aaload (t := 6) C ⟨by decide, by decide⟩ ks_37 ⟨by decide, by decide⟩ dX1_rateAt_22 ?_
    obtain ⟨hc2, h⟩ := ifn h
    obtain rfl := Option.some.inj h
    exact G_aret C hc2 hr (Nat.le_of_ble_eq_true rfl) (Nat.le_of_ble_eq_true rfl) dX1_rateAt_23
  · replace h := (if_neg hc1).symm.trans h
    refine G_iload_n C 1 rfl rfl dX1_rateAt_8 ?_
    refine G_aload_n C 0 rfl rfl dX1_rateAt_9 ?_
    refine G_getI C fl_X1_51_1 (Or.inl rfl) ko_33 dX1_rateAt_10 ?_
    refine G_icmp_ge (tgt := 20) C rfl dX1_rateAt_13 (fun hc3 => ?_) (fun hc3 => ?_)
    · replace h := (if_pos hc3).symm.trans h
      refine G_bipush C (v := 60) rfl dX1_rateAt_20 ?_
      refine G_aaload (t := 6) C ⟨by decide, by decide⟩ ks_37 ⟨by decide, by decide⟩ dX1_rateAt_22 ?_
      obtain ⟨hc4, h⟩ := ifn h
      obtain rfl := Option.some.inj h
      exact G_aret C hc4 hr (Nat.le_of_ble_eq_true rfl) (Nat.le_of_ble_eq_true rfl) dX1_rateAt_23
    · replace h := (if_neg hc3).symm.trans h
      refine G_iload_n C 1 rfl rfl dX1_rateAt_16 ?_
      refine G_goto (tgt := 22) C rfl dX1_rateAt_17 ?_
      obtain ⟨hc5, h⟩ := ifn h
      refine G_aaload (t := 6) C ⟨by decide, by decide⟩ ks_37 hc5 dX1_rateAt_22 ?_
      obtain ⟨hc6, h⟩ := ifn h
      obtain rfl := Option.some.inj h
      exact G_aret C hc6 hr (Nat.le_of_ble_eq_true rfl) (Nat.le_of_ble_eq_true rfl) dX1_rateAt_23
set_option maxRecDepth 100000 in
set_option maxHeartbeats 4000000 in
theorem dX1_factAt {σ : Sto} {p0 : Int32} {r : Nat} (h : mX1_factAt p0 σ = some r) : MM l yX1_factAt cX1_factAt 2 (some (.object "SalePart$Fact")) 1 0 0 E true σ [.ref 33, .int p0] (QR E true σ r σ) := by
  unfold mX1_factAt at h
  refine MM_of (by decide) (Nat.le_of_ble_eq_true rfl) rfl (fun p e s m args below meth c ad0 C hr hn => ?_)
  refine G_aload_n C 0 rfl rfl dX1_factAt_0 ?_
  refine G_getF C fl_X1_56_1 rfl rfl fn_33_10 dX1_factAt_1 ?_
  refine G_iload_n C 1 rfl rfl dX1_factAt_4 ?_
  refine G_if_lt (tgt := 20) C rfl dX1_factAt_5 (fun hc1 => ?_) (fun hc1 => ?_)
  · replace h := (if_pos hc1).symm.trans h
    refine G_sipush C (v := 200) rfl dX1_factAt_20 ?_
    refine G_aaload (t := 7) C ⟨by decide, by decide⟩ ks_38 ⟨by decide, by decide⟩ dX1_factAt_23 ?_
    obtain ⟨hc2, h⟩ := ifn h
    obtain rfl := Option.some.inj h
    exact G_aret C hc2 hr (Nat.le_of_ble_eq_true rfl) (Nat.le_of_ble_eq_true rfl) dX1_factAt_24
  · replace h := (if_neg hc1).symm.trans h
    refine G_iload_n C 1 rfl rfl dX1_factAt_8 ?_
    refine G_aload_n C 0 rfl rfl dX1_factAt_9 ?_
    refine G_getI C fl_X1_60_1 (Or.inl rfl) ko_33 dX1_factAt_10 ?_
    refine G_icmp_ge (tgt := 20) C rfl dX1_factAt_13 (fun hc3 => ?_) (fun hc3 => ?_)
    · replace h := (if_pos hc3).symm.trans h
      refine G_sipush C (v := 200) rfl dX1_factAt_20 ?_
      refine G_aaload (t := 7) C ⟨by decide, by decide⟩ ks_38 ⟨by decide, by decide⟩ dX1_factAt_23 ?_
      obtain ⟨hc4, h⟩ := ifn h
      obtain rfl := Option.some.inj h
      exact G_aret C hc4 hr (Nat.le_of_ble_eq_true rfl) (Nat.le_of_ble_eq_true rfl) dX1_factAt_24
    · replace h := (if_neg hc3).symm.trans h
      refine G_iload_n C 1 rfl rfl dX1_factAt_16 ?_
      refine G_goto (tgt := 23) C rfl dX1_factAt_17 ?_
      obtain ⟨hc5, h⟩ := ifn h
      refine G_aaload (t := 7) C ⟨by decide, by decide⟩ ks_38 hc5 dX1_factAt_23 ?_
      obtain ⟨hc6, h⟩ := ifn h
      obtain rfl := Option.some.inj h
      exact G_aret C hc6 hr (Nat.le_of_ble_eq_true rfl) (Nat.le_of_ble_eq_true rfl) dX1_factAt_24
set_option maxRecDepth 100000 in
set_option maxHeartbeats 4000000 in
theorem dX1_claimAt {σ : Sto} {p0 : Int32} {r : Nat} (h : mX1_claimAt p0 σ = some r) : MM l yX1_claimAt cX1_claimAt 2 (some (.object "SalePart$Fact")) 1 0 0 E true σ [.ref 33, .int p0] (QR E true σ r σ) := by
  unfold mX1_claimAt at h
  refine MM_of (by decide) (Nat.le_of_ble_eq_true rfl) rfl (fun p e s m args below meth c ad0 C hr hn => ?_)
  refine G_aload_n C 0 rfl rfl dX1_claimAt_0 ?_
  refine G_getF C fl_X1_63_1 rfl rfl fn_33_12 dX1_claimAt_1 ?_
  refine G_iload_n C 1 rfl rfl dX1_claimAt_4 ?_
  refine G_if_lt (tgt := 20) C rfl dX1_claimAt_5 (fun hc1 => ?_) (fun hc1 => ?_)
  · replace h := (if_pos hc1).symm.trans h
    refine G_sipush C (v := 200) rfl dX1_claimAt_20 ?_
    refine G_aaload (t := 7) C ⟨by decide, by decide⟩ ks_39 ⟨by decide, by decide⟩ dX1_claimAt_23 ?_
    obtain ⟨hc2, h⟩ := ifn h
    obtain rfl := Option.some.inj h
    exact G_aret C hc2 hr (Nat.le_of_ble_eq_true rfl) (Nat.le_of_ble_eq_true rfl) dX1_claimAt_24
  · replace h := (if_neg hc1).symm.trans h
    refine G_iload_n C 1 rfl rfl dX1_claimAt_8 ?_
    refine G_aload_n C 0 rfl rfl dX1_claimAt_9 ?_
    refine G_getI C fl_X1_66_1 (Or.inl rfl) ko_33 dX1_claimAt_10 ?_
    refine G_icmp_ge (tgt := 20) C rfl dX1_claimAt_13 (fun hc3 => ?_) (fun hc3 => ?_)
    · replace h := (if_pos hc3).symm.trans h
      refine G_sipush C (v := 200) rfl dX1_claimAt_20 ?_
      refine G_aaload (t := 7) C ⟨by decide, by decide⟩ ks_39 ⟨by decide, by decide⟩ dX1_claimAt_23 ?_
      obtain ⟨hc4, h⟩ := ifn h
      obtain rfl := Option.some.inj h
      exact G_aret C hc4 hr (Nat.le_of_ble_eq_true rfl) (Nat.le_of_ble_eq_true rfl) dX1_claimAt_24
    · replace h := (if_neg hc3).symm.trans h
      refine G_iload_n C 1 rfl rfl dX1_claimAt_16 ?_
      refine G_goto (tgt := 23) C rfl dX1_claimAt_17 ?_
      obtain ⟨hc5, h⟩ := ifn h
      refine G_aaload (t := 7) C ⟨by decide, by decide⟩ ks_39 hc5 dX1_claimAt_23 ?_
      obtain ⟨hc6, h⟩ := ifn h
      obtain rfl := Option.some.inj h
      exact G_aret C hc6 hr (Nat.le_of_ble_eq_true rfl) (Nat.le_of_ble_eq_true rfl) dX1_claimAt_24
set_option maxRecDepth 100000 in
set_option maxHeartbeats 4000000 in
theorem dX1_lawAt {σ : Sto} {p0 : Int32} {r : Nat} (h : mX1_lawAt p0 σ = some r) : MM l yX1_lawAt cX1_lawAt 2 (some (.object "SalePart$Law")) 1 0 0 E true σ [.ref 33, .int p0] (QR E true σ r σ) := by
  unfold mX1_lawAt at h
  refine MM_of (by decide) (Nat.le_of_ble_eq_true rfl) rfl (fun p e s m args below meth c ad0 C hr hn => ?_)
  refine G_aload_n C 0 rfl rfl dX1_lawAt_0 ?_
  refine G_getF C fl_X1_71_1 rfl rfl fn_33_14 dX1_lawAt_1 ?_
  refine G_iload_n C 1 rfl rfl dX1_lawAt_4 ?_
  refine G_if_lt (tgt := 20) C rfl dX1_lawAt_5 (fun hc1 => ?_) (fun hc1 => ?_)
  · replace h := (if_pos hc1).symm.trans h
    refine G_bipush C (v := 12) rfl dX1_lawAt_20 ?_
    refine G_aaload (t := 8) C ⟨by decide, by decide⟩ ks_40 ⟨by decide, by decide⟩ dX1_lawAt_22 ?_
    obtain ⟨hc2, h⟩ := ifn h
    obtain rfl := Option.some.inj h
    exact G_aret C hc2 hr (Nat.le_of_ble_eq_true rfl) (Nat.le_of_ble_eq_true rfl) dX1_lawAt_23
  · replace h := (if_neg hc1).symm.trans h
    refine G_iload_n C 1 rfl rfl dX1_lawAt_8 ?_
    refine G_aload_n C 0 rfl rfl dX1_lawAt_9 ?_
    refine G_getI C fl_X1_75_1 (Or.inl rfl) ko_33 dX1_lawAt_10 ?_
    refine G_icmp_ge (tgt := 20) C rfl dX1_lawAt_13 (fun hc3 => ?_) (fun hc3 => ?_)
    · replace h := (if_pos hc3).symm.trans h
      refine G_bipush C (v := 12) rfl dX1_lawAt_20 ?_
      refine G_aaload (t := 8) C ⟨by decide, by decide⟩ ks_40 ⟨by decide, by decide⟩ dX1_lawAt_22 ?_
      obtain ⟨hc4, h⟩ := ifn h
      obtain rfl := Option.some.inj h
      exact G_aret C hc4 hr (Nat.le_of_ble_eq_true rfl) (Nat.le_of_ble_eq_true rfl) dX1_lawAt_23
    · replace h := (if_neg hc3).symm.trans h
      refine G_iload_n C 1 rfl rfl dX1_lawAt_16 ?_
      refine G_goto (tgt := 22) C rfl dX1_lawAt_17 ?_
      obtain ⟨hc5, h⟩ := ifn h
      refine G_aaload (t := 8) C ⟨by decide, by decide⟩ ks_40 hc5 dX1_lawAt_22 ?_
      obtain ⟨hc6, h⟩ := ifn h
      obtain rfl := Option.some.inj h
      exact G_aret C hc6 hr (Nat.le_of_ble_eq_true rfl) (Nat.le_of_ble_eq_true rfl) dX1_lawAt_23
set_option maxRecDepth 100000 in
set_option maxHeartbeats 4000000 in
theorem dX1_hasAllFacts {σ : Sto} {r : Int32} (h : mX1_hasAllFacts σ = r) : MM l yX1_hasAllFacts cX1_hasAllFacts 1 (some .boolean) 1 0 0 E true σ [.ref 33] (QI E true σ r σ) := by
  unfold mX1_hasAllFacts at h
  refine MM_of (by decide) (Nat.le_of_ble_eq_true rfl) rfl (fun p e s m args below meth c ad0 C hr hn => ?_)
  refine G_aload_n C 0 rfl rfl dX1_hasAllFacts_0 ?_
  refine G_getI C fl_X1_60_1 (Or.inl rfl) ko_33 dX1_hasAllFacts_1 ?_
  refine G_sipush C (v := 200) rfl dX1_hasAllFacts_4 ?_
  refine G_icmp_lt (tgt := 14) C rfl dX1_hasAllFacts_7 (fun hc1 => ?_) (fun hc1 => ?_)
  · replace h := (if_pos hc1).symm.trans h
    refine G_iconst C (v := 0) rfl dX1_hasAllFacts_14 ?_
    subst h
    exact G_zret C (by decide) hr (Nat.le_of_ble_eq_true rfl) (Nat.le_of_ble_eq_true rfl) dX1_hasAllFacts_15
  · replace h := (if_neg hc1).symm.trans h
    refine G_iconst C (v := 1) rfl dX1_hasAllFacts_10 ?_
    refine G_goto (tgt := 15) C rfl dX1_hasAllFacts_11 ?_
    subst h
    exact G_zret C (by decide) hr (Nat.le_of_ble_eq_true rfl) (Nat.le_of_ble_eq_true rfl) dX1_hasAllFacts_15
set_option maxRecDepth 100000 in
set_option maxHeartbeats 4000000 in
theorem dX1_addFact {σ : Sto} {p0 : Nat} {r1 : Int32} {r2 : Sto} (h : mX1_addFact p0 σ = some (r1, r2)) : MM l yX1_addFact cX1_addFact 2 (some .int) 2 0 0 E true σ [.ref 33, .ref p0] (QI E true σ r1 r2) := by
  unfold mX1_addFact at h
  refine MM_of (by decide) (Nat.le_of_ble_eq_true rfl) rfl (fun p e s m args below meth c ad0 C hr hn => ?_)
  refine G_aload_n C 0 rfl rfl dX1_addFact_0 ?_
  refine G_callI (run_V C [] [] (dX1_hasAllFacts rfl) ml_X1_hasAllFacts mv_X1_hasAllFacts lk_X1_93 ⟨(Nat.le_of_ble_eq_true rfl), (Nat.le_of_ble_eq_true rfl)⟩ ⟨(Nat.le_of_ble_eq_true rfl), (Nat.le_of_ble_eq_true rfl)⟩ vq_1 rfl ko_33 rfl (Nat.le_of_ble_eq_true rfl) dX1_addFact_1) ?_
  refine G_if_eq (tgt := 9) C rfl dX1_addFact_4 (fun hc2 => ?_) (fun hc2 => ?_)
  · replace h := (if_pos hc2).symm.trans h
    refine G_aload_n C 0 rfl rfl dX1_addFact_9 ?_
    refine G_getF C fl_X1_56_1 rfl rfl fn_33_10 dX1_addFact_10 ?_
    refine G_aload_n C 0 rfl rfl dX1_addFact_13 ?_
    refine G_getI C fl_X1_60_1 (Or.inl rfl) ko_33 dX1_addFact_14 ?_
    refine G_aload_n C 1 rfl rfl dX1_addFact_17 ?_
    obtain ⟨hc3, h⟩ := ifn h
    obtain ⟨hc4, h⟩ := ifn h
    obtain ⟨σ5, hs5, h⟩ := stp_elim h
    refine G_aastore (t := 7) (ci := 3) C ⟨by decide, by decide⟩ vq_3 rfl ks_38 (KO.dy hc4) hc3 dX1_addFact_18 ?_
    rw [← hs5]
    have hc6 : sK σ5 p0 = 4 := by rw [hs5]; exact hc4
    refine G_aload_n C 0 rfl rfl dX1_addFact_19 ?_
    refine G_dup C rfl dX1_addFact_20 ?_
    refine G_getI C fl_X1_60_1 (Or.inl rfl) ko_33 dX1_addFact_21 ?_
    refine G_iconst C (v := 1) rfl dX1_addFact_24 ?_
    refine G_iadd C dX1_addFact_25 ?_
    obtain ⟨σ7, hs7, h⟩ := stp_elim h
    refine G_putI C fl_X1_60_1 fp_X1_1_11 (Or.inl rfl) (Or.inl rfl) ko_33 dX1_addFact_26 ?_
    rw [← hs7]
    have hc8 : sK σ7 p0 = 4 := by rw [hs7]; exact hc6
    refine G_aload_n C 0 rfl rfl dX1_addFact_29 ?_
    refine G_getI C fl_X1_60_1 (Or.inl rfl) ko_33 dX1_addFact_30 ?_
    refine G_iconst C (v := 1) rfl dX1_addFact_33 ?_
    refine G_isub C dX1_addFact_34 ?_
    obtain ⟨rfl, rfl⟩ := some2 h
    exact G_iret C hr (Nat.le_of_ble_eq_true rfl) (Nat.le_of_ble_eq_true rfl) dX1_addFact_35
  · replace h := (if_neg hc2).symm.trans h
    refine G_iconst C (v := -1) rfl dX1_addFact_7 ?_
    obtain ⟨rfl, rfl⟩ := some2 h
    exact G_iret C hr (Nat.le_of_ble_eq_true rfl) (Nat.le_of_ble_eq_true rfl) dX1_addFact_8
set_option maxRecDepth 100000 in
set_option maxHeartbeats 4000000 in
theorem eX1_wasEverSold_2B (C : Cx E p s m args meth c cX1_wasEverSold 3 RX1) (hr : meth.sig.returnType = (some .boolean)) {r : Int32} {σ : Sto} {f2 : Int32 → Int32 → Sto → Option Int32} {x1 : Int32} {x2 : Int32} (hf2 : ∀ (x1 : Int32) (x2 : Int32), f2 x1 x2 σ = some r → G p l e (rmd 2 0 0) s m args below meth c E true (sZ σ) ad0 (MQ below (QI E true σ r σ ad0) args s 0 0 (AE E)) 3 0 0 σ 2 [(0, .ref 33), (1, .int x1), (2, .int x2)] []) (h : mX1_wasEverSold_2B f2 x1 x2 σ = some r) : G p l e (rmd 2 0 0) s m args below meth c E true (sZ σ) ad0 (MQ below (QI E true σ r σ ad0) args s 0 0 (AE E)) 3 0 0 σ 2 [(0, .ref 33), (1, .int x1), (2, .int x2)] [] := by
  unfold mX1_wasEverSold_2B at h
  refine G_iload_n C 2 rfl rfl dX1_wasEverSold_2 ?_
  refine G_aload_n C 0 rfl rfl dX1_wasEverSold_3 ?_
  refine G_getI C fl_X1_60_1 (Or.inl rfl) ko_33 dX1_wasEverSold_4 ?_
  refine G_icmp_ge (tgt := 42) C rfl dX1_wasEverSold_7 (fun hc1 => ?_) (fun hc1 => ?_)
  · replace h := (if_pos hc1).symm.trans h
    refine G_iconst C (v := 0) rfl dX1_wasEverSold_42 ?_
    obtain rfl := Option.some.inj h
    exact G_zret C (by decide) hr (Nat.le_of_ble_eq_true rfl) (Nat.le_of_ble_eq_true rfl) dX1_wasEverSold_43
  · replace h := (if_neg hc1).symm.trans h
    refine G_aload_n C 0 rfl rfl dX1_wasEverSold_10 ?_
    refine G_iload_n C 2 rfl rfl dX1_wasEverSold_11 ?_
    obtain ⟨v2, hv2, h⟩ := bnd h
    refine G_callR (run_V C [.int x2] [] (dX1_factAt hv2) ml_X1_factAt mv_X1_factAt lk_X1_97 ⟨(Nat.le_of_ble_eq_true rfl), (Nat.le_of_ble_eq_true rfl)⟩ ⟨(Nat.le_of_ble_eq_true rfl), (Nat.le_of_ble_eq_true rfl)⟩ vq_1 rfl ko_33 rfl (Nat.le_of_ble_eq_true rfl) dX1_wasEverSold_12) ?_
    obtain ⟨hc3, h⟩ := ifn h
    refine G_getI C fl_X1_101_3 (Or.inl rfl) (KO.dy hc3) dX1_wasEverSold_15 ?_
    refine G_iconst C (v := 2) rfl dX1_wasEverSold_18 ?_
    refine G_icmp_ne (tgt := 36) C rfl dX1_wasEverSold_19 (fun hc4 => ?_) (fun hc4 => ?_)
    · replace h := (if_neg hc4).symm.trans h
      refine G_iinc (v := 1) (L' := [(2, .int (x2 + (1 : Int32))), (0, .ref 33), (1, .int x1)]) C 2 rfl rfl (Nat.le_of_ble_eq_true rfl) rfl dX1_wasEverSold_36 ?_
      refine G_goto (tgt := 2) C rfl dX1_wasEverSold_39 ?_
      refine G_sub [1, 2, 0] rfl ?_
      exact hf2 _ _ h
    · replace h := (if_pos hc4).symm.trans h
      refine G_aload_n C 0 rfl rfl dX1_wasEverSold_22 ?_
      refine G_iload_n C 2 rfl rfl dX1_wasEverSold_23 ?_
      obtain ⟨v5, hv5, h⟩ := bnd h
      refine G_callR (run_V C [.int x2] [] (dX1_factAt hv5) ml_X1_factAt mv_X1_factAt lk_X1_97 ⟨(Nat.le_of_ble_eq_true rfl), (Nat.le_of_ble_eq_true rfl)⟩ ⟨(Nat.le_of_ble_eq_true rfl), (Nat.le_of_ble_eq_true rfl)⟩ vq_1 rfl ko_33 rfl (Nat.le_of_ble_eq_true rfl) dX1_wasEverSold_24) ?_
      obtain ⟨hc6, h⟩ := ifn h
      refine G_getI C fl_X1_104_3 (Or.inl rfl) (KO.dy hc6) dX1_wasEverSold_27 ?_
      refine G_iload_n C 1 rfl rfl dX1_wasEverSold_30 ?_
      refine G_icmp_ne (tgt := 36) C rfl dX1_wasEverSold_31 (fun hc7 => ?_) (fun hc7 => ?_)
      · replace h := (if_neg hc7).symm.trans h
        refine G_iinc (v := 1) (L' := [(2, .int (x2 + (1 : Int32))), (0, .ref 33), (1, .int x1)]) C 2 rfl rfl (Nat.le_of_ble_eq_true rfl) rfl dX1_wasEverSold_36 ?_
        refine G_goto (tgt := 2) C rfl dX1_wasEverSold_39 ?_
        refine G_sub [1, 2, 0] rfl ?_
        exact hf2 _ _ h
      · replace h := (if_pos hc7).symm.trans h
        refine G_iconst C (v := 1) rfl dX1_wasEverSold_34 ?_
        obtain rfl := Option.some.inj h
        exact G_zret C (by decide) hr (Nat.le_of_ble_eq_true rfl) (Nat.le_of_ble_eq_true rfl) dX1_wasEverSold_35
set_option maxRecDepth 100000 in
set_option maxHeartbeats 4000000 in
theorem eX1_wasEverSold_2 (C : Cx E p s m args meth c cX1_wasEverSold 3 RX1) (hr : meth.sig.returnType = (some .boolean)) {r : Int32} {σ : Sto} {n : Nat} {x1 : Int32} {x2 : Int32} (h : mX1_wasEverSold_2 n x1 x2 σ = some r) : G p l e (rmd 2 0 0) s m args below meth c E true (sZ σ) ad0 (MQ below (QI E true σ r σ ad0) args s 0 0 (AE E)) 3 0 0 σ 2 [(0, .ref 33), (1, .int x1), (2, .int x2)] [] := by
  induction n generalizing x1 x2 with
  | zero => exact nomatch (show (none : Option Int32) = some r from h)
  | succ n ih => exact eX1_wasEverSold_2B C hr (fun z0 z1 h9 => ih h9) h
set_option maxRecDepth 100000 in
set_option maxHeartbeats 4000000 in
theorem dX1_wasEverSold {σ : Sto} {p0 : Int32} {r : Int32} (h : mX1_wasEverSold p0 σ = some r) : MM l yX1_wasEverSold cX1_wasEverSold 3 (some .boolean) 2 0 0 E true σ [.ref 33, .int p0] (QI E true σ r σ) := by
  unfold mX1_wasEverSold at h
  refine MM_of (by decide) (Nat.le_of_ble_eq_true rfl) rfl (fun p e s m args below meth c ad0 C hr hn => ?_)
  refine G_iconst C (v := 0) rfl dX1_wasEverSold_0 ?_
  refine G_istore_n (L' := [(2, .int (0 : Int32)), (0, .ref 33), (1, .int p0)]) C rfl (Nat.le_of_ble_eq_true rfl) rfl dX1_wasEverSold_1 ?_
  refine G_sub [1, 2, 0] rfl ?_
  exact eX1_wasEverSold_2 C hr h
set_option maxRecDepth 100000 in
set_option maxHeartbeats 4000000 in
theorem dX9_isKnownOn3 {σ : Sto} {a0 : Nat} {p0 : Int32} {r : Int32} (hk0 : sK σ a0 = 4) (h : mX9_isKnownOn3 a0 p0 σ = some r) : MM l yX9_isKnownOn cX9_isKnownOn 2 (some .boolean) 1 0 0 E st σ [.ref a0, .int p0] (QI E st σ r σ) := by
  unfold mX9_isKnownOn3 at h
  refine MM_of (by decide) (Nat.le_of_ble_eq_true rfl) rfl (fun p e s m args below meth c ad0 C hr hn => ?_)
  refine G_aload_n C 0 rfl rfl dX9_isKnownOn_0 ?_
  refine G_getI C fl_X9_10_3 (Or.inl rfl) (KO.dy hk0) dX9_isKnownOn_1 ?_
  refine G_iload_n C 1 rfl rfl dX9_isKnownOn_4 ?_
  refine G_icmp_gt (tgt := 20) C rfl dX9_isKnownOn_5 (fun hc1 => ?_) (fun hc1 => ?_)
  · replace h := (if_pos hc1).symm.trans h
    refine G_iconst C (v := 0) rfl dX9_isKnownOn_20 ?_
    obtain rfl := Option.some.inj h
    exact G_zret C (by decide) hr (Nat.le_of_ble_eq_true rfl) (Nat.le_of_ble_eq_true rfl) dX9_isKnownOn_21
  · replace h := (if_neg hc1).symm.trans h
    refine G_iload_n C 1 rfl rfl dX9_isKnownOn_8 ?_
    refine G_aload_n C 0 rfl rfl dX9_isKnownOn_9 ?_
    refine G_getI C fl_X9_16_3 (Or.inl rfl) (KO.dy hk0) dX9_isKnownOn_10 ?_
    refine G_icmp_ge (tgt := 20) C rfl dX9_isKnownOn_13 (fun hc2 => ?_) (fun hc2 => ?_)
    · replace h := (if_pos hc2).symm.trans h
      refine G_iconst C (v := 0) rfl dX9_isKnownOn_20 ?_
      obtain rfl := Option.some.inj h
      exact G_zret C (by decide) hr (Nat.le_of_ble_eq_true rfl) (Nat.le_of_ble_eq_true rfl) dX9_isKnownOn_21
    · replace h := (if_neg hc2).symm.trans h
      refine G_iconst C (v := 1) rfl dX9_isKnownOn_16 ?_
      refine G_goto (tgt := 21) C rfl dX9_isKnownOn_17 ?_
      obtain rfl := Option.some.inj h
      exact G_zret C (by decide) hr (Nat.le_of_ble_eq_true rfl) (Nat.le_of_ble_eq_true rfl) dX9_isKnownOn_21
set_option maxRecDepth 100000 in
set_option maxHeartbeats 4000000 in
theorem dX11_twelfths {σ : Sto} {p0 : Int32} {p1 : Int32} {r : Int32} (h : mX11_twelfths p0 p1 σ = some r) : MM l yX11_twelfths cX11_twelfths 2 (some .int) 1 0 0 E st σ [.int p0, .int p1] (QI E st σ r σ) := by
  unfold mX11_twelfths at h
  refine MM_of (by decide) (Nat.le_of_ble_eq_true rfl) rfl (fun p e s m args below meth c ad0 C hr hn => ?_)
  refine G_iload_n C 1 rfl rfl dX11_twelfths_0 ?_
  refine G_iconst C (v := 1) rfl dX11_twelfths_1 ?_
  refine G_icmp_ge (tgt := 9) C rfl dX11_twelfths_2 (fun hc1 => ?_) (fun hc1 => ?_)
  · replace h := (if_pos hc1).symm.trans h
    refine G_sipush C (v := 27720) rfl dX11_twelfths_9 ?_
    refine G_iload_n C 1 rfl rfl dX11_twelfths_12 ?_
    obtain ⟨hc2, h⟩ := ifn h
    refine G_idiv C hc2 dX11_twelfths_13 ?_
    refine G_iload_n C 0 rfl rfl dX11_twelfths_14 ?_
    refine G_imul C dX11_twelfths_15 ?_
    obtain rfl := Option.some.inj h
    exact G_iret C hr (Nat.le_of_ble_eq_true rfl) (Nat.le_of_ble_eq_true rfl) dX11_twelfths_16
  · replace h := (if_neg hc1).symm.trans h
    refine G_iconst C (v := 0) rfl dX11_twelfths_5 ?_
    refine G_goto (tgt := 16) C rfl dX11_twelfths_6 ?_
    obtain rfl := Option.some.inj h
    exact G_iret C hr (Nat.le_of_ble_eq_true rfl) (Nat.le_of_ble_eq_true rfl) dX11_twelfths_16
set_option maxRecDepth 100000 in
set_option maxHeartbeats 4000000 in
theorem eX1_inheritedOf_4B (C : Cx E p s m args meth c cX1_inheritedOf 5 RX1) (hr : meth.sig.returnType = (some .int)) {r : Int32} {σ : Sto} {f4 : Int32 → Int32 → Int32 → Sto → Option Int32} {x1 : Int32} {x2 : Int32} {x3 : Int32} (hf4 : ∀ (x1 : Int32) (x2 : Int32) (x3 : Int32), f4 x1 x2 x3 σ = some r → G p l e (rmd 2 0 0) s m args below meth c E true (sZ σ) ad0 (MQ below (QI E true σ r σ ad0) args s 0 0 (AE E)) 5 0 0 σ 4 [(0, .ref 33), (1, .int x1), (2, .int x2), (3, .int x3)] []) (h : mX1_inheritedOf_4B f4 x1 x2 x3 σ = some r) : G p l e (rmd 2 0 0) s m args below meth c E true (sZ σ) ad0 (MQ below (QI E true σ r σ ad0) args s 0 0 (AE E)) 5 0 0 σ 4 [(0, .ref 33), (1, .int x1), (2, .int x2), (3, .int x3)] [] := by
  unfold mX1_inheritedOf_4B at h
  refine G_iload_n C 3 rfl rfl dX1_inheritedOf_4 ?_
  refine G_aload_n C 0 rfl rfl dX1_inheritedOf_5 ?_
  refine G_getI C fl_X1_60_1 (Or.inl rfl) ko_33 dX1_inheritedOf_6 ?_
  refine G_icmp_ge (tgt := 71) C rfl dX1_inheritedOf_9 (fun hc1 => ?_) (fun hc1 => ?_)
  · replace h := (if_pos hc1).symm.trans h
    refine G_iload_n C 2 rfl rfl dX1_inheritedOf_71 ?_
    obtain rfl := Option.some.inj h
    exact G_iret C hr (Nat.le_of_ble_eq_true rfl) (Nat.le_of_ble_eq_true rfl) dX1_inheritedOf_72
  · replace h := (if_neg hc1).symm.trans h
    refine G_aload_n C 0 rfl rfl dX1_inheritedOf_12 ?_
    refine G_iload_n C 3 rfl rfl dX1_inheritedOf_13 ?_
    obtain ⟨v2, hv2, h⟩ := bnd h
    refine G_callR (run_V C [.int x3] [] (dX1_factAt hv2) ml_X1_factAt mv_X1_factAt lk_X1_97 ⟨(Nat.le_of_ble_eq_true rfl), (Nat.le_of_ble_eq_true rfl)⟩ ⟨(Nat.le_of_ble_eq_true rfl), (Nat.le_of_ble_eq_true rfl)⟩ vq_1 rfl ko_33 rfl (Nat.le_of_ble_eq_true rfl) dX1_inheritedOf_14) ?_
    refine G_astore (L' := [(4, .ref v2), (0, .ref 33), (1, .int x1), (2, .int x2), (3, .int x3)]) C (Nat.le_of_ble_eq_true rfl) rfl dX1_inheritedOf_17 ?_
    refine G_aload C 0 rfl dX1_inheritedOf_19 ?_
    obtain ⟨hc3, h⟩ := ifn h
    refine G_getI C fl_X1_101_3 (Or.inl rfl) (KO.dy hc3) dX1_inheritedOf_21 ?_
    refine G_iconst C (v := 1) rfl dX1_inheritedOf_24 ?_
    refine G_icmp_ne (tgt := 65) C rfl dX1_inheritedOf_25 (fun hc4 => ?_) (fun hc4 => ?_)
    · replace h := (if_neg hc4).symm.trans h
      refine G_iinc (v := 1) (L' := [(3, .int (x3 + (1 : Int32))), (4, .ref v2), (0, .ref 33), (1, .int x1), (2, .int x2)]) C 4 rfl rfl (Nat.le_of_ble_eq_true rfl) rfl dX1_inheritedOf_65 ?_
      refine G_goto (tgt := 4) C rfl dX1_inheritedOf_68 ?_
      refine G_sub [2, 3, 4, 0] rfl ?_
      exact hf4 _ _ _ h
    · replace h := (if_pos hc4).symm.trans h
      refine G_aload C 0 rfl dX1_inheritedOf_28 ?_
      refine G_getI C fl_X1_107_3 (Or.inl rfl) (KO.dy hc3) dX1_inheritedOf_30 ?_
      refine G_iload_n C 2 rfl rfl dX1_inheritedOf_33 ?_
      refine G_icmp_ne (tgt := 65) C rfl dX1_inheritedOf_34 (fun hc5 => ?_) (fun hc5 => ?_)
      · replace h := (if_neg hc5).symm.trans h
        refine G_iinc (v := 1) (L' := [(3, .int (x3 + (1 : Int32))), (4, .ref v2), (0, .ref 33), (1, .int x1), (2, .int x2)]) C 4 rfl rfl (Nat.le_of_ble_eq_true rfl) rfl dX1_inheritedOf_65 ?_
        refine G_goto (tgt := 4) C rfl dX1_inheritedOf_68 ?_
        refine G_sub [2, 3, 4, 0] rfl ?_
        exact hf4 _ _ _ h
      · replace h := (if_pos hc5).symm.trans h
        refine G_aload C 0 rfl dX1_inheritedOf_37 ?_
        refine G_aload_n C 1 rfl rfl dX1_inheritedOf_39 ?_
        refine G_getI C fl_X1_9_1 (Or.inl rfl) ko_33 dX1_inheritedOf_40 ?_
        obtain ⟨v6, hv6, h⟩ := bnd h
        refine G_callI (run_U C [.int (sI σ 33 0)] [] (dX9_isKnownOn3 hc3 hv6) wu_X1_110 ⟨(Nat.le_of_ble_eq_true rfl), (Nat.le_of_ble_eq_true rfl)⟩ ⟨(Nat.le_of_ble_eq_true rfl), (Nat.le_of_ble_eq_true rfl)⟩ vq_3 (KO.dy hc3) rfl (Nat.le_of_ble_eq_true rfl) dX1_inheritedOf_43) ?_
        refine G_if_eq (tgt := 65) C rfl dX1_inheritedOf_46 (fun hc7 => ?_) (fun hc7 => ?_)
        · replace h := (if_pos hc7).symm.trans h
          refine G_iinc (v := 1) (L' := [(3, .int (x3 + (1 : Int32))), (4, .ref v2), (0, .ref 33), (1, .int x1), (2, .int x2)]) C 4 rfl rfl (Nat.le_of_ble_eq_true rfl) rfl dX1_inheritedOf_65 ?_
          refine G_goto (tgt := 4) C rfl dX1_inheritedOf_68 ?_
          refine G_sub [2, 3, 4, 0] rfl ?_
          exact hf4 _ _ _ h
        · replace h := (if_neg hc7).symm.trans h
          refine G_iload_n C 3 rfl rfl dX1_inheritedOf_49 ?_
          refine G_aload C 0 rfl dX1_inheritedOf_50 ?_
          refine G_getI C fl_X1_114_3 (Or.inl rfl) (KO.dy hc3) dX1_inheritedOf_52 ?_
          refine G_aload C 0 rfl dX1_inheritedOf_55 ?_
          refine G_getI C fl_X1_117_3 (Or.inl rfl) (KO.dy hc3) dX1_inheritedOf_57 ?_
          obtain ⟨v8, hv8, h⟩ := bnd h
          refine G_callI (run_SN C [.int (sI σ v2 8), .int (sI σ v2 9)] [.int x2] (dX11_twelfths hv8) ml_X11_twelfths ms_X11_twelfths (by decide) ⟨(Nat.le_of_ble_eq_true rfl), (Nat.le_of_ble_eq_true rfl)⟩ ⟨(Nat.le_of_ble_eq_true rfl), (Nat.le_of_ble_eq_true rfl)⟩ rfl (Nat.le_of_ble_eq_true rfl) dX1_inheritedOf_60) ?_
          refine G_iadd C dX1_inheritedOf_63 ?_
          refine G_istore_n (L' := [(2, .int (x2 + v8)), (4, .ref v2), (0, .ref 33), (1, .int x1), (3, .int x3)]) C rfl (Nat.le_of_ble_eq_true rfl) rfl dX1_inheritedOf_64 ?_
          refine G_iinc (v := 1) (L' := [(3, .int (x3 + (1 : Int32))), (2, .int (x2 + v8)), (4, .ref v2), (0, .ref 33), (1, .int x1)]) C 4 rfl rfl (Nat.le_of_ble_eq_true rfl) rfl dX1_inheritedOf_65 ?_
          refine G_goto (tgt := 4) C rfl dX1_inheritedOf_68 ?_
          refine G_sub [3, 4, 1, 0] rfl ?_
          exact hf4 _ _ _ h
set_option maxRecDepth 100000 in
set_option maxHeartbeats 4000000 in
theorem eX1_inheritedOf_4 (C : Cx E p s m args meth c cX1_inheritedOf 5 RX1) (hr : meth.sig.returnType = (some .int)) {r : Int32} {σ : Sto} {n : Nat} {x1 : Int32} {x2 : Int32} {x3 : Int32} (h : mX1_inheritedOf_4 n x1 x2 x3 σ = some r) : G p l e (rmd 2 0 0) s m args below meth c E true (sZ σ) ad0 (MQ below (QI E true σ r σ ad0) args s 0 0 (AE E)) 5 0 0 σ 4 [(0, .ref 33), (1, .int x1), (2, .int x2), (3, .int x3)] [] := by
  induction n generalizing x1 x2 x3 with
  | zero => exact nomatch (show (none : Option Int32) = some r from h)
  | succ n ih => exact eX1_inheritedOf_4B C hr (fun z0 z1 z2 h9 => ih h9) h
set_option maxRecDepth 100000 in
set_option maxHeartbeats 4000000 in
theorem dX1_inheritedOf {σ : Sto} {p0 : Int32} {r : Int32} (h : mX1_inheritedOf p0 σ = some r) : MM l yX1_inheritedOf cX1_inheritedOf 5 (some .int) 2 0 0 E true σ [.ref 33, .int p0] (QI E true σ r σ) := by
  unfold mX1_inheritedOf at h
  refine MM_of (by decide) (Nat.le_of_ble_eq_true rfl) rfl (fun p e s m args below meth c ad0 C hr hn => ?_)
  refine G_iconst C (v := 0) rfl dX1_inheritedOf_0 ?_
  refine G_istore_n (L' := [(2, .int (0 : Int32)), (0, .ref 33), (1, .int p0)]) C rfl (Nat.le_of_ble_eq_true rfl) rfl dX1_inheritedOf_1 ?_
  refine G_iconst C (v := 0) rfl dX1_inheritedOf_2 ?_
  refine G_istore_n (L' := [(3, .int (0 : Int32)), (2, .int (0 : Int32)), (0, .ref 33), (1, .int p0)]) C rfl (Nat.le_of_ble_eq_true rfl) rfl dX1_inheritedOf_3 ?_
  refine G_sub [2, 3, 1, 0] rfl ?_
  exact eX1_inheritedOf_4 C hr h
set_option maxRecDepth 100000 in
set_option maxHeartbeats 4000000 in
theorem eX1_claimOf_2B (C : Cx E p s m args meth c cX1_claimOf 4 RX1) (hr : meth.sig.returnType = (some .int)) {r : Int32} {σ : Sto} {f2 : Int32 → Int32 → Int32 → Sto → Option Int32} {x1 : Int32} {x2 : Int32} {x3 : Int32} (hf2 : ∀ (x1 : Int32) (x2 : Int32) (x3 : Int32), f2 x1 x2 x3 σ = some r → G p l e (rmd 2 0 0) s m args below meth c E true (sZ σ) ad0 (MQ below (QI E true σ r σ ad0) args s 0 0 (AE E)) 4 0 0 σ 2 [(0, .ref 33), (1, .int x1), (2, .int x2), (3, .int x3)] []) (h : mX1_claimOf_2B f2 x1 x2 x3 σ = some r) : G p l e (rmd 2 0 0) s m args below meth c E true (sZ σ) ad0 (MQ below (QI E true σ r σ ad0) args s 0 0 (AE E)) 4 0 0 σ 2 [(0, .ref 33), (1, .int x1), (2, .int x2), (3, .int x3)] [] := by
  unfold mX1_claimOf_2B at h
  refine G_iload_n C 3 rfl rfl dX1_claimOf_2 ?_
  refine G_aload_n C 0 rfl rfl dX1_claimOf_3 ?_
  refine G_getI C fl_X1_66_1 (Or.inl rfl) ko_33 dX1_claimOf_4 ?_
  refine G_icmp_ge (tgt := 42) C rfl dX1_claimOf_7 (fun hc1 => ?_) (fun hc1 => ?_)
  · replace h := (if_pos hc1).symm.trans h
    refine G_iconst C (v := -1) rfl dX1_claimOf_42 ?_
    obtain rfl := Option.some.inj h
    exact G_iret C hr (Nat.le_of_ble_eq_true rfl) (Nat.le_of_ble_eq_true rfl) dX1_claimOf_43
  · replace h := (if_neg hc1).symm.trans h
    refine G_aload_n C 0 rfl rfl dX1_claimOf_10 ?_
    refine G_iload_n C 3 rfl rfl dX1_claimOf_11 ?_
    obtain ⟨v2, hv2, h⟩ := bnd h
    refine G_callR (run_V C [.int x3] [] (dX1_claimAt hv2) ml_X1_claimAt mv_X1_claimAt lk_X1_124 ⟨(Nat.le_of_ble_eq_true rfl), (Nat.le_of_ble_eq_true rfl)⟩ ⟨(Nat.le_of_ble_eq_true rfl), (Nat.le_of_ble_eq_true rfl)⟩ vq_1 rfl ko_33 rfl (Nat.le_of_ble_eq_true rfl) dX1_claimOf_12) ?_
    obtain ⟨hc3, h⟩ := ifn h
    refine G_getI C fl_X1_107_3 (Or.inl rfl) (KO.dy hc3) dX1_claimOf_15 ?_
    refine G_iload_n C 1 rfl rfl dX1_claimOf_18 ?_
    refine G_icmp_ne (tgt := 36) C rfl dX1_claimOf_19 (fun hc4 => ?_) (fun hc4 => ?_)
    · replace h := (if_neg hc4).symm.trans h
      refine G_iinc (v := 1) (L' := [(3, .int (x3 + (1 : Int32))), (0, .ref 33), (1, .int x1), (2, .int x2)]) C 3 rfl rfl (Nat.le_of_ble_eq_true rfl) rfl dX1_claimOf_36 ?_
      refine G_goto (tgt := 2) C rfl dX1_claimOf_39 ?_
      refine G_sub [1, 2, 3, 0] rfl ?_
      exact hf2 _ _ _ h
    · replace h := (if_pos hc4).symm.trans h
      refine G_aload_n C 0 rfl rfl dX1_claimOf_22 ?_
      refine G_iload_n C 3 rfl rfl dX1_claimOf_23 ?_
      obtain ⟨v5, hv5, h⟩ := bnd h
      refine G_callR (run_V C [.int x3] [] (dX1_claimAt hv5) ml_X1_claimAt mv_X1_claimAt lk_X1_124 ⟨(Nat.le_of_ble_eq_true rfl), (Nat.le_of_ble_eq_true rfl)⟩ ⟨(Nat.le_of_ble_eq_true rfl), (Nat.le_of_ble_eq_true rfl)⟩ vq_1 rfl ko_33 rfl (Nat.le_of_ble_eq_true rfl) dX1_claimOf_24) ?_
      obtain ⟨hc6, h⟩ := ifn h
      refine G_getI C fl_X1_104_3 (Or.inl rfl) (KO.dy hc6) dX1_claimOf_27 ?_
      refine G_iload_n C 2 rfl rfl dX1_claimOf_30 ?_
      refine G_icmp_ne (tgt := 36) C rfl dX1_claimOf_31 (fun hc7 => ?_) (fun hc7 => ?_)
      · replace h := (if_neg hc7).symm.trans h
        refine G_iinc (v := 1) (L' := [(3, .int (x3 + (1 : Int32))), (0, .ref 33), (1, .int x1), (2, .int x2)]) C 3 rfl rfl (Nat.le_of_ble_eq_true rfl) rfl dX1_claimOf_36 ?_
        refine G_goto (tgt := 2) C rfl dX1_claimOf_39 ?_
        refine G_sub [1, 2, 3, 0] rfl ?_
        exact hf2 _ _ _ h
      · replace h := (if_pos hc7).symm.trans h
        refine G_iload_n C 3 rfl rfl dX1_claimOf_34 ?_
        obtain rfl := Option.some.inj h
        exact G_iret C hr (Nat.le_of_ble_eq_true rfl) (Nat.le_of_ble_eq_true rfl) dX1_claimOf_35
set_option maxRecDepth 100000 in
set_option maxHeartbeats 4000000 in
theorem eX1_claimOf_2 (C : Cx E p s m args meth c cX1_claimOf 4 RX1) (hr : meth.sig.returnType = (some .int)) {r : Int32} {σ : Sto} {n : Nat} {x1 : Int32} {x2 : Int32} {x3 : Int32} (h : mX1_claimOf_2 n x1 x2 x3 σ = some r) : G p l e (rmd 2 0 0) s m args below meth c E true (sZ σ) ad0 (MQ below (QI E true σ r σ ad0) args s 0 0 (AE E)) 4 0 0 σ 2 [(0, .ref 33), (1, .int x1), (2, .int x2), (3, .int x3)] [] := by
  induction n generalizing x1 x2 x3 with
  | zero => exact nomatch (show (none : Option Int32) = some r from h)
  | succ n ih => exact eX1_claimOf_2B C hr (fun z0 z1 z2 h9 => ih h9) h
set_option maxRecDepth 100000 in
set_option maxHeartbeats 4000000 in
theorem dX1_claimOf {σ : Sto} {p0 : Int32} {p1 : Int32} {r : Int32} (h : mX1_claimOf p0 p1 σ = some r) : MM l yX1_claimOf cX1_claimOf 4 (some .int) 2 0 0 E true σ [.ref 33, .int p0, .int p1] (QI E true σ r σ) := by
  unfold mX1_claimOf at h
  refine MM_of (by decide) (Nat.le_of_ble_eq_true rfl) rfl (fun p e s m args below meth c ad0 C hr hn => ?_)
  refine G_iconst C (v := 0) rfl dX1_claimOf_0 ?_
  refine G_istore_n (L' := [(3, .int (0 : Int32)), (0, .ref 33), (1, .int p0), (2, .int p1)]) C rfl (Nat.le_of_ble_eq_true rfl) rfl dX1_claimOf_1 ?_
  refine G_sub [1, 2, 3, 0] rfl ?_
  exact eX1_claimOf_2 C hr h
set_option maxRecDepth 100000 in
set_option maxHeartbeats 4000000 in
theorem eX1_rateFor_5B (C : Cx E p s m args meth c cX1_rateFor 6 RX1) (hr : meth.sig.returnType = (some .int)) {r : Int32} {σ : Sto} {f5 : Int32 → Int32 → Int32 → Int32 → Sto → Option Int32} {x1 : Int32} {x2 : Int32} {x3 : Int32} {x4 : Int32} (hf5 : ∀ (x1 : Int32) (x2 : Int32) (x3 : Int32) (x4 : Int32), f5 x1 x2 x3 x4 σ = some r → G p l e (rmd 2 0 0) s m args below meth c E true (sZ σ) ad0 (MQ below (QI E true σ r σ ad0) args s 0 0 (AE E)) 6 0 0 σ 5 [(0, .ref 33), (1, .int x1), (2, .int x2), (3, .int x3), (4, .int x4)] []) (h : mX1_rateFor_5B f5 x1 x2 x3 x4 σ = some r) : G p l e (rmd 2 0 0) s m args below meth c E true (sZ σ) ad0 (MQ below (QI E true σ r σ ad0) args s 0 0 (AE E)) 6 0 0 σ 5 [(0, .ref 33), (1, .int x1), (2, .int x2), (3, .int x3), (4, .int x4)] [] := by
  unfold mX1_rateFor_5B at h
  refine G_iload C 4 rfl dX1_rateFor_5 ?_
  refine G_aload_n C 0 rfl rfl dX1_rateFor_7 ?_
  refine G_getI C fl_X1_51_1 (Or.inl rfl) ko_33 dX1_rateFor_8 ?_
  refine G_icmp_ge (tgt := 65) C rfl dX1_rateFor_11 (fun hc1 => ?_) (fun hc1 => ?_)
  · replace h := (if_pos hc1).symm.trans h
    refine G_aload_n C 0 rfl rfl dX1_rateFor_65 ?_
    refine G_iload_n C 3 rfl rfl dX1_rateFor_66 ?_
    obtain ⟨v2, hv2, h⟩ := bnd h
    refine G_callR (run_V C [.int x3] [] (dX1_rateAt hv2) ml_X1_rateAt mv_X1_rateAt lk_X1_127 ⟨(Nat.le_of_ble_eq_true rfl), (Nat.le_of_ble_eq_true rfl)⟩ ⟨(Nat.le_of_ble_eq_true rfl), (Nat.le_of_ble_eq_true rfl)⟩ vq_1 rfl ko_33 rfl (Nat.le_of_ble_eq_true rfl) dX1_rateFor_67) ?_
    obtain ⟨hc3, h⟩ := ifn h
    refine G_getI C fl_X1_137_6 (Or.inl rfl) (KO.dy hc3) dX1_rateFor_70 ?_
    obtain rfl := Option.some.inj h
    exact G_iret C hr (Nat.le_of_ble_eq_true rfl) (Nat.le_of_ble_eq_true rfl) dX1_rateFor_73
  · replace h := (if_neg hc1).symm.trans h
    refine G_aload_n C 0 rfl rfl dX1_rateFor_14 ?_
    refine G_iload C 4 rfl dX1_rateFor_15 ?_
    obtain ⟨v4, hv4, h⟩ := bnd h
    refine G_callR (run_V C [.int x4] [] (dX1_rateAt hv4) ml_X1_rateAt mv_X1_rateAt lk_X1_127 ⟨(Nat.le_of_ble_eq_true rfl), (Nat.le_of_ble_eq_true rfl)⟩ ⟨(Nat.le_of_ble_eq_true rfl), (Nat.le_of_ble_eq_true rfl)⟩ vq_1 rfl ko_33 rfl (Nat.le_of_ble_eq_true rfl) dX1_rateFor_17) ?_
    refine G_astore (L' := [(5, .ref v4), (0, .ref 33), (1, .int x1), (2, .int x2), (3, .int x3), (4, .int x4)]) C (Nat.le_of_ble_eq_true rfl) rfl dX1_rateFor_20 ?_
    refine G_aload C 0 rfl dX1_rateFor_22 ?_
    obtain ⟨hc5, h⟩ := ifn h
    refine G_getI C fl_X1_131_6 (Or.inl rfl) (KO.dy hc5) dX1_rateFor_24 ?_
    refine G_iload_n C 2 rfl rfl dX1_rateFor_27 ?_
    refine G_icmp_ne (tgt := 59) C rfl dX1_rateFor_28 (fun hc6 => ?_) (fun hc6 => ?_)
    · replace h := (if_neg hc6).symm.trans h
      refine G_iinc (v := 1) (L' := [(4, .int (x4 + (1 : Int32))), (5, .ref v4), (0, .ref 33), (1, .int x1), (2, .int x2), (3, .int x3)]) C 5 rfl rfl (Nat.le_of_ble_eq_true rfl) rfl dX1_rateFor_59 ?_
      refine G_goto (tgt := 5) C rfl dX1_rateFor_62 ?_
      refine G_sub [2, 3, 4, 5, 0] rfl ?_
      exact hf5 _ _ _ _ h
    · replace h := (if_pos hc6).symm.trans h
      refine G_aload C 0 rfl dX1_rateFor_31 ?_
      refine G_getI C fl_X1_134_6 (Or.inl rfl) (KO.dy hc5) dX1_rateFor_33 ?_
      refine G_iload_n C 3 rfl rfl dX1_rateFor_36 ?_
      refine G_icmp_gt (tgt := 59) C rfl dX1_rateFor_37 (fun hc7 => ?_) (fun hc7 => ?_)
      · replace h := (if_pos hc7).symm.trans h
        refine G_iinc (v := 1) (L' := [(4, .int (x4 + (1 : Int32))), (5, .ref v4), (0, .ref 33), (1, .int x1), (2, .int x2), (3, .int x3)]) C 5 rfl rfl (Nat.le_of_ble_eq_true rfl) rfl dX1_rateFor_59 ?_
        refine G_goto (tgt := 5) C rfl dX1_rateFor_62 ?_
        refine G_sub [2, 3, 4, 5, 0] rfl ?_
        exact hf5 _ _ _ _ h
      · replace h := (if_neg hc7).symm.trans h
        refine G_aload C 0 rfl dX1_rateFor_40 ?_
        refine G_getI C fl_X1_134_6 (Or.inl rfl) (KO.dy hc5) dX1_rateFor_42 ?_
        refine G_aload_n C 1 rfl rfl dX1_rateFor_45 ?_
        refine G_iload_n C 4 rfl rfl dX1_rateFor_46 ?_
        obtain ⟨v8, hv8, h⟩ := bnd h
        refine G_callR (run_V C [.int x3] [.int (sI σ v4 1)] (dX1_rateAt hv8) ml_X1_rateAt mv_X1_rateAt lk_X1_127 ⟨(Nat.le_of_ble_eq_true rfl), (Nat.le_of_ble_eq_true rfl)⟩ ⟨(Nat.le_of_ble_eq_true rfl), (Nat.le_of_ble_eq_true rfl)⟩ vq_1 rfl ko_33 rfl (Nat.le_of_ble_eq_true rfl) dX1_rateFor_47) ?_
        obtain ⟨hc9, h⟩ := ifn h
        refine G_getI C fl_X1_134_6 (Or.inl rfl) (KO.dy hc9) dX1_rateFor_50 ?_
        refine G_icmp_lt (tgt := 59) C rfl dX1_rateFor_53 (fun hc10 => ?_) (fun hc10 => ?_)
        · replace h := (if_pos hc10).symm.trans h
          refine G_iinc (v := 1) (L' := [(4, .int (x4 + (1 : Int32))), (5, .ref v4), (0, .ref 33), (1, .int x1), (2, .int x2), (3, .int x3)]) C 5 rfl rfl (Nat.le_of_ble_eq_true rfl) rfl dX1_rateFor_59 ?_
          refine G_goto (tgt := 5) C rfl dX1_rateFor_62 ?_
          refine G_sub [2, 3, 4, 5, 0] rfl ?_
          exact hf5 _ _ _ _ h
        · replace h := (if_neg hc10).symm.trans h
          refine G_iload C 5 rfl dX1_rateFor_56 ?_
          refine G_istore_n (L' := [(3, .int x4), (5, .ref v4), (0, .ref 33), (1, .int x1), (2, .int x2), (4, .int x4)]) C rfl (Nat.le_of_ble_eq_true rfl) rfl dX1_rateFor_58 ?_
          refine G_iinc (v := 1) (L' := [(4, .int (x4 + (1 : Int32))), (3, .int x4), (5, .ref v4), (0, .ref 33), (1, .int x1), (2, .int x2)]) C 5 rfl rfl (Nat.le_of_ble_eq_true rfl) rfl dX1_rateFor_59 ?_
          refine G_goto (tgt := 5) C rfl dX1_rateFor_62 ?_
          refine G_sub [3, 4, 5, 1, 0] rfl ?_
          exact hf5 _ _ _ _ h
set_option maxRecDepth 100000 in
set_option maxHeartbeats 4000000 in
theorem eX1_rateFor_5 (C : Cx E p s m args meth c cX1_rateFor 6 RX1) (hr : meth.sig.returnType = (some .int)) {r : Int32} {σ : Sto} {n : Nat} {x1 : Int32} {x2 : Int32} {x3 : Int32} {x4 : Int32} (h : mX1_rateFor_5 n x1 x2 x3 x4 σ = some r) : G p l e (rmd 2 0 0) s m args below meth c E true (sZ σ) ad0 (MQ below (QI E true σ r σ ad0) args s 0 0 (AE E)) 6 0 0 σ 5 [(0, .ref 33), (1, .int x1), (2, .int x2), (3, .int x3), (4, .int x4)] [] := by
  induction n generalizing x1 x2 x3 x4 with
  | zero => exact nomatch (show (none : Option Int32) = some r from h)
  | succ n ih => exact eX1_rateFor_5B C hr (fun z0 z1 z2 z3 h9 => ih h9) h
set_option maxRecDepth 100000 in
set_option maxHeartbeats 4000000 in
theorem dX1_rateFor {σ : Sto} {p0 : Int32} {p1 : Int32} {r : Int32} (h : mX1_rateFor p0 p1 σ = some r) : MM l yX1_rateFor cX1_rateFor 6 (some .int) 2 0 0 E true σ [.ref 33, .int p0, .int p1] (QI E true σ r σ) := by
  unfold mX1_rateFor at h
  refine MM_of (by decide) (Nat.le_of_ble_eq_true rfl) rfl (fun p e s m args below meth c ad0 C hr hn => ?_)
  refine G_iconst C (v := -1) rfl dX1_rateFor_0 ?_
  refine G_istore_n (L' := [(3, .int (-1 : Int32)), (0, .ref 33), (1, .int p0), (2, .int p1)]) C rfl (Nat.le_of_ble_eq_true rfl) rfl dX1_rateFor_1 ?_
  refine G_iconst C (v := 0) rfl dX1_rateFor_2 ?_
  refine G_istore (L' := [(4, .int (0 : Int32)), (3, .int (-1 : Int32)), (0, .ref 33), (1, .int p0), (2, .int p1)]) C (Nat.le_of_ble_eq_true rfl) rfl dX1_rateFor_3 ?_
  refine G_sub [2, 3, 4, 1, 0] rfl ?_
  exact eX1_rateFor_5 C hr h
set_option maxRecDepth 100000 in
set_option maxHeartbeats 4000000 in
theorem dX9_isKnownOn4 {σ : Sto} {a0 : Nat} {p0 : Int32} {r : Int32} (hk0 : sK σ a0 = 5) (h : mX9_isKnownOn4 a0 p0 σ = some r) : MM l yX9_isKnownOn cX9_isKnownOn 2 (some .boolean) 1 0 0 E st σ [.ref a0, .int p0] (QI E st σ r σ) := by
  unfold mX9_isKnownOn4 at h
  refine MM_of (by decide) (Nat.le_of_ble_eq_true rfl) rfl (fun p e s m args below meth c ad0 C hr hn => ?_)
  refine G_aload_n C 0 rfl rfl dX9_isKnownOn_0 ?_
  refine G_getI C fl_X9_10_4 (Or.inl rfl) (KO.dy hk0) dX9_isKnownOn_1 ?_
  refine G_iload_n C 1 rfl rfl dX9_isKnownOn_4 ?_
  refine G_icmp_gt (tgt := 20) C rfl dX9_isKnownOn_5 (fun hc1 => ?_) (fun hc1 => ?_)
  · replace h := (if_pos hc1).symm.trans h
    refine G_iconst C (v := 0) rfl dX9_isKnownOn_20 ?_
    obtain rfl := Option.some.inj h
    exact G_zret C (by decide) hr (Nat.le_of_ble_eq_true rfl) (Nat.le_of_ble_eq_true rfl) dX9_isKnownOn_21
  · replace h := (if_neg hc1).symm.trans h
    refine G_iload_n C 1 rfl rfl dX9_isKnownOn_8 ?_
    refine G_aload_n C 0 rfl rfl dX9_isKnownOn_9 ?_
    refine G_getI C fl_X9_16_4 (Or.inl rfl) (KO.dy hk0) dX9_isKnownOn_10 ?_
    refine G_icmp_ge (tgt := 20) C rfl dX9_isKnownOn_13 (fun hc2 => ?_) (fun hc2 => ?_)
    · replace h := (if_pos hc2).symm.trans h
      refine G_iconst C (v := 0) rfl dX9_isKnownOn_20 ?_
      obtain rfl := Option.some.inj h
      exact G_zret C (by decide) hr (Nat.le_of_ble_eq_true rfl) (Nat.le_of_ble_eq_true rfl) dX9_isKnownOn_21
    · replace h := (if_neg hc2).symm.trans h
      refine G_iconst C (v := 1) rfl dX9_isKnownOn_16 ?_
      refine G_goto (tgt := 21) C rfl dX9_isKnownOn_17 ?_
      obtain rfl := Option.some.inj h
      exact G_zret C (by decide) hr (Nat.le_of_ble_eq_true rfl) (Nat.le_of_ble_eq_true rfl) dX9_isKnownOn_21
set_option maxRecDepth 100000 in
set_option maxHeartbeats 4000000 in
theorem eX1_lawFor_55 (C : Cx E p s m args meth c cX1_lawFor 8 RX1) (hr : meth.sig.returnType = (some .int)) {r : Int32} {σ : Sto} {f6 : Int32 → Int32 → Int32 → Int32 → Int32 → Sto → Option Int32} {x1 : Int32} {x2 : Int32} {x3 : Int32} {x4 : Int32} {x5 : Int32} {x6 : Nat} {y0 : Int32} (hf6 : ∀ (x1 : Int32) (x2 : Int32) (x3 : Int32) (x4 : Int32) (x5 : Int32), f6 x1 x2 x3 x4 x5 σ = some r → G p l e (rmd 2 0 0) s m args below meth c E true (sZ σ) ad0 (MQ below (QI E true σ r σ ad0) args s 0 0 (AE E)) 8 0 0 σ 6 [(0, .ref 33), (1, .int x1), (2, .int x2), (3, .int x3), (4, .int x4), (5, .int x5)] []) (h : mX1_lawFor_55 f6 x1 x2 x3 x4 x5 x6 y0 σ = some r) : G p l e (rmd 2 0 0) s m args below meth c E true (sZ σ) ad0 (MQ below (QI E true σ r σ ad0) args s 0 0 (AE E)) 8 0 0 σ 55 [(0, .ref 33), (1, .int x1), (2, .int x2), (3, .int x3), (4, .int x4), (5, .int x5), (6, .ref x6)] [.int y0] := by
  unfold mX1_lawFor_55 at h
  refine G_istore (L' := [(7, .int y0), (0, .ref 33), (1, .int x1), (2, .int x2), (3, .int x3), (4, .int x4), (5, .int x5), (6, .ref x6)]) C (Nat.le_of_ble_eq_true rfl) rfl dX1_lawFor_55 ?_
  refine G_iload C 0 rfl dX1_lawFor_57 ?_
  refine G_if_eq (tgt := 83) C rfl dX1_lawFor_59 (fun hc5 => ?_) (fun hc5 => ?_)
  · replace h := (if_pos hc5).symm.trans h
    refine G_iinc (v := 1) (L' := [(5, .int (x5 + (1 : Int32))), (7, .int y0), (0, .ref 33), (1, .int x1), (2, .int x2), (3, .int x3), (4, .int x4), (6, .ref x6)]) C 6 rfl rfl (Nat.le_of_ble_eq_true rfl) rfl dX1_lawFor_83 ?_
    refine G_goto (tgt := 6) C rfl dX1_lawFor_86 ?_
    refine G_sub [2, 3, 4, 5, 6, 0] rfl ?_
    exact hf6 _ _ _ _ _ h
  · replace h := (if_neg hc5).symm.trans h
    refine G_aload C 7 rfl dX1_lawFor_62 ?_
    obtain ⟨hc6, h⟩ := ifn h
    refine G_getI C fl_X1_145_4 (Or.inl rfl) (KO.dy hc6) dX1_lawFor_64 ?_
    refine G_aload_n C 1 rfl rfl dX1_lawFor_67 ?_
    refine G_iload C 5 rfl dX1_lawFor_68 ?_
    obtain ⟨v7, hv7, h⟩ := bnd h
    refine G_callR (run_V C [.int x4] [.int (sI σ x6 3)] (dX1_lawAt hv7) ml_X1_lawAt mv_X1_lawAt lk_X1_140 ⟨(Nat.le_of_ble_eq_true rfl), (Nat.le_of_ble_eq_true rfl)⟩ ⟨(Nat.le_of_ble_eq_true rfl), (Nat.le_of_ble_eq_true rfl)⟩ vq_1 rfl ko_33 rfl (Nat.le_of_ble_eq_true rfl) dX1_lawFor_70) ?_
    obtain ⟨hc8, h⟩ := ifn h
    refine G_getI C fl_X1_145_4 (Or.inl rfl) (KO.dy hc8) dX1_lawFor_73 ?_
    refine G_icmp_lt (tgt := 83) C rfl dX1_lawFor_76 (fun hc9 => ?_) (fun hc9 => ?_)
    · replace h := (if_pos hc9).symm.trans h
      refine G_iinc (v := 1) (L' := [(5, .int (x5 + (1 : Int32))), (7, .int y0), (0, .ref 33), (1, .int x1), (2, .int x2), (3, .int x3), (4, .int x4), (6, .ref x6)]) C 6 rfl rfl (Nat.le_of_ble_eq_true rfl) rfl dX1_lawFor_83 ?_
      refine G_goto (tgt := 6) C rfl dX1_lawFor_86 ?_
      refine G_sub [2, 3, 4, 5, 6, 0] rfl ?_
      exact hf6 _ _ _ _ _ h
    · replace h := (if_neg hc9).symm.trans h
      refine G_iload C 6 rfl dX1_lawFor_79 ?_
      refine G_istore (L' := [(4, .int x5), (7, .int y0), (0, .ref 33), (1, .int x1), (2, .int x2), (3, .int x3), (5, .int x5), (6, .ref x6)]) C (Nat.le_of_ble_eq_true rfl) rfl dX1_lawFor_81 ?_
      refine G_iinc (v := 1) (L' := [(5, .int (x5 + (1 : Int32))), (4, .int x5), (7, .int y0), (0, .ref 33), (1, .int x1), (2, .int x2), (3, .int x3), (6, .ref x6)]) C 6 rfl rfl (Nat.le_of_ble_eq_true rfl) rfl dX1_lawFor_83 ?_
      refine G_goto (tgt := 6) C rfl dX1_lawFor_86 ?_
      refine G_sub [3, 4, 5, 6, 1, 0] rfl ?_
      exact hf6 _ _ _ _ _ h
set_option maxRecDepth 100000 in
set_option maxHeartbeats 4000000 in
theorem eX1_lawFor_54 (C : Cx E p s m args meth c cX1_lawFor 8 RX1) (hr : meth.sig.returnType = (some .int)) {r : Int32} {σ : Sto} {f6 : Int32 → Int32 → Int32 → Int32 → Int32 → Sto → Option Int32} {x1 : Int32} {x2 : Int32} {x3 : Int32} {x4 : Int32} {x5 : Int32} {x6 : Nat} (hf6 : ∀ (x1 : Int32) (x2 : Int32) (x3 : Int32) (x4 : Int32) (x5 : Int32), f6 x1 x2 x3 x4 x5 σ = some r → G p l e (rmd 2 0 0) s m args below meth c E true (sZ σ) ad0 (MQ below (QI E true σ r σ ad0) args s 0 0 (AE E)) 8 0 0 σ 6 [(0, .ref 33), (1, .int x1), (2, .int x2), (3, .int x3), (4, .int x4), (5, .int x5)] []) (h : mX1_lawFor_54 f6 x1 x2 x3 x4 x5 x6 σ = some r) : G p l e (rmd 2 0 0) s m args below meth c E true (sZ σ) ad0 (MQ below (QI E true σ r σ ad0) args s 0 0 (AE E)) 8 0 0 σ 54 [(0, .ref 33), (1, .int x1), (2, .int x2), (3, .int x3), (4, .int x4), (5, .int x5), (6, .ref x6)] [] := by
  unfold mX1_lawFor_54 at h
  refine G_iconst C (v := 0) rfl dX1_lawFor_54 ?_
  exact eX1_lawFor_55 C hr hf6 h
set_option maxRecDepth 100000 in
set_option maxHeartbeats 4000000 in
theorem eX1_lawFor_6B (C : Cx E p s m args meth c cX1_lawFor 8 RX1) (hr : meth.sig.returnType = (some .int)) {r : Int32} {σ : Sto} {f6 : Int32 → Int32 → Int32 → Int32 → Int32 → Sto → Option Int32} {x1 : Int32} {x2 : Int32} {x3 : Int32} {x4 : Int32} {x5 : Int32} (hf6 : ∀ (x1 : Int32) (x2 : Int32) (x3 : Int32) (x4 : Int32) (x5 : Int32), f6 x1 x2 x3 x4 x5 σ = some r → G p l e (rmd 2 0 0) s m args below meth c E true (sZ σ) ad0 (MQ below (QI E true σ r σ ad0) args s 0 0 (AE E)) 8 0 0 σ 6 [(0, .ref 33), (1, .int x1), (2, .int x2), (3, .int x3), (4, .int x4), (5, .int x5)] []) (h : mX1_lawFor_6B f6 x1 x2 x3 x4 x5 σ = some r) : G p l e (rmd 2 0 0) s m args below meth c E true (sZ σ) ad0 (MQ below (QI E true σ r σ ad0) args s 0 0 (AE E)) 8 0 0 σ 6 [(0, .ref 33), (1, .int x1), (2, .int x2), (3, .int x3), (4, .int x4), (5, .int x5)] [] := by
  unfold mX1_lawFor_6B at h
  refine G_iload C 5 rfl dX1_lawFor_6 ?_
  refine G_aload_n C 0 rfl rfl dX1_lawFor_8 ?_
  refine G_getI C fl_X1_75_1 (Or.inl rfl) ko_33 dX1_lawFor_9 ?_
  refine G_icmp_ge (tgt := 89) C rfl dX1_lawFor_12 (fun hc1 => ?_) (fun hc1 => ?_)
  · replace h := (if_pos hc1).symm.trans h
    refine G_iload C 4 rfl dX1_lawFor_89 ?_
    obtain rfl := Option.some.inj h
    exact G_iret C hr (Nat.le_of_ble_eq_true rfl) (Nat.le_of_ble_eq_true rfl) dX1_lawFor_91
  · replace h := (if_neg hc1).symm.trans h
    refine G_aload_n C 0 rfl rfl dX1_lawFor_15 ?_
    refine G_iload C 5 rfl dX1_lawFor_16 ?_
    obtain ⟨v2, hv2, h⟩ := bnd h
    refine G_callR (run_V C [.int x5] [] (dX1_lawAt hv2) ml_X1_lawAt mv_X1_lawAt lk_X1_140 ⟨(Nat.le_of_ble_eq_true rfl), (Nat.le_of_ble_eq_true rfl)⟩ ⟨(Nat.le_of_ble_eq_true rfl), (Nat.le_of_ble_eq_true rfl)⟩ vq_1 rfl ko_33 rfl (Nat.le_of_ble_eq_true rfl) dX1_lawFor_18) ?_
    refine G_astore (L' := [(6, .ref v2), (0, .ref 33), (1, .int x1), (2, .int x2), (3, .int x3), (4, .int x4), (5, .int x5)]) C (Nat.le_of_ble_eq_true rfl) rfl dX1_lawFor_21 ?_
    refine G_aload C 0 rfl dX1_lawFor_23 ?_
    obtain ⟨hc3, h⟩ := ifn h
    refine G_getI C fl_X1_144_4 (Or.inl rfl) (KO.dy hc3) dX1_lawFor_25 ?_
    refine G_iload_n C 2 rfl rfl dX1_lawFor_28 ?_
    refine G_icmp_ne (tgt := 54) C rfl dX1_lawFor_29 (fun hc4 => ?_) (fun hc4 => ?_)
    · replace h := (if_neg hc4).symm.trans h
      refine G_sub [1, 2, 3, 4, 5, 6, 0] rfl ?_
      exact eX1_lawFor_54 C hr hf6 h
    · replace h := (if_pos hc4).symm.trans h
      refine G_aload C 0 rfl dX1_lawFor_32 ?_
      refine G_getI C fl_X1_145_4 (Or.inl rfl) (KO.dy hc3) dX1_lawFor_34 ?_
      refine G_iload_n C 3 rfl rfl dX1_lawFor_37 ?_
      refine G_icmp_gt (tgt := 54) C rfl dX1_lawFor_38 (fun hc10 => ?_) (fun hc10 => ?_)
      · replace h := (if_pos hc10).symm.trans h
        refine G_sub [1, 2, 3, 4, 5, 6, 0] rfl ?_
        exact eX1_lawFor_54 C hr hf6 h
      · replace h := (if_neg hc10).symm.trans h
        refine G_aload C 0 rfl dX1_lawFor_41 ?_
        refine G_iload_n C 4 rfl rfl dX1_lawFor_43 ?_
        obtain ⟨v11, hv11, h⟩ := bnd h
        refine G_callI (run_U C [.int x3] [] (dX9_isKnownOn4 hc3 hv11) wu_X1_146 ⟨(Nat.le_of_ble_eq_true rfl), (Nat.le_of_ble_eq_true rfl)⟩ ⟨(Nat.le_of_ble_eq_true rfl), (Nat.le_of_ble_eq_true rfl)⟩ vq_4 (KO.dy hc3) rfl (Nat.le_of_ble_eq_true rfl) dX1_lawFor_44) ?_
        refine G_if_eq (tgt := 54) C rfl dX1_lawFor_47 (fun hc12 => ?_) (fun hc12 => ?_)
        · replace h := (if_pos hc12).symm.trans h
          refine G_sub [1, 2, 3, 4, 5, 6, 0] rfl ?_
          exact eX1_lawFor_54 C hr hf6 h
        · replace h := (if_neg hc12).symm.trans h
          refine G_iconst C (v := 1) rfl dX1_lawFor_50 ?_
          refine G_goto (tgt := 55) C rfl dX1_lawFor_51 ?_
          refine G_sub [1, 2, 3, 4, 5, 6, 0] rfl ?_
          exact eX1_lawFor_55 C hr hf6 h
set_option maxRecDepth 100000 in
set_option maxHeartbeats 4000000 in
theorem eX1_lawFor_6 (C : Cx E p s m args meth c cX1_lawFor 8 RX1) (hr : meth.sig.returnType = (some .int)) {r : Int32} {σ : Sto} {n : Nat} {x1 : Int32} {x2 : Int32} {x3 : Int32} {x4 : Int32} {x5 : Int32} (h : mX1_lawFor_6 n x1 x2 x3 x4 x5 σ = some r) : G p l e (rmd 2 0 0) s m args below meth c E true (sZ σ) ad0 (MQ below (QI E true σ r σ ad0) args s 0 0 (AE E)) 8 0 0 σ 6 [(0, .ref 33), (1, .int x1), (2, .int x2), (3, .int x3), (4, .int x4), (5, .int x5)] [] := by
  induction n generalizing x1 x2 x3 x4 x5 with
  | zero => exact nomatch (show (none : Option Int32) = some r from h)
  | succ n ih => exact eX1_lawFor_6B C hr (fun z0 z1 z2 z3 z4 h9 => ih h9) h
set_option maxRecDepth 100000 in
set_option maxHeartbeats 4000000 in
theorem dX1_lawFor {σ : Sto} {p0 : Int32} {p1 : Int32} {p2 : Int32} {r : Int32} (h : mX1_lawFor p0 p1 p2 σ = some r) : MM l yX1_lawFor cX1_lawFor 8 (some .int) 2 0 0 E true σ [.ref 33, .int p0, .int p1, .int p2] (QI E true σ r σ) := by
  unfold mX1_lawFor at h
  refine MM_of (by decide) (Nat.le_of_ble_eq_true rfl) rfl (fun p e s m args below meth c ad0 C hr hn => ?_)
  refine G_iconst C (v := -1) rfl dX1_lawFor_0 ?_
  refine G_istore (L' := [(4, .int (-1 : Int32)), (0, .ref 33), (1, .int p0), (2, .int p1), (3, .int p2)]) C (Nat.le_of_ble_eq_true rfl) rfl dX1_lawFor_1 ?_
  refine G_iconst C (v := 0) rfl dX1_lawFor_3 ?_
  refine G_istore (L' := [(5, .int (0 : Int32)), (4, .int (-1 : Int32)), (0, .ref 33), (1, .int p0), (2, .int p1), (3, .int p2)]) C (Nat.le_of_ble_eq_true rfl) rfl dX1_lawFor_4 ?_
  refine G_sub [2, 3, 4, 5, 1, 0] rfl ?_
  exact eX1_lawFor_6 C hr h
set_option maxRecDepth 100000 in
set_option maxHeartbeats 4000000 in
theorem eX1_collectorIn_2B (C : Cx E p s m args meth c cX1_collectorIn 3 RX1) (hr : meth.sig.returnType = (some .int)) {r : Int32} {σ : Sto} {f2 : Int32 → Int32 → Sto → Option Int32} {x1 : Int32} {x2 : Int32} (hf2 : ∀ (x1 : Int32) (x2 : Int32), f2 x1 x2 σ = some r → G p l e (rmd 2 0 0) s m args below meth c E true (sZ σ) ad0 (MQ below (QI E true σ r σ ad0) args s 0 0 (AE E)) 3 0 0 σ 2 [(0, .ref 33), (1, .int x1), (2, .int x2)] []) (h : mX1_collectorIn_2B f2 x1 x2 σ = some r) : G p l e (rmd 2 0 0) s m args below meth c E true (sZ σ) ad0 (MQ below (QI E true σ r σ ad0) args s 0 0 (AE E)) 3 0 0 σ 2 [(0, .ref 33), (1, .int x1), (2, .int x2)] [] := by
  unfold mX1_collectorIn_2B at h
  refine G_iload_n C 2 rfl rfl dX1_collectorIn_2 ?_
  refine G_aload_n C 0 rfl rfl dX1_collectorIn_3 ?_
  refine G_getI C fl_X1_42_1 (Or.inl rfl) ko_33 dX1_collectorIn_4 ?_
  refine G_icmp_ge (tgt := 30) C rfl dX1_collectorIn_7 (fun hc1 => ?_) (fun hc1 => ?_)
  · replace h := (if_pos hc1).symm.trans h
    refine G_iconst C (v := -1) rfl dX1_collectorIn_30 ?_
    obtain rfl := Option.some.inj h
    exact G_iret C hr (Nat.le_of_ble_eq_true rfl) (Nat.le_of_ble_eq_true rfl) dX1_collectorIn_31
  · replace h := (if_neg hc1).symm.trans h
    refine G_aload_n C 0 rfl rfl dX1_collectorIn_10 ?_
    refine G_iload_n C 2 rfl rfl dX1_collectorIn_11 ?_
    obtain ⟨v2, hv2, h⟩ := bnd h
    refine G_callR (run_V C [.int x2] [] (dX1_societyAt hv2) ml_X1_societyAt mv_X1_societyAt lk_X1_147 ⟨(Nat.le_of_ble_eq_true rfl), (Nat.le_of_ble_eq_true rfl)⟩ ⟨(Nat.le_of_ble_eq_true rfl), (Nat.le_of_ble_eq_true rfl)⟩ vq_1 rfl ko_33 rfl (Nat.le_of_ble_eq_true rfl) dX1_collectorIn_12) ?_
    obtain ⟨hc3, h⟩ := ifn h
    refine G_getI C fl_X1_151_8 (Or.inl rfl) (KO.dy hc3) dX1_collectorIn_15 ?_
    refine G_iload_n C 1 rfl rfl dX1_collectorIn_18 ?_
    refine G_icmp_ne (tgt := 24) C rfl dX1_collectorIn_19 (fun hc4 => ?_) (fun hc4 => ?_)
    · replace h := (if_neg hc4).symm.trans h
      refine G_iinc (v := 1) (L' := [(2, .int (x2 + (1 : Int32))), (0, .ref 33), (1, .int x1)]) C 2 rfl rfl (Nat.le_of_ble_eq_true rfl) rfl dX1_collectorIn_24 ?_
      refine G_goto (tgt := 2) C rfl dX1_collectorIn_27 ?_
      refine G_sub [1, 2, 0] rfl ?_
      exact hf2 _ _ h
    · replace h := (if_pos hc4).symm.trans h
      refine G_iload_n C 2 rfl rfl dX1_collectorIn_22 ?_
      obtain rfl := Option.some.inj h
      exact G_iret C hr (Nat.le_of_ble_eq_true rfl) (Nat.le_of_ble_eq_true rfl) dX1_collectorIn_23
set_option maxRecDepth 100000 in
set_option maxHeartbeats 4000000 in
theorem eX1_collectorIn_2 (C : Cx E p s m args meth c cX1_collectorIn 3 RX1) (hr : meth.sig.returnType = (some .int)) {r : Int32} {σ : Sto} {n : Nat} {x1 : Int32} {x2 : Int32} (h : mX1_collectorIn_2 n x1 x2 σ = some r) : G p l e (rmd 2 0 0) s m args below meth c E true (sZ σ) ad0 (MQ below (QI E true σ r σ ad0) args s 0 0 (AE E)) 3 0 0 σ 2 [(0, .ref 33), (1, .int x1), (2, .int x2)] [] := by
  induction n generalizing x1 x2 with
  | zero => exact nomatch (show (none : Option Int32) = some r from h)
  | succ n ih => exact eX1_collectorIn_2B C hr (fun z0 z1 h9 => ih h9) h
set_option maxRecDepth 100000 in
set_option maxHeartbeats 4000000 in
theorem dX1_collectorIn {σ : Sto} {p0 : Int32} {r : Int32} (h : mX1_collectorIn p0 σ = some r) : MM l yX1_collectorIn cX1_collectorIn 3 (some .int) 2 0 0 E true σ [.ref 33, .int p0] (QI E true σ r σ) := by
  unfold mX1_collectorIn at h
  refine MM_of (by decide) (Nat.le_of_ble_eq_true rfl) rfl (fun p e s m args below meth c ad0 C hr hn => ?_)
  refine G_iconst C (v := 0) rfl dX1_collectorIn_0 ?_
  refine G_istore_n (L' := [(2, .int (0 : Int32)), (0, .ref 33), (1, .int p0)]) C rfl (Nat.le_of_ble_eq_true rfl) rfl dX1_collectorIn_1 ?_
  refine G_sub [1, 2, 0] rfl ?_
  exact eX1_collectorIn_2 C hr h
set_option maxRecDepth 100000 in
set_option maxHeartbeats 4000000 in
theorem eX1_mandateOf_55 (C : Cx E p s m args meth c cX1_mandateOf 8 RX1) (hr : meth.sig.returnType = (some .int)) {r : Int32} {σ : Sto} {f6 : Int32 → Int32 → Int32 → Int32 → Int32 → Sto → Option Int32} {x1 : Int32} {x2 : Int32} {x3 : Int32} {x4 : Int32} {x5 : Int32} {x6 : Nat} {y0 : Int32} (hf6 : ∀ (x1 : Int32) (x2 : Int32) (x3 : Int32) (x4 : Int32) (x5 : Int32), f6 x1 x2 x3 x4 x5 σ = some r → G p l e (rmd 2 0 0) s m args below meth c E true (sZ σ) ad0 (MQ below (QI E true σ r σ ad0) args s 0 0 (AE E)) 8 0 0 σ 6 [(0, .ref 33), (1, .int x1), (2, .int x2), (3, .int x3), (4, .int x4), (5, .int x5)] []) (h : mX1_mandateOf_55 f6 x1 x2 x3 x4 x5 x6 y0 σ = some r) : G p l e (rmd 2 0 0) s m args below meth c E true (sZ σ) ad0 (MQ below (QI E true σ r σ ad0) args s 0 0 (AE E)) 8 0 0 σ 55 [(0, .ref 33), (1, .int x1), (2, .int x2), (3, .int x3), (4, .int x4), (5, .int x5), (6, .ref x6)] [.int y0] := by
  unfold mX1_mandateOf_55 at h
  refine G_istore (L' := [(7, .int y0), (0, .ref 33), (1, .int x1), (2, .int x2), (3, .int x3), (4, .int x4), (5, .int x5), (6, .ref x6)]) C (Nat.le_of_ble_eq_true rfl) rfl dX1_mandateOf_55 ?_
  refine G_iload C 0 rfl dX1_mandateOf_57 ?_
  refine G_if_eq (tgt := 78) C rfl dX1_mandateOf_59 (fun hc5 => ?_) (fun hc5 => ?_)
  · replace h := (if_pos hc5).symm.trans h
    refine G_iinc (v := 1) (L' := [(5, .int (x5 + (1 : Int32))), (7, .int y0), (0, .ref 33), (1, .int x1), (2, .int x2), (3, .int x3), (4, .int x4), (6, .ref x6)]) C 6 rfl rfl (Nat.le_of_ble_eq_true rfl) rfl dX1_mandateOf_78 ?_
    refine G_goto (tgt := 6) C rfl dX1_mandateOf_81 ?_
    refine G_sub [2, 3, 4, 5, 6, 0] rfl ?_
    exact hf6 _ _ _ _ _ h
  · replace h := (if_neg hc5).symm.trans h
    refine G_aload C 7 rfl dX1_mandateOf_62 ?_
    refine G_iload_n C 4 rfl rfl dX1_mandateOf_64 ?_
    obtain ⟨hc7, h⟩ := ifn h
    obtain ⟨v6, hv6, h⟩ := bnd h
    refine G_callI (run_U C [.int x3] [] (dX9_isKnownOn3 hc7 hv6) wu_X1_110 ⟨(Nat.le_of_ble_eq_true rfl), (Nat.le_of_ble_eq_true rfl)⟩ ⟨(Nat.le_of_ble_eq_true rfl), (Nat.le_of_ble_eq_true rfl)⟩ vq_3 (KO.dy hc7) rfl (Nat.le_of_ble_eq_true rfl) dX1_mandateOf_65) ?_
    refine G_if_eq (tgt := 78) C rfl dX1_mandateOf_68 (fun hc8 => ?_) (fun hc8 => ?_)
    · replace h := (if_pos hc8).symm.trans h
      refine G_iinc (v := 1) (L' := [(5, .int (x5 + (1 : Int32))), (7, .int y0), (0, .ref 33), (1, .int x1), (2, .int x2), (3, .int x3), (4, .int x4), (6, .ref x6)]) C 6 rfl rfl (Nat.le_of_ble_eq_true rfl) rfl dX1_mandateOf_78 ?_
      refine G_goto (tgt := 6) C rfl dX1_mandateOf_81 ?_
      refine G_sub [2, 3, 4, 5, 6, 0] rfl ?_
      exact hf6 _ _ _ _ _ h
    · replace h := (if_neg hc8).symm.trans h
      refine G_aload C 7 rfl dX1_mandateOf_71 ?_
      refine G_getI C fl_X1_155_3 (Or.inl rfl) (KO.dy hc7) dX1_mandateOf_73 ?_
      refine G_istore (L' := [(4, .int (sI σ x6 5)), (7, .int y0), (0, .ref 33), (1, .int x1), (2, .int x2), (3, .int x3), (5, .int x5), (6, .ref x6)]) C (Nat.le_of_ble_eq_true rfl) rfl dX1_mandateOf_76 ?_
      refine G_iinc (v := 1) (L' := [(5, .int (x5 + (1 : Int32))), (4, .int (sI σ x6 5)), (7, .int y0), (0, .ref 33), (1, .int x1), (2, .int x2), (3, .int x3), (6, .ref x6)]) C 6 rfl rfl (Nat.le_of_ble_eq_true rfl) rfl dX1_mandateOf_78 ?_
      refine G_goto (tgt := 6) C rfl dX1_mandateOf_81 ?_
      refine G_sub [3, 4, 5, 6, 1, 0] rfl ?_
      exact hf6 _ _ _ _ _ h
set_option maxRecDepth 100000 in
set_option maxHeartbeats 4000000 in
theorem eX1_mandateOf_54 (C : Cx E p s m args meth c cX1_mandateOf 8 RX1) (hr : meth.sig.returnType = (some .int)) {r : Int32} {σ : Sto} {f6 : Int32 → Int32 → Int32 → Int32 → Int32 → Sto → Option Int32} {x1 : Int32} {x2 : Int32} {x3 : Int32} {x4 : Int32} {x5 : Int32} {x6 : Nat} (hf6 : ∀ (x1 : Int32) (x2 : Int32) (x3 : Int32) (x4 : Int32) (x5 : Int32), f6 x1 x2 x3 x4 x5 σ = some r → G p l e (rmd 2 0 0) s m args below meth c E true (sZ σ) ad0 (MQ below (QI E true σ r σ ad0) args s 0 0 (AE E)) 8 0 0 σ 6 [(0, .ref 33), (1, .int x1), (2, .int x2), (3, .int x3), (4, .int x4), (5, .int x5)] []) (h : mX1_mandateOf_54 f6 x1 x2 x3 x4 x5 x6 σ = some r) : G p l e (rmd 2 0 0) s m args below meth c E true (sZ σ) ad0 (MQ below (QI E true σ r σ ad0) args s 0 0 (AE E)) 8 0 0 σ 54 [(0, .ref 33), (1, .int x1), (2, .int x2), (3, .int x3), (4, .int x4), (5, .int x5), (6, .ref x6)] [] := by
  unfold mX1_mandateOf_54 at h
  refine G_iconst C (v := 0) rfl dX1_mandateOf_54 ?_
  exact eX1_mandateOf_55 C hr hf6 h
set_option maxRecDepth 100000 in
set_option maxHeartbeats 4000000 in
theorem eX1_mandateOf_6B (C : Cx E p s m args meth c cX1_mandateOf 8 RX1) (hr : meth.sig.returnType = (some .int)) {r : Int32} {σ : Sto} {f6 : Int32 → Int32 → Int32 → Int32 → Int32 → Sto → Option Int32} {x1 : Int32} {x2 : Int32} {x3 : Int32} {x4 : Int32} {x5 : Int32} (hf6 : ∀ (x1 : Int32) (x2 : Int32) (x3 : Int32) (x4 : Int32) (x5 : Int32), f6 x1 x2 x3 x4 x5 σ = some r → G p l e (rmd 2 0 0) s m args below meth c E true (sZ σ) ad0 (MQ below (QI E true σ r σ ad0) args s 0 0 (AE E)) 8 0 0 σ 6 [(0, .ref 33), (1, .int x1), (2, .int x2), (3, .int x3), (4, .int x4), (5, .int x5)] []) (h : mX1_mandateOf_6B f6 x1 x2 x3 x4 x5 σ = some r) : G p l e (rmd 2 0 0) s m args below meth c E true (sZ σ) ad0 (MQ below (QI E true σ r σ ad0) args s 0 0 (AE E)) 8 0 0 σ 6 [(0, .ref 33), (1, .int x1), (2, .int x2), (3, .int x3), (4, .int x4), (5, .int x5)] [] := by
  unfold mX1_mandateOf_6B at h
  refine G_iload C 5 rfl dX1_mandateOf_6 ?_
  refine G_aload_n C 0 rfl rfl dX1_mandateOf_8 ?_
  refine G_getI C fl_X1_60_1 (Or.inl rfl) ko_33 dX1_mandateOf_9 ?_
  refine G_icmp_ge (tgt := 84) C rfl dX1_mandateOf_12 (fun hc1 => ?_) (fun hc1 => ?_)
  · replace h := (if_pos hc1).symm.trans h
    refine G_iload C 4 rfl dX1_mandateOf_84 ?_
    obtain rfl := Option.some.inj h
    exact G_iret C hr (Nat.le_of_ble_eq_true rfl) (Nat.le_of_ble_eq_true rfl) dX1_mandateOf_86
  · replace h := (if_neg hc1).symm.trans h
    refine G_aload_n C 0 rfl rfl dX1_mandateOf_15 ?_
    refine G_iload C 5 rfl dX1_mandateOf_16 ?_
    obtain ⟨v2, hv2, h⟩ := bnd h
    refine G_callR (run_V C [.int x5] [] (dX1_factAt hv2) ml_X1_factAt mv_X1_factAt lk_X1_97 ⟨(Nat.le_of_ble_eq_true rfl), (Nat.le_of_ble_eq_true rfl)⟩ ⟨(Nat.le_of_ble_eq_true rfl), (Nat.le_of_ble_eq_true rfl)⟩ vq_1 rfl ko_33 rfl (Nat.le_of_ble_eq_true rfl) dX1_mandateOf_18) ?_
    refine G_astore (L' := [(6, .ref v2), (0, .ref 33), (1, .int x1), (2, .int x2), (3, .int x3), (4, .int x4), (5, .int x5)]) C (Nat.le_of_ble_eq_true rfl) rfl dX1_mandateOf_21 ?_
    refine G_aload C 0 rfl dX1_mandateOf_23 ?_
    obtain ⟨hc3, h⟩ := ifn h
    refine G_getI C fl_X1_101_3 (Or.inl rfl) (KO.dy hc3) dX1_mandateOf_25 ?_
    refine G_iconst C (v := 5) rfl dX1_mandateOf_28 ?_
    refine G_icmp_ne (tgt := 54) C rfl dX1_mandateOf_29 (fun hc4 => ?_) (fun hc4 => ?_)
    · replace h := (if_neg hc4).symm.trans h
      refine G_sub [1, 2, 3, 4, 5, 6, 0] rfl ?_
      exact eX1_mandateOf_54 C hr hf6 h
    · replace h := (if_pos hc4).symm.trans h
      refine G_aload C 0 rfl dX1_mandateOf_32 ?_
      refine G_getI C fl_X1_107_3 (Or.inl rfl) (KO.dy hc3) dX1_mandateOf_34 ?_
      refine G_iload_n C 2 rfl rfl dX1_mandateOf_37 ?_
      refine G_icmp_ne (tgt := 54) C rfl dX1_mandateOf_38 (fun hc9 => ?_) (fun hc9 => ?_)
      · replace h := (if_neg hc9).symm.trans h
        refine G_sub [1, 2, 3, 4, 5, 6, 0] rfl ?_
        exact eX1_mandateOf_54 C hr hf6 h
      · replace h := (if_pos hc9).symm.trans h
        refine G_aload C 0 rfl dX1_mandateOf_41 ?_
        refine G_getI C fl_X1_152_3 (Or.inl rfl) (KO.dy hc3) dX1_mandateOf_43 ?_
        refine G_iload_n C 3 rfl rfl dX1_mandateOf_46 ?_
        refine G_icmp_gt (tgt := 54) C rfl dX1_mandateOf_47 (fun hc10 => ?_) (fun hc10 => ?_)
        · replace h := (if_pos hc10).symm.trans h
          refine G_sub [1, 2, 3, 4, 5, 6, 0] rfl ?_
          exact eX1_mandateOf_54 C hr hf6 h
        · replace h := (if_neg hc10).symm.trans h
          refine G_iconst C (v := 1) rfl dX1_mandateOf_50 ?_
          refine G_goto (tgt := 55) C rfl dX1_mandateOf_51 ?_
          refine G_sub [1, 2, 3, 4, 5, 6, 0] rfl ?_
          exact eX1_mandateOf_55 C hr hf6 h
set_option maxRecDepth 100000 in
set_option maxHeartbeats 4000000 in
theorem eX1_mandateOf_6 (C : Cx E p s m args meth c cX1_mandateOf 8 RX1) (hr : meth.sig.returnType = (some .int)) {r : Int32} {σ : Sto} {n : Nat} {x1 : Int32} {x2 : Int32} {x3 : Int32} {x4 : Int32} {x5 : Int32} (h : mX1_mandateOf_6 n x1 x2 x3 x4 x5 σ = some r) : G p l e (rmd 2 0 0) s m args below meth c E true (sZ σ) ad0 (MQ below (QI E true σ r σ ad0) args s 0 0 (AE E)) 8 0 0 σ 6 [(0, .ref 33), (1, .int x1), (2, .int x2), (3, .int x3), (4, .int x4), (5, .int x5)] [] := by
  induction n generalizing x1 x2 x3 x4 x5 with
  | zero => exact nomatch (show (none : Option Int32) = some r from h)
  | succ n ih => exact eX1_mandateOf_6B C hr (fun z0 z1 z2 z3 z4 h9 => ih h9) h
set_option maxRecDepth 100000 in
set_option maxHeartbeats 4000000 in
theorem dX1_mandateOf {σ : Sto} {p0 : Int32} {p1 : Int32} {p2 : Int32} {r : Int32} (h : mX1_mandateOf p0 p1 p2 σ = some r) : MM l yX1_mandateOf cX1_mandateOf 8 (some .int) 2 0 0 E true σ [.ref 33, .int p0, .int p1, .int p2] (QI E true σ r σ) := by
  unfold mX1_mandateOf at h
  refine MM_of (by decide) (Nat.le_of_ble_eq_true rfl) rfl (fun p e s m args below meth c ad0 C hr hn => ?_)
  refine G_iconst C (v := -1) rfl dX1_mandateOf_0 ?_
  refine G_istore (L' := [(4, .int (-1 : Int32)), (0, .ref 33), (1, .int p0), (2, .int p1), (3, .int p2)]) C (Nat.le_of_ble_eq_true rfl) rfl dX1_mandateOf_1 ?_
  refine G_iconst C (v := 0) rfl dX1_mandateOf_3 ?_
  refine G_istore (L' := [(5, .int (0 : Int32)), (4, .int (-1 : Int32)), (0, .ref 33), (1, .int p0), (2, .int p1), (3, .int p2)]) C (Nat.le_of_ble_eq_true rfl) rfl dX1_mandateOf_4 ?_
  refine G_sub [2, 3, 4, 5, 1, 0] rfl ?_
  exact eX1_mandateOf_6 C hr h
set_option maxRecDepth 100000 in
set_option maxHeartbeats 4000000 in
theorem eX1_handBehind_94 (C : Cx E p s m args meth c cX1_handBehind 10 RX1) (hr : meth.sig.returnType = (some .int)) {r : Int32} {σ : Sto} {f16 : Int32 → Int32 → Int32 → Int32 → Int32 → Int32 → Sto → Option Int32} {x1 : Int32} {x2 : Int32} {x3 : Int32} {x4 : Int32} {x5 : Int32} {x6 : Int32} {x7 : Nat} {x8 : Int32} {y0 : Int32} (hf16 : ∀ (x1 : Int32) (x2 : Int32) (x3 : Int32) (x4 : Int32) (x5 : Int32) (x6 : Int32), f16 x1 x2 x3 x4 x5 x6 σ = some r → G p l e (rmd 2 0 0) s m args below meth c E true (sZ σ) ad0 (MQ below (QI E true σ r σ ad0) args s 0 0 (AE E)) 10 0 0 σ 16 [(0, .ref 33), (1, .int x1), (2, .int x2), (3, .int x3), (4, .int x4), (5, .int x5), (6, .int x6)] []) (h : mX1_handBehind_94 f16 x1 x2 x3 x4 x5 x6 x7 x8 y0 σ = some r) : G p l e (rmd 2 0 0) s m args below meth c E true (sZ σ) ad0 (MQ below (QI E true σ r σ ad0) args s 0 0 (AE E)) 10 0 0 σ 94 [(0, .ref 33), (1, .int x1), (2, .int x2), (3, .int x3), (4, .int x4), (5, .int x5), (6, .int x6), (7, .ref x7), (8, .int x8)] [.int y0] := by
  unfold mX1_handBehind_94 at h
  refine G_istore (L' := [(9, .int y0), (0, .ref 33), (1, .int x1), (2, .int x2), (3, .int x3), (4, .int x4), (5, .int x5), (6, .int x6), (7, .ref x7), (8, .int x8)]) C (Nat.le_of_ble_eq_true rfl) rfl dX1_handBehind_94 ?_
  refine G_iload C 9 rfl dX1_handBehind_96 ?_
  refine G_if_eq (tgt := 128) C rfl dX1_handBehind_98 (fun hc8 => ?_) (fun hc8 => ?_)
  · replace h := (if_pos hc8).symm.trans h
    refine G_iinc (v := 1) (L' := [(6, .int (x6 + (1 : Int32))), (9, .int y0), (0, .ref 33), (1, .int x1), (2, .int x2), (3, .int x3), (4, .int x4), (5, .int x5), (7, .ref x7), (8, .int x8)]) C 7 rfl rfl (Nat.le_of_ble_eq_true rfl) rfl dX1_handBehind_128 ?_
    refine G_goto (tgt := 16) C rfl dX1_handBehind_131 ?_
    refine G_sub [2, 3, 4, 5, 6, 7, 0] rfl ?_
    exact hf16 _ _ _ _ _ _ h
  · replace h := (if_neg hc8).symm.trans h
    refine G_iload C 0 rfl dX1_handBehind_101 ?_
    refine G_if_eq (tgt := 128) C rfl dX1_handBehind_103 (fun hc9 => ?_) (fun hc9 => ?_)
    · replace h := (if_pos hc9).symm.trans h
      refine G_iinc (v := 1) (L' := [(6, .int (x6 + (1 : Int32))), (9, .int y0), (0, .ref 33), (1, .int x1), (2, .int x2), (3, .int x3), (4, .int x4), (5, .int x5), (7, .ref x7), (8, .int x8)]) C 7 rfl rfl (Nat.le_of_ble_eq_true rfl) rfl dX1_handBehind_128 ?_
      refine G_goto (tgt := 16) C rfl dX1_handBehind_131 ?_
      refine G_sub [2, 3, 4, 5, 6, 7, 0] rfl ?_
      exact hf16 _ _ _ _ _ _ h
    · replace h := (if_neg hc9).symm.trans h
      refine G_aload C 8 rfl dX1_handBehind_106 ?_
      refine G_iload_n C 2 rfl rfl dX1_handBehind_108 ?_
      obtain ⟨hc11, h⟩ := ifn h
      obtain ⟨v10, hv10, h⟩ := bnd h
      refine G_callI (run_V C [.int x1] [] (dX3_isHandOf hc11 hv10) ml_X3_isHandOf mv_X3_isHandOf lk_X1_158 ⟨(Nat.le_of_ble_eq_true rfl), (Nat.le_of_ble_eq_true rfl)⟩ ⟨(Nat.le_of_ble_eq_true rfl), (Nat.le_of_ble_eq_true rfl)⟩ vq_3 rfl (KO.dy hc11) rfl (Nat.le_of_ble_eq_true rfl) dX1_handBehind_109) ?_
      refine G_if_eq (tgt := 128) C rfl dX1_handBehind_112 (fun hc12 => ?_) (fun hc12 => ?_)
      · replace h := (if_pos hc12).symm.trans h
        refine G_iinc (v := 1) (L' := [(6, .int (x6 + (1 : Int32))), (9, .int y0), (0, .ref 33), (1, .int x1), (2, .int x2), (3, .int x3), (4, .int x4), (5, .int x5), (7, .ref x7), (8, .int x8)]) C 7 rfl rfl (Nat.le_of_ble_eq_true rfl) rfl dX1_handBehind_128 ?_
        refine G_goto (tgt := 16) C rfl dX1_handBehind_131 ?_
        refine G_sub [2, 3, 4, 5, 6, 7, 0] rfl ?_
        exact hf16 _ _ _ _ _ _ h
      · replace h := (if_neg hc12).symm.trans h
        refine G_aload C 8 rfl dX1_handBehind_115 ?_
        refine G_iload_n C 4 rfl rfl dX1_handBehind_117 ?_
        obtain ⟨v13, hv13, h⟩ := bnd h
        refine G_callI (run_U C [.int x3] [] (dX9_isKnownOn3 hc11 hv13) wu_X1_110 ⟨(Nat.le_of_ble_eq_true rfl), (Nat.le_of_ble_eq_true rfl)⟩ ⟨(Nat.le_of_ble_eq_true rfl), (Nat.le_of_ble_eq_true rfl)⟩ vq_3 (KO.dy hc11) rfl (Nat.le_of_ble_eq_true rfl) dX1_handBehind_118) ?_
        refine G_if_eq (tgt := 128) C rfl dX1_handBehind_121 (fun hc14 => ?_) (fun hc14 => ?_)
        · replace h := (if_pos hc14).symm.trans h
          refine G_iinc (v := 1) (L' := [(6, .int (x6 + (1 : Int32))), (9, .int y0), (0, .ref 33), (1, .int x1), (2, .int x2), (3, .int x3), (4, .int x4), (5, .int x5), (7, .ref x7), (8, .int x8)]) C 7 rfl rfl (Nat.le_of_ble_eq_true rfl) rfl dX1_handBehind_128 ?_
          refine G_goto (tgt := 16) C rfl dX1_handBehind_131 ?_
          refine G_sub [2, 3, 4, 5, 6, 7, 0] rfl ?_
          exact hf16 _ _ _ _ _ _ h
        · replace h := (if_neg hc14).symm.trans h
          refine G_iload C 7 rfl dX1_handBehind_124 ?_
          refine G_istore (L' := [(5, .int x6), (9, .int y0), (0, .ref 33), (1, .int x1), (2, .int x2), (3, .int x3), (4, .int x4), (6, .int x6), (7, .ref x7), (8, .int x8)]) C (Nat.le_of_ble_eq_true rfl) rfl dX1_handBehind_126 ?_
          refine G_iinc (v := 1) (L' := [(6, .int (x6 + (1 : Int32))), (5, .int x6), (9, .int y0), (0, .ref 33), (1, .int x1), (2, .int x2), (3, .int x3), (4, .int x4), (7, .ref x7), (8, .int x8)]) C 7 rfl rfl (Nat.le_of_ble_eq_true rfl) rfl dX1_handBehind_128 ?_
          refine G_goto (tgt := 16) C rfl dX1_handBehind_131 ?_
          refine G_sub [3, 4, 5, 6, 7, 1, 0] rfl ?_
          exact hf16 _ _ _ _ _ _ h
set_option maxRecDepth 100000 in
set_option maxHeartbeats 4000000 in
theorem eX1_handBehind_64 (C : Cx E p s m args meth c cX1_handBehind 10 RX1) (hr : meth.sig.returnType = (some .int)) {r : Int32} {σ : Sto} {f16 : Int32 → Int32 → Int32 → Int32 → Int32 → Int32 → Sto → Option Int32} {x1 : Int32} {x2 : Int32} {x3 : Int32} {x4 : Int32} {x5 : Int32} {x6 : Int32} {x7 : Nat} {y0 : Int32} (hf16 : ∀ (x1 : Int32) (x2 : Int32) (x3 : Int32) (x4 : Int32) (x5 : Int32) (x6 : Int32), f16 x1 x2 x3 x4 x5 x6 σ = some r → G p l e (rmd 2 0 0) s m args below meth c E true (sZ σ) ad0 (MQ below (QI E true σ r σ ad0) args s 0 0 (AE E)) 10 0 0 σ 16 [(0, .ref 33), (1, .int x1), (2, .int x2), (3, .int x3), (4, .int x4), (5, .int x5), (6, .int x6)] []) (h : mX1_handBehind_64 f16 x1 x2 x3 x4 x5 x6 x7 y0 σ = some r) : G p l e (rmd 2 0 0) s m args below meth c E true (sZ σ) ad0 (MQ below (QI E true σ r σ ad0) args s 0 0 (AE E)) 10 0 0 σ 64 [(0, .ref 33), (1, .int x1), (2, .int x2), (3, .int x3), (4, .int x4), (5, .int x5), (6, .int x6), (7, .ref x7)] [.int y0] := by
  unfold mX1_handBehind_64 at h
  refine G_istore (L' := [(8, .int y0), (0, .ref 33), (1, .int x1), (2, .int x2), (3, .int x3), (4, .int x4), (5, .int x5), (6, .int x6), (7, .ref x7)]) C (Nat.le_of_ble_eq_true rfl) rfl dX1_handBehind_64 ?_
  refine G_iload C 6 rfl dX1_handBehind_66 ?_
  refine G_iconst C (v := -1) rfl dX1_handBehind_68 ?_
  refine G_icmp_eq (tgt := 89) C rfl dX1_handBehind_69 (fun hc7 => ?_) (fun hc7 => ?_)
  · replace h := (if_pos hc7).symm.trans h
    refine G_iconst C (v := 1) rfl dX1_handBehind_89 ?_
    refine G_goto (tgt := 94) C rfl dX1_handBehind_90 ?_
    refine G_sub [1, 2, 3, 4, 5, 6, 7, 8, 0] rfl ?_
    exact eX1_handBehind_94 C hr hf16 h
  · replace h := (if_neg hc7).symm.trans h
    refine G_aload C 8 rfl dX1_handBehind_72 ?_
    obtain ⟨hc15, h⟩ := ifn h
    refine G_getI C fl_X1_152_3 (Or.inl rfl) (KO.dy hc15) dX1_handBehind_74 ?_
    refine G_aload_n C 1 rfl rfl dX1_handBehind_77 ?_
    refine G_iload C 6 rfl dX1_handBehind_78 ?_
    obtain ⟨v16, hv16, h⟩ := bnd h
    refine G_callR (run_V C [.int x5] [.int (sI σ x7 6)] (dX1_factAt hv16) ml_X1_factAt mv_X1_factAt lk_X1_97 ⟨(Nat.le_of_ble_eq_true rfl), (Nat.le_of_ble_eq_true rfl)⟩ ⟨(Nat.le_of_ble_eq_true rfl), (Nat.le_of_ble_eq_true rfl)⟩ vq_1 rfl ko_33 rfl (Nat.le_of_ble_eq_true rfl) dX1_handBehind_80) ?_
    obtain ⟨hc17, h⟩ := ifn h
    refine G_getI C fl_X1_152_3 (Or.inl rfl) (KO.dy hc17) dX1_handBehind_83 ?_
    refine G_icmp_ge (tgt := 93) C rfl dX1_handBehind_86 (fun hc18 => ?_) (fun hc18 => ?_)
    · replace h := (if_pos hc18).symm.trans h
      refine G_iconst C (v := 0) rfl dX1_handBehind_93 ?_
      refine G_sub [1, 2, 3, 4, 5, 6, 7, 8, 0] rfl ?_
      exact eX1_handBehind_94 C hr hf16 h
    · replace h := (if_neg hc18).symm.trans h
      refine G_iconst C (v := 1) rfl dX1_handBehind_89 ?_
      refine G_goto (tgt := 94) C rfl dX1_handBehind_90 ?_
      refine G_sub [1, 2, 3, 4, 5, 6, 7, 8, 0] rfl ?_
      exact eX1_handBehind_94 C hr hf16 h
set_option maxRecDepth 100000 in
set_option maxHeartbeats 4000000 in
theorem eX1_handBehind_63 (C : Cx E p s m args meth c cX1_handBehind 10 RX1) (hr : meth.sig.returnType = (some .int)) {r : Int32} {σ : Sto} {f16 : Int32 → Int32 → Int32 → Int32 → Int32 → Int32 → Sto → Option Int32} {x1 : Int32} {x2 : Int32} {x3 : Int32} {x4 : Int32} {x5 : Int32} {x6 : Int32} {x7 : Nat} (hf16 : ∀ (x1 : Int32) (x2 : Int32) (x3 : Int32) (x4 : Int32) (x5 : Int32) (x6 : Int32), f16 x1 x2 x3 x4 x5 x6 σ = some r → G p l e (rmd 2 0 0) s m args below meth c E true (sZ σ) ad0 (MQ below (QI E true σ r σ ad0) args s 0 0 (AE E)) 10 0 0 σ 16 [(0, .ref 33), (1, .int x1), (2, .int x2), (3, .int x3), (4, .int x4), (5, .int x5), (6, .int x6)] []) (h : mX1_handBehind_63 f16 x1 x2 x3 x4 x5 x6 x7 σ = some r) : G p l e (rmd 2 0 0) s m args below meth c E true (sZ σ) ad0 (MQ below (QI E true σ r σ ad0) args s 0 0 (AE E)) 10 0 0 σ 63 [(0, .ref 33), (1, .int x1), (2, .int x2), (3, .int x3), (4, .int x4), (5, .int x5), (6, .int x6), (7, .ref x7)] [] := by
  unfold mX1_handBehind_63 at h
  refine G_iconst C (v := 0) rfl dX1_handBehind_63 ?_
  exact eX1_handBehind_64 C hr hf16 h
set_option maxRecDepth 100000 in
set_option maxHeartbeats 4000000 in
theorem eX1_handBehind_16B (C : Cx E p s m args meth c cX1_handBehind 10 RX1) (hr : meth.sig.returnType = (some .int)) {r : Int32} {σ : Sto} {f16 : Int32 → Int32 → Int32 → Int32 → Int32 → Int32 → Sto → Option Int32} {x1 : Int32} {x2 : Int32} {x3 : Int32} {x4 : Int32} {x5 : Int32} {x6 : Int32} (hf16 : ∀ (x1 : Int32) (x2 : Int32) (x3 : Int32) (x4 : Int32) (x5 : Int32) (x6 : Int32), f16 x1 x2 x3 x4 x5 x6 σ = some r → G p l e (rmd 2 0 0) s m args below meth c E true (sZ σ) ad0 (MQ below (QI E true σ r σ ad0) args s 0 0 (AE E)) 10 0 0 σ 16 [(0, .ref 33), (1, .int x1), (2, .int x2), (3, .int x3), (4, .int x4), (5, .int x5), (6, .int x6)] []) (h : mX1_handBehind_16B f16 x1 x2 x3 x4 x5 x6 σ = some r) : G p l e (rmd 2 0 0) s m args below meth c E true (sZ σ) ad0 (MQ below (QI E true σ r σ ad0) args s 0 0 (AE E)) 10 0 0 σ 16 [(0, .ref 33), (1, .int x1), (2, .int x2), (3, .int x3), (4, .int x4), (5, .int x5), (6, .int x6)] [] := by
  unfold mX1_handBehind_16B at h
  refine G_iload C 6 rfl dX1_handBehind_16 ?_
  refine G_aload_n C 0 rfl rfl dX1_handBehind_18 ?_
  refine G_getI C fl_X1_60_1 (Or.inl rfl) ko_33 dX1_handBehind_19 ?_
  refine G_icmp_ge (tgt := 134) C rfl dX1_handBehind_22 (fun hc3 => ?_) (fun hc3 => ?_)
  · replace h := (if_pos hc3).symm.trans h
    refine G_iload C 5 rfl dX1_handBehind_134 ?_
    obtain rfl := Option.some.inj h
    exact G_iret C hr (Nat.le_of_ble_eq_true rfl) (Nat.le_of_ble_eq_true rfl) dX1_handBehind_136
  · replace h := (if_neg hc3).symm.trans h
    refine G_aload_n C 0 rfl rfl dX1_handBehind_25 ?_
    refine G_iload C 6 rfl dX1_handBehind_26 ?_
    obtain ⟨v4, hv4, h⟩ := bnd h
    refine G_callR (run_V C [.int x6] [] (dX1_factAt hv4) ml_X1_factAt mv_X1_factAt lk_X1_97 ⟨(Nat.le_of_ble_eq_true rfl), (Nat.le_of_ble_eq_true rfl)⟩ ⟨(Nat.le_of_ble_eq_true rfl), (Nat.le_of_ble_eq_true rfl)⟩ vq_1 rfl ko_33 rfl (Nat.le_of_ble_eq_true rfl) dX1_handBehind_28) ?_
    refine G_astore (L' := [(7, .ref v4), (0, .ref 33), (1, .int x1), (2, .int x2), (3, .int x3), (4, .int x4), (5, .int x5), (6, .int x6)]) C (Nat.le_of_ble_eq_true rfl) rfl dX1_handBehind_31 ?_
    refine G_aload C 0 rfl dX1_handBehind_33 ?_
    obtain ⟨hc5, h⟩ := ifn h
    refine G_getI C fl_X1_152_3 (Or.inl rfl) (KO.dy hc5) dX1_handBehind_35 ?_
    refine G_iload C 5 rfl dX1_handBehind_38 ?_
    refine G_icmp_gt (tgt := 59) C rfl dX1_handBehind_40 (fun hc6 => ?_) (fun hc6 => ?_)
    · replace h := (if_pos hc6).symm.trans h
      refine G_iconst C (v := 1) rfl dX1_handBehind_59 ?_
      refine G_goto (tgt := 64) C rfl dX1_handBehind_60 ?_
      refine G_sub [1, 2, 3, 4, 5, 6, 7, 0] rfl ?_
      exact eX1_handBehind_64 C hr hf16 h
    · replace h := (if_neg hc6).symm.trans h
      refine G_aload C 0 rfl dX1_handBehind_43 ?_
      refine G_getI C fl_X1_152_3 (Or.inl rfl) (KO.dy hc5) dX1_handBehind_45 ?_
      refine G_iload C 5 rfl dX1_handBehind_48 ?_
      refine G_icmp_ne (tgt := 63) C rfl dX1_handBehind_50 (fun hc19 => ?_) (fun hc19 => ?_)
      · replace h := (if_neg hc19).symm.trans h
        refine G_sub [1, 2, 3, 4, 5, 6, 7, 0] rfl ?_
        exact eX1_handBehind_63 C hr hf16 h
      · replace h := (if_pos hc19).symm.trans h
        refine G_iload C 7 rfl dX1_handBehind_53 ?_
        refine G_iload_n C 3 rfl rfl dX1_handBehind_55 ?_
        refine G_icmp_le (tgt := 63) C rfl dX1_handBehind_56 (fun hc20 => ?_) (fun hc20 => ?_)
        · replace h := (if_pos hc20).symm.trans h
          refine G_sub [1, 2, 3, 4, 5, 6, 7, 0] rfl ?_
          exact eX1_handBehind_63 C hr hf16 h
        · replace h := (if_neg hc20).symm.trans h
          refine G_iconst C (v := 1) rfl dX1_handBehind_59 ?_
          refine G_goto (tgt := 64) C rfl dX1_handBehind_60 ?_
          refine G_sub [1, 2, 3, 4, 5, 6, 7, 0] rfl ?_
          exact eX1_handBehind_64 C hr hf16 h
set_option maxRecDepth 100000 in
set_option maxHeartbeats 4000000 in
theorem eX1_handBehind_16 (C : Cx E p s m args meth c cX1_handBehind 10 RX1) (hr : meth.sig.returnType = (some .int)) {r : Int32} {σ : Sto} {n : Nat} {x1 : Int32} {x2 : Int32} {x3 : Int32} {x4 : Int32} {x5 : Int32} {x6 : Int32} (h : mX1_handBehind_16 n x1 x2 x3 x4 x5 x6 σ = some r) : G p l e (rmd 2 0 0) s m args below meth c E true (sZ σ) ad0 (MQ below (QI E true σ r σ ad0) args s 0 0 (AE E)) 10 0 0 σ 16 [(0, .ref 33), (1, .int x1), (2, .int x2), (3, .int x3), (4, .int x4), (5, .int x5), (6, .int x6)] [] := by
  induction n generalizing x1 x2 x3 x4 x5 x6 with
  | zero => exact nomatch (show (none : Option Int32) = some r from h)
  | succ n ih => exact eX1_handBehind_16B C hr (fun z0 z1 z2 z3 z4 z5 h9 => ih h9) h
set_option maxRecDepth 100000 in
set_option maxHeartbeats 4000000 in
theorem dX1_handBehind {σ : Sto} {p0 : Int32} {p1 : Int32} {p2 : Int32} {r : Int32} (h : mX1_handBehind p0 p1 p2 σ = some r) : MM l yX1_handBehind cX1_handBehind 10 (some .int) 2 0 0 E true σ [.ref 33, .int p0, .int p1, .int p2] (QI E true σ r σ) := by
  unfold mX1_handBehind at h
  refine MM_of (by decide) (Nat.le_of_ble_eq_true rfl) rfl (fun p e s m args below meth c ad0 C hr hn => ?_)
  refine G_aload_n C 0 rfl rfl dX1_handBehind_0 ?_
  refine G_iload_n C 2 rfl rfl dX1_handBehind_1 ?_
  obtain ⟨v1, hv1, h⟩ := bnd h
  refine G_callR (run_V C [.int p1] [] (dX1_factAt hv1) ml_X1_factAt mv_X1_factAt lk_X1_97 ⟨(Nat.le_of_ble_eq_true rfl), (Nat.le_of_ble_eq_true rfl)⟩ ⟨(Nat.le_of_ble_eq_true rfl), (Nat.le_of_ble_eq_true rfl)⟩ vq_1 rfl ko_33 rfl (Nat.le_of_ble_eq_true rfl) dX1_handBehind_2) ?_
  obtain ⟨hc2, h⟩ := ifn h
  refine G_getI C fl_X1_152_3 (Or.inl rfl) (KO.dy hc2) dX1_handBehind_5 ?_
  refine G_istore (L' := [(4, .int (sI σ v1 6)), (0, .ref 33), (1, .int p0), (2, .int p1), (3, .int p2)]) C (Nat.le_of_ble_eq_true rfl) rfl dX1_handBehind_8 ?_
  refine G_iconst C (v := -1) rfl dX1_handBehind_10 ?_
  refine G_istore (L' := [(5, .int (-1 : Int32)), (4, .int (sI σ v1 6)), (0, .ref 33), (1, .int p0), (2, .int p1), (3, .int p2)]) C (Nat.le_of_ble_eq_true rfl) rfl dX1_handBehind_11 ?_
  refine G_iconst C (v := 0) rfl dX1_handBehind_13 ?_
  refine G_istore (L' := [(6, .int (0 : Int32)), (5, .int (-1 : Int32)), (4, .int (sI σ v1 6)), (0, .ref 33), (1, .int p0), (2, .int p1), (3, .int p2)]) C (Nat.le_of_ble_eq_true rfl) rfl dX1_handBehind_14 ?_
  refine G_sub [3, 4, 5, 6, 2, 1, 0] rfl ?_
  exact eX1_handBehind_16 C hr h
set_option maxRecDepth 100000 in
set_option maxHeartbeats 4000000 in
theorem dX1_factAtd {σ : Sto} {a0 : Nat} {p0 : Int32} {r : Nat} (hk0 : sK σ a0 = 2) (h : mX1_factAtd a0 p0 σ = some r) : MM l yX1_factAt cX1_factAt 2 (some (.object "SalePart$Fact")) 1 0 0 E st σ [.ref a0, .int p0] (QR E st σ r σ) := by
  unfold mX1_factAtd at h
  refine MM_of (by decide) (Nat.le_of_ble_eq_true rfl) rfl (fun p e s m args below meth c ad0 C hr hn => ?_)
  refine G_aload_n C 0 rfl rfl dX1_factAt_0 ?_
  refine G_getR C fl_X1_56_1 rfl (KO.dy hk0) dX1_factAt_1 ?_
  refine G_iload_n C 1 rfl rfl dX1_factAt_4 ?_
  refine G_if_lt (tgt := 20) C rfl dX1_factAt_5 (fun hc1 => ?_) (fun hc1 => ?_)
  · replace h := (if_pos hc1).symm.trans h
    refine G_sipush C (v := 200) rfl dX1_factAt_20 ?_
    obtain ⟨hc2, h⟩ := ifn h
    obtain ⟨hc3, h⟩ := ifn h
    refine G_aaload (t := 7) C ⟨by decide, by decide⟩ (KD.nz hc2 rfl) hc3 dX1_factAt_23 ?_
    obtain ⟨hc4, h⟩ := ifn h
    obtain rfl := Option.some.inj h
    exact G_aret C hc4 hr (Nat.le_of_ble_eq_true rfl) (Nat.le_of_ble_eq_true rfl) dX1_factAt_24
  · replace h := (if_neg hc1).symm.trans h
    refine G_iload_n C 1 rfl rfl dX1_factAt_8 ?_
    refine G_aload_n C 0 rfl rfl dX1_factAt_9 ?_
    refine G_getI C fl_X1_60_1 (Or.inl rfl) (KO.dy hk0) dX1_factAt_10 ?_
    refine G_icmp_ge (tgt := 20) C rfl dX1_factAt_13 (fun hc5 => ?_) (fun hc5 => ?_)
    · replace h := (if_pos hc5).symm.trans h
      refine G_sipush C (v := 200) rfl dX1_factAt_20 ?_
      obtain ⟨hc6, h⟩ := ifn h
      obtain ⟨hc7, h⟩ := ifn h
      refine G_aaload (t := 7) C ⟨by decide, by decide⟩ (KD.nz hc6 rfl) hc7 dX1_factAt_23 ?_
      obtain ⟨hc8, h⟩ := ifn h
      obtain rfl := Option.some.inj h
      exact G_aret C hc8 hr (Nat.le_of_ble_eq_true rfl) (Nat.le_of_ble_eq_true rfl) dX1_factAt_24
    · replace h := (if_neg hc5).symm.trans h
      refine G_iload_n C 1 rfl rfl dX1_factAt_16 ?_
      refine G_goto (tgt := 23) C rfl dX1_factAt_17 ?_
      obtain ⟨hc9, h⟩ := ifn h
      obtain ⟨hc10, h⟩ := ifn h
      refine G_aaload (t := 7) C ⟨by decide, by decide⟩ (KD.nz hc9 rfl) hc10 dX1_factAt_23 ?_
      obtain ⟨hc11, h⟩ := ifn h
      obtain rfl := Option.some.inj h
      exact G_aret C hc11 hr (Nat.le_of_ble_eq_true rfl) (Nat.le_of_ble_eq_true rfl) dX1_factAt_24
set_option maxRecDepth 100000 in
set_option maxHeartbeats 4000000 in
theorem dX1_workAtd {σ : Sto} {a0 : Nat} {p0 : Int32} {r : Nat} (hk0 : sK σ a0 = 2) (h : mX1_workAtd a0 p0 σ = some r) : MM l yX1_workAt cX1_workAt 2 (some (.object "SalePart$Work")) 1 0 0 E st σ [.ref a0, .int p0] (QR E st σ r σ) := by
  unfold mX1_workAtd at h
  refine MM_of (by decide) (Nat.le_of_ble_eq_true rfl) rfl (fun p e s m args below meth c ad0 C hr hn => ?_)
  refine G_aload_n C 0 rfl rfl dX1_workAt_0 ?_
  refine G_getR C fl_X1_29_1 rfl (KO.dy hk0) dX1_workAt_1 ?_
  refine G_iload_n C 1 rfl rfl dX1_workAt_4 ?_
  refine G_if_lt (tgt := 20) C rfl dX1_workAt_5 (fun hc1 => ?_) (fun hc1 => ?_)
  · replace h := (if_pos hc1).symm.trans h
    refine G_bipush C (v := 30) rfl dX1_workAt_20 ?_
    obtain ⟨hc2, h⟩ := ifn h
    obtain ⟨hc3, h⟩ := ifn h
    refine G_aaload (t := 4) C ⟨by decide, by decide⟩ (KD.nz hc2 rfl) hc3 dX1_workAt_22 ?_
    obtain ⟨hc4, h⟩ := ifn h
    obtain rfl := Option.some.inj h
    exact G_aret C hc4 hr (Nat.le_of_ble_eq_true rfl) (Nat.le_of_ble_eq_true rfl) dX1_workAt_23
  · replace h := (if_neg hc1).symm.trans h
    refine G_iload_n C 1 rfl rfl dX1_workAt_8 ?_
    refine G_aload_n C 0 rfl rfl dX1_workAt_9 ?_
    refine G_getI C fl_X1_33_1 (Or.inl rfl) (KO.dy hk0) dX1_workAt_10 ?_
    refine G_icmp_ge (tgt := 20) C rfl dX1_workAt_13 (fun hc5 => ?_) (fun hc5 => ?_)
    · replace h := (if_pos hc5).symm.trans h
      refine G_bipush C (v := 30) rfl dX1_workAt_20 ?_
      obtain ⟨hc6, h⟩ := ifn h
      obtain ⟨hc7, h⟩ := ifn h
      refine G_aaload (t := 4) C ⟨by decide, by decide⟩ (KD.nz hc6 rfl) hc7 dX1_workAt_22 ?_
      obtain ⟨hc8, h⟩ := ifn h
      obtain rfl := Option.some.inj h
      exact G_aret C hc8 hr (Nat.le_of_ble_eq_true rfl) (Nat.le_of_ble_eq_true rfl) dX1_workAt_23
    · replace h := (if_neg hc5).symm.trans h
      refine G_iload_n C 1 rfl rfl dX1_workAt_16 ?_
      refine G_goto (tgt := 22) C rfl dX1_workAt_17 ?_
      obtain ⟨hc9, h⟩ := ifn h
      obtain ⟨hc10, h⟩ := ifn h
      refine G_aaload (t := 4) C ⟨by decide, by decide⟩ (KD.nz hc9 rfl) hc10 dX1_workAt_22 ?_
      obtain ⟨hc11, h⟩ := ifn h
      obtain rfl := Option.some.inj h
      exact G_aret C hc11 hr (Nat.le_of_ble_eq_true rfl) (Nat.le_of_ble_eq_true rfl) dX1_workAt_23
set_option maxRecDepth 100000 in
set_option maxHeartbeats 4000000 in
theorem dX0_init {σ : Sto} {a0 : Nat} {p0 : Nat} {r2 : Sto} (hk0 : sK σ a0 = 1) (h : mX0_init a0 p0 σ = some r2) : MM l yX0_init cX0_init 2 none 2 9 250 E false σ [.ref a0, .ref p0] (QV E false σ r2) := by
  unfold mX0_init at h
  refine MM_of (by decide) (Nat.le_of_ble_eq_true rfl) rfl (fun p e s m args below meth c ad0 C hr hn => ?_)
  refine G_aload_n C 0 rfl rfl dX0_init_0 ?_
  refine G_objInit C lk_X0_3 oi_1 oi_2 (kd := 1) (by decide) (KO.dy hk0) (Nat.le_of_ble_eq_true rfl) (Nat.le_of_ble_eq_true rfl) dX0_init_1 ?_
  refine G_aload_n C 0 rfl rfl dX0_init_4 ?_
  refine G_iconst C (v := 0) rfl dX0_init_5 ?_
  obtain ⟨σ1, hs1, h⟩ := stp_elim h
  refine G_putI C fl_X0_9_0 fp_X0_0_1 (Or.inl rfl) (Or.inl rfl) (KO.dy hk0) dX0_init_6 ?_
  rw [← hs1]
  have hc2 : sK σ1 a0 = 1 := by rw [hs1]; exact hk0
  refine G_aload_n C 0 rfl rfl dX0_init_9 ?_
  refine G_bipush C (v := 30) rfl dX0_init_10 ?_
  obtain ⟨σ3, hs3, h⟩ := stp_elim h
  refine G_newI (N := 30) C na_I (by decide) rfl (Nat.le_of_ble_eq_true rfl) (Nat.le_of_ble_eq_true rfl) (Nat.le_of_ble_eq_true rfl) dX0_init_12 ?_
  rw [← hs3]
  have hc4 : sK σ3 (sZ σ1) = 100 := by rw [hs3]; exact (nwK_K _ _ _ _).trans (if_pos rfl)
  have hc5 : sN σ3 (sZ σ1) = 30 := by rw [hs3]; exact (nwK_N _ _ _ _).trans (if_pos rfl)
  obtain ⟨hc6, h⟩ := ifn h
  obtain ⟨σ7, hs7, h⟩ := stp_elim h
  refine G_putR C fl_X0_15_0 fp_X0_0_2 (Or.inr hn) rfl (fun z => nomatch z) (KO.dy hc6) dX0_init_14 ?_
  rw [← hs7]
  have hc8 : sK σ7 (sZ σ1) = 100 := by rw [hs7]; exact hc4
  have hc9 : sN σ7 (sZ σ1) = 30 := by rw [hs7]; exact hc5
  have hc10 : sK σ7 a0 = 1 := by rw [hs7]; exact hc6
  refine G_aload_n C 0 rfl rfl dX0_init_17 ?_
  refine G_bipush C (v := 30) rfl dX0_init_18 ?_
  obtain ⟨σ11, hs11, h⟩ := stp_elim h
  refine G_newI (N := 30) C na_I (by decide) rfl (Nat.le_of_ble_eq_true rfl) (Nat.le_of_ble_eq_true rfl) (Nat.le_of_ble_eq_true rfl) dX0_init_20 ?_
  rw [← hs11]
  have hc12 : sK σ11 (sZ σ7) = 100 := by rw [hs11]; exact (nwK_K _ _ _ _).trans (if_pos rfl)
  have hc13 : sN σ11 (sZ σ7) = 30 := by rw [hs11]; exact (nwK_N _ _ _ _).trans (if_pos rfl)
  obtain ⟨hc14, h⟩ := ifn h
  obtain ⟨σ15, hs15, h⟩ := stp_elim h
  refine G_putR C fl_X0_19_0 fp_X0_0_3 (Or.inr hn) rfl (fun z => nomatch z) (KO.dy hc14) dX0_init_22 ?_
  rw [← hs15]
  have hc16 : sK σ15 (sZ σ7) = 100 := by rw [hs15]; exact hc12
  have hc17 : sN σ15 (sZ σ7) = 30 := by rw [hs15]; exact hc13
  have hc18 : sK σ15 a0 = 1 := by rw [hs15]; exact hc14
  refine G_aload_n C 0 rfl rfl dX0_init_25 ?_
  refine G_bipush C (v := 10) rfl dX0_init_26 ?_
  obtain ⟨σ19, hs19, h⟩ := stp_elim h
  refine G_newI (N := 10) C na_I (by decide) rfl (Nat.le_of_ble_eq_true rfl) (Nat.le_of_ble_eq_true rfl) (Nat.le_of_ble_eq_true rfl) dX0_init_28 ?_
  rw [← hs19]
  have hc20 : sK σ19 (sZ σ15) = 100 := by rw [hs19]; exact (nwK_K _ _ _ _).trans (if_pos rfl)
  have hc21 : sN σ19 (sZ σ15) = 10 := by rw [hs19]; exact (nwK_N _ _ _ _).trans (if_pos rfl)
  obtain ⟨hc22, h⟩ := ifn h
  obtain ⟨σ23, hs23, h⟩ := stp_elim h
  refine G_putR C fl_X0_24_0 fp_X0_0_4 (Or.inr hn) rfl (fun z => nomatch z) (KO.dy hc22) dX0_init_30 ?_
  rw [← hs23]
  have hc24 : sK σ23 (sZ σ15) = 100 := by rw [hs23]; exact hc20
  have hc25 : sN σ23 (sZ σ15) = 10 := by rw [hs23]; exact hc21
  have hc26 : sK σ23 a0 = 1 := by rw [hs23]; exact hc22
  refine G_aload_n C 0 rfl rfl dX0_init_33 ?_
  refine G_iconst C (v := 0) rfl dX0_init_34 ?_
  obtain ⟨σ27, hs27, h⟩ := stp_elim h
  refine G_putI C fl_X0_27_0 fp_X0_0_7 (Or.inl rfl) (Or.inl rfl) (KO.dy hc26) dX0_init_35 ?_
  rw [← hs27]
  have hc28 : sK σ27 (sZ σ15) = 100 := by rw [hs27]; exact hc24
  have hc29 : sN σ27 (sZ σ15) = 10 := by rw [hs27]; exact hc25
  have hc30 : sK σ27 a0 = 1 := by rw [hs27]; exact hc26
  refine G_aload_n C 0 rfl rfl dX0_init_38 ?_
  refine G_iconst C (v := 0) rfl dX0_init_39 ?_
  obtain ⟨σ31, hs31, h⟩ := stp_elim h
  refine G_putI C fl_X0_30_0 fp_X0_0_8 (Or.inl rfl) (Or.inl rfl) (KO.dy hc30) dX0_init_40 ?_
  rw [← hs31]
  have hc32 : sK σ31 (sZ σ15) = 100 := by rw [hs31]; exact hc28
  have hc33 : sN σ31 (sZ σ15) = 10 := by rw [hs31]; exact hc29
  have hc34 : sK σ31 a0 = 1 := by rw [hs31]; exact hc30
  refine G_aload_n C 0 rfl rfl dX0_init_43 ?_
  refine G_iconst C (v := 0) rfl dX0_init_44 ?_
  obtain ⟨σ35, hs35, h⟩ := stp_elim h
  refine G_putI C fl_X0_33_0 fp_X0_0_9 (Or.inl rfl) (Or.inl rfl) (KO.dy hc34) dX0_init_45 ?_
  rw [← hs35]
  have hc36 : sK σ35 (sZ σ15) = 100 := by rw [hs35]; exact hc32
  have hc37 : sN σ35 (sZ σ15) = 10 := by rw [hs35]; exact hc33
  have hc38 : sK σ35 a0 = 1 := by rw [hs35]; exact hc34
  refine G_aload_n C 0 rfl rfl dX0_init_48 ?_
  refine G_iconst C (v := 0) rfl dX0_init_49 ?_
  obtain ⟨σ39, hs39, h⟩ := stp_elim h
  refine G_putI C fl_X0_36_0 fp_X0_0_10 (Or.inl rfl) (Or.inr ⟨rfl, (by decide)⟩) (KO.dy hc38) dX0_init_50 ?_
  rw [← hs39]
  have hc40 : sK σ39 (sZ σ15) = 100 := by rw [hs39]; exact hc36
  have hc41 : sN σ39 (sZ σ15) = 10 := by rw [hs39]; exact hc37
  have hc42 : sK σ39 a0 = 1 := by rw [hs39]; exact hc38
  refine G_aload_n C 0 rfl rfl dX0_init_53 ?_
  refine G_iconst C (v := 0) rfl dX0_init_54 ?_
  obtain ⟨σ43, hs43, h⟩ := stp_elim h
  refine G_putI C fl_X0_40_0 fp_X0_0_11 (Or.inl rfl) (Or.inl rfl) (KO.dy hc42) dX0_init_55 ?_
  rw [← hs43]
  have hc44 : sK σ43 (sZ σ15) = 100 := by rw [hs43]; exact hc40
  have hc45 : sN σ43 (sZ σ15) = 10 := by rw [hs43]; exact hc41
  have hc46 : sK σ43 a0 = 1 := by rw [hs43]; exact hc42
  refine G_aload_n C 0 rfl rfl dX0_init_58 ?_
  refine G_iconst C (v := 0) rfl dX0_init_59 ?_
  obtain ⟨σ47, hs47, h⟩ := stp_elim h
  refine G_putI C fl_X0_43_0 fp_X0_0_12 (Or.inl rfl) (Or.inl rfl) (KO.dy hc46) dX0_init_60 ?_
  rw [← hs47]
  have hc48 : sK σ47 (sZ σ15) = 100 := by rw [hs47]; exact hc44
  have hc49 : sN σ47 (sZ σ15) = 10 := by rw [hs47]; exact hc45
  have hc50 : sK σ47 a0 = 1 := by rw [hs47]; exact hc46
  refine G_aload_n C 0 rfl rfl dX0_init_63 ?_
  refine G_bipush C (v := 30) rfl dX0_init_64 ?_
  obtain ⟨σ51, hs51, h⟩ := stp_elim h
  refine G_newI (N := 30) C na_I (by decide) rfl (Nat.le_of_ble_eq_true rfl) (Nat.le_of_ble_eq_true rfl) (Nat.le_of_ble_eq_true rfl) dX0_init_66 ?_
  rw [← hs51]
  have hc52 : sK σ51 (sZ σ47) = 100 := by rw [hs51]; exact (nwK_K _ _ _ _).trans (if_pos rfl)
  have hc53 : sN σ51 (sZ σ47) = 30 := by rw [hs51]; exact (nwK_N _ _ _ _).trans (if_pos rfl)
  obtain ⟨hc54, h⟩ := ifn h
  obtain ⟨σ55, hs55, h⟩ := stp_elim h
  refine G_putR C fl_X0_46_0 fp_X0_0_13 (Or.inr hn) rfl (fun z => nomatch z) (KO.dy hc54) dX0_init_68 ?_
  rw [← hs55]
  have hc56 : sK σ55 (sZ σ47) = 100 := by rw [hs55]; exact hc52
  have hc57 : sN σ55 (sZ σ47) = 30 := by rw [hs55]; exact hc53
  have hc58 : sK σ55 a0 = 1 := by rw [hs55]; exact hc54
  refine G_aload_n C 0 rfl rfl dX0_init_71 ?_
  refine G_bipush C (v := 30) rfl dX0_init_72 ?_
  obtain ⟨σ59, hs59, h⟩ := stp_elim h
  refine G_newI (N := 30) C na_I (by decide) rfl (Nat.le_of_ble_eq_true rfl) (Nat.le_of_ble_eq_true rfl) (Nat.le_of_ble_eq_true rfl) dX0_init_74 ?_
  rw [← hs59]
  have hc60 : sK σ59 (sZ σ55) = 100 := by rw [hs59]; exact (nwK_K _ _ _ _).trans (if_pos rfl)
  have hc61 : sN σ59 (sZ σ55) = 30 := by rw [hs59]; exact (nwK_N _ _ _ _).trans (if_pos rfl)
  obtain ⟨hc62, h⟩ := ifn h
  obtain ⟨σ63, hs63, h⟩ := stp_elim h
  refine G_putR C fl_X0_49_0 fp_X0_0_14 (Or.inr hn) rfl (fun z => nomatch z) (KO.dy hc62) dX0_init_76 ?_
  rw [← hs63]
  have hc64 : sK σ63 (sZ σ55) = 100 := by rw [hs63]; exact hc60
  have hc65 : sN σ63 (sZ σ55) = 30 := by rw [hs63]; exact hc61
  have hc66 : sK σ63 a0 = 1 := by rw [hs63]; exact hc62
  refine G_aload_n C 0 rfl rfl dX0_init_79 ?_
  refine G_bipush C (v := 30) rfl dX0_init_80 ?_
  obtain ⟨σ67, hs67, h⟩ := stp_elim h
  refine G_newI (N := 30) C na_I (by decide) rfl (Nat.le_of_ble_eq_true rfl) (Nat.le_of_ble_eq_true rfl) (Nat.le_of_ble_eq_true rfl) dX0_init_82 ?_
  rw [← hs67]
  have hc68 : sK σ67 (sZ σ63) = 100 := by rw [hs67]; exact (nwK_K _ _ _ _).trans (if_pos rfl)
  have hc69 : sN σ67 (sZ σ63) = 30 := by rw [hs67]; exact (nwK_N _ _ _ _).trans (if_pos rfl)
  obtain ⟨hc70, h⟩ := ifn h
  obtain ⟨σ71, hs71, h⟩ := stp_elim h
  refine G_putR C fl_X0_52_0 fp_X0_0_15 (Or.inr hn) rfl (fun z => nomatch z) (KO.dy hc70) dX0_init_84 ?_
  rw [← hs71]
  have hc72 : sK σ71 (sZ σ63) = 100 := by rw [hs71]; exact hc68
  have hc73 : sN σ71 (sZ σ63) = 30 := by rw [hs71]; exact hc69
  have hc74 : sK σ71 a0 = 1 := by rw [hs71]; exact hc70
  refine G_aload_n C 0 rfl rfl dX0_init_87 ?_
  refine G_bipush C (v := 30) rfl dX0_init_88 ?_
  obtain ⟨σ75, hs75, h⟩ := stp_elim h
  refine G_newI (N := 30) C na_I (by decide) rfl (Nat.le_of_ble_eq_true rfl) (Nat.le_of_ble_eq_true rfl) (Nat.le_of_ble_eq_true rfl) dX0_init_90 ?_
  rw [← hs75]
  have hc76 : sK σ75 (sZ σ71) = 100 := by rw [hs75]; exact (nwK_K _ _ _ _).trans (if_pos rfl)
  have hc77 : sN σ75 (sZ σ71) = 30 := by rw [hs75]; exact (nwK_N _ _ _ _).trans (if_pos rfl)
  obtain ⟨hc78, h⟩ := ifn h
  obtain ⟨σ79, hs79, h⟩ := stp_elim h
  refine G_putR C fl_X0_55_0 fp_X0_0_16 (Or.inr hn) rfl (fun z => nomatch z) (KO.dy hc78) dX0_init_92 ?_
  rw [← hs79]
  have hc80 : sK σ79 (sZ σ71) = 100 := by rw [hs79]; exact hc76
  have hc81 : sN σ79 (sZ σ71) = 30 := by rw [hs79]; exact hc77
  have hc82 : sK σ79 a0 = 1 := by rw [hs79]; exact hc78
  refine G_aload_n C 0 rfl rfl dX0_init_95 ?_
  refine G_bipush C (v := 30) rfl dX0_init_96 ?_
  obtain ⟨σ83, hs83, h⟩ := stp_elim h
  refine G_newI (N := 30) C na_I (by decide) rfl (Nat.le_of_ble_eq_true rfl) (Nat.le_of_ble_eq_true rfl) (Nat.le_of_ble_eq_true rfl) dX0_init_98 ?_
  rw [← hs83]
  have hc84 : sK σ83 (sZ σ79) = 100 := by rw [hs83]; exact (nwK_K _ _ _ _).trans (if_pos rfl)
  have hc85 : sN σ83 (sZ σ79) = 30 := by rw [hs83]; exact (nwK_N _ _ _ _).trans (if_pos rfl)
  obtain ⟨hc86, h⟩ := ifn h
  obtain ⟨σ87, hs87, h⟩ := stp_elim h
  refine G_putR C fl_X0_58_0 fp_X0_0_17 (Or.inr hn) rfl (fun z => nomatch z) (KO.dy hc86) dX0_init_100 ?_
  rw [← hs87]
  have hc88 : sK σ87 (sZ σ79) = 100 := by rw [hs87]; exact hc84
  have hc89 : sN σ87 (sZ σ79) = 30 := by rw [hs87]; exact hc85
  have hc90 : sK σ87 a0 = 1 := by rw [hs87]; exact hc86
  refine G_aload_n C 0 rfl rfl dX0_init_103 ?_
  refine G_bipush C (v := 30) rfl dX0_init_104 ?_
  obtain ⟨σ91, hs91, h⟩ := stp_elim h
  refine G_newI (N := 30) C na_I (by decide) rfl (Nat.le_of_ble_eq_true rfl) (Nat.le_of_ble_eq_true rfl) (Nat.le_of_ble_eq_true rfl) dX0_init_106 ?_
  rw [← hs91]
  have hc92 : sK σ91 (sZ σ87) = 100 := by rw [hs91]; exact (nwK_K _ _ _ _).trans (if_pos rfl)
  have hc93 : sN σ91 (sZ σ87) = 30 := by rw [hs91]; exact (nwK_N _ _ _ _).trans (if_pos rfl)
  obtain ⟨hc94, h⟩ := ifn h
  obtain ⟨σ95, hs95, h⟩ := stp_elim h
  refine G_putR C fl_X0_61_0 fp_X0_0_18 (Or.inr hn) rfl (fun z => nomatch z) (KO.dy hc94) dX0_init_108 ?_
  rw [← hs95]
  have hc96 : sK σ95 (sZ σ87) = 100 := by rw [hs95]; exact hc92
  have hc97 : sN σ95 (sZ σ87) = 30 := by rw [hs95]; exact hc93
  have hc98 : sK σ95 a0 = 1 := by rw [hs95]; exact hc94
  refine G_aload_n C 0 rfl rfl dX0_init_111 ?_
  refine G_aload_n C 1 rfl rfl dX0_init_112 ?_
  obtain ⟨σ99, hs99, h⟩ := stp_elim h
  refine G_putR C fl_X0_64_0 fp_X0_0_0 (Or.inr hn) rfl (fun z => nomatch z) (KO.dy hc98) dX0_init_113 ?_
  rw [← hs99]
  have hc100 : sK σ99 (sZ σ87) = 100 := by rw [hs99]; exact hc96
  have hc101 : sN σ99 (sZ σ87) = 30 := by rw [hs99]; exact hc97
  have hc102 : sK σ99 a0 = 1 := by rw [hs99]; exact hc98
  refine G_aload_n C 0 rfl rfl dX0_init_116 ?_
  refine G_aload_n C 1 rfl rfl dX0_init_117 ?_
  refine G_iconst C (v := -1) rfl dX0_init_118 ?_
  obtain ⟨hc104, h⟩ := ifn h
  obtain ⟨v103, hv103, h⟩ := bnd h
  refine G_callR (run_V C [.int (-1 : Int32)] [.ref a0] (dX1_factAtd hc104 hv103) ml_X1_factAt mv_X1_factAt lk_X0_68 ⟨(Nat.le_of_ble_eq_true rfl), (Nat.le_of_ble_eq_true rfl)⟩ ⟨(Nat.le_of_ble_eq_true rfl), (Nat.le_of_ble_eq_true rfl)⟩ vq_1 rfl (KO.dy hc104) rfl (Nat.le_of_ble_eq_true rfl) dX0_init_119) ?_
  obtain ⟨σ105, hs105, h⟩ := stp_elim h
  refine G_putR C fl_X0_74_0 fp_X0_0_5 (Or.inl rfl) rfl (fun z => nomatch z) (KO.dy hc102) dX0_init_122 ?_
  rw [← hs105]
  have hc106 : sK σ105 (sZ σ87) = 100 := by rw [hs105]; exact hc100
  have hc107 : sN σ105 (sZ σ87) = 30 := by rw [hs105]; exact hc101
  have hc108 : sK σ105 a0 = 1 := by rw [hs105]; exact hc102
  have hc109 : sK σ105 p0 = 2 := by rw [hs105]; exact hc104
  refine G_aload_n C 0 rfl rfl dX0_init_125 ?_
  refine G_aload_n C 1 rfl rfl dX0_init_126 ?_
  refine G_iconst C (v := -1) rfl dX0_init_127 ?_
  obtain ⟨v110, hv110, h⟩ := bnd h
  refine G_callR (run_V C [.int (-1 : Int32)] [.ref a0] (dX1_workAtd hc109 hv110) ml_X1_workAt mv_X1_workAt lk_X0_78 ⟨(Nat.le_of_ble_eq_true rfl), (Nat.le_of_ble_eq_true rfl)⟩ ⟨(Nat.le_of_ble_eq_true rfl), (Nat.le_of_ble_eq_true rfl)⟩ vq_1 rfl (KO.dy hc109) rfl (Nat.le_of_ble_eq_true rfl) dX0_init_128) ?_
  obtain ⟨σ111, hs111, h⟩ := stp_elim h
  refine G_putR C fl_X0_82_0 fp_X0_0_6 (Or.inl rfl) rfl (fun z => nomatch z) (KO.dy hc108) dX0_init_131 ?_
  rw [← hs111]
  have hc112 : sK σ111 (sZ σ87) = 100 := by rw [hs111]; exact hc106
  have hc113 : sN σ111 (sZ σ87) = 30 := by rw [hs111]; exact hc107
  have hc114 : sK σ111 a0 = 1 := by rw [hs111]; exact hc108
  have hc115 : sK σ111 p0 = 2 := by rw [hs111]; exact hc109
  obtain rfl := Option.some.inj h
  exact G_vret C hr (Nat.le_of_ble_eq_true rfl) (Nat.le_of_ble_eq_true rfl) dX0_init_134
set_option maxRecDepth 100000 in
set_option maxHeartbeats 4000000 in
theorem dX11_isWithin {σ : Sto} {p0 : Int32} {p1 : Int32} {p2 : Int32} {r : Int32} (h : mX11_isWithin p0 p1 p2 σ = r) : MM l yX11_isWithin cX11_isWithin 3 (some .boolean) 1 0 0 E st σ [.int p0, .int p1, .int p2] (QI E st σ r σ) := by
  unfold mX11_isWithin at h
  refine MM_of (by decide) (Nat.le_of_ble_eq_true rfl) rfl (fun p e s m args below meth c ad0 C hr hn => ?_)
  refine G_iload_n C 0 rfl rfl dX11_isWithin_0 ?_
  refine G_iload_n C 1 rfl rfl dX11_isWithin_1 ?_
  refine G_icmp_lt (tgt := 14) C rfl dX11_isWithin_2 (fun hc1 => ?_) (fun hc1 => ?_)
  · replace h := (if_pos hc1).symm.trans h
    refine G_iconst C (v := 0) rfl dX11_isWithin_14 ?_
    subst h
    exact G_zret C (by decide) hr (Nat.le_of_ble_eq_true rfl) (Nat.le_of_ble_eq_true rfl) dX11_isWithin_15
  · replace h := (if_neg hc1).symm.trans h
    refine G_iload_n C 0 rfl rfl dX11_isWithin_5 ?_
    refine G_iload_n C 2 rfl rfl dX11_isWithin_6 ?_
    refine G_icmp_gt (tgt := 14) C rfl dX11_isWithin_7 (fun hc2 => ?_) (fun hc2 => ?_)
    · replace h := (if_pos hc2).symm.trans h
      refine G_iconst C (v := 0) rfl dX11_isWithin_14 ?_
      subst h
      exact G_zret C (by decide) hr (Nat.le_of_ble_eq_true rfl) (Nat.le_of_ble_eq_true rfl) dX11_isWithin_15
    · replace h := (if_neg hc2).symm.trans h
      refine G_iconst C (v := 1) rfl dX11_isWithin_10 ?_
      refine G_goto (tgt := 15) C rfl dX11_isWithin_11 ?_
      subst h
      exact G_zret C (by decide) hr (Nat.le_of_ble_eq_true rfl) (Nat.le_of_ble_eq_true rfl) dX11_isWithin_15
set_option maxRecDepth 100000 in
set_option maxHeartbeats 4000000 in
theorem eX0_open_37B (C : Cx E p s m args meth c cX0_open 4 RX0) (hr : meth.sig.returnType = none) {σ0 : Sto} {r2 : Sto} {σ : Sto} {f37 : Int32 → Int32 → Sto → Option Sto} {x1 : Int32} {x2 : Int32} (hf37 : ∀ (x1 : Int32) (x2 : Int32) (σ' : Sto), f37 x1 x2 σ' = some r2 → G p l e (rmd 2 0 0) s m args below meth c E true (sZ σ0) ad0 (MQ below (QV E true σ0 r2 ad0) args s 0 0 (AE E)) 4 0 0 σ' 37 [(0, .ref 53), (1, .int x1), (2, .int x2)] []) (h : mX0_open_37B f37 x1 x2 σ = some r2) : G p l e (rmd 2 0 0) s m args below meth c E true (sZ σ0) ad0 (MQ below (QV E true σ0 r2 ad0) args s 0 0 (AE E)) 4 0 0 σ 37 [(0, .ref 53), (1, .int x1), (2, .int x2)] [] := by
  unfold mX0_open_37B at h
  refine G_iload_n C 2 rfl rfl dX0_open_37 ?_
  refine G_aload_n C 0 rfl rfl dX0_open_38 ?_
  refine G_getF C fl_X0_64_0 rfl rfl fn_53_0 dX0_open_39 ?_
  refine G_getI C fl_X0_87_1 (Or.inl rfl) ko_33 dX0_open_42 ?_
  refine G_icmp_ge (tgt := 117) C rfl dX0_open_45 (fun hc3 => ?_) (fun hc3 => ?_)
  · replace h := (if_pos hc3).symm.trans h
    obtain rfl := Option.some.inj h
    exact G_vret C hr (Nat.le_of_ble_eq_true rfl) (Nat.le_of_ble_eq_true rfl) dX0_open_117
  · replace h := (if_neg hc3).symm.trans h
    refine G_aload_n C 0 rfl rfl dX0_open_48 ?_
    refine G_getF C fl_X0_64_0 rfl rfl fn_53_0 dX0_open_49 ?_
    refine G_iload_n C 2 rfl rfl dX0_open_52 ?_
    obtain ⟨v4, hv4, h⟩ := bnd h
    refine G_callR (run_V C [.int x2] [] (dX1_factAt hv4) ml_X1_factAt mv_X1_factAt lk_X0_68 ⟨(Nat.le_of_ble_eq_true rfl), (Nat.le_of_ble_eq_true rfl)⟩ ⟨(Nat.le_of_ble_eq_true rfl), (Nat.le_of_ble_eq_true rfl)⟩ vq_1 rfl ko_33 rfl (Nat.le_of_ble_eq_true rfl) dX0_open_53) ?_
    refine G_astore_n (L' := [(3, .ref v4), (0, .ref 53), (1, .int x1), (2, .int x2)]) C rfl (Nat.le_of_ble_eq_true rfl) rfl dX0_open_56 ?_
    refine G_aload_n C 0 rfl rfl dX0_open_57 ?_
    obtain ⟨hc5, h⟩ := ifn h
    refine G_getI C fl_X0_90_3 (Or.inl rfl) (KO.dy hc5) dX0_open_58 ?_
    refine G_if_ne (tgt := 111) C rfl dX0_open_61 (fun hc6 => ?_) (fun hc6 => ?_)
    · replace h := (if_neg hc6).symm.trans h
      refine G_iinc (v := 1) (L' := [(2, .int (x2 + (1 : Int32))), (3, .ref v4), (0, .ref 53), (1, .int x1)]) C 3 rfl rfl (Nat.le_of_ble_eq_true rfl) rfl dX0_open_111 ?_
      refine G_goto (tgt := 37) C rfl dX0_open_114 ?_
      refine G_sub [2, 3, 0] rfl ?_
      exact hf37 _ _ _ h
    · replace h := (if_pos hc6).symm.trans h
      refine G_aload_n C 0 rfl rfl dX0_open_64 ?_
      refine G_iload_n C 2 rfl rfl dX0_open_65 ?_
      obtain ⟨v7, hv7, h⟩ := bnd h
      refine G_callI (run_U C [.int x1] [] (dX9_isKnownOn3 hc5 hv7) wu_X0_95 ⟨(Nat.le_of_ble_eq_true rfl), (Nat.le_of_ble_eq_true rfl)⟩ ⟨(Nat.le_of_ble_eq_true rfl), (Nat.le_of_ble_eq_true rfl)⟩ vq_3 (KO.dy hc5) rfl (Nat.le_of_ble_eq_true rfl) dX0_open_66) ?_
      refine G_if_eq (tgt := 111) C rfl dX0_open_69 (fun hc8 => ?_) (fun hc8 => ?_)
      · replace h := (if_pos hc8).symm.trans h
        refine G_iinc (v := 1) (L' := [(2, .int (x2 + (1 : Int32))), (3, .ref v4), (0, .ref 53), (1, .int x1)]) C 3 rfl rfl (Nat.le_of_ble_eq_true rfl) rfl dX0_open_111 ?_
        refine G_goto (tgt := 37) C rfl dX0_open_114 ?_
        refine G_sub [2, 3, 0] rfl ?_
        exact hf37 _ _ _ h
      · replace h := (if_neg hc8).symm.trans h
        refine G_aload_n C 0 rfl rfl dX0_open_72 ?_
        refine G_getI C fl_X0_99_3 (Or.inl rfl) (KO.dy hc5) dX0_open_73 ?_
        refine G_iconst C (v := 0) rfl dX0_open_76 ?_
        refine G_bipush C (v := 29) rfl dX0_open_77 ?_
        refine G_callI (run_SN C [.int (sI σ v4 4), .int (0 : Int32), .int (29 : Int32)] [] (dX11_isWithin rfl) ml_X11_isWithin ms_X11_isWithin (by decide) ⟨(Nat.le_of_ble_eq_true rfl), (Nat.le_of_ble_eq_true rfl)⟩ ⟨(Nat.le_of_ble_eq_true rfl), (Nat.le_of_ble_eq_true rfl)⟩ rfl (Nat.le_of_ble_eq_true rfl) dX0_open_79) ?_
        refine G_if_eq (tgt := 111) C rfl dX0_open_82 (fun hc10 => ?_) (fun hc10 => ?_)
        · replace h := (if_pos hc10).symm.trans h
          refine G_iinc (v := 1) (L' := [(2, .int (x2 + (1 : Int32))), (3, .ref v4), (0, .ref 53), (1, .int x1)]) C 3 rfl rfl (Nat.le_of_ble_eq_true rfl) rfl dX0_open_111 ?_
          refine G_goto (tgt := 37) C rfl dX0_open_114 ?_
          refine G_sub [2, 3, 0] rfl ?_
          exact hf37 _ _ _ h
        · replace h := (if_neg hc10).symm.trans h
          refine G_aload_n C 1 rfl rfl dX0_open_85 ?_
          refine G_getF C fl_X0_15_0 rfl rfl fn_53_2 dX0_open_86 ?_
          refine G_aload_n C 0 rfl rfl dX0_open_89 ?_
          refine G_getI C fl_X0_99_3 (Or.inl rfl) (KO.dy hc5) dX0_open_90 ?_
          refine G_aload_n C 0 rfl rfl dX0_open_93 ?_
          refine G_getI C fl_X0_106_3 (Or.inl rfl) (KO.dy hc5) dX0_open_94 ?_
          obtain ⟨hc11, h⟩ := ifn h
          obtain ⟨σ12, hs12, h⟩ := stp_elim h
          refine G_iastore C ks_54 hc11 dX0_open_97 ?_
          rw [← hs12]
          have hc13 : sK σ12 v4 = 4 := by rw [hs12]; exact hc5
          refine G_aload_n C 1 rfl rfl dX0_open_98 ?_
          refine G_getF C fl_X0_19_0 rfl rfl fn_53_3 dX0_open_99 ?_
          refine G_aload_n C 0 rfl rfl dX0_open_102 ?_
          refine G_getI C fl_X0_99_3 (Or.inl rfl) (KO.dy hc13) dX0_open_103 ?_
          refine G_aload_n C 0 rfl rfl dX0_open_106 ?_
          refine G_getI C fl_X0_109_3 (Or.inl rfl) (KO.dy hc13) dX0_open_107 ?_
          obtain ⟨hc14, h⟩ := ifn h
          obtain ⟨σ15, hs15, h⟩ := stp_elim h
          refine G_iastore C ks_55 hc14 dX0_open_110 ?_
          rw [← hs15]
          have hc16 : sK σ15 v4 = 4 := by rw [hs15]; exact hc13
          refine G_iinc (v := 1) (L' := [(2, .int (x2 + (1 : Int32))), (3, .ref v4), (0, .ref 53), (1, .int x1)]) C 3 rfl rfl (Nat.le_of_ble_eq_true rfl) rfl dX0_open_111 ?_
          refine G_goto (tgt := 37) C rfl dX0_open_114 ?_
          refine G_sub [2, 3, 0] rfl ?_
          exact hf37 _ _ _ h
set_option maxRecDepth 100000 in
set_option maxHeartbeats 4000000 in
theorem eX0_open_37 (C : Cx E p s m args meth c cX0_open 4 RX0) (hr : meth.sig.returnType = none) {σ0 : Sto} {r2 : Sto} {σ : Sto} {n : Nat} {x1 : Int32} {x2 : Int32} (h : mX0_open_37 n x1 x2 σ = some r2) : G p l e (rmd 2 0 0) s m args below meth c E true (sZ σ0) ad0 (MQ below (QV E true σ0 r2 ad0) args s 0 0 (AE E)) 4 0 0 σ 37 [(0, .ref 53), (1, .int x1), (2, .int x2)] [] := by
  induction n generalizing x1 x2 σ with
  | zero => exact nomatch (show (none : Option Sto) = some r2 from h)
  | succ n ih => exact eX0_open_37B C hr (fun z0 z1 σ9 h9 => ih h9) h
set_option maxRecDepth 100000 in
set_option maxHeartbeats 4000000 in
theorem eX0_open_7B (C : Cx E p s m args meth c cX0_open 4 RX0) (hr : meth.sig.returnType = none) {σ0 : Sto} {r2 : Sto} {σ : Sto} {f7 : Int32 → Int32 → Sto → Option Sto} {x1 : Int32} {x2 : Int32} (hf7 : ∀ (x1 : Int32) (x2 : Int32) (σ' : Sto), f7 x1 x2 σ' = some r2 → G p l e (rmd 2 0 0) s m args below meth c E true (sZ σ0) ad0 (MQ below (QV E true σ0 r2 ad0) args s 0 0 (AE E)) 4 0 0 σ' 7 [(0, .ref 53), (1, .int x1), (2, .int x2)] []) (h : mX0_open_7B f7 x1 x2 σ = some r2) : G p l e (rmd 2 0 0) s m args below meth c E true (sZ σ0) ad0 (MQ below (QV E true σ0 r2 ad0) args s 0 0 (AE E)) 4 0 0 σ 7 [(0, .ref 53), (1, .int x1), (2, .int x2)] [] := by
  unfold mX0_open_7B at h
  refine G_iload_n C 2 rfl rfl dX0_open_7 ?_
  refine G_bipush C (v := 30) rfl dX0_open_8 ?_
  refine G_icmp_ge (tgt := 35) C rfl dX0_open_10 (fun hc2 => ?_) (fun hc2 => ?_)
  · replace h := (if_pos hc2).symm.trans h
    refine G_iconst C (v := 0) rfl dX0_open_35 ?_
    refine G_istore_n (L' := [(2, .int (0 : Int32)), (0, .ref 53), (1, .int x1)]) C rfl (Nat.le_of_ble_eq_true rfl) rfl dX0_open_36 ?_
    refine G_sub [1, 2, 0] rfl ?_
    exact eX0_open_37 C hr h
  · replace h := (if_neg hc2).symm.trans h
    refine G_aload_n C 0 rfl rfl dX0_open_13 ?_
    refine G_getF C fl_X0_15_0 rfl rfl fn_53_2 dX0_open_14 ?_
    refine G_iload_n C 2 rfl rfl dX0_open_17 ?_
    refine G_ldc C kc_X0_86 dX0_open_18 ?_
    obtain ⟨hc17, h⟩ := ifn h
    obtain ⟨σ18, hs18, h⟩ := stp_elim h
    refine G_iastore C ks_54 hc17 dX0_open_20 ?_
    rw [← hs18]
    refine G_aload_n C 0 rfl rfl dX0_open_21 ?_
    refine G_getF C fl_X0_19_0 rfl rfl fn_53_3 dX0_open_22 ?_
    refine G_iload_n C 2 rfl rfl dX0_open_25 ?_
    refine G_ldc C kc_X0_86 dX0_open_26 ?_
    obtain ⟨σ19, hs19, h⟩ := stp_elim h
    refine G_iastore C ks_55 hc17 dX0_open_28 ?_
    rw [← hs19]
    refine G_iinc (v := 1) (L' := [(2, .int (x2 + (1 : Int32))), (0, .ref 53), (1, .int x1)]) C 2 rfl rfl (Nat.le_of_ble_eq_true rfl) rfl dX0_open_29 ?_
    refine G_goto (tgt := 7) C rfl dX0_open_32 ?_
    refine G_sub [1, 2, 0] rfl ?_
    exact hf7 _ _ _ h
set_option maxRecDepth 100000 in
set_option maxHeartbeats 4000000 in
theorem eX0_open_7 (C : Cx E p s m args meth c cX0_open 4 RX0) (hr : meth.sig.returnType = none) {σ0 : Sto} {r2 : Sto} {σ : Sto} {n : Nat} {x1 : Int32} {x2 : Int32} (h : mX0_open_7 n x1 x2 σ = some r2) : G p l e (rmd 2 0 0) s m args below meth c E true (sZ σ0) ad0 (MQ below (QV E true σ0 r2 ad0) args s 0 0 (AE E)) 4 0 0 σ 7 [(0, .ref 53), (1, .int x1), (2, .int x2)] [] := by
  induction n generalizing x1 x2 σ with
  | zero => exact nomatch (show (none : Option Sto) = some r2 from h)
  | succ n ih => exact eX0_open_7B C hr (fun z0 z1 σ9 h9 => ih h9) h
set_option maxRecDepth 100000 in
set_option maxHeartbeats 4000000 in
theorem dX0_open {σ : Sto} {p0 : Int32} {r2 : Sto} (h : mX0_open p0 σ = some r2) : MM l yX0_open cX0_open 4 none 2 0 0 E true σ [.ref 53, .int p0] (QV E true σ r2) := by
  unfold mX0_open at h
  refine MM_of (by decide) (Nat.le_of_ble_eq_true rfl) rfl (fun p e s m args below meth c ad0 C hr hn => ?_)
  refine G_aload_n C 0 rfl rfl dX0_open_0 ?_
  refine G_iload_n C 1 rfl rfl dX0_open_1 ?_
  obtain ⟨σ1, hs1, h⟩ := stp_elim h
  refine G_putI C fl_X0_9_0 fp_X0_0_1 (Or.inl rfl) (Or.inl rfl) ko_53 dX0_open_2 ?_
  rw [← hs1]
  refine G_iconst C (v := 0) rfl dX0_open_5 ?_
  refine G_istore_n (L' := [(2, .int (0 : Int32)), (0, .ref 53), (1, .int p0)]) C rfl (Nat.le_of_ble_eq_true rfl) rfl dX0_open_6 ?_
  refine G_sub [1, 2, 0] rfl ?_
  exact eX0_open_7 C hr h
set_option maxRecDepth 100000 in
set_option maxHeartbeats 4000000 in
theorem eX0_fillValues_122 (C : Cx E p s m args meth c cX0_fillValues 2 RX0) (hr : meth.sig.returnType = none) {σ0 : Sto} {r2 : Sto} {σ : Sto} {y1 : Int32} {y2 : Int32} (h : mX0_fillValues_122 y1 y2 σ = some r2) : G p l e (rmd 3 0 0) s m args below meth c E true (sZ σ0) ad0 (MQ below (QV E true σ0 r2 ad0) args s 0 0 (AE E)) 2 0 0 σ 122 [(0, .ref 53)] [.int y2, .int y1, .ref 56] := by
  unfold mX0_fillValues_122 at h
  obtain ⟨hc31, h⟩ := ifn h
  obtain ⟨σ32, hs32, h⟩ := stp_elim h
  refine G_iastore C ks_56 hc31 dX0_fillValues_122 ?_
  rw [← hs32]
  refine G_aload_n C 0 rfl rfl dX0_fillValues_123 ?_
  refine G_getF C fl_X0_24_0 rfl rfl fn_53_4 dX0_fillValues_124 ?_
  refine G_bipush C (v := 7) rfl dX0_fillValues_127 ?_
  refine G_aload_n C 0 rfl rfl dX0_fillValues_129 ?_
  refine G_getI C fl_X0_33_0 (Or.inl rfl) ko_53 dX0_fillValues_130 ?_
  obtain ⟨σ33, hs33, h⟩ := stp_elim h
  refine G_iastore C ks_56 ⟨by decide, by decide⟩ dX0_fillValues_133 ?_
  rw [← hs33]
  refine G_aload_n C 0 rfl rfl dX0_fillValues_134 ?_
  refine G_getF C fl_X0_24_0 rfl rfl fn_53_4 dX0_fillValues_135 ?_
  refine G_bipush C (v := 8) rfl dX0_fillValues_138 ?_
  refine G_aload_n C 0 rfl rfl dX0_fillValues_140 ?_
  refine G_getR C fl_X0_82_0 rfl ko_53 dX0_fillValues_141 ?_
  obtain ⟨hc34, h⟩ := ifn h
  refine G_getI C fl_X0_176_9 (Or.inl rfl) (KO.dy hc34) dX0_fillValues_144 ?_
  obtain ⟨σ35, hs35, h⟩ := stp_elim h
  refine G_iastore C ks_56 ⟨by decide, by decide⟩ dX0_fillValues_147 ?_
  rw [← hs35]
  have hc36 : sK σ35 (sR σ33 53 6) = 10 := by rw [hs35]; exact hc34
  refine G_aload_n C 0 rfl rfl dX0_fillValues_148 ?_
  refine G_getF C fl_X0_24_0 rfl rfl fn_53_4 dX0_fillValues_149 ?_
  refine G_bipush C (v := 9) rfl dX0_fillValues_152 ?_
  refine G_aload_n C 0 rfl rfl dX0_fillValues_154 ?_
  refine G_getR C fl_X0_82_0 rfl ko_53 dX0_fillValues_155 ?_
  obtain ⟨hc37, h⟩ := ifn h
  refine G_getI C fl_X0_179_9 (Or.inl rfl) (KO.dy hc37) dX0_fillValues_158 ?_
  obtain ⟨σ38, hs38, h⟩ := stp_elim h
  refine G_iastore C ks_56 ⟨by decide, by decide⟩ dX0_fillValues_161 ?_
  rw [← hs38]
  have hc39 : sK σ38 (sR σ33 53 6) = 10 := by rw [hs38]; exact hc36
  have hc40 : sK σ38 (sR σ35 53 6) = 10 := by rw [hs38]; exact hc37
  obtain rfl := Option.some.inj h
  exact G_vret C hr (Nat.le_of_ble_eq_true rfl) (Nat.le_of_ble_eq_true rfl) dX0_fillValues_162
set_option maxRecDepth 100000 in
set_option maxHeartbeats 4000000 in
theorem eX0_fillValues_96 (C : Cx E p s m args meth c cX0_fillValues 2 RX0) (hr : meth.sig.returnType = none) {σ0 : Sto} {r2 : Sto} {σ : Sto} {x1 : Int32} {y1 : Int32} {y2 : Int32} (h : mX0_fillValues_96 x1 y1 y2 σ = some r2) : G p l e (rmd 3 0 0) s m args below meth c E true (sZ σ0) ad0 (MQ below (QV E true σ0 r2 ad0) args s 0 0 (AE E)) 2 0 0 σ 96 [(0, .ref 53), (1, .int x1)] [.int y2, .int y1, .ref 56] := by
  unfold mX0_fillValues_96 at h
  obtain ⟨hc27, h⟩ := ifn h
  obtain ⟨σ28, hs28, h⟩ := stp_elim h
  refine G_iastore C ks_56 hc27 dX0_fillValues_96 ?_
  rw [← hs28]
  refine G_aload_n C 0 rfl rfl dX0_fillValues_97 ?_
  refine G_getF C fl_X0_24_0 rfl rfl fn_53_4 dX0_fillValues_98 ?_
  refine G_iconst C (v := 5) rfl dX0_fillValues_101 ?_
  refine G_aload_n C 0 rfl rfl dX0_fillValues_102 ?_
  refine G_getI C fl_X0_30_0 (Or.inl rfl) ko_53 dX0_fillValues_103 ?_
  obtain ⟨σ29, hs29, h⟩ := stp_elim h
  refine G_iastore C ks_56 ⟨by decide, by decide⟩ dX0_fillValues_106 ?_
  rw [← hs29]
  refine G_aload_n C 0 rfl rfl dX0_fillValues_107 ?_
  refine G_getF C fl_X0_24_0 rfl rfl fn_53_4 dX0_fillValues_108 ?_
  refine G_bipush C (v := 6) rfl dX0_fillValues_111 ?_
  refine G_iload_n C 1 rfl rfl dX0_fillValues_113 ?_
  refine G_if_eq (tgt := 121) C rfl dX0_fillValues_114 (fun hc30 => ?_) (fun hc30 => ?_)
  · replace h := (if_pos hc30).symm.trans h
    refine G_iconst C (v := 0) rfl dX0_fillValues_121 ?_
    refine G_sub [0] rfl ?_
    exact eX0_fillValues_122 C hr h
  · replace h := (if_neg hc30).symm.trans h
    refine G_iconst C (v := 1) rfl dX0_fillValues_117 ?_
    refine G_goto (tgt := 122) C rfl dX0_fillValues_118 ?_
    refine G_sub [0] rfl ?_
    exact eX0_fillValues_122 C hr h
set_option maxRecDepth 100000 in
set_option maxHeartbeats 4000000 in
theorem dX0_fillValues {σ : Sto} {p0 : Int32} {r2 : Sto} (h : mX0_fillValues p0 σ = some r2) : MM l yX0_fillValues cX0_fillValues 2 none 3 0 0 E true σ [.ref 53, .int p0] (QV E true σ r2) := by
  unfold mX0_fillValues at h
  refine MM_of (by decide) (Nat.le_of_ble_eq_true rfl) rfl (fun p e s m args below meth c ad0 C hr hn => ?_)
  refine G_aload_n C 0 rfl rfl dX0_fillValues_0 ?_
  refine G_getF C fl_X0_24_0 rfl rfl fn_53_4 dX0_fillValues_1 ?_
  refine G_iconst C (v := 0) rfl dX0_fillValues_4 ?_
  refine G_aload_n C 0 rfl rfl dX0_fillValues_5 ?_
  refine G_getI C fl_X0_27_0 (Or.inl rfl) ko_53 dX0_fillValues_6 ?_
  obtain ⟨σ1, hs1, h⟩ := stp_elim h
  refine G_iastore C ks_56 ⟨by decide, by decide⟩ dX0_fillValues_9 ?_
  rw [← hs1]
  refine G_aload_n C 0 rfl rfl dX0_fillValues_10 ?_
  refine G_getF C fl_X0_24_0 rfl rfl fn_53_4 dX0_fillValues_11 ?_
  refine G_iconst C (v := 1) rfl dX0_fillValues_14 ?_
  refine G_aload_n C 0 rfl rfl dX0_fillValues_15 ?_
  refine G_getF C fl_X0_64_0 rfl rfl fn_53_0 dX0_fillValues_16 ?_
  refine G_aload_n C 0 rfl rfl dX0_fillValues_19 ?_
  refine G_getR C fl_X0_74_0 rfl ko_53 dX0_fillValues_20 ?_
  obtain ⟨hc2, h⟩ := ifn h
  refine G_getI C fl_X0_99_3 (Or.inl rfl) (KO.dy hc2) dX0_fillValues_23 ?_
  obtain ⟨v3, hv3, h⟩ := bnd h
  refine G_callR (run_V C [.int (sI σ1 (sR σ1 53 5) 4)] [.int (1 : Int32), .ref 56] (dX1_personAt hv3) ml_X1_personAt mv_X1_personAt lk_X0_164 ⟨(Nat.le_of_ble_eq_true rfl), (Nat.le_of_ble_eq_true rfl)⟩ ⟨(Nat.le_of_ble_eq_true rfl), (Nat.le_of_ble_eq_true rfl)⟩ vq_1 rfl ko_33 rfl (Nat.le_of_ble_eq_true rfl) dX0_fillValues_26) ?_
  obtain ⟨hc4, h⟩ := ifn h
  refine G_getI C fl_X0_168_5 (Or.inl rfl) (KO.dy hc4) dX0_fillValues_29 ?_
  obtain ⟨σ5, hs5, h⟩ := stp_elim h
  refine G_iastore C ks_56 ⟨by decide, by decide⟩ dX0_fillValues_32 ?_
  rw [← hs5]
  have hc6 : sK σ5 (sR σ1 53 5) = 4 := by rw [hs5]; exact hc2
  have hc7 : sK σ5 v3 = 6 := by rw [hs5]; exact hc4
  refine G_aload_n C 0 rfl rfl dX0_fillValues_33 ?_
  refine G_getF C fl_X0_24_0 rfl rfl fn_53_4 dX0_fillValues_34 ?_
  refine G_iconst C (v := 2) rfl dX0_fillValues_37 ?_
  refine G_aload_n C 0 rfl rfl dX0_fillValues_38 ?_
  refine G_getF C fl_X0_64_0 rfl rfl fn_53_0 dX0_fillValues_39 ?_
  refine G_aload_n C 0 rfl rfl dX0_fillValues_42 ?_
  refine G_getR C fl_X0_74_0 rfl ko_53 dX0_fillValues_43 ?_
  obtain ⟨hc8, h⟩ := ifn h
  refine G_getI C fl_X0_151_3 (Or.inl rfl) (KO.dy hc8) dX0_fillValues_46 ?_
  obtain ⟨v9, hv9, h⟩ := bnd h
  refine G_callR (run_V C [.int (sI σ5 (sR σ5 53 5) 5)] [.int (2 : Int32), .ref 56] (dX1_personAt hv9) ml_X1_personAt mv_X1_personAt lk_X0_164 ⟨(Nat.le_of_ble_eq_true rfl), (Nat.le_of_ble_eq_true rfl)⟩ ⟨(Nat.le_of_ble_eq_true rfl), (Nat.le_of_ble_eq_true rfl)⟩ vq_1 rfl ko_33 rfl (Nat.le_of_ble_eq_true rfl) dX0_fillValues_49) ?_
  obtain ⟨hc10, h⟩ := ifn h
  refine G_getI C fl_X0_168_5 (Or.inl rfl) (KO.dy hc10) dX0_fillValues_52 ?_
  obtain ⟨σ11, hs11, h⟩ := stp_elim h
  refine G_iastore C ks_56 ⟨by decide, by decide⟩ dX0_fillValues_55 ?_
  rw [← hs11]
  have hc12 : sK σ11 (sR σ1 53 5) = 4 := by rw [hs11]; exact hc6
  have hc13 : sK σ11 v3 = 6 := by rw [hs11]; exact hc7
  have hc14 : sK σ11 (sR σ5 53 5) = 4 := by rw [hs11]; exact hc8
  have hc15 : sK σ11 v9 = 6 := by rw [hs11]; exact hc10
  refine G_aload_n C 0 rfl rfl dX0_fillValues_56 ?_
  refine G_getF C fl_X0_24_0 rfl rfl fn_53_4 dX0_fillValues_57 ?_
  refine G_iconst C (v := 3) rfl dX0_fillValues_60 ?_
  refine G_aload_n C 0 rfl rfl dX0_fillValues_61 ?_
  refine G_getR C fl_X0_74_0 rfl ko_53 dX0_fillValues_62 ?_
  obtain ⟨hc16, h⟩ := ifn h
  refine G_getI C fl_X0_173_3 (Or.inl rfl) (KO.dy hc16) dX0_fillValues_65 ?_
  obtain ⟨σ17, hs17, h⟩ := stp_elim h
  refine G_iastore C ks_56 ⟨by decide, by decide⟩ dX0_fillValues_68 ?_
  rw [← hs17]
  have hc18 : sK σ17 (sR σ1 53 5) = 4 := by rw [hs17]; exact hc12
  have hc19 : sK σ17 v3 = 6 := by rw [hs17]; exact hc13
  have hc20 : sK σ17 (sR σ5 53 5) = 4 := by rw [hs17]; exact hc14
  have hc21 : sK σ17 v9 = 6 := by rw [hs17]; exact hc15
  have hc22 : sK σ17 (sR σ11 53 5) = 4 := by rw [hs17]; exact hc16
  refine G_aload_n C 0 rfl rfl dX0_fillValues_69 ?_
  refine G_getF C fl_X0_24_0 rfl rfl fn_53_4 dX0_fillValues_70 ?_
  refine G_iconst C (v := 4) rfl dX0_fillValues_73 ?_
  refine G_aload_n C 0 rfl rfl dX0_fillValues_74 ?_
  refine G_getR C fl_X0_82_0 rfl ko_53 dX0_fillValues_75 ?_
  refine G_aload_n C 0 rfl rfl dX0_fillValues_78 ?_
  refine G_getR C fl_X0_74_0 rfl ko_53 dX0_fillValues_79 ?_
  obtain ⟨hc23, h⟩ := ifn h
  refine G_getI C fl_X0_99_3 (Or.inl rfl) (KO.dy hc23) dX0_fillValues_82 ?_
  obtain ⟨hc25, h⟩ := ifn h
  obtain ⟨v24, hv24, h⟩ := bnd h
  refine G_callI (run_V C [.int (sI σ17 (sR σ17 53 5) 4)] [.int (4 : Int32), .ref 56] (dX10_isBy hc25 hv24) ml_X10_isBy mv_X10_isBy lk_X0_154 ⟨(Nat.le_of_ble_eq_true rfl), (Nat.le_of_ble_eq_true rfl)⟩ ⟨(Nat.le_of_ble_eq_true rfl), (Nat.le_of_ble_eq_true rfl)⟩ vq_9 rfl (KO.dy hc25) rfl (Nat.le_of_ble_eq_true rfl) dX0_fillValues_85) ?_
  refine G_if_eq (tgt := 95) C rfl dX0_fillValues_88 (fun hc26 => ?_) (fun hc26 => ?_)
  · replace h := (if_pos hc26).symm.trans h
    refine G_iconst C (v := 0) rfl dX0_fillValues_95 ?_
    exact eX0_fillValues_96 C hr h
  · replace h := (if_neg hc26).symm.trans h
    refine G_iconst C (v := 1) rfl dX0_fillValues_91 ?_
    refine G_goto (tgt := 96) C rfl dX0_fillValues_92 ?_
    exact eX0_fillValues_96 C hr h
set_option maxRecDepth 100000 in
set_option maxHeartbeats 4000000 in
theorem eX0_look_232 (C : Cx E p s m args meth c cX0_look 6 RX0) (hr : meth.sig.returnType = none) {σ0 : Sto} {r2 : Sto} {σ : Sto} {x3 : Int32} {y1 : Int32} (h : mX0_look_232 x3 y1 σ = some r2) : G p l e (rmd 4 0 0) s m args below meth c E true (sZ σ0) ad0 (MQ below (QV E true σ0 r2 ad0) args s 0 0 (AE E)) 6 0 0 σ 232 [(0, .ref 53), (3, .int x3)] [.int y1, .ref 53] := by
  unfold mX0_look_232 at h
  obtain ⟨σ14, hs14, h⟩ := stp_elim h
  refine G_putI C fl_X0_30_0 fp_X0_0_8 (Or.inl rfl) (Or.inl rfl) ko_53 dX0_look_232 ?_
  rw [← hs14]
  refine G_aload_n C 0 rfl rfl dX0_look_235 ?_
  refine G_iload_n C 1 rfl rfl dX0_look_236 ?_
  obtain ⟨σ15, hv15, h⟩ := bnd h
  refine G_callV (run_V C [.int x3] [] (dX0_fillValues hv15) ml_X0_fillValues mv_X0_fillValues lk_X0_160 ⟨(Nat.le_of_ble_eq_true rfl), (Nat.le_of_ble_eq_true rfl)⟩ ⟨(Nat.le_of_ble_eq_true rfl), (Nat.le_of_ble_eq_true rfl)⟩ vq_0 rfl ko_53 rfl (Nat.le_of_ble_eq_true rfl) dX0_look_237) ?_
  obtain rfl := Option.some.inj h
  exact G_vret C hr (Nat.le_of_ble_eq_true rfl) (Nat.le_of_ble_eq_true rfl) dX0_look_240
set_option maxRecDepth 100000 in
set_option maxHeartbeats 4000000 in
theorem eX0_look_160 (C : Cx E p s m args meth c cX0_look 6 RX0) (hr : meth.sig.returnType = none) {σ0 : Sto} {r2 : Sto} {σ : Sto} {f63 : Nat → Int32 → Int32 → Int32 → Sto → Option Sto} {x1 : Nat} {x2 : Int32} {x3 : Int32} {x4 : Int32} {x5 : Nat} (hf63 : ∀ (x1 : Nat) (x2 : Int32) (x3 : Int32) (x4 : Int32) (σ' : Sto), f63 x1 x2 x3 x4 σ' = some r2 → G p l e (rmd 4 0 0) s m args below meth c E true (sZ σ0) ad0 (MQ below (QV E true σ0 r2 ad0) args s 0 0 (AE E)) 6 0 0 σ' 63 [(0, .ref 53), (1, .ref x1), (2, .int x2), (3, .int x3), (4, .int x4)] []) (h : mX0_look_160 f63 x1 x2 x3 x4 x5 σ = some r2) : G p l e (rmd 4 0 0) s m args below meth c E true (sZ σ0) ad0 (MQ below (QV E true σ0 r2 ad0) args s 0 0 (AE E)) 6 0 0 σ 160 [(0, .ref 53), (1, .ref x1), (2, .int x2), (3, .int x3), (4, .int x4), (5, .ref x5)] [] := by
  unfold mX0_look_160 at h
  refine G_aload C 5 rfl dX0_look_160 ?_
  obtain ⟨hc25, h⟩ := ifn h
  refine G_getI C fl_X0_90_3 (Or.inl rfl) (KO.dy hc25) dX0_look_162 ?_
  refine G_iconst C (v := 4) rfl dX0_look_165 ?_
  refine G_icmp_eq (tgt := 209) C rfl dX0_look_166 (fun hc26 => ?_) (fun hc26 => ?_)
  · replace h := (if_pos hc26).symm.trans h
    refine G_iinc (v := 1) (L' := [(4, .int (x4 + (1 : Int32))), (0, .ref 53), (1, .ref x1), (2, .int x2), (3, .int x3), (5, .ref x5)]) C 4 rfl rfl (Nat.le_of_ble_eq_true rfl) rfl dX0_look_209 ?_
    refine G_goto (tgt := 63) C rfl dX0_look_212 ?_
    refine G_sub [1, 2, 3, 4, 0] rfl ?_
    exact hf63 _ _ _ _ _ h
  · replace h := (if_neg hc26).symm.trans h
    refine G_aload C 5 rfl dX0_look_169 ?_
    refine G_getI C fl_X0_151_3 (Or.inl rfl) (KO.dy hc25) dX0_look_171 ?_
    refine G_aload_n C 1 rfl rfl dX0_look_174 ?_
    obtain ⟨hc27, h⟩ := ifn h
    refine G_getI C fl_X0_99_3 (Or.inl rfl) (KO.dy hc27) dX0_look_175 ?_
    refine G_icmp_ne (tgt := 209) C rfl dX0_look_178 (fun hc28 => ?_) (fun hc28 => ?_)
    · replace h := (if_neg hc28).symm.trans h
      refine G_iinc (v := 1) (L' := [(4, .int (x4 + (1 : Int32))), (0, .ref 53), (1, .ref x1), (2, .int x2), (3, .int x3), (5, .ref x5)]) C 4 rfl rfl (Nat.le_of_ble_eq_true rfl) rfl dX0_look_209 ?_
      refine G_goto (tgt := 63) C rfl dX0_look_212 ?_
      refine G_sub [1, 2, 3, 4, 0] rfl ?_
      exact hf63 _ _ _ _ _ h
    · replace h := (if_pos hc28).symm.trans h
      refine G_aload C 5 rfl dX0_look_181 ?_
      refine G_getI C fl_X0_106_3 (Or.inl rfl) (KO.dy hc25) dX0_look_183 ?_
      refine G_iload_n C 2 rfl rfl dX0_look_186 ?_
      refine G_icmp_lt (tgt := 209) C rfl dX0_look_187 (fun hc29 => ?_) (fun hc29 => ?_)
      · replace h := (if_pos hc29).symm.trans h
        refine G_iinc (v := 1) (L' := [(4, .int (x4 + (1 : Int32))), (0, .ref 53), (1, .ref x1), (2, .int x2), (3, .int x3), (5, .ref x5)]) C 4 rfl rfl (Nat.le_of_ble_eq_true rfl) rfl dX0_look_209 ?_
        refine G_goto (tgt := 63) C rfl dX0_look_212 ?_
        refine G_sub [1, 2, 3, 4, 0] rfl ?_
        exact hf63 _ _ _ _ _ h
      · replace h := (if_neg hc29).symm.trans h
        refine G_aload C 5 rfl dX0_look_190 ?_
        refine G_getI C fl_X0_106_3 (Or.inl rfl) (KO.dy hc25) dX0_look_192 ?_
        refine G_istore_n (L' := [(2, .int (sI σ x5 6)), (0, .ref 53), (1, .ref x1), (3, .int x3), (4, .int x4), (5, .ref x5)]) C rfl (Nat.le_of_ble_eq_true rfl) rfl dX0_look_195 ?_
        refine G_aload_n C 1 rfl rfl dX0_look_196 ?_
        refine G_getR C fl_X0_82_0 rfl ko_53 dX0_look_197 ?_
        refine G_aload C 5 rfl dX0_look_200 ?_
        refine G_getI C fl_X0_99_3 (Or.inl rfl) (KO.dy hc25) dX0_look_202 ?_
        obtain ⟨hc31, h⟩ := ifn h
        obtain ⟨v30, hv30, h⟩ := bnd h
        refine G_callI (run_V C [.int (sI σ x5 4)] [] (dX10_isBy hc31 hv30) ml_X10_isBy mv_X10_isBy lk_X0_154 ⟨(Nat.le_of_ble_eq_true rfl), (Nat.le_of_ble_eq_true rfl)⟩ ⟨(Nat.le_of_ble_eq_true rfl), (Nat.le_of_ble_eq_true rfl)⟩ vq_9 rfl (KO.dy hc31) rfl (Nat.le_of_ble_eq_true rfl) dX0_look_205) ?_
        refine G_istore_n (L' := [(3, .int v30), (2, .int (sI σ x5 6)), (0, .ref 53), (1, .ref x1), (4, .int x4), (5, .ref x5)]) C rfl (Nat.le_of_ble_eq_true rfl) rfl dX0_look_208 ?_
        refine G_iinc (v := 1) (L' := [(4, .int (x4 + (1 : Int32))), (3, .int v30), (2, .int (sI σ x5 6)), (0, .ref 53), (1, .ref x1), (5, .ref x5)]) C 4 rfl rfl (Nat.le_of_ble_eq_true rfl) rfl dX0_look_209 ?_
        refine G_goto (tgt := 63) C rfl dX0_look_212 ?_
        refine G_sub [3, 4, 2, 1, 0] rfl ?_
        exact hf63 _ _ _ _ _ h
set_option maxRecDepth 100000 in
set_option maxHeartbeats 4000000 in
theorem eX0_look_63B (C : Cx E p s m args meth c cX0_look 6 RX0) (hr : meth.sig.returnType = none) {σ0 : Sto} {r2 : Sto} {σ : Sto} {f63 : Nat → Int32 → Int32 → Int32 → Sto → Option Sto} {x1 : Nat} {x2 : Int32} {x3 : Int32} {x4 : Int32} (hf63 : ∀ (x1 : Nat) (x2 : Int32) (x3 : Int32) (x4 : Int32) (σ' : Sto), f63 x1 x2 x3 x4 σ' = some r2 → G p l e (rmd 4 0 0) s m args below meth c E true (sZ σ0) ad0 (MQ below (QV E true σ0 r2 ad0) args s 0 0 (AE E)) 6 0 0 σ' 63 [(0, .ref 53), (1, .ref x1), (2, .int x2), (3, .int x3), (4, .int x4)] []) (h : mX0_look_63B f63 x1 x2 x3 x4 σ = some r2) : G p l e (rmd 4 0 0) s m args below meth c E true (sZ σ0) ad0 (MQ below (QV E true σ0 r2 ad0) args s 0 0 (AE E)) 6 0 0 σ 63 [(0, .ref 53), (1, .ref x1), (2, .int x2), (3, .int x3), (4, .int x4)] [] := by
  unfold mX0_look_63B at h
  refine G_iload C 4 rfl dX0_look_63 ?_
  refine G_aload_n C 0 rfl rfl dX0_look_65 ?_
  refine G_getF C fl_X0_64_0 rfl rfl fn_53_0 dX0_look_66 ?_
  refine G_getI C fl_X0_87_1 (Or.inl rfl) ko_33 dX0_look_69 ?_
  refine G_icmp_ge (tgt := 215) C rfl dX0_look_72 (fun hc11 => ?_) (fun hc11 => ?_)
  · replace h := (if_pos hc11).symm.trans h
    refine G_aload_n C 0 rfl rfl dX0_look_215 ?_
    refine G_iload_n C 2 rfl rfl dX0_look_216 ?_
    refine G_iconst C (v := -1) rfl dX0_look_217 ?_
    refine G_icmp_ne (tgt := 226) C rfl dX0_look_218 (fun hc12 => ?_) (fun hc12 => ?_)
    · replace h := (if_neg hc12).symm.trans h
      refine G_aload_n C 1 rfl rfl dX0_look_226 ?_
      obtain ⟨hc13, h⟩ := ifn h
      refine G_getI C fl_X0_106_3 (Or.inl rfl) (KO.dy hc13) dX0_look_227 ?_
      refine G_iload_n C 2 rfl rfl dX0_look_230 ?_
      refine G_isub C dX0_look_231 ?_
      refine G_sub [0, 3] rfl ?_
      exact eX0_look_232 C hr h
    · replace h := (if_pos hc12).symm.trans h
      refine G_ldc C kc_X0_159 dX0_look_221 ?_
      refine G_goto (tgt := 232) C rfl dX0_look_223 ?_
      refine G_sub [0, 3] rfl ?_
      exact eX0_look_232 C hr h
  · replace h := (if_neg hc11).symm.trans h
    refine G_aload_n C 0 rfl rfl dX0_look_75 ?_
    refine G_getF C fl_X0_64_0 rfl rfl fn_53_0 dX0_look_76 ?_
    refine G_iload C 4 rfl dX0_look_79 ?_
    obtain ⟨v16, hv16, h⟩ := bnd h
    refine G_callR (run_V C [.int x4] [] (dX1_factAt hv16) ml_X1_factAt mv_X1_factAt lk_X0_68 ⟨(Nat.le_of_ble_eq_true rfl), (Nat.le_of_ble_eq_true rfl)⟩ ⟨(Nat.le_of_ble_eq_true rfl), (Nat.le_of_ble_eq_true rfl)⟩ vq_1 rfl ko_33 rfl (Nat.le_of_ble_eq_true rfl) dX0_look_81) ?_
    refine G_astore (L' := [(5, .ref v16), (0, .ref 53), (1, .ref x1), (2, .int x2), (3, .int x3), (4, .int x4)]) C (Nat.le_of_ble_eq_true rfl) rfl dX0_look_84 ?_
    refine G_aload C 0 rfl dX0_look_86 ?_
    refine G_aload_n C 2 rfl rfl dX0_look_88 ?_
    obtain ⟨hc17, h⟩ := ifn h
    refine G_getI C fl_X0_138_3 (Or.inl rfl) (KO.dy hc17) dX0_look_89 ?_
    obtain ⟨hc19, h⟩ := ifn h
    obtain ⟨v18, hv18, h⟩ := bnd h
    refine G_callI (run_V C [.int (sI σ x1 3)] [] (dX3_isHandOf hc19 hv18) ml_X3_isHandOf mv_X3_isHandOf lk_X0_148 ⟨(Nat.le_of_ble_eq_true rfl), (Nat.le_of_ble_eq_true rfl)⟩ ⟨(Nat.le_of_ble_eq_true rfl), (Nat.le_of_ble_eq_true rfl)⟩ vq_3 rfl (KO.dy hc19) rfl (Nat.le_of_ble_eq_true rfl) dX0_look_92) ?_
    refine G_if_eq (tgt := 209) C rfl dX0_look_95 (fun hc20 => ?_) (fun hc20 => ?_)
    · replace h := (if_pos hc20).symm.trans h
      refine G_iinc (v := 1) (L' := [(4, .int (x4 + (1 : Int32))), (5, .ref v16), (0, .ref 53), (1, .ref x1), (2, .int x2), (3, .int x3)]) C 5 rfl rfl (Nat.le_of_ble_eq_true rfl) rfl dX0_look_209 ?_
      refine G_goto (tgt := 63) C rfl dX0_look_212 ?_
      refine G_sub [2, 3, 4, 5, 0] rfl ?_
      exact hf63 _ _ _ _ _ h
    · replace h := (if_neg hc20).symm.trans h
      refine G_aload C 0 rfl dX0_look_98 ?_
      refine G_getI C fl_X0_106_3 (Or.inl rfl) (KO.dy hc19) dX0_look_100 ?_
      refine G_aload_n C 2 rfl rfl dX0_look_103 ?_
      refine G_getI C fl_X0_106_3 (Or.inl rfl) (KO.dy hc17) dX0_look_104 ?_
      refine G_icmp_ge (tgt := 209) C rfl dX0_look_107 (fun hc21 => ?_) (fun hc21 => ?_)
      · replace h := (if_pos hc21).symm.trans h
        refine G_iinc (v := 1) (L' := [(4, .int (x4 + (1 : Int32))), (5, .ref v16), (0, .ref 53), (1, .ref x1), (2, .int x2), (3, .int x3)]) C 5 rfl rfl (Nat.le_of_ble_eq_true rfl) rfl dX0_look_209 ?_
        refine G_goto (tgt := 63) C rfl dX0_look_212 ?_
        refine G_sub [2, 3, 4, 5, 0] rfl ?_
        exact hf63 _ _ _ _ _ h
      · replace h := (if_neg hc21).symm.trans h
        refine G_aload C 0 rfl dX0_look_110 ?_
        refine G_aload_n C 1 rfl rfl dX0_look_112 ?_
        refine G_getI C fl_X0_9_0 (Or.inl rfl) ko_53 dX0_look_113 ?_
        obtain ⟨v22, hv22, h⟩ := bnd h
        refine G_callI (run_U C [.int (sI σ 53 1)] [] (dX9_isKnownOn3 hc19 hv22) wu_X0_95 ⟨(Nat.le_of_ble_eq_true rfl), (Nat.le_of_ble_eq_true rfl)⟩ ⟨(Nat.le_of_ble_eq_true rfl), (Nat.le_of_ble_eq_true rfl)⟩ vq_3 (KO.dy hc19) rfl (Nat.le_of_ble_eq_true rfl) dX0_look_116) ?_
        refine G_if_ne (tgt := 125) C rfl dX0_look_119 (fun hc23 => ?_) (fun hc23 => ?_)
        · replace h := (if_neg hc23).symm.trans h
          refine G_aload C 0 rfl dX0_look_125 ?_
          refine G_getI C fl_X0_90_3 (Or.inl rfl) (KO.dy hc19) dX0_look_127 ?_
          refine G_iconst C (v := 2) rfl dX0_look_130 ?_
          refine G_icmp_ne (tgt := 160) C rfl dX0_look_131 (fun hc24 => ?_) (fun hc24 => ?_)
          · replace h := (if_neg hc24).symm.trans h
            refine G_sub [1, 2, 3, 4, 5, 0] rfl ?_
            exact eX0_look_160 C hr hf63 h
          · replace h := (if_pos hc24).symm.trans h
            refine G_aload C 0 rfl dX0_look_134 ?_
            refine G_getI C fl_X0_106_3 (Or.inl rfl) (KO.dy hc19) dX0_look_136 ?_
            refine G_aload_n C 2 rfl rfl dX0_look_139 ?_
            refine G_getI C fl_X0_106_3 (Or.inl rfl) (KO.dy hc17) dX0_look_140 ?_
            refine G_sipush C (v := 365) rfl dX0_look_143 ?_
            refine G_isub C dX0_look_146 ?_
            refine G_icmp_lt (tgt := 160) C rfl dX0_look_147 (fun hc32 => ?_) (fun hc32 => ?_)
            · replace h := (if_pos hc32).symm.trans h
              refine G_sub [1, 2, 3, 4, 5, 0] rfl ?_
              exact eX0_look_160 C hr hf63 h
            · replace h := (if_neg hc32).symm.trans h
              refine G_aload_n C 1 rfl rfl dX0_look_150 ?_
              refine G_dup C rfl dX0_look_151 ?_
              refine G_getI C fl_X0_33_0 (Or.inl rfl) ko_53 dX0_look_152 ?_
              refine G_iconst C (v := 1) rfl dX0_look_155 ?_
              refine G_iadd C dX0_look_156 ?_
              obtain ⟨σ33, hs33, h⟩ := stp_elim h
              refine G_putI C fl_X0_33_0 fp_X0_0_9 (Or.inl rfl) (Or.inl rfl) ko_53 dX0_look_157 ?_
              rw [← hs33]
              have hc34 : sK σ33 x1 = 4 := by rw [hs33]; exact hc17
              have hc35 : sK σ33 v16 = 4 := by rw [hs33]; exact hc19
              refine G_sub [1, 2, 3, 4, 5, 0] rfl ?_
              exact eX0_look_160 C hr hf63 h
        · replace h := (if_pos hc23).symm.trans h
          refine G_goto (tgt := 209) C rfl dX0_look_122 ?_
          refine G_iinc (v := 1) (L' := [(4, .int (x4 + (1 : Int32))), (5, .ref v16), (0, .ref 53), (1, .ref x1), (2, .int x2), (3, .int x3)]) C 5 rfl rfl (Nat.le_of_ble_eq_true rfl) rfl dX0_look_209 ?_
          refine G_goto (tgt := 63) C rfl dX0_look_212 ?_
          refine G_sub [2, 3, 4, 5, 0] rfl ?_
          exact hf63 _ _ _ _ _ h
set_option maxRecDepth 100000 in
set_option maxHeartbeats 4000000 in
theorem eX0_look_63 (C : Cx E p s m args meth c cX0_look 6 RX0) (hr : meth.sig.returnType = none) {σ0 : Sto} {r2 : Sto} {σ : Sto} {n : Nat} {x1 : Nat} {x2 : Int32} {x3 : Int32} {x4 : Int32} (h : mX0_look_63 n x1 x2 x3 x4 σ = some r2) : G p l e (rmd 4 0 0) s m args below meth c E true (sZ σ0) ad0 (MQ below (QV E true σ0 r2 ad0) args s 0 0 (AE E)) 6 0 0 σ 63 [(0, .ref 53), (1, .ref x1), (2, .int x2), (3, .int x3), (4, .int x4)] [] := by
  induction n generalizing x1 x2 x3 x4 σ with
  | zero => exact nomatch (show (none : Option Sto) = some r2 from h)
  | succ n ih => exact eX0_look_63B C hr (fun z0 z1 z2 z3 σ9 h9 => ih h9) h
set_option maxRecDepth 100000 in
set_option maxHeartbeats 4000000 in
theorem dX0_look {σ : Sto} {p0 : Nat} {r2 : Sto} (h : mX0_look p0 σ = some r2) : MM l yX0_look cX0_look 6 none 4 0 0 E true σ [.ref 53, .ref p0] (QV E true σ r2) := by
  unfold mX0_look at h
  refine MM_of (by decide) (Nat.le_of_ble_eq_true rfl) rfl (fun p e s m args below meth c ad0 C hr hn => ?_)
  refine G_aload_n C 0 rfl rfl dX0_look_0 ?_
  refine G_aload_n C 1 rfl rfl dX0_look_1 ?_
  obtain ⟨σ1, hs1, h⟩ := stp_elim h
  refine G_putR C fl_X0_74_0 fp_X0_0_5 (Or.inl rfl) rfl (fun _ => rfl) ko_53 dX0_look_2 ?_
  rw [← hs1]
  refine G_aload_n C 0 rfl rfl dX0_look_5 ?_
  refine G_aload_n C 0 rfl rfl dX0_look_6 ?_
  refine G_getF C fl_X0_64_0 rfl rfl fn_53_0 dX0_look_7 ?_
  refine G_aload_n C 1 rfl rfl dX0_look_10 ?_
  obtain ⟨hc2, h⟩ := ifn h
  refine G_getI C fl_X0_138_3 (Or.inl rfl) (KO.dy hc2) dX0_look_11 ?_
  obtain ⟨v3, hv3, h⟩ := bnd h
  refine G_callR (run_V C [.int (sI σ1 p0 3)] [.ref 53] (dX1_workAt hv3) ml_X1_workAt mv_X1_workAt lk_X0_78 ⟨(Nat.le_of_ble_eq_true rfl), (Nat.le_of_ble_eq_true rfl)⟩ ⟨(Nat.le_of_ble_eq_true rfl), (Nat.le_of_ble_eq_true rfl)⟩ vq_1 rfl ko_33 rfl (Nat.le_of_ble_eq_true rfl) dX0_look_14) ?_
  obtain ⟨σ4, hs4, h⟩ := stp_elim h
  refine G_putR C fl_X0_82_0 fp_X0_0_6 (Or.inl rfl) rfl (fun _ => rfl) ko_53 dX0_look_17 ?_
  rw [← hs4]
  have hc5 : sK σ4 p0 = 4 := by rw [hs4]; exact hc2
  refine G_aload_n C 0 rfl rfl dX0_look_20 ?_
  refine G_aload_n C 1 rfl rfl dX0_look_21 ?_
  refine G_getI C fl_X0_141_3 (Or.inl rfl) (KO.dy hc5) dX0_look_22 ?_
  refine G_i2l C dX0_look_25 ?_
  refine G_aload_n C 0 rfl rfl dX0_look_26 ?_
  refine G_getF C fl_X0_64_0 rfl rfl fn_53_0 dX0_look_27 ?_
  refine G_aload_n C 1 rfl rfl dX0_look_30 ?_
  refine G_getI C fl_X0_116_3 (Or.inl rfl) (KO.dy hc5) dX0_look_31 ?_
  refine G_aload_n C 1 rfl rfl dX0_look_34 ?_
  refine G_getI C fl_X0_106_3 (Or.inl rfl) (KO.dy hc5) dX0_look_35 ?_
  obtain ⟨v6, hv6, h⟩ := bnd h
  refine G_callI (run_V C [.int (sI σ4 p0 10), .int (sI σ4 p0 6)] [.long ((sI σ4 p0 11)).toInt64, .ref 53] (dX1_rateFor hv6) ml_X1_rateFor mv_X1_rateFor lk_X0_142 ⟨(Nat.le_of_ble_eq_true rfl), (Nat.le_of_ble_eq_true rfl)⟩ ⟨(Nat.le_of_ble_eq_true rfl), (Nat.le_of_ble_eq_true rfl)⟩ vq_1 rfl ko_33 rfl (Nat.le_of_ble_eq_true rfl) dX0_look_38) ?_
  refine G_i2l C dX0_look_41 ?_
  refine G_lmul C dX0_look_42 ?_
  refine G_ldc2 C kc_X0_146 dX0_look_43 ?_
  refine G_ldiv C (by decide) dX0_look_46 ?_
  refine G_l2i C dX0_look_47 ?_
  obtain ⟨σ7, hs7, h⟩ := stp_elim h
  refine G_putI C fl_X0_27_0 fp_X0_0_7 (Or.inl rfl) (Or.inl rfl) ko_53 dX0_look_48 ?_
  rw [← hs7]
  have hc8 : sK σ7 p0 = 4 := by rw [hs7]; exact hc5
  refine G_aload_n C 0 rfl rfl dX0_look_51 ?_
  refine G_iconst C (v := 0) rfl dX0_look_52 ?_
  obtain ⟨σ9, hs9, h⟩ := stp_elim h
  refine G_putI C fl_X0_33_0 fp_X0_0_9 (Or.inl rfl) (Or.inl rfl) ko_53 dX0_look_53 ?_
  rw [← hs9]
  have hc10 : sK σ9 p0 = 4 := by rw [hs9]; exact hc8
  refine G_iconst C (v := -1) rfl dX0_look_56 ?_
  refine G_istore_n (L' := [(2, .int (-1 : Int32)), (0, .ref 53), (1, .ref p0)]) C rfl (Nat.le_of_ble_eq_true rfl) rfl dX0_look_57 ?_
  refine G_iconst C (v := 0) rfl dX0_look_58 ?_
  refine G_istore_n (L' := [(3, .int (0 : Int32)), (2, .int (-1 : Int32)), (0, .ref 53), (1, .ref p0)]) C rfl (Nat.le_of_ble_eq_true rfl) rfl dX0_look_59 ?_
  refine G_iconst C (v := 0) rfl dX0_look_60 ?_
  refine G_istore (L' := [(4, .int (0 : Int32)), (3, .int (0 : Int32)), (2, .int (-1 : Int32)), (0, .ref 53), (1, .ref p0)]) C (Nat.le_of_ble_eq_true rfl) rfl dX0_look_61 ?_
  refine G_sub [3, 4, 2, 1, 0] rfl ?_
  exact eX0_look_63 C hr h
set_option maxRecDepth 100000 in
set_option maxHeartbeats 4000000 in
theorem dX0_statusOf {σ : Sto} {p0 : Int32} {p1 : Nat} {r : Int32} (h : mX0_statusOf p0 p1 σ = some r) : MM l yX0_statusOf cX0_statusOf 4 (some .int) 2 0 0 E true σ [.ref 53, .int p0, .ref p1] (QI E true σ r σ) := by
  unfold mX0_statusOf at h
  refine MM_of (by decide) (Nat.le_of_ble_eq_true rfl) rfl (fun p e s m args below meth c ad0 C hr hn => ?_)
  refine G_sipush C (v := 365) rfl dX0_statusOf_0 ?_
  refine G_aload_n C 2 rfl rfl dX0_statusOf_3 ?_
  obtain ⟨hc1, h⟩ := ifn h
  refine G_getI C fl_X0_204_4 (Or.inl rfl) (KO.dy hc1) dX0_statusOf_4 ?_
  refine G_imul C dX0_statusOf_7 ?_
  refine G_istore_n (L' := [(3, .int ((365 : Int32) * (sI σ p1 10))), (0, .ref 53), (1, .int p0), (2, .ref p1)]) C rfl (Nat.le_of_ble_eq_true rfl) rfl dX0_statusOf_8 ?_
  refine G_aload_n C 3 rfl rfl dX0_statusOf_9 ?_
  refine G_aload_n C 1 rfl rfl dX0_statusOf_10 ?_
  refine G_getF C fl_X0_64_0 rfl rfl fn_53_0 dX0_statusOf_11 ?_
  refine G_iload_n C 2 rfl rfl dX0_statusOf_14 ?_
  obtain ⟨v2, hv2, h⟩ := bnd h
  refine G_callR (run_V C [.int p0] [.ref p1] (dX1_personAt hv2) ml_X1_personAt mv_X1_personAt lk_X0_164 ⟨(Nat.le_of_ble_eq_true rfl), (Nat.le_of_ble_eq_true rfl)⟩ ⟨(Nat.le_of_ble_eq_true rfl), (Nat.le_of_ble_eq_true rfl)⟩ vq_1 rfl ko_33 rfl (Nat.le_of_ble_eq_true rfl) dX0_statusOf_15) ?_
  obtain ⟨hc3, h⟩ := ifn h
  refine G_getI C fl_X0_207_5 (Or.inl rfl) (KO.dy hc3) dX0_statusOf_18 ?_
  obtain ⟨v4, hv4, h⟩ := bnd h
  refine G_callI (run_V C [.int (sI σ v2 0)] [] (dX4_isFor hc1 hv4) ml_X4_isFor mv_X4_isFor lk_X0_208 ⟨(Nat.le_of_ble_eq_true rfl), (Nat.le_of_ble_eq_true rfl)⟩ ⟨(Nat.le_of_ble_eq_true rfl), (Nat.le_of_ble_eq_true rfl)⟩ vq_4 rfl (KO.dy hc1) rfl (Nat.le_of_ble_eq_true rfl) dX0_statusOf_21) ?_
  refine G_if_eq (tgt := 45) C rfl dX0_statusOf_24 (fun hc5 => ?_) (fun hc5 => ?_)
  · replace h := (if_pos hc5).symm.trans h
    refine G_iconst C (v := 0) rfl dX0_statusOf_45 ?_
    obtain rfl := Option.some.inj h
    exact G_iret C hr (Nat.le_of_ble_eq_true rfl) (Nat.le_of_ble_eq_true rfl) dX0_statusOf_46
  · replace h := (if_neg hc5).symm.trans h
    refine G_aload_n C 1 rfl rfl dX0_statusOf_27 ?_
    refine G_getR C fl_X0_74_0 rfl ko_53 dX0_statusOf_28 ?_
    obtain ⟨hc6, h⟩ := ifn h
    refine G_getI C fl_X0_106_3 (Or.inl rfl) (KO.dy hc6) dX0_statusOf_31 ?_
    refine G_aload_n C 1 rfl rfl dX0_statusOf_34 ?_
    refine G_getF C fl_X0_19_0 rfl rfl fn_53_3 dX0_statusOf_35 ?_
    refine G_iload_n C 2 rfl rfl dX0_statusOf_38 ?_
    obtain ⟨hc7, h⟩ := ifn h
    refine G_iaload C ks_55 hc7 dX0_statusOf_39 ?_
    refine G_iload_n C 0 rfl rfl dX0_statusOf_40 ?_
    refine G_iadd C dX0_statusOf_41 ?_
    refine G_icmp_lt (tgt := 47) C rfl dX0_statusOf_42 (fun hc8 => ?_) (fun hc8 => ?_)
    · replace h := (if_pos hc8).symm.trans h
      refine G_aload_n C 1 rfl rfl dX0_statusOf_47 ?_
      refine G_getR C fl_X0_74_0 rfl ko_53 dX0_statusOf_48 ?_
      refine G_getI C fl_X0_106_3 (Or.inl rfl) (KO.dy hc6) dX0_statusOf_51 ?_
      refine G_aload_n C 1 rfl rfl dX0_statusOf_54 ?_
      refine G_getF C fl_X0_15_0 rfl rfl fn_53_2 dX0_statusOf_55 ?_
      refine G_iload_n C 2 rfl rfl dX0_statusOf_58 ?_
      refine G_iaload C ks_54 hc7 dX0_statusOf_59 ?_
      refine G_iload_n C 0 rfl rfl dX0_statusOf_60 ?_
      refine G_iadd C dX0_statusOf_61 ?_
      refine G_icmp_lt (tgt := 69) C rfl dX0_statusOf_62 (fun hc9 => ?_) (fun hc9 => ?_)
      · replace h := (if_pos hc9).symm.trans h
        refine G_iconst C (v := 1) rfl dX0_statusOf_69 ?_
        obtain rfl := Option.some.inj h
        exact G_iret C hr (Nat.le_of_ble_eq_true rfl) (Nat.le_of_ble_eq_true rfl) dX0_statusOf_70
      · replace h := (if_neg hc9).symm.trans h
        refine G_iconst C (v := 2) rfl dX0_statusOf_65 ?_
        refine G_goto (tgt := 70) C rfl dX0_statusOf_66 ?_
        obtain rfl := Option.some.inj h
        exact G_iret C hr (Nat.le_of_ble_eq_true rfl) (Nat.le_of_ble_eq_true rfl) dX0_statusOf_70
    · replace h := (if_neg hc8).symm.trans h
      refine G_iconst C (v := 0) rfl dX0_statusOf_45 ?_
      obtain rfl := Option.some.inj h
      exact G_iret C hr (Nat.le_of_ble_eq_true rfl) (Nat.le_of_ble_eq_true rfl) dX0_statusOf_46
set_option maxRecDepth 100000 in
set_option maxHeartbeats 4000000 in
theorem eX0_apply_127 (C : Cx E p s m args meth c cX0_apply 4 RX0) (hr : meth.sig.returnType = none) {σ0 : Sto} {r2 : Sto} {σ : Sto} {f86 : Nat → Int32 → Sto → Option Sto} {x1 : Nat} {x2 : Int32} {x3 : Int32} {y1 : Int32} {y2 : Int32} (hf86 : ∀ (x1 : Nat) (x2 : Int32) (σ' : Sto), f86 x1 x2 σ' = some r2 → G p l e (rmd 5 0 0) s m args below meth c E true (sZ σ0) ad0 (MQ below (QV E true σ0 r2 ad0) args s 0 0 (AE E)) 4 0 0 σ' 86 [(0, .ref 53), (1, .ref x1), (2, .int x2)] []) (h : mX0_apply_127 f86 x1 x2 x3 y1 y2 σ = some r2) : G p l e (rmd 5 0 0) s m args below meth c E true (sZ σ0) ad0 (MQ below (QV E true σ0 r2 ad0) args s 0 0 (AE E)) 4 0 0 σ 127 [(0, .ref 53), (1, .ref x1), (2, .int x2), (3, .int x3)] [.int y2, .int y1, .ref 58] := by
  unfold mX0_apply_127 at h
  obtain ⟨hc11, h⟩ := ifn h
  obtain ⟨σ12, hs12, h⟩ := stp_elim h
  refine G_iastore C ks_58 hc11 dX0_apply_127 ?_
  rw [← hs12]
  refine G_aload_n C 0 rfl rfl dX0_apply_128 ?_
  refine G_getF C fl_X0_46_0 rfl rfl fn_53_13 dX0_apply_129 ?_
  refine G_iload_n C 2 rfl rfl dX0_apply_132 ?_
  refine G_iconst C (v := 0) rfl dX0_apply_133 ?_
  obtain ⟨hc13, h⟩ := ifn h
  obtain ⟨σ14, hs14, h⟩ := stp_elim h
  refine G_iastore C ks_57 hc13 dX0_apply_134 ?_
  rw [← hs14]
  refine G_aload_n C 0 rfl rfl dX0_apply_135 ?_
  refine G_getF C fl_X0_49_0 rfl rfl fn_53_14 dX0_apply_136 ?_
  refine G_iload_n C 2 rfl rfl dX0_apply_139 ?_
  refine G_iaload C ks_58 hc13 dX0_apply_140 ?_
  refine G_if_eq (tgt := 178) C rfl dX0_apply_141 (fun hc15 => ?_) (fun hc15 => ?_)
  · replace h := (if_pos hc15).symm.trans h
    refine G_iinc (v := 1) (L' := [(2, .int (x2 + (1 : Int32))), (0, .ref 53), (1, .ref x1), (3, .int x3)]) C 2 rfl rfl (Nat.le_of_ble_eq_true rfl) rfl dX0_apply_178 ?_
    refine G_goto (tgt := 86) C rfl dX0_apply_181 ?_
    refine G_sub [1, 2, 0] rfl ?_
    exact hf86 _ _ _ h
  · replace h := (if_neg hc15).symm.trans h
    refine G_aload_n C 0 rfl rfl dX0_apply_144 ?_
    refine G_getR C fl_X0_82_0 rfl ko_53 dX0_apply_145 ?_
    obtain ⟨hc16, h⟩ := ifn h
    refine G_getI C fl_X0_201_9 (Or.inl rfl) (KO.dy hc16) dX0_apply_148 ?_
    refine G_if_le (tgt := 178) C rfl dX0_apply_151 (fun hc17 => ?_) (fun hc17 => ?_)
    · replace h := (if_pos hc17).symm.trans h
      refine G_iinc (v := 1) (L' := [(2, .int (x2 + (1 : Int32))), (0, .ref 53), (1, .ref x1), (3, .int x3)]) C 2 rfl rfl (Nat.le_of_ble_eq_true rfl) rfl dX0_apply_178 ?_
      refine G_goto (tgt := 86) C rfl dX0_apply_181 ?_
      refine G_sub [1, 2, 0] rfl ?_
      exact hf86 _ _ _ h
    · replace h := (if_neg hc17).symm.trans h
      refine G_aload_n C 0 rfl rfl dX0_apply_154 ?_
      refine G_getF C fl_X0_46_0 rfl rfl fn_53_13 dX0_apply_155 ?_
      refine G_iload_n C 2 rfl rfl dX0_apply_158 ?_
      refine G_aload_n C 0 rfl rfl dX0_apply_159 ?_
      refine G_getI C fl_X0_40_0 (Or.inl rfl) ko_53 dX0_apply_160 ?_
      refine G_i2l C dX0_apply_163 ?_
      refine G_iload_n C 3 rfl rfl dX0_apply_164 ?_
      refine G_i2l C dX0_apply_165 ?_
      refine G_lmul C dX0_apply_166 ?_
      refine G_aload_n C 0 rfl rfl dX0_apply_167 ?_
      refine G_getR C fl_X0_82_0 rfl ko_53 dX0_apply_168 ?_
      refine G_getI C fl_X0_201_9 (Or.inl rfl) (KO.dy hc16) dX0_apply_171 ?_
      refine G_i2l C dX0_apply_174 ?_
      obtain ⟨hc18, h⟩ := ifn h
      refine G_ldiv C hc18 dX0_apply_175 ?_
      refine G_l2i C dX0_apply_176 ?_
      obtain ⟨σ19, hs19, h⟩ := stp_elim h
      refine G_iastore C ks_57 hc13 dX0_apply_177 ?_
      rw [← hs19]
      have hc20 : sK σ19 (sR σ14 53 6) = 10 := by rw [hs19]; exact hc16
      refine G_iinc (v := 1) (L' := [(2, .int (x2 + (1 : Int32))), (0, .ref 53), (1, .ref x1), (3, .int x3)]) C 2 rfl rfl (Nat.le_of_ble_eq_true rfl) rfl dX0_apply_178 ?_
      refine G_goto (tgt := 86) C rfl dX0_apply_181 ?_
      refine G_sub [1, 2, 0] rfl ?_
      exact hf86 _ _ _ h
set_option maxRecDepth 100000 in
set_option maxHeartbeats 4000000 in
theorem eX0_apply_126 (C : Cx E p s m args meth c cX0_apply 4 RX0) (hr : meth.sig.returnType = none) {σ0 : Sto} {r2 : Sto} {σ : Sto} {f86 : Nat → Int32 → Sto → Option Sto} {x1 : Nat} {x2 : Int32} {x3 : Int32} {y1 : Int32} (hf86 : ∀ (x1 : Nat) (x2 : Int32) (σ' : Sto), f86 x1 x2 σ' = some r2 → G p l e (rmd 5 0 0) s m args below meth c E true (sZ σ0) ad0 (MQ below (QV E true σ0 r2 ad0) args s 0 0 (AE E)) 4 0 0 σ' 86 [(0, .ref 53), (1, .ref x1), (2, .int x2)] []) (h : mX0_apply_126 f86 x1 x2 x3 y1 σ = some r2) : G p l e (rmd 5 0 0) s m args below meth c E true (sZ σ0) ad0 (MQ below (QV E true σ0 r2 ad0) args s 0 0 (AE E)) 4 0 0 σ 126 [(0, .ref 53), (1, .ref x1), (2, .int x2), (3, .int x3)] [.int y1, .ref 58] := by
  unfold mX0_apply_126 at h
  refine G_iconst C (v := 0) rfl dX0_apply_126 ?_
  exact eX0_apply_127 C hr hf86 h
set_option maxRecDepth 100000 in
set_option maxHeartbeats 4000000 in
theorem eX0_apply_86B (C : Cx E p s m args meth c cX0_apply 4 RX0) (hr : meth.sig.returnType = none) {σ0 : Sto} {r2 : Sto} {σ : Sto} {f86 : Nat → Int32 → Sto → Option Sto} {x1 : Nat} {x2 : Int32} (hf86 : ∀ (x1 : Nat) (x2 : Int32) (σ' : Sto), f86 x1 x2 σ' = some r2 → G p l e (rmd 5 0 0) s m args below meth c E true (sZ σ0) ad0 (MQ below (QV E true σ0 r2 ad0) args s 0 0 (AE E)) 4 0 0 σ' 86 [(0, .ref 53), (1, .ref x1), (2, .int x2)] []) (h : mX0_apply_86B f86 x1 x2 σ = some r2) : G p l e (rmd 5 0 0) s m args below meth c E true (sZ σ0) ad0 (MQ below (QV E true σ0 r2 ad0) args s 0 0 (AE E)) 4 0 0 σ 86 [(0, .ref 53), (1, .ref x1), (2, .int x2)] [] := by
  unfold mX0_apply_86B at h
  refine G_iload_n C 2 rfl rfl dX0_apply_86 ?_
  refine G_bipush C (v := 30) rfl dX0_apply_87 ?_
  refine G_icmp_ge (tgt := 184) C rfl dX0_apply_89 (fun hc7 => ?_) (fun hc7 => ?_)
  · replace h := (if_pos hc7).symm.trans h
    obtain rfl := Option.some.inj h
    exact G_vret C hr (Nat.le_of_ble_eq_true rfl) (Nat.le_of_ble_eq_true rfl) dX0_apply_184
  · replace h := (if_neg hc7).symm.trans h
    refine G_aload_n C 0 rfl rfl dX0_apply_92 ?_
    refine G_getR C fl_X0_82_0 rfl ko_53 dX0_apply_93 ?_
    refine G_iload_n C 2 rfl rfl dX0_apply_96 ?_
    obtain ⟨hc9, h⟩ := ifn h
    obtain ⟨v8, hv8, h⟩ := bnd h
    refine G_callI (run_V C [.int x2] [] (dX10_weightOf hc9 hv8) ml_X10_weightOf mv_X10_weightOf lk_X0_194 ⟨(Nat.le_of_ble_eq_true rfl), (Nat.le_of_ble_eq_true rfl)⟩ ⟨(Nat.le_of_ble_eq_true rfl), (Nat.le_of_ble_eq_true rfl)⟩ vq_9 rfl (KO.dy hc9) rfl (Nat.le_of_ble_eq_true rfl) dX0_apply_97) ?_
    refine G_istore_n (L' := [(3, .int v8), (0, .ref 53), (1, .ref x1), (2, .int x2)]) C rfl (Nat.le_of_ble_eq_true rfl) rfl dX0_apply_100 ?_
    refine G_aload_n C 1 rfl rfl dX0_apply_101 ?_
    refine G_getF C fl_X0_49_0 rfl rfl fn_53_14 dX0_apply_102 ?_
    refine G_iload_n C 3 rfl rfl dX0_apply_105 ?_
    refine G_aload_n C 1 rfl rfl dX0_apply_106 ?_
    refine G_getI C fl_X0_36_0 (Or.inr rfl) ko_53 dX0_apply_107 ?_
    refine G_if_eq (tgt := 126) C rfl dX0_apply_110 (fun hc10 => ?_) (fun hc10 => ?_)
    · replace h := (if_pos hc10).symm.trans h
      refine G_sub [1, 2, 3, 0] rfl ?_
      exact eX0_apply_126 C hr hf86 h
    · replace h := (if_neg hc10).symm.trans h
      refine G_iload_n C 0 rfl rfl dX0_apply_113 ?_
      refine G_if_le (tgt := 126) C rfl dX0_apply_114 (fun hc21 => ?_) (fun hc21 => ?_)
      · replace h := (if_pos hc21).symm.trans h
        refine G_sub [1, 2, 3, 0] rfl ?_
        exact eX0_apply_126 C hr hf86 h
      · replace h := (if_neg hc21).symm.trans h
        refine G_aload_n C 1 rfl rfl dX0_apply_117 ?_
        refine G_iload_n C 3 rfl rfl dX0_apply_118 ?_
        refine G_aload_n C 2 rfl rfl dX0_apply_119 ?_
        obtain ⟨v22, hv22, h⟩ := bnd h
        refine G_callI (run_V C [.int x2, .ref x1] [.int x2, .ref 58] (dX0_statusOf hv22) ml_X0_statusOf mv_X0_statusOf lk_X0_197 ⟨(Nat.le_of_ble_eq_true rfl), (Nat.le_of_ble_eq_true rfl)⟩ ⟨(Nat.le_of_ble_eq_true rfl), (Nat.le_of_ble_eq_true rfl)⟩ vq_0 rfl ko_53 rfl (Nat.le_of_ble_eq_true rfl) dX0_apply_120) ?_
        refine G_goto (tgt := 127) C rfl dX0_apply_123 ?_
        refine G_sub [1, 2, 3, 0] rfl ?_
        exact eX0_apply_127 C hr hf86 h
set_option maxRecDepth 100000 in
set_option maxHeartbeats 4000000 in
theorem eX0_apply_86 (C : Cx E p s m args meth c cX0_apply 4 RX0) (hr : meth.sig.returnType = none) {σ0 : Sto} {r2 : Sto} {σ : Sto} {n : Nat} {x1 : Nat} {x2 : Int32} (h : mX0_apply_86 n x1 x2 σ = some r2) : G p l e (rmd 5 0 0) s m args below meth c E true (sZ σ0) ad0 (MQ below (QV E true σ0 r2 ad0) args s 0 0 (AE E)) 4 0 0 σ 86 [(0, .ref 53), (1, .ref x1), (2, .int x2)] [] := by
  induction n generalizing x1 x2 σ with
  | zero => exact nomatch (show (none : Option Sto) = some r2 from h)
  | succ n ih => exact eX0_apply_86B C hr (fun z0 z1 σ9 h9 => ih h9) h
set_option maxRecDepth 100000 in
set_option maxHeartbeats 4000000 in
theorem eX0_apply_81 (C : Cx E p s m args meth c cX0_apply 4 RX0) (hr : meth.sig.returnType = none) {σ0 : Sto} {r2 : Sto} {σ : Sto} {x1 : Nat} {y1 : Int32} (h : mX0_apply_81 x1 y1 σ = some r2) : G p l e (rmd 5 0 0) s m args below meth c E true (sZ σ0) ad0 (MQ below (QV E true σ0 r2 ad0) args s 0 0 (AE E)) 4 0 0 σ 81 [(0, .ref 53), (1, .ref x1)] [.int y1, .ref 53] := by
  unfold mX0_apply_81 at h
  obtain ⟨σ6, hs6, h⟩ := stp_elim h
  refine G_putI C fl_X0_40_0 fp_X0_0_11 (Or.inl rfl) (Or.inl rfl) ko_53 dX0_apply_81 ?_
  rw [← hs6]
  refine G_iconst C (v := 0) rfl dX0_apply_84 ?_
  refine G_istore_n (L' := [(2, .int (0 : Int32)), (0, .ref 53), (1, .ref x1)]) C rfl (Nat.le_of_ble_eq_true rfl) rfl dX0_apply_85 ?_
  refine G_sub [1, 2, 0] rfl ?_
  exact eX0_apply_86 C hr h
set_option maxRecDepth 100000 in
set_option maxHeartbeats 4000000 in
theorem eX0_apply_58 (C : Cx E p s m args meth c cX0_apply 4 RX0) (hr : meth.sig.returnType = none) {σ0 : Sto} {r2 : Sto} {σ : Sto} {x1 : Nat} {y1 : Int32} (h : mX0_apply_58 x1 y1 σ = some r2) : G p l e (rmd 5 0 0) s m args below meth c E true (sZ σ0) ad0 (MQ below (QV E true σ0 r2 ad0) args s 0 0 (AE E)) 4 0 0 σ 58 [(0, .ref 53), (1, .ref x1)] [.int y1, .ref 53] := by
  unfold mX0_apply_58 at h
  obtain ⟨hc3, h⟩ := ifn h
  obtain ⟨σ4, hs4, h⟩ := stp_elim h
  refine G_putI C fl_X0_36_0 fp_X0_0_10 (Or.inl rfl) (Or.inr ⟨rfl, hc3⟩) ko_53 dX0_apply_58 ?_
  rw [← hs4]
  refine G_aload_n C 0 rfl rfl dX0_apply_61 ?_
  refine G_aload_n C 0 rfl rfl dX0_apply_62 ?_
  refine G_getI C fl_X0_36_0 (Or.inr rfl) ko_53 dX0_apply_63 ?_
  refine G_if_eq (tgt := 80) C rfl dX0_apply_66 (fun hc5 => ?_) (fun hc5 => ?_)
  · replace h := (if_pos hc5).symm.trans h
    refine G_iconst C (v := 0) rfl dX0_apply_80 ?_
    exact eX0_apply_81 C hr h
  · replace h := (if_neg hc5).symm.trans h
    refine G_aload_n C 1 rfl rfl dX0_apply_69 ?_
    refine G_aload_n C 0 rfl rfl dX0_apply_70 ?_
    refine G_getI C fl_X0_27_0 (Or.inl rfl) ko_53 dX0_apply_71 ?_
    obtain ⟨hc24, h⟩ := ifn h
    obtain ⟨v23, hv23, h⟩ := bnd h
    refine G_callI (run_V C [.int (sI σ4 53 7)] [.ref 53] (dX4_partOf hc24 hv23) ml_X4_partOf mv_X4_partOf lk_X0_190 ⟨(Nat.le_of_ble_eq_true rfl), (Nat.le_of_ble_eq_true rfl)⟩ ⟨(Nat.le_of_ble_eq_true rfl), (Nat.le_of_ble_eq_true rfl)⟩ vq_4 rfl (KO.dy hc24) rfl (Nat.le_of_ble_eq_true rfl) dX0_apply_74) ?_
    refine G_goto (tgt := 81) C rfl dX0_apply_77 ?_
    exact eX0_apply_81 C hr h
set_option maxRecDepth 100000 in
set_option maxHeartbeats 4000000 in
theorem eX0_apply_57 (C : Cx E p s m args meth c cX0_apply 4 RX0) (hr : meth.sig.returnType = none) {σ0 : Sto} {r2 : Sto} {σ : Sto} {x1 : Nat} (h : mX0_apply_57 x1 σ = some r2) : G p l e (rmd 5 0 0) s m args below meth c E true (sZ σ0) ad0 (MQ below (QV E true σ0 r2 ad0) args s 0 0 (AE E)) 4 0 0 σ 57 [(0, .ref 53), (1, .ref x1)] [.ref 53] := by
  unfold mX0_apply_57 at h
  refine G_iconst C (v := 0) rfl dX0_apply_57 ?_
  exact eX0_apply_58 C hr h
set_option maxRecDepth 100000 in
set_option maxHeartbeats 4000000 in
theorem eX0_apply_47 (C : Cx E p s m args meth c cX0_apply 4 RX0) (hr : meth.sig.returnType = none) {σ0 : Sto} {r2 : Sto} {σ : Sto} {x1 : Nat} {y1 : Nat} {y3 : Int32} (h : mX0_apply_47 x1 y1 y3 σ = some r2) : G p l e (rmd 5 0 0) s m args below meth c E true (sZ σ0) ad0 (MQ below (QV E true σ0 r2 ad0) args s 0 0 (AE E)) 4 0 0 σ 47 [(0, .ref 53), (1, .ref x1)] [.int y3, .ref 56, .ref y1, .ref 53] := by
  unfold mX0_apply_47 at h
  obtain ⟨hc31, h⟩ := ifn h
  obtain ⟨v30, σ30, hv30, h⟩ := bd2_elim h
  refine G_callI (run_V C [.ref 56, .int y3] [.ref 53] (dX4_isDue hc31 hv30) ml_X4_isDue mv_X4_isDue lk_X0_186 ⟨(Nat.le_of_ble_eq_true rfl), (Nat.le_of_ble_eq_true rfl)⟩ ⟨(Nat.le_of_ble_eq_true rfl), (Nat.le_of_ble_eq_true rfl)⟩ vq_4 rfl (KO.dy hc31) rfl (Nat.le_of_ble_eq_true rfl) dX0_apply_47) ?_
  refine G_if_eq (tgt := 57) C rfl dX0_apply_50 (fun hc32 => ?_) (fun hc32 => ?_)
  · replace h := (if_pos hc32).symm.trans h
    exact eX0_apply_57 C hr h
  · replace h := (if_neg hc32).symm.trans h
    refine G_iconst C (v := 1) rfl dX0_apply_53 ?_
    refine G_goto (tgt := 58) C rfl dX0_apply_54 ?_
    exact eX0_apply_58 C hr h
set_option maxRecDepth 100000 in
set_option maxHeartbeats 4000000 in
theorem dX0_apply {σ : Sto} {p0 : Nat} {r2 : Sto} (h : mX0_apply p0 σ = some r2) : MM l yX0_apply cX0_apply 4 none 5 0 0 E true σ [.ref 53, .ref p0] (QV E true σ r2) := by
  unfold mX0_apply at h
  refine MM_of (by decide) (Nat.le_of_ble_eq_true rfl) rfl (fun p e s m args below meth c ad0 C hr hn => ?_)
  refine G_aload_n C 0 rfl rfl dX0_apply_0 ?_
  refine G_aload_n C 1 rfl rfl dX0_apply_1 ?_
  obtain ⟨hc1, h⟩ := ifn h
  refine G_getI C fl_X0_182_4 (Or.inl rfl) (KO.dy hc1) dX0_apply_2 ?_
  refine G_iconst C (v := -1) rfl dX0_apply_5 ?_
  refine G_icmp_eq (tgt := 57) C rfl dX0_apply_6 (fun hc2 => ?_) (fun hc2 => ?_)
  · replace h := (if_pos hc2).symm.trans h
    exact eX0_apply_57 C hr h
  · replace h := (if_neg hc2).symm.trans h
    refine G_aload_n C 0 rfl rfl dX0_apply_9 ?_
    refine G_getI C fl_X0_27_0 (Or.inl rfl) ko_53 dX0_apply_10 ?_
    refine G_aload_n C 1 rfl rfl dX0_apply_13 ?_
    refine G_getI C fl_X0_183_4 (Or.inl rfl) (KO.dy hc1) dX0_apply_14 ?_
    refine G_icmp_lt (tgt := 57) C rfl dX0_apply_17 (fun hc25 => ?_) (fun hc25 => ?_)
    · replace h := (if_pos hc25).symm.trans h
      exact eX0_apply_57 C hr h
    · replace h := (if_neg hc25).symm.trans h
      refine G_aload_n C 1 rfl rfl dX0_apply_20 ?_
      refine G_aload_n C 0 rfl rfl dX0_apply_21 ?_
      refine G_getF C fl_X0_24_0 rfl rfl fn_53_4 dX0_apply_22 ?_
      refine G_aload_n C 0 rfl rfl dX0_apply_25 ?_
      refine G_getR C fl_X0_82_0 rfl ko_53 dX0_apply_26 ?_
      refine G_aload_n C 0 rfl rfl dX0_apply_29 ?_
      refine G_getR C fl_X0_74_0 rfl ko_53 dX0_apply_30 ?_
      obtain ⟨hc26, h⟩ := ifn h
      refine G_getI C fl_X0_99_3 (Or.inl rfl) (KO.dy hc26) dX0_apply_33 ?_
      obtain ⟨hc28, h⟩ := ifn h
      obtain ⟨v27, hv27, h⟩ := bnd h
      refine G_callI (run_V C [.int (sI σ (sR σ 53 5) 4)] [.ref 56, .ref p0, .ref 53] (dX10_isBy hc28 hv27) ml_X10_isBy mv_X10_isBy lk_X0_154 ⟨(Nat.le_of_ble_eq_true rfl), (Nat.le_of_ble_eq_true rfl)⟩ ⟨(Nat.le_of_ble_eq_true rfl), (Nat.le_of_ble_eq_true rfl)⟩ vq_9 rfl (KO.dy hc28) rfl (Nat.le_of_ble_eq_true rfl) dX0_apply_36) ?_
      refine G_if_ne (tgt := 46) C rfl dX0_apply_39 (fun hc29 => ?_) (fun hc29 => ?_)
      · replace h := (if_neg hc29).symm.trans h
        refine G_iconst C (v := 0) rfl dX0_apply_46 ?_
        exact eX0_apply_47 C hr h
      · replace h := (if_pos hc29).symm.trans h
        refine G_iconst C (v := 1) rfl dX0_apply_42 ?_
        refine G_goto (tgt := 47) C rfl dX0_apply_43 ?_
        exact eX0_apply_47 C hr h
set_option maxRecDepth 100000 in
set_option maxHeartbeats 4000000 in
theorem dX0_isDead {σ : Sto} {p0 : Int32} {r : Int32} (h : mX0_isDead p0 σ = some r) : MM l yX0_isDead cX0_isDead 2 (some .boolean) 2 0 0 E true σ [.ref 53, .int p0] (QI E true σ r σ) := by
  unfold mX0_isDead at h
  refine MM_of (by decide) (Nat.le_of_ble_eq_true rfl) rfl (fun p e s m args below meth c ad0 C hr hn => ?_)
  refine G_iload_n C 1 rfl rfl dX0_isDead_0 ?_
  refine G_iconst C (v := 0) rfl dX0_isDead_1 ?_
  refine G_bipush C (v := 29) rfl dX0_isDead_2 ?_
  refine G_callI (run_SN C [.int p0, .int (0 : Int32), .int (29 : Int32)] [] (dX11_isWithin rfl) ml_X11_isWithin ms_X11_isWithin (by decide) ⟨(Nat.le_of_ble_eq_true rfl), (Nat.le_of_ble_eq_true rfl)⟩ ⟨(Nat.le_of_ble_eq_true rfl), (Nat.le_of_ble_eq_true rfl)⟩ rfl (Nat.le_of_ble_eq_true rfl) dX0_isDead_4) ?_
  refine G_if_eq (tgt := 30) C rfl dX0_isDead_7 (fun hc2 => ?_) (fun hc2 => ?_)
  · replace h := (if_pos hc2).symm.trans h
    refine G_iconst C (v := 0) rfl dX0_isDead_30 ?_
    obtain rfl := Option.some.inj h
    exact G_zret C (by decide) hr (Nat.le_of_ble_eq_true rfl) (Nat.le_of_ble_eq_true rfl) dX0_isDead_31
  · replace h := (if_neg hc2).symm.trans h
    refine G_aload_n C 0 rfl rfl dX0_isDead_10 ?_
    refine G_getF C fl_X0_19_0 rfl rfl fn_53_3 dX0_isDead_11 ?_
    refine G_iload_n C 1 rfl rfl dX0_isDead_14 ?_
    obtain ⟨hc3, h⟩ := ifn h
    refine G_iaload C ks_55 hc3 dX0_isDead_15 ?_
    refine G_aload_n C 0 rfl rfl dX0_isDead_16 ?_
    refine G_getR C fl_X0_74_0 rfl ko_53 dX0_isDead_17 ?_
    obtain ⟨hc4, h⟩ := ifn h
    refine G_getI C fl_X0_106_3 (Or.inl rfl) (KO.dy hc4) dX0_isDead_20 ?_
    refine G_icmp_gt (tgt := 30) C rfl dX0_isDead_23 (fun hc5 => ?_) (fun hc5 => ?_)
    · replace h := (if_pos hc5).symm.trans h
      refine G_iconst C (v := 0) rfl dX0_isDead_30 ?_
      obtain rfl := Option.some.inj h
      exact G_zret C (by decide) hr (Nat.le_of_ble_eq_true rfl) (Nat.le_of_ble_eq_true rfl) dX0_isDead_31
    · replace h := (if_neg hc5).symm.trans h
      refine G_iconst C (v := 1) rfl dX0_isDead_26 ?_
      refine G_goto (tgt := 31) C rfl dX0_isDead_27 ?_
      obtain rfl := Option.some.inj h
      exact G_zret C (by decide) hr (Nat.le_of_ble_eq_true rfl) (Nat.le_of_ble_eq_true rfl) dX0_isDead_31
set_option maxRecDepth 100000 in
set_option maxHeartbeats 4000000 in
theorem eX0_goOneRound_214 (C : Cx E p s m args meth c cX0_goOneRound 6 RX0) (hr : meth.sig.returnType = (some .boolean)) {σ0 : Sto} {r1 : Int32} {r2 : Sto} {σ : Sto} {f161 : Int32 → Int32 → Int32 → Sto → Option (Int32 × Sto)} {x1 : Int32} {x2 : Int32} {x3 : Int32} (hf161 : ∀ (x1 : Int32) (x2 : Int32) (x3 : Int32) (σ' : Sto), f161 x1 x2 x3 σ' = some (r1, r2) → G p l e (rmd 3 0 0) s m args below meth c E true (sZ σ0) ad0 (MQ below (QI E true σ0 r1 r2 ad0) args s 0 0 (AE E)) 6 0 0 σ' 161 [(0, .ref 53), (1, .int x1), (2, .int x2), (3, .int x3)] []) (h : mX0_goOneRound_214 f161 x1 x2 x3 σ = some (r1, r2)) : G p l e (rmd 3 0 0) s m args below meth c E true (sZ σ0) ad0 (MQ below (QI E true σ0 r1 r2 ad0) args s 0 0 (AE E)) 6 0 0 σ 214 [(0, .ref 53), (1, .int x1), (2, .int x2), (3, .int x3)] [] := by
  unfold mX0_goOneRound_214 at h
  refine G_aload_n C 0 rfl rfl dX0_goOneRound_214 ?_
  refine G_getF C fl_X0_52_0 rfl rfl fn_53_15 dX0_goOneRound_215 ?_
  refine G_iload_n C 3 rfl rfl dX0_goOneRound_218 ?_
  refine G_dup2 C rfl rfl dX0_goOneRound_219 ?_
  obtain ⟨hc8, h⟩ := ifn h
  refine G_iaload C ks_59 hc8 dX0_goOneRound_220 ?_
  refine G_aload_n C 0 rfl rfl dX0_goOneRound_221 ?_
  refine G_getF C fl_X0_55_0 rfl rfl fn_53_16 dX0_goOneRound_222 ?_
  refine G_iload_n C 3 rfl rfl dX0_goOneRound_225 ?_
  refine G_iaload C ks_60 hc8 dX0_goOneRound_226 ?_
  refine G_iadd C dX0_goOneRound_227 ?_
  obtain ⟨σ9, hs9, h⟩ := stp_elim h
  refine G_iastore C ks_59 hc8 dX0_goOneRound_228 ?_
  rw [← hs9]
  refine G_iinc (v := 1) (L' := [(3, .int (x3 + (1 : Int32))), (0, .ref 53), (1, .int x1), (2, .int x2)]) C 3 rfl rfl (Nat.le_of_ble_eq_true rfl) rfl dX0_goOneRound_229 ?_
  refine G_goto (tgt := 161) C rfl dX0_goOneRound_232 ?_
  refine G_sub [1, 2, 3, 0] rfl ?_
  exact hf161 _ _ _ _ h
set_option maxRecDepth 100000 in
set_option maxHeartbeats 4000000 in
theorem eX0_goOneRound_212 (C : Cx E p s m args meth c cX0_goOneRound 6 RX0) (hr : meth.sig.returnType = (some .boolean)) {σ0 : Sto} {r1 : Int32} {r2 : Sto} {σ : Sto} {f161 : Int32 → Int32 → Int32 → Sto → Option (Int32 × Sto)} {x1 : Int32} {x3 : Int32} {y0 : Int32} {y1 : Int32} (hf161 : ∀ (x1 : Int32) (x2 : Int32) (x3 : Int32) (σ' : Sto), f161 x1 x2 x3 σ' = some (r1, r2) → G p l e (rmd 3 0 0) s m args below meth c E true (sZ σ0) ad0 (MQ below (QI E true σ0 r1 r2 ad0) args s 0 0 (AE E)) 6 0 0 σ' 161 [(0, .ref 53), (1, .int x1), (2, .int x2), (3, .int x3)] []) (h : mX0_goOneRound_212 f161 x1 x3 y0 y1 σ = some (r1, r2)) : G p l e (rmd 3 0 0) s m args below meth c E true (sZ σ0) ad0 (MQ below (QI E true σ0 r1 r2 ad0) args s 0 0 (AE E)) 6 0 0 σ 212 [(0, .ref 53), (1, .int x1), (3, .int x3)] [.int y1, .int y0] := by
  unfold mX0_goOneRound_212 at h
  refine G_ior C dX0_goOneRound_212 ?_
  refine G_istore_n (L' := [(2, .int (y0 ||| y1)), (0, .ref 53), (1, .int x1), (3, .int x3)]) C rfl (Nat.le_of_ble_eq_true rfl) rfl dX0_goOneRound_213 ?_
  refine G_sub [1, 2, 0, 3] rfl ?_
  exact eX0_goOneRound_214 C hr hf161 h
set_option maxRecDepth 100000 in
set_option maxHeartbeats 4000000 in
theorem eX0_goOneRound_161B (C : Cx E p s m args meth c cX0_goOneRound 6 RX0) (hr : meth.sig.returnType = (some .boolean)) {σ0 : Sto} {r1 : Int32} {r2 : Sto} {σ : Sto} {f161 : Int32 → Int32 → Int32 → Sto → Option (Int32 × Sto)} {x1 : Int32} {x2 : Int32} {x3 : Int32} (hf161 : ∀ (x1 : Int32) (x2 : Int32) (x3 : Int32) (σ' : Sto), f161 x1 x2 x3 σ' = some (r1, r2) → G p l e (rmd 3 0 0) s m args below meth c E true (sZ σ0) ad0 (MQ below (QI E true σ0 r1 r2 ad0) args s 0 0 (AE E)) 6 0 0 σ' 161 [(0, .ref 53), (1, .int x1), (2, .int x2), (3, .int x3)] []) (h : mX0_goOneRound_161B f161 x1 x2 x3 σ = some (r1, r2)) : G p l e (rmd 3 0 0) s m args below meth c E true (sZ σ0) ad0 (MQ below (QI E true σ0 r1 r2 ad0) args s 0 0 (AE E)) 6 0 0 σ 161 [(0, .ref 53), (1, .int x1), (2, .int x2), (3, .int x3)] [] := by
  unfold mX0_goOneRound_161B at h
  refine G_iload_n C 3 rfl rfl dX0_goOneRound_161 ?_
  refine G_bipush C (v := 30) rfl dX0_goOneRound_162 ?_
  refine G_icmp_ge (tgt := 235) C rfl dX0_goOneRound_164 (fun hc3 => ?_) (fun hc3 => ?_)
  · replace h := (if_pos hc3).symm.trans h
    refine G_aload_n C 0 rfl rfl dX0_goOneRound_235 ?_
    refine G_dup C rfl dX0_goOneRound_236 ?_
    refine G_getI C fl_X0_43_0 (Or.inl rfl) ko_53 dX0_goOneRound_237 ?_
    refine G_iload_n C 1 rfl rfl dX0_goOneRound_240 ?_
    refine G_isub C dX0_goOneRound_241 ?_
    obtain ⟨σ4, hs4, h⟩ := stp_elim h
    refine G_putI C fl_X0_43_0 fp_X0_0_12 (Or.inl rfl) (Or.inl rfl) ko_53 dX0_goOneRound_242 ?_
    rw [← hs4]
    refine G_iload_n C 2 rfl rfl dX0_goOneRound_245 ?_
    obtain ⟨hc5, h⟩ := ifn h
    obtain ⟨rfl, rfl⟩ := some2 h
    exact G_zret C hc5 hr (Nat.le_of_ble_eq_true rfl) (Nat.le_of_ble_eq_true rfl) dX0_goOneRound_246
  · replace h := (if_neg hc3).symm.trans h
    refine G_aload_n C 0 rfl rfl dX0_goOneRound_167 ?_
    refine G_iload_n C 3 rfl rfl dX0_goOneRound_168 ?_
    obtain ⟨v6, hv6, h⟩ := bnd h
    refine G_callI (run_V C [.int x3] [] (dX0_isDead hv6) ml_X0_isDead mv_X0_isDead lk_X0_211 ⟨(Nat.le_of_ble_eq_true rfl), (Nat.le_of_ble_eq_true rfl)⟩ ⟨(Nat.le_of_ble_eq_true rfl), (Nat.le_of_ble_eq_true rfl)⟩ vq_0 rfl ko_53 rfl (Nat.le_of_ble_eq_true rfl) dX0_goOneRound_169) ?_
    refine G_if_eq (tgt := 214) C rfl dX0_goOneRound_172 (fun hc7 => ?_) (fun hc7 => ?_)
    · replace h := (if_pos hc7).symm.trans h
      exact eX0_goOneRound_214 C hr hf161 h
    · replace h := (if_neg hc7).symm.trans h
      refine G_aload_n C 0 rfl rfl dX0_goOneRound_175 ?_
      refine G_dup C rfl dX0_goOneRound_176 ?_
      refine G_getI C fl_X0_43_0 (Or.inl rfl) ko_53 dX0_goOneRound_177 ?_
      refine G_aload_n C 0 rfl rfl dX0_goOneRound_180 ?_
      refine G_getF C fl_X0_52_0 rfl rfl fn_53_15 dX0_goOneRound_181 ?_
      refine G_iload_n C 3 rfl rfl dX0_goOneRound_184 ?_
      obtain ⟨hc10, h⟩ := ifn h
      refine G_iaload C ks_59 hc10 dX0_goOneRound_185 ?_
      refine G_iadd C dX0_goOneRound_186 ?_
      obtain ⟨σ11, hs11, h⟩ := stp_elim h
      refine G_putI C fl_X0_43_0 fp_X0_0_12 (Or.inl rfl) (Or.inl rfl) ko_53 dX0_goOneRound_187 ?_
      rw [← hs11]
      refine G_aload_n C 0 rfl rfl dX0_goOneRound_190 ?_
      refine G_getF C fl_X0_52_0 rfl rfl fn_53_15 dX0_goOneRound_191 ?_
      refine G_iload_n C 3 rfl rfl dX0_goOneRound_194 ?_
      refine G_iconst C (v := 0) rfl dX0_goOneRound_195 ?_
      obtain ⟨σ12, hs12, h⟩ := stp_elim h
      refine G_iastore C ks_59 hc10 dX0_goOneRound_196 ?_
      rw [← hs12]
      refine G_iload_n C 2 rfl rfl dX0_goOneRound_197 ?_
      refine G_aload_n C 0 rfl rfl dX0_goOneRound_198 ?_
      refine G_getF C fl_X0_55_0 rfl rfl fn_53_16 dX0_goOneRound_199 ?_
      refine G_iload_n C 3 rfl rfl dX0_goOneRound_202 ?_
      refine G_iaload C ks_60 hc10 dX0_goOneRound_203 ?_
      refine G_if_le (tgt := 211) C rfl dX0_goOneRound_204 (fun hc13 => ?_) (fun hc13 => ?_)
      · replace h := (if_pos hc13).symm.trans h
        refine G_iconst C (v := 0) rfl dX0_goOneRound_211 ?_
        refine G_sub [0, 1, 3] rfl ?_
        exact eX0_goOneRound_212 C hr hf161 h
      · replace h := (if_neg hc13).symm.trans h
        refine G_iconst C (v := 1) rfl dX0_goOneRound_207 ?_
        refine G_goto (tgt := 212) C rfl dX0_goOneRound_208 ?_
        refine G_sub [0, 1, 3] rfl ?_
        exact eX0_goOneRound_212 C hr hf161 h
set_option maxRecDepth 100000 in
set_option maxHeartbeats 4000000 in
theorem eX0_goOneRound_161 (C : Cx E p s m args meth c cX0_goOneRound 6 RX0) (hr : meth.sig.returnType = (some .boolean)) {σ0 : Sto} {r1 : Int32} {r2 : Sto} {σ : Sto} {n : Nat} {x1 : Int32} {x2 : Int32} {x3 : Int32} (h : mX0_goOneRound_161 n x1 x2 x3 σ = some (r1, r2)) : G p l e (rmd 3 0 0) s m args below meth c E true (sZ σ0) ad0 (MQ below (QI E true σ0 r1 r2 ad0) args s 0 0 (AE E)) 6 0 0 σ 161 [(0, .ref 53), (1, .int x1), (2, .int x2), (3, .int x3)] [] := by
  induction n generalizing x1 x2 x3 σ with
  | zero => exact nomatch (show (none : Option (Int32 × Sto)) = some (r1, r2) from h)
  | succ n ih => exact eX0_goOneRound_161B C hr (fun z0 z1 z2 σ9 h9 => ih h9) h
set_option maxRecDepth 100000 in
set_option maxHeartbeats 4000000 in
theorem eX0_goOneRound_87 (C : Cx E p s m args meth c cX0_goOneRound 6 RX0) (hr : meth.sig.returnType = (some .boolean)) {σ0 : Sto} {r1 : Int32} {r2 : Sto} {σ : Sto} {f25 : Int32 → Int32 → Sto → Option (Int32 × Sto)} {x1 : Int32} {x2 : Int32} {x3 : Nat} {y0 : Int32} (hf25 : ∀ (x1 : Int32) (x2 : Int32) (σ' : Sto), f25 x1 x2 σ' = some (r1, r2) → G p l e (rmd 3 0 0) s m args below meth c E true (sZ σ0) ad0 (MQ below (QI E true σ0 r1 r2 ad0) args s 0 0 (AE E)) 6 0 0 σ' 25 [(0, .ref 53), (1, .int x1), (2, .int x2)] []) (h : mX0_goOneRound_87 f25 x1 x2 x3 y0 σ = some (r1, r2)) : G p l e (rmd 3 0 0) s m args below meth c E true (sZ σ0) ad0 (MQ below (QI E true σ0 r1 r2 ad0) args s 0 0 (AE E)) 6 0 0 σ 87 [(0, .ref 53), (1, .int x1), (2, .int x2), (3, .ref x3)] [.int y0] := by
  unfold mX0_goOneRound_87 at h
  refine G_istore (L' := [(4, .int y0), (0, .ref 53), (1, .int x1), (2, .int x2), (3, .ref x3)]) C (Nat.le_of_ble_eq_true rfl) rfl dX0_goOneRound_87 ?_
  refine G_iload C 0 rfl dX0_goOneRound_89 ?_
  refine G_if_eq (tgt := 151) C rfl dX0_goOneRound_91 (fun hc17 => ?_) (fun hc17 => ?_)
  · replace h := (if_pos hc17).symm.trans h
    refine G_iinc (v := 1) (L' := [(2, .int (x2 + (1 : Int32))), (4, .int y0), (0, .ref 53), (1, .int x1), (3, .ref x3)]) C 3 rfl rfl (Nat.le_of_ble_eq_true rfl) rfl dX0_goOneRound_151 ?_
    refine G_goto (tgt := 25) C rfl dX0_goOneRound_154 ?_
    refine G_sub [2, 3, 0] rfl ?_
    exact hf25 _ _ _ h
  · replace h := (if_neg hc17).symm.trans h
    refine G_aload_n C 4 rfl rfl dX0_goOneRound_94 ?_
    obtain ⟨hc18, h⟩ := ifn h
    refine G_getI C fl_X0_151_3 (Or.inl rfl) (KO.dy hc18) dX0_goOneRound_95 ?_
    refine G_iconst C (v := 0) rfl dX0_goOneRound_98 ?_
    refine G_bipush C (v := 29) rfl dX0_goOneRound_99 ?_
    refine G_callI (run_SN C [.int (sI σ x3 5), .int (0 : Int32), .int (29 : Int32)] [] (dX11_isWithin rfl) ml_X11_isWithin ms_X11_isWithin (by decide) ⟨(Nat.le_of_ble_eq_true rfl), (Nat.le_of_ble_eq_true rfl)⟩ ⟨(Nat.le_of_ble_eq_true rfl), (Nat.le_of_ble_eq_true rfl)⟩ rfl (Nat.le_of_ble_eq_true rfl) dX0_goOneRound_101) ?_
    refine G_if_eq (tgt := 151) C rfl dX0_goOneRound_104 (fun hc20 => ?_) (fun hc20 => ?_)
    · replace h := (if_pos hc20).symm.trans h
      refine G_iinc (v := 1) (L' := [(2, .int (x2 + (1 : Int32))), (4, .int y0), (0, .ref 53), (1, .int x1), (3, .ref x3)]) C 3 rfl rfl (Nat.le_of_ble_eq_true rfl) rfl dX0_goOneRound_151 ?_
      refine G_goto (tgt := 25) C rfl dX0_goOneRound_154 ?_
      refine G_sub [2, 3, 0] rfl ?_
      exact hf25 _ _ _ h
    · replace h := (if_neg hc20).symm.trans h
      refine G_aload_n C 1 rfl rfl dX0_goOneRound_107 ?_
      refine G_getF C fl_X0_52_0 rfl rfl fn_53_15 dX0_goOneRound_108 ?_
      refine G_aload_n C 4 rfl rfl dX0_goOneRound_111 ?_
      refine G_getI C fl_X0_99_3 (Or.inl rfl) (KO.dy hc18) dX0_goOneRound_112 ?_
      obtain ⟨hc21, h⟩ := ifn h
      refine G_iaload C ks_59 hc21 dX0_goOneRound_115 ?_
      refine G_i2l C dX0_goOneRound_116 ?_
      refine G_aload_n C 4 rfl rfl dX0_goOneRound_117 ?_
      refine G_getI C fl_X0_221_3 (Or.inl rfl) (KO.dy hc18) dX0_goOneRound_118 ?_
      refine G_i2l C dX0_goOneRound_121 ?_
      refine G_lmul C dX0_goOneRound_122 ?_
      refine G_aload_n C 4 rfl rfl dX0_goOneRound_123 ?_
      refine G_getI C fl_X0_218_3 (Or.inl rfl) (KO.dy hc18) dX0_goOneRound_124 ?_
      refine G_i2l C dX0_goOneRound_127 ?_
      obtain ⟨hc22, h⟩ := ifn h
      refine G_ldiv C hc22 dX0_goOneRound_128 ?_
      refine G_l2i C dX0_goOneRound_129 ?_
      refine G_istore (L' := [(5, .int (((((sI σ 59 ((sI σ x3 4)).toNatClampNeg)).toInt64 * ((sI σ x3 8)).toInt64) / ((sI σ x3 9)).toInt64)).toInt32), (4, .int y0), (0, .ref 53), (1, .int x1), (2, .int x2), (3, .ref x3)]) C (Nat.le_of_ble_eq_true rfl) rfl dX0_goOneRound_130 ?_
      refine G_aload_n C 2 rfl rfl dX0_goOneRound_132 ?_
      refine G_getF C fl_X0_55_0 rfl rfl fn_53_16 dX0_goOneRound_133 ?_
      refine G_aload_n C 5 rfl rfl dX0_goOneRound_136 ?_
      refine G_getI C fl_X0_151_3 (Or.inl rfl) (KO.dy hc18) dX0_goOneRound_137 ?_
      refine G_dup2 C rfl rfl dX0_goOneRound_140 ?_
      obtain ⟨hc23, h⟩ := ifn h
      refine G_iaload C ks_60 hc23 dX0_goOneRound_141 ?_
      refine G_iload C 0 rfl dX0_goOneRound_142 ?_
      refine G_iadd C dX0_goOneRound_144 ?_
      obtain ⟨σ24, hs24, h⟩ := stp_elim h
      refine G_iastore C ks_60 hc23 dX0_goOneRound_145 ?_
      rw [← hs24]
      have hc25 : sK σ24 x3 = 4 := by rw [hs24]; exact hc18
      refine G_iload_n C 3 rfl rfl dX0_goOneRound_146 ?_
      refine G_iload C 0 rfl dX0_goOneRound_147 ?_
      refine G_iadd C dX0_goOneRound_149 ?_
      refine G_istore_n (L' := [(1, .int (x1 + (((((sI σ 59 ((sI σ x3 4)).toNatClampNeg)).toInt64 * ((sI σ x3 8)).toInt64) / ((sI σ x3 9)).toInt64)).toInt32)), (5, .int (((((sI σ 59 ((sI σ x3 4)).toNatClampNeg)).toInt64 * ((sI σ x3 8)).toInt64) / ((sI σ x3 9)).toInt64)).toInt32), (4, .int y0), (0, .ref 53), (2, .int x2), (3, .ref x3)]) C rfl (Nat.le_of_ble_eq_true rfl) rfl dX0_goOneRound_150 ?_
      refine G_iinc (v := 1) (L' := [(2, .int (x2 + (1 : Int32))), (1, .int (x1 + (((((sI σ 59 ((sI σ x3 4)).toNatClampNeg)).toInt64 * ((sI σ x3 8)).toInt64) / ((sI σ x3 9)).toInt64)).toInt32)), (5, .int (((((sI σ 59 ((sI σ x3 4)).toNatClampNeg)).toInt64 * ((sI σ x3 8)).toInt64) / ((sI σ x3 9)).toInt64)).toInt32), (4, .int y0), (0, .ref 53), (3, .ref x3)]) C 4 rfl rfl (Nat.le_of_ble_eq_true rfl) rfl dX0_goOneRound_151 ?_
      refine G_goto (tgt := 25) C rfl dX0_goOneRound_154 ?_
      refine G_sub [4, 1, 0] rfl ?_
      exact hf25 _ _ _ h
set_option maxRecDepth 100000 in
set_option maxHeartbeats 4000000 in
theorem eX0_goOneRound_86 (C : Cx E p s m args meth c cX0_goOneRound 6 RX0) (hr : meth.sig.returnType = (some .boolean)) {σ0 : Sto} {r1 : Int32} {r2 : Sto} {σ : Sto} {f25 : Int32 → Int32 → Sto → Option (Int32 × Sto)} {x1 : Int32} {x2 : Int32} {x3 : Nat} (hf25 : ∀ (x1 : Int32) (x2 : Int32) (σ' : Sto), f25 x1 x2 σ' = some (r1, r2) → G p l e (rmd 3 0 0) s m args below meth c E true (sZ σ0) ad0 (MQ below (QI E true σ0 r1 r2 ad0) args s 0 0 (AE E)) 6 0 0 σ' 25 [(0, .ref 53), (1, .int x1), (2, .int x2)] []) (h : mX0_goOneRound_86 f25 x1 x2 x3 σ = some (r1, r2)) : G p l e (rmd 3 0 0) s m args below meth c E true (sZ σ0) ad0 (MQ below (QI E true σ0 r1 r2 ad0) args s 0 0 (AE E)) 6 0 0 σ 86 [(0, .ref 53), (1, .int x1), (2, .int x2), (3, .ref x3)] [] := by
  unfold mX0_goOneRound_86 at h
  refine G_iconst C (v := 0) rfl dX0_goOneRound_86 ?_
  exact eX0_goOneRound_87 C hr hf25 h
set_option maxRecDepth 100000 in
set_option maxHeartbeats 4000000 in
theorem eX0_goOneRound_25B (C : Cx E p s m args meth c cX0_goOneRound 6 RX0) (hr : meth.sig.returnType = (some .boolean)) {σ0 : Sto} {r1 : Int32} {r2 : Sto} {σ : Sto} {f25 : Int32 → Int32 → Sto → Option (Int32 × Sto)} {x1 : Int32} {x2 : Int32} (hf25 : ∀ (x1 : Int32) (x2 : Int32) (σ' : Sto), f25 x1 x2 σ' = some (r1, r2) → G p l e (rmd 3 0 0) s m args below meth c E true (sZ σ0) ad0 (MQ below (QI E true σ0 r1 r2 ad0) args s 0 0 (AE E)) 6 0 0 σ' 25 [(0, .ref 53), (1, .int x1), (2, .int x2)] []) (h : mX0_goOneRound_25B f25 x1 x2 σ = some (r1, r2)) : G p l e (rmd 3 0 0) s m args below meth c E true (sZ σ0) ad0 (MQ below (QI E true σ0 r1 r2 ad0) args s 0 0 (AE E)) 6 0 0 σ 25 [(0, .ref 53), (1, .int x1), (2, .int x2)] [] := by
  unfold mX0_goOneRound_25B at h
  refine G_iload_n C 2 rfl rfl dX0_goOneRound_25 ?_
  refine G_aload_n C 0 rfl rfl dX0_goOneRound_26 ?_
  refine G_getF C fl_X0_64_0 rfl rfl fn_53_0 dX0_goOneRound_27 ?_
  refine G_getI C fl_X0_87_1 (Or.inl rfl) ko_33 dX0_goOneRound_30 ?_
  refine G_icmp_ge (tgt := 157) C rfl dX0_goOneRound_33 (fun hc2 => ?_) (fun hc2 => ?_)
  · replace h := (if_pos hc2).symm.trans h
    refine G_iconst C (v := 0) rfl dX0_goOneRound_157 ?_
    refine G_istore_n (L' := [(2, .int (0 : Int32)), (0, .ref 53), (1, .int x1)]) C rfl (Nat.le_of_ble_eq_true rfl) rfl dX0_goOneRound_158 ?_
    refine G_iconst C (v := 0) rfl dX0_goOneRound_159 ?_
    refine G_istore_n (L' := [(3, .int (0 : Int32)), (2, .int (0 : Int32)), (0, .ref 53), (1, .int x1)]) C rfl (Nat.le_of_ble_eq_true rfl) rfl dX0_goOneRound_160 ?_
    refine G_sub [2, 3, 1, 0] rfl ?_
    exact eX0_goOneRound_161 C hr h
  · replace h := (if_neg hc2).symm.trans h
    refine G_aload_n C 0 rfl rfl dX0_goOneRound_36 ?_
    refine G_getF C fl_X0_64_0 rfl rfl fn_53_0 dX0_goOneRound_37 ?_
    refine G_iload_n C 2 rfl rfl dX0_goOneRound_40 ?_
    obtain ⟨v14, hv14, h⟩ := bnd h
    refine G_callR (run_V C [.int x2] [] (dX1_factAt hv14) ml_X1_factAt mv_X1_factAt lk_X0_68 ⟨(Nat.le_of_ble_eq_true rfl), (Nat.le_of_ble_eq_true rfl)⟩ ⟨(Nat.le_of_ble_eq_true rfl), (Nat.le_of_ble_eq_true rfl)⟩ vq_1 rfl ko_33 rfl (Nat.le_of_ble_eq_true rfl) dX0_goOneRound_41) ?_
    refine G_astore_n (L' := [(3, .ref v14), (0, .ref 53), (1, .int x1), (2, .int x2)]) C rfl (Nat.le_of_ble_eq_true rfl) rfl dX0_goOneRound_44 ?_
    refine G_aload_n C 0 rfl rfl dX0_goOneRound_45 ?_
    obtain ⟨hc15, h⟩ := ifn h
    refine G_getI C fl_X0_90_3 (Or.inl rfl) (KO.dy hc15) dX0_goOneRound_46 ?_
    refine G_iconst C (v := 1) rfl dX0_goOneRound_49 ?_
    refine G_icmp_ne (tgt := 86) C rfl dX0_goOneRound_50 (fun hc16 => ?_) (fun hc16 => ?_)
    · replace h := (if_neg hc16).symm.trans h
      refine G_sub [1, 2, 3, 0] rfl ?_
      exact eX0_goOneRound_86 C hr hf25 h
    · replace h := (if_pos hc16).symm.trans h
      refine G_aload_n C 0 rfl rfl dX0_goOneRound_53 ?_
      refine G_aload_n C 1 rfl rfl dX0_goOneRound_54 ?_
      refine G_getI C fl_X0_9_0 (Or.inl rfl) ko_53 dX0_goOneRound_55 ?_
      obtain ⟨v26, hv26, h⟩ := bnd h
      refine G_callI (run_U C [.int (sI σ 53 1)] [] (dX9_isKnownOn3 hc15 hv26) wu_X0_95 ⟨(Nat.le_of_ble_eq_true rfl), (Nat.le_of_ble_eq_true rfl)⟩ ⟨(Nat.le_of_ble_eq_true rfl), (Nat.le_of_ble_eq_true rfl)⟩ vq_3 (KO.dy hc15) rfl (Nat.le_of_ble_eq_true rfl) dX0_goOneRound_58) ?_
      refine G_if_eq (tgt := 86) C rfl dX0_goOneRound_61 (fun hc27 => ?_) (fun hc27 => ?_)
      · replace h := (if_pos hc27).symm.trans h
        refine G_sub [1, 2, 3, 0] rfl ?_
        exact eX0_goOneRound_86 C hr hf25 h
      · replace h := (if_neg hc27).symm.trans h
        refine G_aload_n C 1 rfl rfl dX0_goOneRound_64 ?_
        refine G_aload_n C 0 rfl rfl dX0_goOneRound_65 ?_
        refine G_getI C fl_X0_99_3 (Or.inl rfl) (KO.dy hc15) dX0_goOneRound_66 ?_
        obtain ⟨v28, hv28, h⟩ := bnd h
        refine G_callI (run_V C [.int (sI σ v14 4)] [] (dX0_isDead hv28) ml_X0_isDead mv_X0_isDead lk_X0_211 ⟨(Nat.le_of_ble_eq_true rfl), (Nat.le_of_ble_eq_true rfl)⟩ ⟨(Nat.le_of_ble_eq_true rfl), (Nat.le_of_ble_eq_true rfl)⟩ vq_0 rfl ko_53 rfl (Nat.le_of_ble_eq_true rfl) dX0_goOneRound_69) ?_
        refine G_if_eq (tgt := 86) C rfl dX0_goOneRound_72 (fun hc29 => ?_) (fun hc29 => ?_)
        · replace h := (if_pos hc29).symm.trans h
          refine G_sub [1, 2, 3, 0] rfl ?_
          exact eX0_goOneRound_86 C hr hf25 h
        · replace h := (if_neg hc29).symm.trans h
          refine G_aload_n C 0 rfl rfl dX0_goOneRound_75 ?_
          refine G_getI C fl_X0_218_3 (Or.inl rfl) (KO.dy hc15) dX0_goOneRound_76 ?_
          refine G_if_le (tgt := 86) C rfl dX0_goOneRound_79 (fun hc30 => ?_) (fun hc30 => ?_)
          · replace h := (if_pos hc30).symm.trans h
            refine G_sub [1, 2, 3, 0] rfl ?_
            exact eX0_goOneRound_86 C hr hf25 h
          · replace h := (if_neg hc30).symm.trans h
            refine G_iconst C (v := 1) rfl dX0_goOneRound_82 ?_
            refine G_goto (tgt := 87) C rfl dX0_goOneRound_83 ?_
            refine G_sub [1, 2, 3, 0] rfl ?_
            exact eX0_goOneRound_87 C hr hf25 h
set_option maxRecDepth 100000 in
set_option maxHeartbeats 4000000 in
theorem eX0_goOneRound_25 (C : Cx E p s m args meth c cX0_goOneRound 6 RX0) (hr : meth.sig.returnType = (some .boolean)) {σ0 : Sto} {r1 : Int32} {r2 : Sto} {σ : Sto} {n : Nat} {x1 : Int32} {x2 : Int32} (h : mX0_goOneRound_25 n x1 x2 σ = some (r1, r2)) : G p l e (rmd 3 0 0) s m args below meth c E true (sZ σ0) ad0 (MQ below (QI E true σ0 r1 r2 ad0) args s 0 0 (AE E)) 6 0 0 σ 25 [(0, .ref 53), (1, .int x1), (2, .int x2)] [] := by
  induction n generalizing x1 x2 σ with
  | zero => exact nomatch (show (none : Option (Int32 × Sto)) = some (r1, r2) from h)
  | succ n ih => exact eX0_goOneRound_25B C hr (fun z0 z1 σ9 h9 => ih h9) h
set_option maxRecDepth 100000 in
set_option maxHeartbeats 4000000 in
theorem eX0_goOneRound_2B (C : Cx E p s m args meth c cX0_goOneRound 6 RX0) (hr : meth.sig.returnType = (some .boolean)) {σ0 : Sto} {r1 : Int32} {r2 : Sto} {σ : Sto} {f2 : Int32 → Sto → Option (Int32 × Sto)} {x1 : Int32} (hf2 : ∀ (x1 : Int32) (σ' : Sto), f2 x1 σ' = some (r1, r2) → G p l e (rmd 3 0 0) s m args below meth c E true (sZ σ0) ad0 (MQ below (QI E true σ0 r1 r2 ad0) args s 0 0 (AE E)) 6 0 0 σ' 2 [(0, .ref 53), (1, .int x1)] []) (h : mX0_goOneRound_2B f2 x1 σ = some (r1, r2)) : G p l e (rmd 3 0 0) s m args below meth c E true (sZ σ0) ad0 (MQ below (QI E true σ0 r1 r2 ad0) args s 0 0 (AE E)) 6 0 0 σ 2 [(0, .ref 53), (1, .int x1)] [] := by
  unfold mX0_goOneRound_2B at h
  refine G_iload_n C 1 rfl rfl dX0_goOneRound_2 ?_
  refine G_bipush C (v := 30) rfl dX0_goOneRound_3 ?_
  refine G_icmp_ge (tgt := 21) C rfl dX0_goOneRound_5 (fun hc1 => ?_) (fun hc1 => ?_)
  · replace h := (if_pos hc1).symm.trans h
    refine G_iconst C (v := 0) rfl dX0_goOneRound_21 ?_
    refine G_istore_n (L' := [(1, .int (0 : Int32)), (0, .ref 53)]) C rfl (Nat.le_of_ble_eq_true rfl) rfl dX0_goOneRound_22 ?_
    refine G_iconst C (v := 0) rfl dX0_goOneRound_23 ?_
    refine G_istore_n (L' := [(2, .int (0 : Int32)), (1, .int (0 : Int32)), (0, .ref 53)]) C rfl (Nat.le_of_ble_eq_true rfl) rfl dX0_goOneRound_24 ?_
    refine G_sub [2, 1, 0] rfl ?_
    exact eX0_goOneRound_25 C hr h
  · replace h := (if_neg hc1).symm.trans h
    refine G_aload_n C 0 rfl rfl dX0_goOneRound_8 ?_
    refine G_getF C fl_X0_55_0 rfl rfl fn_53_16 dX0_goOneRound_9 ?_
    refine G_iload_n C 1 rfl rfl dX0_goOneRound_12 ?_
    refine G_iconst C (v := 0) rfl dX0_goOneRound_13 ?_
    obtain ⟨hc31, h⟩ := ifn h
    obtain ⟨σ32, hs32, h⟩ := stp_elim h
    refine G_iastore C ks_60 hc31 dX0_goOneRound_14 ?_
    rw [← hs32]
    refine G_iinc (v := 1) (L' := [(1, .int (x1 + (1 : Int32))), (0, .ref 53)]) C 1 rfl rfl (Nat.le_of_ble_eq_true rfl) rfl dX0_goOneRound_15 ?_
    refine G_goto (tgt := 2) C rfl dX0_goOneRound_18 ?_
    refine G_sub [1, 0] rfl ?_
    exact hf2 _ _ h
set_option maxRecDepth 100000 in
set_option maxHeartbeats 4000000 in
theorem eX0_goOneRound_2 (C : Cx E p s m args meth c cX0_goOneRound 6 RX0) (hr : meth.sig.returnType = (some .boolean)) {σ0 : Sto} {r1 : Int32} {r2 : Sto} {σ : Sto} {n : Nat} {x1 : Int32} (h : mX0_goOneRound_2 n x1 σ = some (r1, r2)) : G p l e (rmd 3 0 0) s m args below meth c E true (sZ σ0) ad0 (MQ below (QI E true σ0 r1 r2 ad0) args s 0 0 (AE E)) 6 0 0 σ 2 [(0, .ref 53), (1, .int x1)] [] := by
  induction n generalizing x1 σ with
  | zero => exact nomatch (show (none : Option (Int32 × Sto)) = some (r1, r2) from h)
  | succ n ih => exact eX0_goOneRound_2B C hr (fun z0 σ9 h9 => ih h9) h
set_option maxRecDepth 100000 in
set_option maxHeartbeats 4000000 in
theorem dX0_goOneRound {σ : Sto} {r1 : Int32} {r2 : Sto} (h : mX0_goOneRound σ = some (r1, r2)) : MM l yX0_goOneRound cX0_goOneRound 6 (some .boolean) 3 0 0 E true σ [.ref 53] (QI E true σ r1 r2) := by
  unfold mX0_goOneRound at h
  refine MM_of (by decide) (Nat.le_of_ble_eq_true rfl) rfl (fun p e s m args below meth c ad0 C hr hn => ?_)
  refine G_iconst C (v := 0) rfl dX0_goOneRound_0 ?_
  refine G_istore_n (L' := [(1, .int (0 : Int32)), (0, .ref 53)]) C rfl (Nat.le_of_ble_eq_true rfl) rfl dX0_goOneRound_1 ?_
  refine G_sub [1, 0] rfl ?_
  exact eX0_goOneRound_2 C hr h
set_option maxRecDepth 100000 in
set_option maxHeartbeats 4000000 in
theorem eX0_passOn_83B (C : Cx E p s m args meth c cX0_passOn 3 RX0) (hr : meth.sig.returnType = none) {σ0 : Sto} {r2 : Sto} {σ : Sto} {f83 : Int32 → Sto → Option Sto} {x2 : Int32} (hf83 : ∀ (x2 : Int32) (σ' : Sto), f83 x2 σ' = some r2 → G p l e (rmd 4 0 0) s m args below meth c E true (sZ σ0) ad0 (MQ below (QV E true σ0 r2 ad0) args s 0 0 (AE E)) 3 0 0 σ' 83 [(0, .ref 53), (2, .int x2)] []) (h : mX0_passOn_83B f83 x2 σ = some r2) : G p l e (rmd 4 0 0) s m args below meth c E true (sZ σ0) ad0 (MQ below (QV E true σ0 r2 ad0) args s 0 0 (AE E)) 3 0 0 σ 83 [(0, .ref 53), (2, .int x2)] [] := by
  unfold mX0_passOn_83B at h
  refine G_iload_n C 1 rfl rfl dX0_passOn_83 ?_
  refine G_bipush C (v := 30) rfl dX0_passOn_84 ?_
  refine G_icmp_ge (tgt := 125) C rfl dX0_passOn_86 (fun hc4 => ?_) (fun hc4 => ?_)
  · replace h := (if_pos hc4).symm.trans h
    obtain rfl := Option.some.inj h
    exact G_vret C hr (Nat.le_of_ble_eq_true rfl) (Nat.le_of_ble_eq_true rfl) dX0_passOn_125
  · replace h := (if_neg hc4).symm.trans h
    refine G_aload_n C 0 rfl rfl dX0_passOn_89 ?_
    refine G_iload_n C 1 rfl rfl dX0_passOn_90 ?_
    obtain ⟨v5, hv5, h⟩ := bnd h
    refine G_callI (run_V C [.int x2] [] (dX0_isDead hv5) ml_X0_isDead mv_X0_isDead lk_X0_211 ⟨(Nat.le_of_ble_eq_true rfl), (Nat.le_of_ble_eq_true rfl)⟩ ⟨(Nat.le_of_ble_eq_true rfl), (Nat.le_of_ble_eq_true rfl)⟩ vq_0 rfl ko_53 rfl (Nat.le_of_ble_eq_true rfl) dX0_passOn_91) ?_
    refine G_if_eq (tgt := 119) C rfl dX0_passOn_94 (fun hc6 => ?_) (fun hc6 => ?_)
    · replace h := (if_pos hc6).symm.trans h
      refine G_iinc (v := 1) (L' := [(2, .int (x2 + (1 : Int32))), (0, .ref 53)]) C 1 rfl rfl (Nat.le_of_ble_eq_true rfl) rfl dX0_passOn_119 ?_
      refine G_goto (tgt := 83) C rfl dX0_passOn_122 ?_
      refine G_sub [1, 0] rfl ?_
      exact hf83 _ _ h
    · replace h := (if_neg hc6).symm.trans h
      refine G_aload_n C 0 rfl rfl dX0_passOn_97 ?_
      refine G_dup C rfl dX0_passOn_98 ?_
      refine G_getI C fl_X0_43_0 (Or.inl rfl) ko_53 dX0_passOn_99 ?_
      refine G_aload_n C 0 rfl rfl dX0_passOn_102 ?_
      refine G_getF C fl_X0_52_0 rfl rfl fn_53_15 dX0_passOn_103 ?_
      refine G_iload_n C 1 rfl rfl dX0_passOn_106 ?_
      obtain ⟨hc7, h⟩ := ifn h
      refine G_iaload C ks_59 hc7 dX0_passOn_107 ?_
      refine G_iadd C dX0_passOn_108 ?_
      obtain ⟨σ8, hs8, h⟩ := stp_elim h
      refine G_putI C fl_X0_43_0 fp_X0_0_12 (Or.inl rfl) (Or.inl rfl) ko_53 dX0_passOn_109 ?_
      rw [← hs8]
      refine G_aload_n C 0 rfl rfl dX0_passOn_112 ?_
      refine G_getF C fl_X0_52_0 rfl rfl fn_53_15 dX0_passOn_113 ?_
      refine G_iload_n C 1 rfl rfl dX0_passOn_116 ?_
      refine G_iconst C (v := 0) rfl dX0_passOn_117 ?_
      obtain ⟨σ9, hs9, h⟩ := stp_elim h
      refine G_iastore C ks_59 hc7 dX0_passOn_118 ?_
      rw [← hs9]
      refine G_iinc (v := 1) (L' := [(2, .int (x2 + (1 : Int32))), (0, .ref 53)]) C 1 rfl rfl (Nat.le_of_ble_eq_true rfl) rfl dX0_passOn_119 ?_
      refine G_goto (tgt := 83) C rfl dX0_passOn_122 ?_
      refine G_sub [1, 0] rfl ?_
      exact hf83 _ _ h
set_option maxRecDepth 100000 in
set_option maxHeartbeats 4000000 in
theorem eX0_passOn_83 (C : Cx E p s m args meth c cX0_passOn 3 RX0) (hr : meth.sig.returnType = none) {σ0 : Sto} {r2 : Sto} {σ : Sto} {n : Nat} {x2 : Int32} (h : mX0_passOn_83 n x2 σ = some r2) : G p l e (rmd 4 0 0) s m args below meth c E true (sZ σ0) ad0 (MQ below (QV E true σ0 r2 ad0) args s 0 0 (AE E)) 3 0 0 σ 83 [(0, .ref 53), (2, .int x2)] [] := by
  induction n generalizing x2 σ with
  | zero => exact nomatch (show (none : Option Sto) = some r2 from h)
  | succ n ih => exact eX0_passOn_83B C hr (fun z0 σ9 h9 => ih h9) h
set_option maxRecDepth 100000 in
set_option maxHeartbeats 4000000 in
theorem eX0_passOn_60B (C : Cx E p s m args meth c cX0_passOn 3 RX0) (hr : meth.sig.returnType = none) {σ0 : Sto} {r2 : Sto} {σ : Sto} {f60 : Int32 → Int32 → Sto → Option Sto} {x1 : Int32} {x2 : Int32} (hf60 : ∀ (x1 : Int32) (x2 : Int32) (σ' : Sto), f60 x1 x2 σ' = some r2 → G p l e (rmd 4 0 0) s m args below meth c E true (sZ σ0) ad0 (MQ below (QV E true σ0 r2 ad0) args s 0 0 (AE E)) 3 0 0 σ' 60 [(0, .ref 53), (1, .int x1), (2, .int x2)] []) (h : mX0_passOn_60B f60 x1 x2 σ = some r2) : G p l e (rmd 4 0 0) s m args below meth c E true (sZ σ0) ad0 (MQ below (QV E true σ0 r2 ad0) args s 0 0 (AE E)) 3 0 0 σ 60 [(0, .ref 53), (1, .int x1), (2, .int x2)] [] := by
  unfold mX0_passOn_60B at h
  refine G_iload_n C 2 rfl rfl dX0_passOn_60 ?_
  refine G_bipush C (v := 8) rfl dX0_passOn_61 ?_
  refine G_icmp_ge (tgt := 81) C rfl dX0_passOn_63 (fun hc3 => ?_) (fun hc3 => ?_)
  · replace h := (if_pos hc3).symm.trans h
    refine G_iconst C (v := 0) rfl dX0_passOn_81 ?_
    refine G_istore_n (L' := [(2, .int (0 : Int32)), (0, .ref 53), (1, .int x1)]) C rfl (Nat.le_of_ble_eq_true rfl) rfl dX0_passOn_82 ?_
    refine G_sub [1, 0] rfl ?_
    exact eX0_passOn_83 C hr h
  · replace h := (if_neg hc3).symm.trans h
    refine G_iload_n C 1 rfl rfl dX0_passOn_66 ?_
    refine G_if_eq (tgt := 81) C rfl dX0_passOn_67 (fun hc10 => ?_) (fun hc10 => ?_)
    · replace h := (if_pos hc10).symm.trans h
      refine G_iconst C (v := 0) rfl dX0_passOn_81 ?_
      refine G_istore_n (L' := [(2, .int (0 : Int32)), (0, .ref 53), (1, .int x1)]) C rfl (Nat.le_of_ble_eq_true rfl) rfl dX0_passOn_82 ?_
      refine G_sub [1, 0] rfl ?_
      exact eX0_passOn_83 C hr h
    · replace h := (if_neg hc10).symm.trans h
      refine G_aload_n C 0 rfl rfl dX0_passOn_70 ?_
      obtain ⟨v11, σ11, hv11, h⟩ := bd2_elim h
      refine G_callI (run_V C [] [] (dX0_goOneRound hv11) ml_X0_goOneRound mv_X0_goOneRound lk_X0_214 ⟨(Nat.le_of_ble_eq_true rfl), (Nat.le_of_ble_eq_true rfl)⟩ ⟨(Nat.le_of_ble_eq_true rfl), (Nat.le_of_ble_eq_true rfl)⟩ vq_0 rfl ko_53 rfl (Nat.le_of_ble_eq_true rfl) dX0_passOn_71) ?_
      refine G_istore_n (L' := [(1, .int v11), (0, .ref 53), (2, .int x2)]) C rfl (Nat.le_of_ble_eq_true rfl) rfl dX0_passOn_74 ?_
      refine G_iinc (v := 1) (L' := [(2, .int (x2 + (1 : Int32))), (1, .int v11), (0, .ref 53)]) C 2 rfl rfl (Nat.le_of_ble_eq_true rfl) rfl dX0_passOn_75 ?_
      refine G_goto (tgt := 60) C rfl dX0_passOn_78 ?_
      refine G_sub [2, 1, 0] rfl ?_
      exact hf60 _ _ _ h
set_option maxRecDepth 100000 in
set_option maxHeartbeats 4000000 in
theorem eX0_passOn_60 (C : Cx E p s m args meth c cX0_passOn 3 RX0) (hr : meth.sig.returnType = none) {σ0 : Sto} {r2 : Sto} {σ : Sto} {n : Nat} {x1 : Int32} {x2 : Int32} (h : mX0_passOn_60 n x1 x2 σ = some r2) : G p l e (rmd 4 0 0) s m args below meth c E true (sZ σ0) ad0 (MQ below (QV E true σ0 r2 ad0) args s 0 0 (AE E)) 3 0 0 σ 60 [(0, .ref 53), (1, .int x1), (2, .int x2)] [] := by
  induction n generalizing x1 x2 σ with
  | zero => exact nomatch (show (none : Option Sto) = some r2 from h)
  | succ n ih => exact eX0_passOn_60B C hr (fun z0 z1 σ9 h9 => ih h9) h
set_option maxRecDepth 100000 in
set_option maxHeartbeats 4000000 in
theorem eX0_passOn_9B (C : Cx E p s m args meth c cX0_passOn 3 RX0) (hr : meth.sig.returnType = none) {σ0 : Sto} {r2 : Sto} {σ : Sto} {f9 : Int32 → Int32 → Sto → Option Sto} {x1 : Int32} {x2 : Int32} (hf9 : ∀ (x1 : Int32) (x2 : Int32) (σ' : Sto), f9 x1 x2 σ' = some r2 → G p l e (rmd 4 0 0) s m args below meth c E true (sZ σ0) ad0 (MQ below (QV E true σ0 r2 ad0) args s 0 0 (AE E)) 3 0 0 σ' 9 [(0, .ref 53), (1, .int x1), (2, .int x2)] []) (h : mX0_passOn_9B f9 x1 x2 σ = some r2) : G p l e (rmd 4 0 0) s m args below meth c E true (sZ σ0) ad0 (MQ below (QV E true σ0 r2 ad0) args s 0 0 (AE E)) 3 0 0 σ 9 [(0, .ref 53), (1, .int x1), (2, .int x2)] [] := by
  unfold mX0_passOn_9B at h
  refine G_iload_n C 2 rfl rfl dX0_passOn_9 ?_
  refine G_bipush C (v := 30) rfl dX0_passOn_10 ?_
  refine G_icmp_ge (tgt := 58) C rfl dX0_passOn_12 (fun hc2 => ?_) (fun hc2 => ?_)
  · replace h := (if_pos hc2).symm.trans h
    refine G_iconst C (v := 0) rfl dX0_passOn_58 ?_
    refine G_istore_n (L' := [(2, .int (0 : Int32)), (0, .ref 53), (1, .int x1)]) C rfl (Nat.le_of_ble_eq_true rfl) rfl dX0_passOn_59 ?_
    refine G_sub [1, 2, 0] rfl ?_
    exact eX0_passOn_60 C hr h
  · replace h := (if_neg hc2).symm.trans h
    refine G_aload_n C 0 rfl rfl dX0_passOn_15 ?_
    refine G_getF C fl_X0_52_0 rfl rfl fn_53_15 dX0_passOn_16 ?_
    refine G_iload_n C 2 rfl rfl dX0_passOn_19 ?_
    refine G_aload_n C 0 rfl rfl dX0_passOn_20 ?_
    refine G_getF C fl_X0_46_0 rfl rfl fn_53_13 dX0_passOn_21 ?_
    refine G_iload_n C 2 rfl rfl dX0_passOn_24 ?_
    obtain ⟨hc12, h⟩ := ifn h
    refine G_iaload C ks_57 hc12 dX0_passOn_25 ?_
    obtain ⟨σ13, hs13, h⟩ := stp_elim h
    refine G_iastore C ks_59 hc12 dX0_passOn_26 ?_
    rw [← hs13]
    refine G_iload_n C 1 rfl rfl dX0_passOn_27 ?_
    refine G_aload_n C 0 rfl rfl dX0_passOn_28 ?_
    refine G_getF C fl_X0_52_0 rfl rfl fn_53_15 dX0_passOn_29 ?_
    refine G_iload_n C 2 rfl rfl dX0_passOn_32 ?_
    refine G_iaload C ks_59 hc12 dX0_passOn_33 ?_
    refine G_if_le (tgt := 49) C rfl dX0_passOn_34 (fun hc14 => ?_) (fun hc14 => ?_)
    · replace h := (if_pos hc14).symm.trans h
      refine G_iconst C (v := 0) rfl dX0_passOn_49 ?_
      refine G_ior C dX0_passOn_50 ?_
      refine G_istore_n (L' := [(1, .int (x1 ||| (0 : Int32))), (0, .ref 53), (2, .int x2)]) C rfl (Nat.le_of_ble_eq_true rfl) rfl dX0_passOn_51 ?_
      refine G_iinc (v := 1) (L' := [(2, .int (x2 + (1 : Int32))), (1, .int (x1 ||| (0 : Int32))), (0, .ref 53)]) C 2 rfl rfl (Nat.le_of_ble_eq_true rfl) rfl dX0_passOn_52 ?_
      refine G_goto (tgt := 9) C rfl dX0_passOn_55 ?_
      refine G_sub [2, 1, 0] rfl ?_
      exact hf9 _ _ _ h
    · replace h := (if_neg hc14).symm.trans h
      refine G_aload_n C 0 rfl rfl dX0_passOn_37 ?_
      refine G_iload_n C 2 rfl rfl dX0_passOn_38 ?_
      obtain ⟨v15, hv15, h⟩ := bnd h
      refine G_callI (run_V C [.int x2] [.int x1] (dX0_isDead hv15) ml_X0_isDead mv_X0_isDead lk_X0_211 ⟨(Nat.le_of_ble_eq_true rfl), (Nat.le_of_ble_eq_true rfl)⟩ ⟨(Nat.le_of_ble_eq_true rfl), (Nat.le_of_ble_eq_true rfl)⟩ vq_0 rfl ko_53 rfl (Nat.le_of_ble_eq_true rfl) dX0_passOn_39) ?_
      refine G_if_eq (tgt := 49) C rfl dX0_passOn_42 (fun hc16 => ?_) (fun hc16 => ?_)
      · replace h := (if_pos hc16).symm.trans h
        refine G_iconst C (v := 0) rfl dX0_passOn_49 ?_
        refine G_ior C dX0_passOn_50 ?_
        refine G_istore_n (L' := [(1, .int (x1 ||| (0 : Int32))), (0, .ref 53), (2, .int x2)]) C rfl (Nat.le_of_ble_eq_true rfl) rfl dX0_passOn_51 ?_
        refine G_iinc (v := 1) (L' := [(2, .int (x2 + (1 : Int32))), (1, .int (x1 ||| (0 : Int32))), (0, .ref 53)]) C 2 rfl rfl (Nat.le_of_ble_eq_true rfl) rfl dX0_passOn_52 ?_
        refine G_goto (tgt := 9) C rfl dX0_passOn_55 ?_
        refine G_sub [2, 1, 0] rfl ?_
        exact hf9 _ _ _ h
      · replace h := (if_neg hc16).symm.trans h
        refine G_iconst C (v := 1) rfl dX0_passOn_45 ?_
        refine G_goto (tgt := 50) C rfl dX0_passOn_46 ?_
        refine G_ior C dX0_passOn_50 ?_
        refine G_istore_n (L' := [(1, .int (x1 ||| (1 : Int32))), (0, .ref 53), (2, .int x2)]) C rfl (Nat.le_of_ble_eq_true rfl) rfl dX0_passOn_51 ?_
        refine G_iinc (v := 1) (L' := [(2, .int (x2 + (1 : Int32))), (1, .int (x1 ||| (1 : Int32))), (0, .ref 53)]) C 2 rfl rfl (Nat.le_of_ble_eq_true rfl) rfl dX0_passOn_52 ?_
        refine G_goto (tgt := 9) C rfl dX0_passOn_55 ?_
        refine G_sub [2, 1, 0] rfl ?_
        exact hf9 _ _ _ h
set_option maxRecDepth 100000 in
set_option maxHeartbeats 4000000 in
theorem eX0_passOn_9 (C : Cx E p s m args meth c cX0_passOn 3 RX0) (hr : meth.sig.returnType = none) {σ0 : Sto} {r2 : Sto} {σ : Sto} {n : Nat} {x1 : Int32} {x2 : Int32} (h : mX0_passOn_9 n x1 x2 σ = some r2) : G p l e (rmd 4 0 0) s m args below meth c E true (sZ σ0) ad0 (MQ below (QV E true σ0 r2 ad0) args s 0 0 (AE E)) 3 0 0 σ 9 [(0, .ref 53), (1, .int x1), (2, .int x2)] [] := by
  induction n generalizing x1 x2 σ with
  | zero => exact nomatch (show (none : Option Sto) = some r2 from h)
  | succ n ih => exact eX0_passOn_9B C hr (fun z0 z1 σ9 h9 => ih h9) h
set_option maxRecDepth 100000 in
set_option maxHeartbeats 4000000 in
theorem dX0_passOn {σ : Sto} {r2 : Sto} (h : mX0_passOn σ = some r2) : MM l yX0_passOn cX0_passOn 3 none 4 0 0 E true σ [.ref 53] (QV E true σ r2) := by
  unfold mX0_passOn at h
  refine MM_of (by decide) (Nat.le_of_ble_eq_true rfl) rfl (fun p e s m args below meth c ad0 C hr hn => ?_)
  refine G_aload_n C 0 rfl rfl dX0_passOn_0 ?_
  refine G_iconst C (v := 0) rfl dX0_passOn_1 ?_
  obtain ⟨σ1, hs1, h⟩ := stp_elim h
  refine G_putI C fl_X0_43_0 fp_X0_0_12 (Or.inl rfl) (Or.inl rfl) ko_53 dX0_passOn_2 ?_
  rw [← hs1]
  refine G_iconst C (v := 0) rfl dX0_passOn_5 ?_
  refine G_istore_n (L' := [(1, .int (0 : Int32)), (0, .ref 53)]) C rfl (Nat.le_of_ble_eq_true rfl) rfl dX0_passOn_6 ?_
  refine G_iconst C (v := 0) rfl dX0_passOn_7 ?_
  refine G_istore_n (L' := [(2, .int (0 : Int32)), (1, .int (0 : Int32)), (0, .ref 53)]) C rfl (Nat.le_of_ble_eq_true rfl) rfl dX0_passOn_8 ?_
  refine G_sub [2, 1, 0] rfl ?_
  exact eX0_passOn_9 C hr h
set_option maxRecDepth 100000 in
set_option maxHeartbeats 4000000 in
theorem eX0_gottenBy_107 (C : Cx E p s m args meth c cX0_gottenBy 6 RX0) (hr : meth.sig.returnType = (some .int)) {r : Int32} {σ : Sto} {x1 : Int32} {y0 : Int32} (h : mX0_gottenBy_107 x1 y0 σ = some r) : G p l e (rmd 3 0 0) s m args below meth c E true (sZ σ) ad0 (MQ below (QI E true σ r σ ad0) args s 0 0 (AE E)) 6 0 0 σ 107 [(0, .ref 53), (1, .int x1)] [.int y0] := by
  unfold mX0_gottenBy_107 at h
  refine G_istore (L' := [(5, .int y0), (0, .ref 53), (1, .int x1)]) C (Nat.le_of_ble_eq_true rfl) rfl dX0_gottenBy_107 ?_
  refine G_iload C 0 rfl dX0_gottenBy_109 ?_
  refine G_if_eq (tgt := 123) C rfl dX0_gottenBy_111 (fun hc8 => ?_) (fun hc8 => ?_)
  · replace h := (if_pos hc8).symm.trans h
    refine G_iconst C (v := 0) rfl dX0_gottenBy_123 ?_
    obtain rfl := Option.some.inj h
    exact G_iret C hr (Nat.le_of_ble_eq_true rfl) (Nat.le_of_ble_eq_true rfl) dX0_gottenBy_124
  · replace h := (if_neg hc8).symm.trans h
    refine G_aload_n C 1 rfl rfl dX0_gottenBy_114 ?_
    refine G_getF C fl_X0_52_0 rfl rfl fn_53_15 dX0_gottenBy_115 ?_
    refine G_iload_n C 2 rfl rfl dX0_gottenBy_118 ?_
    obtain ⟨hc9, h⟩ := ifn h
    refine G_iaload C ks_59 hc9 dX0_gottenBy_119 ?_
    refine G_goto (tgt := 124) C rfl dX0_gottenBy_120 ?_
    obtain rfl := Option.some.inj h
    exact G_iret C hr (Nat.le_of_ble_eq_true rfl) (Nat.le_of_ble_eq_true rfl) dX0_gottenBy_124
set_option maxRecDepth 100000 in
set_option maxHeartbeats 4000000 in
theorem eX0_gottenBy_106 (C : Cx E p s m args meth c cX0_gottenBy 6 RX0) (hr : meth.sig.returnType = (some .int)) {r : Int32} {σ : Sto} {x1 : Int32} (h : mX0_gottenBy_106 x1 σ = some r) : G p l e (rmd 3 0 0) s m args below meth c E true (sZ σ) ad0 (MQ below (QI E true σ r σ ad0) args s 0 0 (AE E)) 6 0 0 σ 106 [(0, .ref 53), (1, .int x1)] [] := by
  unfold mX0_gottenBy_106 at h
  refine G_iconst C (v := 0) rfl dX0_gottenBy_106 ?_
  exact eX0_gottenBy_107 C hr h
set_option maxRecDepth 100000 in
set_option maxHeartbeats 4000000 in
theorem dX0_gottenBy {σ : Sto} {p0 : Int32} {p1 : Nat} {p2 : Int32} {r : Int32} (h : mX0_gottenBy p0 p1 p2 σ = some r) : MM l yX0_gottenBy cX0_gottenBy 6 (some .int) 3 0 0 E true σ [.ref 53, .int p0, .ref p1, .int p2] (QI E true σ r σ) := by
  unfold mX0_gottenBy at h
  refine MM_of (by decide) (Nat.le_of_ble_eq_true rfl) rfl (fun p e s m args below meth c ad0 C hr hn => ?_)
  refine G_aload_n C 0 rfl rfl dX0_gottenBy_0 ?_
  refine G_getF C fl_X0_58_0 rfl rfl fn_53_17 dX0_gottenBy_1 ?_
  refine G_iload_n C 1 rfl rfl dX0_gottenBy_4 ?_
  obtain ⟨hc1, h⟩ := ifn h
  refine G_iaload C ks_61 hc1 dX0_gottenBy_5 ?_
  refine G_iconst C (v := -1) rfl dX0_gottenBy_6 ?_
  refine G_icmp_eq (tgt := 52) C rfl dX0_gottenBy_7 (fun hc2 => ?_) (fun hc2 => ?_)
  · replace h := (if_pos hc2).symm.trans h
    refine G_aload_n C 0 rfl rfl dX0_gottenBy_52 ?_
    refine G_getF C fl_X0_64_0 rfl rfl fn_53_0 dX0_gottenBy_53 ?_
    refine G_aload_n C 0 rfl rfl dX0_gottenBy_56 ?_
    refine G_getF C fl_X0_64_0 rfl rfl fn_53_0 dX0_gottenBy_57 ?_
    refine G_iload_n C 1 rfl rfl dX0_gottenBy_60 ?_
    refine G_iload_n C 3 rfl rfl dX0_gottenBy_61 ?_
    obtain ⟨v3, hv3, h⟩ := bnd h
    refine G_callI (run_V C [.int p0, .int p2] [.ref 33] (dX1_claimOf hv3) ml_X1_claimOf mv_X1_claimOf lk_X0_240 ⟨(Nat.le_of_ble_eq_true rfl), (Nat.le_of_ble_eq_true rfl)⟩ ⟨(Nat.le_of_ble_eq_true rfl), (Nat.le_of_ble_eq_true rfl)⟩ vq_1 rfl ko_33 rfl (Nat.le_of_ble_eq_true rfl) dX0_gottenBy_62) ?_
    obtain ⟨v4, hv4, h⟩ := bnd h
    refine G_callR (run_V C [.int v3] [] (dX1_claimAt hv4) ml_X1_claimAt mv_X1_claimAt lk_X0_243 ⟨(Nat.le_of_ble_eq_true rfl), (Nat.le_of_ble_eq_true rfl)⟩ ⟨(Nat.le_of_ble_eq_true rfl), (Nat.le_of_ble_eq_true rfl)⟩ vq_1 rfl ko_33 rfl (Nat.le_of_ble_eq_true rfl) dX0_gottenBy_65) ?_
    refine G_astore (L' := [(4, .ref v4), (0, .ref 53), (1, .int p0), (2, .ref p1), (3, .int p2)]) C (Nat.le_of_ble_eq_true rfl) rfl dX0_gottenBy_68 ?_
    refine G_aload C 0 rfl dX0_gottenBy_70 ?_
    refine G_aload_n C 1 rfl rfl dX0_gottenBy_72 ?_
    refine G_getI C fl_X0_9_0 (Or.inl rfl) ko_53 dX0_gottenBy_73 ?_
    obtain ⟨hc6, h⟩ := ifn h
    obtain ⟨v5, hv5, h⟩ := bnd h
    refine G_callI (run_U C [.int (sI σ 53 1)] [] (dX9_isKnownOn3 hc6 hv5) wu_X0_95 ⟨(Nat.le_of_ble_eq_true rfl), (Nat.le_of_ble_eq_true rfl)⟩ ⟨(Nat.le_of_ble_eq_true rfl), (Nat.le_of_ble_eq_true rfl)⟩ vq_3 (KO.dy hc6) rfl (Nat.le_of_ble_eq_true rfl) dX0_gottenBy_76) ?_
    refine G_if_eq (tgt := 106) C rfl dX0_gottenBy_79 (fun hc7 => ?_) (fun hc7 => ?_)
    · replace h := (if_pos hc7).symm.trans h
      refine G_sub [1, 2] rfl ?_
      exact eX0_gottenBy_106 C hr h
    · replace h := (if_neg hc7).symm.trans h
      refine G_aload C 0 rfl dX0_gottenBy_82 ?_
      refine G_getI C fl_X0_246_3 (Or.inl rfl) (KO.dy hc6) dX0_gottenBy_84 ?_
      refine G_aload_n C 1 rfl rfl dX0_gottenBy_87 ?_
      refine G_getR C fl_X0_74_0 rfl ko_53 dX0_gottenBy_88 ?_
      obtain ⟨hc10, h⟩ := ifn h
      refine G_getI C fl_X0_246_3 (Or.inl rfl) (KO.dy hc10) dX0_gottenBy_91 ?_
      refine G_isub C dX0_gottenBy_94 ?_
      refine G_aload_n C 3 rfl rfl dX0_gottenBy_95 ?_
      obtain ⟨hc11, h⟩ := ifn h
      refine G_getI C fl_X0_249_4 (Or.inl rfl) (KO.dy hc11) dX0_gottenBy_96 ?_
      refine G_icmp_gt (tgt := 106) C rfl dX0_gottenBy_99 (fun hc12 => ?_) (fun hc12 => ?_)
      · replace h := (if_pos hc12).symm.trans h
        refine G_sub [1, 2] rfl ?_
        exact eX0_gottenBy_106 C hr h
      · replace h := (if_neg hc12).symm.trans h
        refine G_iconst C (v := 1) rfl dX0_gottenBy_102 ?_
        refine G_goto (tgt := 107) C rfl dX0_gottenBy_103 ?_
        refine G_sub [1, 2] rfl ?_
        exact eX0_gottenBy_107 C hr h
  · replace h := (if_neg hc2).symm.trans h
    refine G_aload_n C 0 rfl rfl dX0_gottenBy_10 ?_
    refine G_getF C fl_X0_64_0 rfl rfl fn_53_0 dX0_gottenBy_11 ?_
    refine G_aload_n C 0 rfl rfl dX0_gottenBy_14 ?_
    refine G_getF C fl_X0_58_0 rfl rfl fn_53_17 dX0_gottenBy_15 ?_
    refine G_iload_n C 1 rfl rfl dX0_gottenBy_18 ?_
    refine G_iaload C ks_61 hc1 dX0_gottenBy_19 ?_
    obtain ⟨v13, hv13, h⟩ := bnd h
    refine G_callR (run_V C [.int (sI σ 61 (p0).toNatClampNeg)] [] (dX1_societyAt hv13) ml_X1_societyAt mv_X1_societyAt lk_X0_231 ⟨(Nat.le_of_ble_eq_true rfl), (Nat.le_of_ble_eq_true rfl)⟩ ⟨(Nat.le_of_ble_eq_true rfl), (Nat.le_of_ble_eq_true rfl)⟩ vq_1 rfl ko_33 rfl (Nat.le_of_ble_eq_true rfl) dX0_gottenBy_20) ?_
    obtain ⟨hc14, h⟩ := ifn h
    refine G_getI C fl_X0_235_8 (Or.inl rfl) (KO.dy hc14) dX0_gottenBy_23 ?_
    refine G_istore (L' := [(4, .int (sI σ v13 1)), (0, .ref 53), (1, .int p0), (2, .ref p1), (3, .int p2)]) C (Nat.le_of_ble_eq_true rfl) rfl dX0_gottenBy_26 ?_
    refine G_aload_n C 1 rfl rfl dX0_gottenBy_28 ?_
    refine G_getF C fl_X0_52_0 rfl rfl fn_53_15 dX0_gottenBy_29 ?_
    refine G_iload_n C 2 rfl rfl dX0_gottenBy_32 ?_
    refine G_iaload C ks_59 hc1 dX0_gottenBy_33 ?_
    refine G_aload_n C 1 rfl rfl dX0_gottenBy_34 ?_
    refine G_getF C fl_X0_52_0 rfl rfl fn_53_15 dX0_gottenBy_35 ?_
    refine G_iload_n C 2 rfl rfl dX0_gottenBy_38 ?_
    refine G_iaload C ks_59 hc1 dX0_gottenBy_39 ?_
    refine G_i2l C dX0_gottenBy_40 ?_
    refine G_iload C 0 rfl dX0_gottenBy_41 ?_
    refine G_i2l C dX0_gottenBy_43 ?_
    refine G_lmul C dX0_gottenBy_44 ?_
    refine G_ldc2 C kc_X0_146 dX0_gottenBy_45 ?_
    refine G_ldiv C (by decide) dX0_gottenBy_48 ?_
    refine G_l2i C dX0_gottenBy_49 ?_
    refine G_isub C dX0_gottenBy_50 ?_
    obtain rfl := Option.some.inj h
    exact G_iret C hr (Nat.le_of_ble_eq_true rfl) (Nat.le_of_ble_eq_true rfl) dX0_gottenBy_51
set_option maxRecDepth 100000 in
set_option maxHeartbeats 4000000 in
theorem eX0_payOut_93 (C : Cx E p s m args meth c cX0_payOut 4 RX0) (hr : meth.sig.returnType = none) {σ0 : Sto} {r2 : Sto} {σ : Sto} {f2 : Nat → Int32 → Int32 → Sto → Option Sto} {x1 : Nat} {x2 : Int32} {x3 : Int32} {y1 : Int32} {y2 : Int32} (hf2 : ∀ (x1 : Nat) (x2 : Int32) (x3 : Int32) (σ' : Sto), f2 x1 x2 x3 σ' = some r2 → G p l e (rmd 4 0 0) s m args below meth c E true (sZ σ0) ad0 (MQ below (QV E true σ0 r2 ad0) args s 0 0 (AE E)) 4 0 0 σ' 2 [(0, .ref 53), (1, .ref x1), (2, .int x2), (3, .int x3)] []) (h : mX0_payOut_93 f2 x1 x2 x3 y1 y2 σ = some r2) : G p l e (rmd 4 0 0) s m args below meth c E true (sZ σ0) ad0 (MQ below (QV E true σ0 r2 ad0) args s 0 0 (AE E)) 4 0 0 σ 93 [(0, .ref 53), (1, .ref x1), (2, .int x2), (3, .int x3)] [.int y2, .int y1, .ref 53] := by
  unfold mX0_payOut_93 at h
  refine G_iadd C dX0_payOut_93 ?_
  obtain ⟨σ14, hs14, h⟩ := stp_elim h
  refine G_putI C fl_X0_43_0 fp_X0_0_12 (Or.inl rfl) (Or.inl rfl) ko_53 dX0_payOut_94 ?_
  rw [← hs14]
  refine G_iinc (v := 1) (L' := [(3, .int (x3 + (1 : Int32))), (0, .ref 53), (1, .ref x1), (2, .int x2)]) C 3 rfl rfl (Nat.le_of_ble_eq_true rfl) rfl dX0_payOut_97 ?_
  refine G_goto (tgt := 2) C rfl dX0_payOut_100 ?_
  refine G_sub [1, 2, 3, 0] rfl ?_
  exact hf2 _ _ _ _ h
set_option maxRecDepth 100000 in
set_option maxHeartbeats 4000000 in
theorem eX0_payOut_2B (C : Cx E p s m args meth c cX0_payOut 4 RX0) (hr : meth.sig.returnType = none) {σ0 : Sto} {r2 : Sto} {σ : Sto} {f2 : Nat → Int32 → Int32 → Sto → Option Sto} {x1 : Nat} {x2 : Int32} {x3 : Int32} (hf2 : ∀ (x1 : Nat) (x2 : Int32) (x3 : Int32) (σ' : Sto), f2 x1 x2 x3 σ' = some r2 → G p l e (rmd 4 0 0) s m args below meth c E true (sZ σ0) ad0 (MQ below (QV E true σ0 r2 ad0) args s 0 0 (AE E)) 4 0 0 σ' 2 [(0, .ref 53), (1, .ref x1), (2, .int x2), (3, .int x3)] []) (h : mX0_payOut_2B f2 x1 x2 x3 σ = some r2) : G p l e (rmd 4 0 0) s m args below meth c E true (sZ σ0) ad0 (MQ below (QV E true σ0 r2 ad0) args s 0 0 (AE E)) 4 0 0 σ 2 [(0, .ref 53), (1, .ref x1), (2, .int x2), (3, .int x3)] [] := by
  unfold mX0_payOut_2B at h
  refine G_iload_n C 3 rfl rfl dX0_payOut_2 ?_
  refine G_bipush C (v := 30) rfl dX0_payOut_3 ?_
  refine G_icmp_ge (tgt := 103) C rfl dX0_payOut_5 (fun hc1 => ?_) (fun hc1 => ?_)
  · replace h := (if_pos hc1).symm.trans h
    obtain rfl := Option.some.inj h
    exact G_vret C hr (Nat.le_of_ble_eq_true rfl) (Nat.le_of_ble_eq_true rfl) dX0_payOut_103
  · replace h := (if_neg hc1).symm.trans h
    refine G_aload_n C 0 rfl rfl dX0_payOut_8 ?_
    refine G_getF C fl_X0_61_0 rfl rfl fn_53_18 dX0_payOut_9 ?_
    refine G_iload_n C 3 rfl rfl dX0_payOut_12 ?_
    refine G_iconst C (v := 0) rfl dX0_payOut_13 ?_
    obtain ⟨hc2, h⟩ := ifn h
    obtain ⟨σ3, hs3, h⟩ := stp_elim h
    refine G_iastore C ks_62 hc2 dX0_payOut_14 ?_
    rw [← hs3]
    refine G_aload_n C 0 rfl rfl dX0_payOut_15 ?_
    refine G_getF C fl_X0_58_0 rfl rfl fn_53_17 dX0_payOut_16 ?_
    refine G_iload_n C 3 rfl rfl dX0_payOut_19 ?_
    refine G_iconst C (v := -1) rfl dX0_payOut_20 ?_
    obtain ⟨σ4, hs4, h⟩ := stp_elim h
    refine G_iastore C ks_61 hc2 dX0_payOut_21 ?_
    rw [← hs4]
    refine G_aload_n C 0 rfl rfl dX0_payOut_22 ?_
    refine G_getF C fl_X0_52_0 rfl rfl fn_53_15 dX0_payOut_23 ?_
    refine G_iload_n C 3 rfl rfl dX0_payOut_26 ?_
    refine G_iaload C ks_59 hc2 dX0_payOut_27 ?_
    refine G_if_le (tgt := 97) C rfl dX0_payOut_28 (fun hc5 => ?_) (fun hc5 => ?_)
    · replace h := (if_pos hc5).symm.trans h
      refine G_iinc (v := 1) (L' := [(3, .int (x3 + (1 : Int32))), (0, .ref 53), (1, .ref x1), (2, .int x2)]) C 3 rfl rfl (Nat.le_of_ble_eq_true rfl) rfl dX0_payOut_97 ?_
      refine G_goto (tgt := 2) C rfl dX0_payOut_100 ?_
      refine G_sub [1, 2, 3, 0] rfl ?_
      exact hf2 _ _ _ _ h
    · replace h := (if_neg hc5).symm.trans h
      refine G_aload_n C 0 rfl rfl dX0_payOut_31 ?_
      refine G_getF C fl_X0_58_0 rfl rfl fn_53_17 dX0_payOut_32 ?_
      refine G_iload_n C 3 rfl rfl dX0_payOut_35 ?_
      refine G_aload_n C 0 rfl rfl dX0_payOut_36 ?_
      refine G_getF C fl_X0_64_0 rfl rfl fn_53_0 dX0_payOut_37 ?_
      refine G_iload_n C 3 rfl rfl dX0_payOut_40 ?_
      refine G_aload_n C 0 rfl rfl dX0_payOut_41 ?_
      refine G_getR C fl_X0_74_0 rfl ko_53 dX0_payOut_42 ?_
      obtain ⟨hc6, h⟩ := ifn h
      refine G_getI C fl_X0_106_3 (Or.inl rfl) (KO.dy hc6) dX0_payOut_45 ?_
      refine G_aload_n C 0 rfl rfl dX0_payOut_48 ?_
      refine G_getI C fl_X0_9_0 (Or.inl rfl) ko_53 dX0_payOut_49 ?_
      obtain ⟨v7, hv7, h⟩ := bnd h
      refine G_callI (run_V C [.int x3, .int (sI σ4 (sR σ4 53 5) 6), .int (sI σ4 53 1)] [.int x3, .ref 61] (dX1_mandateOf hv7) ml_X1_mandateOf mv_X1_mandateOf lk_X0_224 ⟨(Nat.le_of_ble_eq_true rfl), (Nat.le_of_ble_eq_true rfl)⟩ ⟨(Nat.le_of_ble_eq_true rfl), (Nat.le_of_ble_eq_true rfl)⟩ vq_1 rfl ko_33 rfl (Nat.le_of_ble_eq_true rfl) dX0_payOut_52) ?_
      obtain ⟨σ8, hs8, h⟩ := stp_elim h
      refine G_iastore C ks_61 hc2 dX0_payOut_55 ?_
      rw [← hs8]
      have hc9 : sK σ8 (sR σ4 53 5) = 4 := by rw [hs8]; exact hc6
      refine G_aload_n C 0 rfl rfl dX0_payOut_56 ?_
      refine G_getF C fl_X0_61_0 rfl rfl fn_53_18 dX0_payOut_57 ?_
      refine G_iload_n C 3 rfl rfl dX0_payOut_60 ?_
      refine G_aload_n C 0 rfl rfl dX0_payOut_61 ?_
      refine G_iload_n C 3 rfl rfl dX0_payOut_62 ?_
      refine G_aload_n C 1 rfl rfl dX0_payOut_63 ?_
      refine G_iload_n C 2 rfl rfl dX0_payOut_64 ?_
      obtain ⟨v10, hv10, h⟩ := bnd h
      refine G_callI (run_V C [.int x3, .ref x1, .int x2] [.int x3, .ref 62] (dX0_gottenBy hv10) ml_X0_gottenBy mv_X0_gottenBy lk_X0_227 ⟨(Nat.le_of_ble_eq_true rfl), (Nat.le_of_ble_eq_true rfl)⟩ ⟨(Nat.le_of_ble_eq_true rfl), (Nat.le_of_ble_eq_true rfl)⟩ vq_0 rfl ko_53 rfl (Nat.le_of_ble_eq_true rfl) dX0_payOut_65) ?_
      obtain ⟨σ11, hs11, h⟩ := stp_elim h
      refine G_iastore C ks_62 hc2 dX0_payOut_68 ?_
      rw [← hs11]
      have hc12 : sK σ11 (sR σ4 53 5) = 4 := by rw [hs11]; exact hc9
      refine G_aload_n C 0 rfl rfl dX0_payOut_69 ?_
      refine G_dup C rfl dX0_payOut_70 ?_
      refine G_getI C fl_X0_43_0 (Or.inl rfl) ko_53 dX0_payOut_71 ?_
      refine G_aload_n C 0 rfl rfl dX0_payOut_74 ?_
      refine G_getF C fl_X0_61_0 rfl rfl fn_53_18 dX0_payOut_75 ?_
      refine G_iload_n C 3 rfl rfl dX0_payOut_78 ?_
      refine G_iaload C ks_62 hc2 dX0_payOut_79 ?_
      refine G_if_ne (tgt := 92) C rfl dX0_payOut_80 (fun hc13 => ?_) (fun hc13 => ?_)
      · replace h := (if_neg hc13).symm.trans h
        refine G_iconst C (v := 0) rfl dX0_payOut_92 ?_
        exact eX0_payOut_93 C hr hf2 h
      · replace h := (if_pos hc13).symm.trans h
        refine G_aload_n C 0 rfl rfl dX0_payOut_83 ?_
        refine G_getF C fl_X0_52_0 rfl rfl fn_53_15 dX0_payOut_84 ?_
        refine G_iload_n C 3 rfl rfl dX0_payOut_87 ?_
        refine G_iaload C ks_59 hc2 dX0_payOut_88 ?_
        refine G_goto (tgt := 93) C rfl dX0_payOut_89 ?_
        exact eX0_payOut_93 C hr hf2 h
set_option maxRecDepth 100000 in
set_option maxHeartbeats 4000000 in
theorem eX0_payOut_2 (C : Cx E p s m args meth c cX0_payOut 4 RX0) (hr : meth.sig.returnType = none) {σ0 : Sto} {r2 : Sto} {σ : Sto} {n : Nat} {x1 : Nat} {x2 : Int32} {x3 : Int32} (h : mX0_payOut_2 n x1 x2 x3 σ = some r2) : G p l e (rmd 4 0 0) s m args below meth c E true (sZ σ0) ad0 (MQ below (QV E true σ0 r2 ad0) args s 0 0 (AE E)) 4 0 0 σ 2 [(0, .ref 53), (1, .ref x1), (2, .int x2), (3, .int x3)] [] := by
  induction n generalizing x1 x2 x3 σ with
  | zero => exact nomatch (show (none : Option Sto) = some r2 from h)
  | succ n ih => exact eX0_payOut_2B C hr (fun z0 z1 z2 σ9 h9 => ih h9) h
set_option maxRecDepth 100000 in
set_option maxHeartbeats 4000000 in
theorem dX0_payOut {σ : Sto} {p0 : Nat} {p1 : Int32} {r2 : Sto} (h : mX0_payOut p0 p1 σ = some r2) : MM l yX0_payOut cX0_payOut 4 none 4 0 0 E true σ [.ref 53, .ref p0, .int p1] (QV E true σ r2) := by
  unfold mX0_payOut at h
  refine MM_of (by decide) (Nat.le_of_ble_eq_true rfl) rfl (fun p e s m args below meth c ad0 C hr hn => ?_)
  refine G_iconst C (v := 0) rfl dX0_payOut_0 ?_
  refine G_istore_n (L' := [(3, .int (0 : Int32)), (0, .ref 53), (1, .ref p0), (2, .int p1)]) C rfl (Nat.le_of_ble_eq_true rfl) rfl dX0_payOut_1 ?_
  refine G_sub [1, 2, 3, 0] rfl ?_
  exact eX0_payOut_2 C hr h
set_option maxRecDepth 100000 in
set_option maxHeartbeats 4000000 in
theorem dX0_settle {σ : Sto} {p0 : Nat} {p1 : Int32} {r2 : Sto} (h : mX0_settle p0 p1 σ = some r2) : MM l yX0_settle cX0_settle 4 none 6 0 0 E true σ [.ref 53, .ref p0, .int p1] (QV E true σ r2) := by
  unfold mX0_settle at h
  refine MM_of (by decide) (Nat.le_of_ble_eq_true rfl) rfl (fun p e s m args below meth c ad0 C hr hn => ?_)
  refine G_aload_n C 0 rfl rfl dX0_settle_0 ?_
  refine G_aload_n C 1 rfl rfl dX0_settle_1 ?_
  obtain ⟨σ1, hv1, h⟩ := bnd h
  refine G_callV (run_V C [.ref p0] [] (dX0_look hv1) ml_X0_look mv_X0_look lk_X0_112 ⟨(Nat.le_of_ble_eq_true rfl), (Nat.le_of_ble_eq_true rfl)⟩ ⟨(Nat.le_of_ble_eq_true rfl), (Nat.le_of_ble_eq_true rfl)⟩ vq_0 rfl ko_53 rfl (Nat.le_of_ble_eq_true rfl) dX0_settle_2) ?_
  refine G_aload_n C 0 rfl rfl dX0_settle_5 ?_
  refine G_getF C fl_X0_64_0 rfl rfl fn_53_0 dX0_settle_6 ?_
  refine G_aload_n C 0 rfl rfl dX0_settle_9 ?_
  refine G_getF C fl_X0_64_0 rfl rfl fn_53_0 dX0_settle_10 ?_
  refine G_aload_n C 1 rfl rfl dX0_settle_13 ?_
  obtain ⟨hc2, h⟩ := ifn h
  refine G_getI C fl_X0_116_3 (Or.inl rfl) (KO.dy hc2) dX0_settle_14 ?_
  refine G_aload_n C 1 rfl rfl dX0_settle_17 ?_
  refine G_getI C fl_X0_106_3 (Or.inl rfl) (KO.dy hc2) dX0_settle_18 ?_
  refine G_aload_n C 0 rfl rfl dX0_settle_21 ?_
  refine G_getI C fl_X0_9_0 (Or.inl rfl) ko_53 dX0_settle_22 ?_
  obtain ⟨v3, hv3, h⟩ := bnd h
  refine G_callI (run_V C [.int (sI σ1 p0 10), .int (sI σ1 p0 6), .int (sI σ1 53 1)] [.ref 33] (dX1_lawFor hv3) ml_X1_lawFor mv_X1_lawFor lk_X0_119 ⟨(Nat.le_of_ble_eq_true rfl), (Nat.le_of_ble_eq_true rfl)⟩ ⟨(Nat.le_of_ble_eq_true rfl), (Nat.le_of_ble_eq_true rfl)⟩ vq_1 rfl ko_33 rfl (Nat.le_of_ble_eq_true rfl) dX0_settle_25) ?_
  obtain ⟨v4, hv4, h⟩ := bnd h
  refine G_callR (run_V C [.int v3] [] (dX1_lawAt hv4) ml_X1_lawAt mv_X1_lawAt lk_X0_123 ⟨(Nat.le_of_ble_eq_true rfl), (Nat.le_of_ble_eq_true rfl)⟩ ⟨(Nat.le_of_ble_eq_true rfl), (Nat.le_of_ble_eq_true rfl)⟩ vq_1 rfl ko_33 rfl (Nat.le_of_ble_eq_true rfl) dX0_settle_28) ?_
  refine G_astore_n (L' := [(3, .ref v4), (0, .ref 53), (1, .ref p0), (2, .int p1)]) C rfl (Nat.le_of_ble_eq_true rfl) rfl dX0_settle_31 ?_
  refine G_aload_n C 1 rfl rfl dX0_settle_32 ?_
  refine G_aload_n C 0 rfl rfl dX0_settle_33 ?_
  obtain ⟨σ5, hv5, h⟩ := bnd h
  refine G_callV (run_V C [.ref v4] [] (dX0_apply hv5) ml_X0_apply mv_X0_apply lk_X0_127 ⟨(Nat.le_of_ble_eq_true rfl), (Nat.le_of_ble_eq_true rfl)⟩ ⟨(Nat.le_of_ble_eq_true rfl), (Nat.le_of_ble_eq_true rfl)⟩ vq_0 rfl ko_53 rfl (Nat.le_of_ble_eq_true rfl) dX0_settle_34) ?_
  refine G_aload_n C 1 rfl rfl dX0_settle_37 ?_
  obtain ⟨σ6, hv6, h⟩ := bnd h
  refine G_callV (run_V C [] [] (dX0_passOn hv6) ml_X0_passOn mv_X0_passOn lk_X0_131 ⟨(Nat.le_of_ble_eq_true rfl), (Nat.le_of_ble_eq_true rfl)⟩ ⟨(Nat.le_of_ble_eq_true rfl), (Nat.le_of_ble_eq_true rfl)⟩ vq_0 rfl ko_53 rfl (Nat.le_of_ble_eq_true rfl) dX0_settle_38) ?_
  refine G_aload_n C 1 rfl rfl dX0_settle_41 ?_
  refine G_aload_n C 0 rfl rfl dX0_settle_42 ?_
  refine G_iload_n C 3 rfl rfl dX0_settle_43 ?_
  obtain ⟨σ7, hv7, h⟩ := bnd h
  refine G_callV (run_V C [.ref v4, .int p1] [] (dX0_payOut hv7) ml_X0_payOut mv_X0_payOut lk_X0_134 ⟨(Nat.le_of_ble_eq_true rfl), (Nat.le_of_ble_eq_true rfl)⟩ ⟨(Nat.le_of_ble_eq_true rfl), (Nat.le_of_ble_eq_true rfl)⟩ vq_0 rfl ko_53 rfl (Nat.le_of_ble_eq_true rfl) dX0_settle_44) ?_
  obtain rfl := Option.some.inj h
  exact G_vret C hr (Nat.le_of_ble_eq_true rfl) (Nat.le_of_ble_eq_true rfl) dX0_settle_47
set_option maxRecDepth 100000 in
set_option maxHeartbeats 4000000 in
theorem dX2_init {σ : Sto} {a0 : Nat} {p0 : Nat} {p1 : Nat} {r2 : Sto} (hk0 : sK σ a0 = 3) (h : mX2_init a0 p0 p1 σ = some r2) : MM l yX2_init cX2_init 3 none 2 3 89 E false σ [.ref a0, .ref p0, .ref p1] (QV E false σ r2) := by
  unfold mX2_init at h
  refine MM_of (by decide) (Nat.le_of_ble_eq_true rfl) rfl (fun p e s m args below meth c ad0 C hr hn => ?_)
  refine G_aload_n C 0 rfl rfl dX2_init_0 ?_
  refine G_objInit C lk_X2_3 oi_1 oi_2 (kd := 3) (by decide) (KO.dy hk0) (Nat.le_of_ble_eq_true rfl) (Nat.le_of_ble_eq_true rfl) dX2_init_1 ?_
  refine G_aload_n C 0 rfl rfl dX2_init_4 ?_
  refine G_bipush C (v := 25) rfl dX2_init_5 ?_
  obtain ⟨σ1, hs1, h⟩ := stp_elim h
  refine G_newJ (N := 25) C na_J (by decide) rfl (Nat.le_of_ble_eq_true rfl) (Nat.le_of_ble_eq_true rfl) (Nat.le_of_ble_eq_true rfl) dX2_init_7 ?_
  rw [← hs1]
  have hc2 : sK σ1 (sZ σ) = 101 := by rw [hs1]; exact (nwK_K _ _ _ _).trans (if_pos rfl)
  have hc3 : sN σ1 (sZ σ) = 25 := by rw [hs1]; exact (nwK_N _ _ _ _).trans (if_pos rfl)
  obtain ⟨hc4, h⟩ := ifn h
  obtain ⟨σ5, hs5, h⟩ := stp_elim h
  refine G_putR C fl_X2_9_2 fp_X2_2_2 (Or.inr hn) rfl (fun z => nomatch z) (KO.dy hc4) dX2_init_9 ?_
  rw [← hs5]
  have hc6 : sK σ5 (sZ σ) = 101 := by rw [hs5]; exact hc2
  have hc7 : sN σ5 (sZ σ) = 25 := by rw [hs5]; exact hc3
  have hc8 : sK σ5 a0 = 3 := by rw [hs5]; exact hc4
  refine G_aload_n C 0 rfl rfl dX2_init_12 ?_
  refine G_bipush C (v := 32) rfl dX2_init_13 ?_
  obtain ⟨σ9, hs9, h⟩ := stp_elim h
  refine G_newJ (N := 32) C na_J (by decide) rfl (Nat.le_of_ble_eq_true rfl) (Nat.le_of_ble_eq_true rfl) (Nat.le_of_ble_eq_true rfl) dX2_init_15 ?_
  rw [← hs9]
  have hc10 : sK σ9 (sZ σ5) = 101 := by rw [hs9]; exact (nwK_K _ _ _ _).trans (if_pos rfl)
  have hc11 : sN σ9 (sZ σ5) = 32 := by rw [hs9]; exact (nwK_N _ _ _ _).trans (if_pos rfl)
  obtain ⟨hc12, h⟩ := ifn h
  obtain ⟨σ13, hs13, h⟩ := stp_elim h
  refine G_putR C fl_X2_15_2 fp_X2_2_3 (Or.inr hn) rfl (fun z => nomatch z) (KO.dy hc12) dX2_init_17 ?_
  rw [← hs13]
  have hc14 : sK σ13 (sZ σ5) = 101 := by rw [hs13]; exact hc10
  have hc15 : sN σ13 (sZ σ5) = 32 := by rw [hs13]; exact hc11
  have hc16 : sK σ13 a0 = 3 := by rw [hs13]; exact hc12
  refine G_aload_n C 0 rfl rfl dX2_init_20 ?_
  refine G_bipush C (v := 32) rfl dX2_init_21 ?_
  obtain ⟨σ17, hs17, h⟩ := stp_elim h
  refine G_newI (N := 32) C na_I (by decide) rfl (Nat.le_of_ble_eq_true rfl) (Nat.le_of_ble_eq_true rfl) (Nat.le_of_ble_eq_true rfl) dX2_init_23 ?_
  rw [← hs17]
  have hc18 : sK σ17 (sZ σ13) = 100 := by rw [hs17]; exact (nwK_K _ _ _ _).trans (if_pos rfl)
  have hc19 : sN σ17 (sZ σ13) = 32 := by rw [hs17]; exact (nwK_N _ _ _ _).trans (if_pos rfl)
  obtain ⟨hc20, h⟩ := ifn h
  obtain ⟨σ21, hs21, h⟩ := stp_elim h
  refine G_putR C fl_X2_18_2 fp_X2_2_4 (Or.inr hn) rfl (fun z => nomatch z) (KO.dy hc20) dX2_init_25 ?_
  rw [← hs21]
  have hc22 : sK σ21 (sZ σ13) = 100 := by rw [hs21]; exact hc18
  have hc23 : sN σ21 (sZ σ13) = 32 := by rw [hs21]; exact hc19
  have hc24 : sK σ21 a0 = 3 := by rw [hs21]; exact hc20
  refine G_aload_n C 0 rfl rfl dX2_init_28 ?_
  refine G_aload_n C 1 rfl rfl dX2_init_29 ?_
  obtain ⟨σ25, hs25, h⟩ := stp_elim h
  refine G_putR C fl_X2_22_2 fp_X2_2_0 (Or.inr hn) rfl (fun z => nomatch z) (KO.dy hc24) dX2_init_30 ?_
  rw [← hs25]
  have hc26 : sK σ25 (sZ σ13) = 100 := by rw [hs25]; exact hc22
  have hc27 : sN σ25 (sZ σ13) = 32 := by rw [hs25]; exact hc23
  have hc28 : sK σ25 a0 = 3 := by rw [hs25]; exact hc24
  refine G_aload_n C 0 rfl rfl dX2_init_33 ?_
  refine G_aload_n C 2 rfl rfl dX2_init_34 ?_
  obtain ⟨σ29, hs29, h⟩ := stp_elim h
  refine G_putR C fl_X2_26_2 fp_X2_2_1 (Or.inr hn) rfl (fun z => nomatch z) (KO.dy hc28) dX2_init_35 ?_
  rw [← hs29]
  have hc30 : sK σ29 (sZ σ13) = 100 := by rw [hs29]; exact hc26
  have hc31 : sN σ29 (sZ σ13) = 32 := by rw [hs29]; exact hc27
  have hc32 : sK σ29 a0 = 3 := by rw [hs29]; exact hc28
  obtain rfl := Option.some.inj h
  exact G_vret C hr (Nat.le_of_ble_eq_true rfl) (Nat.le_of_ble_eq_true rfl) dX2_init_38
set_option maxRecDepth 100000 in
set_option maxHeartbeats 4000000 in
theorem eX2_pairOf_23 (C : Cx E p s m args meth c cX2_pairOf 3 RX2) (hr : meth.sig.returnType = (some .int)) {r : Int32} {σ : Sto} {x0 : Int32} {x1 : Int32} {y0 : Int32} (h : mX2_pairOf_23 x0 x1 y0 σ = r) : G p l e (rmd 2 0 0) s m args below meth c E st (sZ σ) ad0 (MQ below (QI E st σ r σ ad0) args s 0 0 (AE E)) 3 0 0 σ 23 [(0, .int x0), (1, .int x1)] [.int y0] := by
  unfold mX2_pairOf_23 at h
  refine G_istore_n (L' := [(2, .int y0), (0, .int x0), (1, .int x1)]) C rfl (Nat.le_of_ble_eq_true rfl) rfl dX2_pairOf_23 ?_
  refine G_iload_n C 0 rfl rfl dX2_pairOf_24 ?_
  refine G_if_eq (tgt := 36) C rfl dX2_pairOf_25 (fun hc3 => ?_) (fun hc3 => ?_)
  · replace h := (if_pos hc3).symm.trans h
    refine G_iconst C (v := -1) rfl dX2_pairOf_36 ?_
    subst h
    exact G_iret C hr (Nat.le_of_ble_eq_true rfl) (Nat.le_of_ble_eq_true rfl) dX2_pairOf_37
  · replace h := (if_neg hc3).symm.trans h
    refine G_iload_n C 1 rfl rfl dX2_pairOf_28 ?_
    refine G_iconst C (v := 5) rfl dX2_pairOf_29 ?_
    refine G_imul C dX2_pairOf_30 ?_
    refine G_iload_n C 2 rfl rfl dX2_pairOf_31 ?_
    refine G_iadd C dX2_pairOf_32 ?_
    refine G_goto (tgt := 37) C rfl dX2_pairOf_33 ?_
    subst h
    exact G_iret C hr (Nat.le_of_ble_eq_true rfl) (Nat.le_of_ble_eq_true rfl) dX2_pairOf_37
set_option maxRecDepth 100000 in
set_option maxHeartbeats 4000000 in
theorem eX2_pairOf_22 (C : Cx E p s m args meth c cX2_pairOf 3 RX2) (hr : meth.sig.returnType = (some .int)) {r : Int32} {σ : Sto} {x0 : Int32} {x1 : Int32} (h : mX2_pairOf_22 x0 x1 σ = r) : G p l e (rmd 2 0 0) s m args below meth c E st (sZ σ) ad0 (MQ below (QI E st σ r σ ad0) args s 0 0 (AE E)) 3 0 0 σ 22 [(0, .int x0), (1, .int x1)] [] := by
  unfold mX2_pairOf_22 at h
  refine G_iconst C (v := 0) rfl dX2_pairOf_22 ?_
  exact eX2_pairOf_23 C hr h
set_option maxRecDepth 100000 in
set_option maxHeartbeats 4000000 in
theorem dX2_pairOf {σ : Sto} {p0 : Int32} {p1 : Int32} {r : Int32} (h : mX2_pairOf p0 p1 σ = r) : MM l yX2_pairOf cX2_pairOf 3 (some .int) 2 0 0 E st σ [.int p0, .int p1] (QI E st σ r σ) := by
  unfold mX2_pairOf at h
  refine MM_of (by decide) (Nat.le_of_ble_eq_true rfl) rfl (fun p e s m args below meth c ad0 C hr hn => ?_)
  refine G_iload_n C 0 rfl rfl dX2_pairOf_0 ?_
  refine G_iconst C (v := 0) rfl dX2_pairOf_1 ?_
  refine G_iconst C (v := 4) rfl dX2_pairOf_2 ?_
  refine G_callI (run_SN C [.int p0, .int (0 : Int32), .int (4 : Int32)] [] (dX11_isWithin rfl) ml_X11_isWithin ms_X11_isWithin (by decide) ⟨(Nat.le_of_ble_eq_true rfl), (Nat.le_of_ble_eq_true rfl)⟩ ⟨(Nat.le_of_ble_eq_true rfl), (Nat.le_of_ble_eq_true rfl)⟩ rfl (Nat.le_of_ble_eq_true rfl) dX2_pairOf_3) ?_
  refine G_if_eq (tgt := 22) C rfl dX2_pairOf_6 (fun hc2 => ?_) (fun hc2 => ?_)
  · replace h := (if_pos hc2).symm.trans h
    exact eX2_pairOf_22 C hr h
  · replace h := (if_neg hc2).symm.trans h
    refine G_iload_n C 1 rfl rfl dX2_pairOf_9 ?_
    refine G_iconst C (v := 0) rfl dX2_pairOf_10 ?_
    refine G_iconst C (v := 4) rfl dX2_pairOf_11 ?_
    refine G_callI (run_SN C [.int p1, .int (0 : Int32), .int (4 : Int32)] [] (dX11_isWithin rfl) ml_X11_isWithin ms_X11_isWithin (by decide) ⟨(Nat.le_of_ble_eq_true rfl), (Nat.le_of_ble_eq_true rfl)⟩ ⟨(Nat.le_of_ble_eq_true rfl), (Nat.le_of_ble_eq_true rfl)⟩ rfl (Nat.le_of_ble_eq_true rfl) dX2_pairOf_12) ?_
    refine G_if_eq (tgt := 22) C rfl dX2_pairOf_15 (fun hc5 => ?_) (fun hc5 => ?_)
    · replace h := (if_pos hc5).symm.trans h
      exact eX2_pairOf_22 C hr h
    · replace h := (if_neg hc5).symm.trans h
      refine G_iconst C (v := 1) rfl dX2_pairOf_18 ?_
      refine G_goto (tgt := 23) C rfl dX2_pairOf_19 ?_
      exact eX2_pairOf_23 C hr h
set_option maxRecDepth 100000 in
set_option maxHeartbeats 4000000 in
theorem eX2_addOwed_2B (C : Cx E p s m args meth c cX2_addOwed 4 RX2) (hr : meth.sig.returnType = none) {σ0 : Sto} {r2 : Sto} {σ : Sto} {f2 : Int32 → Int32 → Sto → Option Sto} {x1 : Int32} {x2 : Int32} (hf2 : ∀ (x1 : Int32) (x2 : Int32) (σ' : Sto), f2 x1 x2 σ' = some r2 → G p l e (rmd 3 0 0) s m args below meth c E true (sZ σ0) ad0 (MQ below (QV E true σ0 r2 ad0) args s 0 0 (AE E)) 4 0 0 σ' 2 [(0, .ref 63), (1, .int x1), (2, .int x2)] []) (h : mX2_addOwed_2B f2 x1 x2 σ = some r2) : G p l e (rmd 3 0 0) s m args below meth c E true (sZ σ0) ad0 (MQ below (QV E true σ0 r2 ad0) args s 0 0 (AE E)) 4 0 0 σ 2 [(0, .ref 63), (1, .int x1), (2, .int x2)] [] := by
  unfold mX2_addOwed_2B at h
  refine G_iload_n C 2 rfl rfl dX2_addOwed_2 ?_
  refine G_bipush C (v := 30) rfl dX2_addOwed_3 ?_
  refine G_icmp_ge (tgt := 65) C rfl dX2_addOwed_5 (fun hc1 => ?_) (fun hc1 => ?_)
  · replace h := (if_pos hc1).symm.trans h
    obtain rfl := Option.some.inj h
    exact G_vret C hr (Nat.le_of_ble_eq_true rfl) (Nat.le_of_ble_eq_true rfl) dX2_addOwed_65
  · replace h := (if_neg hc1).symm.trans h
    refine G_iload_n C 1 rfl rfl dX2_addOwed_8 ?_
    refine G_aload_n C 0 rfl rfl dX2_addOwed_9 ?_
    refine G_getF C fl_X2_26_2 rfl rfl fn_63_1 dX2_addOwed_10 ?_
    refine G_getF C fl_X2_69_0 rfl rfl fn_53_17 dX2_addOwed_13 ?_
    refine G_iload_n C 2 rfl rfl dX2_addOwed_16 ?_
    obtain ⟨hc2, h⟩ := ifn h
    refine G_iaload C ks_61 hc2 dX2_addOwed_17 ?_
    refine G_callI (run_S C [.int x1, .int (sI σ 61 (x2).toNatClampNeg)] [] (dX2_pairOf rfl) ml_X2_pairOf ms_X2_pairOf lk_X2_72 ⟨(Nat.le_of_ble_eq_true rfl), (Nat.le_of_ble_eq_true rfl)⟩ ⟨(Nat.le_of_ble_eq_true rfl), (Nat.le_of_ble_eq_true rfl)⟩ rfl (Nat.le_of_ble_eq_true rfl) dX2_addOwed_18) ?_
    refine G_istore_n (L' := [(3, .int (mX2_pairOf x1 (sI σ 61 (x2).toNatClampNeg) σ)), (0, .ref 63), (1, .int x1), (2, .int x2)]) C rfl (Nat.le_of_ble_eq_true rfl) rfl dX2_addOwed_21 ?_
    refine G_iload_n C 0 rfl rfl dX2_addOwed_22 ?_
    refine G_iconst C (v := -1) rfl dX2_addOwed_23 ?_
    refine G_icmp_eq (tgt := 59) C rfl dX2_addOwed_24 (fun hc4 => ?_) (fun hc4 => ?_)
    · replace h := (if_pos hc4).symm.trans h
      refine G_iinc (v := 1) (L' := [(2, .int (x2 + (1 : Int32))), (3, .int (mX2_pairOf x1 (sI σ 61 (x2).toNatClampNeg) σ)), (0, .ref 63), (1, .int x1)]) C 3 rfl rfl (Nat.le_of_ble_eq_true rfl) rfl dX2_addOwed_59 ?_
      refine G_goto (tgt := 2) C rfl dX2_addOwed_62 ?_
      refine G_sub [2, 3, 0] rfl ?_
      exact hf2 _ _ _ h
    · replace h := (if_neg hc4).symm.trans h
      refine G_aload_n C 1 rfl rfl dX2_addOwed_27 ?_
      refine G_getF C fl_X2_26_2 rfl rfl fn_63_1 dX2_addOwed_28 ?_
      refine G_getF C fl_X2_69_0 rfl rfl fn_53_17 dX2_addOwed_31 ?_
      refine G_iload_n C 3 rfl rfl dX2_addOwed_34 ?_
      refine G_iaload C ks_61 hc2 dX2_addOwed_35 ?_
      refine G_iload_n C 2 rfl rfl dX2_addOwed_36 ?_
      refine G_icmp_eq (tgt := 59) C rfl dX2_addOwed_37 (fun hc5 => ?_) (fun hc5 => ?_)
      · replace h := (if_pos hc5).symm.trans h
        refine G_iinc (v := 1) (L' := [(2, .int (x2 + (1 : Int32))), (3, .int (mX2_pairOf x1 (sI σ 61 (x2).toNatClampNeg) σ)), (0, .ref 63), (1, .int x1)]) C 3 rfl rfl (Nat.le_of_ble_eq_true rfl) rfl dX2_addOwed_59 ?_
        refine G_goto (tgt := 2) C rfl dX2_addOwed_62 ?_
        refine G_sub [2, 3, 0] rfl ?_
        exact hf2 _ _ _ h
      · replace h := (if_neg hc5).symm.trans h
        refine G_aload_n C 1 rfl rfl dX2_addOwed_40 ?_
        refine G_getF C fl_X2_9_2 rfl rfl fn_63_2 dX2_addOwed_41 ?_
        refine G_iload_n C 0 rfl rfl dX2_addOwed_44 ?_
        refine G_dup2 C rfl rfl dX2_addOwed_45 ?_
        obtain ⟨hc6, h⟩ := ifn h
        refine G_laload C ks_64 hc6 dX2_addOwed_46 ?_
        refine G_aload_n C 1 rfl rfl dX2_addOwed_47 ?_
        refine G_getF C fl_X2_26_2 rfl rfl fn_63_1 dX2_addOwed_48 ?_
        refine G_getF C fl_X2_76_0 rfl rfl fn_53_15 dX2_addOwed_51 ?_
        refine G_iload_n C 3 rfl rfl dX2_addOwed_54 ?_
        refine G_iaload C ks_59 hc2 dX2_addOwed_55 ?_
        refine G_i2l C dX2_addOwed_56 ?_
        refine G_ladd C dX2_addOwed_57 ?_
        obtain ⟨σ7, hs7, h⟩ := stp_elim h
        refine G_lastore C ks_64 hc6 dX2_addOwed_58 ?_
        rw [← hs7]
        refine G_iinc (v := 1) (L' := [(2, .int (x2 + (1 : Int32))), (3, .int (mX2_pairOf x1 (sI σ 61 (x2).toNatClampNeg) σ)), (0, .ref 63), (1, .int x1)]) C 3 rfl rfl (Nat.le_of_ble_eq_true rfl) rfl dX2_addOwed_59 ?_
        refine G_goto (tgt := 2) C rfl dX2_addOwed_62 ?_
        refine G_sub [2, 3, 0] rfl ?_
        exact hf2 _ _ _ h
set_option maxRecDepth 100000 in
set_option maxHeartbeats 4000000 in
theorem eX2_addOwed_2 (C : Cx E p s m args meth c cX2_addOwed 4 RX2) (hr : meth.sig.returnType = none) {σ0 : Sto} {r2 : Sto} {σ : Sto} {n : Nat} {x1 : Int32} {x2 : Int32} (h : mX2_addOwed_2 n x1 x2 σ = some r2) : G p l e (rmd 3 0 0) s m args below meth c E true (sZ σ0) ad0 (MQ below (QV E true σ0 r2 ad0) args s 0 0 (AE E)) 4 0 0 σ 2 [(0, .ref 63), (1, .int x1), (2, .int x2)] [] := by
  induction n generalizing x1 x2 σ with
  | zero => exact nomatch (show (none : Option Sto) = some r2 from h)
  | succ n ih => exact eX2_addOwed_2B C hr (fun z0 z1 σ9 h9 => ih h9) h
set_option maxRecDepth 100000 in
set_option maxHeartbeats 4000000 in
theorem dX2_addOwed {σ : Sto} {p0 : Int32} {r2 : Sto} (h : mX2_addOwed p0 σ = some r2) : MM l yX2_addOwed cX2_addOwed 4 none 3 0 0 E true σ [.ref 63, .int p0] (QV E true σ r2) := by
  unfold mX2_addOwed at h
  refine MM_of (by decide) (Nat.le_of_ble_eq_true rfl) rfl (fun p e s m args below meth c ad0 C hr hn => ?_)
  refine G_iconst C (v := 0) rfl dX2_addOwed_0 ?_
  refine G_istore_n (L' := [(2, .int (0 : Int32)), (0, .ref 63), (1, .int p0)]) C rfl (Nat.le_of_ble_eq_true rfl) rfl dX2_addOwed_1 ?_
  refine G_sub [1, 2, 0] rfl ?_
  exact eX2_addOwed_2 C hr h
set_option maxRecDepth 100000 in
set_option maxHeartbeats 4000000 in
theorem eX2_clear_34B (C : Cx E p s m args meth c cX2_clear 6 RX2) (hr : meth.sig.returnType = none) {σ0 : Sto} {r2 : Sto} {σ : Sto} {f34 : Int32 → Int32 → Int32 → Sto → Option Sto} {x1 : Int32} {x2 : Int32} {x3 : Int32} (hf34 : ∀ (x1 : Int32) (x2 : Int32) (x3 : Int32) (σ' : Sto), f34 x1 x2 x3 σ' = some r2 → G p l e (rmd 7 0 0) s m args below meth c E true (sZ σ0) ad0 (MQ below (QV E true σ0 r2 ad0) args s 0 0 (AE E)) 6 0 0 σ' 34 [(0, .ref 63), (1, .int x1), (2, .int x2), (3, .int x3)] []) (h : mX2_clear_34B f34 x1 x2 x3 σ = some r2) : G p l e (rmd 7 0 0) s m args below meth c E true (sZ σ0) ad0 (MQ below (QV E true σ0 r2 ad0) args s 0 0 (AE E)) 6 0 0 σ 34 [(0, .ref 63), (1, .int x1), (2, .int x2), (3, .int x3)] [] := by
  unfold mX2_clear_34B at h
  refine G_iload_n C 3 rfl rfl dX2_clear_34 ?_
  refine G_aload_n C 0 rfl rfl dX2_clear_35 ?_
  refine G_getF C fl_X2_22_2 rfl rfl fn_63_0 dX2_clear_36 ?_
  refine G_getI C fl_X2_36_1 (Or.inl rfl) ko_33 dX2_clear_39 ?_
  refine G_icmp_ge (tgt := 115) C rfl dX2_clear_42 (fun hc3 => ?_) (fun hc3 => ?_)
  · replace h := (if_pos hc3).symm.trans h
    obtain rfl := Option.some.inj h
    exact G_vret C hr (Nat.le_of_ble_eq_true rfl) (Nat.le_of_ble_eq_true rfl) dX2_clear_115
  · replace h := (if_neg hc3).symm.trans h
    refine G_aload_n C 0 rfl rfl dX2_clear_45 ?_
    refine G_getF C fl_X2_22_2 rfl rfl fn_63_0 dX2_clear_46 ?_
    refine G_iload_n C 3 rfl rfl dX2_clear_49 ?_
    obtain ⟨v4, hv4, h⟩ := bnd h
    refine G_callR (run_V C [.int x3] [] (dX1_factAt hv4) ml_X1_factAt mv_X1_factAt lk_X2_42 ⟨(Nat.le_of_ble_eq_true rfl), (Nat.le_of_ble_eq_true rfl)⟩ ⟨(Nat.le_of_ble_eq_true rfl), (Nat.le_of_ble_eq_true rfl)⟩ vq_1 rfl ko_33 rfl (Nat.le_of_ble_eq_true rfl) dX2_clear_50) ?_
    refine G_astore (L' := [(4, .ref v4), (0, .ref 63), (1, .int x1), (2, .int x2), (3, .int x3)]) C (Nat.le_of_ble_eq_true rfl) rfl dX2_clear_53 ?_
    refine G_aload_n C 1 rfl rfl dX2_clear_55 ?_
    refine G_getF C fl_X2_22_2 rfl rfl fn_63_0 dX2_clear_56 ?_
    refine G_aload C 0 rfl dX2_clear_59 ?_
    obtain ⟨hc5, h⟩ := ifn h
    refine G_getI C fl_X2_46_3 (Or.inl rfl) (KO.dy hc5) dX2_clear_61 ?_
    obtain ⟨v6, hv6, h⟩ := bnd h
    refine G_callI (run_V C [.int (sI σ v4 10)] [] (dX1_collectorIn hv6) ml_X1_collectorIn mv_X1_collectorIn lk_X2_51 ⟨(Nat.le_of_ble_eq_true rfl), (Nat.le_of_ble_eq_true rfl)⟩ ⟨(Nat.le_of_ble_eq_true rfl), (Nat.le_of_ble_eq_true rfl)⟩ vq_1 rfl ko_33 rfl (Nat.le_of_ble_eq_true rfl) dX2_clear_64) ?_
    refine G_istore (L' := [(5, .int v6), (4, .ref v4), (0, .ref 63), (1, .int x1), (2, .int x2), (3, .int x3)]) C (Nat.le_of_ble_eq_true rfl) rfl dX2_clear_67 ?_
    refine G_iload C 0 rfl dX2_clear_69 ?_
    refine G_iconst C (v := -1) rfl dX2_clear_71 ?_
    refine G_icmp_eq (tgt := 109) C rfl dX2_clear_72 (fun hc7 => ?_) (fun hc7 => ?_)
    · replace h := (if_pos hc7).symm.trans h
      refine G_iinc (v := 1) (L' := [(3, .int (x3 + (1 : Int32))), (5, .int v6), (4, .ref v4), (0, .ref 63), (1, .int x1), (2, .int x2)]) C 5 rfl rfl (Nat.le_of_ble_eq_true rfl) rfl dX2_clear_109 ?_
      refine G_goto (tgt := 34) C rfl dX2_clear_112 ?_
      refine G_sub [3, 4, 5, 0] rfl ?_
      exact hf34 _ _ _ _ h
    · replace h := (if_neg hc7).symm.trans h
      refine G_aload C 1 rfl dX2_clear_75 ?_
      refine G_iload_n C 3 rfl rfl dX2_clear_77 ?_
      obtain ⟨v8, hv8, h⟩ := bnd h
      refine G_callI (run_V C [.int x1] [] (dX3_isSaleOf hc5 hv8) ml_X3_isSaleOf mv_X3_isSaleOf lk_X2_55 ⟨(Nat.le_of_ble_eq_true rfl), (Nat.le_of_ble_eq_true rfl)⟩ ⟨(Nat.le_of_ble_eq_true rfl), (Nat.le_of_ble_eq_true rfl)⟩ vq_3 rfl (KO.dy hc5) rfl (Nat.le_of_ble_eq_true rfl) dX2_clear_78) ?_
      refine G_if_eq (tgt := 109) C rfl dX2_clear_81 (fun hc9 => ?_) (fun hc9 => ?_)
      · replace h := (if_pos hc9).symm.trans h
        refine G_iinc (v := 1) (L' := [(3, .int (x3 + (1 : Int32))), (5, .int v6), (4, .ref v4), (0, .ref 63), (1, .int x1), (2, .int x2)]) C 5 rfl rfl (Nat.le_of_ble_eq_true rfl) rfl dX2_clear_109 ?_
        refine G_goto (tgt := 34) C rfl dX2_clear_112 ?_
        refine G_sub [3, 4, 5, 0] rfl ?_
        exact hf34 _ _ _ _ h
      · replace h := (if_neg hc9).symm.trans h
        refine G_aload C 1 rfl dX2_clear_84 ?_
        refine G_iload_n C 4 rfl rfl dX2_clear_86 ?_
        obtain ⟨v10, hv10, h⟩ := bnd h
        refine G_callI (run_U C [.int x2] [] (dX9_isKnownOn3 hc5 hv10) wu_X2_59 ⟨(Nat.le_of_ble_eq_true rfl), (Nat.le_of_ble_eq_true rfl)⟩ ⟨(Nat.le_of_ble_eq_true rfl), (Nat.le_of_ble_eq_true rfl)⟩ vq_3 (KO.dy hc5) rfl (Nat.le_of_ble_eq_true rfl) dX2_clear_87) ?_
        refine G_if_eq (tgt := 109) C rfl dX2_clear_90 (fun hc11 => ?_) (fun hc11 => ?_)
        · replace h := (if_pos hc11).symm.trans h
          refine G_iinc (v := 1) (L' := [(3, .int (x3 + (1 : Int32))), (5, .int v6), (4, .ref v4), (0, .ref 63), (1, .int x1), (2, .int x2)]) C 5 rfl rfl (Nat.le_of_ble_eq_true rfl) rfl dX2_clear_109 ?_
          refine G_goto (tgt := 34) C rfl dX2_clear_112 ?_
          refine G_sub [3, 4, 5, 0] rfl ?_
          exact hf34 _ _ _ _ h
        · replace h := (if_neg hc11).symm.trans h
          refine G_aload_n C 2 rfl rfl dX2_clear_93 ?_
          refine G_getF C fl_X2_26_2 rfl rfl fn_63_1 dX2_clear_94 ?_
          refine G_aload C 1 rfl dX2_clear_97 ?_
          refine G_iload_n C 5 rfl rfl dX2_clear_99 ?_
          obtain ⟨σ12, hv12, h⟩ := bnd h
          refine G_callV (run_V C [.ref v4, .int x3] [] (dX0_settle hv12) ml_X0_settle mv_X0_settle lk_X2_62 ⟨(Nat.le_of_ble_eq_true rfl), (Nat.le_of_ble_eq_true rfl)⟩ ⟨(Nat.le_of_ble_eq_true rfl), (Nat.le_of_ble_eq_true rfl)⟩ vq_0 rfl ko_53 rfl (Nat.le_of_ble_eq_true rfl) dX2_clear_100) ?_
          refine G_aload_n C 2 rfl rfl dX2_clear_103 ?_
          refine G_iload C 0 rfl dX2_clear_104 ?_
          obtain ⟨σ13, hv13, h⟩ := bnd h
          refine G_callV (run_V C [.int v6] [] (dX2_addOwed hv13) ml_X2_addOwed mv_X2_addOwed lk_X2_66 ⟨(Nat.le_of_ble_eq_true rfl), (Nat.le_of_ble_eq_true rfl)⟩ ⟨(Nat.le_of_ble_eq_true rfl), (Nat.le_of_ble_eq_true rfl)⟩ vq_2 rfl ko_63 rfl (Nat.le_of_ble_eq_true rfl) dX2_clear_106) ?_
          refine G_iinc (v := 1) (L' := [(3, .int (x3 + (1 : Int32))), (5, .int v6), (4, .ref v4), (0, .ref 63), (1, .int x1), (2, .int x2)]) C 5 rfl rfl (Nat.le_of_ble_eq_true rfl) rfl dX2_clear_109 ?_
          refine G_goto (tgt := 34) C rfl dX2_clear_112 ?_
          refine G_sub [3, 4, 5, 0] rfl ?_
          exact hf34 _ _ _ _ h
set_option maxRecDepth 100000 in
set_option maxHeartbeats 4000000 in
theorem eX2_clear_34 (C : Cx E p s m args meth c cX2_clear 6 RX2) (hr : meth.sig.returnType = none) {σ0 : Sto} {r2 : Sto} {σ : Sto} {n : Nat} {x1 : Int32} {x2 : Int32} {x3 : Int32} (h : mX2_clear_34 n x1 x2 x3 σ = some r2) : G p l e (rmd 7 0 0) s m args below meth c E true (sZ σ0) ad0 (MQ below (QV E true σ0 r2 ad0) args s 0 0 (AE E)) 6 0 0 σ 34 [(0, .ref 63), (1, .int x1), (2, .int x2), (3, .int x3)] [] := by
  induction n generalizing x1 x2 x3 σ with
  | zero => exact nomatch (show (none : Option Sto) = some r2 from h)
  | succ n ih => exact eX2_clear_34B C hr (fun z0 z1 z2 σ9 h9 => ih h9) h
set_option maxRecDepth 100000 in
set_option maxHeartbeats 4000000 in
theorem eX2_clear_2B (C : Cx E p s m args meth c cX2_clear 6 RX2) (hr : meth.sig.returnType = none) {σ0 : Sto} {r2 : Sto} {σ : Sto} {f2 : Int32 → Int32 → Int32 → Sto → Option Sto} {x1 : Int32} {x2 : Int32} {x3 : Int32} (hf2 : ∀ (x1 : Int32) (x2 : Int32) (x3 : Int32) (σ' : Sto), f2 x1 x2 x3 σ' = some r2 → G p l e (rmd 7 0 0) s m args below meth c E true (sZ σ0) ad0 (MQ below (QV E true σ0 r2 ad0) args s 0 0 (AE E)) 6 0 0 σ' 2 [(0, .ref 63), (1, .int x1), (2, .int x2), (3, .int x3)] []) (h : mX2_clear_2B f2 x1 x2 x3 σ = some r2) : G p l e (rmd 7 0 0) s m args below meth c E true (sZ σ0) ad0 (MQ below (QV E true σ0 r2 ad0) args s 0 0 (AE E)) 6 0 0 σ 2 [(0, .ref 63), (1, .int x1), (2, .int x2), (3, .int x3)] [] := by
  unfold mX2_clear_2B at h
  refine G_iload_n C 3 rfl rfl dX2_clear_2 ?_
  refine G_aload_n C 0 rfl rfl dX2_clear_3 ?_
  refine G_getF C fl_X2_9_2 rfl rfl fn_63_2 dX2_clear_4 ?_
  refine G_alen (t := 1) (v := (25 : Int32)) C (by decide) ks_64 rfl dX2_clear_7 ?_
  refine G_icmp_ge (tgt := 24) C rfl dX2_clear_8 (fun hc1 => ?_) (fun hc1 => ?_)
  · replace h := (if_pos hc1).symm.trans h
    refine G_aload_n C 0 rfl rfl dX2_clear_24 ?_
    refine G_getF C fl_X2_26_2 rfl rfl fn_63_1 dX2_clear_25 ?_
    refine G_iload_n C 2 rfl rfl dX2_clear_28 ?_
    obtain ⟨σ2, hv2, h⟩ := bnd h
    refine G_callV (run_V C [.int x2] [] (dX0_open hv2) ml_X0_open mv_X0_open lk_X2_30 ⟨(Nat.le_of_ble_eq_true rfl), (Nat.le_of_ble_eq_true rfl)⟩ ⟨(Nat.le_of_ble_eq_true rfl), (Nat.le_of_ble_eq_true rfl)⟩ vq_0 rfl ko_53 rfl (Nat.le_of_ble_eq_true rfl) dX2_clear_29) ?_
    refine G_iconst C (v := 0) rfl dX2_clear_32 ?_
    refine G_istore_n (L' := [(3, .int (0 : Int32)), (0, .ref 63), (1, .int x1), (2, .int x2)]) C rfl (Nat.le_of_ble_eq_true rfl) rfl dX2_clear_33 ?_
    refine G_sub [1, 2, 3, 0] rfl ?_
    exact eX2_clear_34 C hr h
  · replace h := (if_neg hc1).symm.trans h
    refine G_aload_n C 0 rfl rfl dX2_clear_11 ?_
    refine G_getF C fl_X2_9_2 rfl rfl fn_63_2 dX2_clear_12 ?_
    refine G_iload_n C 3 rfl rfl dX2_clear_15 ?_
    refine G_lconst C (v := 0) rfl dX2_clear_16 ?_
    obtain ⟨hc14, h⟩ := ifn h
    obtain ⟨σ15, hs15, h⟩ := stp_elim h
    refine G_lastore C ks_64 hc14 dX2_clear_17 ?_
    rw [← hs15]
    refine G_iinc (v := 1) (L' := [(3, .int (x3 + (1 : Int32))), (0, .ref 63), (1, .int x1), (2, .int x2)]) C 3 rfl rfl (Nat.le_of_ble_eq_true rfl) rfl dX2_clear_18 ?_
    refine G_goto (tgt := 2) C rfl dX2_clear_21 ?_
    refine G_sub [1, 2, 3, 0] rfl ?_
    exact hf2 _ _ _ _ h
set_option maxRecDepth 100000 in
set_option maxHeartbeats 4000000 in
theorem eX2_clear_2 (C : Cx E p s m args meth c cX2_clear 6 RX2) (hr : meth.sig.returnType = none) {σ0 : Sto} {r2 : Sto} {σ : Sto} {n : Nat} {x1 : Int32} {x2 : Int32} {x3 : Int32} (h : mX2_clear_2 n x1 x2 x3 σ = some r2) : G p l e (rmd 7 0 0) s m args below meth c E true (sZ σ0) ad0 (MQ below (QV E true σ0 r2 ad0) args s 0 0 (AE E)) 6 0 0 σ 2 [(0, .ref 63), (1, .int x1), (2, .int x2), (3, .int x3)] [] := by
  induction n generalizing x1 x2 x3 σ with
  | zero => exact nomatch (show (none : Option Sto) = some r2 from h)
  | succ n ih => exact eX2_clear_2B C hr (fun z0 z1 z2 σ9 h9 => ih h9) h
set_option maxRecDepth 100000 in
set_option maxHeartbeats 4000000 in
theorem dX2_clear {σ : Sto} {p0 : Int32} {p1 : Int32} {r2 : Sto} (h : mX2_clear p0 p1 σ = some r2) : MM l yX2_clear cX2_clear 6 none 7 0 0 E true σ [.ref 63, .int p0, .int p1] (QV E true σ r2) := by
  unfold mX2_clear at h
  refine MM_of (by decide) (Nat.le_of_ble_eq_true rfl) rfl (fun p e s m args below meth c ad0 C hr hn => ?_)
  refine G_iconst C (v := 0) rfl dX2_clear_0 ?_
  refine G_istore_n (L' := [(3, .int (0 : Int32)), (0, .ref 63), (1, .int p0), (2, .int p1)]) C rfl (Nat.le_of_ble_eq_true rfl) rfl dX2_clear_1 ?_
  refine G_sub [1, 2, 3, 0] rfl ?_
  exact eX2_clear_2 C hr h
set_option maxRecDepth 100000 in
set_option maxHeartbeats 4000000 in
theorem dX2_owed {σ : Sto} {p0 : Int32} {p1 : Int32} {r : Int64} (h : mX2_owed p0 p1 σ = some r) : MM l yX2_owed cX2_owed 4 (some .long) 3 0 0 E true σ [.ref 63, .int p0, .int p1] (QL E true σ r σ) := by
  unfold mX2_owed at h
  refine MM_of (by decide) (Nat.le_of_ble_eq_true rfl) rfl (fun p e s m args below meth c ad0 C hr hn => ?_)
  refine G_iload_n C 1 rfl rfl dX2_owed_0 ?_
  refine G_iload_n C 2 rfl rfl dX2_owed_1 ?_
  refine G_callI (run_S C [.int p0, .int p1] [] (dX2_pairOf rfl) ml_X2_pairOf ms_X2_pairOf lk_X2_72 ⟨(Nat.le_of_ble_eq_true rfl), (Nat.le_of_ble_eq_true rfl)⟩ ⟨(Nat.le_of_ble_eq_true rfl), (Nat.le_of_ble_eq_true rfl)⟩ rfl (Nat.le_of_ble_eq_true rfl) dX2_owed_2) ?_
  refine G_istore_n (L' := [(3, .int (mX2_pairOf p0 p1 σ)), (0, .ref 63), (1, .int p0), (2, .int p1)]) C rfl (Nat.le_of_ble_eq_true rfl) rfl dX2_owed_5 ?_
  refine G_iload_n C 0 rfl rfl dX2_owed_6 ?_
  refine G_iconst C (v := -1) rfl dX2_owed_7 ?_
  refine G_icmp_ne (tgt := 15) C rfl dX2_owed_8 (fun hc2 => ?_) (fun hc2 => ?_)
  · replace h := (if_neg hc2).symm.trans h
    refine G_aload_n C 1 rfl rfl dX2_owed_15 ?_
    refine G_getF C fl_X2_9_2 rfl rfl fn_63_2 dX2_owed_16 ?_
    refine G_iload_n C 0 rfl rfl dX2_owed_19 ?_
    obtain ⟨hc3, h⟩ := ifn h
    refine G_laload C ks_64 hc3 dX2_owed_20 ?_
    obtain rfl := Option.some.inj h
    exact G_lret C hr (Nat.le_of_ble_eq_true rfl) (Nat.le_of_ble_eq_true rfl) dX2_owed_21
  · replace h := (if_pos hc2).symm.trans h
    refine G_lconst C (v := 0) rfl dX2_owed_11 ?_
    refine G_goto (tgt := 21) C rfl dX2_owed_12 ?_
    obtain rfl := Option.some.inj h
    exact G_lret C hr (Nat.le_of_ble_eq_true rfl) (Nat.le_of_ble_eq_true rfl) dX2_owed_21
set_option maxRecDepth 100000 in
set_option maxHeartbeats 4000000 in
theorem eX2_netOf_5B (C : Cx E p s m args meth c cX2_netOf 5 RX2) (hr : meth.sig.returnType = (some .long)) {r : Int64} {σ : Sto} {f5 : Int32 → Int64 → Int32 → Sto → Option Int64} {x1 : Int32} {x2 : Int64} {x4 : Int32} (hf5 : ∀ (x1 : Int32) (x2 : Int64) (x4 : Int32), f5 x1 x2 x4 σ = some r → G p l e (rmd 4 0 0) s m args below meth c E true (sZ σ) ad0 (MQ below (QL E true σ r σ ad0) args s 0 0 (AE E)) 5 0 0 σ 5 [(0, .ref 63), (1, .int x1), (2, .long x2), (4, .int x4)] []) (h : mX2_netOf_5B f5 x1 x2 x4 σ = some r) : G p l e (rmd 4 0 0) s m args below meth c E true (sZ σ) ad0 (MQ below (QL E true σ r σ ad0) args s 0 0 (AE E)) 5 0 0 σ 5 [(0, .ref 63), (1, .int x1), (2, .long x2), (4, .int x4)] [] := by
  unfold mX2_netOf_5B at h
  refine G_iload C 3 rfl dX2_netOf_5 ?_
  refine G_iconst C (v := 5) rfl dX2_netOf_7 ?_
  refine G_icmp_ge (tgt := 35) C rfl dX2_netOf_8 (fun hc1 => ?_) (fun hc1 => ?_)
  · replace h := (if_pos hc1).symm.trans h
    refine G_lload_n C 2 rfl rfl dX2_netOf_35 ?_
    obtain rfl := Option.some.inj h
    exact G_lret C hr (Nat.le_of_ble_eq_true rfl) (Nat.le_of_ble_eq_true rfl) dX2_netOf_36
  · replace h := (if_neg hc1).symm.trans h
    refine G_lload_n C 2 rfl rfl dX2_netOf_11 ?_
    refine G_aload_n C 0 rfl rfl dX2_netOf_12 ?_
    refine G_iload C 3 rfl dX2_netOf_13 ?_
    refine G_iload_n C 1 rfl rfl dX2_netOf_15 ?_
    obtain ⟨v2, hv2, h⟩ := bnd h
    refine G_callL (run_V C [.int x4, .int x1] [.long x2] (dX2_owed hv2) ml_X2_owed mv_X2_owed lk_X2_83 ⟨(Nat.le_of_ble_eq_true rfl), (Nat.le_of_ble_eq_true rfl)⟩ ⟨(Nat.le_of_ble_eq_true rfl), (Nat.le_of_ble_eq_true rfl)⟩ vq_2 rfl ko_63 rfl (Nat.le_of_ble_eq_true rfl) dX2_netOf_16) ?_
    refine G_aload_n C 0 rfl rfl dX2_netOf_19 ?_
    refine G_iload_n C 1 rfl rfl dX2_netOf_20 ?_
    refine G_iload C 3 rfl dX2_netOf_21 ?_
    obtain ⟨v3, hv3, h⟩ := bnd h
    refine G_callL (run_V C [.int x1, .int x4] [.long v2, .long x2] (dX2_owed hv3) ml_X2_owed mv_X2_owed lk_X2_83 ⟨(Nat.le_of_ble_eq_true rfl), (Nat.le_of_ble_eq_true rfl)⟩ ⟨(Nat.le_of_ble_eq_true rfl), (Nat.le_of_ble_eq_true rfl)⟩ vq_2 rfl ko_63 rfl (Nat.le_of_ble_eq_true rfl) dX2_netOf_23) ?_
    refine G_lsub C dX2_netOf_26 ?_
    refine G_ladd C dX2_netOf_27 ?_
    refine G_lstore_n (L' := [(2, .long (x2 + (v2 - v3))), (0, .ref 63), (1, .int x1), (4, .int x4)]) C rfl (Nat.le_of_ble_eq_true rfl) rfl dX2_netOf_28 ?_
    refine G_iinc (v := 1) (L' := [(4, .int (x4 + (1 : Int32))), (2, .long (x2 + (v2 - v3))), (0, .ref 63), (1, .int x1)]) C 3 rfl rfl (Nat.le_of_ble_eq_true rfl) rfl dX2_netOf_29 ?_
    refine G_goto (tgt := 5) C rfl dX2_netOf_32 ?_
    refine G_sub [2, 3, 1, 0] rfl ?_
    exact hf5 _ _ _ h
set_option maxRecDepth 100000 in
set_option maxHeartbeats 4000000 in
theorem eX2_netOf_5 (C : Cx E p s m args meth c cX2_netOf 5 RX2) (hr : meth.sig.returnType = (some .long)) {r : Int64} {σ : Sto} {n : Nat} {x1 : Int32} {x2 : Int64} {x4 : Int32} (h : mX2_netOf_5 n x1 x2 x4 σ = some r) : G p l e (rmd 4 0 0) s m args below meth c E true (sZ σ) ad0 (MQ below (QL E true σ r σ ad0) args s 0 0 (AE E)) 5 0 0 σ 5 [(0, .ref 63), (1, .int x1), (2, .long x2), (4, .int x4)] [] := by
  induction n generalizing x1 x2 x4 with
  | zero => exact nomatch (show (none : Option Int64) = some r from h)
  | succ n ih => exact eX2_netOf_5B C hr (fun z0 z1 z2 h9 => ih h9) h
set_option maxRecDepth 100000 in
set_option maxHeartbeats 4000000 in
theorem dX2_netOf {σ : Sto} {p0 : Int32} {r : Int64} (h : mX2_netOf p0 σ = some r) : MM l yX2_netOf cX2_netOf 5 (some .long) 4 0 0 E true σ [.ref 63, .int p0] (QL E true σ r σ) := by
  unfold mX2_netOf at h
  refine MM_of (by decide) (Nat.le_of_ble_eq_true rfl) rfl (fun p e s m args below meth c ad0 C hr hn => ?_)
  refine G_lconst C (v := 0) rfl dX2_netOf_0 ?_
  refine G_lstore_n (L' := [(2, .long (0 : Int64)), (0, .ref 63), (1, .int p0)]) C rfl (Nat.le_of_ble_eq_true rfl) rfl dX2_netOf_1 ?_
  refine G_iconst C (v := 0) rfl dX2_netOf_2 ?_
  refine G_istore (L' := [(4, .int (0 : Int32)), (2, .long (0 : Int64)), (0, .ref 63), (1, .int p0)]) C (Nat.le_of_ble_eq_true rfl) rfl dX2_netOf_3 ?_
  refine G_sub [2, 3, 1, 0] rfl ?_
  exact eX2_netOf_5 C hr h
set_option maxRecDepth 100000 in
set_option maxHeartbeats 4000000 in
theorem eX2_fewestPayments_27B (C : Cx E p s m args meth c cX2_fewestPayments 3 RX2) (hr : meth.sig.returnType = (some .int)) {σ0 : Sto} {r1 : Int32} {r2 : Sto} {σ : Sto} {f2 : Int32 → Sto → Option (Int32 × Sto)} {f27 : Int32 → Int32 → Sto → Option (Int32 × Sto)} {x1 : Int32} {x2 : Int32} (hf2 : ∀ (x1 : Int32) (σ' : Sto), f2 x1 σ' = some (r1, r2) → G p l e (rmd 5 0 0) s m args below meth c E true (sZ σ0) ad0 (MQ below (QI E true σ0 r1 r2 ad0) args s 0 0 (AE E)) 3 0 0 σ' 2 [(0, .ref 63), (1, .int x1)] []) (hf27 : ∀ (x1 : Int32) (x2 : Int32) (σ' : Sto), f27 x1 x2 σ' = some (r1, r2) → G p l e (rmd 5 0 0) s m args below meth c E true (sZ σ0) ad0 (MQ below (QI E true σ0 r1 r2 ad0) args s 0 0 (AE E)) 3 0 0 σ' 27 [(0, .ref 63), (1, .int x1), (2, .int x2)] []) (h : mX2_fewestPayments_27B f2 f27 x1 x2 σ = some (r1, r2)) : G p l e (rmd 5 0 0) s m args below meth c E true (sZ σ0) ad0 (MQ below (QI E true σ0 r1 r2 ad0) args s 0 0 (AE E)) 3 0 0 σ 27 [(0, .ref 63), (1, .int x1), (2, .int x2)] [] := by
  unfold mX2_fewestPayments_27B at h
  refine G_iload_n C 2 rfl rfl dX2_fewestPayments_27 ?_
  refine G_iconst C (v := 5) rfl dX2_fewestPayments_28 ?_
  refine G_icmp_ge (tgt := 88) C rfl dX2_fewestPayments_29 (fun hc6 => ?_) (fun hc6 => ?_)
  · replace h := (if_pos hc6).symm.trans h
    refine G_aload_n C 0 rfl rfl dX2_fewestPayments_88 ?_
    refine G_getF C fl_X2_15_2 rfl rfl fn_63_3 dX2_fewestPayments_89 ?_
    refine G_iload_n C 1 rfl rfl dX2_fewestPayments_92 ?_
    obtain ⟨hc7, h⟩ := ifn h
    refine G_laload C ks_65 hc7 dX2_fewestPayments_93 ?_
    refine G_lconst C (v := 0) rfl dX2_fewestPayments_94 ?_
    refine G_lcmp C dX2_fewestPayments_95 ?_
    refine G_if_ne (tgt := 109) C rfl dX2_fewestPayments_96 (fun hc8 => ?_) (fun hc8 => ?_)
    · replace h := (if_neg hc8).symm.trans h
      refine G_iinc (v := 1) (L' := [(1, .int (x1 + (1 : Int32))), (0, .ref 63), (2, .int x2)]) C 1 rfl rfl (Nat.le_of_ble_eq_true rfl) rfl dX2_fewestPayments_109 ?_
      refine G_goto (tgt := 2) C rfl dX2_fewestPayments_112 ?_
      refine G_sub [1, 0] rfl ?_
      exact hf2 _ _ h
    · replace h := (if_pos hc8).symm.trans h
      refine G_aload_n C 0 rfl rfl dX2_fewestPayments_99 ?_
      refine G_getF C fl_X2_18_2 rfl rfl fn_63_4 dX2_fewestPayments_100 ?_
      refine G_iload_n C 1 rfl rfl dX2_fewestPayments_103 ?_
      refine G_dup2 C rfl rfl dX2_fewestPayments_104 ?_
      refine G_iaload C ks_66 hc7 dX2_fewestPayments_105 ?_
      refine G_iconst C (v := 1) rfl dX2_fewestPayments_106 ?_
      refine G_iadd C dX2_fewestPayments_107 ?_
      obtain ⟨σ9, hs9, h⟩ := stp_elim h
      refine G_iastore C ks_66 hc7 dX2_fewestPayments_108 ?_
      rw [← hs9]
      refine G_iinc (v := 1) (L' := [(1, .int (x1 + (1 : Int32))), (0, .ref 63), (2, .int x2)]) C 1 rfl rfl (Nat.le_of_ble_eq_true rfl) rfl dX2_fewestPayments_109 ?_
      refine G_goto (tgt := 2) C rfl dX2_fewestPayments_112 ?_
      refine G_sub [1, 0] rfl ?_
      exact hf2 _ _ h
  · replace h := (if_neg hc6).symm.trans h
    refine G_iload_n C 1 rfl rfl dX2_fewestPayments_32 ?_
    refine G_iload_n C 2 rfl rfl dX2_fewestPayments_33 ?_
    refine G_ishr C dX2_fewestPayments_34 ?_
    refine G_iconst C (v := 1) rfl dX2_fewestPayments_35 ?_
    refine G_iand C dX2_fewestPayments_36 ?_
    refine G_iconst C (v := 1) rfl dX2_fewestPayments_37 ?_
    refine G_icmp_ne (tgt := 82) C rfl dX2_fewestPayments_38 (fun hc10 => ?_) (fun hc10 => ?_)
    · replace h := (if_neg hc10).symm.trans h
      refine G_iinc (v := 1) (L' := [(2, .int (x2 + (1 : Int32))), (0, .ref 63), (1, .int x1)]) C 2 rfl rfl (Nat.le_of_ble_eq_true rfl) rfl dX2_fewestPayments_82 ?_
      refine G_goto (tgt := 27) C rfl dX2_fewestPayments_85 ?_
      refine G_sub [1, 2, 0] rfl ?_
      exact hf27 _ _ _ h
    · replace h := (if_pos hc10).symm.trans h
      refine G_aload_n C 0 rfl rfl dX2_fewestPayments_41 ?_
      refine G_getF C fl_X2_15_2 rfl rfl fn_63_3 dX2_fewestPayments_42 ?_
      refine G_iload_n C 1 rfl rfl dX2_fewestPayments_45 ?_
      refine G_dup2 C rfl rfl dX2_fewestPayments_46 ?_
      obtain ⟨hc11, h⟩ := ifn h
      refine G_laload C ks_65 hc11 dX2_fewestPayments_47 ?_
      refine G_aload_n C 0 rfl rfl dX2_fewestPayments_48 ?_
      refine G_iload_n C 2 rfl rfl dX2_fewestPayments_49 ?_
      obtain ⟨v12, hv12, h⟩ := bnd h
      refine G_callL (run_V C [.int x2] [.long (sL σ 65 (x1).toNatClampNeg), .int x1, .ref 65] (dX2_netOf hv12) ml_X2_netOf mv_X2_netOf lk_X2_86 ⟨(Nat.le_of_ble_eq_true rfl), (Nat.le_of_ble_eq_true rfl)⟩ ⟨(Nat.le_of_ble_eq_true rfl), (Nat.le_of_ble_eq_true rfl)⟩ vq_2 rfl ko_63 rfl (Nat.le_of_ble_eq_true rfl) dX2_fewestPayments_50) ?_
      refine G_ladd C dX2_fewestPayments_53 ?_
      obtain ⟨σ13, hs13, h⟩ := stp_elim h
      refine G_lastore C ks_65 hc11 dX2_fewestPayments_54 ?_
      rw [← hs13]
      refine G_aload_n C 0 rfl rfl dX2_fewestPayments_55 ?_
      refine G_getF C fl_X2_18_2 rfl rfl fn_63_4 dX2_fewestPayments_56 ?_
      refine G_iload_n C 1 rfl rfl dX2_fewestPayments_59 ?_
      refine G_aload_n C 0 rfl rfl dX2_fewestPayments_60 ?_
      refine G_getF C fl_X2_18_2 rfl rfl fn_63_4 dX2_fewestPayments_61 ?_
      refine G_iload_n C 1 rfl rfl dX2_fewestPayments_64 ?_
      refine G_iaload C ks_66 hc11 dX2_fewestPayments_65 ?_
      refine G_aload_n C 0 rfl rfl dX2_fewestPayments_66 ?_
      refine G_getF C fl_X2_18_2 rfl rfl fn_63_4 dX2_fewestPayments_67 ?_
      refine G_iload_n C 1 rfl rfl dX2_fewestPayments_70 ?_
      refine G_iconst C (v := 1) rfl dX2_fewestPayments_71 ?_
      refine G_iload_n C 2 rfl rfl dX2_fewestPayments_72 ?_
      refine G_ishl C dX2_fewestPayments_73 ?_
      refine G_iconst C (v := -1) rfl dX2_fewestPayments_74 ?_
      refine G_ixor C dX2_fewestPayments_75 ?_
      refine G_iand C dX2_fewestPayments_76 ?_
      obtain ⟨hc14, h⟩ := ifn h
      refine G_iaload C ks_66 hc14 dX2_fewestPayments_77 ?_
      refine G_mmax C lk_X2_90 mj_max_i.1 mj_ini mj_max_i.2 (Nat.le_of_ble_eq_true rfl) (Nat.le_of_ble_eq_true rfl) (Nat.le_of_ble_eq_true rfl) (Nat.le_of_ble_eq_true rfl) dX2_fewestPayments_78 ?_
      obtain ⟨σ15, hs15, h⟩ := stp_elim h
      refine G_iastore C ks_66 hc11 dX2_fewestPayments_81 ?_
      rw [← hs15]
      refine G_iinc (v := 1) (L' := [(2, .int (x2 + (1 : Int32))), (0, .ref 63), (1, .int x1)]) C 2 rfl rfl (Nat.le_of_ble_eq_true rfl) rfl dX2_fewestPayments_82 ?_
      refine G_goto (tgt := 27) C rfl dX2_fewestPayments_85 ?_
      refine G_sub [1, 2, 0] rfl ?_
      exact hf27 _ _ _ h
set_option maxRecDepth 100000 in
set_option maxHeartbeats 4000000 in
theorem eX2_fewestPayments_27 (C : Cx E p s m args meth c cX2_fewestPayments 3 RX2) (hr : meth.sig.returnType = (some .int)) {σ0 : Sto} {r1 : Int32} {r2 : Sto} {σ : Sto} {f2 : Int32 → Sto → Option (Int32 × Sto)} {n : Nat} {x1 : Int32} {x2 : Int32} (hf2 : ∀ (x1 : Int32) (σ' : Sto), f2 x1 σ' = some (r1, r2) → G p l e (rmd 5 0 0) s m args below meth c E true (sZ σ0) ad0 (MQ below (QI E true σ0 r1 r2 ad0) args s 0 0 (AE E)) 3 0 0 σ' 2 [(0, .ref 63), (1, .int x1)] []) (h : mX2_fewestPayments_27 f2 n x1 x2 σ = some (r1, r2)) : G p l e (rmd 5 0 0) s m args below meth c E true (sZ σ0) ad0 (MQ below (QI E true σ0 r1 r2 ad0) args s 0 0 (AE E)) 3 0 0 σ 27 [(0, .ref 63), (1, .int x1), (2, .int x2)] [] := by
  induction n generalizing x1 x2 σ with
  | zero => exact nomatch (show (none : Option (Int32 × Sto)) = some (r1, r2) from h)
  | succ n ih => exact eX2_fewestPayments_27B C hr hf2 (fun z0 z1 σ9 h9 => ih h9) h
set_option maxRecDepth 100000 in
set_option maxHeartbeats 4000000 in
theorem eX2_fewestPayments_2B (C : Cx E p s m args meth c cX2_fewestPayments 3 RX2) (hr : meth.sig.returnType = (some .int)) {σ0 : Sto} {r1 : Int32} {r2 : Sto} {σ : Sto} {f2 : Int32 → Sto → Option (Int32 × Sto)} {x1 : Int32} (hf2 : ∀ (x1 : Int32) (σ' : Sto), f2 x1 σ' = some (r1, r2) → G p l e (rmd 5 0 0) s m args below meth c E true (sZ σ0) ad0 (MQ below (QI E true σ0 r1 r2 ad0) args s 0 0 (AE E)) 3 0 0 σ' 2 [(0, .ref 63), (1, .int x1)] []) (h : mX2_fewestPayments_2B f2 x1 σ = some (r1, r2)) : G p l e (rmd 5 0 0) s m args below meth c E true (sZ σ0) ad0 (MQ below (QI E true σ0 r1 r2 ad0) args s 0 0 (AE E)) 3 0 0 σ 2 [(0, .ref 63), (1, .int x1)] [] := by
  unfold mX2_fewestPayments_2B at h
  refine G_iload_n C 1 rfl rfl dX2_fewestPayments_2 ?_
  refine G_aload_n C 0 rfl rfl dX2_fewestPayments_3 ?_
  refine G_getF C fl_X2_18_2 rfl rfl fn_63_4 dX2_fewestPayments_4 ?_
  refine G_alen (t := 0) (v := (32 : Int32)) C (by decide) ks_66 rfl dX2_fewestPayments_7 ?_
  refine G_icmp_ge (tgt := 115) C rfl dX2_fewestPayments_8 (fun hc1 => ?_) (fun hc1 => ?_)
  · replace h := (if_pos hc1).symm.trans h
    refine G_iconst C (v := 5) rfl dX2_fewestPayments_115 ?_
    refine G_aload_n C 0 rfl rfl dX2_fewestPayments_116 ?_
    refine G_getF C fl_X2_18_2 rfl rfl fn_63_4 dX2_fewestPayments_117 ?_
    refine G_aload_n C 0 rfl rfl dX2_fewestPayments_120 ?_
    refine G_getF C fl_X2_18_2 rfl rfl fn_63_4 dX2_fewestPayments_121 ?_
    refine G_alen (t := 0) (v := (32 : Int32)) C (by decide) ks_66 rfl dX2_fewestPayments_124 ?_
    refine G_iconst C (v := 1) rfl dX2_fewestPayments_125 ?_
    refine G_isub C dX2_fewestPayments_126 ?_
    obtain ⟨hc2, h⟩ := ifn h
    refine G_iaload C ks_66 hc2 dX2_fewestPayments_127 ?_
    refine G_isub C dX2_fewestPayments_128 ?_
    obtain ⟨rfl, rfl⟩ := some2 h
    exact G_iret C hr (Nat.le_of_ble_eq_true rfl) (Nat.le_of_ble_eq_true rfl) dX2_fewestPayments_129
  · replace h := (if_neg hc1).symm.trans h
    refine G_aload_n C 0 rfl rfl dX2_fewestPayments_11 ?_
    refine G_getF C fl_X2_15_2 rfl rfl fn_63_3 dX2_fewestPayments_12 ?_
    refine G_iload_n C 1 rfl rfl dX2_fewestPayments_15 ?_
    refine G_lconst C (v := 0) rfl dX2_fewestPayments_16 ?_
    obtain ⟨hc3, h⟩ := ifn h
    obtain ⟨σ4, hs4, h⟩ := stp_elim h
    refine G_lastore C ks_65 hc3 dX2_fewestPayments_17 ?_
    rw [← hs4]
    refine G_aload_n C 0 rfl rfl dX2_fewestPayments_18 ?_
    refine G_getF C fl_X2_18_2 rfl rfl fn_63_4 dX2_fewestPayments_19 ?_
    refine G_iload_n C 1 rfl rfl dX2_fewestPayments_22 ?_
    refine G_iconst C (v := 0) rfl dX2_fewestPayments_23 ?_
    obtain ⟨σ5, hs5, h⟩ := stp_elim h
    refine G_iastore C ks_66 hc3 dX2_fewestPayments_24 ?_
    rw [← hs5]
    refine G_iconst C (v := 0) rfl dX2_fewestPayments_25 ?_
    refine G_istore_n (L' := [(2, .int (0 : Int32)), (0, .ref 63), (1, .int x1)]) C rfl (Nat.le_of_ble_eq_true rfl) rfl dX2_fewestPayments_26 ?_
    refine G_sub [1, 2, 0] rfl ?_
    exact eX2_fewestPayments_27 C hr hf2 h
set_option maxRecDepth 100000 in
set_option maxHeartbeats 4000000 in
theorem eX2_fewestPayments_2 (C : Cx E p s m args meth c cX2_fewestPayments 3 RX2) (hr : meth.sig.returnType = (some .int)) {σ0 : Sto} {r1 : Int32} {r2 : Sto} {σ : Sto} {n : Nat} {x1 : Int32} (h : mX2_fewestPayments_2 n x1 σ = some (r1, r2)) : G p l e (rmd 5 0 0) s m args below meth c E true (sZ σ0) ad0 (MQ below (QI E true σ0 r1 r2 ad0) args s 0 0 (AE E)) 3 0 0 σ 2 [(0, .ref 63), (1, .int x1)] [] := by
  induction n generalizing x1 σ with
  | zero => exact nomatch (show (none : Option (Int32 × Sto)) = some (r1, r2) from h)
  | succ n ih => exact eX2_fewestPayments_2B C hr (fun z0 σ9 h9 => ih h9) h
set_option maxRecDepth 100000 in
set_option maxHeartbeats 4000000 in
theorem dX2_fewestPayments {σ : Sto} {r1 : Int32} {r2 : Sto} (h : mX2_fewestPayments σ = some (r1, r2)) : MM l yX2_fewestPayments cX2_fewestPayments 3 (some .int) 5 0 0 E true σ [.ref 63] (QI E true σ r1 r2) := by
  unfold mX2_fewestPayments at h
  refine MM_of (by decide) (Nat.le_of_ble_eq_true rfl) rfl (fun p e s m args below meth c ad0 C hr hn => ?_)
  refine G_iconst C (v := 1) rfl dX2_fewestPayments_0 ?_
  refine G_istore_n (L' := [(1, .int (1 : Int32)), (0, .ref 63)]) C rfl (Nat.le_of_ble_eq_true rfl) rfl dX2_fewestPayments_1 ?_
  refine G_sub [1, 0] rfl ?_
  exact eX2_fewestPayments_2 C hr h
end
