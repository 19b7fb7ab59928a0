set_option maxRecDepth 100000 in
def mX12_init (a0 : Nat) (σ : Sto) : Option Sto :=
  stp (nwK σ (100 + 0) 30) fun σ1 =>
  if sK σ1 a0 = 12 then
  stp (wR σ1 a0 9 (sZ σ)) fun σ5 =>
  stp (nwK σ5 (100 + 0) 30) fun σ9 =>
  if sK σ9 a0 = 12 then
  stp (wR σ9 a0 10 (sZ σ5)) fun σ13 =>
  stp (nwK σ13 (100 + 0) 30) fun σ17 =>
  if sK σ17 a0 = 12 then
  stp (wR σ17 a0 11 (sZ σ13)) fun σ21 =>
  stp (nwK σ21 (100 + 0) 90) fun σ25 =>
  if sK σ25 a0 = 12 then
  stp (wR σ25 a0 12 (sZ σ21)) fun σ29 =>
  stp (nwK σ29 (100 + 0) 90) fun σ33 =>
  if sK σ33 a0 = 12 then
  stp (wR σ33 a0 13 (sZ σ29)) fun σ37 =>
  stp (nwK σ37 (100 + 0) 30) fun σ41 =>
  if sK σ41 a0 = 12 then
  stp (wR σ41 a0 14 (sZ σ37)) fun σ45 =>
  stp (nwK σ45 (100 + 0) 30) fun σ49 =>
  if sK σ49 a0 = 12 then
  stp (wR σ49 a0 15 (sZ σ45)) fun σ53 =>
  stp (nwK σ53 (100 + 0) 30) fun σ57 =>
  if sK σ57 a0 = 12 then
  stp (wR σ57 a0 16 (sZ σ53)) fun σ61 =>
  stp (nwK σ61 (100 + 0) 30) fun σ65 =>
  if sK σ65 a0 = 12 then
  stp (wR σ65 a0 17 (sZ σ61)) fun σ69 =>
  stp (nwK σ69 (100 + 2) 30) fun σ73 =>
  if sK σ73 a0 = 12 then
  stp (wR σ73 a0 18 (sZ σ69)) fun σ77 =>
  stp (nwK σ77 (100 + 0) 5) fun σ81 =>
  if sK σ81 a0 = 12 then
  stp (wR σ81 a0 19 (sZ σ77)) fun σ85 =>
  stp (nwK σ85 (100 + 0) 5) fun σ89 =>
  if sK σ89 a0 = 12 then
  stp (wR σ89 a0 20 (sZ σ85)) fun σ93 =>
  stp (nwK σ93 (100 + 0) 60) fun σ97 =>
  if sK σ97 a0 = 12 then
  stp (wR σ97 a0 21 (sZ σ93)) fun σ101 =>
  stp (nwK σ101 (100 + 0) 60) fun σ105 =>
  if sK σ105 a0 = 12 then
  stp (wR σ105 a0 22 (sZ σ101)) fun σ109 =>
  stp (nwK σ109 (100 + 0) 60) fun σ113 =>
  if sK σ113 a0 = 12 then
  stp (wR σ113 a0 23 (sZ σ109)) fun σ117 =>
  stp (nwK σ117 (100 + 0) 200) fun σ121 =>
  if sK σ121 a0 = 12 then
  stp (wR σ121 a0 24 (sZ σ117)) fun σ125 =>
  stp (nwK σ125 (100 + 0) 200) fun σ129 =>
  if sK σ129 a0 = 12 then
  stp (wR σ129 a0 25 (sZ σ125)) fun σ133 =>
  stp (nwK σ133 (100 + 0) 200) fun σ137 =>
  if sK σ137 a0 = 12 then
  stp (wR σ137 a0 26 (sZ σ133)) fun σ141 =>
  stp (nwK σ141 (100 + 0) 200) fun σ145 =>
  if sK σ145 a0 = 12 then
  stp (wR σ145 a0 27 (sZ σ141)) fun σ149 =>
  stp (nwK σ149 (100 + 0) 200) fun σ153 =>
  if sK σ153 a0 = 12 then
  stp (wR σ153 a0 28 (sZ σ149)) fun σ157 =>
  stp (nwK σ157 (100 + 0) 200) fun σ161 =>
  if sK σ161 a0 = 12 then
  stp (wR σ161 a0 29 (sZ σ157)) fun σ165 =>
  stp (nwK σ165 (100 + 0) 200) fun σ169 =>
  if sK σ169 a0 = 12 then
  stp (wR σ169 a0 30 (sZ σ165)) fun σ173 =>
  stp (nwK σ173 (100 + 0) 200) fun σ177 =>
  if sK σ177 a0 = 12 then
  stp (wR σ177 a0 31 (sZ σ173)) fun σ181 =>
  stp (nwK σ181 (100 + 0) 200) fun σ185 =>
  if sK σ185 a0 = 12 then
  stp (wR σ185 a0 32 (sZ σ181)) fun σ189 =>
  stp (nwK σ189 (100 + 0) 200) fun σ193 =>
  if sK σ193 a0 = 12 then
  stp (wR σ193 a0 33 (sZ σ189)) fun σ197 =>
  stp (nwK σ197 (100 + 0) 200) fun σ201 =>
  if sK σ201 a0 = 12 then
  stp (wR σ201 a0 34 (sZ σ197)) fun σ205 =>
  stp (nwK σ205 (100 + 0) 200) fun σ209 =>
  if sK σ209 a0 = 12 then
  stp (wR σ209 a0 35 (sZ σ205)) fun σ213 =>
  stp (nwK σ213 (100 + 0) 200) fun σ217 =>
  if sK σ217 a0 = 12 then
  stp (wR σ217 a0 36 (sZ σ213)) fun σ221 =>
  stp (nwK σ221 (100 + 0) 200) fun σ225 =>
  if sK σ225 a0 = 12 then
  stp (wR σ225 a0 37 (sZ σ221)) fun σ229 =>
  stp (nwK σ229 (100 + 0) 500) fun σ233 =>
  if sK σ233 a0 = 12 then
  stp (wR σ233 a0 38 (sZ σ229)) fun σ237 =>
  stp (wI σ237 a0 41 (-1 : Int32)) fun σ241 =>
  stp (nwK σ241 (100 + 0) 13) fun σ245 =>
  if sK σ245 a0 = 12 then
  stp (wR σ245 a0 55 (sZ σ241)) fun σ249 =>
  stp (nwK σ249 (100 + 0) 13) fun σ253 =>
  if sK σ253 a0 = 12 then
  stp (wR σ253 a0 56 (sZ σ249)) fun σ257 =>
  stp (nwK σ257 (100 + 0) 13) fun σ261 =>
  if sK σ261 a0 = 12 then
  stp (wR σ261 a0 57 (sZ σ257)) fun σ265 =>
  stp (nwK σ265 (100 + 0) 13) fun σ269 =>
  if sK σ269 a0 = 12 then
  stp (wR σ269 a0 58 (sZ σ265)) fun σ273 =>
  stp (nwK σ273 (100 + 0) 13) fun σ277 =>
  if sK σ277 a0 = 12 then
  stp (wR σ277 a0 59 (sZ σ273)) fun σ281 =>
  stp (nwK σ281 (100 + 0) 13) fun σ285 =>
  if sK σ285 a0 = 12 then
  stp (wR σ285 a0 60 (sZ σ281)) fun σ289 =>
  stp (nwK σ289 (100 + 0) 13) fun σ293 =>
  if sK σ293 a0 = 12 then
  stp (wR σ293 a0 61 (sZ σ289)) fun σ297 =>
  stp (nwK σ297 (100 + 0) 13) fun σ301 =>
  if sK σ301 a0 = 12 then
  stp (wR σ301 a0 62 (sZ σ297)) fun σ305 =>
  stp (nwK σ305 (100 + 0) 13) fun σ309 =>
  if sK σ309 a0 = 12 then
  stp (wR σ309 a0 63 (sZ σ305)) fun σ313 =>
  stp (nwK σ313 (100 + 0) 13) fun σ317 =>
  if sK σ317 a0 = 12 then
  stp (wR σ317 a0 64 (sZ σ313)) fun σ321 =>
  stp (nwK σ321 (100 + 0) 13) fun σ325 =>
  if sK σ325 a0 = 12 then
  stp (wR σ325 a0 65 (sZ σ321)) fun σ329 =>
  stp (nwK σ329 (100 + 0) 13) fun σ333 =>
  if sK σ333 a0 = 12 then
  stp (wR σ333 a0 66 (sZ σ329)) fun σ337 =>
  stp (nwK σ337 (100 + 0) 208) fun σ341 =>
  if sK σ341 a0 = 12 then
  stp (wR σ341 a0 67 (sZ σ337)) fun σ345 =>
  stp (nwK σ345 (100 + 0) 208) fun σ349 =>
  if sK σ349 a0 = 12 then
  stp (wR σ349 a0 68 (sZ σ345)) fun σ353 =>
  stp (nwK σ353 (100 + 0) 15800) fun σ357 =>
  if sK σ357 a0 = 12 then
  stp (wR σ357 a0 69 (sZ σ353)) fun σ361 =>
  stp (nwK σ361 (100 + 0) 520) fun σ365 =>
  if sK σ365 a0 = 12 then
  stp (wR σ365 a0 70 (sZ σ361)) fun σ369 =>
  stp (nwK σ369 (100 + 2) 9) fun σ373 =>
  if sK σ373 a0 = 12 then
  stp (wR σ373 a0 71 (sZ σ369)) fun σ377 =>
  stp (nwK σ377 (100 + 0) 30) fun σ381 =>
  if sK σ381 a0 = 12 then
  stp (wR σ381 a0 74 (sZ σ377)) fun σ385 =>
  stp (nwK σ385 (100 + 0) 30) fun σ389 =>
  if sK σ389 a0 = 12 then
  stp (wR σ389 a0 75 (sZ σ385)) fun σ393 =>
  stp (nwK σ393 (100 + 0) 31) fun σ397 =>
  if sK σ397 a0 = 12 then
  stp (wR σ397 a0 76 (sZ σ393)) fun σ401 =>
  stp (nwK σ401 (100 + 0) 200) fun σ405 =>
  if sK σ405 a0 = 12 then
  stp (wR σ405 a0 77 (sZ σ401)) fun σ409 =>
  stp (nwK σ409 (100 + 0) 10) fun σ413 =>
  if sK σ413 a0 = 12 then
  stp (wR σ413 a0 87 (sZ σ409)) fun σ417 =>
  stp (nwK σ417 (100 + 0) 520) fun σ421 =>
  if sK σ421 a0 = 12 then
  stp (wR σ421 a0 88 (sZ σ417)) fun σ425 =>
  stp (nwK σ425 (100 + 0) 30) fun σ429 =>
  if sK σ429 a0 = 12 then
  stp (wR σ429 a0 89 (sZ σ425)) fun σ433 =>
  stp (nwK σ433 (100 + 0) 30) fun σ437 =>
  if sK σ437 a0 = 12 then
  stp (wR σ437 a0 90 (sZ σ433)) fun σ441 =>
  stp (nwK σ441 (100 + 0) 30) fun σ445 =>
  if sK σ445 a0 = 12 then
  stp (wR σ445 a0 91 (sZ σ441)) fun σ449 =>
  stp (nwK σ449 (100 + 0) 30) fun σ453 =>
  if sK σ453 a0 = 12 then
  stp (wR σ453 a0 92 (sZ σ449)) fun σ457 =>
  stp (nwK σ457 (100 + 0) 30) fun σ461 =>
  if sK σ461 a0 = 12 then
  stp (wR σ461 a0 93 (sZ σ457)) fun σ465 =>
  stp (nwK σ465 (100 + 0) 30) fun σ469 =>
  if sK σ469 a0 = 12 then
  stp (wR σ469 a0 94 (sZ σ465)) fun σ473 =>
  stp (nwK σ473 (100 + 0) 30) fun σ477 =>
  if sK σ477 a0 = 12 then
  stp (wR σ477 a0 95 (sZ σ473)) fun σ481 =>
  stp (nwK σ481 (100 + 1) 25) fun σ485 =>
  if sK σ485 a0 = 12 then
  stp (wR σ485 a0 96 (sZ σ481)) fun σ489 =>
  stp (nwK σ489 (100 + 0) 32) fun σ493 =>
  if sK σ493 a0 = 12 then
  stp (wR σ493 a0 97 (sZ σ489)) fun σ497 =>
  stp (nwK σ497 (100 + 0) 200) fun σ501 =>
  if sK σ501 a0 = 12 then
  stp (wR σ501 a0 99 (sZ σ497)) fun σ505 =>
  stp (nwK σ505 (100 + 1) 30) fun σ509 =>
  if sK σ509 a0 = 12 then
  stp (wR σ509 a0 100 (sZ σ505)) fun σ513 =>
  some σ513
  else none
  else none
  else none
  else none
  else none
  else none
  else none
  else none
  else none
  else none
  else none
  else none
  else none
  else none
  else none
  else none
  else none
  else none
  else none
  else none
  else none
  else none
  else none
  else none
  else none
  else none
  else none
  else none
  else none
  else none
  else none
  else none
  else none
  else none
  else none
  else none
  else none
  else none
  else none
  else none
  else none
  else none
  else none
  else none
  else none
  else none
  else none
  else none
  else none
  else none
  else none
  else none
  else none
  else none
  else none
  else none
  else none
  else none
  else none
  else none
  else none
  else none
  else none
  else none
def mX12_thrown (σ : Sto) : Int32 :=
  (sI σ 81 0)
def mX12_right_16 (σ : Sto) : Option (Int32 × Sto) :=
  if (sI σ 81 0) = 0 then (
    some ((1 : Int32), σ)
  ) else (
    some ((0 : Int32), σ)
  )
def mX12_right (p0 : Int32) (p1 : Int32) (σ : Sto) : Option (Int32 × Sto) :=
  if (sI σ 81 0) = 0 then (
    if p0 = 0 then (
      stp (wI σ 81 0 p1) fun σ4 =>
      mX12_right_16 σ4
    ) else (
      mX12_right_16 σ
    )
  ) else (
    mX12_right_16 σ
  )
def mX12_isLand_18 (y1 : Int32) (σ : Sto) : Option (Int32 × Sto) :=
  bd2 (mX12_right y1 (1 : Int32) σ) fun v2 σ2 =>
  if isB v2 then
  some (v2, σ2)
  else none
def mX12_isLand_17 (σ : Sto) : Option (Int32 × Sto) :=
  mX12_isLand_18 (0 : Int32) σ
def mX12_isLand (p0 : Int32) (σ : Sto) : Option (Int32 × Sto) :=
  if p0 < 0 then (
    mX12_isLand_17 σ
  ) else (
    if (sI σ 81 2) ≤ p0 then (
      mX12_isLand_17 σ
    ) else (
      mX12_isLand_18 (1 : Int32) σ
    )
  )
def mX12_isPerson_18 (y1 : Int32) (σ : Sto) : Option (Int32 × Sto) :=
  bd2 (mX12_right y1 (1 : Int32) σ) fun v2 σ2 =>
  if isB v2 then
  some (v2, σ2)
  else none
def mX12_isPerson_17 (σ : Sto) : Option (Int32 × Sto) :=
  mX12_isPerson_18 (0 : Int32) σ
def mX12_isPerson (p0 : Int32) (σ : Sto) : Option (Int32 × Sto) :=
  if p0 < 0 then (
    mX12_isPerson_17 σ
  ) else (
    if (sI σ 81 3) ≤ p0 then (
      mX12_isPerson_17 σ
    ) else (
      mX12_isPerson_18 (1 : Int32) σ
    )
  )
def mX12_isWork_18 (y1 : Int32) (σ : Sto) : Option (Int32 × Sto) :=
  bd2 (mX12_right y1 (1 : Int32) σ) fun v2 σ2 =>
  if isB v2 then
  some (v2, σ2)
  else none
def mX12_isWork_17 (σ : Sto) : Option (Int32 × Sto) :=
  mX12_isWork_18 (0 : Int32) σ
def mX12_isWork (p0 : Int32) (σ : Sto) : Option (Int32 × Sto) :=
  if p0 < 0 then (
    mX12_isWork_17 σ
  ) else (
    if (sI σ 81 4) ≤ p0 then (
      mX12_isWork_17 σ
    ) else (
      mX12_isWork_18 (1 : Int32) σ
    )
  )
def mX12_isSociety_18 (y1 : Int32) (σ : Sto) : Option (Int32 × Sto) :=
  bd2 (mX12_right y1 (1 : Int32) σ) fun v2 σ2 =>
  if isB v2 then
  some (v2, σ2)
  else none
def mX12_isSociety_17 (σ : Sto) : Option (Int32 × Sto) :=
  mX12_isSociety_18 (0 : Int32) σ
def mX12_isSociety (p0 : Int32) (σ : Sto) : Option (Int32 × Sto) :=
  if p0 < 0 then (
    mX12_isSociety_17 σ
  ) else (
    if (sI σ 81 5) ≤ p0 then (
      mX12_isSociety_17 σ
    ) else (
      mX12_isSociety_18 (1 : Int32) σ
    )
  )
def mX12_isDay (p0 : Int32) (σ : Sto) : Int32 :=
  if p0 < 0 then (
    (0 : Int32)
  ) else (
    if (36499 : Int32) < p0 then (
      (0 : Int32)
    ) else (
      (1 : Int32)
    )
  )
theorem bX12_isDay (p0 : Int32) (σ : Sto) : isB (mX12_isDay p0 σ) := by
  unfold mX12_isDay
  repeat' split
  all_goals first | exact Or.inl rfl | exact Or.inr rfl | exact bX11_isWithin _ _ _ _
def mX12_land (σ : Sto) : Option (Int32 × Sto) :=
  stp (wI σ 81 0 (0 : Int32)) fun σ1 =>
  if (sI σ1 81 2) = (6 : Int32) then (
    some ((-1 : Int32), σ1)
  ) else (
    stp (wI σ1 81 2 ((sI σ1 81 2) + (1 : Int32))) fun σ3 =>
    some (((sI σ3 81 2) - (1 : Int32)), σ3)
  )
def mX12_rate (p0 : Int32) (p1 : Int32) (p2 : Int32) (σ : Sto) : Option (Int32 × Sto) :=
  stp (wI σ 81 0 (0 : Int32)) fun σ1 =>
  bd2 (mX12_isLand p0 σ1) fun v2 σ2 =>
  if v2 = 0 then (
    some ((0 : Int32), σ2)
  ) else (
    if (sI σ2 81 6) = (60 : Int32) then (
      some ((0 : Int32), σ2)
    ) else (
      if (mX12_isDay p1 σ2) = 0 then (
        some ((0 : Int32), σ2)
      ) else (
        if p2 < (1 : Int32) then (
          some ((0 : Int32), σ2)
        ) else (
          if p2 ≤ (99999 : Int32) then (
            if inb (sI σ2 81 6) 60 then
            stp (wI σ2 94 ((sI σ2 81 6)).toNatClampNeg p0) fun σ10 =>
            if inb (sI σ10 81 6) 60 then
            stp (wI σ10 95 ((sI σ10 81 6)).toNatClampNeg p1) fun σ12 =>
            if inb (sI σ12 81 6) 60 then
            stp (wI σ12 96 ((sI σ12 81 6)).toNatClampNeg p2) fun σ14 =>
            stp (wI σ14 81 6 ((sI σ14 81 6) + (1 : Int32))) fun σ15 =>
            some ((1 : Int32), σ15)
            else none
            else none
            else none
          ) else (
            some ((0 : Int32), σ2)
          )
        )
      )
    )
  )
def mX12_person (p0 : Int32) (p1 : Int32) (σ : Sto) : Option (Int32 × Sto) :=
  stp (wI σ 81 0 (0 : Int32)) fun σ1 =>
  bd2 (mX12_isLand p0 σ1) fun v2 σ2 =>
  if v2 = 0 then (
    some ((0 : Int32), σ2)
  ) else (
    if (sI σ2 81 3) = (30 : Int32) then (
      some ((-1 : Int32), σ2)
    ) else (
      if p1 < 0 then (
        some ((-1 : Int32), σ2)
      ) else (
        if p1 ≤ (2 : Int32) then (
          if inb (sI σ2 81 3) 30 then
          stp (wI σ2 82 ((sI σ2 81 3)).toNatClampNeg p0) fun σ8 =>
          if inb (sI σ8 81 3) 30 then
          stp (wI σ8 83 ((sI σ8 81 3)).toNatClampNeg p1) fun σ10 =>
          stp (wI σ10 81 3 ((sI σ10 81 3) + (1 : Int32))) fun σ11 =>
          some (((sI σ11 81 3) - (1 : Int32)), σ11)
          else none
          else none
        ) else (
          some ((-1 : Int32), σ2)
        )
      )
    )
  )
def mX12_work_54 (x1 : Int32) (x2 : Int32) (x3 : Int32) (x4 : Int32) (x5 : Int32) (x6 : Int32) (y0 : Int32) (σ : Sto) : Option (Int32 × Sto) :=
  if (sI σ 81 4) = (30 : Int32) then (
    some ((-1 : Int32), σ)
  ) else (
    if y0 = 0 then (
      some ((-1 : Int32), σ)
    ) else (
      if x5 < (1 : Int32) then (
        some ((-1 : Int32), σ)
      ) else (
        if (999 : Int32) < x5 then (
          some ((-1 : Int32), σ)
        ) else (
          if x6 < (1 : Int32) then (
            some ((-1 : Int32), σ)
          ) else (
            if x6 ≤ (999 : Int32) then (
              if inb (sI σ 81 4) 30 then
              stp (wI σ 84 ((sI σ 81 4)).toNatClampNeg (1 : Int32)) fun σ12 =>
              if inb ((3 : Int32) * (sI σ12 81 4)) 90 then
              stp (wI σ12 85 (((3 : Int32) * (sI σ12 81 4))).toNatClampNeg x1) fun σ14 =>
              if inb ((3 : Int32) * (sI σ14 81 4)) 90 then
              stp (wI σ14 86 (((3 : Int32) * (sI σ14 81 4))).toNatClampNeg x2) fun σ16 =>
              if inb (sI σ16 81 4) 30 then
              stp (wI σ16 87 ((sI σ16 81 4)).toNatClampNeg x3) fun σ18 =>
              if inb (sI σ18 81 4) 30 then
              stp (wI σ18 88 ((sI σ18 81 4)).toNatClampNeg x4) fun σ20 =>
              if inb (sI σ20 81 4) 30 then
              stp (wI σ20 89 ((sI σ20 81 4)).toNatClampNeg x5) fun σ22 =>
              if inb (sI σ22 81 4) 30 then
              stp (wI σ22 90 ((sI σ22 81 4)).toNatClampNeg x6) fun σ24 =>
              if inb (sI σ24 81 4) 30 then
              stp (wI σ24 91 ((sI σ24 81 4)).toNatClampNeg (0 : Int32)) fun σ26 =>
              stp (wI σ26 81 4 ((sI σ26 81 4) + (1 : Int32))) fun σ27 =>
              some (((sI σ27 81 4) - (1 : Int32)), σ27)
              else none
              else none
              else none
              else none
              else none
              else none
              else none
              else none
            ) else (
              some ((-1 : Int32), σ)
            )
          )
        )
      )
    )
  )
def mX12_work_53 (x1 : Int32) (x2 : Int32) (x3 : Int32) (x4 : Int32) (x5 : Int32) (x6 : Int32) (σ : Sto) : Option (Int32 × Sto) :=
  mX12_work_54 x1 x2 x3 x4 x5 x6 (0 : Int32) σ
def mX12_work (p0 : Int32) (p1 : Int32) (p2 : Int32) (p3 : Int32) (p4 : Int32) (p5 : Int32) (σ : Sto) : Option (Int32 × Sto) :=
  stp (wI σ 81 0 (0 : Int32)) fun σ1 =>
  bd2 (mX12_isPerson p0 σ1) fun v2 σ2 =>
  if v2 = 0 then (
    some ((0 : Int32), σ2)
  ) else (
    if p1 < (1 : Int32) then (
      mX12_work_53 p0 p1 p2 p3 p4 p5 σ2
    ) else (
      if (9 : Int32) < p1 then (
        mX12_work_53 p0 p1 p2 p3 p4 p5 σ2
      ) else (
        if p2 < (1 : Int32) then (
          mX12_work_53 p0 p1 p2 p3 p4 p5 σ2
        ) else (
          if (99 : Int32) < p2 then (
            mX12_work_53 p0 p1 p2 p3 p4 p5 σ2
          ) else (
            if p3 < 0 then (
              mX12_work_53 p0 p1 p2 p3 p4 p5 σ2
            ) else (
              if (65535 : Int32) < p3 then (
                mX12_work_53 p0 p1 p2 p3 p4 p5 σ2
              ) else (
                mX12_work_54 p0 p1 p2 p3 p4 p5 (1 : Int32) σ2
              )
            )
          )
        )
      )
    )
  )
def mX12_isBy_5B (f5 : Int32 → Int32 → Int32 → Int32 → Sto → Option Int32) (x1 : Int32) (x2 : Int32) (x3 : Int32) (x4 : Int32) (σ : Sto) : Option Int32 :=
  if inb x1 30 then
  if (sI σ 84 (x1).toNatClampNeg) ≤ x4 then (
    if isB x3 then
    some x3
    else none
  ) else (
    if x3 = 0 then (
      if inb (((3 : Int32) * x1) + x4) 90 then
      if (sI σ 85 ((((3 : Int32) * x1) + x4)).toNatClampNeg) = x2 then (
        f5 x1 x2 (1 : Int32) (x4 + (1 : Int32)) σ
      ) else (
        f5 x1 x2 (0 : Int32) (x4 + (1 : Int32)) σ
      )
      else none
    ) else (
      f5 x1 x2 (1 : Int32) (x4 + (1 : Int32)) σ
    )
  )
  else none
def mX12_isBy_5 : Nat → Int32 → Int32 → Int32 → Int32 → Sto → Option Int32
  | 0, _, _, _, _, _ => none
  | n + 1, x1, x2, x3, x4, σ => mX12_isBy_5B (mX12_isBy_5 n) x1 x2 x3 x4 σ
def mX12_isBy (p0 : Int32) (p1 : Int32) (σ : Sto) : Option Int32 :=
  mX12_isBy_5 FU p0 p1 (0 : Int32) (0 : Int32) σ
def mX12_joins (p0 : Int32) (p1 : Int32) (p2 : Int32) (σ : Sto) : Option (Int32 × Sto) :=
  stp (wI σ 81 0 (0 : Int32)) fun σ1 =>
  bd2 (mX12_isWork p0 σ1) fun v2 σ2 =>
  if v2 = 0 then (
    some ((0 : Int32), σ2)
  ) else (
    bd2 (mX12_isPerson p1 σ2) fun v4 σ4 =>
    if v4 = 0 then (
      some ((0 : Int32), σ4)
    ) else (
      if inb p0 30 then
      if (sI σ4 84 (p0).toNatClampNeg) = (3 : Int32) then (
        some ((-1 : Int32), σ4)
      ) else (
        (mX12_isBy p0 p1 σ4).bind fun v8 =>
        if v8 = 0 then (
          if p2 < (1 : Int32) then (
            some ((-1 : Int32), σ4)
          ) else (
            if (9 : Int32) < p2 then (
              some ((-1 : Int32), σ4)
            ) else (
              if (sI σ4 91 (p0).toNatClampNeg) = 0 then (
                if inb (((3 : Int32) * p0) + (sI σ4 84 (p0).toNatClampNeg)) 90 then
                stp (wI σ4 85 ((((3 : Int32) * p0) + (sI σ4 84 (p0).toNatClampNeg))).toNatClampNeg p1) fun σ14 =>
                if inb (((3 : Int32) * p0) + (sI σ14 84 (p0).toNatClampNeg)) 90 then
                stp (wI σ14 86 ((((3 : Int32) * p0) + (sI σ14 84 (p0).toNatClampNeg))).toNatClampNeg p2) fun σ16 =>
                stp (wI σ16 84 (p0).toNatClampNeg ((sI σ16 84 (p0).toNatClampNeg) + (1 : Int32))) fun σ17 =>
                some ((sI σ17 84 (p0).toNatClampNeg), σ17)
                else none
                else none
              ) else (
                some ((-1 : Int32), σ4)
              )
            )
          )
        ) else (
          some ((-1 : Int32), σ4)
        )
      )
      else none
    )
  )
def mX12_society (p0 : Int32) (p1 : Int32) (σ : Sto) : Option (Int32 × Sto) :=
  stp (wI σ 81 0 (0 : Int32)) fun σ1 =>
  bd2 (mX12_isLand p0 σ1) fun v2 σ2 =>
  if v2 = 0 then (
    some ((0 : Int32), σ2)
  ) else (
    if (sI σ2 81 5) = (5 : Int32) then (
      some ((-1 : Int32), σ2)
    ) else (
      if p1 < 0 then (
        some ((-1 : Int32), σ2)
      ) else (
        if p1 ≤ (300 : Int32) then (
          if inb (sI σ2 81 5) 5 then
          stp (wI σ2 92 ((sI σ2 81 5)).toNatClampNeg p0) fun σ8 =>
          if inb (sI σ8 81 5) 5 then
          stp (wI σ8 93 ((sI σ8 81 5)).toNatClampNeg p1) fun σ10 =>
          stp (wI σ10 81 5 ((sI σ10 81 5) + (1 : Int32))) fun σ11 =>
          some (((sI σ11 81 5) - (1 : Int32)), σ11)
          else none
          else none
        ) else (
          some ((-1 : Int32), σ2)
        )
      )
    )
  )
def mX12_evenings_34 (x1 : Int32) (y1 : Int32) (σ : Sto) : Option (Int32 × Sto) :=
  bd2 (mX12_right y1 (1 : Int32) σ) fun v3 σ3 =>
  if v3 = 0 then (
    some ((0 : Int32), σ3)
  ) else (
    stp (wI σ3 81 1 ((sI σ3 81 1) + x1)) fun σ5 =>
    some ((sI σ5 81 1), σ5)
  )
def mX12_evenings_33 (x1 : Int32) (σ : Sto) : Option (Int32 × Sto) :=
  mX12_evenings_34 x1 (0 : Int32) σ
def mX12_evenings (p0 : Int32) (σ : Sto) : Option (Int32 × Sto) :=
  stp (wI σ 81 0 (0 : Int32)) fun σ1 =>
  if p0 < 0 then (
    mX12_evenings_33 p0 σ1
  ) else (
    if (999 : Int32) < p0 then (
      mX12_evenings_33 p0 σ1
    ) else (
      if ((999 : Int32) - (sI σ1 81 1)) < p0 then (
        mX12_evenings_33 p0 σ1
      ) else (
        mX12_evenings_34 p0 (1 : Int32) σ1
      )
    )
  )
def mX12_tells (p0 : Int32) (p1 : Int32) (p2 : Int32) (p3 : Int32) (σ : Sto) : Option (Int32 × Sto) :=
  if inb (sI σ 81 7) 200 then
  stp (wI σ 97 ((sI σ 81 7)).toNatClampNeg p0) fun σ2 =>
  if inb (sI σ2 81 7) 200 then
  stp (wI σ2 98 ((sI σ2 81 7)).toNatClampNeg (-1 : Int32)) fun σ4 =>
  if inb (sI σ4 81 7) 200 then
  stp (wI σ4 99 ((sI σ4 81 7)).toNatClampNeg p1) fun σ6 =>
  if inb (sI σ6 81 7) 200 then
  stp (wI σ6 100 ((sI σ6 81 7)).toNatClampNeg p2) fun σ8 =>
  if inb (sI σ8 81 7) 200 then
  stp (wI σ8 101 ((sI σ8 81 7)).toNatClampNeg p3) fun σ10 =>
  if inb (sI σ10 81 7) 200 then
  stp (wI σ10 106 ((sI σ10 81 7)).toNatClampNeg (sI σ10 81 1)) fun σ12 =>
  if inb (sI σ12 81 7) 200 then
  stp (wI σ12 107 ((sI σ12 81 7)).toNatClampNeg (-1 : Int32)) fun σ14 =>
  stp (wI σ14 81 7 ((sI σ14 81 7) + (1 : Int32))) fun σ15 =>
  some (((sI σ15 81 7) - (1 : Int32)), σ15)
  else none
  else none
  else none
  else none
  else none
  else none
  else none
def mX12_isKnown (p0 : Int32) (p1 : Int32) (σ : Sto) : Option Int32 :=
  if inb p0 200 then
  if p1 < (sI σ 106 (p0).toNatClampNeg) then (
    some (0 : Int32)
  ) else (
    if (sI σ 107 (p0).toNatClampNeg) = (-1 : Int32) then (
      some (1 : Int32)
    ) else (
      if (sI σ 107 (p0).toNatClampNeg) ≤ p1 then (
        some (0 : Int32)
      ) else (
        some (1 : Int32)
      )
    )
  )
  else none
def mX12_death (p0 : Int32) (p1 : Int32) (p2 : Int32) (σ : Sto) : Option (Int32 × Sto) :=
  stp (wI σ 81 0 (0 : Int32)) fun σ1 =>
  bd2 (mX12_isPerson p0 σ1) fun v2 σ2 =>
  if v2 = 0 then (
    some ((0 : Int32), σ2)
  ) else (
    if (sI σ2 81 7) = (200 : Int32) then (
      some ((-1 : Int32), σ2)
    ) else (
      if (mX12_isDay p1 σ2) = 0 then (
        some ((-1 : Int32), σ2)
      ) else (
        if (mX12_isDay p2 σ2) = 0 then (
          some ((-1 : Int32), σ2)
        ) else (
          if p1 ≤ p2 then (
            bd2 (mX12_tells (0 : Int32) p0 (-1 : Int32) p1 σ2) fun v10 σ10 =>
            if inb v10 200 then
            stp (wI σ10 102 (v10).toNatClampNeg p2) fun σ12 =>
            some (v10, σ12)
            else none
          ) else (
            some ((-1 : Int32), σ2)
          )
        )
      )
    )
  )
def mX12_heir_77B (f77 : Int32 → Int32 → Int32 → Int32 → Int32 → Int32 → Sto → Option (Int32 × Sto)) (x1 : Int32) (x2 : Int32) (x3 : Int32) (x4 : Int32) (x5 : Int32) (x6 : Int32) (σ : Sto) : Option (Int32 × Sto) :=
  if (sI σ 81 7) ≤ x6 then (
    if x5 ≤ (27720 : Int32) then (
      bd2 (mX12_tells (1 : Int32) x1 x2 (0 : Int32) σ) fun v15 σ15 =>
      if inb v15 200 then
      stp (wI σ15 104 (v15).toNatClampNeg x3) fun σ17 =>
      stp (wI σ17 105 (v15).toNatClampNeg x4) fun σ18 =>
      some (v15, σ18)
      else none
    ) else (
      some ((-1 : Int32), σ)
    )
  ) else (
    if inb x6 200 then
    if (sI σ 97 (x6).toNatClampNeg) = (1 : Int32) then (
      if (sI σ 99 (x6).toNatClampNeg) = x1 then (
        (mX12_isKnown x6 (sI σ 81 1) σ).bind fun v22 =>
        if v22 = 0 then (
          f77 x1 x2 x3 x4 x5 (x6 + (1 : Int32)) σ
        ) else (
          if ¬ (sI σ 105 (x6).toNatClampNeg) = 0 then
          f77 x1 x2 x3 x4 (x5 + (((27720 : Int32) / (sI σ 105 (x6).toNatClampNeg)) * (sI σ 104 (x6).toNatClampNeg))) (x6 + (1 : Int32)) σ
          else none
        )
      ) else (
        f77 x1 x2 x3 x4 x5 (x6 + (1 : Int32)) σ
      )
    ) else (
      f77 x1 x2 x3 x4 x5 (x6 + (1 : Int32)) σ
    )
    else none
  )
def mX12_heir_77 : Nat → Int32 → Int32 → Int32 → Int32 → Int32 → Int32 → Sto → Option (Int32 × Sto)
  | 0, _, _, _, _, _, _, _ => none
  | n + 1, x1, x2, x3, x4, x5, x6, σ => mX12_heir_77B (mX12_heir_77 n) x1 x2 x3 x4 x5 x6 σ
def mX12_heir (p0 : Int32) (p1 : Int32) (p2 : Int32) (p3 : Int32) (σ : Sto) : Option (Int32 × Sto) :=
  stp (wI σ 81 0 (0 : Int32)) fun σ1 =>
  bd2 (mX12_isPerson p0 σ1) fun v2 σ2 =>
  if v2 = 0 then (
    some ((0 : Int32), σ2)
  ) else (
    bd2 (mX12_isPerson p1 σ2) fun v4 σ4 =>
    if v4 = 0 then (
      some ((0 : Int32), σ4)
    ) else (
      if (sI σ4 81 7) = (200 : Int32) then (
        some ((-1 : Int32), σ4)
      ) else (
        if p3 < (1 : Int32) then (
          some ((-1 : Int32), σ4)
        ) else (
          if (12 : Int32) < p3 then (
            some ((-1 : Int32), σ4)
          ) else (
            if p2 < (1 : Int32) then (
              some ((-1 : Int32), σ4)
            ) else (
              if p3 < p2 then (
                some ((-1 : Int32), σ4)
              ) else (
                if p0 = p1 then (
                  some ((-1 : Int32), σ4)
                ) else (
                  if ¬ p3 = 0 then
                  mX12_heir_77 FU p0 p1 p2 p3 (((27720 : Int32) / p3) * p2) (0 : Int32) σ4
                  else none
                )
              )
            )
          )
        )
      )
    )
  )
def mX12_sale (p0 : Int32) (p1 : Int32) (p2 : Int32) (p3 : Int32) (p4 : Int32) (p5 : Int32) (p6 : Int32) (σ : Sto) : Option (Int32 × Sto) :=
  stp (wI σ 81 0 (0 : Int32)) fun σ1 =>
  bd2 (mX12_isWork p0 σ1) fun v2 σ2 =>
  if v2 = 0 then (
    some ((0 : Int32), σ2)
  ) else (
    bd2 (mX12_isPerson p1 σ2) fun v4 σ4 =>
    if v4 = 0 then (
      some ((0 : Int32), σ4)
    ) else (
      bd2 (mX12_isPerson p2 σ4) fun v6 σ6 =>
      if v6 = 0 then (
        some ((0 : Int32), σ6)
      ) else (
        bd2 (mX12_isLand p4 σ6) fun v8 σ8 =>
        if v8 = 0 then (
          some ((0 : Int32), σ8)
        ) else (
          if (sI σ8 81 7) = (200 : Int32) then (
            some ((-1 : Int32), σ8)
          ) else (
            if p1 = p2 then (
              some ((-1 : Int32), σ8)
            ) else (
              if (mX12_isDay p3 σ8) = 0 then (
                some ((-1 : Int32), σ8)
              ) else (
                if p5 < (1 : Int32) then (
                  some ((-1 : Int32), σ8)
                ) else (
                  if (20000000 : Int32) < p5 then (
                    some ((-1 : Int32), σ8)
                  ) else (
                    if p6 < 0 then (
                      some ((-1 : Int32), σ8)
                    ) else (
                      if p6 ≤ (3 : Int32) then (
                        bd2 (mX12_tells (2 : Int32) p1 p2 p3 σ8) fun v18 σ18 =>
                        if inb v18 200 then
                        stp (wI σ18 98 (v18).toNatClampNeg p0) fun σ20 =>
                        stp (wI σ20 103 (v18).toNatClampNeg p4) fun σ21 =>
                        stp (wI σ21 104 (v18).toNatClampNeg p5) fun σ22 =>
                        stp (wI σ22 105 (v18).toNatClampNeg p6) fun σ23 =>
                        if inb p0 30 then
                        stp (wI σ23 91 (p0).toNatClampNeg (1 : Int32)) fun σ25 =>
                        some (v18, σ25)
                        else none
                        else none
                      ) else (
                        some ((-1 : Int32), σ8)
                      )
                    )
                  )
                )
              )
            )
          )
        )
      )
    )
  )
def mX12_fact_146 (x6 : Int32) (y1 : Int32) (y2 : Int32) (σ : Sto) : Option (Int32 × Sto) :=
  if inb y1 200 then
  stp (wI σ 98 (y1).toNatClampNeg y2) fun σ17 =>
  some (x6, σ17)
  else none
def mX12_fact_118 (x1 : Int32) (x2 : Int32) (x3 : Int32) (x4 : Int32) (x5 : Int32) (σ : Sto) : Option (Int32 × Sto) :=
  bd2 (mX12_tells x1 x3 x4 x5 σ) fun v14 σ14 =>
  if x1 = (5 : Int32) then (
    mX12_fact_146 v14 v14 (-1 : Int32) σ14
  ) else (
    mX12_fact_146 v14 v14 x2 σ14
  )
def mX12_fact_87 (x1 : Int32) (x2 : Int32) (x3 : Int32) (x4 : Int32) (x5 : Int32) (σ : Sto) : Option (Int32 × Sto) :=
  if (sI σ 81 7) = (200 : Int32) then (
    some ((-1 : Int32), σ)
  ) else (
    if (mX12_isDay x5 σ) = 0 then (
      some ((-1 : Int32), σ)
    ) else (
      if x1 = (3 : Int32) then (
        if x3 = x4 then (
          some ((-1 : Int32), σ)
        ) else (
          mX12_fact_118 x1 x2 x3 x4 x5 σ
        )
      ) else (
        mX12_fact_118 x1 x2 x3 x4 x5 σ
      )
    )
  )
def mX12_fact_71 (x1 : Int32) (x2 : Int32) (x3 : Int32) (x4 : Int32) (x5 : Int32) (σ : Sto) : Option (Int32 × Sto) :=
  if x1 = (5 : Int32) then (
    bd2 (mX12_isSociety x4 σ) fun v19 σ19 =>
    if v19 = 0 then (
      some ((0 : Int32), σ19)
    ) else (
      mX12_fact_87 x1 x2 x3 x4 x5 σ19
    )
  ) else (
    mX12_fact_87 x1 x2 x3 x4 x5 σ
  )
def mX12_fact_45 (x1 : Int32) (x2 : Int32) (x3 : Int32) (x4 : Int32) (x5 : Int32) (σ : Sto) : Option (Int32 × Sto) :=
  bd2 (mX12_isPerson x3 σ) fun v6 σ6 =>
  if v6 = 0 then (
    some ((0 : Int32), σ6)
  ) else (
    if x1 = (3 : Int32) then (
      bd2 (mX12_isPerson x4 σ6) fun v21 σ21 =>
      if v21 = 0 then (
        some ((0 : Int32), σ21)
      ) else (
        mX12_fact_71 x1 x2 x3 x4 x5 σ21
      )
    ) else (
      mX12_fact_71 x1 x2 x3 x4 x5 σ6
    )
  )
def mX12_fact_21 (x1 : Int32) (x2 : Int32) (x3 : Int32) (x4 : Int32) (x5 : Int32) (y1 : Int32) (σ : Sto) : Option (Int32 × Sto) :=
  bd2 (mX12_right y1 (1 : Int32) σ) fun v3 σ3 =>
  if v3 = 0 then (
    some ((0 : Int32), σ3)
  ) else (
    if x1 = (5 : Int32) then (
      mX12_fact_45 x1 x2 x3 x4 x5 σ3
    ) else (
      bd2 (mX12_isWork x2 σ3) fun v23 σ23 =>
      if v23 = 0 then (
        some ((0 : Int32), σ23)
      ) else (
        mX12_fact_45 x1 x2 x3 x4 x5 σ23
      )
    )
  )
def mX12_fact_20 (x1 : Int32) (x2 : Int32) (x3 : Int32) (x4 : Int32) (x5 : Int32) (σ : Sto) : Option (Int32 × Sto) :=
  mX12_fact_21 x1 x2 x3 x4 x5 (0 : Int32) σ
def mX12_fact (p0 : Int32) (p1 : Int32) (p2 : Int32) (p3 : Int32) (p4 : Int32) (σ : Sto) : Option (Int32 × Sto) :=
  stp (wI σ 81 0 (0 : Int32)) fun σ1 =>
  if p0 < (3 : Int32) then (
    mX12_fact_20 p0 p1 p2 p3 p4 σ1
  ) else (
    if (5 : Int32) < p0 then (
      mX12_fact_20 p0 p1 p2 p3 p4 σ1
    ) else (
      mX12_fact_21 p0 p1 p2 p3 p4 (1 : Int32) σ1
    )
  )
def mX12_back_62 (x1 : Int32) (x2 : Int32) (y0 : Int32) (σ : Sto) : Option (Int32 × Sto) :=
  if y0 = (-1 : Int32) then (
    if x1 = 0 then (
      if inb x2 200 then
      stp (wI σ 107 (x2).toNatClampNeg (sI σ 81 1)) fun σ10 =>
      some ((1 : Int32), σ10)
      else none
    ) else (
      if inb x2 13 then
      stp (wI σ 115 (x2).toNatClampNeg (sI σ 81 1)) fun σ12 =>
      some ((1 : Int32), σ12)
      else none
    )
  ) else (
    some ((0 : Int32), σ)
  )
def mX12_back_34 (x1 : Int32) (x2 : Int32) (y1 : Int32) (σ : Sto) : Option (Int32 × Sto) :=
  bd2 (mX12_right y1 (1 : Int32) σ) fun v3 σ3 =>
  if v3 = 0 then (
    some ((0 : Int32), σ3)
  ) else (
    if x1 = 0 then (
      if inb x2 200 then
      mX12_back_62 x1 x2 (sI σ3 107 (x2).toNatClampNeg) σ3
      else none
    ) else (
      if inb x2 13 then
      mX12_back_62 x1 x2 (sI σ3 115 (x2).toNatClampNeg) σ3
      else none
    )
  )
def mX12_back_33 (x1 : Int32) (x2 : Int32) (σ : Sto) : Option (Int32 × Sto) :=
  mX12_back_34 x1 x2 (0 : Int32) σ
def mX12_back_26 (x1 : Int32) (x2 : Int32) (y1 : Int32) (y2 : Int32) (σ : Sto) : Option (Int32 × Sto) :=
  if y2 ≤ y1 then (
    mX12_back_33 x1 x2 σ
  ) else (
    mX12_back_34 x1 x2 (1 : Int32) σ
  )
def mX12_back (p0 : Int32) (p1 : Int32) (σ : Sto) : Option (Int32 × Sto) :=
  stp (wI σ 81 0 (0 : Int32)) fun σ1 =>
  if p1 < 0 then (
    mX12_back_33 p0 p1 σ1
  ) else (
    if p0 = 0 then (
      mX12_back_26 p0 p1 p1 (sI σ1 81 7) σ1
    ) else (
      mX12_back_26 p0 p1 p1 (sI σ1 81 50) σ1
    )
  )
def mX12_isSale_28 (y1 : Int32) (σ : Sto) : Option (Int32 × Sto) :=
  bd2 (mX12_right y1 (1 : Int32) σ) fun v2 σ2 =>
  if isB v2 then
  some (v2, σ2)
  else none
def mX12_isSale_27 (σ : Sto) : Option (Int32 × Sto) :=
  mX12_isSale_28 (0 : Int32) σ
def mX12_isSale (p0 : Int32) (σ : Sto) : Option (Int32 × Sto) :=
  if p0 < 0 then (
    mX12_isSale_27 σ
  ) else (
    if (sI σ 81 7) ≤ p0 then (
      mX12_isSale_27 σ
    ) else (
      if inb p0 200 then
      if (sI σ 97 (p0).toNatClampNeg) = (2 : Int32) then (
        mX12_isSale_28 (1 : Int32) σ
      ) else (
        mX12_isSale_27 σ
      )
      else none
    )
  )
def mX12_claim_42B (f42 : Int32 → Int32 → Int32 → Int32 → Sto → Option (Int32 × Sto)) (x1 : Int32) (x2 : Int32) (x3 : Int32) (x4 : Int32) (σ : Sto) : Option (Int32 × Sto) :=
  if (sI σ 81 8) ≤ x4 then (
    if x3 = 0 then (
      if inb (sI σ 81 8) 200 then
      stp (wI σ 108 ((sI σ 81 8)).toNatClampNeg x1) fun σ10 =>
      if inb (sI σ10 81 8) 200 then
      stp (wI σ10 109 ((sI σ10 81 8)).toNatClampNeg x2) fun σ12 =>
      if inb (sI σ12 81 8) 200 then
      stp (wI σ12 110 ((sI σ12 81 8)).toNatClampNeg (sI σ12 81 1)) fun σ14 =>
      stp (wI σ14 81 8 ((sI σ14 81 8) + (1 : Int32))) fun σ15 =>
      some ((1 : Int32), σ15)
      else none
      else none
      else none
    ) else (
      some ((0 : Int32), σ)
    )
  ) else (
    if x3 = 0 then (
      if inb x4 200 then
      if (sI σ 108 (x4).toNatClampNeg) = x1 then (
        if (sI σ 109 (x4).toNatClampNeg) = x2 then (
          f42 x1 x2 (1 : Int32) (x4 + (1 : Int32)) σ
        ) else (
          f42 x1 x2 (0 : Int32) (x4 + (1 : Int32)) σ
        )
      ) else (
        f42 x1 x2 (0 : Int32) (x4 + (1 : Int32)) σ
      )
      else none
    ) else (
      f42 x1 x2 (1 : Int32) (x4 + (1 : Int32)) σ
    )
  )
def mX12_claim_42 : Nat → Int32 → Int32 → Int32 → Int32 → Sto → Option (Int32 × Sto)
  | 0, _, _, _, _, _ => none
  | n + 1, x1, x2, x3, x4, σ => mX12_claim_42B (mX12_claim_42 n) x1 x2 x3 x4 σ
def mX12_claim (p0 : Int32) (p1 : Int32) (σ : Sto) : Option (Int32 × Sto) :=
  stp (wI σ 81 0 (0 : Int32)) fun σ1 =>
  bd2 (mX12_isPerson p0 σ1) fun v2 σ2 =>
  if v2 = 0 then (
    some ((0 : Int32), σ2)
  ) else (
    bd2 (mX12_isSale p1 σ2) fun v4 σ4 =>
    if v4 = 0 then (
      some ((0 : Int32), σ4)
    ) else (
      if (sI σ4 81 8) = (200 : Int32) then (
        mX12_claim_42 FU p0 p1 (1 : Int32) (0 : Int32) σ4
      ) else (
        mX12_claim_42 FU p0 p1 (0 : Int32) (0 : Int32) σ4
      )
    )
  )
def mX12_lays_3B (f3 : Int32 → Int32 → Sto → Option Sto) (x1 : Int32) (x2 : Int32) (σ : Sto) : Option Sto :=
  if x2 < 0 then (
    some σ
  ) else (
    if inb (sI σ 81 39) 500 then
    stp (wI σ 111 ((sI σ 81 39)).toNatClampNeg ((x1 >>> (x2 &&& 31)) &&& (255 : Int32))) fun σ3 =>
    stp (wI σ3 81 39 ((sI σ3 81 39) + (1 : Int32))) fun σ4 =>
    f3 x1 (x2 + (-8 : Int32)) σ4
    else none
  )
def mX12_lays_3 : Nat → Int32 → Int32 → Sto → Option Sto
  | 0, _, _, _ => none
  | n + 1, x1, x2, σ => mX12_lays_3B (mX12_lays_3 n) x1 x2 σ
def mX12_lays (p0 : Int32) (σ : Sto) : Option Sto :=
  mX12_lays_3 FU p0 (24 : Int32) σ
def mX12_feed (p0 : Int32) (p1 : Int32) (p2 : Int32) (p3 : Int32) (p4 : Int32) (σ : Sto) : Option (Int32 × Sto) :=
  stp (wI σ 81 0 (0 : Int32)) fun σ1 =>
  if ((sI σ1 81 39) + (20 : Int32)) ≤ (500 : Int32) then (
    (mX12_lays p0 σ1).bind fun σ3 =>
    (mX12_lays p1 σ3).bind fun σ4 =>
    (mX12_lays p2 σ4).bind fun σ5 =>
    (mX12_lays p3 σ5).bind fun σ6 =>
    (mX12_lays p4 σ6).bind fun σ7 =>
    some ((sI σ7 81 39), σ7)
  ) else (
    some ((-1 : Int32), σ1)
  )
def mX12_byteAt (p0 : Int32) (σ : Sto) : Option Int32 :=
  if (sI σ 81 42) ≤ p0 then (
    some (0 : Int32)
  ) else (
    if inb p0 500 then
    some (sI σ 111 (p0).toNatClampNeg)
    else none
  )
def mX12_isLetter (p0 : Int32) (σ : Sto) : Int32 :=
  if p0 < (97 : Int32) then (
    (0 : Int32)
  ) else (
    if (122 : Int32) < p0 then (
      (0 : Int32)
    ) else (
      (1 : Int32)
    )
  )
theorem bX12_isLetter (p0 : Int32) (σ : Sto) : isB (mX12_isLetter p0 σ) := by
  unfold mX12_isLetter
  repeat' split
  all_goals first | exact Or.inl rfl | exact Or.inr rfl | exact bX11_isWithin _ _ _ _
def mX12_isDigit (p0 : Int32) (σ : Sto) : Int32 :=
  if p0 < (48 : Int32) then (
    (0 : Int32)
  ) else (
    if (57 : Int32) < p0 then (
      (0 : Int32)
    ) else (
      (1 : Int32)
    )
  )
theorem bX12_isDigit (p0 : Int32) (σ : Sto) : isB (mX12_isDigit p0 σ) := by
  unfold mX12_isDigit
  repeat' split
  all_goals first | exact Or.inl rfl | exact Or.inr rfl | exact bX11_isWithin _ _ _ _
def mX12_goes_332 (σ : Sto) : Option Sto :=
  stp (wI σ 81 46 ((sI σ 81 43) - (sI σ 81 45))) fun σ15 =>
  some σ15
def mX12_goes_329 (y1 : Int32) (σ : Sto) : Option Sto :=
  stp (wI σ 81 44 y1) fun σ14 =>
  mX12_goes_332 σ14
def mX12_goes_238 (f187 : Sto → Option Sto) (σ : Sto) : Option Sto :=
  stp (wI σ 81 43 ((sI σ 81 43) + (1 : Int32))) fun σ29 =>
  f187 σ29
def mX12_goes_187B (f187 : Sto → Option Sto) (σ : Sto) : Option Sto :=
  (mX12_byteAt (sI σ 81 43) σ).bind fun v24 =>
  if (mX12_isDigit v24 σ) = 0 then (
    stp (wI σ 81 44 (2 : Int32)) fun σ27 =>
    mX12_goes_332 σ27
  ) else (
    if (8 : Int32) ≤ ((sI σ 81 43) - (sI σ 81 45)) then (
      mX12_goes_238 f187 σ
    ) else (
      (mX12_byteAt (sI σ 81 43) σ).bind fun v30 =>
      stp (wI σ 81 47 ((((10 : Int32) * (sI σ 81 47)) + v30) - (48 : Int32))) fun σ31 =>
      mX12_goes_238 f187 σ31
    )
  )
def mX12_goes_187 : Nat → Sto → Option Sto
  | 0, _ => none
  | n + 1, σ => mX12_goes_187B (mX12_goes_187 n)  σ
def mX12_goes_159 (f108 : Sto → Option Sto) (σ : Sto) : Option Sto :=
  stp (wI σ 81 43 ((sI σ 81 43) + (1 : Int32))) fun σ37 =>
  f108 σ37
def mX12_goes_108B (f108 : Sto → Option Sto) (σ : Sto) : Option Sto :=
  (mX12_byteAt (sI σ 81 43) σ).bind fun v32 =>
  if (mX12_isLetter v32 σ) = 0 then (
    stp (wI σ 81 44 (1 : Int32)) fun σ35 =>
    mX12_goes_332 σ35
  ) else (
    if (9 : Int32) ≤ ((sI σ 81 43) - (sI σ 81 45)) then (
      mX12_goes_159 f108 σ
    ) else (
      (mX12_byteAt (sI σ 81 43) σ).bind fun v38 =>
      stp (wL σ 81 49 (((sL σ 81 49) <<< (((5 : Int32)).toInt64 &&& 63)) ||| ((v38 - (96 : Int32))).toInt64)) fun σ39 =>
      mX12_goes_159 f108 σ39
    )
  )
def mX12_goes_108 : Nat → Sto → Option Sto
  | 0, _ => none
  | n + 1, σ => mX12_goes_108B (mX12_goes_108 n)  σ
def mX12_goes_50 (σ : Sto) : Option Sto :=
  stp (wI σ 81 45 (sI σ 81 43)) fun σ2 =>
  stp (wL σ2 81 49 (0 : Int64)) fun σ3 =>
  stp (wI σ3 81 47 (0 : Int32)) fun σ4 =>
  (mX12_byteAt (sI σ4 81 43) σ4).bind fun v5 =>
  stp (wI σ4 81 48 v5) fun σ6 =>
  if (sI σ6 81 43) < (sI σ6 81 42) then (
    if (mX12_isLetter v5 σ6) = 0 then (
      if (mX12_isDigit v5 σ6) = 0 then (
        stp (wI σ6 81 43 ((sI σ6 81 43) + (1 : Int32))) fun σ12 =>
        if v5 = (59 : Int32) then (
          mX12_goes_329 (3 : Int32) σ12
        ) else (
          if v5 = (40 : Int32) then (
            mX12_goes_329 (3 : Int32) σ12
          ) else (
            if v5 = (41 : Int32) then (
              mX12_goes_329 (3 : Int32) σ12
            ) else (
              if v5 = (43 : Int32) then (
                mX12_goes_329 (3 : Int32) σ12
              ) else (
                if v5 = (45 : Int32) then (
                  mX12_goes_329 (3 : Int32) σ12
                ) else (
                  if v5 = (42 : Int32) then (
                    mX12_goes_329 (3 : Int32) σ12
                  ) else (
                    if v5 = (47 : Int32) then (
                      mX12_goes_329 (3 : Int32) σ12
                    ) else (
                      if v5 = (60 : Int32) then (
                        mX12_goes_329 (3 : Int32) σ12
                      ) else (
                        if v5 = (61 : Int32) then (
                          mX12_goes_329 (3 : Int32) σ12
                        ) else (
                          mX12_goes_329 (4 : Int32) σ12
                        )
                      )
                    )
                  )
                )
              )
            )
          )
        )
      ) else (
        mX12_goes_187 FU σ6
      )
    ) else (
      mX12_goes_108 FU σ6
    )
  ) else (
    stp (wI σ6 81 44 (0 : Int32)) fun σ40 =>
    mX12_goes_332 σ40
  )
def mX12_goes_37 (f0 : Sto → Option Sto) (σ : Sto) : Option Sto :=
  stp (wI σ 81 43 ((sI σ 81 43) + (1 : Int32))) fun σ43 =>
  f0 σ43
def mX12_goes_0B (f0 : Sto → Option Sto) (σ : Sto) : Option Sto :=
  if (sI σ 81 42) ≤ (sI σ 81 43) then (
    mX12_goes_50 σ
  ) else (
    (mX12_byteAt (sI σ 81 43) σ).bind fun v41 =>
    if v41 = (32 : Int32) then (
      mX12_goes_37 f0 σ
    ) else (
      (mX12_byteAt (sI σ 81 43) σ).bind fun v44 =>
      if v44 = (10 : Int32) then (
        mX12_goes_37 f0 σ
      ) else (
        mX12_goes_50 σ
      )
    )
  )
def mX12_goes_0 : Nat → Sto → Option Sto
  | 0, _ => none
  | n + 1, σ => mX12_goes_0B (mX12_goes_0 n)  σ
def mX12_goes (σ : Sto) : Option Sto :=
  mX12_goes_0 FU σ
def mX12_spelled_91 (x6 : Int32) (x7 : Int64) (σ : Sto) : Int64 :=
  if x6 = 0 then (
    x7
  ) else (
    ((x7 <<< (((5 : Int32)).toInt64 &&& 63)) ||| ((x6 - (96 : Int32))).toInt64)
  )
def mX12_spelled_73 (x5 : Int32) (x6 : Int32) (x7 : Int64) (σ : Sto) : Int64 :=
  if x5 = 0 then (
    mX12_spelled_91 x6 x7 σ
  ) else (
    mX12_spelled_91 x6 ((x7 <<< (((5 : Int32)).toInt64 &&& 63)) ||| ((x5 - (96 : Int32))).toInt64) σ
  )
def mX12_spelled_55 (x4 : Int32) (x5 : Int32) (x6 : Int32) (x7 : Int64) (σ : Sto) : Int64 :=
  if x4 = 0 then (
    mX12_spelled_73 x5 x6 x7 σ
  ) else (
    mX12_spelled_73 x5 x6 ((x7 <<< (((5 : Int32)).toInt64 &&& 63)) ||| ((x4 - (96 : Int32))).toInt64) σ
  )
def mX12_spelled_39 (x3 : Int32) (x4 : Int32) (x5 : Int32) (x6 : Int32) (x7 : Int64) (σ : Sto) : Int64 :=
  if x3 = 0 then (
    mX12_spelled_55 x4 x5 x6 x7 σ
  ) else (
    mX12_spelled_55 x4 x5 x6 ((x7 <<< (((5 : Int32)).toInt64 &&& 63)) ||| ((x3 - (96 : Int32))).toInt64) σ
  )
def mX12_spelled_23 (x2 : Int32) (x3 : Int32) (x4 : Int32) (x5 : Int32) (x6 : Int32) (x7 : Int64) (σ : Sto) : Int64 :=
  if x2 = 0 then (
    mX12_spelled_39 x3 x4 x5 x6 x7 σ
  ) else (
    mX12_spelled_39 x3 x4 x5 x6 ((x7 <<< (((5 : Int32)).toInt64 &&& 63)) ||| ((x2 - (96 : Int32))).toInt64) σ
  )
def mX12_spelled (p0 : Int32) (p1 : Int32) (p2 : Int32) (p3 : Int32) (p4 : Int32) (p5 : Int32) (p6 : Int32) (σ : Sto) : Int64 :=
  if p1 = 0 then (
    mX12_spelled_23 p2 p3 p4 p5 p6 ((p0 - (96 : Int32))).toInt64 σ
  ) else (
    mX12_spelled_23 p2 p3 p4 p5 p6 ((((p0 - (96 : Int32))).toInt64 <<< (((5 : Int32)).toInt64 &&& 63)) ||| ((p1 - (96 : Int32))).toInt64) σ
  )
set_option maxRecDepth 100000 in
def mX12_known (p0 : Int32) (σ : Sto) : Int64 :=
  if p0 = (0 : Int32) then (
    (mX12_spelled (100 : Int32) (117 : Int32) (101 : Int32) (0 : Int32) (0 : Int32) (0 : Int32) (0 : Int32) σ)
  ) else
  if p0 = (1 : Int32) then (
    (mX12_spelled (115 : Int32) (116 : Int32) (101 : Int32) (112 : Int32) (0 : Int32) (0 : Int32) (0 : Int32) σ)
  ) else
  if p0 = (2 : Int32) then (
    (mX12_spelled (114 : Int32) (101 : Int32) (115 : Int32) (116 : Int32) (0 : Int32) (0 : Int32) (0 : Int32) σ)
  ) else
  if p0 = (3 : Int32) then (
    (mX12_spelled (108 : Int32) (101 : Int32) (97 : Int32) (115 : Int32) (116 : Int32) (0 : Int32) (0 : Int32) σ)
  ) else
  if p0 = (4 : Int32) then (
    (mX12_spelled (109 : Int32) (111 : Int32) (115 : Int32) (116 : Int32) (0 : Int32) (0 : Int32) (0 : Int32) σ)
  ) else
  if p0 = (5 : Int32) then (
    (mX12_spelled (121 : Int32) (101 : Int32) (97 : Int32) (114 : Int32) (115 : Int32) (0 : Int32) (0 : Int32) σ)
  ) else
  if p0 = (6 : Int32) then (
    (mX12_spelled (99 : Int32) (108 : Int32) (97 : Int32) (105 : Int32) (109 : Int32) (0 : Int32) (0 : Int32) σ)
  ) else
  if p0 = (7 : Int32) then (
    (mX12_spelled (97 : Int32) (103 : Int32) (114 : Int32) (101 : Int32) (101 : Int32) (115 : Int32) (0 : Int32) σ)
  ) else
  if p0 = (8 : Int32) then (
    (mX12_spelled (97 : Int32) (110 : Int32) (100 : Int32) (0 : Int32) (0 : Int32) (0 : Int32) (0 : Int32) σ)
  ) else
  if p0 = (9 : Int32) then (
    (mX12_spelled (111 : Int32) (114 : Int32) (0 : Int32) (0 : Int32) (0 : Int32) (0 : Int32) (0 : Int32) σ)
  ) else
  if p0 = (10 : Int32) then (
    (mX12_spelled (110 : Int32) (111 : Int32) (116 : Int32) (0 : Int32) (0 : Int32) (0 : Int32) (0 : Int32) σ)
  ) else
  if p0 = (11 : Int32) then (
    (mX12_spelled (112 : Int32) (114 : Int32) (105 : Int32) (99 : Int32) (101 : Int32) (0 : Int32) (0 : Int32) σ)
  ) else
  if p0 = (12 : Int32) then (
    (mX12_spelled (115 : Int32) (101 : Int32) (108 : Int32) (108 : Int32) (101 : Int32) (114 : Int32) (0 : Int32) σ)
  ) else
  if p0 = (13 : Int32) then (
    (mX12_spelled (98 : Int32) (117 : Int32) (121 : Int32) (101 : Int32) (114 : Int32) (0 : Int32) (0 : Int32) σ)
  ) else
  if p0 = (14 : Int32) then (
    (mX12_spelled (104 : Int32) (111 : Int32) (119 : Int32) (0 : Int32) (0 : Int32) (0 : Int32) (0 : Int32) σ)
  ) else
  if p0 = (15 : Int32) then (
    (mX12_spelled (97 : Int32) (114 : Int32) (116 : Int32) (105 : Int32) (115 : Int32) (116 : Int32) (0 : Int32) σ)
  ) else
  if p0 = (16 : Int32) then (
    (mX12_spelled (104 : Int32) (101 : Int32) (108 : Int32) (100 : Int32) (0 : Int32) (0 : Int32) (0 : Int32) σ)
  ) else
  if p0 = (17 : Int32) then (
    (mX12_spelled (102 : Int32) (114 : Int32) (111 : Int32) (109 : Int32) (0 : Int32) (0 : Int32) (0 : Int32) σ)
  ) else
  if p0 = (18 : Int32) then (
    (mX12_spelled (97 : Int32) (103 : Int32) (97 : Int32) (105 : Int32) (110 : Int32) (0 : Int32) (0 : Int32) σ)
  ) else
  if p0 = (19 : Int32) then (
    (mX12_spelled (106 : Int32) (111 : Int32) (105 : Int32) (110 : Int32) (116 : Int32) (0 : Int32) (0 : Int32) σ)
  ) else
  (
  (mX12_spelled (101 : Int32) (100 : Int32) (105 : Int32) (116 : Int32) (105 : Int32) (111 : Int32) (110 : Int32) σ)
  )
def mX12_knownWord_21B (f21 : Int32 → Sto → Option Int32) (x1 : Int32) (σ : Sto) : Option Int32 :=
  if (21 : Int32) ≤ x1 then (
    some (-1 : Int32)
  ) else (
    if (lg_cmp (mX12_known x1 σ) (sL σ 81 49)) = 0 then (
      some x1
    ) else (
      f21 (x1 + (1 : Int32)) σ
    )
  )
def mX12_knownWord_21 : Nat → Int32 → Sto → Option Int32
  | 0, _, _ => none
  | n + 1, x1, σ => mX12_knownWord_21B (mX12_knownWord_21 n) x1 σ
def mX12_knownWord (σ : Sto) : Option Int32 :=
  if (sI σ 81 44) = (1 : Int32) then (
    if (sI σ 81 46) ≤ (8 : Int32) then (
      mX12_knownWord_21 FU (0 : Int32) σ
    ) else (
      some (-1 : Int32)
    )
  ) else (
    some (-1 : Int32)
  )
def mX12_wrong (p0 : Int32) (σ : Sto) : Option Sto :=
  if (sI σ 81 40) = 0 then (
    stp (wI σ 81 40 p0) fun σ2 =>
    stp (wI σ2 81 41 (sI σ2 81 45)) fun σ3 =>
    some σ3
  ) else (
    some σ
  )
def mX12_isGood (σ : Sto) : Int32 :=
  if (sI σ 81 40) = 0 then (
    (1 : Int32)
  ) else (
    (0 : Int32)
  )
theorem bX12_isGood (σ : Sto) : isB (mX12_isGood σ) := by
  unfold mX12_isGood
  repeat' split
  all_goals first | exact Or.inl rfl | exact Or.inr rfl | exact bX11_isWithin _ _ _ _
def mX12_isSign (p0 : Int32) (σ : Sto) : Int32 :=
  if (sI σ 81 44) = (3 : Int32) then (
    if (sI σ 81 48) = p0 then (
      (1 : Int32)
    ) else (
      (0 : Int32)
    )
  ) else (
    (0 : Int32)
  )
theorem bX12_isSign (p0 : Int32) (σ : Sto) : isB (mX12_isSign p0 σ) := by
  unfold mX12_isSign
  repeat' split
  all_goals first | exact Or.inl rfl | exact Or.inr rfl | exact bX11_isWithin _ _ _ _
def mX12_puts (p0 : Int32) (σ : Sto) : Option Sto :=
  if inb (sI σ 81 51) 15800 then
  stp (wI σ 126 ((sI σ 81 51)).toNatClampNeg p0) fun σ2 =>
  stp (wI σ2 81 51 ((sI σ2 81 51) + (1 : Int32))) fun σ3 =>
  some σ3
  else none
def mX12_strength (p0 : Int32) (σ : Sto) : Int32 :=
  if p0 = (12 : Int32) then (
    (0 : Int32)
  ) else (
    if p0 = (5 : Int32) then (
      (1 : Int32)
    ) else (
      if p0 = (4 : Int32) then (
        (2 : Int32)
      ) else (
        if p0 = (3 : Int32) then (
          (3 : Int32)
        ) else (
          if p0 = (6 : Int32) then (
            (4 : Int32)
          ) else (
            if p0 = (7 : Int32) then (
              (4 : Int32)
            ) else (
              if p0 = (8 : Int32) then (
                (5 : Int32)
              ) else (
                if p0 = (9 : Int32) then (
                  (5 : Int32)
                ) else (
                  (6 : Int32)
                )
              )
            )
          )
        )
      )
    )
  )
def mX12_drops_0B (f0 : Int32 → Sto → Option Sto) (x1 : Int32) (σ : Sto) : Option Sto :=
  if (sI σ 81 52) ≤ 0 then (
    some σ
  ) else (
    if inb ((sI σ 81 52) - (1 : Int32)) 520 then
    if (sI σ 127 (((sI σ 81 52) - (1 : Int32))).toNatClampNeg) = (12 : Int32) then (
      some σ
    ) else (
      if (mX12_strength (sI σ 127 (((sI σ 81 52) - (1 : Int32))).toNatClampNeg) σ) < x1 then (
        some σ
      ) else (
        stp (wI σ 81 52 ((sI σ 81 52) - (1 : Int32))) fun σ6 =>
        if inb (sI σ6 81 52) 520 then
        (mX12_puts (sI σ6 127 ((sI σ6 81 52)).toNatClampNeg) σ6).bind fun σ8 =>
        f0 x1 σ8
        else none
      )
    )
    else none
  )
def mX12_drops_0 : Nat → Int32 → Sto → Option Sto
  | 0, _, _ => none
  | n + 1, x1, σ => mX12_drops_0B (mX12_drops_0 n) x1 σ
def mX12_drops (p0 : Int32) (σ : Sto) : Option Sto :=
  mX12_drops_0 FU p0 σ
def mX12_waitsFor (p0 : Int32) (σ : Sto) : Option Sto :=
  if inb (sI σ 81 52) 520 then
  stp (wI σ 127 ((sI σ 81 52)).toNatClampNeg p0) fun σ2 =>
  stp (wI σ2 81 52 ((sI σ2 81 52) + (1 : Int32))) fun σ3 =>
  some σ3
  else none
def mX12_part_91 (σ : Sto) : Option Sto :=
  if (mX12_isGood σ) = 0 then (
    some σ
  ) else (
    (mX12_goes σ).bind fun σ8 =>
    some σ8
  )
def mX12_part_70 (x1 : Int32) (σ : Sto) : Option Sto :=
  (mX12_puts (2 : Int32) σ).bind fun σ11 =>
  (mX12_puts (x1 - (11 : Int32)) σ11).bind fun σ12 =>
  mX12_part_91 σ12
def mX12_part_30 (σ : Sto) : Option Sto :=
  (mX12_puts (1 : Int32) σ).bind fun σ15 =>
  (mX12_puts (sI σ15 81 47) σ15).bind fun σ16 =>
  mX12_part_91 σ16
def mX12_part (σ : Sto) : Option Sto :=
  if (mX12_isGood σ) = 0 then (
    some σ
  ) else (
    if (sI σ 81 44) = (2 : Int32) then (
      if (sI σ 81 46) ≤ (8 : Int32) then (
        mX12_part_30 σ
      ) else (
        (mX12_wrong (2 : Int32) σ).bind fun σ17 =>
        mX12_part_30 σ17
      )
    ) else (
      if (sI σ 81 44) = (1 : Int32) then (
        (mX12_knownWord σ).bind fun v9 =>
        if (11 : Int32) ≤ v9 then (
          mX12_part_70 v9 σ
        ) else (
          (mX12_wrong (3 : Int32) σ).bind fun σ13 =>
          mX12_part_70 v9 σ13
        )
      ) else (
        (mX12_wrong (1 : Int32) σ).bind fun σ5 =>
        mX12_part_91 σ5
      )
    )
  )
def mX12_begins_61 (y1 : Int32) (σ : Sto) : Option Sto :=
  (mX12_wrong y1 σ).bind fun σ3 =>
  some σ3
def mX12_begins (σ : Sto) : Option Sto :=
  if (6 : Int32) ≤ (sI σ 81 53) then (
    if (sI σ 81 44) = (2 : Int32) then (
      mX12_begins_61 (2 : Int32) σ
    ) else (
      if (sI σ 81 44) = (1 : Int32) then (
        mX12_begins_61 (2 : Int32) σ
      ) else (
        if (mX12_isSign (40 : Int32) σ) = 0 then (
          mX12_begins_61 (1 : Int32) σ
        ) else (
          mX12_begins_61 (2 : Int32) σ
        )
      )
    )
  ) else (
    stp (wI σ 81 53 ((sI σ 81 53) + (1 : Int32))) fun σ7 =>
    if inb (sI σ7 81 53) 9 then
    stp (wI σ7 128 ((sI σ7 81 53)).toNatClampNeg (0 : Int32)) fun σ9 =>
    some σ9
    else none
  )
def mX12_operand_120 (σ : Sto) : Option Sto :=
  (mX12_part σ).bind fun σ2 =>
  some σ2
def mX12_operand_96 (f4 : Int32 → Int32 → Sto → Option Sto) (x2 : Int32) (y0 : Int32) (σ : Sto) : Option Sto :=
  if y0 = 0 then (
    f4 x2 y0 σ
  ) else (
    (mX12_waitsFor (12 : Int32) σ).bind fun σ10 =>
    (mX12_goes σ10).bind fun σ11 =>
    (mX12_begins σ11).bind fun σ12 =>
    f4 (1 : Int32) y0 σ12
  )
def mX12_operand_95 (f4 : Int32 → Int32 → Sto → Option Sto) (x2 : Int32) (σ : Sto) : Option Sto :=
  mX12_operand_96 f4 x2 (0 : Int32) σ
def mX12_operand_75 (f4 : Int32 → Int32 → Sto → Option Sto) (x2 : Int32) (σ : Sto) : Option Sto :=
  if (mX12_isGood σ) = 0 then (
    mX12_operand_95 f4 x2 σ
  ) else (
    if (mX12_isSign (40 : Int32) σ) = 0 then (
      mX12_operand_95 f4 x2 σ
    ) else (
      mX12_operand_96 f4 x2 (1 : Int32) σ
    )
  )
def mX12_operand_50 (f4 : Int32 → Int32 → Sto → Option Sto) (f18 : Int32 → Int32 → Sto → Option Sto) (x2 : Int32) (x4 : Int32) (σ : Sto) : Option Sto :=
  if (mX12_isGood σ) = 0 then (
    f18 x2 (x4 + (1 : Int32)) σ
  ) else (
    (mX12_waitsFor (3 : Int32) σ).bind fun σ21 =>
    (mX12_goes σ21).bind fun σ22 =>
    f18 x2 (x4 + (1 : Int32)) σ22
  )
def mX12_operand_18B (f4 : Int32 → Int32 → Sto → Option Sto) (f18 : Int32 → Int32 → Sto → Option Sto) (x2 : Int32) (x4 : Int32) (σ : Sto) : Option Sto :=
  if (mX12_isGood σ) = 0 then (
    mX12_operand_75 f4 x2 σ
  ) else (
    if x2 = 0 then (
      mX12_operand_75 f4 x2 σ
    ) else (
      (mX12_knownWord σ).bind fun v16 =>
      if v16 = (10 : Int32) then (
        if x4 = (6 : Int32) then (
          (mX12_wrong (2 : Int32) σ).bind fun σ23 =>
          mX12_operand_50 f4 f18 x2 x4 σ23
        ) else (
          mX12_operand_50 f4 f18 x2 x4 σ
        )
      ) else (
        mX12_operand_75 f4 x2 σ
      )
    )
  )
def mX12_operand_18 (f4 : Int32 → Int32 → Sto → Option Sto) : Nat → Int32 → Int32 → Sto → Option Sto
  | 0, _, _, _ => none
  | n + 1, x2, x4, σ => mX12_operand_18B f4 (mX12_operand_18 f4 n) x2 x4 σ
def mX12_operand_4B (f4 : Int32 → Int32 → Sto → Option Sto) (x2 : Int32) (x3 : Int32) (σ : Sto) : Option Sto :=
  if x3 = 0 then (
    mX12_operand_120 σ
  ) else (
    if (mX12_isGood σ) = 0 then (
      mX12_operand_120 σ
    ) else (
      mX12_operand_18 f4 FU x2 (0 : Int32) σ
    )
  )
def mX12_operand_4 : Nat → Int32 → Int32 → Sto → Option Sto
  | 0, _, _, _ => none
  | n + 1, x2, x3, σ => mX12_operand_4B (mX12_operand_4 n) x2 x3 σ
def mX12_operand (p0 : Int32) (σ : Sto) : Option Sto :=
  mX12_operand_4 FU p0 (1 : Int32) σ
def mX12_expression_368 (x1 : Int32) (σ : Sto) : Option (Int32 × Sto) :=
  (mX12_drops (0 : Int32) σ).bind fun σ8 =>
  (mX12_puts (0 : Int32) σ8).bind fun σ9 =>
  some (x1, σ9)
def mX12_expression_348 (x1 : Int32) (σ : Sto) : Option (Int32 × Sto) :=
  if (mX12_isGood σ) = 0 then (
    mX12_expression_368 x1 σ
  ) else (
    if (sI σ 81 53) ≤ (1 : Int32) then (
      mX12_expression_368 x1 σ
    ) else (
      (mX12_wrong (1 : Int32) σ).bind fun σ11 =>
      mX12_expression_368 x1 σ11
    )
  )
def mX12_expression_81 (f26 : Int32 → Int32 → Sto → Option (Int32 × Sto)) (x1 : Int32) (x2 : Int32) (y1 : Int32) (σ : Sto) : Option (Int32 × Sto) :=
  (mX12_waitsFor y1 σ).bind fun σ19 =>
  if inb (sI σ19 81 53) 9 then
  stp (wI σ19 128 ((sI σ19 81 53)).toNatClampNeg (0 : Int32)) fun σ21 =>
  (mX12_goes σ21).bind fun σ22 =>
  (mX12_operand (1 : Int32) σ22).bind fun σ23 =>
  f26 x1 x2 σ23
  else none
def mX12_expression_66 (f26 : Int32 → Int32 → Sto → Option (Int32 × Sto)) (x1 : Int32) (x2 : Int32) (x3 : Int32) (y1 : Int32) (σ : Sto) : Option (Int32 × Sto) :=
  (mX12_drops y1 σ).bind fun σ17 =>
  if x3 = (8 : Int32) then (
    mX12_expression_81 f26 x1 x2 (4 : Int32) σ17
  ) else (
    mX12_expression_81 f26 x1 x2 (5 : Int32) σ17
  )
def mX12_expression_54 (f26 : Int32 → Int32 → Sto → Option (Int32 × Sto)) (x1 : Int32) (x2 : Int32) (x3 : Int32) (σ : Sto) : Option (Int32 × Sto) :=
  if x3 = (8 : Int32) then (
    mX12_expression_66 f26 x1 x2 x3 (2 : Int32) σ
  ) else (
    mX12_expression_66 f26 x1 x2 x3 (1 : Int32) σ
  )
def mX12_expression_223 (f26 : Int32 → Int32 → Sto → Option (Int32 × Sto)) (x1 : Int32) (x2 : Int32) (y1 : Int32) (σ : Sto) : Option (Int32 × Sto) :=
  (mX12_waitsFor y1 σ).bind fun σ34 =>
  (mX12_goes σ34).bind fun σ35 =>
  (mX12_operand (0 : Int32) σ35).bind fun σ36 =>
  f26 x1 x2 σ36
def mX12_expression_201 (f26 : Int32 → Int32 → Sto → Option (Int32 × Sto)) (x1 : Int32) (x2 : Int32) (σ : Sto) : Option (Int32 × Sto) :=
  (mX12_drops (5 : Int32) σ).bind fun σ31 =>
  if (mX12_isSign (43 : Int32) σ31) = 0 then (
    mX12_expression_223 f26 x1 x2 (9 : Int32) σ31
  ) else (
    mX12_expression_223 f26 x1 x2 (8 : Int32) σ31
  )
def mX12_expression_279 (f26 : Int32 → Int32 → Sto → Option (Int32 × Sto)) (x1 : Int32) (x2 : Int32) (y1 : Int32) (σ : Sto) : Option (Int32 × Sto) :=
  (mX12_waitsFor y1 σ).bind fun σ44 =>
  (mX12_goes σ44).bind fun σ45 =>
  (mX12_operand (0 : Int32) σ45).bind fun σ46 =>
  f26 x1 x2 σ46
def mX12_expression_256 (f26 : Int32 → Int32 → Sto → Option (Int32 × Sto)) (x1 : Int32) (x2 : Int32) (σ : Sto) : Option (Int32 × Sto) :=
  (mX12_drops (6 : Int32) σ).bind fun σ41 =>
  if (mX12_isSign (42 : Int32) σ41) = 0 then (
    mX12_expression_279 f26 x1 x2 (11 : Int32) σ41
  ) else (
    mX12_expression_279 f26 x1 x2 (10 : Int32) σ41
  )
def mX12_expression_183 (f26 : Int32 → Int32 → Sto → Option (Int32 × Sto)) (x1 : Int32) (x2 : Int32) (σ : Sto) : Option (Int32 × Sto) :=
  if (mX12_isSign (43 : Int32) σ) = 0 then (
    if (mX12_isSign (45 : Int32) σ) = 0 then (
      if (mX12_isSign (42 : Int32) σ) = 0 then (
        if (mX12_isSign (47 : Int32) σ) = 0 then (
          if (mX12_isSign (41 : Int32) σ) = 0 then (
            f26 x1 (0 : Int32) σ
          ) else (
            if (sI σ 81 53) ≤ (1 : Int32) then (
              f26 x1 (0 : Int32) σ
            ) else (
              (mX12_drops (0 : Int32) σ).bind fun σ52 =>
              stp (wI σ52 81 52 ((sI σ52 81 52) - (1 : Int32))) fun σ53 =>
              stp (wI σ53 81 53 ((sI σ53 81 53) - (1 : Int32))) fun σ54 =>
              (mX12_goes σ54).bind fun σ55 =>
              f26 x1 x2 σ55
            )
          )
        ) else (
          mX12_expression_256 f26 x1 x2 σ
        )
      ) else (
        mX12_expression_256 f26 x1 x2 σ
      )
    ) else (
      mX12_expression_201 f26 x1 x2 σ
    )
  ) else (
    mX12_expression_201 f26 x1 x2 σ
  )
def mX12_expression_158 (f26 : Int32 → Int32 → Sto → Option (Int32 × Sto)) (x1 : Int32) (x2 : Int32) (y1 : Int32) (σ : Sto) : Option (Int32 × Sto) :=
  (mX12_waitsFor y1 σ).bind fun σ59 =>
  if inb (sI σ59 81 53) 9 then
  stp (wI σ59 128 ((sI σ59 81 53)).toNatClampNeg (1 : Int32)) fun σ61 =>
  (mX12_goes σ61).bind fun σ62 =>
  (mX12_operand (0 : Int32) σ62).bind fun σ63 =>
  f26 x1 x2 σ63
  else none
def mX12_expression_124 (f26 : Int32 → Int32 → Sto → Option (Int32 × Sto)) (x1 : Int32) (x2 : Int32) (σ : Sto) : Option (Int32 × Sto) :=
  if inb (sI σ 81 53) 9 then
  if (sI σ 128 ((sI σ 81 53)).toNatClampNeg) = 0 then (
    (mX12_drops (4 : Int32) σ).bind fun σ56 =>
    if (mX12_isSign (60 : Int32) σ56) = 0 then (
      mX12_expression_158 f26 x1 x2 (7 : Int32) σ56
    ) else (
      mX12_expression_158 f26 x1 x2 (6 : Int32) σ56
    )
  ) else (
    mX12_expression_183 f26 x1 x2 σ
  )
  else none
def mX12_expression_26B (f26 : Int32 → Int32 → Sto → Option (Int32 × Sto)) (x1 : Int32) (x2 : Int32) (σ : Sto) : Option (Int32 × Sto) :=
  if x2 = 0 then (
    mX12_expression_348 x1 σ
  ) else (
    if (mX12_isGood σ) = 0 then (
      mX12_expression_348 x1 σ
    ) else (
      (mX12_knownWord σ).bind fun v14 =>
      if v14 = (8 : Int32) then (
        mX12_expression_54 f26 x1 x2 v14 σ
      ) else (
        if v14 = (9 : Int32) then (
          mX12_expression_54 f26 x1 x2 v14 σ
        ) else (
          if (mX12_isSign (60 : Int32) σ) = 0 then (
            if (mX12_isSign (61 : Int32) σ) = 0 then (
              mX12_expression_183 f26 x1 x2 σ
            ) else (
              mX12_expression_124 f26 x1 x2 σ
            )
          ) else (
            mX12_expression_124 f26 x1 x2 σ
          )
        )
      )
    )
  )
def mX12_expression_26 : Nat → Int32 → Int32 → Sto → Option (Int32 × Sto)
  | 0, _, _, _ => none
  | n + 1, x1, x2, σ => mX12_expression_26B (mX12_expression_26 n) x1 x2 σ
def mX12_expression (σ : Sto) : Option (Int32 × Sto) :=
  stp (wI σ 81 52 (0 : Int32)) fun σ1 =>
  stp (wI σ1 81 53 (0 : Int32)) fun σ2 =>
  (mX12_begins σ2).bind fun σ3 =>
  (mX12_operand (1 : Int32) σ3).bind fun σ4 =>
  mX12_expression_26 FU (sI σ 81 51) (1 : Int32) σ4
def mX12_number_63 (σ : Sto) : Option (Int32 × Sto) :=
  if (mX12_isGood σ) = 0 then (
    some ((sI σ 81 47), σ)
  ) else (
    (mX12_goes σ).bind fun σ9 =>
    some ((sI σ 81 47), σ9)
  )
def mX12_number_58 (x3 : Int32) (σ : Sto) : Option (Int32 × Sto) :=
  (mX12_wrong x3 σ).bind fun σ6 =>
  mX12_number_63 σ6
def mX12_number (p0 : Int32) (p1 : Int32) (p2 : Int32) (σ : Sto) : Option (Int32 × Sto) :=
  if (mX12_isGood σ) = 0 then (
    some ((0 : Int32), σ)
  ) else (
    if (sI σ 81 44) = (2 : Int32) then (
      if (sI σ 81 46) ≤ (8 : Int32) then (
        if (sI σ 81 47) < p0 then (
          mX12_number_58 p2 σ
        ) else (
          if (sI σ 81 47) ≤ p1 then (
            mX12_number_63 σ
          ) else (
            mX12_number_58 p2 σ
          )
        )
      ) else (
        (mX12_wrong (2 : Int32) σ).bind fun σ11 =>
        mX12_number_63 σ11
      )
    ) else (
      (mX12_wrong (1 : Int32) σ).bind fun σ12 =>
      mX12_number_63 σ12
    )
  )
def mX12_step_33 (x1 : Int32) (x2 : Int32) (y0 : Int32) (σ : Sto) : Option Sto :=
  bd2 (mX12_number (y0 + (1 : Int32)) (99999999 : Int32) (2 : Int32) σ) fun v4 σ4 =>
  if inb x2 208 then
  stp (wI σ4 124 (x2).toNatClampNeg v4) fun σ6 =>
  bd2 (mX12_number (0 : Int32) (10000 : Int32) (2 : Int32) σ6) fun v7 σ7 =>
  stp (wI σ7 125 (x2).toNatClampNeg v7) fun σ8 =>
  if inb x1 13 then
  stp (wI σ8 116 (x1).toNatClampNeg ((sI σ8 116 (x1).toNatClampNeg) + (1 : Int32))) fun σ10 =>
  some σ10
  else none
  else none
def mX12_step (p0 : Int32) (σ : Sto) : Option Sto :=
  if inb p0 13 then
  if (sI σ 116 (p0).toNatClampNeg) = 0 then (
    mX12_step_33 p0 (((16 : Int32) * p0) + (sI σ 116 (p0).toNatClampNeg)) (0 : Int32) σ
  ) else (
    if inb ((((16 : Int32) * p0) + (sI σ 116 (p0).toNatClampNeg)) - (1 : Int32)) 208 then
    mX12_step_33 p0 (((16 : Int32) * p0) + (sI σ 116 (p0).toNatClampNeg)) (sI σ 124 (((((16 : Int32) * p0) + (sI σ 116 (p0).toNatClampNeg)) - (1 : Int32))).toNatClampNeg) σ
    else none
  )
  else none
def mX12_clause_225 (σ : Sto) : Option Sto :=
  if (mX12_isGood σ) = 0 then (
    some σ
  ) else (
    if (mX12_isSign (59 : Int32) σ) = 0 then (
      (mX12_wrong (1 : Int32) σ).bind fun σ23 =>
      some σ23
    ) else (
      (mX12_goes σ).bind fun σ24 =>
      some σ24
    )
  )
set_option maxRecDepth 100000 in
def mX12_clause_34 (x1 : Int32) (x2 : Int32) (σ : Sto) : Option Sto :=
  if (mX12_isGood σ) = 0 then (
    some σ
  ) else (
    stp (wI σ 81 54 ((sI σ 81 54) + (1 : Int32))) fun σ7 =>
    (mX12_goes σ7).bind fun σ8 =>
    if x2 = 0 then (
      bd2 (mX12_expression σ8) fun v41 σ41 =>
      if inb x1 13 then
      stp (wI σ41 123 (x1).toNatClampNeg v41) fun σ43 =>
      mX12_clause_225 σ43
      else none
    ) else (
      if x2 = (1 : Int32) then (
        (mX12_step x1 σ8).bind fun σ40 =>
        mX12_clause_225 σ40
      ) else (
        if x2 = (2 : Int32) then (
          bd2 (mX12_number (0 : Int32) (10000 : Int32) (2 : Int32) σ8) fun v37 σ37 =>
          if inb x1 13 then
          stp (wI σ37 117 (x1).toNatClampNeg v37) fun σ39 =>
          mX12_clause_225 σ39
          else none
        ) else (
          if x2 = (3 : Int32) then (
            bd2 (mX12_number (0 : Int32) (99999999 : Int32) (2 : Int32) σ8) fun v34 σ34 =>
            if inb x1 13 then
            stp (wI σ34 118 (x1).toNatClampNeg v34) fun σ36 =>
            mX12_clause_225 σ36
            else none
          ) else (
            if x2 = (4 : Int32) then (
              bd2 (mX12_number (0 : Int32) (99999999 : Int32) (2 : Int32) σ8) fun v31 σ31 =>
              if inb x1 13 then
              stp (wI σ31 119 (x1).toNatClampNeg v31) fun σ33 =>
              mX12_clause_225 σ33
              else none
            ) else (
              if x2 = (5 : Int32) then (
                bd2 (mX12_number (0 : Int32) (200 : Int32) (2 : Int32) σ8) fun v28 σ28 =>
                if inb x1 13 then
                stp (wI σ28 120 (x1).toNatClampNeg v28) fun σ30 =>
                mX12_clause_225 σ30
                else none
              ) else (
                if x2 = (6 : Int32) then (
                  bd2 (mX12_number (0 : Int32) (99999999 : Int32) (2 : Int32) σ8) fun v25 σ25 =>
                  if inb x1 13 then
                  stp (wI σ25 121 (x1).toNatClampNeg v25) fun σ27 =>
                  mX12_clause_225 σ27
                  else none
                ) else (
                  if inb x1 13 then
                  bd2 (mX12_number (0 : Int32) ((sI σ8 81 2) - (1 : Int32)) (4 : Int32) σ8) fun v17 σ17 =>
                  stp (wI σ17 122 (x1).toNatClampNeg ((sI σ8 122 (x1).toNatClampNeg) ||| ((1 : Int32) <<< (v17 &&& 31)))) fun σ18 =>
                  mX12_clause_225 σ18
                  else none
                )
              )
            )
          )
        )
      )
    )
  )
def mX12_clause_20 (x1 : Int32) (x2 : Int32) (σ : Sto) : Option Sto :=
  if (sI σ 81 54) = (16 : Int32) then (
    (mX12_wrong (2 : Int32) σ).bind fun σ44 =>
    mX12_clause_34 x1 x2 σ44
  ) else (
    mX12_clause_34 x1 x2 σ
  )
def mX12_clause_15 (x1 : Int32) (x2 : Int32) (σ : Sto) : Option Sto :=
  (mX12_wrong (1 : Int32) σ).bind fun σ3 =>
  mX12_clause_20 x1 x2 σ3
def mX12_clause (p0 : Int32) (σ : Sto) : Option Sto :=
  (mX12_knownWord σ).bind fun v1 =>
  if v1 < 0 then (
    mX12_clause_15 p0 v1 σ
  ) else (
    if v1 ≤ (7 : Int32) then (
      mX12_clause_20 p0 v1 σ
    ) else (
      mX12_clause_15 p0 v1 σ
    )
  )
def mX12_reads_92B (f92 : Int32 → Sto → Option Sto) (x1 : Int32) (σ : Sto) : Option Sto :=
  if (mX12_isGood σ) = 0 then (
    some σ
  ) else (
    if (sI σ 81 44) = 0 then (
      some σ
    ) else (
      (mX12_clause x1 σ).bind fun σ19 =>
      f92 x1 σ19
    )
  )
def mX12_reads_92 : Nat → Int32 → Sto → Option Sto
  | 0, _, _ => none
  | n + 1, x1, σ => mX12_reads_92B (mX12_reads_92 n) x1 σ
def mX12_reads (p0 : Int32) (p1 : Int32) (σ : Sto) : Option Sto :=
  stp (wI σ 81 39 (0 : Int32)) fun σ1 =>
  stp (wI σ1 81 42 p1) fun σ2 =>
  stp (wI σ2 81 43 (0 : Int32)) fun σ3 =>
  stp (wI σ3 81 51 ((1210 : Int32) * p0)) fun σ4 =>
  stp (wI σ4 81 54 (0 : Int32)) fun σ5 =>
  if inb p0 13 then
  stp (wI σ5 116 (p0).toNatClampNeg (0 : Int32)) fun σ7 =>
  stp (wI σ7 117 (p0).toNatClampNeg (0 : Int32)) fun σ8 =>
  stp (wI σ8 118 (p0).toNatClampNeg (0 : Int32)) fun σ9 =>
  stp (wI σ9 119 (p0).toNatClampNeg (-1 : Int32)) fun σ10 =>
  stp (wI σ10 120 (p0).toNatClampNeg (70 : Int32)) fun σ11 =>
  stp (wI σ11 121 (p0).toNatClampNeg (300 : Int32)) fun σ12 =>
  stp (wI σ12 122 (p0).toNatClampNeg (0 : Int32)) fun σ13 =>
  stp (wI σ13 123 (p0).toNatClampNeg (-1 : Int32)) fun σ14 =>
  (mX12_goes σ14).bind fun σ15 =>
  mX12_reads_92 FU p0 σ15
  else none
def mX12_law_66 (σ : Sto) : Option (Int32 × Sto) :=
  stp (wI σ 81 39 (0 : Int32)) fun σ10 =>
  some ((-9 : Int32), σ10)
def mX12_law_31 (x1 : Int32) (x2 : Int32) (x3 : Int32) (y1 : Int32) (σ : Sto) : Option (Int32 × Sto) :=
  bd2 (mX12_right y1 (2 : Int32) σ) fun v5 σ5 =>
  if v5 = 0 then (
    some ((0 : Int32), σ5)
  ) else (
    stp (wI σ5 81 41 (-1 : Int32)) fun σ7 =>
    stp (wI σ7 81 40 (0 : Int32)) fun σ8 =>
    if (sI σ8 81 50) = (12 : Int32) then (
      mX12_law_66 σ8
    ) else (
      if (mX12_isDay x3 σ8) = 0 then (
        mX12_law_66 σ8
      ) else (
        (mX12_reads (sI σ8 81 50) x2 σ8).bind fun σ13 =>
        if (mX12_isGood σ13) = 0 then (
          some (((-1 : Int32) - (sI σ13 81 40)), σ13)
        ) else (
          if inb (sI σ13 81 50) 13 then
          stp (wI σ13 112 ((sI σ13 81 50)).toNatClampNeg x1) fun σ17 =>
          if inb (sI σ17 81 50) 13 then
          stp (wI σ17 113 ((sI σ17 81 50)).toNatClampNeg x3) fun σ19 =>
          if inb (sI σ19 81 50) 13 then
          stp (wI σ19 114 ((sI σ19 81 50)).toNatClampNeg (sI σ19 81 1)) fun σ21 =>
          if inb (sI σ21 81 50) 13 then
          stp (wI σ21 115 ((sI σ21 81 50)).toNatClampNeg (-1 : Int32)) fun σ23 =>
          stp (wI σ23 81 50 ((sI σ23 81 50) + (1 : Int32))) fun σ24 =>
          some (((sI σ24 81 50) - (1 : Int32)), σ24)
          else none
          else none
          else none
          else none
        )
      )
    )
  )
def mX12_law_30 (x1 : Int32) (x2 : Int32) (x3 : Int32) (σ : Sto) : Option (Int32 × Sto) :=
  mX12_law_31 x1 x2 x3 (0 : Int32) σ
def mX12_law (p0 : Int32) (p1 : Int32) (p2 : Int32) (σ : Sto) : Option (Int32 × Sto) :=
  stp (wI σ 81 0 (0 : Int32)) fun σ1 =>
  bd2 (mX12_isLand p0 σ1) fun v2 σ2 =>
  if v2 = 0 then (
    some ((0 : Int32), σ2)
  ) else (
    if p1 < 0 then (
      mX12_law_30 p0 p1 p2 σ2
    ) else (
      if (sI σ2 81 39) < p1 then (
        mX12_law_30 p0 p1 p2 σ2
      ) else (
        mX12_law_31 p0 p1 p2 (1 : Int32) σ2
      )
    )
  )
def mX12_fault (σ : Sto) : Option (Int32 × Sto) :=
  stp (wI σ 81 0 (0 : Int32)) fun σ1 =>
  some ((sI σ1 81 41), σ1)
def mX12_gathers_102 (f37 : Int32 → Int32 → Int32 → Sto → Option Sto) (f53 : Int32 → Int32 → Int32 → Int32 → Sto → Option Sto) (x1 : Int32) (x2 : Int32) (x3 : Int32) (x4 : Int32) (σ : Sto) : Option Sto :=
  (mX12_isKnown x4 x1 σ).bind fun v12 =>
  if v12 = 0 then (
    f53 x1 x2 x3 (x4 + (1 : Int32)) σ
  ) else (
    if inb x4 200 then
    if (sI σ 97 (x4).toNatClampNeg) = 0 then (
      if inb x3 30 then
      stp (wI σ 129 (x3).toNatClampNeg (sI σ 101 (x4).toNatClampNeg)) fun σ19 =>
      stp (wI σ19 130 (x3).toNatClampNeg (sI σ19 102 (x4).toNatClampNeg)) fun σ20 =>
      f53 x1 x2 x3 (x4 + (1 : Int32)) σ20
      else none
    ) else (
      if inb x2 200 then
      stp (wI σ 132 (x2).toNatClampNeg x4) fun σ17 =>
      f53 x1 (x2 + (1 : Int32)) x3 (x4 + (1 : Int32)) σ17
      else none
    )
    else none
  )
def mX12_gathers_53B (f37 : Int32 → Int32 → Int32 → Sto → Option Sto) (f53 : Int32 → Int32 → Int32 → Int32 → Sto → Option Sto) (x1 : Int32) (x2 : Int32) (x3 : Int32) (x4 : Int32) (σ : Sto) : Option Sto :=
  if (sI σ 81 7) ≤ x4 then (
    f37 x1 x2 (x3 + (1 : Int32)) σ
  ) else (
    if (sI σ 81 3) ≤ x3 then (
      f37 x1 x2 (x3 + (1 : Int32)) σ
    ) else (
      if inb x4 200 then
      if (sI σ 99 (x4).toNatClampNeg) = x3 then (
        if (sI σ 97 (x4).toNatClampNeg) = (1 : Int32) then (
          mX12_gathers_102 f37 f53 x1 x2 x3 x4 σ
        ) else (
          if (sI σ 97 (x4).toNatClampNeg) = 0 then (
            mX12_gathers_102 f37 f53 x1 x2 x3 x4 σ
          ) else (
            f53 x1 x2 x3 (x4 + (1 : Int32)) σ
          )
        )
      ) else (
        f53 x1 x2 x3 (x4 + (1 : Int32)) σ
      )
      else none
    )
  )
def mX12_gathers_53 (f37 : Int32 → Int32 → Int32 → Sto → Option Sto) : Nat → Int32 → Int32 → Int32 → Int32 → Sto → Option Sto
  | 0, _, _, _, _, _ => none
  | n + 1, x1, x2, x3, x4, σ => mX12_gathers_53B f37 (mX12_gathers_53 f37 n) x1 x2 x3 x4 σ
def mX12_gathers_37B (f37 : Int32 → Int32 → Int32 → Sto → Option Sto) (x1 : Int32) (x2 : Int32) (x3 : Int32) (σ : Sto) : Option Sto :=
  if (30 : Int32) ≤ x3 then (
    stp (wI σ 131 ((30 : Int32)).toNatClampNeg x2) fun σ4 =>
    some σ4
  ) else (
    if inb x3 31 then
    stp (wI σ 131 (x3).toNatClampNeg x2) fun σ6 =>
    mX12_gathers_53 f37 FU x1 x2 x3 (0 : Int32) σ6
    else none
  )
def mX12_gathers_37 : Nat → Int32 → Int32 → Int32 → Sto → Option Sto
  | 0, _, _, _, _ => none
  | n + 1, x1, x2, x3, σ => mX12_gathers_37B (mX12_gathers_37 n) x1 x2 x3 σ
def mX12_gathers_7B (f7 : Int32 → Int32 → Sto → Option Sto) (x1 : Int32) (x2 : Int32) (σ : Sto) : Option Sto :=
  if (30 : Int32) ≤ x2 then (
    mX12_gathers_37 FU x1 (0 : Int32) (0 : Int32) σ
  ) else (
    if inb x2 30 then
    stp (wI σ 129 (x2).toNatClampNeg (-1 : Int32)) fun σ23 =>
    stp (wI σ23 130 (x2).toNatClampNeg (-1 : Int32)) fun σ24 =>
    f7 x1 (x2 + (1 : Int32)) σ24
    else none
  )
def mX12_gathers_7 : Nat → Int32 → Int32 → Sto → Option Sto
  | 0, _, _, _ => none
  | n + 1, x1, x2, σ => mX12_gathers_7B (mX12_gathers_7 n) x1 x2 σ
def mX12_gathers (p0 : Int32) (σ : Sto) : Option Sto :=
  stp (wI σ 81 72 p0) fun σ1 =>
  mX12_gathers_7 FU p0 (0 : Int32) σ1
def mX12_isDead (p0 : Int32) (p1 : Int32) (σ : Sto) : Option Int32 :=
  if inb p0 30 then
  if (sI σ 130 (p0).toNatClampNeg) = (-1 : Int32) then (
    some (0 : Int32)
  ) else (
    if p1 < (sI σ 130 (p0).toNatClampNeg) then (
      some (0 : Int32)
    ) else (
      some (1 : Int32)
    )
  )
  else none
def mX12_rateOf_5B (f5 : Int32 → Int32 → Int32 → Int32 → Sto → Option Int32) (x1 : Int32) (x2 : Int32) (x3 : Int32) (x4 : Int32) (σ : Sto) : Option Int32 :=
  if (sI σ 81 6) ≤ x4 then (
    if x3 = (-1 : Int32) then (
      some (1000 : Int32)
    ) else (
      if inb x3 60 then
      some (sI σ 96 (x3).toNatClampNeg)
      else none
    )
  ) else (
    if inb x4 60 then
    if (sI σ 94 (x4).toNatClampNeg) = x1 then (
      if x2 < (sI σ 95 (x4).toNatClampNeg) then (
        f5 x1 x2 x3 (x4 + (1 : Int32)) σ
      ) else (
        if x3 = (-1 : Int32) then (
          f5 x1 x2 x4 (x4 + (1 : Int32)) σ
        ) else (
          if inb x3 60 then
          if (sI σ 95 (x4).toNatClampNeg) < (sI σ 95 (x3).toNatClampNeg) then (
            f5 x1 x2 x3 (x4 + (1 : Int32)) σ
          ) else (
            f5 x1 x2 x4 (x4 + (1 : Int32)) σ
          )
          else none
        )
      )
    ) else (
      f5 x1 x2 x3 (x4 + (1 : Int32)) σ
    )
    else none
  )
def mX12_rateOf_5 : Nat → Int32 → Int32 → Int32 → Int32 → Sto → Option Int32
  | 0, _, _, _, _, _ => none
  | n + 1, x1, x2, x3, x4, σ => mX12_rateOf_5B (mX12_rateOf_5 n) x1 x2 x3 x4 σ
def mX12_rateOf (p0 : Int32) (p1 : Int32) (σ : Sto) : Option Int32 :=
  mX12_rateOf_5 FU p0 p1 (-1 : Int32) (0 : Int32) σ
def mX12_lawOf_151 (x3 : Int32) (y0 : Int32) (σ : Sto) : Option Int32 :=
  if y0 = 0 then (
    some x3
  ) else (
    if x3 = (-1 : Int32) then (
      some (12 : Int32)
    ) else (
      if inb x3 13 then
      if (sI σ 113 ((12 : Int32)).toNatClampNeg) < (sI σ 113 (x3).toNatClampNeg) then (
        some x3
      ) else (
        some (12 : Int32)
      )
      else none
    )
  )
def mX12_lawOf_150 (x3 : Int32) (σ : Sto) : Option Int32 :=
  mX12_lawOf_151 x3 (0 : Int32) σ
def mX12_lawOf_80 (f5 : Int32 → Int32 → Int32 → Int32 → Sto → Option Int32) (x1 : Int32) (x2 : Int32) (x3 : Int32) (x4 : Int32) (y0 : Int32) (σ : Sto) : Option Int32 :=
  if y0 = 0 then (
    f5 x1 x2 x3 (x4 + (1 : Int32)) σ
  ) else (
    if x3 = (-1 : Int32) then (
      f5 x1 x2 x4 (x4 + (1 : Int32)) σ
    ) else (
      if inb x4 13 then
      if inb x3 13 then
      if (sI σ 113 (x4).toNatClampNeg) < (sI σ 113 (x3).toNatClampNeg) then (
        f5 x1 x2 x3 (x4 + (1 : Int32)) σ
      ) else (
        f5 x1 x2 x4 (x4 + (1 : Int32)) σ
      )
      else none
      else none
    )
  )
def mX12_lawOf_79 (f5 : Int32 → Int32 → Int32 → Int32 → Sto → Option Int32) (x1 : Int32) (x2 : Int32) (x3 : Int32) (x4 : Int32) (σ : Sto) : Option Int32 :=
  mX12_lawOf_80 f5 x1 x2 x3 x4 (0 : Int32) σ
def mX12_lawOf_5B (f5 : Int32 → Int32 → Int32 → Int32 → Sto → Option Int32) (x1 : Int32) (x2 : Int32) (x3 : Int32) (x4 : Int32) (σ : Sto) : Option Int32 :=
  if (sI σ 81 50) ≤ x4 then (
    if (sI σ 81 73) = 0 then (
      mX12_lawOf_150 x3 σ
    ) else (
      if (sI σ 112 ((12 : Int32)).toNatClampNeg) = x1 then (
        if x2 < (sI σ 113 ((12 : Int32)).toNatClampNeg) then (
          mX12_lawOf_150 x3 σ
        ) else (
          mX12_lawOf_151 x3 (1 : Int32) σ
        )
      ) else (
        mX12_lawOf_150 x3 σ
      )
    )
  ) else (
    if inb x4 13 then
    if (sI σ 112 (x4).toNatClampNeg) = x1 then (
      if x2 < (sI σ 113 (x4).toNatClampNeg) then (
        mX12_lawOf_79 f5 x1 x2 x3 x4 σ
      ) else (
        if (sI σ 81 72) < (sI σ 114 (x4).toNatClampNeg) then (
          mX12_lawOf_79 f5 x1 x2 x3 x4 σ
        ) else (
          if (sI σ 115 (x4).toNatClampNeg) = (-1 : Int32) then (
            mX12_lawOf_80 f5 x1 x2 x3 x4 (1 : Int32) σ
          ) else (
            if (sI σ 115 (x4).toNatClampNeg) ≤ (sI σ 81 72) then (
              mX12_lawOf_79 f5 x1 x2 x3 x4 σ
            ) else (
              mX12_lawOf_80 f5 x1 x2 x3 x4 (1 : Int32) σ
            )
          )
        )
      )
    ) else (
      mX12_lawOf_79 f5 x1 x2 x3 x4 σ
    )
    else none
  )
def mX12_lawOf_5 : Nat → Int32 → Int32 → Int32 → Int32 → Sto → Option Int32
  | 0, _, _, _, _, _ => none
  | n + 1, x1, x2, x3, x4, σ => mX12_lawOf_5B (mX12_lawOf_5 n) x1 x2 x3 x4 σ
def mX12_lawOf (p0 : Int32) (p1 : Int32) (σ : Sto) : Option Int32 :=
  mX12_lawOf_5 FU p0 p1 (-1 : Int32) (0 : Int32) σ
def mX12_looksBack_230 (y1 : Int32) (σ : Sto) : Option Sto :=
  stp (wI σ 81 81 y1) fun σ9 =>
  some σ9
def mX12_looksBack_229 (σ : Sto) : Option Sto :=
  mX12_looksBack_230 (0 : Int32) σ
def mX12_looksBack_202 (x2 : Int32) (x3 : Int32) (y1 : Int32) (σ : Sto) : Option Sto :=
  stp (wI σ 81 80 y1) fun σ7 =>
  if x3 = (-1 : Int32) then (
    mX12_looksBack_229 σ7
  ) else (
    if inb x3 200 then
    (mX12_isBy x2 (sI σ7 99 (x3).toNatClampNeg) σ7).bind fun v11 =>
    if v11 = 0 then (
      mX12_looksBack_229 σ7
    ) else (
      mX12_looksBack_230 (1 : Int32) σ7
    )
    else none
  )
def mX12_looksBack_131 (f17 : Int32 → Int32 → Int32 → Int32 → Sto → Option Sto) (x1 : Int32) (x2 : Int32) (x3 : Int32) (x4 : Int32) (σ : Sto) : Option Sto :=
  if inb x4 200 then
  if (sI σ 97 (x4).toNatClampNeg) = (2 : Int32) then (
    if inb x1 200 then
    if (sI σ 101 (x4).toNatClampNeg) < ((sI σ 101 (x1).toNatClampNeg) - (365 : Int32)) then (
      f17 x1 x2 x3 (x4 + (1 : Int32)) σ
    ) else (
      stp (wI σ 81 82 ((sI σ 81 82) + (1 : Int32))) fun σ26 =>
      f17 x1 x2 x3 (x4 + (1 : Int32)) σ26
    )
    else none
  ) else (
    f17 x1 x2 x3 (x4 + (1 : Int32)) σ
  )
  else none
def mX12_looksBack_128 (f17 : Int32 → Int32 → Int32 → Int32 → Sto → Option Sto) (x1 : Int32) (x2 : Int32) (x4 : Int32) (σ : Sto) : Option Sto :=
  mX12_looksBack_131 f17 x1 x2 x4 x4 σ
def mX12_looksBack_48 (f17 : Int32 → Int32 → Int32 → Int32 → Sto → Option Sto) (x1 : Int32) (x2 : Int32) (x3 : Int32) (x4 : Int32) (σ : Sto) : Option Sto :=
  if inb x4 200 then
  if (sI σ 98 (x4).toNatClampNeg) = x2 then (
    (mX12_isKnown x4 (sI σ 81 72) σ).bind fun v17 =>
    if v17 = 0 then (
      f17 x1 x2 x3 (x4 + (1 : Int32)) σ
    ) else (
      if inb x1 200 then
      if (sI σ 101 (x4).toNatClampNeg) < (sI σ 101 (x1).toNatClampNeg) then (
        if (sI σ 100 (x4).toNatClampNeg) = (sI σ 99 (x1).toNatClampNeg) then (
          if x3 = (-1 : Int32) then (
            mX12_looksBack_128 f17 x1 x2 x4 σ
          ) else (
            if inb x3 200 then
            if (sI σ 101 (x4).toNatClampNeg) < (sI σ 101 (x3).toNatClampNeg) then (
              mX12_looksBack_131 f17 x1 x2 x3 x4 σ
            ) else (
              mX12_looksBack_128 f17 x1 x2 x4 σ
            )
            else none
          )
        ) else (
          mX12_looksBack_131 f17 x1 x2 x3 x4 σ
        )
      ) else (
        f17 x1 x2 x3 (x4 + (1 : Int32)) σ
      )
      else none
    )
  ) else (
    f17 x1 x2 x3 (x4 + (1 : Int32)) σ
  )
  else none
def mX12_looksBack_17B (f17 : Int32 → Int32 → Int32 → Int32 → Sto → Option Sto) (x1 : Int32) (x2 : Int32) (x3 : Int32) (x4 : Int32) (σ : Sto) : Option Sto :=
  if (sI σ 81 7) ≤ x4 then (
    if x3 = (-1 : Int32) then (
      mX12_looksBack_202 x2 x3 (99999 : Int32) σ
    ) else (
      if inb x1 200 then
      if inb x3 200 then
      mX12_looksBack_202 x2 x3 ((sI σ 101 (x1).toNatClampNeg) - (sI σ 101 (x3).toNatClampNeg)) σ
      else none
      else none
    )
  ) else (
    if inb x4 200 then
    if (sI σ 97 (x4).toNatClampNeg) = (2 : Int32) then (
      mX12_looksBack_48 f17 x1 x2 x3 x4 σ
    ) else (
      if (sI σ 97 (x4).toNatClampNeg) = (3 : Int32) then (
        mX12_looksBack_48 f17 x1 x2 x3 x4 σ
      ) else (
        f17 x1 x2 x3 (x4 + (1 : Int32)) σ
      )
    )
    else none
  )
def mX12_looksBack_17 : Nat → Int32 → Int32 → Int32 → Int32 → Sto → Option Sto
  | 0, _, _, _, _, _ => none
  | n + 1, x1, x2, x3, x4, σ => mX12_looksBack_17B (mX12_looksBack_17 n) x1 x2 x3 x4 σ
def mX12_looksBack (p0 : Int32) (σ : Sto) : Option Sto :=
  if inb p0 200 then
  stp (wI σ 81 82 (0 : Int32)) fun σ2 =>
  mX12_looksBack_17 FU p0 (sI σ 98 (p0).toNatClampNeg) (-1 : Int32) (0 : Int32) σ2
  else none
def mX12_works (p0 : Int32) (p1 : Int32) (p2 : Int32) (σ : Sto) : Option Int32 :=
  if p0 = (4 : Int32) then (
    if p1 = 0 then (
      some (0 : Int32)
    ) else (
      if p2 = 0 then (
        some (0 : Int32)
      ) else (
        some (1 : Int32)
      )
    )
  ) else
  if p0 = (5 : Int32) then (
    if p1 = 0 then (
      if p2 = 0 then (
        some (0 : Int32)
      ) else (
        some (1 : Int32)
      )
    ) else (
      some (1 : Int32)
    )
  ) else
  if p0 = (6 : Int32) then (
    if p2 ≤ p1 then (
      some (0 : Int32)
    ) else (
      some (1 : Int32)
    )
  ) else
  if p0 = (7 : Int32) then (
    if p1 = p2 then (
      some (1 : Int32)
    ) else (
      some (0 : Int32)
    )
  ) else
  if p0 = (8 : Int32) then (
    some (p1 + p2)
  ) else
  if p0 = (9 : Int32) then (
    some (p1 - p2)
  ) else
  if p0 = (10 : Int32) then (
    some (p1 * p2)
  ) else
  (
  if p2 = 0 then (
    some (0 : Int32)
  ) else (
    if ¬ p2 = 0 then
    some (p1 / p2)
    else none
  )
  )
def mX12_worth_67 (f4 : Int32 → Int32 → Sto → Option (Int32 × Sto)) (x2 : Int32) (x3 : Int32) (y1 : Int32) (y2 : Int32) (σ : Sto) : Option (Int32 × Sto) :=
  if inb y1 520 then
  stp (wI σ 134 (y1).toNatClampNeg y2) fun σ8 =>
  f4 (x2 + (1 : Int32)) (x3 + (1 : Int32)) σ8
  else none
def mX12_worth_36 (f4 : Int32 → Int32 → Sto → Option (Int32 × Sto)) (x2 : Int32) (x3 : Int32) (x4 : Int32) (σ : Sto) : Option (Int32 × Sto) :=
  if x4 = (1 : Int32) then (
    if inb x3 15800 then
    mX12_worth_67 f4 x2 x3 x2 (sI σ 126 (x3).toNatClampNeg) σ
    else none
  ) else (
    if inb x3 15800 then
    if inb (sI σ 126 (x3).toNatClampNeg) 10 then
    mX12_worth_67 f4 x2 x3 x2 (sI σ 133 ((sI σ 126 (x3).toNatClampNeg)).toNatClampNeg) σ
    else none
    else none
  )
def mX12_worth_106 (f4 : Int32 → Int32 → Sto → Option (Int32 × Sto)) (x2 : Int32) (x3 : Int32) (y1 : Int32) (y2 : Int32) (σ : Sto) : Option (Int32 × Sto) :=
  if inb y1 520 then
  stp (wI σ 134 (y1).toNatClampNeg y2) fun σ19 =>
  f4 x2 x3 σ19
  else none
def mX12_worth_4B (f4 : Int32 → Int32 → Sto → Option (Int32 × Sto)) (x2 : Int32) (x3 : Int32) (σ : Sto) : Option (Int32 × Sto) :=
  if inb x3 15800 then
  if (sI σ 126 (x3).toNatClampNeg) = 0 then (
    some ((sI σ 134 ((0 : Int32)).toNatClampNeg), σ)
  ) else (
    if (sI σ 126 (x3).toNatClampNeg) = (1 : Int32) then (
      mX12_worth_36 f4 x2 (x3 + (1 : Int32)) (sI σ 126 (x3).toNatClampNeg) σ
    ) else (
      if (sI σ 126 (x3).toNatClampNeg) = (2 : Int32) then (
        mX12_worth_36 f4 x2 (x3 + (1 : Int32)) (sI σ 126 (x3).toNatClampNeg) σ
      ) else (
        if (sI σ 126 (x3).toNatClampNeg) = (3 : Int32) then (
          if inb (x2 - (1 : Int32)) 520 then
          if (sI σ 134 ((x2 - (1 : Int32))).toNatClampNeg) = 0 then (
            mX12_worth_106 f4 x2 (x3 + (1 : Int32)) (x2 - (1 : Int32)) (1 : Int32) σ
          ) else (
            mX12_worth_106 f4 x2 (x3 + (1 : Int32)) (x2 - (1 : Int32)) (0 : Int32) σ
          )
          else none
        ) else (
          if inb ((x2 + (-1 : Int32)) - (1 : Int32)) 520 then
          if inb (x2 + (-1 : Int32)) 520 then
          (mX12_works (sI σ 126 (x3).toNatClampNeg) (sI σ 134 (((x2 + (-1 : Int32)) - (1 : Int32))).toNatClampNeg) (sI σ 134 ((x2 + (-1 : Int32))).toNatClampNeg) σ).bind fun v14 =>
          stp (wI σ 134 (((x2 + (-1 : Int32)) - (1 : Int32))).toNatClampNeg v14) fun σ15 =>
          f4 (x2 + (-1 : Int32)) (x3 + (1 : Int32)) σ15
          else none
          else none
        )
      )
    )
  )
  else none
def mX12_worth_4 : Nat → Int32 → Int32 → Sto → Option (Int32 × Sto)
  | 0, _, _, _ => none
  | n + 1, x2, x3, σ => mX12_worth_4B (mX12_worth_4 n) x2 x3 σ
def mX12_worth (p0 : Int32) (σ : Sto) : Option (Int32 × Sto) :=
  mX12_worth_4 FU (0 : Int32) p0 σ
def mX12_isCounting_138 (x2 : Int32) (y1 : Int32) (y2 : Int32) (σ : Sto) : Option (Int32 × Sto) :=
  if inb y1 10 then
  stp (wI σ 133 (y1).toNatClampNeg y2) fun σ15 =>
  stp (wI σ15 133 ((5 : Int32)).toNatClampNeg (sI σ15 81 80)) fun σ16 =>
  stp (wI σ16 133 ((6 : Int32)).toNatClampNeg (sI σ16 81 81)) fun σ17 =>
  stp (wI σ17 133 ((7 : Int32)).toNatClampNeg (sI σ17 81 82)) fun σ18 =>
  if inb x2 30 then
  stp (wI σ18 133 ((8 : Int32)).toNatClampNeg (sI σ18 84 (x2).toNatClampNeg)) fun σ20 =>
  stp (wI σ20 133 ((9 : Int32)).toNatClampNeg (sI σ20 87 (x2).toNatClampNeg)) fun σ21 =>
  if inb (sI σ21 81 79) 13 then
  bd2 (mX12_worth (sI σ21 123 ((sI σ21 81 79)).toNatClampNeg) σ21) fun v23 σ23 =>
  if v23 = 0 then (
    some ((0 : Int32), σ23)
  ) else (
    some ((1 : Int32), σ23)
  )
  else none
  else none
  else none
def mX12_isCounting (p0 : Int32) (σ : Sto) : Option (Int32 × Sto) :=
  if (sI σ 81 79) = (-1 : Int32) then (
    some ((0 : Int32), σ)
  ) else (
    if inb (sI σ 81 79) 13 then
    if (sI σ 118 ((sI σ 81 79)).toNatClampNeg) ≤ (sI σ 81 78) then (
      if inb p0 200 then
      (mX12_isBy (sI σ 98 (p0).toNatClampNeg) (sI σ 99 (p0).toNatClampNeg) σ).bind fun v5 =>
      if (sI σ 123 ((sI σ 81 79)).toNatClampNeg) = (-1 : Int32) then (
        if v5 = 0 then (
          some ((1 : Int32), σ)
        ) else (
          some ((0 : Int32), σ)
        )
      ) else (
        stp (wI σ 133 ((0 : Int32)).toNatClampNeg (sI σ 81 78)) fun σ7 =>
        if inb (sI σ7 99 (p0).toNatClampNeg) 30 then
        stp (wI σ7 133 ((1 : Int32)).toNatClampNeg (sI σ7 83 ((sI σ7 99 (p0).toNatClampNeg)).toNatClampNeg)) fun σ9 =>
        if inb (sI σ9 100 (p0).toNatClampNeg) 30 then
        stp (wI σ9 133 ((2 : Int32)).toNatClampNeg (sI σ9 83 ((sI σ9 100 (p0).toNatClampNeg)).toNatClampNeg)) fun σ11 =>
        stp (wI σ11 133 ((3 : Int32)).toNatClampNeg (sI σ11 105 (p0).toNatClampNeg)) fun σ12 =>
        if v5 = 0 then (
          mX12_isCounting_138 (sI σ 98 (p0).toNatClampNeg) (4 : Int32) (0 : Int32) σ12
        ) else (
          mX12_isCounting_138 (sI σ 98 (p0).toNatClampNeg) (4 : Int32) (1 : Int32) σ12
        )
        else none
        else none
      )
      else none
    ) else (
      some ((0 : Int32), σ)
    )
    else none
  )
def mX12_partOf_149 (x1 : Int64) (σ : Sto) : Option Int32 :=
  if inb (sI σ 81 79) 13 then
  if (sI σ 119 ((sI σ 81 79)).toNatClampNeg) = (-1 : Int32) then (
    some ((x1 / (10000 : Int64))).toInt32
  ) else (
    if (lg_cmp (x1 / (10000 : Int64)) ((sI σ 119 ((sI σ 81 79)).toNatClampNeg)).toInt64) ≤ 0 then (
      some ((x1 / (10000 : Int64))).toInt32
    ) else (
      some (((sI σ 119 ((sI σ 81 79)).toNatClampNeg)).toInt64).toInt32
    )
  )
  else none
def mX12_partOf_98 (f7 : Int64 → Int32 → Int32 → Sto → Option Int32) (x1 : Int64) (x4 : Int32) (σ : Sto) : Option Int32 :=
  if inb (((16 : Int32) * (sI σ 81 79)) + x4) 208 then
  f7 x1 (sI σ 124 ((((16 : Int32) * (sI σ 81 79)) + x4)).toNatClampNeg) (x4 + (1 : Int32)) σ
  else none
def mX12_partOf_65 (f7 : Int64 → Int32 → Int32 → Sto → Option Int32) (x1 : Int64) (x3 : Int32) (x4 : Int32) (y0 : Int32) (σ : Sto) : Option Int32 :=
  if y0 ≤ x3 then (
    mX12_partOf_98 f7 x1 x4 σ
  ) else (
    if inb (((16 : Int32) * (sI σ 81 79)) + x4) 208 then
    mX12_partOf_98 f7 (x1 + (((y0 - x3)).toInt64 * ((sI σ 125 ((((16 : Int32) * (sI σ 81 79)) + x4)).toNatClampNeg)).toInt64)) x4 σ
    else none
  )
def mX12_partOf_7B (f7 : Int64 → Int32 → Int32 → Sto → Option Int32) (x1 : Int64) (x3 : Int32) (x4 : Int32) (σ : Sto) : Option Int32 :=
  if inb (sI σ 81 79) 13 then
  if (sI σ 116 ((sI σ 81 79)).toNatClampNeg) ≤ x4 then (
    if (sI σ 81 78) ≤ x3 then (
      mX12_partOf_149 x1 σ
    ) else (
      mX12_partOf_149 (x1 + ((((sI σ 81 78) - x3)).toInt64 * ((sI σ 117 ((sI σ 81 79)).toNatClampNeg)).toInt64)) σ
    )
  ) else (
    if inb (((16 : Int32) * (sI σ 81 79)) + x4) 208 then
    if (sI σ 81 78) ≤ (sI σ 124 ((((16 : Int32) * (sI σ 81 79)) + x4)).toNatClampNeg) then (
      mX12_partOf_65 f7 x1 x3 x4 (sI σ 81 78) σ
    ) else (
      mX12_partOf_65 f7 x1 x3 x4 (sI σ 124 ((((16 : Int32) * (sI σ 81 79)) + x4)).toNatClampNeg) σ
    )
    else none
  )
  else none
def mX12_partOf_7 : Nat → Int64 → Int32 → Int32 → Sto → Option Int32
  | 0, _, _, _, _ => none
  | n + 1, x1, x3, x4, σ => mX12_partOf_7B (mX12_partOf_7 n) x1 x3 x4 σ
def mX12_partOf (σ : Sto) : Option Int32 :=
  mX12_partOf_7 FU (0 : Int64) (0 : Int32) (0 : Int32) σ
def mX12_shares_235 (f61 : Int32 → Int32 → Int32 → Int32 → Int32 → Sto → Option Sto) (x1 : Int32) (x2 : Int32) (x3 : Int32) (x4 : Int32) (x5 : Int32) (x6 : Int32) (y1 : Int32) (y2 : Int32) (σ : Sto) : Option Sto :=
  if inb y1 30 then
  stp (wI σ 136 (y1).toNatClampNeg y2) fun σ17 =>
  if inb x6 30 then
  if (sI σ17 136 (x6).toNatClampNeg) = 0 then (
    f61 x1 x2 x3 x4 (x5 + (1 : Int32)) σ17
  ) else (
    if inb (((3 : Int32) * x2) + x5) 90 then
    if ¬ (x3).toInt64 = 0 then
    stp (wI σ17 135 (x6).toNatClampNeg (((((sI σ17 81 84)).toInt64 * ((sI σ17 86 ((((3 : Int32) * x2) + x5)).toNatClampNeg)).toInt64) / (x3).toInt64)).toInt32) fun σ22 =>
    f61 x1 x2 x3 x4 (x5 + (1 : Int32)) σ22
    else none
    else none
  )
  else none
  else none
def mX12_shares_203 (f61 : Int32 → Int32 → Int32 → Int32 → Int32 → Sto → Option Sto) (x1 : Int32) (x2 : Int32) (x3 : Int32) (x4 : Int32) (x5 : Int32) (x6 : Int32) (x7 : Int32) (x8 : Int32) (y0 : Int32) (σ : Sto) : Option Sto :=
  if x7 = 0 then (
    mX12_shares_235 f61 x1 x2 x3 x4 x5 x6 x6 (0 : Int32) σ
  ) else (
    if x8 = 0 then (
      if y0 = 0 then (
        mX12_shares_235 f61 x1 x2 x3 x4 x5 x6 x6 (1 : Int32) σ
      ) else (
        mX12_shares_235 f61 x1 x2 x3 x4 x5 x6 x6 (2 : Int32) σ
      )
    ) else (
      mX12_shares_235 f61 x1 x2 x3 x4 x5 x6 x6 (0 : Int32) σ
    )
  )
def mX12_shares_202 (f61 : Int32 → Int32 → Int32 → Int32 → Int32 → Sto → Option Sto) (x1 : Int32) (x2 : Int32) (x3 : Int32) (x4 : Int32) (x5 : Int32) (x6 : Int32) (x7 : Int32) (x8 : Int32) (σ : Sto) : Option Sto :=
  mX12_shares_203 f61 x1 x2 x3 x4 x5 x6 x7 x8 (0 : Int32) σ
def mX12_shares_166 (f61 : Int32 → Int32 → Int32 → Int32 → Int32 → Sto → Option Sto) (x1 : Int32) (x2 : Int32) (x3 : Int32) (x4 : Int32) (x5 : Int32) (x6 : Int32) (x7 : Int32) (y0 : Int32) (σ : Sto) : Option Sto :=
  if inb x6 30 then
  if (sI σ 130 (x6).toNatClampNeg) = (-1 : Int32) then (
    mX12_shares_202 f61 x1 x2 x3 x4 x5 x6 x7 y0 σ
  ) else (
    if inb x1 200 then
    if (sI σ 101 (x1).toNatClampNeg) < ((sI σ 129 (x6).toNatClampNeg) + x4) then (
      mX12_shares_202 f61 x1 x2 x3 x4 x5 x6 x7 y0 σ
    ) else (
      mX12_shares_203 f61 x1 x2 x3 x4 x5 x6 x7 y0 (1 : Int32) σ
    )
    else none
  )
  else none
def mX12_shares_165 (f61 : Int32 → Int32 → Int32 → Int32 → Int32 → Sto → Option Sto) (x1 : Int32) (x2 : Int32) (x3 : Int32) (x4 : Int32) (x5 : Int32) (x6 : Int32) (x7 : Int32) (σ : Sto) : Option Sto :=
  mX12_shares_166 f61 x1 x2 x3 x4 x5 x6 x7 (0 : Int32) σ
def mX12_shares_129 (f61 : Int32 → Int32 → Int32 → Int32 → Int32 → Sto → Option Sto) (x1 : Int32) (x2 : Int32) (x3 : Int32) (x4 : Int32) (x5 : Int32) (x6 : Int32) (y0 : Int32) (σ : Sto) : Option Sto :=
  if inb x6 30 then
  if (sI σ 130 (x6).toNatClampNeg) = (-1 : Int32) then (
    mX12_shares_165 f61 x1 x2 x3 x4 x5 x6 y0 σ
  ) else (
    if inb x1 200 then
    if (sI σ 101 (x1).toNatClampNeg) < ((sI σ 130 (x6).toNatClampNeg) + x4) then (
      mX12_shares_165 f61 x1 x2 x3 x4 x5 x6 y0 σ
    ) else (
      mX12_shares_166 f61 x1 x2 x3 x4 x5 x6 y0 (1 : Int32) σ
    )
    else none
  )
  else none
def mX12_shares_61B (f61 : Int32 → Int32 → Int32 → Int32 → Int32 → Sto → Option Sto) (x1 : Int32) (x2 : Int32) (x3 : Int32) (x4 : Int32) (x5 : Int32) (σ : Sto) : Option Sto :=
  if inb x2 30 then
  if (sI σ 84 (x2).toNatClampNeg) ≤ x5 then (
    some σ
  ) else (
    if inb (((3 : Int32) * x2) + x5) 90 then
    if inb (sI σ 85 ((((3 : Int32) * x2) + x5)).toNatClampNeg) 30 then
    if inb x1 200 then
    if (sI σ 82 ((sI σ 85 ((((3 : Int32) * x2) + x5)).toNatClampNeg)).toNatClampNeg) = (sI σ 103 (x1).toNatClampNeg) then (
      mX12_shares_129 f61 x1 x2 x3 x4 x5 (sI σ 85 ((((3 : Int32) * x2) + x5)).toNatClampNeg) (1 : Int32) σ
    ) else (
      if inb (sI σ 81 79) 13 then
      if (((sI σ 122 ((sI σ 81 79)).toNatClampNeg) >>> ((sI σ 82 ((sI σ 85 ((((3 : Int32) * x2) + x5)).toNatClampNeg)).toNatClampNeg) &&& 31)) &&& (1 : Int32)) = (1 : Int32) then (
        mX12_shares_129 f61 x1 x2 x3 x4 x5 (sI σ 85 ((((3 : Int32) * x2) + x5)).toNatClampNeg) (1 : Int32) σ
      ) else (
        mX12_shares_129 f61 x1 x2 x3 x4 x5 (sI σ 85 ((((3 : Int32) * x2) + x5)).toNatClampNeg) (0 : Int32) σ
      )
      else none
    )
    else none
    else none
    else none
  )
  else none
def mX12_shares_61 : Nat → Int32 → Int32 → Int32 → Int32 → Int32 → Sto → Option Sto
  | 0, _, _, _, _, _, _ => none
  | n + 1, x1, x2, x3, x4, x5, σ => mX12_shares_61B (mX12_shares_61 n) x1 x2 x3 x4 x5 σ
def mX12_shares_12B (f12 : Int32 → Int32 → Int32 → Int32 → Sto → Option Sto) (x1 : Int32) (x2 : Int32) (x3 : Int32) (x4 : Int32) (σ : Sto) : Option Sto :=
  if inb x2 30 then
  if (sI σ 84 (x2).toNatClampNeg) ≤ x4 then (
    if inb (sI σ 81 79) 13 then
    mX12_shares_61 FU x1 x2 x3 ((365 : Int32) * (sI σ 120 ((sI σ 81 79)).toNatClampNeg)) (0 : Int32) σ
    else none
  ) else (
    if inb (((3 : Int32) * x2) + x4) 90 then
    f12 x1 x2 (x3 + (sI σ 86 ((((3 : Int32) * x2) + x4)).toNatClampNeg)) (x4 + (1 : Int32)) σ
    else none
  )
  else none
def mX12_shares_12 : Nat → Int32 → Int32 → Int32 → Int32 → Sto → Option Sto
  | 0, _, _, _, _, _ => none
  | n + 1, x1, x2, x3, x4, σ => mX12_shares_12B (mX12_shares_12 n) x1 x2 x3 x4 σ
def mX12_shares (p0 : Int32) (σ : Sto) : Option Sto :=
  if inb p0 200 then
  mX12_shares_12 FU p0 (sI σ 98 (p0).toNatClampNeg) (0 : Int32) (0 : Int32) σ
  else none
def mX12_passesOn_50B (f50 : Int32 → Int32 → Int32 → Sto → Option Sto) (x1 : Int32) (x3 : Int32) (x4 : Int32) (σ : Sto) : Option Sto :=
  if inb (x1 + (1 : Int32)) 31 then
  if (sI σ 131 ((x1 + (1 : Int32))).toNatClampNeg) ≤ x4 then (
    stp (wI σ 81 85 ((sI σ 81 85) + x3)) fun σ8 =>
    some σ8
  ) else (
    if inb x4 200 then
    if inb x1 30 then
    if inb (sI σ 132 (x4).toNatClampNeg) 200 then
    if ¬ ((sI σ 105 ((sI σ 132 (x4).toNatClampNeg)).toNatClampNeg)).toInt64 = 0 then
    if inb (sI σ 100 ((sI σ 132 (x4).toNatClampNeg)).toNatClampNeg) 30 then
    stp (wI σ 141 ((sI σ 100 ((sI σ 132 (x4).toNatClampNeg)).toNatClampNeg)).toNatClampNeg ((sI σ 141 ((sI σ 100 ((sI σ 132 (x4).toNatClampNeg)).toNatClampNeg)).toNatClampNeg) + (((((sI σ 140 (x1).toNatClampNeg)).toInt64 * ((sI σ 104 ((sI σ 132 (x4).toNatClampNeg)).toNatClampNeg)).toInt64) / ((sI σ 105 ((sI σ 132 (x4).toNatClampNeg)).toNatClampNeg)).toInt64)).toInt32)) fun σ14 =>
    f50 x1 (x3 - (((((sI σ 140 (x1).toNatClampNeg)).toInt64 * ((sI σ 104 ((sI σ 132 (x4).toNatClampNeg)).toNatClampNeg)).toInt64) / ((sI σ 105 ((sI σ 132 (x4).toNatClampNeg)).toNatClampNeg)).toInt64)).toInt32) (x4 + (1 : Int32)) σ14
    else none
    else none
    else none
    else none
    else none
  )
  else none
def mX12_passesOn_50 : Nat → Int32 → Int32 → Int32 → Sto → Option Sto
  | 0, _, _, _, _ => none
  | n + 1, x1, x3, x4, σ => mX12_passesOn_50B (mX12_passesOn_50 n) x1 x3 x4 σ
def mX12_passesOn (p0 : Int32) (p1 : Int32) (σ : Sto) : Option Sto :=
  if inb p0 30 then
  if (sI σ 140 (p0).toNatClampNeg) = 0 then (
    some σ
  ) else (
    (mX12_isDead p0 p1 σ).bind fun v3 =>
    if v3 = 0 then (
      stp (wI σ 141 (p0).toNatClampNeg ((sI σ 141 (p0).toNatClampNeg) + (sI σ 140 (p0).toNatClampNeg))) fun σ15 =>
      some σ15
    ) else (
      if inb p0 31 then
      mX12_passesOn_50 FU p0 (sI σ 140 (p0).toNatClampNeg) (sI σ 131 (p0).toNatClampNeg) σ
      else none
    )
  )
  else none
def mX12_passes_109B (f109 : Int32 → Int32 → Sto → Option Sto) (x1 : Int32) (x2 : Int32) (σ : Sto) : Option Sto :=
  if (30 : Int32) ≤ x2 then (
    some σ
  ) else (
    (mX12_isDead x2 x1 σ).bind fun v4 =>
    if v4 = 0 then (
      if inb x2 30 then
      stp (wI σ 137 (x2).toNatClampNeg (sI σ 140 (x2).toNatClampNeg)) fun σ7 =>
      f109 x1 (x2 + (1 : Int32)) σ7
      else none
    ) else (
      if inb x2 30 then
      stp (wI σ 81 85 ((sI σ 81 85) + (sI σ 140 (x2).toNatClampNeg))) fun σ9 =>
      f109 x1 (x2 + (1 : Int32)) σ9
      else none
    )
  )
def mX12_passes_109 : Nat → Int32 → Int32 → Sto → Option Sto
  | 0, _, _, _ => none
  | n + 1, x1, x2, σ => mX12_passes_109B (mX12_passes_109 n) x1 x2 σ
def mX12_passes_77B (f28 : Int32 → Int32 → Sto → Option Sto) (f77 : Int32 → Int32 → Int32 → Sto → Option Sto) (x1 : Int32) (x2 : Int32) (x3 : Int32) (σ : Sto) : Option Sto :=
  if (30 : Int32) ≤ x3 then (
    f28 x1 (x2 + (1 : Int32)) σ
  ) else (
    if inb x3 30 then
    stp (wI σ 140 (x3).toNatClampNeg (sI σ 141 (x3).toNatClampNeg)) fun σ14 =>
    f77 x1 x2 (x3 + (1 : Int32)) σ14
    else none
  )
def mX12_passes_77 (f28 : Int32 → Int32 → Sto → Option Sto) : Nat → Int32 → Int32 → Int32 → Sto → Option Sto
  | 0, _, _, _, _ => none
  | n + 1, x1, x2, x3, σ => mX12_passes_77B f28 (mX12_passes_77 f28 n) x1 x2 x3 σ
def mX12_passes_57B (f28 : Int32 → Int32 → Sto → Option Sto) (f57 : Int32 → Int32 → Int32 → Sto → Option Sto) (x1 : Int32) (x2 : Int32) (x3 : Int32) (σ : Sto) : Option Sto :=
  if (30 : Int32) ≤ x3 then (
    mX12_passes_77 f28 FU x1 x2 (0 : Int32) σ
  ) else (
    (mX12_passesOn x3 x1 σ).bind fun σ15 =>
    f57 x1 x2 (x3 + (1 : Int32)) σ15
  )
def mX12_passes_57 (f28 : Int32 → Int32 → Sto → Option Sto) : Nat → Int32 → Int32 → Int32 → Sto → Option Sto
  | 0, _, _, _, _ => none
  | n + 1, x1, x2, x3, σ => mX12_passes_57B f28 (mX12_passes_57 f28 n) x1 x2 x3 σ
def mX12_passes_36B (f28 : Int32 → Int32 → Sto → Option Sto) (f36 : Int32 → Int32 → Int32 → Sto → Option Sto) (x1 : Int32) (x2 : Int32) (x3 : Int32) (σ : Sto) : Option Sto :=
  if (30 : Int32) ≤ x3 then (
    mX12_passes_57 f28 FU x1 x2 (0 : Int32) σ
  ) else (
    if inb x3 30 then
    stp (wI σ 141 (x3).toNatClampNeg (0 : Int32)) fun σ17 =>
    f36 x1 x2 (x3 + (1 : Int32)) σ17
    else none
  )
def mX12_passes_36 (f28 : Int32 → Int32 → Sto → Option Sto) : Nat → Int32 → Int32 → Int32 → Sto → Option Sto
  | 0, _, _, _, _ => none
  | n + 1, x1, x2, x3, σ => mX12_passes_36B f28 (mX12_passes_36 f28 n) x1 x2 x3 σ
def mX12_passes_28B (f28 : Int32 → Int32 → Sto → Option Sto) (x1 : Int32) (x2 : Int32) (σ : Sto) : Option Sto :=
  if (8 : Int32) ≤ x2 then (
    mX12_passes_109 FU x1 (0 : Int32) σ
  ) else (
    mX12_passes_36 f28 FU x1 x2 (0 : Int32) σ
  )
def mX12_passes_28 : Nat → Int32 → Int32 → Sto → Option Sto
  | 0, _, _, _ => none
  | n + 1, x1, x2, σ => mX12_passes_28B (mX12_passes_28 n) x1 x2 σ
def mX12_passes_2B (f2 : Int32 → Int32 → Sto → Option Sto) (x1 : Int32) (x2 : Int32) (σ : Sto) : Option Sto :=
  if (30 : Int32) ≤ x2 then (
    mX12_passes_28 FU x1 (0 : Int32) σ
  ) else (
    if inb x2 30 then
    stp (wI σ 140 (x2).toNatClampNeg (sI σ 135 (x2).toNatClampNeg)) fun σ19 =>
    f2 x1 (x2 + (1 : Int32)) σ19
    else none
  )
def mX12_passes_2 : Nat → Int32 → Int32 → Sto → Option Sto
  | 0, _, _, _ => none
  | n + 1, x1, x2, σ => mX12_passes_2B (mX12_passes_2 n) x1 x2 σ
def mX12_passes (p0 : Int32) (σ : Sto) : Option Sto :=
  mX12_passes_2 FU p0 (0 : Int32) σ
def mX12_pays_129B (f129 : Int32 → Int32 → Int32 → Int32 → Sto → Option Sto) (x1 : Int32) (x2 : Int32) (x3 : Int32) (x4 : Int32) (σ : Sto) : Option Sto :=
  if (sI σ 81 8) ≤ x4 then (
    if x3 = 0 then (
      if inb x2 30 then
      stp (wI σ 81 85 ((sI σ 81 85) + (sI σ 137 (x2).toNatClampNeg))) fun σ7 =>
      some σ7
      else none
    ) else (
      if inb x2 30 then
      stp (wI σ 138 (x2).toNatClampNeg (sI σ 137 (x2).toNatClampNeg)) fun σ9 =>
      some σ9
      else none
    )
  ) else (
    if x3 = 0 then (
      if inb x4 200 then
      if (sI σ 108 (x4).toNatClampNeg) = x2 then (
        if (sI σ 109 (x4).toNatClampNeg) = x1 then (
          if (sI σ 81 72) < (sI σ 110 (x4).toNatClampNeg) then (
            f129 x1 x2 (0 : Int32) (x4 + (1 : Int32)) σ
          ) else (
            if inb x1 200 then
            if inb (sI σ 81 79) 13 then
            if (sI σ 121 ((sI σ 81 79)).toNatClampNeg) < ((sI σ 110 (x4).toNatClampNeg) - (sI σ 106 (x1).toNatClampNeg)) then (
              f129 x1 x2 (0 : Int32) (x4 + (1 : Int32)) σ
            ) else (
              f129 x1 x2 (1 : Int32) (x4 + (1 : Int32)) σ
            )
            else none
            else none
          )
        ) else (
          f129 x1 x2 (0 : Int32) (x4 + (1 : Int32)) σ
        )
      ) else (
        f129 x1 x2 (0 : Int32) (x4 + (1 : Int32)) σ
      )
      else none
    ) else (
      f129 x1 x2 (1 : Int32) (x4 + (1 : Int32)) σ
    )
  )
def mX12_pays_129 : Nat → Int32 → Int32 → Int32 → Int32 → Sto → Option Sto
  | 0, _, _, _, _, _ => none
  | n + 1, x1, x2, x3, x4, σ => mX12_pays_129B (mX12_pays_129 n) x1 x2 x3 x4 σ
def mX12_pays_2B (f2 : Int32 → Int32 → Int32 → Sto → Option Sto) (x1 : Int32) (x2 : Int32) (x3 : Int32) (σ : Sto) : Option Sto :=
  if (sI σ 81 7) ≤ x3 then (
    if inb x2 30 then
    if (sI σ 139 (x2).toNatClampNeg) = (-1 : Int32) then (
      mX12_pays_129 FU x1 x2 (0 : Int32) (0 : Int32) σ
    ) else (
      if inb (sI σ 139 (x2).toNatClampNeg) 5 then
      stp (wI σ 138 (x2).toNatClampNeg ((sI σ 137 (x2).toNatClampNeg) - (((((sI σ 137 (x2).toNatClampNeg)).toInt64 * ((sI σ 93 ((sI σ 139 (x2).toNatClampNeg)).toNatClampNeg)).toInt64) / (1000 : Int64))).toInt32)) fun σ19 =>
      some σ19
      else none
    )
    else none
  ) else (
    if inb x3 200 then
    if (sI σ 97 (x3).toNatClampNeg) = (5 : Int32) then (
      if (sI σ 99 (x3).toNatClampNeg) = x2 then (
        if inb x1 200 then
        if (sI σ 101 (x1).toNatClampNeg) < (sI σ 101 (x3).toNatClampNeg) then (
          f2 x1 x2 (x3 + (1 : Int32)) σ
        ) else (
          (mX12_isKnown x3 (sI σ 81 72) σ).bind fun v25 =>
          if v25 = 0 then (
            f2 x1 x2 (x3 + (1 : Int32)) σ
          ) else (
            if inb x2 30 then
            stp (wI σ 139 (x2).toNatClampNeg (sI σ 100 (x3).toNatClampNeg)) fun σ28 =>
            f2 x1 x2 (x3 + (1 : Int32)) σ28
            else none
          )
        )
        else none
      ) else (
        f2 x1 x2 (x3 + (1 : Int32)) σ
      )
    ) else (
      f2 x1 x2 (x3 + (1 : Int32)) σ
    )
    else none
  )
def mX12_pays_2 : Nat → Int32 → Int32 → Int32 → Sto → Option Sto
  | 0, _, _, _, _ => none
  | n + 1, x1, x2, x3, σ => mX12_pays_2B (mX12_pays_2 n) x1 x2 x3 σ
def mX12_pays (p0 : Int32) (p1 : Int32) (σ : Sto) : Option Sto :=
  mX12_pays_2 FU p0 p1 (0 : Int32) σ
def mX12_sells_217B (f217 : Int32 → Int32 → Sto → Option Sto) (x1 : Int32) (x2 : Int32) (σ : Sto) : Option Sto :=
  if (sI σ 81 3) ≤ x2 then (
    some σ
  ) else (
    if inb x2 30 then
    if (sI σ 137 (x2).toNatClampNeg) ≤ 0 then (
      f217 x1 (x2 + (1 : Int32)) σ
    ) else (
      (mX12_pays x1 x2 σ).bind fun σ23 =>
      f217 x1 (x2 + (1 : Int32)) σ23
    )
    else none
  )
def mX12_sells_217 : Nat → Int32 → Int32 → Sto → Option Sto
  | 0, _, _, _ => none
  | n + 1, x1, x2, σ => mX12_sells_217B (mX12_sells_217 n) x1 x2 σ
def mX12_sells_145B (f145 : Int32 → Int32 → Sto → Option Sto) (x1 : Int32) (x2 : Int32) (σ : Sto) : Option Sto :=
  if (30 : Int32) ≤ x2 then (
    if (sI σ 81 83) = 0 then (
      some σ
    ) else (
      (mX12_shares x1 σ).bind fun σ17 =>
      if inb x1 200 then
      (mX12_passes (sI σ17 101 (x1).toNatClampNeg) σ17).bind fun σ19 =>
      mX12_sells_217 FU x1 (0 : Int32) σ19
      else none
    )
  ) else (
    if inb x2 30 then
    stp (wI σ 135 (x2).toNatClampNeg (0 : Int32)) fun σ25 =>
    stp (wI σ25 136 (x2).toNatClampNeg (0 : Int32)) fun σ26 =>
    stp (wI σ26 137 (x2).toNatClampNeg (0 : Int32)) fun σ27 =>
    stp (wI σ27 138 (x2).toNatClampNeg (0 : Int32)) fun σ28 =>
    stp (wI σ28 139 (x2).toNatClampNeg (-1 : Int32)) fun σ29 =>
    f145 x1 (x2 + (1 : Int32)) σ29
    else none
  )
def mX12_sells_145 : Nat → Int32 → Int32 → Sto → Option Sto
  | 0, _, _, _ => none
  | n + 1, x1, x2, σ => mX12_sells_145B (mX12_sells_145 n) x1 x2 σ
def mX12_sells_113B (f113 : Int32 → Int32 → Sto → Option Sto) (x1 : Int32) (x2 : Int32) (σ : Sto) : Option Sto :=
  if x2 < 0 then (
    mX12_sells_145 FU x1 (0 : Int32) σ
  ) else (
    if inb x2 5 then
    if inb x1 200 then
    if (sI σ 92 (x2).toNatClampNeg) = (sI σ 103 (x1).toNatClampNeg) then (
      stp (wI σ 81 86 x2) fun σ33 =>
      f113 x1 (x2 + (-1 : Int32)) σ33
    ) else (
      f113 x1 (x2 + (-1 : Int32)) σ
    )
    else none
    else none
  )
def mX12_sells_113 : Nat → Int32 → Int32 → Sto → Option Sto
  | 0, _, _, _ => none
  | n + 1, x1, x2, σ => mX12_sells_113B (mX12_sells_113 n) x1 x2 σ
def mX12_sells_93 (x1 : Int32) (y1 : Int32) (σ : Sto) : Option Sto :=
  stp (wI σ 81 84 y1) fun σ11 =>
  stp (wI σ11 81 85 (0 : Int32)) fun σ12 =>
  stp (wI σ12 81 86 (-1 : Int32)) fun σ13 =>
  mX12_sells_113 FU x1 ((sI σ13 81 5) - (1 : Int32)) σ13
def mX12_sells_73 (x1 : Int32) (y1 : Int32) (σ : Sto) : Option Sto :=
  stp (wI σ 81 83 y1) fun σ9 =>
  if (sI σ9 81 83) = (1 : Int32) then (
    (mX12_partOf σ9).bind fun v34 =>
    mX12_sells_93 x1 v34 σ9
  ) else (
    mX12_sells_93 x1 (0 : Int32) σ9
  )
def mX12_sells (p0 : Int32) (σ : Sto) : Option Sto :=
  if inb p0 200 then
  (mX12_rateOf (sI σ 103 (p0).toNatClampNeg) (sI σ 101 (p0).toNatClampNeg) σ).bind fun v2 =>
  stp (wI σ 81 78 (((((sI σ 104 (p0).toNatClampNeg)).toInt64 * (v2).toInt64) / (1000 : Int64))).toInt32) fun σ3 =>
  (mX12_lawOf (sI σ3 103 (p0).toNatClampNeg) (sI σ3 101 (p0).toNatClampNeg) σ3).bind fun v4 =>
  stp (wI σ3 81 79 v4) fun σ5 =>
  (mX12_looksBack p0 σ5).bind fun σ6 =>
  bd2 (mX12_isCounting p0 σ6) fun v7 σ7 =>
  if v7 = 0 then (
    mX12_sells_73 p0 (0 : Int32) σ7
  ) else (
    mX12_sells_73 p0 (1 : Int32) σ7
  )
  else none
def mX12_isEvening_18 (y1 : Int32) (σ : Sto) : Option (Int32 × Sto) :=
  bd2 (mX12_right y1 (2 : Int32) σ) fun v2 σ2 =>
  if isB v2 then
  some (v2, σ2)
  else none
def mX12_isEvening_17 (σ : Sto) : Option (Int32 × Sto) :=
  mX12_isEvening_18 (0 : Int32) σ
def mX12_isEvening (p0 : Int32) (σ : Sto) : Option (Int32 × Sto) :=
  if p0 < 0 then (
    mX12_isEvening_17 σ
  ) else (
    if (sI σ 81 1) < p0 then (
      mX12_isEvening_17 σ
    ) else (
      mX12_isEvening_18 (1 : Int32) σ
    )
  )
def mX12_sold_29 (x1 : Int32) (x2 : Int32) (x3 : Int32) (y1 : Int32) (σ : Sto) : Option (Int32 × Sto) :=
  bd2 (mX12_right y1 (1 : Int32) σ) fun v5 σ5 =>
  if v5 = 0 then (
    some ((0 : Int32), σ5)
  ) else (
    bd2 (mX12_isEvening x3 σ5) fun v7 σ7 =>
    if v7 = 0 then (
      some ((0 : Int32), σ7)
    ) else (
      (mX12_isKnown x1 x3 σ7).bind fun v9 =>
      if v9 = 0 then (
        some ((-1 : Int32), σ7)
      ) else (
        (mX12_gathers x3 σ7).bind fun σ11 =>
        (mX12_sells x1 σ11).bind fun σ12 =>
        if x2 = (0 : Int32) then (
          some ((sI σ12 81 78), σ12)
        ) else
        if x2 = (1 : Int32) then (
          some ((sI σ12 81 83), σ12)
        ) else
        if x2 = (2 : Int32) then (
          some ((sI σ12 81 84), σ12)
        ) else
        if x2 = (3 : Int32) then (
          some ((sI σ12 81 85), σ12)
        ) else
        if x2 = (4 : Int32) then (
          some ((sI σ12 81 86), σ12)
        ) else
        if x2 = (5 : Int32) then (
          some ((sI σ12 81 79), σ12)
        ) else
        if x2 = (6 : Int32) then (
          some ((sI σ12 81 80), σ12)
        ) else
        (
        some ((sI σ12 81 82), σ12)
        )
      )
    )
  )
def mX12_sold_28 (x1 : Int32) (x2 : Int32) (x3 : Int32) (σ : Sto) : Option (Int32 × Sto) :=
  mX12_sold_29 x1 x2 x3 (0 : Int32) σ
def mX12_sold (p0 : Int32) (p1 : Int32) (p2 : Int32) (σ : Sto) : Option (Int32 × Sto) :=
  stp (wI σ 81 0 (0 : Int32)) fun σ1 =>
  bd2 (mX12_isSale p0 σ1) fun v2 σ2 =>
  if v2 = 0 then (
    some ((0 : Int32), σ2)
  ) else (
    if p1 < 0 then (
      mX12_sold_28 p0 p1 p2 σ2
    ) else (
      if (7 : Int32) < p1 then (
        mX12_sold_28 p0 p1 p2 σ2
      ) else (
        mX12_sold_29 p0 p1 p2 (1 : Int32) σ2
      )
    )
  )
def mX12_has_36 (x1 : Int32) (x2 : Int32) (x3 : Int32) (x4 : Int32) (y1 : Int32) (σ : Sto) : Option (Int32 × Sto) :=
  bd2 (mX12_right y1 (1 : Int32) σ) fun v7 σ7 =>
  if v7 = 0 then (
    some ((0 : Int32), σ7)
  ) else (
    bd2 (mX12_isEvening x4 σ7) fun v9 σ9 =>
    if v9 = 0 then (
      some ((0 : Int32), σ9)
    ) else (
      (mX12_isKnown x1 x4 σ9).bind fun v11 =>
      if v11 = 0 then (
        some ((0 : Int32), σ9)
      ) else (
        (mX12_gathers x4 σ9).bind fun σ13 =>
        (mX12_sells x1 σ13).bind fun σ14 =>
        if x3 = 0 then (
          if inb x2 30 then
          some ((sI σ14 135 (x2).toNatClampNeg), σ14)
          else none
        ) else (
          if x3 = (1 : Int32) then (
            if inb x2 30 then
            some ((sI σ14 136 (x2).toNatClampNeg), σ14)
            else none
          ) else (
            if x3 = (2 : Int32) then (
              if inb x2 30 then
              some ((sI σ14 137 (x2).toNatClampNeg), σ14)
              else none
            ) else (
              if inb x2 30 then
              some ((sI σ14 138 (x2).toNatClampNeg), σ14)
              else none
            )
          )
        )
      )
    )
  )
def mX12_has_35 (x1 : Int32) (x2 : Int32) (x3 : Int32) (x4 : Int32) (σ : Sto) : Option (Int32 × Sto) :=
  mX12_has_36 x1 x2 x3 x4 (0 : Int32) σ
def mX12_has (p0 : Int32) (p1 : Int32) (p2 : Int32) (p3 : Int32) (σ : Sto) : Option (Int32 × Sto) :=
  stp (wI σ 81 0 (0 : Int32)) fun σ1 =>
  bd2 (mX12_isSale p0 σ1) fun v2 σ2 =>
  if v2 = 0 then (
    some ((0 : Int32), σ2)
  ) else (
    bd2 (mX12_isPerson p1 σ2) fun v4 σ4 =>
    if v4 = 0 then (
      some ((0 : Int32), σ4)
    ) else (
      if p2 < 0 then (
        mX12_has_35 p0 p1 p2 p3 σ4
      ) else (
        if (3 : Int32) < p2 then (
          mX12_has_35 p0 p1 p2 p3 σ4
        ) else (
          mX12_has_36 p0 p1 p2 p3 (1 : Int32) σ4
        )
      )
    )
  )
def mX12_isOf (p0 : Int32) (p1 : Int32) (p2 : Int32) (σ : Sto) : Option Int32 :=
  if inb p0 200 then
  if (sI σ 97 (p0).toNatClampNeg) = (2 : Int32) then (
    if ((sI σ 101 (p0).toNatClampNeg) / (365 : Int32)) = p1 then (
      (mX12_isKnown p0 p2 σ).bind fun v4 =>
      if v4 = 0 then (
        some (0 : Int32)
      ) else (
        some (1 : Int32)
      )
    ) else (
      some (0 : Int32)
    )
  ) else (
    some (0 : Int32)
  )
  else none
def mX12_isYear_16 (y1 : Int32) (σ : Sto) : Option (Int32 × Sto) :=
  bd2 (mX12_right y1 (1 : Int32) σ) fun v2 σ2 =>
  if isB v2 then
  some (v2, σ2)
  else none
def mX12_isYear_15 (σ : Sto) : Option (Int32 × Sto) :=
  mX12_isYear_16 (0 : Int32) σ
def mX12_isYear (p0 : Int32) (σ : Sto) : Option (Int32 × Sto) :=
  if p0 < 0 then (
    mX12_isYear_15 σ
  ) else (
    if (99 : Int32) < p0 then (
      mX12_isYear_15 σ
    ) else (
      mX12_isYear_16 (1 : Int32) σ
    )
  )
def mX12_gets_42B (f42 : Int32 → Int32 → Int32 → Int64 → Int32 → Sto → Option (Int64 × Sto)) (x1 : Int32) (x2 : Int32) (x3 : Int32) (x4 : Int64) (x6 : Int32) (σ : Sto) : Option (Int64 × Sto) :=
  if (sI σ 81 7) ≤ x6 then (
    some (x4, σ)
  ) else (
    (mX12_isOf x6 x2 x3 σ).bind fun v10 =>
    if v10 = 0 then (
      f42 x1 x2 x3 x4 (x6 + (1 : Int32)) σ
    ) else (
      (mX12_sells x6 σ).bind fun σ12 =>
      if inb x1 30 then
      f42 x1 x2 x3 (x4 + ((sI σ12 138 (x1).toNatClampNeg)).toInt64) (x6 + (1 : Int32)) σ12
      else none
    )
  )
def mX12_gets_42 : Nat → Int32 → Int32 → Int32 → Int64 → Int32 → Sto → Option (Int64 × Sto)
  | 0, _, _, _, _, _, _ => none
  | n + 1, x1, x2, x3, x4, x6, σ => mX12_gets_42B (mX12_gets_42 n) x1 x2 x3 x4 x6 σ
def mX12_gets (p0 : Int32) (p1 : Int32) (p2 : Int32) (σ : Sto) : Option (Int64 × Sto) :=
  stp (wI σ 81 0 (0 : Int32)) fun σ1 =>
  bd2 (mX12_isPerson p0 σ1) fun v2 σ2 =>
  if v2 = 0 then (
    some ((0 : Int64), σ2)
  ) else (
    bd2 (mX12_isYear p1 σ2) fun v4 σ4 =>
    if v4 = 0 then (
      some ((0 : Int64), σ4)
    ) else (
      bd2 (mX12_isEvening p2 σ4) fun v6 σ6 =>
      if v6 = 0 then (
        some ((0 : Int64), σ6)
      ) else (
        (mX12_gathers p2 σ6).bind fun σ8 =>
        mX12_gets_42 FU p0 p1 p2 (0 : Int64) (0 : Int32) σ8
      )
    )
  )
def mX12_clears_57B (f28 : Int32 → Int32 → Int32 → Sto → Option Sto) (f57 : Int32 → Int32 → Int32 → Int32 → Sto → Option Sto) (x1 : Int32) (x2 : Int32) (x3 : Int32) (x4 : Int32) (σ : Sto) : Option Sto :=
  if (sI σ 81 3) ≤ x4 then (
    f28 x1 x2 (x3 + (1 : Int32)) σ
  ) else (
    if (sI σ 81 86) = (-1 : Int32) then (
      f28 x1 x2 (x3 + (1 : Int32)) σ
    ) else (
      if inb x4 30 then
      if (sI σ 139 (x4).toNatClampNeg) = (-1 : Int32) then (
        f57 x1 x2 x3 (x4 + (1 : Int32)) σ
      ) else (
        if (sI σ 139 (x4).toNatClampNeg) = (sI σ 81 86) then (
          f57 x1 x2 x3 (x4 + (1 : Int32)) σ
        ) else (
          if inb (((5 : Int32) * (sI σ 81 86)) + (sI σ 139 (x4).toNatClampNeg)) 25 then
          stp (wL σ 142 ((((5 : Int32) * (sI σ 81 86)) + (sI σ 139 (x4).toNatClampNeg))).toNatClampNeg ((sL σ 142 ((((5 : Int32) * (sI σ 81 86)) + (sI σ 139 (x4).toNatClampNeg))).toNatClampNeg) + ((sI σ 137 (x4).toNatClampNeg)).toInt64)) fun σ13 =>
          f57 x1 x2 x3 (x4 + (1 : Int32)) σ13
          else none
        )
      )
      else none
    )
  )
def mX12_clears_57 (f28 : Int32 → Int32 → Int32 → Sto → Option Sto) : Nat → Int32 → Int32 → Int32 → Int32 → Sto → Option Sto
  | 0, _, _, _, _, _ => none
  | n + 1, x1, x2, x3, x4, σ => mX12_clears_57B f28 (mX12_clears_57 f28 n) x1 x2 x3 x4 σ
def mX12_clears_28B (f28 : Int32 → Int32 → Int32 → Sto → Option Sto) (x1 : Int32) (x2 : Int32) (x3 : Int32) (σ : Sto) : Option Sto :=
  if (sI σ 81 7) ≤ x3 then (
    some σ
  ) else (
    (mX12_isOf x3 x1 x2 σ).bind fun v4 =>
    if v4 = 0 then (
      f28 x1 x2 (x3 + (1 : Int32)) σ
    ) else (
      (mX12_sells x3 σ).bind fun σ6 =>
      mX12_clears_57 f28 FU x1 x2 x3 (0 : Int32) σ6
    )
  )
def mX12_clears_28 : Nat → Int32 → Int32 → Int32 → Sto → Option Sto
  | 0, _, _, _, _ => none
  | n + 1, x1, x2, x3, σ => mX12_clears_28B (mX12_clears_28 n) x1 x2 x3 σ
def mX12_clears_7B (f7 : Int32 → Int32 → Int32 → Sto → Option Sto) (x1 : Int32) (x2 : Int32) (x3 : Int32) (σ : Sto) : Option Sto :=
  if (25 : Int32) ≤ x3 then (
    mX12_clears_28 FU x1 x2 (0 : Int32) σ
  ) else (
    if inb x3 25 then
    stp (wL σ 142 (x3).toNatClampNeg (0 : Int64)) fun σ15 =>
    f7 x1 x2 (x3 + (1 : Int32)) σ15
    else none
  )
def mX12_clears_7 : Nat → Int32 → Int32 → Int32 → Sto → Option Sto
  | 0, _, _, _, _ => none
  | n + 1, x1, x2, x3, σ => mX12_clears_7B (mX12_clears_7 n) x1 x2 x3 σ
def mX12_clears (p0 : Int32) (p1 : Int32) (σ : Sto) : Option Sto :=
  (mX12_gathers p1 σ).bind fun σ1 =>
  mX12_clears_7 FU p0 p1 (0 : Int32) σ1
def mX12_owes (p0 : Int32) (p1 : Int32) (p2 : Int32) (p3 : Int32) (σ : Sto) : Option (Int64 × Sto) :=
  stp (wI σ 81 0 (0 : Int32)) fun σ1 =>
  bd2 (mX12_isSociety p0 σ1) fun v2 σ2 =>
  if v2 = 0 then (
    some ((0 : Int64), σ2)
  ) else (
    bd2 (mX12_isSociety p1 σ2) fun v4 σ4 =>
    if v4 = 0 then (
      some ((0 : Int64), σ4)
    ) else (
      bd2 (mX12_isYear p2 σ4) fun v6 σ6 =>
      if v6 = 0 then (
        some ((0 : Int64), σ6)
      ) else (
        bd2 (mX12_isEvening p3 σ6) fun v8 σ8 =>
        if v8 = 0 then (
          some ((0 : Int64), σ8)
        ) else (
          (mX12_clears p2 p3 σ8).bind fun σ10 =>
          if inb (((5 : Int32) * p0) + p1) 25 then
          some ((sL σ10 142 ((((5 : Int32) * p0) + p1)).toNatClampNeg), σ10)
          else none
        )
      )
    )
  )
def mX12_netOf_5B (f5 : Int32 → Int64 → Int32 → Sto → Option Int64) (x1 : Int32) (x2 : Int64) (x4 : Int32) (σ : Sto) : Option Int64 :=
  if (5 : Int32) ≤ x4 then (
    some x2
  ) else (
    if inb (((5 : Int32) * x4) + x1) 25 then
    if inb (((5 : Int32) * x1) + x4) 25 then
    f5 x1 (x2 + ((sL σ 142 ((((5 : Int32) * x4) + x1)).toNatClampNeg) - (sL σ 142 ((((5 : Int32) * x1) + x4)).toNatClampNeg))) (x4 + (1 : Int32)) σ
    else none
    else none
  )
def mX12_netOf_5 : Nat → Int32 → Int64 → Int32 → Sto → Option Int64
  | 0, _, _, _, _ => none
  | n + 1, x1, x2, x4, σ => mX12_netOf_5B (mX12_netOf_5 n) x1 x2 x4 σ
def mX12_netOf (p0 : Int32) (σ : Sto) : Option Int64 :=
  mX12_netOf_5 FU p0 (0 : Int64) (0 : Int32) σ
def mX12_net (p0 : Int32) (p1 : Int32) (p2 : Int32) (σ : Sto) : Option (Int64 × Sto) :=
  stp (wI σ 81 0 (0 : Int32)) fun σ1 =>
  bd2 (mX12_isSociety p0 σ1) fun v2 σ2 =>
  if v2 = 0 then (
    some ((0 : Int64), σ2)
  ) else (
    bd2 (mX12_isYear p1 σ2) fun v4 σ4 =>
    if v4 = 0 then (
      some ((0 : Int64), σ4)
    ) else (
      bd2 (mX12_isEvening p2 σ4) fun v6 σ6 =>
      if v6 = 0 then (
        some ((0 : Int64), σ6)
      ) else (
        (mX12_clears p1 p2 σ6).bind fun σ8 =>
        (mX12_netOf p0 σ8).bind fun v9 =>
        some (v9, σ8)
      )
    )
  )
def mX12_isNothing_5B (f5 : Int32 → Int64 → Int32 → Sto → Option Int32) (x1 : Int32) (x2 : Int64) (x4 : Int32) (σ : Sto) : Option Int32 :=
  if (5 : Int32) ≤ x4 then (
    if (lg_cmp x2 (0 : Int64)) = 0 then (
      some (1 : Int32)
    ) else (
      some (0 : Int32)
    )
  ) else (
    if ((x1 >>> (x4 &&& 31)) &&& (1 : Int32)) = (1 : Int32) then (
      (mX12_netOf x4 σ).bind fun v4 =>
      f5 x1 (x2 + v4) (x4 + (1 : Int32)) σ
    ) else (
      f5 x1 x2 (x4 + (1 : Int32)) σ
    )
  )
def mX12_isNothing_5 : Nat → Int32 → Int64 → Int32 → Sto → Option Int32
  | 0, _, _, _, _ => none
  | n + 1, x1, x2, x4, σ => mX12_isNothing_5B (mX12_isNothing_5 n) x1 x2 x4 σ
def mX12_isNothing (p0 : Int32) (σ : Sto) : Option Int32 :=
  mX12_isNothing_5 FU p0 (0 : Int64) (0 : Int32) σ
def mX12_payments_157 (f79 : Int32 → Int32 → Int32 → Sto → Option (Int32 × Sto)) (f98 : Int32 → Int32 → Int32 → Int32 → Sto → Option (Int32 × Sto)) (x3 : Int32) (x4 : Int32) (x5 : Int32) (x6 : Int32) (σ : Sto) : Option (Int32 × Sto) :=
  f98 x3 x4 x5 ((x6 - (1 : Int32)) &&& x5) σ
def mX12_payments_98B (f79 : Int32 → Int32 → Int32 → Sto → Option (Int32 × Sto)) (f98 : Int32 → Int32 → Int32 → Int32 → Sto → Option (Int32 × Sto)) (x3 : Int32) (x4 : Int32) (x5 : Int32) (x6 : Int32) (σ : Sto) : Option (Int32 × Sto) :=
  if x6 ≤ 0 then (
    f79 x3 x4 (x5 + (1 : Int32)) σ
  ) else (
    (mX12_isNothing x6 σ).bind fun v13 =>
    if v13 = 0 then (
      mX12_payments_157 f79 f98 x3 x4 x5 x6 σ
    ) else (
      if inb (x5 &&& (x6 ^^^ (-1 : Int32))) 32 then
      if inb x5 32 then
      if ((sI σ 143 ((x5 &&& (x6 ^^^ (-1 : Int32)))).toNatClampNeg) + (1 : Int32)) ≤ (sI σ 143 (x5).toNatClampNeg) then (
        mX12_payments_157 f79 f98 x3 x4 x5 x6 σ
      ) else (
        stp (wI σ 143 (x5).toNatClampNeg ((sI σ 143 ((x5 &&& (x6 ^^^ (-1 : Int32)))).toNatClampNeg) + (1 : Int32))) fun σ18 =>
        mX12_payments_157 f79 f98 x3 x4 x5 x6 σ18
      )
      else none
      else none
    )
  )
def mX12_payments_98 (f79 : Int32 → Int32 → Int32 → Sto → Option (Int32 × Sto)) : Nat → Int32 → Int32 → Int32 → Int32 → Sto → Option (Int32 × Sto)
  | 0, _, _, _, _, _ => none
  | n + 1, x3, x4, x5, x6, σ => mX12_payments_98B f79 (mX12_payments_98 f79 n) x3 x4 x5 x6 σ
def mX12_payments_79B (f79 : Int32 → Int32 → Int32 → Sto → Option (Int32 × Sto)) (x3 : Int32) (x4 : Int32) (x5 : Int32) (σ : Sto) : Option (Int32 × Sto) :=
  if (32 : Int32) ≤ x5 then (
    if inb x3 32 then
    some ((x4 - (sI σ 143 (x3).toNatClampNeg)), σ)
    else none
  ) else (
    if inb x5 32 then
    stp (wI σ 143 (x5).toNatClampNeg (0 : Int32)) fun σ11 =>
    mX12_payments_98 f79 FU x3 x4 x5 x5 σ11
    else none
  )
def mX12_payments_79 : Nat → Int32 → Int32 → Int32 → Sto → Option (Int32 × Sto)
  | 0, _, _, _, _ => none
  | n + 1, x3, x4, x5, σ => mX12_payments_79B (mX12_payments_79 n) x3 x4 x5 σ
def mX12_payments_37B (f37 : Int32 → Int32 → Int32 → Sto → Option (Int32 × Sto)) (x3 : Int32) (x4 : Int32) (x5 : Int32) (σ : Sto) : Option (Int32 × Sto) :=
  if (sI σ 81 5) ≤ x5 then (
    mX12_payments_79 FU x3 x4 (0 : Int32) σ
  ) else (
    (mX12_netOf x5 σ).bind fun v19 =>
    if (lg_cmp v19 (0 : Int64)) = 0 then (
      f37 x3 x4 (x5 + (1 : Int32)) σ
    ) else (
      f37 (x3 ||| ((1 : Int32) <<< (x5 &&& 31))) (x4 + (1 : Int32)) (x5 + (1 : Int32)) σ
    )
  )
def mX12_payments_37 : Nat → Int32 → Int32 → Int32 → Sto → Option (Int32 × Sto)
  | 0, _, _, _, _ => none
  | n + 1, x3, x4, x5, σ => mX12_payments_37B (mX12_payments_37 n) x3 x4 x5 σ
def mX12_payments (p0 : Int32) (p1 : Int32) (σ : Sto) : Option (Int32 × Sto) :=
  stp (wI σ 81 0 (0 : Int32)) fun σ1 =>
  bd2 (mX12_isYear p0 σ1) fun v2 σ2 =>
  if v2 = 0 then (
    some ((0 : Int32), σ2)
  ) else (
    bd2 (mX12_isEvening p1 σ2) fun v4 σ4 =>
    if v4 = 0 then (
      some ((0 : Int32), σ4)
    ) else (
      (mX12_clears p0 p1 σ4).bind fun σ6 =>
      mX12_payments_37 FU (0 : Int32) (0 : Int32) (0 : Int32) σ6
    )
  )
def mX12_isNear (p0 : Int32) (p1 : Int32) (p2 : Int32) (σ : Sto) : Int32 :=
  if 0 < (lg_cmp ((p0).toInt64 - (p1).toInt64) (p2).toInt64) then (
    (0 : Int32)
  ) else (
    if 0 < (lg_cmp (-((p0).toInt64 - (p1).toInt64)) (p2).toInt64) then (
      (0 : Int32)
    ) else (
      (1 : Int32)
    )
  )
theorem bX12_isNear (p0 : Int32) (p1 : Int32) (p2 : Int32) (σ : Sto) : isB (mX12_isNear p0 p1 p2 σ) := by
  unfold mX12_isNear
  repeat' split
  all_goals first | exact Or.inl rfl | exact Or.inr rfl | exact bX11_isWithin _ _ _ _
def mX12_again_91 (f31 : Int32 → Int32 → Int32 → Int32 → Int32 → Int32 → Sto → Option (Int32 × Sto)) (x1 : Int32) (x2 : Int32) (x3 : Int32) (x4 : Int32) (x5 : Int32) (x6 : Int32) (y0 : Int32) (σ : Sto) : Option (Int32 × Sto) :=
  if y0 = 0 then (
    f31 x1 x2 x3 x4 x5 (x6 + (1 : Int32)) σ
  ) else (
    f31 x1 x2 x3 x4 (x5 ||| ((1 : Int32) <<< (x6 &&& 31))) (x6 + (1 : Int32)) σ
  )
def mX12_again_90 (f31 : Int32 → Int32 → Int32 → Int32 → Int32 → Int32 → Sto → Option (Int32 × Sto)) (x1 : Int32) (x2 : Int32) (x3 : Int32) (x4 : Int32) (x5 : Int32) (x6 : Int32) (σ : Sto) : Option (Int32 × Sto) :=
  mX12_again_91 f31 x1 x2 x3 x4 x5 x6 (0 : Int32) σ
def mX12_again_31B (f31 : Int32 → Int32 → Int32 → Int32 → Int32 → Int32 → Sto → Option (Int32 × Sto)) (x1 : Int32) (x2 : Int32) (x3 : Int32) (x4 : Int32) (x5 : Int32) (x6 : Int32) (σ : Sto) : Option (Int32 × Sto) :=
  if (sI σ 81 4) ≤ x6 then (
    some (x5, σ)
  ) else (
    if inb x6 30 then
    if (x1 &&& ((sI σ 88 (x6).toNatClampNeg) ^^^ (-1 : Int32))) = 0 then (
      if (mX12_isNear x2 (sI σ 89 (x6).toNatClampNeg) x4 σ) = 0 then (
        mX12_again_90 f31 x1 x2 x3 x4 x5 x6 σ
      ) else (
        if (mX12_isNear x3 (sI σ 90 (x6).toNatClampNeg) x4 σ) = 0 then (
          mX12_again_90 f31 x1 x2 x3 x4 x5 x6 σ
        ) else (
          mX12_again_91 f31 x1 x2 x3 x4 x5 x6 (1 : Int32) σ
        )
      )
    ) else (
      mX12_again_90 f31 x1 x2 x3 x4 x5 x6 σ
    )
    else none
  )
def mX12_again_31 : Nat → Int32 → Int32 → Int32 → Int32 → Int32 → Int32 → Sto → Option (Int32 × Sto)
  | 0, _, _, _, _, _, _, _ => none
  | n + 1, x1, x2, x3, x4, x5, x6, σ => mX12_again_31B (mX12_again_31 n) x1 x2 x3 x4 x5 x6 σ
def mX12_again_16 (x1 : Int32) (x2 : Int32) (x3 : Int32) (x4 : Int32) (y1 : Int32) (σ : Sto) : Option (Int32 × Sto) :=
  bd2 (mX12_right y1 (1 : Int32) σ) fun v3 σ3 =>
  if v3 = 0 then (
    some ((0 : Int32), σ3)
  ) else (
    mX12_again_31 FU x1 x2 x3 x4 (0 : Int32) (0 : Int32) σ3
  )
def mX12_again (p0 : Int32) (p1 : Int32) (p2 : Int32) (p3 : Int32) (σ : Sto) : Option (Int32 × Sto) :=
  stp (wI σ 81 0 (0 : Int32)) fun σ1 =>
  if p3 < 0 then (
    mX12_again_16 p0 p1 p2 p3 (0 : Int32) σ1
  ) else (
    mX12_again_16 p0 p1 p2 p3 (1 : Int32) σ1
  )
def mX12_handles_113 (f7 : Int32 → Int32 → Int32 → Sto → Option Sto) (x1 : Int32) (x2 : Int32) (x3 : Int32) (x4 : Int32) (σ : Sto) : Option Sto :=
  if inb x4 200 then
  stp (wI σ 144 (x4).toNatClampNeg x3) fun σ11 =>
  stp (wI σ11 81 98 ((sI σ11 81 98) + (1 : Int32))) fun σ12 =>
  f7 x1 x2 (x3 + (1 : Int32)) σ12
  else none
def mX12_handles_63B (f7 : Int32 → Int32 → Int32 → Sto → Option Sto) (f63 : Int32 → Int32 → Int32 → Int32 → Sto → Option Sto) (x1 : Int32) (x2 : Int32) (x3 : Int32) (x4 : Int32) (σ : Sto) : Option Sto :=
  if x4 ≤ 0 then (
    mX12_handles_113 f7 x1 x2 x3 x4 σ
  ) else (
    if inb (x4 - (1 : Int32)) 200 then
    if inb (sI σ 144 ((x4 - (1 : Int32))).toNatClampNeg) 200 then
    if inb x3 200 then
    if (sI σ 101 ((sI σ 144 ((x4 - (1 : Int32))).toNatClampNeg)).toNatClampNeg) ≤ (sI σ 101 (x3).toNatClampNeg) then (
      mX12_handles_113 f7 x1 x2 x3 x4 σ
    ) else (
      if inb x4 200 then
      stp (wI σ 144 (x4).toNatClampNeg (sI σ 144 ((x4 - (1 : Int32))).toNatClampNeg)) fun σ18 =>
      f63 x1 x2 x3 (x4 + (-1 : Int32)) σ18
      else none
    )
    else none
    else none
    else none
  )
def mX12_handles_63 (f7 : Int32 → Int32 → Int32 → Sto → Option Sto) : Nat → Int32 → Int32 → Int32 → Int32 → Sto → Option Sto
  | 0, _, _, _, _, _ => none
  | n + 1, x1, x2, x3, x4, σ => mX12_handles_63B f7 (mX12_handles_63 f7 n) x1 x2 x3 x4 σ
def mX12_handles_7B (f7 : Int32 → Int32 → Int32 → Sto → Option Sto) (x1 : Int32) (x2 : Int32) (x3 : Int32) (σ : Sto) : Option Sto :=
  if (sI σ 81 7) ≤ x3 then (
    some σ
  ) else (
    if inb x3 200 then
    if (sI σ 97 (x3).toNatClampNeg) < (2 : Int32) then (
      f7 x1 x2 (x3 + (1 : Int32)) σ
    ) else (
      if (4 : Int32) < (sI σ 97 (x3).toNatClampNeg) then (
        f7 x1 x2 (x3 + (1 : Int32)) σ
      ) else (
        if (sI σ 98 (x3).toNatClampNeg) = x1 then (
          (mX12_isKnown x3 x2 σ).bind fun v7 =>
          if v7 = 0 then (
            f7 x1 x2 (x3 + (1 : Int32)) σ
          ) else (
            mX12_handles_63 f7 FU x1 x2 x3 (sI σ 81 98) σ
          )
        ) else (
          f7 x1 x2 (x3 + (1 : Int32)) σ
        )
      )
    )
    else none
  )
def mX12_handles_7 : Nat → Int32 → Int32 → Int32 → Sto → Option Sto
  | 0, _, _, _, _ => none
  | n + 1, x1, x2, x3, σ => mX12_handles_7B (mX12_handles_7 n) x1 x2 x3 σ
def mX12_handles (p0 : Int32) (p1 : Int32) (σ : Sto) : Option Sto :=
  stp (wI σ 81 98 (0 : Int32)) fun σ1 =>
  mX12_handles_7 FU p0 p1 (0 : Int32) σ1
def mX12_behind (p0 : Int32) (σ : Sto) : Option Int32 :=
  if inb p0 200 then
  if (sI σ 97 (p0).toNatClampNeg) = (4 : Int32) then (
    some (sI σ 99 (p0).toNatClampNeg)
  ) else (
    some (sI σ 100 (p0).toNatClampNeg)
  )
  else none
def mX12_with_47B (f47 : Int32 → Int32 → Int32 → Sto → Option (Int32 × Sto)) (x2 : Int32) (x4 : Int32) (x5 : Int32) (σ : Sto) : Option (Int32 × Sto) :=
  if (sI σ 81 98) ≤ x5 then (
    some (x4, σ)
  ) else (
    if inb x5 200 then
    if inb (sI σ 144 (x5).toNatClampNeg) 200 then
    if x2 < (sI σ 101 ((sI σ 144 (x5).toNatClampNeg)).toNatClampNeg) then (
      f47 x2 x4 (x5 + (1 : Int32)) σ
    ) else (
      (mX12_behind (sI σ 144 (x5).toNatClampNeg) σ).bind fun v14 =>
      f47 x2 v14 (x5 + (1 : Int32)) σ
    )
    else none
    else none
  )
def mX12_with_47 : Nat → Int32 → Int32 → Int32 → Sto → Option (Int32 × Sto)
  | 0, _, _, _, _ => none
  | n + 1, x2, x4, x5, σ => mX12_with_47B (mX12_with_47 n) x2 x4 x5 σ
def mX12_with (p0 : Int32) (p1 : Int32) (p2 : Int32) (σ : Sto) : Option (Int32 × Sto) :=
  stp (wI σ 81 0 (0 : Int32)) fun σ1 =>
  bd2 (mX12_isWork p0 σ1) fun v2 σ2 =>
  if v2 = 0 then (
    some ((0 : Int32), σ2)
  ) else (
    bd2 (mX12_right (mX12_isDay p1 σ2) (1 : Int32) σ2) fun v5 σ5 =>
    if v5 = 0 then (
      some ((0 : Int32), σ5)
    ) else (
      bd2 (mX12_isEvening p2 σ5) fun v7 σ7 =>
      if v7 = 0 then (
        some ((0 : Int32), σ7)
      ) else (
        (mX12_handles p0 p2 σ7).bind fun σ9 =>
        mX12_with_47 FU p1 (-1 : Int32) (0 : Int32) σ9
      )
    )
  )
def mX12_hidden_145 (x3 : Int32) (x6 : Int32) (y1 : Int32) (σ : Sto) : Option (Int32 × Sto) :=
  bd2 (mX12_right y1 (1 : Int32) σ) fun v13 σ13 =>
  if v13 = 0 then (
    some ((0 : Int32), σ13)
  ) else (
    if x3 = 0 then (
      if inb (x6 - (1 : Int32)) 200 then
      if inb (sI σ13 144 ((x6 - (1 : Int32))).toNatClampNeg) 200 then
      some ((sI σ13 101 ((sI σ13 144 ((x6 - (1 : Int32))).toNatClampNeg)).toNatClampNeg), σ13)
      else none
      else none
    ) else (
      if x3 = (1 : Int32) then (
        if inb x6 200 then
        if inb (sI σ13 144 (x6).toNatClampNeg) 200 then
        some ((sI σ13 101 ((sI σ13 144 (x6).toNatClampNeg)).toNatClampNeg), σ13)
        else none
        else none
      ) else (
        if x3 = (2 : Int32) then (
          if inb (x6 - (1 : Int32)) 200 then
          (mX12_behind (sI σ13 144 ((x6 - (1 : Int32))).toNatClampNeg) σ13).bind fun v21 =>
          some (v21, σ13)
          else none
        ) else (
          if inb x6 200 then
          if inb (sI σ13 144 (x6).toNatClampNeg) 200 then
          some ((sI σ13 99 ((sI σ13 144 (x6).toNatClampNeg)).toNatClampNeg), σ13)
          else none
          else none
        )
      )
    )
  )
def mX12_hidden_144 (x3 : Int32) (x6 : Int32) (σ : Sto) : Option (Int32 × Sto) :=
  mX12_hidden_145 x3 x6 (0 : Int32) σ
def mX12_hidden_62B (f62 : Int32 → Int32 → Int32 → Int32 → Int32 → Sto → Option (Int32 × Sto)) (x2 : Int32) (x3 : Int32) (x5 : Int32) (x6 : Int32) (x7 : Int32) (σ : Sto) : Option (Int32 × Sto) :=
  if (sI σ 81 98) ≤ x7 then (
    if x2 = (-1 : Int32) then (
      some (x5, σ)
    ) else (
      if x2 < 0 then (
        mX12_hidden_144 x3 x6 σ
      ) else (
        if x6 = (-1 : Int32) then (
          mX12_hidden_144 x3 x6 σ
        ) else (
          mX12_hidden_145 x3 x6 (1 : Int32) σ
        )
      )
    )
  ) else (
    if inb x7 200 then
    if inb (sI σ 144 (x7).toNatClampNeg) 200 then
    if inb (x7 - (1 : Int32)) 200 then
    (mX12_behind (sI σ 144 ((x7 - (1 : Int32))).toNatClampNeg) σ).bind fun v30 =>
    if (sI σ 99 ((sI σ 144 (x7).toNatClampNeg)).toNatClampNeg) = v30 then (
      f62 x2 x3 x5 x6 (x7 + (1 : Int32)) σ
    ) else (
      if x5 = x2 then (
        f62 x2 x3 (x5 + (1 : Int32)) x7 (x7 + (1 : Int32)) σ
      ) else (
        f62 x2 x3 (x5 + (1 : Int32)) x6 (x7 + (1 : Int32)) σ
      )
    )
    else none
    else none
    else none
  )
def mX12_hidden_62 : Nat → Int32 → Int32 → Int32 → Int32 → Int32 → Sto → Option (Int32 × Sto)
  | 0, _, _, _, _, _, _ => none
  | n + 1, x2, x3, x5, x6, x7, σ => mX12_hidden_62B (mX12_hidden_62 n) x2 x3 x5 x6 x7 σ
def mX12_hidden_28 (x1 : Int32) (x2 : Int32) (x3 : Int32) (x4 : Int32) (y1 : Int32) (σ : Sto) : Option (Int32 × Sto) :=
  bd2 (mX12_right y1 (1 : Int32) σ) fun v5 σ5 =>
  if v5 = 0 then (
    some ((0 : Int32), σ5)
  ) else (
    bd2 (mX12_isEvening x4 σ5) fun v7 σ7 =>
    if v7 = 0 then (
      some ((0 : Int32), σ7)
    ) else (
      (mX12_handles x1 x4 σ7).bind fun σ9 =>
      mX12_hidden_62 FU x2 x3 (0 : Int32) (-1 : Int32) (1 : Int32) σ9
    )
  )
def mX12_hidden_27 (x1 : Int32) (x2 : Int32) (x3 : Int32) (x4 : Int32) (σ : Sto) : Option (Int32 × Sto) :=
  mX12_hidden_28 x1 x2 x3 x4 (0 : Int32) σ
def mX12_hidden (p0 : Int32) (p1 : Int32) (p2 : Int32) (p3 : Int32) (σ : Sto) : Option (Int32 × Sto) :=
  stp (wI σ 81 0 (0 : Int32)) fun σ1 =>
  bd2 (mX12_isWork p0 σ1) fun v2 σ2 =>
  if v2 = 0 then (
    some ((0 : Int32), σ2)
  ) else (
    if p2 < 0 then (
      mX12_hidden_27 p0 p1 p2 p3 σ2
    ) else (
      if (3 : Int32) < p2 then (
        mX12_hidden_27 p0 p1 p2 p3 σ2
      ) else (
        mX12_hidden_28 p0 p1 p2 p3 (1 : Int32) σ2
      )
    )
  )
def mX12_attempt_241B (f135 : Int32 → Int32 → Sto → Option (Int32 × Sto)) (f241 : Int32 → Int32 → Int32 → Sto → Option (Int32 × Sto)) (x1 : Int32) (x4 : Int32) (x5 : Int32) (σ : Sto) : Option (Int32 × Sto) :=
  if (30 : Int32) ≤ x5 then (
    f135 x1 (x4 + (1 : Int32)) σ
  ) else (
    if inb x5 30 then
    stp (wL σ 145 (x5).toNatClampNeg ((sL σ 145 (x5).toNatClampNeg) - ((sI σ 135 (x5).toNatClampNeg)).toInt64)) fun σ31 =>
    f241 x1 x4 (x5 + (1 : Int32)) σ31
    else none
  )
def mX12_attempt_241 (f135 : Int32 → Int32 → Sto → Option (Int32 × Sto)) : Nat → Int32 → Int32 → Int32 → Sto → Option (Int32 × Sto)
  | 0, _, _, _, _ => none
  | n + 1, x1, x4, x5, σ => mX12_attempt_241B f135 (mX12_attempt_241 f135 n) x1 x4 x5 σ
def mX12_attempt_196B (f135 : Int32 → Int32 → Sto → Option (Int32 × Sto)) (f196 : Int32 → Int32 → Int32 → Sto → Option (Int32 × Sto)) (x1 : Int32) (x4 : Int32) (x5 : Int32) (σ : Sto) : Option (Int32 × Sto) :=
  if (30 : Int32) ≤ x5 then (
    stp (wI σ 81 73 (0 : Int32)) fun σ27 =>
    (mX12_sells x4 σ27).bind fun σ28 =>
    mX12_attempt_241 f135 FU x1 x4 (0 : Int32) σ28
  ) else (
    if inb x5 30 then
    stp (wL σ 145 (x5).toNatClampNeg ((sL σ 145 (x5).toNatClampNeg) + ((sI σ 135 (x5).toNatClampNeg)).toInt64)) fun σ33 =>
    f196 x1 x4 (x5 + (1 : Int32)) σ33
    else none
  )
def mX12_attempt_196 (f135 : Int32 → Int32 → Sto → Option (Int32 × Sto)) : Nat → Int32 → Int32 → Int32 → Sto → Option (Int32 × Sto)
  | 0, _, _, _, _ => none
  | n + 1, x1, x4, x5, σ => mX12_attempt_196B f135 (mX12_attempt_196 f135 n) x1 x4 x5 σ
def mX12_attempt_135B (f135 : Int32 → Int32 → Sto → Option (Int32 × Sto)) (x1 : Int32) (x4 : Int32) (σ : Sto) : Option (Int32 × Sto) :=
  if (sI σ 81 7) ≤ x4 then (
    some ((0 : Int32), σ)
  ) else (
    if inb x4 200 then
    if (sI σ 97 (x4).toNatClampNeg) = (2 : Int32) then (
      if (sI σ 103 (x4).toNatClampNeg) = x1 then (
        (mX12_isKnown x4 (sI σ 81 1) σ).bind fun v22 =>
        if v22 = 0 then (
          f135 x1 (x4 + (1 : Int32)) σ
        ) else (
          stp (wI σ 81 73 (1 : Int32)) fun σ24 =>
          (mX12_sells x4 σ24).bind fun σ25 =>
          mX12_attempt_196 f135 FU x1 x4 (0 : Int32) σ25
        )
      ) else (
        f135 x1 (x4 + (1 : Int32)) σ
      )
    ) else (
      f135 x1 (x4 + (1 : Int32)) σ
    )
    else none
  )
def mX12_attempt_135 : Nat → Int32 → Int32 → Sto → Option (Int32 × Sto)
  | 0, _, _, _ => none
  | n + 1, x1, x4, σ => mX12_attempt_135B (mX12_attempt_135 n) x1 x4 σ
def mX12_attempt_111B (f111 : Int32 → Int32 → Sto → Option (Int32 × Sto)) (x1 : Int32) (x4 : Int32) (σ : Sto) : Option (Int32 × Sto) :=
  if (30 : Int32) ≤ x4 then (
    mX12_attempt_135 FU x1 (0 : Int32) σ
  ) else (
    if inb x4 30 then
    stp (wL σ 145 (x4).toNatClampNeg (0 : Int64)) fun σ35 =>
    f111 x1 (x4 + (1 : Int32)) σ35
    else none
  )
def mX12_attempt_111 : Nat → Int32 → Int32 → Sto → Option (Int32 × Sto)
  | 0, _, _, _ => none
  | n + 1, x1, x4, σ => mX12_attempt_111B (mX12_attempt_111 n) x1 x4 σ
def mX12_attempt_31 (x1 : Int32) (x2 : Int32) (x3 : Int32) (y1 : Int32) (σ : Sto) : Option (Int32 × Sto) :=
  bd2 (mX12_right y1 (2 : Int32) σ) fun v5 σ5 =>
  if v5 = 0 then (
    some ((0 : Int32), σ5)
  ) else (
    stp (wI σ5 81 41 (-1 : Int32)) fun σ7 =>
    stp (wI σ7 81 40 (0 : Int32)) fun σ8 =>
    if (mX12_isDay x3 σ8) = 0 then (
      stp (wI σ8 81 39 (0 : Int32)) fun σ36 =>
      some ((9 : Int32), σ36)
    ) else (
      (mX12_reads (12 : Int32) x2 σ8).bind fun σ11 =>
      if (mX12_isGood σ11) = 0 then (
        some ((sI σ11 81 40), σ11)
      ) else (
        stp (wI σ11 112 ((12 : Int32)).toNatClampNeg x1) fun σ14 =>
        stp (wI σ14 113 ((12 : Int32)).toNatClampNeg x3) fun σ15 =>
        (mX12_gathers (sI σ15 81 1) σ15).bind fun σ16 =>
        mX12_attempt_111 FU x1 (0 : Int32) σ16
      )
    )
  )
def mX12_attempt_30 (x1 : Int32) (x2 : Int32) (x3 : Int32) (σ : Sto) : Option (Int32 × Sto) :=
  mX12_attempt_31 x1 x2 x3 (0 : Int32) σ
def mX12_attempt (p0 : Int32) (p1 : Int32) (p2 : Int32) (σ : Sto) : Option (Int32 × Sto) :=
  stp (wI σ 81 0 (0 : Int32)) fun σ1 =>
  bd2 (mX12_isLand p0 σ1) fun v2 σ2 =>
  if v2 = 0 then (
    some ((0 : Int32), σ2)
  ) else (
    if p1 < 0 then (
      mX12_attempt_30 p0 p1 p2 σ2
    ) else (
      if (sI σ2 81 39) < p1 then (
        mX12_attempt_30 p0 p1 p2 σ2
      ) else (
        mX12_attempt_31 p0 p1 p2 (1 : Int32) σ2
      )
    )
  )
def mX12_more (p0 : Int32) (σ : Sto) : Option (Int64 × Sto) :=
  stp (wI σ 81 0 (0 : Int32)) fun σ1 =>
  bd2 (mX12_isPerson p0 σ1) fun v2 σ2 =>
  if v2 = 0 then (
    some ((0 : Int64), σ2)
  ) else (
    if inb p0 30 then
    some ((sL σ2 145 (p0).toNatClampNeg), σ2)
    else none
  )
def mX12_count_21 (x1 : Int32) (y1 : Int32) (σ : Sto) : Option (Int32 × Sto) :=
  bd2 (mX12_right y1 (1 : Int32) σ) fun v3 σ3 =>
  if v3 = 0 then (
    some ((0 : Int32), σ3)
  ) else (
    if x1 = (0 : Int32) then (
      some ((sI σ3 81 1), σ3)
    ) else
    if x1 = (1 : Int32) then (
      some ((sI σ3 81 2), σ3)
    ) else
    if x1 = (2 : Int32) then (
      some ((sI σ3 81 3), σ3)
    ) else
    if x1 = (3 : Int32) then (
      some ((sI σ3 81 4), σ3)
    ) else
    if x1 = (4 : Int32) then (
      some ((sI σ3 81 5), σ3)
    ) else
    if x1 = (5 : Int32) then (
      some ((sI σ3 81 7), σ3)
    ) else
    if x1 = (6 : Int32) then (
      some ((sI σ3 81 50), σ3)
    ) else
    if x1 = (7 : Int32) then (
      some ((sI σ3 81 8), σ3)
    ) else
    (
    some ((sI σ3 81 39), σ3)
    )
  )
def mX12_count_20 (x1 : Int32) (σ : Sto) : Option (Int32 × Sto) :=
  mX12_count_21 x1 (0 : Int32) σ
def mX12_count (p0 : Int32) (σ : Sto) : Option (Int32 × Sto) :=
  stp (wI σ 81 0 (0 : Int32)) fun σ1 =>
  if p0 < 0 then (
    mX12_count_20 p0 σ1
  ) else (
    if (8 : Int32) < p0 then (
      mX12_count_20 p0 σ1
    ) else (
      mX12_count_21 p0 (1 : Int32) σ1
    )
  )
section
variable {p : Program} {l : Launch} {e : Env} {s : State} {m : MethodId} {args : Array Value} {below : List Frame} {meth : Method} {c : Code} {E : Ev} {ad0 : Nat → Nat} {st : Bool}
set_option maxRecDepth 100000 in
set_option maxHeartbeats 4000000 in
theorem dX12_init {σ : Sto} {a0 : Nat} {r2 : Sto} (hk0 : sK σ a0 = 12) (h : mX12_init a0 σ = some r2) : MM l yX12_init cX12_init 1 none 2 64 22129 E false σ [.ref a0] (QV E false σ r2) := by
  unfold mX12_init at h
  refine MM_of (by decide) (Nat.le_of_ble_eq_true rfl) rfl (fun p e s m args below meth c ad0 C hr hn => ?_)
  refine G_aload_n C 0 rfl rfl dX12_init_0 ?_
  refine G_objInit C lk_X12_1 oi_1 oi_2 (kd := 12) (by decide) (KO.dy hk0) (Nat.le_of_ble_eq_true rfl) (Nat.le_of_ble_eq_true rfl) dX12_init_1 ?_
  refine G_aload_n C 0 rfl rfl dX12_init_4 ?_
  refine G_bipush C (v := 30) rfl dX12_init_5 ?_
  obtain ⟨σ1, hs1, h⟩ := stp_elim h
  refine G_newI (N := 30) C na_I (by decide) rfl (Nat.le_of_ble_eq_true rfl) (Nat.le_of_ble_eq_true rfl) (Nat.le_of_ble_eq_true rfl) dX12_init_7 ?_
  rw [← hs1]
  have hc2 : sK σ1 (sZ σ) = 100 := by rw [hs1]; exact (nwK_K _ _ _ _).trans (if_pos rfl)
  have hc3 : sN σ1 (sZ σ) = 30 := by rw [hs1]; exact (nwK_N _ _ _ _).trans (if_pos rfl)
  obtain ⟨hc4, h⟩ := ifn h
  obtain ⟨σ5, hs5, h⟩ := stp_elim h
  refine G_putR C fl_X12_7_11 fp_X12_11_9 (Or.inr hn) rfl (fun z => nomatch z) (KO.dy hc4) dX12_init_9 ?_
  rw [← hs5]
  have hc6 : sK σ5 (sZ σ) = 100 := by rw [hs5]; exact hc2
  have hc7 : sN σ5 (sZ σ) = 30 := by rw [hs5]; exact hc3
  have hc8 : sK σ5 a0 = 12 := by rw [hs5]; exact hc4
  refine G_aload_n C 0 rfl rfl dX12_init_12 ?_
  refine G_bipush C (v := 30) rfl dX12_init_13 ?_
  obtain ⟨σ9, hs9, h⟩ := stp_elim h
  refine G_newI (N := 30) C na_I (by decide) rfl (Nat.le_of_ble_eq_true rfl) (Nat.le_of_ble_eq_true rfl) (Nat.le_of_ble_eq_true rfl) dX12_init_15 ?_
  rw [← hs9]
  have hc10 : sK σ9 (sZ σ5) = 100 := by rw [hs9]; exact (nwK_K _ _ _ _).trans (if_pos rfl)
  have hc11 : sN σ9 (sZ σ5) = 30 := by rw [hs9]; exact (nwK_N _ _ _ _).trans (if_pos rfl)
  obtain ⟨hc12, h⟩ := ifn h
  obtain ⟨σ13, hs13, h⟩ := stp_elim h
  refine G_putR C fl_X12_13_11 fp_X12_11_10 (Or.inr hn) rfl (fun z => nomatch z) (KO.dy hc12) dX12_init_17 ?_
  rw [← hs13]
  have hc14 : sK σ13 (sZ σ5) = 100 := by rw [hs13]; exact hc10
  have hc15 : sN σ13 (sZ σ5) = 30 := by rw [hs13]; exact hc11
  have hc16 : sK σ13 a0 = 12 := by rw [hs13]; exact hc12
  refine G_aload_n C 0 rfl rfl dX12_init_20 ?_
  refine G_bipush C (v := 30) rfl dX12_init_21 ?_
  obtain ⟨σ17, hs17, h⟩ := stp_elim h
  refine G_newI (N := 30) C na_I (by decide) rfl (Nat.le_of_ble_eq_true rfl) (Nat.le_of_ble_eq_true rfl) (Nat.le_of_ble_eq_true rfl) dX12_init_23 ?_
  rw [← hs17]
  have hc18 : sK σ17 (sZ σ13) = 100 := by rw [hs17]; exact (nwK_K _ _ _ _).trans (if_pos rfl)
  have hc19 : sN σ17 (sZ σ13) = 30 := by rw [hs17]; exact (nwK_N _ _ _ _).trans (if_pos rfl)
  obtain ⟨hc20, h⟩ := ifn h
  obtain ⟨σ21, hs21, h⟩ := stp_elim h
  refine G_putR C fl_X12_16_11 fp_X12_11_11 (Or.inr hn) rfl (fun z => nomatch z) (KO.dy hc20) dX12_init_25 ?_
  rw [← hs21]
  have hc22 : sK σ21 (sZ σ13) = 100 := by rw [hs21]; exact hc18
  have hc23 : sN σ21 (sZ σ13) = 30 := by rw [hs21]; exact hc19
  have hc24 : sK σ21 a0 = 12 := by rw [hs21]; exact hc20
  refine G_aload_n C 0 rfl rfl dX12_init_28 ?_
  refine G_bipush C (v := 90) rfl dX12_init_29 ?_
  obtain ⟨σ25, hs25, h⟩ := stp_elim h
  refine G_newI (N := 90) C na_I (by decide) rfl (Nat.le_of_ble_eq_true rfl) (Nat.le_of_ble_eq_true rfl) (Nat.le_of_ble_eq_true rfl) dX12_init_31 ?_
  rw [← hs25]
  have hc26 : sK σ25 (sZ σ21) = 100 := by rw [hs25]; exact (nwK_K _ _ _ _).trans (if_pos rfl)
  have hc27 : sN σ25 (sZ σ21) = 90 := by rw [hs25]; exact (nwK_N _ _ _ _).trans (if_pos rfl)
  obtain ⟨hc28, h⟩ := ifn h
  obtain ⟨σ29, hs29, h⟩ := stp_elim h
  refine G_putR C fl_X12_19_11 fp_X12_11_12 (Or.inr hn) rfl (fun z => nomatch z) (KO.dy hc28) dX12_init_33 ?_
  rw [← hs29]
  have hc30 : sK σ29 (sZ σ21) = 100 := by rw [hs29]; exact hc26
  have hc31 : sN σ29 (sZ σ21) = 90 := by rw [hs29]; exact hc27
  have hc32 : sK σ29 a0 = 12 := by rw [hs29]; exact hc28
  refine G_aload_n C 0 rfl rfl dX12_init_36 ?_
  refine G_bipush C (v := 90) rfl dX12_init_37 ?_
  obtain ⟨σ33, hs33, h⟩ := stp_elim h
  refine G_newI (N := 90) C na_I (by decide) rfl (Nat.le_of_ble_eq_true rfl) (Nat.le_of_ble_eq_true rfl) (Nat.le_of_ble_eq_true rfl) dX12_init_39 ?_
  rw [← hs33]
  have hc34 : sK σ33 (sZ σ29) = 100 := by rw [hs33]; exact (nwK_K _ _ _ _).trans (if_pos rfl)
  have hc35 : sN σ33 (sZ σ29) = 90 := by rw [hs33]; exact (nwK_N _ _ _ _).trans (if_pos rfl)
  obtain ⟨hc36, h⟩ := ifn h
  obtain ⟨σ37, hs37, h⟩ := stp_elim h
  refine G_putR C fl_X12_22_11 fp_X12_11_13 (Or.inr hn) rfl (fun z => nomatch z) (KO.dy hc36) dX12_init_41 ?_
  rw [← hs37]
  have hc38 : sK σ37 (sZ σ29) = 100 := by rw [hs37]; exact hc34
  have hc39 : sN σ37 (sZ σ29) = 90 := by rw [hs37]; exact hc35
  have hc40 : sK σ37 a0 = 12 := by rw [hs37]; exact hc36
  refine G_aload_n C 0 rfl rfl dX12_init_44 ?_
  refine G_bipush C (v := 30) rfl dX12_init_45 ?_
  obtain ⟨σ41, hs41, h⟩ := stp_elim h
  refine G_newI (N := 30) C na_I (by decide) rfl (Nat.le_of_ble_eq_true rfl) (Nat.le_of_ble_eq_true rfl) (Nat.le_of_ble_eq_true rfl) dX12_init_47 ?_
  rw [← hs41]
  have hc42 : sK σ41 (sZ σ37) = 100 := by rw [hs41]; exact (nwK_K _ _ _ _).trans (if_pos rfl)
  have hc43 : sN σ41 (sZ σ37) = 30 := by rw [hs41]; exact (nwK_N _ _ _ _).trans (if_pos rfl)
  obtain ⟨hc44, h⟩ := ifn h
  obtain ⟨σ45, hs45, h⟩ := stp_elim h
  refine G_putR C fl_X12_25_11 fp_X12_11_14 (Or.inr hn) rfl (fun z => nomatch z) (KO.dy hc44) dX12_init_49 ?_
  rw [← hs45]
  have hc46 : sK σ45 (sZ σ37) = 100 := by rw [hs45]; exact hc42
  have hc47 : sN σ45 (sZ σ37) = 30 := by rw [hs45]; exact hc43
  have hc48 : sK σ45 a0 = 12 := by rw [hs45]; exact hc44
  refine G_aload_n C 0 rfl rfl dX12_init_52 ?_
  refine G_bipush C (v := 30) rfl dX12_init_53 ?_
  obtain ⟨σ49, hs49, h⟩ := stp_elim h
  refine G_newI (N := 30) C na_I (by decide) rfl (Nat.le_of_ble_eq_true rfl) (Nat.le_of_ble_eq_true rfl) (Nat.le_of_ble_eq_true rfl) dX12_init_55 ?_
  rw [← hs49]
  have hc50 : sK σ49 (sZ σ45) = 100 := by rw [hs49]; exact (nwK_K _ _ _ _).trans (if_pos rfl)
  have hc51 : sN σ49 (sZ σ45) = 30 := by rw [hs49]; exact (nwK_N _ _ _ _).trans (if_pos rfl)
  obtain ⟨hc52, h⟩ := ifn h
  obtain ⟨σ53, hs53, h⟩ := stp_elim h
  refine G_putR C fl_X12_28_11 fp_X12_11_15 (Or.inr hn) rfl (fun z => nomatch z) (KO.dy hc52) dX12_init_57 ?_
  rw [← hs53]
  have hc54 : sK σ53 (sZ σ45) = 100 := by rw [hs53]; exact hc50
  have hc55 : sN σ53 (sZ σ45) = 30 := by rw [hs53]; exact hc51
  have hc56 : sK σ53 a0 = 12 := by rw [hs53]; exact hc52
  refine G_aload_n C 0 rfl rfl dX12_init_60 ?_
  refine G_bipush C (v := 30) rfl dX12_init_61 ?_
  obtain ⟨σ57, hs57, h⟩ := stp_elim h
  refine G_newI (N := 30) C na_I (by decide) rfl (Nat.le_of_ble_eq_true rfl) (Nat.le_of_ble_eq_true rfl) (Nat.le_of_ble_eq_true rfl) dX12_init_63 ?_
  rw [← hs57]
  have hc58 : sK σ57 (sZ σ53) = 100 := by rw [hs57]; exact (nwK_K _ _ _ _).trans (if_pos rfl)
  have hc59 : sN σ57 (sZ σ53) = 30 := by rw [hs57]; exact (nwK_N _ _ _ _).trans (if_pos rfl)
  obtain ⟨hc60, h⟩ := ifn h
  obtain ⟨σ61, hs61, h⟩ := stp_elim h
  refine G_putR C fl_X12_31_11 fp_X12_11_16 (Or.inr hn) rfl (fun z => nomatch z) (KO.dy hc60) dX12_init_65 ?_
  rw [← hs61]
  have hc62 : sK σ61 (sZ σ53) = 100 := by rw [hs61]; exact hc58
  have hc63 : sN σ61 (sZ σ53) = 30 := by rw [hs61]; exact hc59
  have hc64 : sK σ61 a0 = 12 := by rw [hs61]; exact hc60
  refine G_aload_n C 0 rfl rfl dX12_init_68 ?_
  refine G_bipush C (v := 30) rfl dX12_init_69 ?_
  obtain ⟨σ65, hs65, h⟩ := stp_elim h
  refine G_newI (N := 30) C na_I (by decide) rfl (Nat.le_of_ble_eq_true rfl) (Nat.le_of_ble_eq_true rfl) (Nat.le_of_ble_eq_true rfl) dX12_init_71 ?_
  rw [← hs65]
  have hc66 : sK σ65 (sZ σ61) = 100 := by rw [hs65]; exact (nwK_K _ _ _ _).trans (if_pos rfl)
  have hc67 : sN σ65 (sZ σ61) = 30 := by rw [hs65]; exact (nwK_N _ _ _ _).trans (if_pos rfl)
  obtain ⟨hc68, h⟩ := ifn h
  obtain ⟨σ69, hs69, h⟩ := stp_elim h
  refine G_putR C fl_X12_34_11 fp_X12_11_17 (Or.inr hn) rfl (fun z => nomatch z) (KO.dy hc68) dX12_init_73 ?_
  rw [← hs69]
  have hc70 : sK σ69 (sZ σ61) = 100 := by rw [hs69]; exact hc66
  have hc71 : sN σ69 (sZ σ61) = 30 := by rw [hs69]; exact hc67
  have hc72 : sK σ69 a0 = 12 := by rw [hs69]; exact hc68
  refine G_aload_n C 0 rfl rfl dX12_init_76 ?_
  refine G_bipush C (v := 30) rfl dX12_init_77 ?_
  obtain ⟨σ73, hs73, h⟩ := stp_elim h
  refine G_newB (N := 30) C na_Z (by decide) rfl (Nat.le_of_ble_eq_true rfl) (Nat.le_of_ble_eq_true rfl) (Nat.le_of_ble_eq_true rfl) dX12_init_79 ?_
  rw [← hs73]
  have hc74 : sK σ73 (sZ σ69) = 102 := by rw [hs73]; exact (nwK_K _ _ _ _).trans (if_pos rfl)
  have hc75 : sN σ73 (sZ σ69) = 30 := by rw [hs73]; exact (nwK_N _ _ _ _).trans (if_pos rfl)
  obtain ⟨hc76, h⟩ := ifn h
  obtain ⟨σ77, hs77, h⟩ := stp_elim h
  refine G_putR C fl_X12_37_11 fp_X12_11_18 (Or.inr hn) rfl (fun z => nomatch z) (KO.dy hc76) dX12_init_81 ?_
  rw [← hs77]
  have hc78 : sK σ77 (sZ σ69) = 102 := by rw [hs77]; exact hc74
  have hc79 : sN σ77 (sZ σ69) = 30 := by rw [hs77]; exact hc75
  have hc80 : sK σ77 a0 = 12 := by rw [hs77]; exact hc76
  refine G_aload_n C 0 rfl rfl dX12_init_84 ?_
  refine G_iconst C (v := 5) rfl dX12_init_85 ?_
  obtain ⟨σ81, hs81, h⟩ := stp_elim h
  refine G_newI (N := 5) C na_I (by decide) rfl (Nat.le_of_ble_eq_true rfl) (Nat.le_of_ble_eq_true rfl) (Nat.le_of_ble_eq_true rfl) dX12_init_86 ?_
  rw [← hs81]
  have hc82 : sK σ81 (sZ σ77) = 100 := by rw [hs81]; exact (nwK_K _ _ _ _).trans (if_pos rfl)
  have hc83 : sN σ81 (sZ σ77) = 5 := by rw [hs81]; exact (nwK_N _ _ _ _).trans (if_pos rfl)
  obtain ⟨hc84, h⟩ := ifn h
  obtain ⟨σ85, hs85, h⟩ := stp_elim h
  refine G_putR C fl_X12_41_11 fp_X12_11_19 (Or.inr hn) rfl (fun z => nomatch z) (KO.dy hc84) dX12_init_88 ?_
  rw [← hs85]
  have hc86 : sK σ85 (sZ σ77) = 100 := by rw [hs85]; exact hc82
  have hc87 : sN σ85 (sZ σ77) = 5 := by rw [hs85]; exact hc83
  have hc88 : sK σ85 a0 = 12 := by rw [hs85]; exact hc84
  refine G_aload_n C 0 rfl rfl dX12_init_91 ?_
  refine G_iconst C (v := 5) rfl dX12_init_92 ?_
  obtain ⟨σ89, hs89, h⟩ := stp_elim h
  refine G_newI (N := 5) C na_I (by decide) rfl (Nat.le_of_ble_eq_true rfl) (Nat.le_of_ble_eq_true rfl) (Nat.le_of_ble_eq_true rfl) dX12_init_93 ?_
  rw [← hs89]
  have hc90 : sK σ89 (sZ σ85) = 100 := by rw [hs89]; exact (nwK_K _ _ _ _).trans (if_pos rfl)
  have hc91 : sN σ89 (sZ σ85) = 5 := by rw [hs89]; exact (nwK_N _ _ _ _).trans (if_pos rfl)
  obtain ⟨hc92, h⟩ := ifn h
  obtain ⟨σ93, hs93, h⟩ := stp_elim h
  refine G_putR C fl_X12_44_11 fp_X12_11_20 (Or.inr hn) rfl (fun z => nomatch z) (KO.dy hc92) dX12_init_95 ?_
  rw [← hs93]
  have hc94 : sK σ93 (sZ σ85) = 100 := by rw [hs93]; exact hc90
  have hc95 : sN σ93 (sZ σ85) = 5 := by rw [hs93]; exact hc91
  have hc96 : sK σ93 a0 = 12 := by rw [hs93]; exact hc92
  refine G_aload_n C 0 rfl rfl dX12_init_98 ?_
  refine G_bipush C (v := 60) rfl dX12_init_99 ?_
  obtain ⟨σ97, hs97, h⟩ := stp_elim h
  refine G_newI (N := 60) C na_I (by decide) rfl (Nat.le_of_ble_eq_true rfl) (Nat.le_of_ble_eq_true rfl) (Nat.le_of_ble_eq_true rfl) dX12_init_101 ?_
  rw [← hs97]
  have hc98 : sK σ97 (sZ σ93) = 100 := by rw [hs97]; exact (nwK_K _ _ _ _).trans (if_pos rfl)
  have hc99 : sN σ97 (sZ σ93) = 60 := by rw [hs97]; exact (nwK_N _ _ _ _).trans (if_pos rfl)
  obtain ⟨hc100, h⟩ := ifn h
  obtain ⟨σ101, hs101, h⟩ := stp_elim h
  refine G_putR C fl_X12_47_11 fp_X12_11_21 (Or.inr hn) rfl (fun z => nomatch z) (KO.dy hc100) dX12_init_103 ?_
  rw [← hs101]
  have hc102 : sK σ101 (sZ σ93) = 100 := by rw [hs101]; exact hc98
  have hc103 : sN σ101 (sZ σ93) = 60 := by rw [hs101]; exact hc99
  have hc104 : sK σ101 a0 = 12 := by rw [hs101]; exact hc100
  refine G_aload_n C 0 rfl rfl dX12_init_106 ?_
  refine G_bipush C (v := 60) rfl dX12_init_107 ?_
  obtain ⟨σ105, hs105, h⟩ := stp_elim h
  refine G_newI (N := 60) C na_I (by decide) rfl (Nat.le_of_ble_eq_true rfl) (Nat.le_of_ble_eq_true rfl) (Nat.le_of_ble_eq_true rfl) dX12_init_109 ?_
  rw [← hs105]
  have hc106 : sK σ105 (sZ σ101) = 100 := by rw [hs105]; exact (nwK_K _ _ _ _).trans (if_pos rfl)
  have hc107 : sN σ105 (sZ σ101) = 60 := by rw [hs105]; exact (nwK_N _ _ _ _).trans (if_pos rfl)
  obtain ⟨hc108, h⟩ := ifn h
  obtain ⟨σ109, hs109, h⟩ := stp_elim h
  refine G_putR C fl_X12_50_11 fp_X12_11_22 (Or.inr hn) rfl (fun z => nomatch z) (KO.dy hc108) dX12_init_111 ?_
  rw [← hs109]
  have hc110 : sK σ109 (sZ σ101) = 100 := by rw [hs109]; exact hc106
  have hc111 : sN σ109 (sZ σ101) = 60 := by rw [hs109]; exact hc107
  have hc112 : sK σ109 a0 = 12 := by rw [hs109]; exact hc108
  refine G_aload_n C 0 rfl rfl dX12_init_114 ?_
  refine G_bipush C (v := 60) rfl dX12_init_115 ?_
  obtain ⟨σ113, hs113, h⟩ := stp_elim h
  refine G_newI (N := 60) C na_I (by decide) rfl (Nat.le_of_ble_eq_true rfl) (Nat.le_of_ble_eq_true rfl) (Nat.le_of_ble_eq_true rfl) dX12_init_117 ?_
  rw [← hs113]
  have hc114 : sK σ113 (sZ σ109) = 100 := by rw [hs113]; exact (nwK_K _ _ _ _).trans (if_pos rfl)
  have hc115 : sN σ113 (sZ σ109) = 60 := by rw [hs113]; exact (nwK_N _ _ _ _).trans (if_pos rfl)
  obtain ⟨hc116, h⟩ := ifn h
  obtain ⟨σ117, hs117, h⟩ := stp_elim h
  refine G_putR C fl_X12_53_11 fp_X12_11_23 (Or.inr hn) rfl (fun z => nomatch z) (KO.dy hc116) dX12_init_119 ?_
  rw [← hs117]
  have hc118 : sK σ117 (sZ σ109) = 100 := by rw [hs117]; exact hc114
  have hc119 : sN σ117 (sZ σ109) = 60 := by rw [hs117]; exact hc115
  have hc120 : sK σ117 a0 = 12 := by rw [hs117]; exact hc116
  refine G_aload_n C 0 rfl rfl dX12_init_122 ?_
  refine G_sipush C (v := 200) rfl dX12_init_123 ?_
  obtain ⟨σ121, hs121, h⟩ := stp_elim h
  refine G_newI (N := 200) C na_I (by decide) rfl (Nat.le_of_ble_eq_true rfl) (Nat.le_of_ble_eq_true rfl) (Nat.le_of_ble_eq_true rfl) dX12_init_126 ?_
  rw [← hs121]
  have hc122 : sK σ121 (sZ σ117) = 100 := by rw [hs121]; exact (nwK_K _ _ _ _).trans (if_pos rfl)
  have hc123 : sN σ121 (sZ σ117) = 200 := by rw [hs121]; exact (nwK_N _ _ _ _).trans (if_pos rfl)
  obtain ⟨hc124, h⟩ := ifn h
  obtain ⟨σ125, hs125, h⟩ := stp_elim h
  refine G_putR C fl_X12_56_11 fp_X12_11_24 (Or.inr hn) rfl (fun z => nomatch z) (KO.dy hc124) dX12_init_128 ?_
  rw [← hs125]
  have hc126 : sK σ125 (sZ σ117) = 100 := by rw [hs125]; exact hc122
  have hc127 : sN σ125 (sZ σ117) = 200 := by rw [hs125]; exact hc123
  have hc128 : sK σ125 a0 = 12 := by rw [hs125]; exact hc124
  refine G_aload_n C 0 rfl rfl dX12_init_131 ?_
  refine G_sipush C (v := 200) rfl dX12_init_132 ?_
  obtain ⟨σ129, hs129, h⟩ := stp_elim h
  refine G_newI (N := 200) C na_I (by decide) rfl (Nat.le_of_ble_eq_true rfl) (Nat.le_of_ble_eq_true rfl) (Nat.le_of_ble_eq_true rfl) dX12_init_135 ?_
  rw [← hs129]
  have hc130 : sK σ129 (sZ σ125) = 100 := by rw [hs129]; exact (nwK_K _ _ _ _).trans (if_pos rfl)
  have hc131 : sN σ129 (sZ σ125) = 200 := by rw [hs129]; exact (nwK_N _ _ _ _).trans (if_pos rfl)
  obtain ⟨hc132, h⟩ := ifn h
  obtain ⟨σ133, hs133, h⟩ := stp_elim h
  refine G_putR C fl_X12_59_11 fp_X12_11_25 (Or.inr hn) rfl (fun z => nomatch z) (KO.dy hc132) dX12_init_137 ?_
  rw [← hs133]
  have hc134 : sK σ133 (sZ σ125) = 100 := by rw [hs133]; exact hc130
  have hc135 : sN σ133 (sZ σ125) = 200 := by rw [hs133]; exact hc131
  have hc136 : sK σ133 a0 = 12 := by rw [hs133]; exact hc132
  refine G_aload_n C 0 rfl rfl dX12_init_140 ?_
  refine G_sipush C (v := 200) rfl dX12_init_141 ?_
  obtain ⟨σ137, hs137, h⟩ := stp_elim h
  refine G_newI (N := 200) C na_I (by decide) rfl (Nat.le_of_ble_eq_true rfl) (Nat.le_of_ble_eq_true rfl) (Nat.le_of_ble_eq_true rfl) dX12_init_144 ?_
  rw [← hs137]
  have hc138 : sK σ137 (sZ σ133) = 100 := by rw [hs137]; exact (nwK_K _ _ _ _).trans (if_pos rfl)
  have hc139 : sN σ137 (sZ σ133) = 200 := by rw [hs137]; exact (nwK_N _ _ _ _).trans (if_pos rfl)
  obtain ⟨hc140, h⟩ := ifn h
  obtain ⟨σ141, hs141, h⟩ := stp_elim h
  refine G_putR C fl_X12_62_11 fp_X12_11_26 (Or.inr hn) rfl (fun z => nomatch z) (KO.dy hc140) dX12_init_146 ?_
  rw [← hs141]
  have hc142 : sK σ141 (sZ σ133) = 100 := by rw [hs141]; exact hc138
  have hc143 : sN σ141 (sZ σ133) = 200 := by rw [hs141]; exact hc139
  have hc144 : sK σ141 a0 = 12 := by rw [hs141]; exact hc140
  refine G_aload_n C 0 rfl rfl dX12_init_149 ?_
  refine G_sipush C (v := 200) rfl dX12_init_150 ?_
  obtain ⟨σ145, hs145, h⟩ := stp_elim h
  refine G_newI (N := 200) C na_I (by decide) rfl (Nat.le_of_ble_eq_true rfl) (Nat.le_of_ble_eq_true rfl) (Nat.le_of_ble_eq_true rfl) dX12_init_153 ?_
  rw [← hs145]
  have hc146 : sK σ145 (sZ σ141) = 100 := by rw [hs145]; exact (nwK_K _ _ _ _).trans (if_pos rfl)
  have hc147 : sN σ145 (sZ σ141) = 200 := by rw [hs145]; exact (nwK_N _ _ _ _).trans (if_pos rfl)
  obtain ⟨hc148, h⟩ := ifn h
  obtain ⟨σ149, hs149, h⟩ := stp_elim h
  refine G_putR C fl_X12_65_11 fp_X12_11_27 (Or.inr hn) rfl (fun z => nomatch z) (KO.dy hc148) dX12_init_155 ?_
  rw [← hs149]
  have hc150 : sK σ149 (sZ σ141) = 100 := by rw [hs149]; exact hc146
  have hc151 : sN σ149 (sZ σ141) = 200 := by rw [hs149]; exact hc147
  have hc152 : sK σ149 a0 = 12 := by rw [hs149]; exact hc148
  refine G_aload_n C 0 rfl rfl dX12_init_158 ?_
  refine G_sipush C (v := 200) rfl dX12_init_159 ?_
  obtain ⟨σ153, hs153, h⟩ := stp_elim h
  refine G_newI (N := 200) C na_I (by decide) rfl (Nat.le_of_ble_eq_true rfl) (Nat.le_of_ble_eq_true rfl) (Nat.le_of_ble_eq_true rfl) dX12_init_162 ?_
  rw [← hs153]
  have hc154 : sK σ153 (sZ σ149) = 100 := by rw [hs153]; exact (nwK_K _ _ _ _).trans (if_pos rfl)
  have hc155 : sN σ153 (sZ σ149) = 200 := by rw [hs153]; exact (nwK_N _ _ _ _).trans (if_pos rfl)
  obtain ⟨hc156, h⟩ := ifn h
  obtain ⟨σ157, hs157, h⟩ := stp_elim h
  refine G_putR C fl_X12_68_11 fp_X12_11_28 (Or.inr hn) rfl (fun z => nomatch z) (KO.dy hc156) dX12_init_164 ?_
  rw [← hs157]
  have hc158 : sK σ157 (sZ σ149) = 100 := by rw [hs157]; exact hc154
  have hc159 : sN σ157 (sZ σ149) = 200 := by rw [hs157]; exact hc155
  have hc160 : sK σ157 a0 = 12 := by rw [hs157]; exact hc156
  refine G_aload_n C 0 rfl rfl dX12_init_167 ?_
  refine G_sipush C (v := 200) rfl dX12_init_168 ?_
  obtain ⟨σ161, hs161, h⟩ := stp_elim h
  refine G_newI (N := 200) C na_I (by decide) rfl (Nat.le_of_ble_eq_true rfl) (Nat.le_of_ble_eq_true rfl) (Nat.le_of_ble_eq_true rfl) dX12_init_171 ?_
  rw [← hs161]
  have hc162 : sK σ161 (sZ σ157) = 100 := by rw [hs161]; exact (nwK_K _ _ _ _).trans (if_pos rfl)
  have hc163 : sN σ161 (sZ σ157) = 200 := by rw [hs161]; exact (nwK_N _ _ _ _).trans (if_pos rfl)
  obtain ⟨hc164, h⟩ := ifn h
  obtain ⟨σ165, hs165, h⟩ := stp_elim h
  refine G_putR C fl_X12_71_11 fp_X12_11_29 (Or.inr hn) rfl (fun z => nomatch z) (KO.dy hc164) dX12_init_173 ?_
  rw [← hs165]
  have hc166 : sK σ165 (sZ σ157) = 100 := by rw [hs165]; exact hc162
  have hc167 : sN σ165 (sZ σ157) = 200 := by rw [hs165]; exact hc163
  have hc168 : sK σ165 a0 = 12 := by rw [hs165]; exact hc164
  refine G_aload_n C 0 rfl rfl dX12_init_176 ?_
  refine G_sipush C (v := 200) rfl dX12_init_177 ?_
  obtain ⟨σ169, hs169, h⟩ := stp_elim h
  refine G_newI (N := 200) C na_I (by decide) rfl (Nat.le_of_ble_eq_true rfl) (Nat.le_of_ble_eq_true rfl) (Nat.le_of_ble_eq_true rfl) dX12_init_180 ?_
  rw [← hs169]
  have hc170 : sK σ169 (sZ σ165) = 100 := by rw [hs169]; exact (nwK_K _ _ _ _).trans (if_pos rfl)
  have hc171 : sN σ169 (sZ σ165) = 200 := by rw [hs169]; exact (nwK_N _ _ _ _).trans (if_pos rfl)
  obtain ⟨hc172, h⟩ := ifn h
  obtain ⟨σ173, hs173, h⟩ := stp_elim h
  refine G_putR C fl_X12_74_11 fp_X12_11_30 (Or.inr hn) rfl (fun z => nomatch z) (KO.dy hc172) dX12_init_182 ?_
  rw [← hs173]
  have hc174 : sK σ173 (sZ σ165) = 100 := by rw [hs173]; exact hc170
  have hc175 : sN σ173 (sZ σ165) = 200 := by rw [hs173]; exact hc171
  have hc176 : sK σ173 a0 = 12 := by rw [hs173]; exact hc172
  refine G_aload_n C 0 rfl rfl dX12_init_185 ?_
  refine G_sipush C (v := 200) rfl dX12_init_186 ?_
  obtain ⟨σ177, hs177, h⟩ := stp_elim h
  refine G_newI (N := 200) C na_I (by decide) rfl (Nat.le_of_ble_eq_true rfl) (Nat.le_of_ble_eq_true rfl) (Nat.le_of_ble_eq_true rfl) dX12_init_189 ?_
  rw [← hs177]
  have hc178 : sK σ177 (sZ σ173) = 100 := by rw [hs177]; exact (nwK_K _ _ _ _).trans (if_pos rfl)
  have hc179 : sN σ177 (sZ σ173) = 200 := by rw [hs177]; exact (nwK_N _ _ _ _).trans (if_pos rfl)
  obtain ⟨hc180, h⟩ := ifn h
  obtain ⟨σ181, hs181, h⟩ := stp_elim h
  refine G_putR C fl_X12_77_11 fp_X12_11_31 (Or.inr hn) rfl (fun z => nomatch z) (KO.dy hc180) dX12_init_191 ?_
  rw [← hs181]
  have hc182 : sK σ181 (sZ σ173) = 100 := by rw [hs181]; exact hc178
  have hc183 : sN σ181 (sZ σ173) = 200 := by rw [hs181]; exact hc179
  have hc184 : sK σ181 a0 = 12 := by rw [hs181]; exact hc180
  refine G_aload_n C 0 rfl rfl dX12_init_194 ?_
  refine G_sipush C (v := 200) rfl dX12_init_195 ?_
  obtain ⟨σ185, hs185, h⟩ := stp_elim h
  refine G_newI (N := 200) C na_I (by decide) rfl (Nat.le_of_ble_eq_true rfl) (Nat.le_of_ble_eq_true rfl) (Nat.le_of_ble_eq_true rfl) dX12_init_198 ?_
  rw [← hs185]
  have hc186 : sK σ185 (sZ σ181) = 100 := by rw [hs185]; exact (nwK_K _ _ _ _).trans (if_pos rfl)
  have hc187 : sN σ185 (sZ σ181) = 200 := by rw [hs185]; exact (nwK_N _ _ _ _).trans (if_pos rfl)
  obtain ⟨hc188, h⟩ := ifn h
  obtain ⟨σ189, hs189, h⟩ := stp_elim h
  refine G_putR C fl_X12_80_11 fp_X12_11_32 (Or.inr hn) rfl (fun z => nomatch z) (KO.dy hc188) dX12_init_200 ?_
  rw [← hs189]
  have hc190 : sK σ189 (sZ σ181) = 100 := by rw [hs189]; exact hc186
  have hc191 : sN σ189 (sZ σ181) = 200 := by rw [hs189]; exact hc187
  have hc192 : sK σ189 a0 = 12 := by rw [hs189]; exact hc188
  refine G_aload_n C 0 rfl rfl dX12_init_203 ?_
  refine G_sipush C (v := 200) rfl dX12_init_204 ?_
  obtain ⟨σ193, hs193, h⟩ := stp_elim h
  refine G_newI (N := 200) C na_I (by decide) rfl (Nat.le_of_ble_eq_true rfl) (Nat.le_of_ble_eq_true rfl) (Nat.le_of_ble_eq_true rfl) dX12_init_207 ?_
  rw [← hs193]
  have hc194 : sK σ193 (sZ σ189) = 100 := by rw [hs193]; exact (nwK_K _ _ _ _).trans (if_pos rfl)
  have hc195 : sN σ193 (sZ σ189) = 200 := by rw [hs193]; exact (nwK_N _ _ _ _).trans (if_pos rfl)
  obtain ⟨hc196, h⟩ := ifn h
  obtain ⟨σ197, hs197, h⟩ := stp_elim h
  refine G_putR C fl_X12_83_11 fp_X12_11_33 (Or.inr hn) rfl (fun z => nomatch z) (KO.dy hc196) dX12_init_209 ?_
  rw [← hs197]
  have hc198 : sK σ197 (sZ σ189) = 100 := by rw [hs197]; exact hc194
  have hc199 : sN σ197 (sZ σ189) = 200 := by rw [hs197]; exact hc195
  have hc200 : sK σ197 a0 = 12 := by rw [hs197]; exact hc196
  refine G_aload_n C 0 rfl rfl dX12_init_212 ?_
  refine G_sipush C (v := 200) rfl dX12_init_213 ?_
  obtain ⟨σ201, hs201, h⟩ := stp_elim h
  refine G_newI (N := 200) C na_I (by decide) rfl (Nat.le_of_ble_eq_true rfl) (Nat.le_of_ble_eq_true rfl) (Nat.le_of_ble_eq_true rfl) dX12_init_216 ?_
  rw [← hs201]
  have hc202 : sK σ201 (sZ σ197) = 100 := by rw [hs201]; exact (nwK_K _ _ _ _).trans (if_pos rfl)
  have hc203 : sN σ201 (sZ σ197) = 200 := by rw [hs201]; exact (nwK_N _ _ _ _).trans (if_pos rfl)
  obtain ⟨hc204, h⟩ := ifn h
  obtain ⟨σ205, hs205, h⟩ := stp_elim h
  refine G_putR C fl_X12_86_11 fp_X12_11_34 (Or.inr hn) rfl (fun z => nomatch z) (KO.dy hc204) dX12_init_218 ?_
  rw [← hs205]
  have hc206 : sK σ205 (sZ σ197) = 100 := by rw [hs205]; exact hc202
  have hc207 : sN σ205 (sZ σ197) = 200 := by rw [hs205]; exact hc203
  have hc208 : sK σ205 a0 = 12 := by rw [hs205]; exact hc204
  refine G_aload_n C 0 rfl rfl dX12_init_221 ?_
  refine G_sipush C (v := 200) rfl dX12_init_222 ?_
  obtain ⟨σ209, hs209, h⟩ := stp_elim h
  refine G_newI (N := 200) C na_I (by decide) rfl (Nat.le_of_ble_eq_true rfl) (Nat.le_of_ble_eq_true rfl) (Nat.le_of_ble_eq_true rfl) dX12_init_225 ?_
  rw [← hs209]
  have hc210 : sK σ209 (sZ σ205) = 100 := by rw [hs209]; exact (nwK_K _ _ _ _).trans (if_pos rfl)
  have hc211 : sN σ209 (sZ σ205) = 200 := by rw [hs209]; exact (nwK_N _ _ _ _).trans (if_pos rfl)
  obtain ⟨hc212, h⟩ := ifn h
  obtain ⟨σ213, hs213, h⟩ := stp_elim h
  refine G_putR C fl_X12_89_11 fp_X12_11_35 (Or.inr hn) rfl (fun z => nomatch z) (KO.dy hc212) dX12_init_227 ?_
  rw [← hs213]
  have hc214 : sK σ213 (sZ σ205) = 100 := by rw [hs213]; exact hc210
  have hc215 : sN σ213 (sZ σ205) = 200 := by rw [hs213]; exact hc211
  have hc216 : sK σ213 a0 = 12 := by rw [hs213]; exact hc212
  refine G_aload_n C 0 rfl rfl dX12_init_230 ?_
  refine G_sipush C (v := 200) rfl dX12_init_231 ?_
  obtain ⟨σ217, hs217, h⟩ := stp_elim h
  refine G_newI (N := 200) C na_I (by decide) rfl (Nat.le_of_ble_eq_true rfl) (Nat.le_of_ble_eq_true rfl) (Nat.le_of_ble_eq_true rfl) dX12_init_234 ?_
  rw [← hs217]
  have hc218 : sK σ217 (sZ σ213) = 100 := by rw [hs217]; exact (nwK_K _ _ _ _).trans (if_pos rfl)
  have hc219 : sN σ217 (sZ σ213) = 200 := by rw [hs217]; exact (nwK_N _ _ _ _).trans (if_pos rfl)
  obtain ⟨hc220, h⟩ := ifn h
  obtain ⟨σ221, hs221, h⟩ := stp_elim h
  refine G_putR C fl_X12_92_11 fp_X12_11_36 (Or.inr hn) rfl (fun z => nomatch z) (KO.dy hc220) dX12_init_236 ?_
  rw [← hs221]
  have hc222 : sK σ221 (sZ σ213) = 100 := by rw [hs221]; exact hc218
  have hc223 : sN σ221 (sZ σ213) = 200 := by rw [hs221]; exact hc219
  have hc224 : sK σ221 a0 = 12 := by rw [hs221]; exact hc220
  refine G_aload_n C 0 rfl rfl dX12_init_239 ?_
  refine G_sipush C (v := 200) rfl dX12_init_240 ?_
  obtain ⟨σ225, hs225, h⟩ := stp_elim h
  refine G_newI (N := 200) C na_I (by decide) rfl (Nat.le_of_ble_eq_true rfl) (Nat.le_of_ble_eq_true rfl) (Nat.le_of_ble_eq_true rfl) dX12_init_243 ?_
  rw [← hs225]
  have hc226 : sK σ225 (sZ σ221) = 100 := by rw [hs225]; exact (nwK_K _ _ _ _).trans (if_pos rfl)
  have hc227 : sN σ225 (sZ σ221) = 200 := by rw [hs225]; exact (nwK_N _ _ _ _).trans (if_pos rfl)
  obtain ⟨hc228, h⟩ := ifn h
  obtain ⟨σ229, hs229, h⟩ := stp_elim h
  refine G_putR C fl_X12_95_11 fp_X12_11_37 (Or.inr hn) rfl (fun z => nomatch z) (KO.dy hc228) dX12_init_245 ?_
  rw [← hs229]
  have hc230 : sK σ229 (sZ σ221) = 100 := by rw [hs229]; exact hc226
  have hc231 : sN σ229 (sZ σ221) = 200 := by rw [hs229]; exact hc227
  have hc232 : sK σ229 a0 = 12 := by rw [hs229]; exact hc228
  refine G_aload_n C 0 rfl rfl dX12_init_248 ?_
  refine G_sipush C (v := 500) rfl dX12_init_249 ?_
  obtain ⟨σ233, hs233, h⟩ := stp_elim h
  refine G_newI (N := 500) C na_I (by decide) rfl (Nat.le_of_ble_eq_true rfl) (Nat.le_of_ble_eq_true rfl) (Nat.le_of_ble_eq_true rfl) dX12_init_252 ?_
  rw [← hs233]
  have hc234 : sK σ233 (sZ σ229) = 100 := by rw [hs233]; exact (nwK_K _ _ _ _).trans (if_pos rfl)
  have hc235 : sN σ233 (sZ σ229) = 500 := by rw [hs233]; exact (nwK_N _ _ _ _).trans (if_pos rfl)
  obtain ⟨hc236, h⟩ := ifn h
  obtain ⟨σ237, hs237, h⟩ := stp_elim h
  refine G_putR C fl_X12_98_11 fp_X12_11_38 (Or.inr hn) rfl (fun z => nomatch z) (KO.dy hc236) dX12_init_254 ?_
  rw [← hs237]
  have hc238 : sK σ237 (sZ σ229) = 100 := by rw [hs237]; exact hc234
  have hc239 : sN σ237 (sZ σ229) = 500 := by rw [hs237]; exact hc235
  have hc240 : sK σ237 a0 = 12 := by rw [hs237]; exact hc236
  refine G_aload_n C 0 rfl rfl dX12_init_257 ?_
  refine G_iconst C (v := -1) rfl dX12_init_258 ?_
  obtain ⟨σ241, hs241, h⟩ := stp_elim h
  refine G_putI C fl_X12_101_11 fp_X12_11_41 (Or.inl rfl) (Or.inl rfl) (KO.dy hc240) dX12_init_259 ?_
  rw [← hs241]
  have hc242 : sK σ241 (sZ σ229) = 100 := by rw [hs241]; exact hc238
  have hc243 : sN σ241 (sZ σ229) = 500 := by rw [hs241]; exact hc239
  have hc244 : sK σ241 a0 = 12 := by rw [hs241]; exact hc240
  refine G_aload_n C 0 rfl rfl dX12_init_262 ?_
  refine G_bipush C (v := 13) rfl dX12_init_263 ?_
  obtain ⟨σ245, hs245, h⟩ := stp_elim h
  refine G_newI (N := 13) C na_I (by decide) rfl (Nat.le_of_ble_eq_true rfl) (Nat.le_of_ble_eq_true rfl) (Nat.le_of_ble_eq_true rfl) dX12_init_265 ?_
  rw [← hs245]
  have hc246 : sK σ245 (sZ σ241) = 100 := by rw [hs245]; exact (nwK_K _ _ _ _).trans (if_pos rfl)
  have hc247 : sN σ245 (sZ σ241) = 13 := by rw [hs245]; exact (nwK_N _ _ _ _).trans (if_pos rfl)
  obtain ⟨hc248, h⟩ := ifn h
  obtain ⟨σ249, hs249, h⟩ := stp_elim h
  refine G_putR C fl_X12_105_11 fp_X12_11_55 (Or.inr hn) rfl (fun z => nomatch z) (KO.dy hc248) dX12_init_267 ?_
  rw [← hs249]
  have hc250 : sK σ249 (sZ σ241) = 100 := by rw [hs249]; exact hc246
  have hc251 : sN σ249 (sZ σ241) = 13 := by rw [hs249]; exact hc247
  have hc252 : sK σ249 a0 = 12 := by rw [hs249]; exact hc248
  refine G_aload_n C 0 rfl rfl dX12_init_270 ?_
  refine G_bipush C (v := 13) rfl dX12_init_271 ?_
  obtain ⟨σ253, hs253, h⟩ := stp_elim h
  refine G_newI (N := 13) C na_I (by decide) rfl (Nat.le_of_ble_eq_true rfl) (Nat.le_of_ble_eq_true rfl) (Nat.le_of_ble_eq_true rfl) dX12_init_273 ?_
  rw [← hs253]
  have hc254 : sK σ253 (sZ σ249) = 100 := by rw [hs253]; exact (nwK_K _ _ _ _).trans (if_pos rfl)
  have hc255 : sN σ253 (sZ σ249) = 13 := by rw [hs253]; exact (nwK_N _ _ _ _).trans (if_pos rfl)
  obtain ⟨hc256, h⟩ := ifn h
  obtain ⟨σ257, hs257, h⟩ := stp_elim h
  refine G_putR C fl_X12_108_11 fp_X12_11_56 (Or.inr hn) rfl (fun z => nomatch z) (KO.dy hc256) dX12_init_275 ?_
  rw [← hs257]
  have hc258 : sK σ257 (sZ σ249) = 100 := by rw [hs257]; exact hc254
  have hc259 : sN σ257 (sZ σ249) = 13 := by rw [hs257]; exact hc255
  have hc260 : sK σ257 a0 = 12 := by rw [hs257]; exact hc256
  refine G_aload_n C 0 rfl rfl dX12_init_278 ?_
  refine G_bipush C (v := 13) rfl dX12_init_279 ?_
  obtain ⟨σ261, hs261, h⟩ := stp_elim h
  refine G_newI (N := 13) C na_I (by decide) rfl (Nat.le_of_ble_eq_true rfl) (Nat.le_of_ble_eq_true rfl) (Nat.le_of_ble_eq_true rfl) dX12_init_281 ?_
  rw [← hs261]
  have hc262 : sK σ261 (sZ σ257) = 100 := by rw [hs261]; exact (nwK_K _ _ _ _).trans (if_pos rfl)
  have hc263 : sN σ261 (sZ σ257) = 13 := by rw [hs261]; exact (nwK_N _ _ _ _).trans (if_pos rfl)
  obtain ⟨hc264, h⟩ := ifn h
  obtain ⟨σ265, hs265, h⟩ := stp_elim h
  refine G_putR C fl_X12_111_11 fp_X12_11_57 (Or.inr hn) rfl (fun z => nomatch z) (KO.dy hc264) dX12_init_283 ?_
  rw [← hs265]
  have hc266 : sK σ265 (sZ σ257) = 100 := by rw [hs265]; exact hc262
  have hc267 : sN σ265 (sZ σ257) = 13 := by rw [hs265]; exact hc263
  have hc268 : sK σ265 a0 = 12 := by rw [hs265]; exact hc264
  refine G_aload_n C 0 rfl rfl dX12_init_286 ?_
  refine G_bipush C (v := 13) rfl dX12_init_287 ?_
  obtain ⟨σ269, hs269, h⟩ := stp_elim h
  refine G_newI (N := 13) C na_I (by decide) rfl (Nat.le_of_ble_eq_true rfl) (Nat.le_of_ble_eq_true rfl) (Nat.le_of_ble_eq_true rfl) dX12_init_289 ?_
  rw [← hs269]
  have hc270 : sK σ269 (sZ σ265) = 100 := by rw [hs269]; exact (nwK_K _ _ _ _).trans (if_pos rfl)
  have hc271 : sN σ269 (sZ σ265) = 13 := by rw [hs269]; exact (nwK_N _ _ _ _).trans (if_pos rfl)
  obtain ⟨hc272, h⟩ := ifn h
  obtain ⟨σ273, hs273, h⟩ := stp_elim h
  refine G_putR C fl_X12_114_11 fp_X12_11_58 (Or.inr hn) rfl (fun z => nomatch z) (KO.dy hc272) dX12_init_291 ?_
  rw [← hs273]
  have hc274 : sK σ273 (sZ σ265) = 100 := by rw [hs273]; exact hc270
  have hc275 : sN σ273 (sZ σ265) = 13 := by rw [hs273]; exact hc271
  have hc276 : sK σ273 a0 = 12 := by rw [hs273]; exact hc272
  refine G_aload_n C 0 rfl rfl dX12_init_294 ?_
  refine G_bipush C (v := 13) rfl dX12_init_295 ?_
  obtain ⟨σ277, hs277, h⟩ := stp_elim h
  refine G_newI (N := 13) C na_I (by decide) rfl (Nat.le_of_ble_eq_true rfl) (Nat.le_of_ble_eq_true rfl) (Nat.le_of_ble_eq_true rfl) dX12_init_297 ?_
  rw [← hs277]
  have hc278 : sK σ277 (sZ σ273) = 100 := by rw [hs277]; exact (nwK_K _ _ _ _).trans (if_pos rfl)
  have hc279 : sN σ277 (sZ σ273) = 13 := by rw [hs277]; exact (nwK_N _ _ _ _).trans (if_pos rfl)
  obtain ⟨hc280, h⟩ := ifn h
  obtain ⟨σ281, hs281, h⟩ := stp_elim h
  refine G_putR C fl_X12_117_11 fp_X12_11_59 (Or.inr hn) rfl (fun z => nomatch z) (KO.dy hc280) dX12_init_299 ?_
  rw [← hs281]
  have hc282 : sK σ281 (sZ σ273) = 100 := by rw [hs281]; exact hc278
  have hc283 : sN σ281 (sZ σ273) = 13 := by rw [hs281]; exact hc279
  have hc284 : sK σ281 a0 = 12 := by rw [hs281]; exact hc280
  refine G_aload_n C 0 rfl rfl dX12_init_302 ?_
  refine G_bipush C (v := 13) rfl dX12_init_303 ?_
  obtain ⟨σ285, hs285, h⟩ := stp_elim h
  refine G_newI (N := 13) C na_I (by decide) rfl (Nat.le_of_ble_eq_true rfl) (Nat.le_of_ble_eq_true rfl) (Nat.le_of_ble_eq_true rfl) dX12_init_305 ?_
  rw [← hs285]
  have hc286 : sK σ285 (sZ σ281) = 100 := by rw [hs285]; exact (nwK_K _ _ _ _).trans (if_pos rfl)
  have hc287 : sN σ285 (sZ σ281) = 13 := by rw [hs285]; exact (nwK_N _ _ _ _).trans (if_pos rfl)
  obtain ⟨hc288, h⟩ := ifn h
  obtain ⟨σ289, hs289, h⟩ := stp_elim h
  refine G_putR C fl_X12_120_11 fp_X12_11_60 (Or.inr hn) rfl (fun z => nomatch z) (KO.dy hc288) dX12_init_307 ?_
  rw [← hs289]
  have hc290 : sK σ289 (sZ σ281) = 100 := by rw [hs289]; exact hc286
  have hc291 : sN σ289 (sZ σ281) = 13 := by rw [hs289]; exact hc287
  have hc292 : sK σ289 a0 = 12 := by rw [hs289]; exact hc288
  refine G_aload_n C 0 rfl rfl dX12_init_310 ?_
  refine G_bipush C (v := 13) rfl dX12_init_311 ?_
  obtain ⟨σ293, hs293, h⟩ := stp_elim h
  refine G_newI (N := 13) C na_I (by decide) rfl (Nat.le_of_ble_eq_true rfl) (Nat.le_of_ble_eq_true rfl) (Nat.le_of_ble_eq_true rfl) dX12_init_313 ?_
  rw [← hs293]
  have hc294 : sK σ293 (sZ σ289) = 100 := by rw [hs293]; exact (nwK_K _ _ _ _).trans (if_pos rfl)
  have hc295 : sN σ293 (sZ σ289) = 13 := by rw [hs293]; exact (nwK_N _ _ _ _).trans (if_pos rfl)
  obtain ⟨hc296, h⟩ := ifn h
  obtain ⟨σ297, hs297, h⟩ := stp_elim h
  refine G_putR C fl_X12_123_11 fp_X12_11_61 (Or.inr hn) rfl (fun z => nomatch z) (KO.dy hc296) dX12_init_315 ?_
  rw [← hs297]
  have hc298 : sK σ297 (sZ σ289) = 100 := by rw [hs297]; exact hc294
  have hc299 : sN σ297 (sZ σ289) = 13 := by rw [hs297]; exact hc295
  have hc300 : sK σ297 a0 = 12 := by rw [hs297]; exact hc296
  refine G_aload_n C 0 rfl rfl dX12_init_318 ?_
  refine G_bipush C (v := 13) rfl dX12_init_319 ?_
  obtain ⟨σ301, hs301, h⟩ := stp_elim h
  refine G_newI (N := 13) C na_I (by decide) rfl (Nat.le_of_ble_eq_true rfl) (Nat.le_of_ble_eq_true rfl) (Nat.le_of_ble_eq_true rfl) dX12_init_321 ?_
  rw [← hs301]
  have hc302 : sK σ301 (sZ σ297) = 100 := by rw [hs301]; exact (nwK_K _ _ _ _).trans (if_pos rfl)
  have hc303 : sN σ301 (sZ σ297) = 13 := by rw [hs301]; exact (nwK_N _ _ _ _).trans (if_pos rfl)
  obtain ⟨hc304, h⟩ := ifn h
  obtain ⟨σ305, hs305, h⟩ := stp_elim h
  refine G_putR C fl_X12_126_11 fp_X12_11_62 (Or.inr hn) rfl (fun z => nomatch z) (KO.dy hc304) dX12_init_323 ?_
  rw [← hs305]
  have hc306 : sK σ305 (sZ σ297) = 100 := by rw [hs305]; exact hc302
  have hc307 : sN σ305 (sZ σ297) = 13 := by rw [hs305]; exact hc303
  have hc308 : sK σ305 a0 = 12 := by rw [hs305]; exact hc304
  refine G_aload_n C 0 rfl rfl dX12_init_326 ?_
  refine G_bipush C (v := 13) rfl dX12_init_327 ?_
  obtain ⟨σ309, hs309, h⟩ := stp_elim h
  refine G_newI (N := 13) C na_I (by decide) rfl (Nat.le_of_ble_eq_true rfl) (Nat.le_of_ble_eq_true rfl) (Nat.le_of_ble_eq_true rfl) dX12_init_329 ?_
  rw [← hs309]
  have hc310 : sK σ309 (sZ σ305) = 100 := by rw [hs309]; exact (nwK_K _ _ _ _).trans (if_pos rfl)
  have hc311 : sN σ309 (sZ σ305) = 13 := by rw [hs309]; exact (nwK_N _ _ _ _).trans (if_pos rfl)
  obtain ⟨hc312, h⟩ := ifn h
  obtain ⟨σ313, hs313, h⟩ := stp_elim h
  refine G_putR C fl_X12_129_11 fp_X12_11_63 (Or.inr hn) rfl (fun z => nomatch z) (KO.dy hc312) dX12_init_331 ?_
  rw [← hs313]
  have hc314 : sK σ313 (sZ σ305) = 100 := by rw [hs313]; exact hc310
  have hc315 : sN σ313 (sZ σ305) = 13 := by rw [hs313]; exact hc311
  have hc316 : sK σ313 a0 = 12 := by rw [hs313]; exact hc312
  refine G_aload_n C 0 rfl rfl dX12_init_334 ?_
  refine G_bipush C (v := 13) rfl dX12_init_335 ?_
  obtain ⟨σ317, hs317, h⟩ := stp_elim h
  refine G_newI (N := 13) C na_I (by decide) rfl (Nat.le_of_ble_eq_true rfl) (Nat.le_of_ble_eq_true rfl) (Nat.le_of_ble_eq_true rfl) dX12_init_337 ?_
  rw [← hs317]
  have hc318 : sK σ317 (sZ σ313) = 100 := by rw [hs317]; exact (nwK_K _ _ _ _).trans (if_pos rfl)
  have hc319 : sN σ317 (sZ σ313) = 13 := by rw [hs317]; exact (nwK_N _ _ _ _).trans (if_pos rfl)
  obtain ⟨hc320, h⟩ := ifn h
  obtain ⟨σ321, hs321, h⟩ := stp_elim h
  refine G_putR C fl_X12_132_11 fp_X12_11_64 (Or.inr hn) rfl (fun z => nomatch z) (KO.dy hc320) dX12_init_339 ?_
  rw [← hs321]
  have hc322 : sK σ321 (sZ σ313) = 100 := by rw [hs321]; exact hc318
  have hc323 : sN σ321 (sZ σ313) = 13 := by rw [hs321]; exact hc319
  have hc324 : sK σ321 a0 = 12 := by rw [hs321]; exact hc320
  refine G_aload_n C 0 rfl rfl dX12_init_342 ?_
  refine G_bipush C (v := 13) rfl dX12_init_343 ?_
  obtain ⟨σ325, hs325, h⟩ := stp_elim h
  refine G_newI (N := 13) C na_I (by decide) rfl (Nat.le_of_ble_eq_true rfl) (Nat.le_of_ble_eq_true rfl) (Nat.le_of_ble_eq_true rfl) dX12_init_345 ?_
  rw [← hs325]
  have hc326 : sK σ325 (sZ σ321) = 100 := by rw [hs325]; exact (nwK_K _ _ _ _).trans (if_pos rfl)
  have hc327 : sN σ325 (sZ σ321) = 13 := by rw [hs325]; exact (nwK_N _ _ _ _).trans (if_pos rfl)
  obtain ⟨hc328, h⟩ := ifn h
  obtain ⟨σ329, hs329, h⟩ := stp_elim h
  refine G_putR C fl_X12_135_11 fp_X12_11_65 (Or.inr hn) rfl (fun z => nomatch z) (KO.dy hc328) dX12_init_347 ?_
  rw [← hs329]
  have hc330 : sK σ329 (sZ σ321) = 100 := by rw [hs329]; exact hc326
  have hc331 : sN σ329 (sZ σ321) = 13 := by rw [hs329]; exact hc327
  have hc332 : sK σ329 a0 = 12 := by rw [hs329]; exact hc328
  refine G_aload_n C 0 rfl rfl dX12_init_350 ?_
  refine G_bipush C (v := 13) rfl dX12_init_351 ?_
  obtain ⟨σ333, hs333, h⟩ := stp_elim h
  refine G_newI (N := 13) C na_I (by decide) rfl (Nat.le_of_ble_eq_true rfl) (Nat.le_of_ble_eq_true rfl) (Nat.le_of_ble_eq_true rfl) dX12_init_353 ?_
  rw [← hs333]
  have hc334 : sK σ333 (sZ σ329) = 100 := by rw [hs333]; exact (nwK_K _ _ _ _).trans (if_pos rfl)
  have hc335 : sN σ333 (sZ σ329) = 13 := by rw [hs333]; exact (nwK_N _ _ _ _).trans (if_pos rfl)
  obtain ⟨hc336, h⟩ := ifn h
  obtain ⟨σ337, hs337, h⟩ := stp_elim h
  refine G_putR C fl_X12_138_11 fp_X12_11_66 (Or.inr hn) rfl (fun z => nomatch z) (KO.dy hc336) dX12_init_355 ?_
  rw [← hs337]
  have hc338 : sK σ337 (sZ σ329) = 100 := by rw [hs337]; exact hc334
  have hc339 : sN σ337 (sZ σ329) = 13 := by rw [hs337]; exact hc335
  have hc340 : sK σ337 a0 = 12 := by rw [hs337]; exact hc336
  refine G_aload_n C 0 rfl rfl dX12_init_358 ?_
  refine G_sipush C (v := 208) rfl dX12_init_359 ?_
  obtain ⟨σ341, hs341, h⟩ := stp_elim h
  refine G_newI (N := 208) C na_I (by decide) rfl (Nat.le_of_ble_eq_true rfl) (Nat.le_of_ble_eq_true rfl) (Nat.le_of_ble_eq_true rfl) dX12_init_362 ?_
  rw [← hs341]
  have hc342 : sK σ341 (sZ σ337) = 100 := by rw [hs341]; exact (nwK_K _ _ _ _).trans (if_pos rfl)
  have hc343 : sN σ341 (sZ σ337) = 208 := by rw [hs341]; exact (nwK_N _ _ _ _).trans (if_pos rfl)
  obtain ⟨hc344, h⟩ := ifn h
  obtain ⟨σ345, hs345, h⟩ := stp_elim h
  refine G_putR C fl_X12_141_11 fp_X12_11_67 (Or.inr hn) rfl (fun z => nomatch z) (KO.dy hc344) dX12_init_364 ?_
  rw [← hs345]
  have hc346 : sK σ345 (sZ σ337) = 100 := by rw [hs345]; exact hc342
  have hc347 : sN σ345 (sZ σ337) = 208 := by rw [hs345]; exact hc343
  have hc348 : sK σ345 a0 = 12 := by rw [hs345]; exact hc344
  refine G_aload_n C 0 rfl rfl dX12_init_367 ?_
  refine G_sipush C (v := 208) rfl dX12_init_368 ?_
  obtain ⟨σ349, hs349, h⟩ := stp_elim h
  refine G_newI (N := 208) C na_I (by decide) rfl (Nat.le_of_ble_eq_true rfl) (Nat.le_of_ble_eq_true rfl) (Nat.le_of_ble_eq_true rfl) dX12_init_371 ?_
  rw [← hs349]
  have hc350 : sK σ349 (sZ σ345) = 100 := by rw [hs349]; exact (nwK_K _ _ _ _).trans (if_pos rfl)
  have hc351 : sN σ349 (sZ σ345) = 208 := by rw [hs349]; exact (nwK_N _ _ _ _).trans (if_pos rfl)
  obtain ⟨hc352, h⟩ := ifn h
  obtain ⟨σ353, hs353, h⟩ := stp_elim h
  refine G_putR C fl_X12_144_11 fp_X12_11_68 (Or.inr hn) rfl (fun z => nomatch z) (KO.dy hc352) dX12_init_373 ?_
  rw [← hs353]
  have hc354 : sK σ353 (sZ σ345) = 100 := by rw [hs353]; exact hc350
  have hc355 : sN σ353 (sZ σ345) = 208 := by rw [hs353]; exact hc351
  have hc356 : sK σ353 a0 = 12 := by rw [hs353]; exact hc352
  refine G_aload_n C 0 rfl rfl dX12_init_376 ?_
  refine G_sipush C (v := 15800) rfl dX12_init_377 ?_
  obtain ⟨σ357, hs357, h⟩ := stp_elim h
  refine G_newI (N := 15800) C na_I (by decide) rfl (Nat.le_of_ble_eq_true rfl) (Nat.le_of_ble_eq_true rfl) (Nat.le_of_ble_eq_true rfl) dX12_init_380 ?_
  rw [← hs357]
  have hc358 : sK σ357 (sZ σ353) = 100 := by rw [hs357]; exact (nwK_K _ _ _ _).trans (if_pos rfl)
  have hc359 : sN σ357 (sZ σ353) = 15800 := by rw [hs357]; exact (nwK_N _ _ _ _).trans (if_pos rfl)
  obtain ⟨hc360, h⟩ := ifn h
  obtain ⟨σ361, hs361, h⟩ := stp_elim h
  refine G_putR C fl_X12_147_11 fp_X12_11_69 (Or.inr hn) rfl (fun z => nomatch z) (KO.dy hc360) dX12_init_382 ?_
  rw [← hs361]
  have hc362 : sK σ361 (sZ σ353) = 100 := by rw [hs361]; exact hc358
  have hc363 : sN σ361 (sZ σ353) = 15800 := by rw [hs361]; exact hc359
  have hc364 : sK σ361 a0 = 12 := by rw [hs361]; exact hc360
  refine G_aload_n C 0 rfl rfl dX12_init_385 ?_
  refine G_sipush C (v := 520) rfl dX12_init_386 ?_
  obtain ⟨σ365, hs365, h⟩ := stp_elim h
  refine G_newI (N := 520) C na_I (by decide) rfl (Nat.le_of_ble_eq_true rfl) (Nat.le_of_ble_eq_true rfl) (Nat.le_of_ble_eq_true rfl) dX12_init_389 ?_
  rw [← hs365]
  have hc366 : sK σ365 (sZ σ361) = 100 := by rw [hs365]; exact (nwK_K _ _ _ _).trans (if_pos rfl)
  have hc367 : sN σ365 (sZ σ361) = 520 := by rw [hs365]; exact (nwK_N _ _ _ _).trans (if_pos rfl)
  obtain ⟨hc368, h⟩ := ifn h
  obtain ⟨σ369, hs369, h⟩ := stp_elim h
  refine G_putR C fl_X12_150_11 fp_X12_11_70 (Or.inr hn) rfl (fun z => nomatch z) (KO.dy hc368) dX12_init_391 ?_
  rw [← hs369]
  have hc370 : sK σ369 (sZ σ361) = 100 := by rw [hs369]; exact hc366
  have hc371 : sN σ369 (sZ σ361) = 520 := by rw [hs369]; exact hc367
  have hc372 : sK σ369 a0 = 12 := by rw [hs369]; exact hc368
  refine G_aload_n C 0 rfl rfl dX12_init_394 ?_
  refine G_bipush C (v := 9) rfl dX12_init_395 ?_
  obtain ⟨σ373, hs373, h⟩ := stp_elim h
  refine G_newB (N := 9) C na_Z (by decide) rfl (Nat.le_of_ble_eq_true rfl) (Nat.le_of_ble_eq_true rfl) (Nat.le_of_ble_eq_true rfl) dX12_init_397 ?_
  rw [← hs373]
  have hc374 : sK σ373 (sZ σ369) = 102 := by rw [hs373]; exact (nwK_K _ _ _ _).trans (if_pos rfl)
  have hc375 : sN σ373 (sZ σ369) = 9 := by rw [hs373]; exact (nwK_N _ _ _ _).trans (if_pos rfl)
  obtain ⟨hc376, h⟩ := ifn h
  obtain ⟨σ377, hs377, h⟩ := stp_elim h
  refine G_putR C fl_X12_153_11 fp_X12_11_71 (Or.inr hn) rfl (fun z => nomatch z) (KO.dy hc376) dX12_init_399 ?_
  rw [← hs377]
  have hc378 : sK σ377 (sZ σ369) = 102 := by rw [hs377]; exact hc374
  have hc379 : sN σ377 (sZ σ369) = 9 := by rw [hs377]; exact hc375
  have hc380 : sK σ377 a0 = 12 := by rw [hs377]; exact hc376
  refine G_aload_n C 0 rfl rfl dX12_init_402 ?_
  refine G_bipush C (v := 30) rfl dX12_init_403 ?_
  obtain ⟨σ381, hs381, h⟩ := stp_elim h
  refine G_newI (N := 30) C na_I (by decide) rfl (Nat.le_of_ble_eq_true rfl) (Nat.le_of_ble_eq_true rfl) (Nat.le_of_ble_eq_true rfl) dX12_init_405 ?_
  rw [← hs381]
  have hc382 : sK σ381 (sZ σ377) = 100 := by rw [hs381]; exact (nwK_K _ _ _ _).trans (if_pos rfl)
  have hc383 : sN σ381 (sZ σ377) = 30 := by rw [hs381]; exact (nwK_N _ _ _ _).trans (if_pos rfl)
  obtain ⟨hc384, h⟩ := ifn h
  obtain ⟨σ385, hs385, h⟩ := stp_elim h
  refine G_putR C fl_X12_156_11 fp_X12_11_74 (Or.inr hn) rfl (fun z => nomatch z) (KO.dy hc384) dX12_init_407 ?_
  rw [← hs385]
  have hc386 : sK σ385 (sZ σ377) = 100 := by rw [hs385]; exact hc382
  have hc387 : sN σ385 (sZ σ377) = 30 := by rw [hs385]; exact hc383
  have hc388 : sK σ385 a0 = 12 := by rw [hs385]; exact hc384
  refine G_aload_n C 0 rfl rfl dX12_init_410 ?_
  refine G_bipush C (v := 30) rfl dX12_init_411 ?_
  obtain ⟨σ389, hs389, h⟩ := stp_elim h
  refine G_newI (N := 30) C na_I (by decide) rfl (Nat.le_of_ble_eq_true rfl) (Nat.le_of_ble_eq_true rfl) (Nat.le_of_ble_eq_true rfl) dX12_init_413 ?_
  rw [← hs389]
  have hc390 : sK σ389 (sZ σ385) = 100 := by rw [hs389]; exact (nwK_K _ _ _ _).trans (if_pos rfl)
  have hc391 : sN σ389 (sZ σ385) = 30 := by rw [hs389]; exact (nwK_N _ _ _ _).trans (if_pos rfl)
  obtain ⟨hc392, h⟩ := ifn h
  obtain ⟨σ393, hs393, h⟩ := stp_elim h
  refine G_putR C fl_X12_159_11 fp_X12_11_75 (Or.inr hn) rfl (fun z => nomatch z) (KO.dy hc392) dX12_init_415 ?_
  rw [← hs393]
  have hc394 : sK σ393 (sZ σ385) = 100 := by rw [hs393]; exact hc390
  have hc395 : sN σ393 (sZ σ385) = 30 := by rw [hs393]; exact hc391
  have hc396 : sK σ393 a0 = 12 := by rw [hs393]; exact hc392
  refine G_aload_n C 0 rfl rfl dX12_init_418 ?_
  refine G_bipush C (v := 31) rfl dX12_init_419 ?_
  obtain ⟨σ397, hs397, h⟩ := stp_elim h
  refine G_newI (N := 31) C na_I (by decide) rfl (Nat.le_of_ble_eq_true rfl) (Nat.le_of_ble_eq_true rfl) (Nat.le_of_ble_eq_true rfl) dX12_init_421 ?_
  rw [← hs397]
  have hc398 : sK σ397 (sZ σ393) = 100 := by rw [hs397]; exact (nwK_K _ _ _ _).trans (if_pos rfl)
  have hc399 : sN σ397 (sZ σ393) = 31 := by rw [hs397]; exact (nwK_N _ _ _ _).trans (if_pos rfl)
  obtain ⟨hc400, h⟩ := ifn h
  obtain ⟨σ401, hs401, h⟩ := stp_elim h
  refine G_putR C fl_X12_162_11 fp_X12_11_76 (Or.inr hn) rfl (fun z => nomatch z) (KO.dy hc400) dX12_init_423 ?_
  rw [← hs401]
  have hc402 : sK σ401 (sZ σ393) = 100 := by rw [hs401]; exact hc398
  have hc403 : sN σ401 (sZ σ393) = 31 := by rw [hs401]; exact hc399
  have hc404 : sK σ401 a0 = 12 := by rw [hs401]; exact hc400
  refine G_aload_n C 0 rfl rfl dX12_init_426 ?_
  refine G_sipush C (v := 200) rfl dX12_init_427 ?_
  obtain ⟨σ405, hs405, h⟩ := stp_elim h
  refine G_newI (N := 200) C na_I (by decide) rfl (Nat.le_of_ble_eq_true rfl) (Nat.le_of_ble_eq_true rfl) (Nat.le_of_ble_eq_true rfl) dX12_init_430 ?_
  rw [← hs405]
  have hc406 : sK σ405 (sZ σ401) = 100 := by rw [hs405]; exact (nwK_K _ _ _ _).trans (if_pos rfl)
  have hc407 : sN σ405 (sZ σ401) = 200 := by rw [hs405]; exact (nwK_N _ _ _ _).trans (if_pos rfl)
  obtain ⟨hc408, h⟩ := ifn h
  obtain ⟨σ409, hs409, h⟩ := stp_elim h
  refine G_putR C fl_X12_165_11 fp_X12_11_77 (Or.inr hn) rfl (fun z => nomatch z) (KO.dy hc408) dX12_init_432 ?_
  rw [← hs409]
  have hc410 : sK σ409 (sZ σ401) = 100 := by rw [hs409]; exact hc406
  have hc411 : sN σ409 (sZ σ401) = 200 := by rw [hs409]; exact hc407
  have hc412 : sK σ409 a0 = 12 := by rw [hs409]; exact hc408
  refine G_aload_n C 0 rfl rfl dX12_init_435 ?_
  refine G_bipush C (v := 10) rfl dX12_init_436 ?_
  obtain ⟨σ413, hs413, h⟩ := stp_elim h
  refine G_newI (N := 10) C na_I (by decide) rfl (Nat.le_of_ble_eq_true rfl) (Nat.le_of_ble_eq_true rfl) (Nat.le_of_ble_eq_true rfl) dX12_init_438 ?_
  rw [← hs413]
  have hc414 : sK σ413 (sZ σ409) = 100 := by rw [hs413]; exact (nwK_K _ _ _ _).trans (if_pos rfl)
  have hc415 : sN σ413 (sZ σ409) = 10 := by rw [hs413]; exact (nwK_N _ _ _ _).trans (if_pos rfl)
  obtain ⟨hc416, h⟩ := ifn h
  obtain ⟨σ417, hs417, h⟩ := stp_elim h
  refine G_putR C fl_X12_168_11 fp_X12_11_87 (Or.inr hn) rfl (fun z => nomatch z) (KO.dy hc416) dX12_init_440 ?_
  rw [← hs417]
  have hc418 : sK σ417 (sZ σ409) = 100 := by rw [hs417]; exact hc414
  have hc419 : sN σ417 (sZ σ409) = 10 := by rw [hs417]; exact hc415
  have hc420 : sK σ417 a0 = 12 := by rw [hs417]; exact hc416
  refine G_aload_n C 0 rfl rfl dX12_init_443 ?_
  refine G_sipush C (v := 520) rfl dX12_init_444 ?_
  obtain ⟨σ421, hs421, h⟩ := stp_elim h
  refine G_newI (N := 520) C na_I (by decide) rfl (Nat.le_of_ble_eq_true rfl) (Nat.le_of_ble_eq_true rfl) (Nat.le_of_ble_eq_true rfl) dX12_init_447 ?_
  rw [← hs421]
  have hc422 : sK σ421 (sZ σ417) = 100 := by rw [hs421]; exact (nwK_K _ _ _ _).trans (if_pos rfl)
  have hc423 : sN σ421 (sZ σ417) = 520 := by rw [hs421]; exact (nwK_N _ _ _ _).trans (if_pos rfl)
  obtain ⟨hc424, h⟩ := ifn h
  obtain ⟨σ425, hs425, h⟩ := stp_elim h
  refine G_putR C fl_X12_171_11 fp_X12_11_88 (Or.inr hn) rfl (fun z => nomatch z) (KO.dy hc424) dX12_init_449 ?_
  rw [← hs425]
  have hc426 : sK σ425 (sZ σ417) = 100 := by rw [hs425]; exact hc422
  have hc427 : sN σ425 (sZ σ417) = 520 := by rw [hs425]; exact hc423
  have hc428 : sK σ425 a0 = 12 := by rw [hs425]; exact hc424
  refine G_aload_n C 0 rfl rfl dX12_init_452 ?_
  refine G_bipush C (v := 30) rfl dX12_init_453 ?_
  obtain ⟨σ429, hs429, h⟩ := stp_elim h
  refine G_newI (N := 30) C na_I (by decide) rfl (Nat.le_of_ble_eq_true rfl) (Nat.le_of_ble_eq_true rfl) (Nat.le_of_ble_eq_true rfl) dX12_init_455 ?_
  rw [← hs429]
  have hc430 : sK σ429 (sZ σ425) = 100 := by rw [hs429]; exact (nwK_K _ _ _ _).trans (if_pos rfl)
  have hc431 : sN σ429 (sZ σ425) = 30 := by rw [hs429]; exact (nwK_N _ _ _ _).trans (if_pos rfl)
  obtain ⟨hc432, h⟩ := ifn h
  obtain ⟨σ433, hs433, h⟩ := stp_elim h
  refine G_putR C fl_X12_174_11 fp_X12_11_89 (Or.inr hn) rfl (fun z => nomatch z) (KO.dy hc432) dX12_init_457 ?_
  rw [← hs433]
  have hc434 : sK σ433 (sZ σ425) = 100 := by rw [hs433]; exact hc430
  have hc435 : sN σ433 (sZ σ425) = 30 := by rw [hs433]; exact hc431
  have hc436 : sK σ433 a0 = 12 := by rw [hs433]; exact hc432
  refine G_aload_n C 0 rfl rfl dX12_init_460 ?_
  refine G_bipush C (v := 30) rfl dX12_init_461 ?_
  obtain ⟨σ437, hs437, h⟩ := stp_elim h
  refine G_newI (N := 30) C na_I (by decide) rfl (Nat.le_of_ble_eq_true rfl) (Nat.le_of_ble_eq_true rfl) (Nat.le_of_ble_eq_true rfl) dX12_init_463 ?_
  rw [← hs437]
  have hc438 : sK σ437 (sZ σ433) = 100 := by rw [hs437]; exact (nwK_K _ _ _ _).trans (if_pos rfl)
  have hc439 : sN σ437 (sZ σ433) = 30 := by rw [hs437]; exact (nwK_N _ _ _ _).trans (if_pos rfl)
  obtain ⟨hc440, h⟩ := ifn h
  obtain ⟨σ441, hs441, h⟩ := stp_elim h
  refine G_putR C fl_X12_177_11 fp_X12_11_90 (Or.inr hn) rfl (fun z => nomatch z) (KO.dy hc440) dX12_init_465 ?_
  rw [← hs441]
  have hc442 : sK σ441 (sZ σ433) = 100 := by rw [hs441]; exact hc438
  have hc443 : sN σ441 (sZ σ433) = 30 := by rw [hs441]; exact hc439
  have hc444 : sK σ441 a0 = 12 := by rw [hs441]; exact hc440
  refine G_aload_n C 0 rfl rfl dX12_init_468 ?_
  refine G_bipush C (v := 30) rfl dX12_init_469 ?_
  obtain ⟨σ445, hs445, h⟩ := stp_elim h
  refine G_newI (N := 30) C na_I (by decide) rfl (Nat.le_of_ble_eq_true rfl) (Nat.le_of_ble_eq_true rfl) (Nat.le_of_ble_eq_true rfl) dX12_init_471 ?_
  rw [← hs445]
  have hc446 : sK σ445 (sZ σ441) = 100 := by rw [hs445]; exact (nwK_K _ _ _ _).trans (if_pos rfl)
  have hc447 : sN σ445 (sZ σ441) = 30 := by rw [hs445]; exact (nwK_N _ _ _ _).trans (if_pos rfl)
  obtain ⟨hc448, h⟩ := ifn h
  obtain ⟨σ449, hs449, h⟩ := stp_elim h
  refine G_putR C fl_X12_180_11 fp_X12_11_91 (Or.inr hn) rfl (fun z => nomatch z) (KO.dy hc448) dX12_init_473 ?_
  rw [← hs449]
  have hc450 : sK σ449 (sZ σ441) = 100 := by rw [hs449]; exact hc446
  have hc451 : sN σ449 (sZ σ441) = 30 := by rw [hs449]; exact hc447
  have hc452 : sK σ449 a0 = 12 := by rw [hs449]; exact hc448
  refine G_aload_n C 0 rfl rfl dX12_init_476 ?_
  refine G_bipush C (v := 30) rfl dX12_init_477 ?_
  obtain ⟨σ453, hs453, h⟩ := stp_elim h
  refine G_newI (N := 30) C na_I (by decide) rfl (Nat.le_of_ble_eq_true rfl) (Nat.le_of_ble_eq_true rfl) (Nat.le_of_ble_eq_true rfl) dX12_init_479 ?_
  rw [← hs453]
  have hc454 : sK σ453 (sZ σ449) = 100 := by rw [hs453]; exact (nwK_K _ _ _ _).trans (if_pos rfl)
  have hc455 : sN σ453 (sZ σ449) = 30 := by rw [hs453]; exact (nwK_N _ _ _ _).trans (if_pos rfl)
  obtain ⟨hc456, h⟩ := ifn h
  obtain ⟨σ457, hs457, h⟩ := stp_elim h
  refine G_putR C fl_X12_183_11 fp_X12_11_92 (Or.inr hn) rfl (fun z => nomatch z) (KO.dy hc456) dX12_init_481 ?_
  rw [← hs457]
  have hc458 : sK σ457 (sZ σ449) = 100 := by rw [hs457]; exact hc454
  have hc459 : sN σ457 (sZ σ449) = 30 := by rw [hs457]; exact hc455
  have hc460 : sK σ457 a0 = 12 := by rw [hs457]; exact hc456
  refine G_aload_n C 0 rfl rfl dX12_init_484 ?_
  refine G_bipush C (v := 30) rfl dX12_init_485 ?_
  obtain ⟨σ461, hs461, h⟩ := stp_elim h
  refine G_newI (N := 30) C na_I (by decide) rfl (Nat.le_of_ble_eq_true rfl) (Nat.le_of_ble_eq_true rfl) (Nat.le_of_ble_eq_true rfl) dX12_init_487 ?_
  rw [← hs461]
  have hc462 : sK σ461 (sZ σ457) = 100 := by rw [hs461]; exact (nwK_K _ _ _ _).trans (if_pos rfl)
  have hc463 : sN σ461 (sZ σ457) = 30 := by rw [hs461]; exact (nwK_N _ _ _ _).trans (if_pos rfl)
  obtain ⟨hc464, h⟩ := ifn h
  obtain ⟨σ465, hs465, h⟩ := stp_elim h
  refine G_putR C fl_X12_186_11 fp_X12_11_93 (Or.inr hn) rfl (fun z => nomatch z) (KO.dy hc464) dX12_init_489 ?_
  rw [← hs465]
  have hc466 : sK σ465 (sZ σ457) = 100 := by rw [hs465]; exact hc462
  have hc467 : sN σ465 (sZ σ457) = 30 := by rw [hs465]; exact hc463
  have hc468 : sK σ465 a0 = 12 := by rw [hs465]; exact hc464
  refine G_aload_n C 0 rfl rfl dX12_init_492 ?_
  refine G_bipush C (v := 30) rfl dX12_init_493 ?_
  obtain ⟨σ469, hs469, h⟩ := stp_elim h
  refine G_newI (N := 30) C na_I (by decide) rfl (Nat.le_of_ble_eq_true rfl) (Nat.le_of_ble_eq_true rfl) (Nat.le_of_ble_eq_true rfl) dX12_init_495 ?_
  rw [← hs469]
  have hc470 : sK σ469 (sZ σ465) = 100 := by rw [hs469]; exact (nwK_K _ _ _ _).trans (if_pos rfl)
  have hc471 : sN σ469 (sZ σ465) = 30 := by rw [hs469]; exact (nwK_N _ _ _ _).trans (if_pos rfl)
  obtain ⟨hc472, h⟩ := ifn h
  obtain ⟨σ473, hs473, h⟩ := stp_elim h
  refine G_putR C fl_X12_189_11 fp_X12_11_94 (Or.inr hn) rfl (fun z => nomatch z) (KO.dy hc472) dX12_init_497 ?_
  rw [← hs473]
  have hc474 : sK σ473 (sZ σ465) = 100 := by rw [hs473]; exact hc470
  have hc475 : sN σ473 (sZ σ465) = 30 := by rw [hs473]; exact hc471
  have hc476 : sK σ473 a0 = 12 := by rw [hs473]; exact hc472
  refine G_aload_n C 0 rfl rfl dX12_init_500 ?_
  refine G_bipush C (v := 30) rfl dX12_init_501 ?_
  obtain ⟨σ477, hs477, h⟩ := stp_elim h
  refine G_newI (N := 30) C na_I (by decide) rfl (Nat.le_of_ble_eq_true rfl) (Nat.le_of_ble_eq_true rfl) (Nat.le_of_ble_eq_true rfl) dX12_init_503 ?_
  rw [← hs477]
  have hc478 : sK σ477 (sZ σ473) = 100 := by rw [hs477]; exact (nwK_K _ _ _ _).trans (if_pos rfl)
  have hc479 : sN σ477 (sZ σ473) = 30 := by rw [hs477]; exact (nwK_N _ _ _ _).trans (if_pos rfl)
  obtain ⟨hc480, h⟩ := ifn h
  obtain ⟨σ481, hs481, h⟩ := stp_elim h
  refine G_putR C fl_X12_192_11 fp_X12_11_95 (Or.inr hn) rfl (fun z => nomatch z) (KO.dy hc480) dX12_init_505 ?_
  rw [← hs481]
  have hc482 : sK σ481 (sZ σ473) = 100 := by rw [hs481]; exact hc478
  have hc483 : sN σ481 (sZ σ473) = 30 := by rw [hs481]; exact hc479
  have hc484 : sK σ481 a0 = 12 := by rw [hs481]; exact hc480
  refine G_aload_n C 0 rfl rfl dX12_init_508 ?_
  refine G_bipush C (v := 25) rfl dX12_init_509 ?_
  obtain ⟨σ485, hs485, h⟩ := stp_elim h
  refine G_newJ (N := 25) C na_J (by decide) rfl (Nat.le_of_ble_eq_true rfl) (Nat.le_of_ble_eq_true rfl) (Nat.le_of_ble_eq_true rfl) dX12_init_511 ?_
  rw [← hs485]
  have hc486 : sK σ485 (sZ σ481) = 101 := by rw [hs485]; exact (nwK_K _ _ _ _).trans (if_pos rfl)
  have hc487 : sN σ485 (sZ σ481) = 25 := by rw [hs485]; exact (nwK_N _ _ _ _).trans (if_pos rfl)
  obtain ⟨hc488, h⟩ := ifn h
  obtain ⟨σ489, hs489, h⟩ := stp_elim h
  refine G_putR C fl_X12_195_11 fp_X12_11_96 (Or.inr hn) rfl (fun z => nomatch z) (KO.dy hc488) dX12_init_513 ?_
  rw [← hs489]
  have hc490 : sK σ489 (sZ σ481) = 101 := by rw [hs489]; exact hc486
  have hc491 : sN σ489 (sZ σ481) = 25 := by rw [hs489]; exact hc487
  have hc492 : sK σ489 a0 = 12 := by rw [hs489]; exact hc488
  refine G_aload_n C 0 rfl rfl dX12_init_516 ?_
  refine G_bipush C (v := 32) rfl dX12_init_517 ?_
  obtain ⟨σ493, hs493, h⟩ := stp_elim h
  refine G_newI (N := 32) C na_I (by decide) rfl (Nat.le_of_ble_eq_true rfl) (Nat.le_of_ble_eq_true rfl) (Nat.le_of_ble_eq_true rfl) dX12_init_519 ?_
  rw [← hs493]
  have hc494 : sK σ493 (sZ σ489) = 100 := by rw [hs493]; exact (nwK_K _ _ _ _).trans (if_pos rfl)
  have hc495 : sN σ493 (sZ σ489) = 32 := by rw [hs493]; exact (nwK_N _ _ _ _).trans (if_pos rfl)
  obtain ⟨hc496, h⟩ := ifn h
  obtain ⟨σ497, hs497, h⟩ := stp_elim h
  refine G_putR C fl_X12_199_11 fp_X12_11_97 (Or.inr hn) rfl (fun z => nomatch z) (KO.dy hc496) dX12_init_521 ?_
  rw [← hs497]
  have hc498 : sK σ497 (sZ σ489) = 100 := by rw [hs497]; exact hc494
  have hc499 : sN σ497 (sZ σ489) = 32 := by rw [hs497]; exact hc495
  have hc500 : sK σ497 a0 = 12 := by rw [hs497]; exact hc496
  refine G_aload_n C 0 rfl rfl dX12_init_524 ?_
  refine G_sipush C (v := 200) rfl dX12_init_525 ?_
  obtain ⟨σ501, hs501, h⟩ := stp_elim h
  refine G_newI (N := 200) C na_I (by decide) rfl (Nat.le_of_ble_eq_true rfl) (Nat.le_of_ble_eq_true rfl) (Nat.le_of_ble_eq_true rfl) dX12_init_528 ?_
  rw [← hs501]
  have hc502 : sK σ501 (sZ σ497) = 100 := by rw [hs501]; exact (nwK_K _ _ _ _).trans (if_pos rfl)
  have hc503 : sN σ501 (sZ σ497) = 200 := by rw [hs501]; exact (nwK_N _ _ _ _).trans (if_pos rfl)
  obtain ⟨hc504, h⟩ := ifn h
  obtain ⟨σ505, hs505, h⟩ := stp_elim h
  refine G_putR C fl_X12_202_11 fp_X12_11_99 (Or.inr hn) rfl (fun z => nomatch z) (KO.dy hc504) dX12_init_530 ?_
  rw [← hs505]
  have hc506 : sK σ505 (sZ σ497) = 100 := by rw [hs505]; exact hc502
  have hc507 : sN σ505 (sZ σ497) = 200 := by rw [hs505]; exact hc503
  have hc508 : sK σ505 a0 = 12 := by rw [hs505]; exact hc504
  refine G_aload_n C 0 rfl rfl dX12_init_533 ?_
  refine G_bipush C (v := 30) rfl dX12_init_534 ?_
  obtain ⟨σ509, hs509, h⟩ := stp_elim h
  refine G_newJ (N := 30) C na_J (by decide) rfl (Nat.le_of_ble_eq_true rfl) (Nat.le_of_ble_eq_true rfl) (Nat.le_of_ble_eq_true rfl) dX12_init_536 ?_
  rw [← hs509]
  have hc510 : sK σ509 (sZ σ505) = 101 := by rw [hs509]; exact (nwK_K _ _ _ _).trans (if_pos rfl)
  have hc511 : sN σ509 (sZ σ505) = 30 := by rw [hs509]; exact (nwK_N _ _ _ _).trans (if_pos rfl)
  obtain ⟨hc512, h⟩ := ifn h
  obtain ⟨σ513, hs513, h⟩ := stp_elim h
  refine G_putR C fl_X12_205_11 fp_X12_11_100 (Or.inr hn) rfl (fun z => nomatch z) (KO.dy hc512) dX12_init_538 ?_
  rw [← hs513]
  have hc514 : sK σ513 (sZ σ505) = 101 := by rw [hs513]; exact hc510
  have hc515 : sN σ513 (sZ σ505) = 30 := by rw [hs513]; exact hc511
  have hc516 : sK σ513 a0 = 12 := by rw [hs513]; exact hc512
  obtain rfl := Option.some.inj h
  exact G_vret C hr (Nat.le_of_ble_eq_true rfl) (Nat.le_of_ble_eq_true rfl) dX12_init_541
set_option maxRecDepth 100000 in
set_option maxHeartbeats 4000000 in
theorem dX12_thrown {σ : Sto} {r : Int32} (h : mX12_thrown σ = r) : MM l yX12_thrown cX12_thrown 1 (some .int) 1 0 0 E true σ [.ref 81] (QI E true σ r σ) := by
  unfold mX12_thrown at h
  refine MM_of (by decide) (Nat.le_of_ble_eq_true rfl) rfl (fun p e s m args below meth c ad0 C hr hn => ?_)
  refine G_aload_n C 0 rfl rfl dX12_thrown_0 ?_
  refine G_getI C fl_X12_208_11 (Or.inl rfl) ko_81 dX12_thrown_1 ?_
  subst h
  exact G_iret C hr (Nat.le_of_ble_eq_true rfl) (Nat.le_of_ble_eq_true rfl) dX12_thrown_4
set_option maxRecDepth 100000 in
set_option maxHeartbeats 4000000 in
theorem eX12_right_16 (C : Cx E p s m args meth c cX12_right 3 RX12) (hr : meth.sig.returnType = (some .boolean)) {σ0 : Sto} {r1 : Int32} {r2 : Sto} {σ : Sto} (h : mX12_right_16 σ = some (r1, r2)) : G p l e (rmd 1 0 0) s m args below meth c E true (sZ σ0) ad0 (MQ below (QI E true σ0 r1 r2 ad0) args s 0 0 (AE E)) 3 0 0 σ 16 [(0, .ref 81)] [] := by
  unfold mX12_right_16 at h
  refine G_aload_n C 0 rfl rfl dX12_right_16 ?_
  refine G_getI C fl_X12_208_11 (Or.inl rfl) ko_81 dX12_right_17 ?_
  refine G_if_ne (tgt := 27) C rfl dX12_right_20 (fun hc2 => ?_) (fun hc2 => ?_)
  · replace h := (if_neg hc2).symm.trans h
    refine G_iconst C (v := 0) rfl dX12_right_27 ?_
    obtain ⟨rfl, rfl⟩ := some2 h
    exact G_zret C (by decide) hr (Nat.le_of_ble_eq_true rfl) (Nat.le_of_ble_eq_true rfl) dX12_right_28
  · replace h := (if_pos hc2).symm.trans h
    refine G_iconst C (v := 1) rfl dX12_right_23 ?_
    refine G_goto (tgt := 28) C rfl dX12_right_24 ?_
    obtain ⟨rfl, rfl⟩ := some2 h
    exact G_zret C (by decide) hr (Nat.le_of_ble_eq_true rfl) (Nat.le_of_ble_eq_true rfl) dX12_right_28
set_option maxRecDepth 100000 in
set_option maxHeartbeats 4000000 in
theorem dX12_right {σ : Sto} {p0 : Int32} {p1 : Int32} {r1 : Int32} {r2 : Sto} (h : mX12_right p0 p1 σ = some (r1, r2)) : MM l yX12_right cX12_right 3 (some .boolean) 1 0 0 E true σ [.ref 81, .int p0, .int p1] (QI E true σ r1 r2) := by
  unfold mX12_right at h
  refine MM_of (by decide) (Nat.le_of_ble_eq_true rfl) rfl (fun p e s m args below meth c ad0 C hr hn => ?_)
  refine G_aload_n C 0 rfl rfl dX12_right_0 ?_
  refine G_getI C fl_X12_208_11 (Or.inl rfl) ko_81 dX12_right_1 ?_
  refine G_if_ne (tgt := 16) C rfl dX12_right_4 (fun hc1 => ?_) (fun hc1 => ?_)
  · replace h := (if_neg hc1).symm.trans h
    refine G_sub [0] rfl ?_
    exact eX12_right_16 C hr h
  · replace h := (if_pos hc1).symm.trans h
    refine G_iload_n C 1 rfl rfl dX12_right_7 ?_
    refine G_if_ne (tgt := 16) C rfl dX12_right_8 (fun hc3 => ?_) (fun hc3 => ?_)
    · replace h := (if_neg hc3).symm.trans h
      refine G_sub [0] rfl ?_
      exact eX12_right_16 C hr h
    · replace h := (if_pos hc3).symm.trans h
      refine G_aload_n C 0 rfl rfl dX12_right_11 ?_
      refine G_iload_n C 2 rfl rfl dX12_right_12 ?_
      obtain ⟨σ4, hs4, h⟩ := stp_elim h
      refine G_putI C fl_X12_208_11 fp_X12_11_0 (Or.inl rfl) (Or.inl rfl) ko_81 dX12_right_13 ?_
      rw [← hs4]
      refine G_sub [0] rfl ?_
      exact eX12_right_16 C hr h
set_option maxRecDepth 100000 in
set_option maxHeartbeats 4000000 in
theorem eX12_isLand_18 (C : Cx E p s m args meth c cX12_isLand 2 RX12) (hr : meth.sig.returnType = (some .boolean)) {σ0 : Sto} {r1 : Int32} {r2 : Sto} {σ : Sto} {y1 : Int32} (h : mX12_isLand_18 y1 σ = some (r1, r2)) : G p l e (rmd 2 0 0) s m args below meth c E true (sZ σ0) ad0 (MQ below (QI E true σ0 r1 r2 ad0) args s 0 0 (AE E)) 2 0 0 σ 18 [] [.int y1, .ref 81] := by
  unfold mX12_isLand_18 at h
  refine G_iconst C (v := 1) rfl dX12_isLand_18 ?_
  obtain ⟨v2, σ2, hv2, h⟩ := bd2_elim h
  refine G_callI (run_V C [.int y1, .int (1 : Int32)] [] (dX12_right hv2) ml_X12_right mv_X12_right lk_X12_214 ⟨(Nat.le_of_ble_eq_true rfl), (Nat.le_of_ble_eq_true rfl)⟩ ⟨(Nat.le_of_ble_eq_true rfl), (Nat.le_of_ble_eq_true rfl)⟩ vq_11 rfl ko_81 rfl (Nat.le_of_ble_eq_true rfl) dX12_isLand_19) ?_
  obtain ⟨hc3, h⟩ := ifn h
  obtain ⟨rfl, rfl⟩ := some2 h
  exact G_zret C hc3 hr (Nat.le_of_ble_eq_true rfl) (Nat.le_of_ble_eq_true rfl) dX12_isLand_22
set_option maxRecDepth 100000 in
set_option maxHeartbeats 4000000 in
theorem eX12_isLand_17 (C : Cx E p s m args meth c cX12_isLand 2 RX12) (hr : meth.sig.returnType = (some .boolean)) {σ0 : Sto} {r1 : Int32} {r2 : Sto} {σ : Sto} (h : mX12_isLand_17 σ = some (r1, r2)) : G p l e (rmd 2 0 0) s m args below meth c E true (sZ σ0) ad0 (MQ below (QI E true σ0 r1 r2 ad0) args s 0 0 (AE E)) 2 0 0 σ 17 [] [.ref 81] := by
  unfold mX12_isLand_17 at h
  refine G_iconst C (v := 0) rfl dX12_isLand_17 ?_
  exact eX12_isLand_18 C hr h
set_option maxRecDepth 100000 in
set_option maxHeartbeats 4000000 in
theorem dX12_isLand {σ : Sto} {p0 : Int32} {r1 : Int32} {r2 : Sto} (h : mX12_isLand p0 σ = some (r1, r2)) : MM l yX12_isLand cX12_isLand 2 (some .boolean) 2 0 0 E true σ [.ref 81, .int p0] (QI E true σ r1 r2) := by
  unfold mX12_isLand at h
  refine MM_of (by decide) (Nat.le_of_ble_eq_true rfl) rfl (fun p e s m args below meth c ad0 C hr hn => ?_)
  refine G_aload_n C 0 rfl rfl dX12_isLand_0 ?_
  refine G_iload_n C 1 rfl rfl dX12_isLand_1 ?_
  refine G_if_lt (tgt := 17) C rfl dX12_isLand_2 (fun hc1 => ?_) (fun hc1 => ?_)
  · replace h := (if_pos hc1).symm.trans h
    refine G_sub [] rfl ?_
    exact eX12_isLand_17 C hr h
  · replace h := (if_neg hc1).symm.trans h
    refine G_iload_n C 1 rfl rfl dX12_isLand_5 ?_
    refine G_aload_n C 0 rfl rfl dX12_isLand_6 ?_
    refine G_getI C fl_X12_211_11 (Or.inl rfl) ko_81 dX12_isLand_7 ?_
    refine G_icmp_ge (tgt := 17) C rfl dX12_isLand_10 (fun hc4 => ?_) (fun hc4 => ?_)
    · replace h := (if_pos hc4).symm.trans h
      refine G_sub [] rfl ?_
      exact eX12_isLand_17 C hr h
    · replace h := (if_neg hc4).symm.trans h
      refine G_iconst C (v := 1) rfl dX12_isLand_13 ?_
      refine G_goto (tgt := 18) C rfl dX12_isLand_14 ?_
      refine G_sub [] rfl ?_
      exact eX12_isLand_18 C hr h
set_option maxRecDepth 100000 in
set_option maxHeartbeats 4000000 in
theorem eX12_isPerson_18 (C : Cx E p s m args meth c cX12_isPerson 2 RX12) (hr : meth.sig.returnType = (some .boolean)) {σ0 : Sto} {r1 : Int32} {r2 : Sto} {σ : Sto} {y1 : Int32} (h : mX12_isPerson_18 y1 σ = some (r1, r2)) : G p l e (rmd 2 0 0) s m args below meth c E true (sZ σ0) ad0 (MQ below (QI E true σ0 r1 r2 ad0) args s 0 0 (AE E)) 2 0 0 σ 18 [] [.int y1, .ref 81] := by
  unfold mX12_isPerson_18 at h
  refine G_iconst C (v := 1) rfl dX12_isPerson_18 ?_
  obtain ⟨v2, σ2, hv2, h⟩ := bd2_elim h
  refine G_callI (run_V C [.int y1, .int (1 : Int32)] [] (dX12_right hv2) ml_X12_right mv_X12_right lk_X12_214 ⟨(Nat.le_of_ble_eq_true rfl), (Nat.le_of_ble_eq_true rfl)⟩ ⟨(Nat.le_of_ble_eq_true rfl), (Nat.le_of_ble_eq_true rfl)⟩ vq_11 rfl ko_81 rfl (Nat.le_of_ble_eq_true rfl) dX12_isPerson_19) ?_
  obtain ⟨hc3, h⟩ := ifn h
  obtain ⟨rfl, rfl⟩ := some2 h
  exact G_zret C hc3 hr (Nat.le_of_ble_eq_true rfl) (Nat.le_of_ble_eq_true rfl) dX12_isPerson_22
set_option maxRecDepth 100000 in
set_option maxHeartbeats 4000000 in
theorem eX12_isPerson_17 (C : Cx E p s m args meth c cX12_isPerson 2 RX12) (hr : meth.sig.returnType = (some .boolean)) {σ0 : Sto} {r1 : Int32} {r2 : Sto} {σ : Sto} (h : mX12_isPerson_17 σ = some (r1, r2)) : G p l e (rmd 2 0 0) s m args below meth c E true (sZ σ0) ad0 (MQ below (QI E true σ0 r1 r2 ad0) args s 0 0 (AE E)) 2 0 0 σ 17 [] [.ref 81] := by
  unfold mX12_isPerson_17 at h
  refine G_iconst C (v := 0) rfl dX12_isPerson_17 ?_
  exact eX12_isPerson_18 C hr h
set_option maxRecDepth 100000 in
set_option maxHeartbeats 4000000 in
theorem dX12_isPerson {σ : Sto} {p0 : Int32} {r1 : Int32} {r2 : Sto} (h : mX12_isPerson p0 σ = some (r1, r2)) : MM l yX12_isPerson cX12_isPerson 2 (some .boolean) 2 0 0 E true σ [.ref 81, .int p0] (QI E true σ r1 r2) := by
  unfold mX12_isPerson at h
  refine MM_of (by decide) (Nat.le_of_ble_eq_true rfl) rfl (fun p e s m args below meth c ad0 C hr hn => ?_)
  refine G_aload_n C 0 rfl rfl dX12_isPerson_0 ?_
  refine G_iload_n C 1 rfl rfl dX12_isPerson_1 ?_
  refine G_if_lt (tgt := 17) C rfl dX12_isPerson_2 (fun hc1 => ?_) (fun hc1 => ?_)
  · replace h := (if_pos hc1).symm.trans h
    refine G_sub [] rfl ?_
    exact eX12_isPerson_17 C hr h
  · replace h := (if_neg hc1).symm.trans h
    refine G_iload_n C 1 rfl rfl dX12_isPerson_5 ?_
    refine G_aload_n C 0 rfl rfl dX12_isPerson_6 ?_
    refine G_getI C fl_X12_218_11 (Or.inl rfl) ko_81 dX12_isPerson_7 ?_
    refine G_icmp_ge (tgt := 17) C rfl dX12_isPerson_10 (fun hc4 => ?_) (fun hc4 => ?_)
    · replace h := (if_pos hc4).symm.trans h
      refine G_sub [] rfl ?_
      exact eX12_isPerson_17 C hr h
    · replace h := (if_neg hc4).symm.trans h
      refine G_iconst C (v := 1) rfl dX12_isPerson_13 ?_
      refine G_goto (tgt := 18) C rfl dX12_isPerson_14 ?_
      refine G_sub [] rfl ?_
      exact eX12_isPerson_18 C hr h
set_option maxRecDepth 100000 in
set_option maxHeartbeats 4000000 in
theorem eX12_isWork_18 (C : Cx E p s m args meth c cX12_isWork 2 RX12) (hr : meth.sig.returnType = (some .boolean)) {σ0 : Sto} {r1 : Int32} {r2 : Sto} {σ : Sto} {y1 : Int32} (h : mX12_isWork_18 y1 σ = some (r1, r2)) : G p l e (rmd 2 0 0) s m args below meth c E true (sZ σ0) ad0 (MQ below (QI E true σ0 r1 r2 ad0) args s 0 0 (AE E)) 2 0 0 σ 18 [] [.int y1, .ref 81] := by
  unfold mX12_isWork_18 at h
  refine G_iconst C (v := 1) rfl dX12_isWork_18 ?_
  obtain ⟨v2, σ2, hv2, h⟩ := bd2_elim h
  refine G_callI (run_V C [.int y1, .int (1 : Int32)] [] (dX12_right hv2) ml_X12_right mv_X12_right lk_X12_214 ⟨(Nat.le_of_ble_eq_true rfl), (Nat.le_of_ble_eq_true rfl)⟩ ⟨(Nat.le_of_ble_eq_true rfl), (Nat.le_of_ble_eq_true rfl)⟩ vq_11 rfl ko_81 rfl (Nat.le_of_ble_eq_true rfl) dX12_isWork_19) ?_
  obtain ⟨hc3, h⟩ := ifn h
  obtain ⟨rfl, rfl⟩ := some2 h
  exact G_zret C hc3 hr (Nat.le_of_ble_eq_true rfl) (Nat.le_of_ble_eq_true rfl) dX12_isWork_22
set_option maxRecDepth 100000 in
set_option maxHeartbeats 4000000 in
theorem eX12_isWork_17 (C : Cx E p s m args meth c cX12_isWork 2 RX12) (hr : meth.sig.returnType = (some .boolean)) {σ0 : Sto} {r1 : Int32} {r2 : Sto} {σ : Sto} (h : mX12_isWork_17 σ = some (r1, r2)) : G p l e (rmd 2 0 0) s m args below meth c E true (sZ σ0) ad0 (MQ below (QI E true σ0 r1 r2 ad0) args s 0 0 (AE E)) 2 0 0 σ 17 [] [.ref 81] := by
  unfold mX12_isWork_17 at h
  refine G_iconst C (v := 0) rfl dX12_isWork_17 ?_
  exact eX12_isWork_18 C hr h
set_option maxRecDepth 100000 in
set_option maxHeartbeats 4000000 in
theorem dX12_isWork {σ : Sto} {p0 : Int32} {r1 : Int32} {r2 : Sto} (h : mX12_isWork p0 σ = some (r1, r2)) : MM l yX12_isWork cX12_isWork 2 (some .boolean) 2 0 0 E true σ [.ref 81, .int p0] (QI E true σ r1 r2) := by
  unfold mX12_isWork at h
  refine MM_of (by decide) (Nat.le_of_ble_eq_true rfl) rfl (fun p e s m args below meth c ad0 C hr hn => ?_)
  refine G_aload_n C 0 rfl rfl dX12_isWork_0 ?_
  refine G_iload_n C 1 rfl rfl dX12_isWork_1 ?_
  refine G_if_lt (tgt := 17) C rfl dX12_isWork_2 (fun hc1 => ?_) (fun hc1 => ?_)
  · replace h := (if_pos hc1).symm.trans h
    refine G_sub [] rfl ?_
    exact eX12_isWork_17 C hr h
  · replace h := (if_neg hc1).symm.trans h
    refine G_iload_n C 1 rfl rfl dX12_isWork_5 ?_
    refine G_aload_n C 0 rfl rfl dX12_isWork_6 ?_
    refine G_getI C fl_X12_221_11 (Or.inl rfl) ko_81 dX12_isWork_7 ?_
    refine G_icmp_ge (tgt := 17) C rfl dX12_isWork_10 (fun hc4 => ?_) (fun hc4 => ?_)
    · replace h := (if_pos hc4).symm.trans h
      refine G_sub [] rfl ?_
      exact eX12_isWork_17 C hr h
    · replace h := (if_neg hc4).symm.trans h
      refine G_iconst C (v := 1) rfl dX12_isWork_13 ?_
      refine G_goto (tgt := 18) C rfl dX12_isWork_14 ?_
      refine G_sub [] rfl ?_
      exact eX12_isWork_18 C hr h
set_option maxRecDepth 100000 in
set_option maxHeartbeats 4000000 in
theorem eX12_isSociety_18 (C : Cx E p s m args meth c cX12_isSociety 2 RX12) (hr : meth.sig.returnType = (some .boolean)) {σ0 : Sto} {r1 : Int32} {r2 : Sto} {σ : Sto} {y1 : Int32} (h : mX12_isSociety_18 y1 σ = some (r1, r2)) : G p l e (rmd 2 0 0) s m args below meth c E true (sZ σ0) ad0 (MQ below (QI E true σ0 r1 r2 ad0) args s 0 0 (AE E)) 2 0 0 σ 18 [] [.int y1, .ref 81] := by
  unfold mX12_isSociety_18 at h
  refine G_iconst C (v := 1) rfl dX12_isSociety_18 ?_
  obtain ⟨v2, σ2, hv2, h⟩ := bd2_elim h
  refine G_callI (run_V C [.int y1, .int (1 : Int32)] [] (dX12_right hv2) ml_X12_right mv_X12_right lk_X12_214 ⟨(Nat.le_of_ble_eq_true rfl), (Nat.le_of_ble_eq_true rfl)⟩ ⟨(Nat.le_of_ble_eq_true rfl), (Nat.le_of_ble_eq_true rfl)⟩ vq_11 rfl ko_81 rfl (Nat.le_of_ble_eq_true rfl) dX12_isSociety_19) ?_
  obtain ⟨hc3, h⟩ := ifn h
  obtain ⟨rfl, rfl⟩ := some2 h
  exact G_zret C hc3 hr (Nat.le_of_ble_eq_true rfl) (Nat.le_of_ble_eq_true rfl) dX12_isSociety_22
set_option maxRecDepth 100000 in
set_option maxHeartbeats 4000000 in
theorem eX12_isSociety_17 (C : Cx E p s m args meth c cX12_isSociety 2 RX12) (hr : meth.sig.returnType = (some .boolean)) {σ0 : Sto} {r1 : Int32} {r2 : Sto} {σ : Sto} (h : mX12_isSociety_17 σ = some (r1, r2)) : G p l e (rmd 2 0 0) s m args below meth c E true (sZ σ0) ad0 (MQ below (QI E true σ0 r1 r2 ad0) args s 0 0 (AE E)) 2 0 0 σ 17 [] [.ref 81] := by
  unfold mX12_isSociety_17 at h
  refine G_iconst C (v := 0) rfl dX12_isSociety_17 ?_
  exact eX12_isSociety_18 C hr h
set_option maxRecDepth 100000 in
set_option maxHeartbeats 4000000 in
theorem dX12_isSociety {σ : Sto} {p0 : Int32} {r1 : Int32} {r2 : Sto} (h : mX12_isSociety p0 σ = some (r1, r2)) : MM l yX12_isSociety cX12_isSociety 2 (some .boolean) 2 0 0 E true σ [.ref 81, .int p0] (QI E true σ r1 r2) := by
  unfold mX12_isSociety at h
  refine MM_of (by decide) (Nat.le_of_ble_eq_true rfl) rfl (fun p e s m args below meth c ad0 C hr hn => ?_)
  refine G_aload_n C 0 rfl rfl dX12_isSociety_0 ?_
  refine G_iload_n C 1 rfl rfl dX12_isSociety_1 ?_
  refine G_if_lt (tgt := 17) C rfl dX12_isSociety_2 (fun hc1 => ?_) (fun hc1 => ?_)
  · replace h := (if_pos hc1).symm.trans h
    refine G_sub [] rfl ?_
    exact eX12_isSociety_17 C hr h
  · replace h := (if_neg hc1).symm.trans h
    refine G_iload_n C 1 rfl rfl dX12_isSociety_5 ?_
    refine G_aload_n C 0 rfl rfl dX12_isSociety_6 ?_
    refine G_getI C fl_X12_224_11 (Or.inl rfl) ko_81 dX12_isSociety_7 ?_
    refine G_icmp_ge (tgt := 17) C rfl dX12_isSociety_10 (fun hc4 => ?_) (fun hc4 => ?_)
    · replace h := (if_pos hc4).symm.trans h
      refine G_sub [] rfl ?_
      exact eX12_isSociety_17 C hr h
    · replace h := (if_neg hc4).symm.trans h
      refine G_iconst C (v := 1) rfl dX12_isSociety_13 ?_
      refine G_goto (tgt := 18) C rfl dX12_isSociety_14 ?_
      refine G_sub [] rfl ?_
      exact eX12_isSociety_18 C hr h
set_option maxRecDepth 100000 in
set_option maxHeartbeats 4000000 in
theorem dX12_isDay {σ : Sto} {p0 : Int32} {r : Int32} (h : mX12_isDay p0 σ = r) : MM l yX12_isDay cX12_isDay 1 (some .boolean) 1 0 0 E st σ [.int p0] (QI E st σ r σ) := by
  unfold mX12_isDay at h
  refine MM_of (by decide) (Nat.le_of_ble_eq_true rfl) rfl (fun p e s m args below meth c ad0 C hr hn => ?_)
  refine G_iload_n C 0 rfl rfl dX12_isDay_0 ?_
  refine G_if_lt (tgt := 14) C rfl dX12_isDay_1 (fun hc1 => ?_) (fun hc1 => ?_)
  · replace h := (if_pos hc1).symm.trans h
    refine G_iconst C (v := 0) rfl dX12_isDay_14 ?_
    subst h
    exact G_zret C (by decide) hr (Nat.le_of_ble_eq_true rfl) (Nat.le_of_ble_eq_true rfl) dX12_isDay_15
  · replace h := (if_neg hc1).symm.trans h
    refine G_iload_n C 0 rfl rfl dX12_isDay_4 ?_
    refine G_ldc C kc_X12_227 dX12_isDay_5 ?_
    refine G_icmp_gt (tgt := 14) C rfl dX12_isDay_7 (fun hc2 => ?_) (fun hc2 => ?_)
    · replace h := (if_pos hc2).symm.trans h
      refine G_iconst C (v := 0) rfl dX12_isDay_14 ?_
      subst h
      exact G_zret C (by decide) hr (Nat.le_of_ble_eq_true rfl) (Nat.le_of_ble_eq_true rfl) dX12_isDay_15
    · replace h := (if_neg hc2).symm.trans h
      refine G_iconst C (v := 1) rfl dX12_isDay_10 ?_
      refine G_goto (tgt := 15) C rfl dX12_isDay_11 ?_
      subst h
      exact G_zret C (by decide) hr (Nat.le_of_ble_eq_true rfl) (Nat.le_of_ble_eq_true rfl) dX12_isDay_15
set_option maxRecDepth 100000 in
set_option maxHeartbeats 4000000 in
theorem dX12_land {σ : Sto} {r1 : Int32} {r2 : Sto} (h : mX12_land σ = some (r1, r2)) : MM l yX12_land cX12_land 1 (some .int) 1 0 0 E true σ [.ref 81] (QI E true σ r1 r2) := by
  unfold mX12_land at h
  refine MM_of (by decide) (Nat.le_of_ble_eq_true rfl) rfl (fun p e s m args below meth c ad0 C hr hn => ?_)
  refine G_aload_n C 0 rfl rfl dX12_land_0 ?_
  refine G_iconst C (v := 0) rfl dX12_land_1 ?_
  obtain ⟨σ1, hs1, h⟩ := stp_elim h
  refine G_putI C fl_X12_208_11 fp_X12_11_0 (Or.inl rfl) (Or.inl rfl) ko_81 dX12_land_2 ?_
  rw [← hs1]
  refine G_aload_n C 0 rfl rfl dX12_land_5 ?_
  refine G_getI C fl_X12_211_11 (Or.inl rfl) ko_81 dX12_land_6 ?_
  refine G_bipush C (v := 6) rfl dX12_land_9 ?_
  refine G_icmp_ne (tgt := 16) C rfl dX12_land_11 (fun hc2 => ?_) (fun hc2 => ?_)
  · replace h := (if_neg hc2).symm.trans h
    refine G_aload_n C 0 rfl rfl dX12_land_16 ?_
    refine G_dup C rfl dX12_land_17 ?_
    refine G_getI C fl_X12_211_11 (Or.inl rfl) ko_81 dX12_land_18 ?_
    refine G_iconst C (v := 1) rfl dX12_land_21 ?_
    refine G_iadd C dX12_land_22 ?_
    obtain ⟨σ3, hs3, h⟩ := stp_elim h
    refine G_putI C fl_X12_211_11 fp_X12_11_2 (Or.inl rfl) (Or.inl rfl) ko_81 dX12_land_23 ?_
    rw [← hs3]
    refine G_aload_n C 0 rfl rfl dX12_land_26 ?_
    refine G_getI C fl_X12_211_11 (Or.inl rfl) ko_81 dX12_land_27 ?_
    refine G_iconst C (v := 1) rfl dX12_land_30 ?_
    refine G_isub C dX12_land_31 ?_
    obtain ⟨rfl, rfl⟩ := some2 h
    exact G_iret C hr (Nat.le_of_ble_eq_true rfl) (Nat.le_of_ble_eq_true rfl) dX12_land_32
  · replace h := (if_pos hc2).symm.trans h
    refine G_iconst C (v := -1) rfl dX12_land_14 ?_
    obtain ⟨rfl, rfl⟩ := some2 h
    exact G_iret C hr (Nat.le_of_ble_eq_true rfl) (Nat.le_of_ble_eq_true rfl) dX12_land_15
set_option maxRecDepth 100000 in
set_option maxHeartbeats 4000000 in
theorem dX12_rate {σ : Sto} {p0 : Int32} {p1 : Int32} {p2 : Int32} {r1 : Int32} {r2 : Sto} (h : mX12_rate p0 p1 p2 σ = some (r1, r2)) : MM l yX12_rate cX12_rate 4 (some .boolean) 3 0 0 E true σ [.ref 81, .int p0, .int p1, .int p2] (QI E true σ r1 r2) := by
  unfold mX12_rate at h
  refine MM_of (by decide) (Nat.le_of_ble_eq_true rfl) rfl (fun p e s m args below meth c ad0 C hr hn => ?_)
  refine G_aload_n C 0 rfl rfl dX12_rate_0 ?_
  refine G_iconst C (v := 0) rfl dX12_rate_1 ?_
  obtain ⟨σ1, hs1, h⟩ := stp_elim h
  refine G_putI C fl_X12_208_11 fp_X12_11_0 (Or.inl rfl) (Or.inl rfl) ko_81 dX12_rate_2 ?_
  rw [← hs1]
  refine G_aload_n C 0 rfl rfl dX12_rate_5 ?_
  refine G_iload_n C 1 rfl rfl dX12_rate_6 ?_
  obtain ⟨v2, σ2, hv2, h⟩ := bd2_elim h
  refine G_callI (run_V C [.int p0] [] (dX12_isLand hv2) ml_X12_isLand mv_X12_isLand lk_X12_228 ⟨(Nat.le_of_ble_eq_true rfl), (Nat.le_of_ble_eq_true rfl)⟩ ⟨(Nat.le_of_ble_eq_true rfl), (Nat.le_of_ble_eq_true rfl)⟩ vq_11 rfl ko_81 rfl (Nat.le_of_ble_eq_true rfl) dX12_rate_7) ?_
  refine G_if_eq (tgt := 40) C rfl dX12_rate_10 (fun hc3 => ?_) (fun hc3 => ?_)
  · replace h := (if_pos hc3).symm.trans h
    refine G_iconst C (v := 0) rfl dX12_rate_40 ?_
    obtain ⟨rfl, rfl⟩ := some2 h
    exact G_zret C (by decide) hr (Nat.le_of_ble_eq_true rfl) (Nat.le_of_ble_eq_true rfl) dX12_rate_41
  · replace h := (if_neg hc3).symm.trans h
    refine G_aload_n C 0 rfl rfl dX12_rate_13 ?_
    refine G_getI C fl_X12_232_11 (Or.inl rfl) ko_81 dX12_rate_14 ?_
    refine G_bipush C (v := 60) rfl dX12_rate_17 ?_
    refine G_icmp_eq (tgt := 40) C rfl dX12_rate_19 (fun hc4 => ?_) (fun hc4 => ?_)
    · replace h := (if_pos hc4).symm.trans h
      refine G_iconst C (v := 0) rfl dX12_rate_40 ?_
      obtain ⟨rfl, rfl⟩ := some2 h
      exact G_zret C (by decide) hr (Nat.le_of_ble_eq_true rfl) (Nat.le_of_ble_eq_true rfl) dX12_rate_41
    · replace h := (if_neg hc4).symm.trans h
      refine G_iload_n C 2 rfl rfl dX12_rate_22 ?_
      refine G_callI (run_S C [.int p1] [] (dX12_isDay rfl) ml_X12_isDay ms_X12_isDay lk_X12_235 ⟨(Nat.le_of_ble_eq_true rfl), (Nat.le_of_ble_eq_true rfl)⟩ ⟨(Nat.le_of_ble_eq_true rfl), (Nat.le_of_ble_eq_true rfl)⟩ rfl (Nat.le_of_ble_eq_true rfl) dX12_rate_23) ?_
      refine G_if_eq (tgt := 40) C rfl dX12_rate_26 (fun hc6 => ?_) (fun hc6 => ?_)
      · replace h := (if_pos hc6).symm.trans h
        refine G_iconst C (v := 0) rfl dX12_rate_40 ?_
        obtain ⟨rfl, rfl⟩ := some2 h
        exact G_zret C (by decide) hr (Nat.le_of_ble_eq_true rfl) (Nat.le_of_ble_eq_true rfl) dX12_rate_41
      · replace h := (if_neg hc6).symm.trans h
        refine G_iload_n C 3 rfl rfl dX12_rate_29 ?_
        refine G_iconst C (v := 1) rfl dX12_rate_30 ?_
        refine G_icmp_lt (tgt := 40) C rfl dX12_rate_31 (fun hc7 => ?_) (fun hc7 => ?_)
        · replace h := (if_pos hc7).symm.trans h
          refine G_iconst C (v := 0) rfl dX12_rate_40 ?_
          obtain ⟨rfl, rfl⟩ := some2 h
          exact G_zret C (by decide) hr (Nat.le_of_ble_eq_true rfl) (Nat.le_of_ble_eq_true rfl) dX12_rate_41
        · replace h := (if_neg hc7).symm.trans h
          refine G_iload_n C 3 rfl rfl dX12_rate_34 ?_
          refine G_ldc C kc_X12_238 dX12_rate_35 ?_
          refine G_icmp_le (tgt := 42) C rfl dX12_rate_37 (fun hc8 => ?_) (fun hc8 => ?_)
          · replace h := (if_pos hc8).symm.trans h
            refine G_aload_n C 0 rfl rfl dX12_rate_42 ?_
            refine G_getF C fl_X12_47_11 rfl rfl fn_81_21 dX12_rate_43 ?_
            refine G_aload_n C 0 rfl rfl dX12_rate_46 ?_
            refine G_getI C fl_X12_232_11 (Or.inl rfl) ko_81 dX12_rate_47 ?_
            refine G_iload_n C 1 rfl rfl dX12_rate_50 ?_
            obtain ⟨hc9, h⟩ := ifn h
            obtain ⟨σ10, hs10, h⟩ := stp_elim h
            refine G_iastore C ks_94 hc9 dX12_rate_51 ?_
            rw [← hs10]
            refine G_aload_n C 0 rfl rfl dX12_rate_52 ?_
            refine G_getF C fl_X12_50_11 rfl rfl fn_81_22 dX12_rate_53 ?_
            refine G_aload_n C 0 rfl rfl dX12_rate_56 ?_
            refine G_getI C fl_X12_232_11 (Or.inl rfl) ko_81 dX12_rate_57 ?_
            refine G_iload_n C 2 rfl rfl dX12_rate_60 ?_
            obtain ⟨hc11, h⟩ := ifn h
            obtain ⟨σ12, hs12, h⟩ := stp_elim h
            refine G_iastore C ks_95 hc11 dX12_rate_61 ?_
            rw [← hs12]
            refine G_aload_n C 0 rfl rfl dX12_rate_62 ?_
            refine G_getF C fl_X12_53_11 rfl rfl fn_81_23 dX12_rate_63 ?_
            refine G_aload_n C 0 rfl rfl dX12_rate_66 ?_
            refine G_getI C fl_X12_232_11 (Or.inl rfl) ko_81 dX12_rate_67 ?_
            refine G_iload_n C 3 rfl rfl dX12_rate_70 ?_
            obtain ⟨hc13, h⟩ := ifn h
            obtain ⟨σ14, hs14, h⟩ := stp_elim h
            refine G_iastore C ks_96 hc13 dX12_rate_71 ?_
            rw [← hs14]
            refine G_aload_n C 0 rfl rfl dX12_rate_72 ?_
            refine G_dup C rfl dX12_rate_73 ?_
            refine G_getI C fl_X12_232_11 (Or.inl rfl) ko_81 dX12_rate_74 ?_
            refine G_iconst C (v := 1) rfl dX12_rate_77 ?_
            refine G_iadd C dX12_rate_78 ?_
            obtain ⟨σ15, hs15, h⟩ := stp_elim h
            refine G_putI C fl_X12_232_11 fp_X12_11_6 (Or.inl rfl) (Or.inl rfl) ko_81 dX12_rate_79 ?_
            rw [← hs15]
            refine G_iconst C (v := 1) rfl dX12_rate_82 ?_
            obtain ⟨rfl, rfl⟩ := some2 h
            exact G_zret C (by decide) hr (Nat.le_of_ble_eq_true rfl) (Nat.le_of_ble_eq_true rfl) dX12_rate_83
          · replace h := (if_neg hc8).symm.trans h
            refine G_iconst C (v := 0) rfl dX12_rate_40 ?_
            obtain ⟨rfl, rfl⟩ := some2 h
            exact G_zret C (by decide) hr (Nat.le_of_ble_eq_true rfl) (Nat.le_of_ble_eq_true rfl) dX12_rate_41
set_option maxRecDepth 100000 in
set_option maxHeartbeats 4000000 in
theorem dX12_person {σ : Sto} {p0 : Int32} {p1 : Int32} {r1 : Int32} {r2 : Sto} (h : mX12_person p0 p1 σ = some (r1, r2)) : MM l yX12_person cX12_person 3 (some .int) 3 0 0 E true σ [.ref 81, .int p0, .int p1] (QI E true σ r1 r2) := by
  unfold mX12_person at h
  refine MM_of (by decide) (Nat.le_of_ble_eq_true rfl) rfl (fun p e s m args below meth c ad0 C hr hn => ?_)
  refine G_aload_n C 0 rfl rfl dX12_person_0 ?_
  refine G_iconst C (v := 0) rfl dX12_person_1 ?_
  obtain ⟨σ1, hs1, h⟩ := stp_elim h
  refine G_putI C fl_X12_208_11 fp_X12_11_0 (Or.inl rfl) (Or.inl rfl) ko_81 dX12_person_2 ?_
  rw [← hs1]
  refine G_aload_n C 0 rfl rfl dX12_person_5 ?_
  refine G_iload_n C 1 rfl rfl dX12_person_6 ?_
  obtain ⟨v2, σ2, hv2, h⟩ := bd2_elim h
  refine G_callI (run_V C [.int p0] [] (dX12_isLand hv2) ml_X12_isLand mv_X12_isLand lk_X12_228 ⟨(Nat.le_of_ble_eq_true rfl), (Nat.le_of_ble_eq_true rfl)⟩ ⟨(Nat.le_of_ble_eq_true rfl), (Nat.le_of_ble_eq_true rfl)⟩ vq_11 rfl ko_81 rfl (Nat.le_of_ble_eq_true rfl) dX12_person_7) ?_
  refine G_if_ne (tgt := 15) C rfl dX12_person_10 (fun hc3 => ?_) (fun hc3 => ?_)
  · replace h := (if_neg hc3).symm.trans h
    refine G_aload_n C 0 rfl rfl dX12_person_15 ?_
    refine G_getI C fl_X12_218_11 (Or.inl rfl) ko_81 dX12_person_16 ?_
    refine G_bipush C (v := 30) rfl dX12_person_19 ?_
    refine G_icmp_eq (tgt := 33) C rfl dX12_person_21 (fun hc4 => ?_) (fun hc4 => ?_)
    · replace h := (if_pos hc4).symm.trans h
      refine G_iconst C (v := -1) rfl dX12_person_33 ?_
      obtain ⟨rfl, rfl⟩ := some2 h
      exact G_iret C hr (Nat.le_of_ble_eq_true rfl) (Nat.le_of_ble_eq_true rfl) dX12_person_34
    · replace h := (if_neg hc4).symm.trans h
      refine G_iload_n C 2 rfl rfl dX12_person_24 ?_
      refine G_if_lt (tgt := 33) C rfl dX12_person_25 (fun hc5 => ?_) (fun hc5 => ?_)
      · replace h := (if_pos hc5).symm.trans h
        refine G_iconst C (v := -1) rfl dX12_person_33 ?_
        obtain ⟨rfl, rfl⟩ := some2 h
        exact G_iret C hr (Nat.le_of_ble_eq_true rfl) (Nat.le_of_ble_eq_true rfl) dX12_person_34
      · replace h := (if_neg hc5).symm.trans h
        refine G_iload_n C 2 rfl rfl dX12_person_28 ?_
        refine G_iconst C (v := 2) rfl dX12_person_29 ?_
        refine G_icmp_le (tgt := 35) C rfl dX12_person_30 (fun hc6 => ?_) (fun hc6 => ?_)
        · replace h := (if_pos hc6).symm.trans h
          refine G_aload_n C 0 rfl rfl dX12_person_35 ?_
          refine G_getF C fl_X12_7_11 rfl rfl fn_81_9 dX12_person_36 ?_
          refine G_aload_n C 0 rfl rfl dX12_person_39 ?_
          refine G_getI C fl_X12_218_11 (Or.inl rfl) ko_81 dX12_person_40 ?_
          refine G_iload_n C 1 rfl rfl dX12_person_43 ?_
          obtain ⟨hc7, h⟩ := ifn h
          obtain ⟨σ8, hs8, h⟩ := stp_elim h
          refine G_iastore C ks_82 hc7 dX12_person_44 ?_
          rw [← hs8]
          refine G_aload_n C 0 rfl rfl dX12_person_45 ?_
          refine G_getF C fl_X12_13_11 rfl rfl fn_81_10 dX12_person_46 ?_
          refine G_aload_n C 0 rfl rfl dX12_person_49 ?_
          refine G_getI C fl_X12_218_11 (Or.inl rfl) ko_81 dX12_person_50 ?_
          refine G_iload_n C 2 rfl rfl dX12_person_53 ?_
          obtain ⟨hc9, h⟩ := ifn h
          obtain ⟨σ10, hs10, h⟩ := stp_elim h
          refine G_iastore C ks_83 hc9 dX12_person_54 ?_
          rw [← hs10]
          refine G_aload_n C 0 rfl rfl dX12_person_55 ?_
          refine G_dup C rfl dX12_person_56 ?_
          refine G_getI C fl_X12_218_11 (Or.inl rfl) ko_81 dX12_person_57 ?_
          refine G_iconst C (v := 1) rfl dX12_person_60 ?_
          refine G_iadd C dX12_person_61 ?_
          obtain ⟨σ11, hs11, h⟩ := stp_elim h
          refine G_putI C fl_X12_218_11 fp_X12_11_3 (Or.inl rfl) (Or.inl rfl) ko_81 dX12_person_62 ?_
          rw [← hs11]
          refine G_aload_n C 0 rfl rfl dX12_person_65 ?_
          refine G_getI C fl_X12_218_11 (Or.inl rfl) ko_81 dX12_person_66 ?_
          refine G_iconst C (v := 1) rfl dX12_person_69 ?_
          refine G_isub C dX12_person_70 ?_
          obtain ⟨rfl, rfl⟩ := some2 h
          exact G_iret C hr (Nat.le_of_ble_eq_true rfl) (Nat.le_of_ble_eq_true rfl) dX12_person_71
        · replace h := (if_neg hc6).symm.trans h
          refine G_iconst C (v := -1) rfl dX12_person_33 ?_
          obtain ⟨rfl, rfl⟩ := some2 h
          exact G_iret C hr (Nat.le_of_ble_eq_true rfl) (Nat.le_of_ble_eq_true rfl) dX12_person_34
  · replace h := (if_pos hc3).symm.trans h
    refine G_iconst C (v := 0) rfl dX12_person_13 ?_
    obtain ⟨rfl, rfl⟩ := some2 h
    exact G_iret C hr (Nat.le_of_ble_eq_true rfl) (Nat.le_of_ble_eq_true rfl) dX12_person_14
set_option maxRecDepth 100000 in
set_option maxHeartbeats 4000000 in
theorem eX12_work_54 (C : Cx E p s m args meth c cX12_work 8 RX12) (hr : meth.sig.returnType = (some .int)) {σ0 : Sto} {r1 : Int32} {r2 : Sto} {σ : Sto} {x1 : Int32} {x2 : Int32} {x3 : Int32} {x4 : Int32} {x5 : Int32} {x6 : Int32} {y0 : Int32} (h : mX12_work_54 x1 x2 x3 x4 x5 x6 y0 σ = some (r1, r2)) : G p l e (rmd 3 0 0) s m args below meth c E true (sZ σ0) ad0 (MQ below (QI E true σ0 r1 r2 ad0) args s 0 0 (AE E)) 8 0 0 σ 54 [(0, .ref 81), (1, .int x1), (2, .int x2), (3, .int x3), (4, .int x4), (5, .int x5), (6, .int x6)] [.int y0] := by
  unfold mX12_work_54 at h
  refine G_istore (L' := [(7, .int y0), (0, .ref 81), (1, .int x1), (2, .int x2), (3, .int x3), (4, .int x4), (5, .int x5), (6, .int x6)]) C (Nat.le_of_ble_eq_true rfl) rfl dX12_work_54 ?_
  refine G_aload_n C 1 rfl rfl dX12_work_56 ?_
  refine G_getI C fl_X12_221_11 (Or.inl rfl) ko_81 dX12_work_57 ?_
  refine G_bipush C (v := 30) rfl dX12_work_60 ?_
  refine G_icmp_eq (tgt := 98) C rfl dX12_work_62 (fun hc5 => ?_) (fun hc5 => ?_)
  · replace h := (if_pos hc5).symm.trans h
    refine G_iconst C (v := -1) rfl dX12_work_98 ?_
    obtain ⟨rfl, rfl⟩ := some2 h
    exact G_iret C hr (Nat.le_of_ble_eq_true rfl) (Nat.le_of_ble_eq_true rfl) dX12_work_99
  · replace h := (if_neg hc5).symm.trans h
    refine G_iload C 0 rfl dX12_work_65 ?_
    refine G_if_eq (tgt := 98) C rfl dX12_work_67 (fun hc6 => ?_) (fun hc6 => ?_)
    · replace h := (if_pos hc6).symm.trans h
      refine G_iconst C (v := -1) rfl dX12_work_98 ?_
      obtain ⟨rfl, rfl⟩ := some2 h
      exact G_iret C hr (Nat.le_of_ble_eq_true rfl) (Nat.le_of_ble_eq_true rfl) dX12_work_99
    · replace h := (if_neg hc6).symm.trans h
      refine G_iload C 6 rfl dX12_work_70 ?_
      refine G_iconst C (v := 1) rfl dX12_work_72 ?_
      refine G_icmp_lt (tgt := 98) C rfl dX12_work_73 (fun hc7 => ?_) (fun hc7 => ?_)
      · replace h := (if_pos hc7).symm.trans h
        refine G_iconst C (v := -1) rfl dX12_work_98 ?_
        obtain ⟨rfl, rfl⟩ := some2 h
        exact G_iret C hr (Nat.le_of_ble_eq_true rfl) (Nat.le_of_ble_eq_true rfl) dX12_work_99
      · replace h := (if_neg hc7).symm.trans h
        refine G_iload C 6 rfl dX12_work_76 ?_
        refine G_sipush C (v := 999) rfl dX12_work_78 ?_
        refine G_icmp_gt (tgt := 98) C rfl dX12_work_81 (fun hc8 => ?_) (fun hc8 => ?_)
        · replace h := (if_pos hc8).symm.trans h
          refine G_iconst C (v := -1) rfl dX12_work_98 ?_
          obtain ⟨rfl, rfl⟩ := some2 h
          exact G_iret C hr (Nat.le_of_ble_eq_true rfl) (Nat.le_of_ble_eq_true rfl) dX12_work_99
        · replace h := (if_neg hc8).symm.trans h
          refine G_iload C 7 rfl dX12_work_84 ?_
          refine G_iconst C (v := 1) rfl dX12_work_86 ?_
          refine G_icmp_lt (tgt := 98) C rfl dX12_work_87 (fun hc9 => ?_) (fun hc9 => ?_)
          · replace h := (if_pos hc9).symm.trans h
            refine G_iconst C (v := -1) rfl dX12_work_98 ?_
            obtain ⟨rfl, rfl⟩ := some2 h
            exact G_iret C hr (Nat.le_of_ble_eq_true rfl) (Nat.le_of_ble_eq_true rfl) dX12_work_99
          · replace h := (if_neg hc9).symm.trans h
            refine G_iload C 7 rfl dX12_work_90 ?_
            refine G_sipush C (v := 999) rfl dX12_work_92 ?_
            refine G_icmp_le (tgt := 100) C rfl dX12_work_95 (fun hc10 => ?_) (fun hc10 => ?_)
            · replace h := (if_pos hc10).symm.trans h
              refine G_aload_n C 1 rfl rfl dX12_work_100 ?_
              refine G_getF C fl_X12_16_11 rfl rfl fn_81_11 dX12_work_101 ?_
              refine G_aload_n C 1 rfl rfl dX12_work_104 ?_
              refine G_getI C fl_X12_221_11 (Or.inl rfl) ko_81 dX12_work_105 ?_
              refine G_iconst C (v := 1) rfl dX12_work_108 ?_
              obtain ⟨hc11, h⟩ := ifn h
              obtain ⟨σ12, hs12, h⟩ := stp_elim h
              refine G_iastore C ks_84 hc11 dX12_work_109 ?_
              rw [← hs12]
              refine G_aload_n C 1 rfl rfl dX12_work_110 ?_
              refine G_getF C fl_X12_19_11 rfl rfl fn_81_12 dX12_work_111 ?_
              refine G_iconst C (v := 3) rfl dX12_work_114 ?_
              refine G_aload_n C 1 rfl rfl dX12_work_115 ?_
              refine G_getI C fl_X12_221_11 (Or.inl rfl) ko_81 dX12_work_116 ?_
              refine G_imul C dX12_work_119 ?_
              refine G_iload_n C 2 rfl rfl dX12_work_120 ?_
              obtain ⟨hc13, h⟩ := ifn h
              obtain ⟨σ14, hs14, h⟩ := stp_elim h
              refine G_iastore C ks_85 hc13 dX12_work_121 ?_
              rw [← hs14]
              refine G_aload_n C 1 rfl rfl dX12_work_122 ?_
              refine G_getF C fl_X12_22_11 rfl rfl fn_81_13 dX12_work_123 ?_
              refine G_iconst C (v := 3) rfl dX12_work_126 ?_
              refine G_aload_n C 1 rfl rfl dX12_work_127 ?_
              refine G_getI C fl_X12_221_11 (Or.inl rfl) ko_81 dX12_work_128 ?_
              refine G_imul C dX12_work_131 ?_
              refine G_iload_n C 3 rfl rfl dX12_work_132 ?_
              obtain ⟨hc15, h⟩ := ifn h
              obtain ⟨σ16, hs16, h⟩ := stp_elim h
              refine G_iastore C ks_86 hc15 dX12_work_133 ?_
              rw [← hs16]
              refine G_aload_n C 1 rfl rfl dX12_work_134 ?_
              refine G_getF C fl_X12_25_11 rfl rfl fn_81_14 dX12_work_135 ?_
              refine G_aload_n C 1 rfl rfl dX12_work_138 ?_
              refine G_getI C fl_X12_221_11 (Or.inl rfl) ko_81 dX12_work_139 ?_
              refine G_iload_n C 4 rfl rfl dX12_work_142 ?_
              obtain ⟨hc17, h⟩ := ifn h
              obtain ⟨σ18, hs18, h⟩ := stp_elim h
              refine G_iastore C ks_87 hc17 dX12_work_143 ?_
              rw [← hs18]
              refine G_aload_n C 1 rfl rfl dX12_work_144 ?_
              refine G_getF C fl_X12_28_11 rfl rfl fn_81_15 dX12_work_145 ?_
              refine G_aload_n C 1 rfl rfl dX12_work_148 ?_
              refine G_getI C fl_X12_221_11 (Or.inl rfl) ko_81 dX12_work_149 ?_
              refine G_iload C 5 rfl dX12_work_152 ?_
              obtain ⟨hc19, h⟩ := ifn h
              obtain ⟨σ20, hs20, h⟩ := stp_elim h
              refine G_iastore C ks_88 hc19 dX12_work_154 ?_
              rw [← hs20]
              refine G_aload_n C 1 rfl rfl dX12_work_155 ?_
              refine G_getF C fl_X12_31_11 rfl rfl fn_81_16 dX12_work_156 ?_
              refine G_aload_n C 1 rfl rfl dX12_work_159 ?_
              refine G_getI C fl_X12_221_11 (Or.inl rfl) ko_81 dX12_work_160 ?_
              refine G_iload C 6 rfl dX12_work_163 ?_
              obtain ⟨hc21, h⟩ := ifn h
              obtain ⟨σ22, hs22, h⟩ := stp_elim h
              refine G_iastore C ks_89 hc21 dX12_work_165 ?_
              rw [← hs22]
              refine G_aload_n C 1 rfl rfl dX12_work_166 ?_
              refine G_getF C fl_X12_34_11 rfl rfl fn_81_17 dX12_work_167 ?_
              refine G_aload_n C 1 rfl rfl dX12_work_170 ?_
              refine G_getI C fl_X12_221_11 (Or.inl rfl) ko_81 dX12_work_171 ?_
              refine G_iload C 7 rfl dX12_work_174 ?_
              obtain ⟨hc23, h⟩ := ifn h
              obtain ⟨σ24, hs24, h⟩ := stp_elim h
              refine G_iastore C ks_90 hc23 dX12_work_176 ?_
              rw [← hs24]
              refine G_aload_n C 1 rfl rfl dX12_work_177 ?_
              refine G_getF C fl_X12_37_11 rfl rfl fn_81_18 dX12_work_178 ?_
              refine G_aload_n C 1 rfl rfl dX12_work_181 ?_
              refine G_getI C fl_X12_221_11 (Or.inl rfl) ko_81 dX12_work_182 ?_
              refine G_iconst C (v := 0) rfl dX12_work_185 ?_
              obtain ⟨hc25, h⟩ := ifn h
              obtain ⟨σ26, hs26, h⟩ := stp_elim h
              refine G_zastore C ks_91 hc25 (by decide) dX12_work_186 ?_
              rw [← hs26]
              refine G_aload_n C 1 rfl rfl dX12_work_187 ?_
              refine G_dup C rfl dX12_work_188 ?_
              refine G_getI C fl_X12_221_11 (Or.inl rfl) ko_81 dX12_work_189 ?_
              refine G_iconst C (v := 1) rfl dX12_work_192 ?_
              refine G_iadd C dX12_work_193 ?_
              obtain ⟨σ27, hs27, h⟩ := stp_elim h
              refine G_putI C fl_X12_221_11 fp_X12_11_4 (Or.inl rfl) (Or.inl rfl) ko_81 dX12_work_194 ?_
              rw [← hs27]
              refine G_aload_n C 1 rfl rfl dX12_work_197 ?_
              refine G_getI C fl_X12_221_11 (Or.inl rfl) ko_81 dX12_work_198 ?_
              refine G_iconst C (v := 1) rfl dX12_work_201 ?_
              refine G_isub C dX12_work_202 ?_
              obtain ⟨rfl, rfl⟩ := some2 h
              exact G_iret C hr (Nat.le_of_ble_eq_true rfl) (Nat.le_of_ble_eq_true rfl) dX12_work_203
            · replace h := (if_neg hc10).symm.trans h
              refine G_iconst C (v := -1) rfl dX12_work_98 ?_
              obtain ⟨rfl, rfl⟩ := some2 h
              exact G_iret C hr (Nat.le_of_ble_eq_true rfl) (Nat.le_of_ble_eq_true rfl) dX12_work_99
set_option maxRecDepth 100000 in
set_option maxHeartbeats 4000000 in
theorem eX12_work_53 (C : Cx E p s m args meth c cX12_work 8 RX12) (hr : meth.sig.returnType = (some .int)) {σ0 : Sto} {r1 : Int32} {r2 : Sto} {σ : Sto} {x1 : Int32} {x2 : Int32} {x3 : Int32} {x4 : Int32} {x5 : Int32} {x6 : Int32} (h : mX12_work_53 x1 x2 x3 x4 x5 x6 σ = some (r1, r2)) : G p l e (rmd 3 0 0) s m args below meth c E true (sZ σ0) ad0 (MQ below (QI E true σ0 r1 r2 ad0) args s 0 0 (AE E)) 8 0 0 σ 53 [(0, .ref 81), (1, .int x1), (2, .int x2), (3, .int x3), (4, .int x4), (5, .int x5), (6, .int x6)] [] := by
  unfold mX12_work_53 at h
  refine G_iconst C (v := 0) rfl dX12_work_53 ?_
  exact eX12_work_54 C hr h
set_option maxRecDepth 100000 in
set_option maxHeartbeats 4000000 in
theorem dX12_work {σ : Sto} {p0 : Int32} {p1 : Int32} {p2 : Int32} {p3 : Int32} {p4 : Int32} {p5 : Int32} {r1 : Int32} {r2 : Sto} (h : mX12_work p0 p1 p2 p3 p4 p5 σ = some (r1, r2)) : MM l yX12_work cX12_work 8 (some .int) 3 0 0 E true σ [.ref 81, .int p0, .int p1, .int p2, .int p3, .int p4, .int p5] (QI E true σ r1 r2) := by
  unfold mX12_work at h
  refine MM_of (by decide) (Nat.le_of_ble_eq_true rfl) rfl (fun p e s m args below meth c ad0 C hr hn => ?_)
  refine G_aload_n C 0 rfl rfl dX12_work_0 ?_
  refine G_iconst C (v := 0) rfl dX12_work_1 ?_
  obtain ⟨σ1, hs1, h⟩ := stp_elim h
  refine G_putI C fl_X12_208_11 fp_X12_11_0 (Or.inl rfl) (Or.inl rfl) ko_81 dX12_work_2 ?_
  rw [← hs1]
  refine G_aload_n C 0 rfl rfl dX12_work_5 ?_
  refine G_iload_n C 1 rfl rfl dX12_work_6 ?_
  obtain ⟨v2, σ2, hv2, h⟩ := bd2_elim h
  refine G_callI (run_V C [.int p0] [] (dX12_isPerson hv2) ml_X12_isPerson mv_X12_isPerson lk_X12_239 ⟨(Nat.le_of_ble_eq_true rfl), (Nat.le_of_ble_eq_true rfl)⟩ ⟨(Nat.le_of_ble_eq_true rfl), (Nat.le_of_ble_eq_true rfl)⟩ vq_11 rfl ko_81 rfl (Nat.le_of_ble_eq_true rfl) dX12_work_7) ?_
  refine G_if_ne (tgt := 15) C rfl dX12_work_10 (fun hc3 => ?_) (fun hc3 => ?_)
  · replace h := (if_neg hc3).symm.trans h
    refine G_iload_n C 2 rfl rfl dX12_work_15 ?_
    refine G_iconst C (v := 1) rfl dX12_work_16 ?_
    refine G_icmp_lt (tgt := 53) C rfl dX12_work_17 (fun hc4 => ?_) (fun hc4 => ?_)
    · replace h := (if_pos hc4).symm.trans h
      exact eX12_work_53 C hr h
    · replace h := (if_neg hc4).symm.trans h
      refine G_iload_n C 2 rfl rfl dX12_work_20 ?_
      refine G_bipush C (v := 9) rfl dX12_work_21 ?_
      refine G_icmp_gt (tgt := 53) C rfl dX12_work_23 (fun hc28 => ?_) (fun hc28 => ?_)
      · replace h := (if_pos hc28).symm.trans h
        exact eX12_work_53 C hr h
      · replace h := (if_neg hc28).symm.trans h
        refine G_iload_n C 3 rfl rfl dX12_work_26 ?_
        refine G_iconst C (v := 1) rfl dX12_work_27 ?_
        refine G_icmp_lt (tgt := 53) C rfl dX12_work_28 (fun hc29 => ?_) (fun hc29 => ?_)
        · replace h := (if_pos hc29).symm.trans h
          exact eX12_work_53 C hr h
        · replace h := (if_neg hc29).symm.trans h
          refine G_iload_n C 3 rfl rfl dX12_work_31 ?_
          refine G_bipush C (v := 99) rfl dX12_work_32 ?_
          refine G_icmp_gt (tgt := 53) C rfl dX12_work_34 (fun hc30 => ?_) (fun hc30 => ?_)
          · replace h := (if_pos hc30).symm.trans h
            exact eX12_work_53 C hr h
          · replace h := (if_neg hc30).symm.trans h
            refine G_iload C 4 rfl dX12_work_37 ?_
            refine G_if_lt (tgt := 53) C rfl dX12_work_39 (fun hc31 => ?_) (fun hc31 => ?_)
            · replace h := (if_pos hc31).symm.trans h
              exact eX12_work_53 C hr h
            · replace h := (if_neg hc31).symm.trans h
              refine G_iload C 4 rfl dX12_work_42 ?_
              refine G_ldc C kc_X12_242 dX12_work_44 ?_
              refine G_icmp_gt (tgt := 53) C rfl dX12_work_46 (fun hc32 => ?_) (fun hc32 => ?_)
              · replace h := (if_pos hc32).symm.trans h
                exact eX12_work_53 C hr h
              · replace h := (if_neg hc32).symm.trans h
                refine G_iconst C (v := 1) rfl dX12_work_49 ?_
                refine G_goto (tgt := 54) C rfl dX12_work_50 ?_
                exact eX12_work_54 C hr h
  · replace h := (if_pos hc3).symm.trans h
    refine G_iconst C (v := 0) rfl dX12_work_13 ?_
    obtain ⟨rfl, rfl⟩ := some2 h
    exact G_iret C hr (Nat.le_of_ble_eq_true rfl) (Nat.le_of_ble_eq_true rfl) dX12_work_14
set_option maxRecDepth 100000 in
set_option maxHeartbeats 4000000 in
theorem eX12_isBy_5B (C : Cx E p s m args meth c cX12_isBy 5 RX12) (hr : meth.sig.returnType = (some .boolean)) {r : Int32} {σ : Sto} {f5 : Int32 → Int32 → Int32 → Int32 → Sto → Option Int32} {x1 : Int32} {x2 : Int32} {x3 : Int32} {x4 : Int32} (hf5 : ∀ (x1 : Int32) (x2 : Int32) (x3 : Int32) (x4 : Int32), f5 x1 x2 x3 x4 σ = some r → G p l e (rmd 1 0 0) s m args below meth c E true (sZ σ) ad0 (MQ below (QI E true σ r σ ad0) args s 0 0 (AE E)) 5 0 0 σ 5 [(0, .ref 81), (1, .int x1), (2, .int x2), (3, .int x3), (4, .int x4)] []) (h : mX12_isBy_5B f5 x1 x2 x3 x4 σ = some r) : G p l e (rmd 1 0 0) s m args below meth c E true (sZ σ) ad0 (MQ below (QI E true σ r σ ad0) args s 0 0 (AE E)) 5 0 0 σ 5 [(0, .ref 81), (1, .int x1), (2, .int x2), (3, .int x3), (4, .int x4)] [] := by
  unfold mX12_isBy_5B at h
  refine G_iload C 4 rfl dX12_isBy_5 ?_
  refine G_aload_n C 0 rfl rfl dX12_isBy_7 ?_
  refine G_getF C fl_X12_16_11 rfl rfl fn_81_11 dX12_isBy_8 ?_
  refine G_iload_n C 1 rfl rfl dX12_isBy_11 ?_
  obtain ⟨hc1, h⟩ := ifn h
  refine G_iaload C ks_84 hc1 dX12_isBy_12 ?_
  refine G_icmp_ge (tgt := 47) C rfl dX12_isBy_13 (fun hc2 => ?_) (fun hc2 => ?_)
  · replace h := (if_pos hc2).symm.trans h
    refine G_iload_n C 3 rfl rfl dX12_isBy_47 ?_
    obtain ⟨hc3, h⟩ := ifn h
    obtain rfl := Option.some.inj h
    exact G_zret C hc3 hr (Nat.le_of_ble_eq_true rfl) (Nat.le_of_ble_eq_true rfl) dX12_isBy_48
  · replace h := (if_neg hc2).symm.trans h
    refine G_iload_n C 3 rfl rfl dX12_isBy_16 ?_
    refine G_if_ne (tgt := 35) C rfl dX12_isBy_17 (fun hc4 => ?_) (fun hc4 => ?_)
    · replace h := (if_neg hc4).symm.trans h
      refine G_iconst C (v := 1) rfl dX12_isBy_35 ?_
      refine G_goto (tgt := 40) C rfl dX12_isBy_36 ?_
      refine G_istore_n (L' := [(3, .int (1 : Int32)), (0, .ref 81), (1, .int x1), (2, .int x2), (4, .int x4)]) C rfl (Nat.le_of_ble_eq_true rfl) rfl dX12_isBy_40 ?_
      refine G_iinc (v := 1) (L' := [(4, .int (x4 + (1 : Int32))), (3, .int (1 : Int32)), (0, .ref 81), (1, .int x1), (2, .int x2)]) C 4 rfl rfl (Nat.le_of_ble_eq_true rfl) rfl dX12_isBy_41 ?_
      refine G_goto (tgt := 5) C rfl dX12_isBy_44 ?_
      refine G_sub [2, 3, 4, 1, 0] rfl ?_
      exact hf5 _ _ _ _ h
    · replace h := (if_pos hc4).symm.trans h
      refine G_aload_n C 0 rfl rfl dX12_isBy_20 ?_
      refine G_getF C fl_X12_19_11 rfl rfl fn_81_12 dX12_isBy_21 ?_
      refine G_iconst C (v := 3) rfl dX12_isBy_24 ?_
      refine G_iload_n C 1 rfl rfl dX12_isBy_25 ?_
      refine G_imul C dX12_isBy_26 ?_
      refine G_iload C 4 rfl dX12_isBy_27 ?_
      refine G_iadd C dX12_isBy_29 ?_
      obtain ⟨hc5, h⟩ := ifn h
      refine G_iaload C ks_85 hc5 dX12_isBy_30 ?_
      refine G_iload_n C 2 rfl rfl dX12_isBy_31 ?_
      refine G_icmp_ne (tgt := 39) C rfl dX12_isBy_32 (fun hc6 => ?_) (fun hc6 => ?_)
      · replace h := (if_neg hc6).symm.trans h
        refine G_iconst C (v := 0) rfl dX12_isBy_39 ?_
        refine G_istore_n (L' := [(3, .int (0 : Int32)), (0, .ref 81), (1, .int x1), (2, .int x2), (4, .int x4)]) C rfl (Nat.le_of_ble_eq_true rfl) rfl dX12_isBy_40 ?_
        refine G_iinc (v := 1) (L' := [(4, .int (x4 + (1 : Int32))), (3, .int (0 : Int32)), (0, .ref 81), (1, .int x1), (2, .int x2)]) C 4 rfl rfl (Nat.le_of_ble_eq_true rfl) rfl dX12_isBy_41 ?_
        refine G_goto (tgt := 5) C rfl dX12_isBy_44 ?_
        refine G_sub [2, 3, 4, 1, 0] rfl ?_
        exact hf5 _ _ _ _ h
      · replace h := (if_pos hc6).symm.trans h
        refine G_iconst C (v := 1) rfl dX12_isBy_35 ?_
        refine G_goto (tgt := 40) C rfl dX12_isBy_36 ?_
        refine G_istore_n (L' := [(3, .int (1 : Int32)), (0, .ref 81), (1, .int x1), (2, .int x2), (4, .int x4)]) C rfl (Nat.le_of_ble_eq_true rfl) rfl dX12_isBy_40 ?_
        refine G_iinc (v := 1) (L' := [(4, .int (x4 + (1 : Int32))), (3, .int (1 : Int32)), (0, .ref 81), (1, .int x1), (2, .int x2)]) C 4 rfl rfl (Nat.le_of_ble_eq_true rfl) rfl dX12_isBy_41 ?_
        refine G_goto (tgt := 5) C rfl dX12_isBy_44 ?_
        refine G_sub [2, 3, 4, 1, 0] rfl ?_
        exact hf5 _ _ _ _ h
set_option maxRecDepth 100000 in
set_option maxHeartbeats 4000000 in
theorem eX12_isBy_5 (C : Cx E p s m args meth c cX12_isBy 5 RX12) (hr : meth.sig.returnType = (some .boolean)) {r : Int32} {σ : Sto} {n : Nat} {x1 : Int32} {x2 : Int32} {x3 : Int32} {x4 : Int32} (h : mX12_isBy_5 n x1 x2 x3 x4 σ = some r) : G p l e (rmd 1 0 0) s m args below meth c E true (sZ σ) ad0 (MQ below (QI E true σ r σ ad0) args s 0 0 (AE E)) 5 0 0 σ 5 [(0, .ref 81), (1, .int x1), (2, .int x2), (3, .int x3), (4, .int x4)] [] := by
  induction n generalizing x1 x2 x3 x4 with
  | zero => exact nomatch (show (none : Option Int32) = some r from h)
  | succ n ih => exact eX12_isBy_5B C hr (fun z0 z1 z2 z3 h9 => ih h9) h
set_option maxRecDepth 100000 in
set_option maxHeartbeats 4000000 in
theorem dX12_isBy {σ : Sto} {p0 : Int32} {p1 : Int32} {r : Int32} (h : mX12_isBy p0 p1 σ = some r) : MM l yX12_isBy cX12_isBy 5 (some .boolean) 1 0 0 E true σ [.ref 81, .int p0, .int p1] (QI E true σ r σ) := by
  unfold mX12_isBy at h
  refine MM_of (by decide) (Nat.le_of_ble_eq_true rfl) rfl (fun p e s m args below meth c ad0 C hr hn => ?_)
  refine G_iconst C (v := 0) rfl dX12_isBy_0 ?_
  refine G_istore_n (L' := [(3, .int (0 : Int32)), (0, .ref 81), (1, .int p0), (2, .int p1)]) C rfl (Nat.le_of_ble_eq_true rfl) rfl dX12_isBy_1 ?_
  refine G_iconst C (v := 0) rfl dX12_isBy_2 ?_
  refine G_istore (L' := [(4, .int (0 : Int32)), (3, .int (0 : Int32)), (0, .ref 81), (1, .int p0), (2, .int p1)]) C (Nat.le_of_ble_eq_true rfl) rfl dX12_isBy_3 ?_
  refine G_sub [2, 3, 4, 1, 0] rfl ?_
  exact eX12_isBy_5 C hr h
set_option maxRecDepth 100000 in
set_option maxHeartbeats 4000000 in
theorem dX12_joins {σ : Sto} {p0 : Int32} {p1 : Int32} {p2 : Int32} {r1 : Int32} {r2 : Sto} (h : mX12_joins p0 p1 p2 σ = some (r1, r2)) : MM l yX12_joins cX12_joins 4 (some .int) 3 0 0 E true σ [.ref 81, .int p0, .int p1, .int p2] (QI E true σ r1 r2) := by
  unfold mX12_joins at h
  refine MM_of (by decide) (Nat.le_of_ble_eq_true rfl) rfl (fun p e s m args below meth c ad0 C hr hn => ?_)
  refine G_aload_n C 0 rfl rfl dX12_joins_0 ?_
  refine G_iconst C (v := 0) rfl dX12_joins_1 ?_
  obtain ⟨σ1, hs1, h⟩ := stp_elim h
  refine G_putI C fl_X12_208_11 fp_X12_11_0 (Or.inl rfl) (Or.inl rfl) ko_81 dX12_joins_2 ?_
  rw [← hs1]
  refine G_aload_n C 0 rfl rfl dX12_joins_5 ?_
  refine G_iload_n C 1 rfl rfl dX12_joins_6 ?_
  obtain ⟨v2, σ2, hv2, h⟩ := bd2_elim h
  refine G_callI (run_V C [.int p0] [] (dX12_isWork hv2) ml_X12_isWork mv_X12_isWork lk_X12_243 ⟨(Nat.le_of_ble_eq_true rfl), (Nat.le_of_ble_eq_true rfl)⟩ ⟨(Nat.le_of_ble_eq_true rfl), (Nat.le_of_ble_eq_true rfl)⟩ vq_11 rfl ko_81 rfl (Nat.le_of_ble_eq_true rfl) dX12_joins_7) ?_
  refine G_if_eq (tgt := 21) C rfl dX12_joins_10 (fun hc3 => ?_) (fun hc3 => ?_)
  · replace h := (if_pos hc3).symm.trans h
    refine G_iconst C (v := 0) rfl dX12_joins_21 ?_
    obtain ⟨rfl, rfl⟩ := some2 h
    exact G_iret C hr (Nat.le_of_ble_eq_true rfl) (Nat.le_of_ble_eq_true rfl) dX12_joins_22
  · replace h := (if_neg hc3).symm.trans h
    refine G_aload_n C 0 rfl rfl dX12_joins_13 ?_
    refine G_iload_n C 2 rfl rfl dX12_joins_14 ?_
    obtain ⟨v4, σ4, hv4, h⟩ := bd2_elim h
    refine G_callI (run_V C [.int p1] [] (dX12_isPerson hv4) ml_X12_isPerson mv_X12_isPerson lk_X12_239 ⟨(Nat.le_of_ble_eq_true rfl), (Nat.le_of_ble_eq_true rfl)⟩ ⟨(Nat.le_of_ble_eq_true rfl), (Nat.le_of_ble_eq_true rfl)⟩ vq_11 rfl ko_81 rfl (Nat.le_of_ble_eq_true rfl) dX12_joins_15) ?_
    refine G_if_ne (tgt := 23) C rfl dX12_joins_18 (fun hc5 => ?_) (fun hc5 => ?_)
    · replace h := (if_neg hc5).symm.trans h
      refine G_aload_n C 0 rfl rfl dX12_joins_23 ?_
      refine G_getF C fl_X12_16_11 rfl rfl fn_81_11 dX12_joins_24 ?_
      refine G_iload_n C 1 rfl rfl dX12_joins_27 ?_
      obtain ⟨hc6, h⟩ := ifn h
      refine G_iaload C ks_84 hc6 dX12_joins_28 ?_
      refine G_iconst C (v := 3) rfl dX12_joins_29 ?_
      refine G_icmp_eq (tgt := 62) C rfl dX12_joins_30 (fun hc7 => ?_) (fun hc7 => ?_)
      · replace h := (if_pos hc7).symm.trans h
        refine G_iconst C (v := -1) rfl dX12_joins_62 ?_
        obtain ⟨rfl, rfl⟩ := some2 h
        exact G_iret C hr (Nat.le_of_ble_eq_true rfl) (Nat.le_of_ble_eq_true rfl) dX12_joins_63
      · replace h := (if_neg hc7).symm.trans h
        refine G_aload_n C 0 rfl rfl dX12_joins_33 ?_
        refine G_iload_n C 1 rfl rfl dX12_joins_34 ?_
        refine G_iload_n C 2 rfl rfl dX12_joins_35 ?_
        obtain ⟨v8, hv8, h⟩ := bnd h
        refine G_callI (run_V C [.int p0, .int p1] [] (dX12_isBy hv8) ml_X12_isBy mv_X12_isBy lk_X12_246 ⟨(Nat.le_of_ble_eq_true rfl), (Nat.le_of_ble_eq_true rfl)⟩ ⟨(Nat.le_of_ble_eq_true rfl), (Nat.le_of_ble_eq_true rfl)⟩ vq_11 rfl ko_81 rfl (Nat.le_of_ble_eq_true rfl) dX12_joins_36) ?_
        refine G_if_ne (tgt := 62) C rfl dX12_joins_39 (fun hc9 => ?_) (fun hc9 => ?_)
        · replace h := (if_neg hc9).symm.trans h
          refine G_iconst C (v := -1) rfl dX12_joins_62 ?_
          obtain ⟨rfl, rfl⟩ := some2 h
          exact G_iret C hr (Nat.le_of_ble_eq_true rfl) (Nat.le_of_ble_eq_true rfl) dX12_joins_63
        · replace h := (if_pos hc9).symm.trans h
          refine G_iload_n C 3 rfl rfl dX12_joins_42 ?_
          refine G_iconst C (v := 1) rfl dX12_joins_43 ?_
          refine G_icmp_lt (tgt := 62) C rfl dX12_joins_44 (fun hc10 => ?_) (fun hc10 => ?_)
          · replace h := (if_pos hc10).symm.trans h
            refine G_iconst C (v := -1) rfl dX12_joins_62 ?_
            obtain ⟨rfl, rfl⟩ := some2 h
            exact G_iret C hr (Nat.le_of_ble_eq_true rfl) (Nat.le_of_ble_eq_true rfl) dX12_joins_63
          · replace h := (if_neg hc10).symm.trans h
            refine G_iload_n C 3 rfl rfl dX12_joins_47 ?_
            refine G_bipush C (v := 9) rfl dX12_joins_48 ?_
            refine G_icmp_gt (tgt := 62) C rfl dX12_joins_50 (fun hc11 => ?_) (fun hc11 => ?_)
            · replace h := (if_pos hc11).symm.trans h
              refine G_iconst C (v := -1) rfl dX12_joins_62 ?_
              obtain ⟨rfl, rfl⟩ := some2 h
              exact G_iret C hr (Nat.le_of_ble_eq_true rfl) (Nat.le_of_ble_eq_true rfl) dX12_joins_63
            · replace h := (if_neg hc11).symm.trans h
              refine G_aload_n C 0 rfl rfl dX12_joins_53 ?_
              refine G_getF C fl_X12_37_11 rfl rfl fn_81_18 dX12_joins_54 ?_
              refine G_iload_n C 1 rfl rfl dX12_joins_57 ?_
              refine G_zaload C ks_91 hc6 dX12_joins_58 ?_
              refine G_if_eq (tgt := 64) C rfl dX12_joins_59 (fun hc12 => ?_) (fun hc12 => ?_)
              · replace h := (if_pos hc12).symm.trans h
                refine G_aload_n C 0 rfl rfl dX12_joins_64 ?_
                refine G_getF C fl_X12_19_11 rfl rfl fn_81_12 dX12_joins_65 ?_
                refine G_iconst C (v := 3) rfl dX12_joins_68 ?_
                refine G_iload_n C 1 rfl rfl dX12_joins_69 ?_
                refine G_imul C dX12_joins_70 ?_
                refine G_aload_n C 0 rfl rfl dX12_joins_71 ?_
                refine G_getF C fl_X12_16_11 rfl rfl fn_81_11 dX12_joins_72 ?_
                refine G_iload_n C 1 rfl rfl dX12_joins_75 ?_
                refine G_iaload C ks_84 hc6 dX12_joins_76 ?_
                refine G_iadd C dX12_joins_77 ?_
                refine G_iload_n C 2 rfl rfl dX12_joins_78 ?_
                obtain ⟨hc13, h⟩ := ifn h
                obtain ⟨σ14, hs14, h⟩ := stp_elim h
                refine G_iastore C ks_85 hc13 dX12_joins_79 ?_
                rw [← hs14]
                refine G_aload_n C 0 rfl rfl dX12_joins_80 ?_
                refine G_getF C fl_X12_22_11 rfl rfl fn_81_13 dX12_joins_81 ?_
                refine G_iconst C (v := 3) rfl dX12_joins_84 ?_
                refine G_iload_n C 1 rfl rfl dX12_joins_85 ?_
                refine G_imul C dX12_joins_86 ?_
                refine G_aload_n C 0 rfl rfl dX12_joins_87 ?_
                refine G_getF C fl_X12_16_11 rfl rfl fn_81_11 dX12_joins_88 ?_
                refine G_iload_n C 1 rfl rfl dX12_joins_91 ?_
                refine G_iaload C ks_84 hc6 dX12_joins_92 ?_
                refine G_iadd C dX12_joins_93 ?_
                refine G_iload_n C 3 rfl rfl dX12_joins_94 ?_
                obtain ⟨hc15, h⟩ := ifn h
                obtain ⟨σ16, hs16, h⟩ := stp_elim h
                refine G_iastore C ks_86 hc15 dX12_joins_95 ?_
                rw [← hs16]
                refine G_aload_n C 0 rfl rfl dX12_joins_96 ?_
                refine G_getF C fl_X12_16_11 rfl rfl fn_81_11 dX12_joins_97 ?_
                refine G_iload_n C 1 rfl rfl dX12_joins_100 ?_
                refine G_dup2 C rfl rfl dX12_joins_101 ?_
                refine G_iaload C ks_84 hc6 dX12_joins_102 ?_
                refine G_iconst C (v := 1) rfl dX12_joins_103 ?_
                refine G_iadd C dX12_joins_104 ?_
                obtain ⟨σ17, hs17, h⟩ := stp_elim h
                refine G_iastore C ks_84 hc6 dX12_joins_105 ?_
                rw [← hs17]
                refine G_aload_n C 0 rfl rfl dX12_joins_106 ?_
                refine G_getF C fl_X12_16_11 rfl rfl fn_81_11 dX12_joins_107 ?_
                refine G_iload_n C 1 rfl rfl dX12_joins_110 ?_
                refine G_iaload C ks_84 hc6 dX12_joins_111 ?_
                obtain ⟨rfl, rfl⟩ := some2 h
                exact G_iret C hr (Nat.le_of_ble_eq_true rfl) (Nat.le_of_ble_eq_true rfl) dX12_joins_112
              · replace h := (if_neg hc12).symm.trans h
                refine G_iconst C (v := -1) rfl dX12_joins_62 ?_
                obtain ⟨rfl, rfl⟩ := some2 h
                exact G_iret C hr (Nat.le_of_ble_eq_true rfl) (Nat.le_of_ble_eq_true rfl) dX12_joins_63
    · replace h := (if_pos hc5).symm.trans h
      refine G_iconst C (v := 0) rfl dX12_joins_21 ?_
      obtain ⟨rfl, rfl⟩ := some2 h
      exact G_iret C hr (Nat.le_of_ble_eq_true rfl) (Nat.le_of_ble_eq_true rfl) dX12_joins_22
set_option maxRecDepth 100000 in
set_option maxHeartbeats 4000000 in
theorem dX12_society {σ : Sto} {p0 : Int32} {p1 : Int32} {r1 : Int32} {r2 : Sto} (h : mX12_society p0 p1 σ = some (r1, r2)) : MM l yX12_society cX12_society 3 (some .int) 3 0 0 E true σ [.ref 81, .int p0, .int p1] (QI E true σ r1 r2) := by
  unfold mX12_society at h
  refine MM_of (by decide) (Nat.le_of_ble_eq_true rfl) rfl (fun p e s m args below meth c ad0 C hr hn => ?_)
  refine G_aload_n C 0 rfl rfl dX12_society_0 ?_
  refine G_iconst C (v := 0) rfl dX12_society_1 ?_
  obtain ⟨σ1, hs1, h⟩ := stp_elim h
  refine G_putI C fl_X12_208_11 fp_X12_11_0 (Or.inl rfl) (Or.inl rfl) ko_81 dX12_society_2 ?_
  rw [← hs1]
  refine G_aload_n C 0 rfl rfl dX12_society_5 ?_
  refine G_iload_n C 1 rfl rfl dX12_society_6 ?_
  obtain ⟨v2, σ2, hv2, h⟩ := bd2_elim h
  refine G_callI (run_V C [.int p0] [] (dX12_isLand hv2) ml_X12_isLand mv_X12_isLand lk_X12_228 ⟨(Nat.le_of_ble_eq_true rfl), (Nat.le_of_ble_eq_true rfl)⟩ ⟨(Nat.le_of_ble_eq_true rfl), (Nat.le_of_ble_eq_true rfl)⟩ vq_11 rfl ko_81 rfl (Nat.le_of_ble_eq_true rfl) dX12_society_7) ?_
  refine G_if_ne (tgt := 15) C rfl dX12_society_10 (fun hc3 => ?_) (fun hc3 => ?_)
  · replace h := (if_neg hc3).symm.trans h
    refine G_aload_n C 0 rfl rfl dX12_society_15 ?_
    refine G_getI C fl_X12_224_11 (Or.inl rfl) ko_81 dX12_society_16 ?_
    refine G_iconst C (v := 5) rfl dX12_society_19 ?_
    refine G_icmp_eq (tgt := 34) C rfl dX12_society_20 (fun hc4 => ?_) (fun hc4 => ?_)
    · replace h := (if_pos hc4).symm.trans h
      refine G_iconst C (v := -1) rfl dX12_society_34 ?_
      obtain ⟨rfl, rfl⟩ := some2 h
      exact G_iret C hr (Nat.le_of_ble_eq_true rfl) (Nat.le_of_ble_eq_true rfl) dX12_society_35
    · replace h := (if_neg hc4).symm.trans h
      refine G_iload_n C 2 rfl rfl dX12_society_23 ?_
      refine G_if_lt (tgt := 34) C rfl dX12_society_24 (fun hc5 => ?_) (fun hc5 => ?_)
      · replace h := (if_pos hc5).symm.trans h
        refine G_iconst C (v := -1) rfl dX12_society_34 ?_
        obtain ⟨rfl, rfl⟩ := some2 h
        exact G_iret C hr (Nat.le_of_ble_eq_true rfl) (Nat.le_of_ble_eq_true rfl) dX12_society_35
      · replace h := (if_neg hc5).symm.trans h
        refine G_iload_n C 2 rfl rfl dX12_society_27 ?_
        refine G_sipush C (v := 300) rfl dX12_society_28 ?_
        refine G_icmp_le (tgt := 36) C rfl dX12_society_31 (fun hc6 => ?_) (fun hc6 => ?_)
        · replace h := (if_pos hc6).symm.trans h
          refine G_aload_n C 0 rfl rfl dX12_society_36 ?_
          refine G_getF C fl_X12_41_11 rfl rfl fn_81_19 dX12_society_37 ?_
          refine G_aload_n C 0 rfl rfl dX12_society_40 ?_
          refine G_getI C fl_X12_224_11 (Or.inl rfl) ko_81 dX12_society_41 ?_
          refine G_iload_n C 1 rfl rfl dX12_society_44 ?_
          obtain ⟨hc7, h⟩ := ifn h
          obtain ⟨σ8, hs8, h⟩ := stp_elim h
          refine G_iastore C ks_92 hc7 dX12_society_45 ?_
          rw [← hs8]
          refine G_aload_n C 0 rfl rfl dX12_society_46 ?_
          refine G_getF C fl_X12_44_11 rfl rfl fn_81_20 dX12_society_47 ?_
          refine G_aload_n C 0 rfl rfl dX12_society_50 ?_
          refine G_getI C fl_X12_224_11 (Or.inl rfl) ko_81 dX12_society_51 ?_
          refine G_iload_n C 2 rfl rfl dX12_society_54 ?_
          obtain ⟨hc9, h⟩ := ifn h
          obtain ⟨σ10, hs10, h⟩ := stp_elim h
          refine G_iastore C ks_93 hc9 dX12_society_55 ?_
          rw [← hs10]
          refine G_aload_n C 0 rfl rfl dX12_society_56 ?_
          refine G_dup C rfl dX12_society_57 ?_
          refine G_getI C fl_X12_224_11 (Or.inl rfl) ko_81 dX12_society_58 ?_
          refine G_iconst C (v := 1) rfl dX12_society_61 ?_
          refine G_iadd C dX12_society_62 ?_
          obtain ⟨σ11, hs11, h⟩ := stp_elim h
          refine G_putI C fl_X12_224_11 fp_X12_11_5 (Or.inl rfl) (Or.inl rfl) ko_81 dX12_society_63 ?_
          rw [← hs11]
          refine G_aload_n C 0 rfl rfl dX12_society_66 ?_
          refine G_getI C fl_X12_224_11 (Or.inl rfl) ko_81 dX12_society_67 ?_
          refine G_iconst C (v := 1) rfl dX12_society_70 ?_
          refine G_isub C dX12_society_71 ?_
          obtain ⟨rfl, rfl⟩ := some2 h
          exact G_iret C hr (Nat.le_of_ble_eq_true rfl) (Nat.le_of_ble_eq_true rfl) dX12_society_72
        · replace h := (if_neg hc6).symm.trans h
          refine G_iconst C (v := -1) rfl dX12_society_34 ?_
          obtain ⟨rfl, rfl⟩ := some2 h
          exact G_iret C hr (Nat.le_of_ble_eq_true rfl) (Nat.le_of_ble_eq_true rfl) dX12_society_35
  · replace h := (if_pos hc3).symm.trans h
    refine G_iconst C (v := 0) rfl dX12_society_13 ?_
    obtain ⟨rfl, rfl⟩ := some2 h
    exact G_iret C hr (Nat.le_of_ble_eq_true rfl) (Nat.le_of_ble_eq_true rfl) dX12_society_14
set_option maxRecDepth 100000 in
set_option maxHeartbeats 4000000 in
theorem eX12_evenings_34 (C : Cx E p s m args meth c cX12_evenings 2 RX12) (hr : meth.sig.returnType = (some .int)) {σ0 : Sto} {r1 : Int32} {r2 : Sto} {σ : Sto} {x1 : Int32} {y1 : Int32} (h : mX12_evenings_34 x1 y1 σ = some (r1, r2)) : G p l e (rmd 2 0 0) s m args below meth c E true (sZ σ0) ad0 (MQ below (QI E true σ0 r1 r2 ad0) args s 0 0 (AE E)) 2 0 0 σ 34 [(0, .ref 81), (1, .int x1)] [.int y1, .ref 81] := by
  unfold mX12_evenings_34 at h
  refine G_iconst C (v := 1) rfl dX12_evenings_34 ?_
  obtain ⟨v3, σ3, hv3, h⟩ := bd2_elim h
  refine G_callI (run_V C [.int y1, .int (1 : Int32)] [] (dX12_right hv3) ml_X12_right mv_X12_right lk_X12_214 ⟨(Nat.le_of_ble_eq_true rfl), (Nat.le_of_ble_eq_true rfl)⟩ ⟨(Nat.le_of_ble_eq_true rfl), (Nat.le_of_ble_eq_true rfl)⟩ vq_11 rfl ko_81 rfl (Nat.le_of_ble_eq_true rfl) dX12_evenings_35) ?_
  refine G_if_ne (tgt := 43) C rfl dX12_evenings_38 (fun hc4 => ?_) (fun hc4 => ?_)
  · replace h := (if_neg hc4).symm.trans h
    refine G_aload_n C 0 rfl rfl dX12_evenings_43 ?_
    refine G_dup C rfl dX12_evenings_44 ?_
    refine G_getI C fl_X12_250_11 (Or.inl rfl) ko_81 dX12_evenings_45 ?_
    refine G_iload_n C 1 rfl rfl dX12_evenings_48 ?_
    refine G_iadd C dX12_evenings_49 ?_
    obtain ⟨σ5, hs5, h⟩ := stp_elim h
    refine G_putI C fl_X12_250_11 fp_X12_11_1 (Or.inl rfl) (Or.inl rfl) ko_81 dX12_evenings_50 ?_
    rw [← hs5]
    refine G_aload_n C 0 rfl rfl dX12_evenings_53 ?_
    refine G_getI C fl_X12_250_11 (Or.inl rfl) ko_81 dX12_evenings_54 ?_
    obtain ⟨rfl, rfl⟩ := some2 h
    exact G_iret C hr (Nat.le_of_ble_eq_true rfl) (Nat.le_of_ble_eq_true rfl) dX12_evenings_57
  · replace h := (if_pos hc4).symm.trans h
    refine G_iconst C (v := 0) rfl dX12_evenings_41 ?_
    obtain ⟨rfl, rfl⟩ := some2 h
    exact G_iret C hr (Nat.le_of_ble_eq_true rfl) (Nat.le_of_ble_eq_true rfl) dX12_evenings_42
set_option maxRecDepth 100000 in
set_option maxHeartbeats 4000000 in
theorem eX12_evenings_33 (C : Cx E p s m args meth c cX12_evenings 2 RX12) (hr : meth.sig.returnType = (some .int)) {σ0 : Sto} {r1 : Int32} {r2 : Sto} {σ : Sto} {x1 : Int32} (h : mX12_evenings_33 x1 σ = some (r1, r2)) : G p l e (rmd 2 0 0) s m args below meth c E true (sZ σ0) ad0 (MQ below (QI E true σ0 r1 r2 ad0) args s 0 0 (AE E)) 2 0 0 σ 33 [(0, .ref 81), (1, .int x1)] [.ref 81] := by
  unfold mX12_evenings_33 at h
  refine G_iconst C (v := 0) rfl dX12_evenings_33 ?_
  exact eX12_evenings_34 C hr h
set_option maxRecDepth 100000 in
set_option maxHeartbeats 4000000 in
theorem dX12_evenings {σ : Sto} {p0 : Int32} {r1 : Int32} {r2 : Sto} (h : mX12_evenings p0 σ = some (r1, r2)) : MM l yX12_evenings cX12_evenings 2 (some .int) 2 0 0 E true σ [.ref 81, .int p0] (QI E true σ r1 r2) := by
  unfold mX12_evenings at h
  refine MM_of (by decide) (Nat.le_of_ble_eq_true rfl) rfl (fun p e s m args below meth c ad0 C hr hn => ?_)
  refine G_aload_n C 0 rfl rfl dX12_evenings_0 ?_
  refine G_iconst C (v := 0) rfl dX12_evenings_1 ?_
  obtain ⟨σ1, hs1, h⟩ := stp_elim h
  refine G_putI C fl_X12_208_11 fp_X12_11_0 (Or.inl rfl) (Or.inl rfl) ko_81 dX12_evenings_2 ?_
  rw [← hs1]
  refine G_aload_n C 0 rfl rfl dX12_evenings_5 ?_
  refine G_iload_n C 1 rfl rfl dX12_evenings_6 ?_
  refine G_if_lt (tgt := 33) C rfl dX12_evenings_7 (fun hc2 => ?_) (fun hc2 => ?_)
  · replace h := (if_pos hc2).symm.trans h
    exact eX12_evenings_33 C hr h
  · replace h := (if_neg hc2).symm.trans h
    refine G_iload_n C 1 rfl rfl dX12_evenings_10 ?_
    refine G_sipush C (v := 999) rfl dX12_evenings_11 ?_
    refine G_icmp_gt (tgt := 33) C rfl dX12_evenings_14 (fun hc6 => ?_) (fun hc6 => ?_)
    · replace h := (if_pos hc6).symm.trans h
      exact eX12_evenings_33 C hr h
    · replace h := (if_neg hc6).symm.trans h
      refine G_iload_n C 1 rfl rfl dX12_evenings_17 ?_
      refine G_sipush C (v := 999) rfl dX12_evenings_18 ?_
      refine G_aload_n C 0 rfl rfl dX12_evenings_21 ?_
      refine G_getI C fl_X12_250_11 (Or.inl rfl) ko_81 dX12_evenings_22 ?_
      refine G_isub C dX12_evenings_25 ?_
      refine G_icmp_gt (tgt := 33) C rfl dX12_evenings_26 (fun hc7 => ?_) (fun hc7 => ?_)
      · replace h := (if_pos hc7).symm.trans h
        exact eX12_evenings_33 C hr h
      · replace h := (if_neg hc7).symm.trans h
        refine G_iconst C (v := 1) rfl dX12_evenings_29 ?_
        refine G_goto (tgt := 34) C rfl dX12_evenings_30 ?_
        exact eX12_evenings_34 C hr h
set_option maxRecDepth 100000 in
set_option maxHeartbeats 4000000 in
theorem dX12_tells {σ : Sto} {p0 : Int32} {p1 : Int32} {p2 : Int32} {p3 : Int32} {r1 : Int32} {r2 : Sto} (h : mX12_tells p0 p1 p2 p3 σ = some (r1, r2)) : MM l yX12_tells cX12_tells 5 (some .int) 1 0 0 E true σ [.ref 81, .int p0, .int p1, .int p2, .int p3] (QI E true σ r1 r2) := by
  unfold mX12_tells at h
  refine MM_of (by decide) (Nat.le_of_ble_eq_true rfl) rfl (fun p e s m args below meth c ad0 C hr hn => ?_)
  refine G_aload_n C 0 rfl rfl dX12_tells_0 ?_
  refine G_getF C fl_X12_56_11 rfl rfl fn_81_24 dX12_tells_1 ?_
  refine G_aload_n C 0 rfl rfl dX12_tells_4 ?_
  refine G_getI C fl_X12_253_11 (Or.inl rfl) ko_81 dX12_tells_5 ?_
  refine G_iload_n C 1 rfl rfl dX12_tells_8 ?_
  obtain ⟨hc1, h⟩ := ifn h
  obtain ⟨σ2, hs2, h⟩ := stp_elim h
  refine G_iastore C ks_97 hc1 dX12_tells_9 ?_
  rw [← hs2]
  refine G_aload_n C 0 rfl rfl dX12_tells_10 ?_
  refine G_getF C fl_X12_59_11 rfl rfl fn_81_25 dX12_tells_11 ?_
  refine G_aload_n C 0 rfl rfl dX12_tells_14 ?_
  refine G_getI C fl_X12_253_11 (Or.inl rfl) ko_81 dX12_tells_15 ?_
  refine G_iconst C (v := -1) rfl dX12_tells_18 ?_
  obtain ⟨hc3, h⟩ := ifn h
  obtain ⟨σ4, hs4, h⟩ := stp_elim h
  refine G_iastore C ks_98 hc3 dX12_tells_19 ?_
  rw [← hs4]
  refine G_aload_n C 0 rfl rfl dX12_tells_20 ?_
  refine G_getF C fl_X12_62_11 rfl rfl fn_81_26 dX12_tells_21 ?_
  refine G_aload_n C 0 rfl rfl dX12_tells_24 ?_
  refine G_getI C fl_X12_253_11 (Or.inl rfl) ko_81 dX12_tells_25 ?_
  refine G_iload_n C 2 rfl rfl dX12_tells_28 ?_
  obtain ⟨hc5, h⟩ := ifn h
  obtain ⟨σ6, hs6, h⟩ := stp_elim h
  refine G_iastore C ks_99 hc5 dX12_tells_29 ?_
  rw [← hs6]
  refine G_aload_n C 0 rfl rfl dX12_tells_30 ?_
  refine G_getF C fl_X12_65_11 rfl rfl fn_81_27 dX12_tells_31 ?_
  refine G_aload_n C 0 rfl rfl dX12_tells_34 ?_
  refine G_getI C fl_X12_253_11 (Or.inl rfl) ko_81 dX12_tells_35 ?_
  refine G_iload_n C 3 rfl rfl dX12_tells_38 ?_
  obtain ⟨hc7, h⟩ := ifn h
  obtain ⟨σ8, hs8, h⟩ := stp_elim h
  refine G_iastore C ks_100 hc7 dX12_tells_39 ?_
  rw [← hs8]
  refine G_aload_n C 0 rfl rfl dX12_tells_40 ?_
  refine G_getF C fl_X12_68_11 rfl rfl fn_81_28 dX12_tells_41 ?_
  refine G_aload_n C 0 rfl rfl dX12_tells_44 ?_
  refine G_getI C fl_X12_253_11 (Or.inl rfl) ko_81 dX12_tells_45 ?_
  refine G_iload C 4 rfl dX12_tells_48 ?_
  obtain ⟨hc9, h⟩ := ifn h
  obtain ⟨σ10, hs10, h⟩ := stp_elim h
  refine G_iastore C ks_101 hc9 dX12_tells_50 ?_
  rw [← hs10]
  refine G_aload_n C 0 rfl rfl dX12_tells_51 ?_
  refine G_getF C fl_X12_83_11 rfl rfl fn_81_33 dX12_tells_52 ?_
  refine G_aload_n C 0 rfl rfl dX12_tells_55 ?_
  refine G_getI C fl_X12_253_11 (Or.inl rfl) ko_81 dX12_tells_56 ?_
  refine G_aload_n C 0 rfl rfl dX12_tells_59 ?_
  refine G_getI C fl_X12_250_11 (Or.inl rfl) ko_81 dX12_tells_60 ?_
  obtain ⟨hc11, h⟩ := ifn h
  obtain ⟨σ12, hs12, h⟩ := stp_elim h
  refine G_iastore C ks_106 hc11 dX12_tells_63 ?_
  rw [← hs12]
  refine G_aload_n C 0 rfl rfl dX12_tells_64 ?_
  refine G_getF C fl_X12_86_11 rfl rfl fn_81_34 dX12_tells_65 ?_
  refine G_aload_n C 0 rfl rfl dX12_tells_68 ?_
  refine G_getI C fl_X12_253_11 (Or.inl rfl) ko_81 dX12_tells_69 ?_
  refine G_iconst C (v := -1) rfl dX12_tells_72 ?_
  obtain ⟨hc13, h⟩ := ifn h
  obtain ⟨σ14, hs14, h⟩ := stp_elim h
  refine G_iastore C ks_107 hc13 dX12_tells_73 ?_
  rw [← hs14]
  refine G_aload_n C 0 rfl rfl dX12_tells_74 ?_
  refine G_dup C rfl dX12_tells_75 ?_
  refine G_getI C fl_X12_253_11 (Or.inl rfl) ko_81 dX12_tells_76 ?_
  refine G_iconst C (v := 1) rfl dX12_tells_79 ?_
  refine G_iadd C dX12_tells_80 ?_
  obtain ⟨σ15, hs15, h⟩ := stp_elim h
  refine G_putI C fl_X12_253_11 fp_X12_11_7 (Or.inl rfl) (Or.inl rfl) ko_81 dX12_tells_81 ?_
  rw [← hs15]
  refine G_aload_n C 0 rfl rfl dX12_tells_84 ?_
  refine G_getI C fl_X12_253_11 (Or.inl rfl) ko_81 dX12_tells_85 ?_
  refine G_iconst C (v := 1) rfl dX12_tells_88 ?_
  refine G_isub C dX12_tells_89 ?_
  obtain ⟨rfl, rfl⟩ := some2 h
  exact G_iret C hr (Nat.le_of_ble_eq_true rfl) (Nat.le_of_ble_eq_true rfl) dX12_tells_90
set_option maxRecDepth 100000 in
set_option maxHeartbeats 4000000 in
theorem dX12_isKnown {σ : Sto} {p0 : Int32} {p1 : Int32} {r : Int32} (h : mX12_isKnown p0 p1 σ = some r) : MM l yX12_isKnown cX12_isKnown 3 (some .boolean) 1 0 0 E true σ [.ref 81, .int p0, .int p1] (QI E true σ r σ) := by
  unfold mX12_isKnown at h
  refine MM_of (by decide) (Nat.le_of_ble_eq_true rfl) rfl (fun p e s m args below meth c ad0 C hr hn => ?_)
  refine G_aload_n C 0 rfl rfl dX12_isKnown_0 ?_
  refine G_getF C fl_X12_83_11 rfl rfl fn_81_33 dX12_isKnown_1 ?_
  refine G_iload_n C 1 rfl rfl dX12_isKnown_4 ?_
  obtain ⟨hc1, h⟩ := ifn h
  refine G_iaload C ks_106 hc1 dX12_isKnown_5 ?_
  refine G_iload_n C 2 rfl rfl dX12_isKnown_6 ?_
  refine G_icmp_gt (tgt := 34) C rfl dX12_isKnown_7 (fun hc2 => ?_) (fun hc2 => ?_)
  · replace h := (if_pos hc2).symm.trans h
    refine G_iconst C (v := 0) rfl dX12_isKnown_34 ?_
    obtain rfl := Option.some.inj h
    exact G_zret C (by decide) hr (Nat.le_of_ble_eq_true rfl) (Nat.le_of_ble_eq_true rfl) dX12_isKnown_35
  · replace h := (if_neg hc2).symm.trans h
    refine G_aload_n C 0 rfl rfl dX12_isKnown_10 ?_
    refine G_getF C fl_X12_86_11 rfl rfl fn_81_34 dX12_isKnown_11 ?_
    refine G_iload_n C 1 rfl rfl dX12_isKnown_14 ?_
    refine G_iaload C ks_107 hc1 dX12_isKnown_15 ?_
    refine G_iconst C (v := -1) rfl dX12_isKnown_16 ?_
    refine G_icmp_eq (tgt := 30) C rfl dX12_isKnown_17 (fun hc3 => ?_) (fun hc3 => ?_)
    · replace h := (if_pos hc3).symm.trans h
      refine G_iconst C (v := 1) rfl dX12_isKnown_30 ?_
      refine G_goto (tgt := 35) C rfl dX12_isKnown_31 ?_
      obtain rfl := Option.some.inj h
      exact G_zret C (by decide) hr (Nat.le_of_ble_eq_true rfl) (Nat.le_of_ble_eq_true rfl) dX12_isKnown_35
    · replace h := (if_neg hc3).symm.trans h
      refine G_aload_n C 0 rfl rfl dX12_isKnown_20 ?_
      refine G_getF C fl_X12_86_11 rfl rfl fn_81_34 dX12_isKnown_21 ?_
      refine G_iload_n C 1 rfl rfl dX12_isKnown_24 ?_
      refine G_iaload C ks_107 hc1 dX12_isKnown_25 ?_
      refine G_iload_n C 2 rfl rfl dX12_isKnown_26 ?_
      refine G_icmp_le (tgt := 34) C rfl dX12_isKnown_27 (fun hc4 => ?_) (fun hc4 => ?_)
      · replace h := (if_pos hc4).symm.trans h
        refine G_iconst C (v := 0) rfl dX12_isKnown_34 ?_
        obtain rfl := Option.some.inj h
        exact G_zret C (by decide) hr (Nat.le_of_ble_eq_true rfl) (Nat.le_of_ble_eq_true rfl) dX12_isKnown_35
      · replace h := (if_neg hc4).symm.trans h
        refine G_iconst C (v := 1) rfl dX12_isKnown_30 ?_
        refine G_goto (tgt := 35) C rfl dX12_isKnown_31 ?_
        obtain rfl := Option.some.inj h
        exact G_zret C (by decide) hr (Nat.le_of_ble_eq_true rfl) (Nat.le_of_ble_eq_true rfl) dX12_isKnown_35
set_option maxRecDepth 100000 in
set_option maxHeartbeats 4000000 in
theorem dX12_death {σ : Sto} {p0 : Int32} {p1 : Int32} {p2 : Int32} {r1 : Int32} {r2 : Sto} (h : mX12_death p0 p1 p2 σ = some (r1, r2)) : MM l yX12_death cX12_death 5 (some .int) 3 0 0 E true σ [.ref 81, .int p0, .int p1, .int p2] (QI E true σ r1 r2) := by
  unfold mX12_death at h
  refine MM_of (by decide) (Nat.le_of_ble_eq_true rfl) rfl (fun p e s m args below meth c ad0 C hr hn => ?_)
  refine G_aload_n C 0 rfl rfl dX12_death_0 ?_
  refine G_iconst C (v := 0) rfl dX12_death_1 ?_
  obtain ⟨σ1, hs1, h⟩ := stp_elim h
  refine G_putI C fl_X12_208_11 fp_X12_11_0 (Or.inl rfl) (Or.inl rfl) ko_81 dX12_death_2 ?_
  rw [← hs1]
  refine G_aload_n C 0 rfl rfl dX12_death_5 ?_
  refine G_iload_n C 1 rfl rfl dX12_death_6 ?_
  obtain ⟨v2, σ2, hv2, h⟩ := bd2_elim h
  refine G_callI (run_V C [.int p0] [] (dX12_isPerson hv2) ml_X12_isPerson mv_X12_isPerson lk_X12_239 ⟨(Nat.le_of_ble_eq_true rfl), (Nat.le_of_ble_eq_true rfl)⟩ ⟨(Nat.le_of_ble_eq_true rfl), (Nat.le_of_ble_eq_true rfl)⟩ vq_11 rfl ko_81 rfl (Nat.le_of_ble_eq_true rfl) dX12_death_7) ?_
  refine G_if_ne (tgt := 15) C rfl dX12_death_10 (fun hc3 => ?_) (fun hc3 => ?_)
  · replace h := (if_neg hc3).symm.trans h
    refine G_aload_n C 0 rfl rfl dX12_death_15 ?_
    refine G_getI C fl_X12_253_11 (Or.inl rfl) ko_81 dX12_death_16 ?_
    refine G_sipush C (v := 200) rfl dX12_death_19 ?_
    refine G_icmp_eq (tgt := 44) C rfl dX12_death_22 (fun hc4 => ?_) (fun hc4 => ?_)
    · replace h := (if_pos hc4).symm.trans h
      refine G_iconst C (v := -1) rfl dX12_death_44 ?_
      obtain ⟨rfl, rfl⟩ := some2 h
      exact G_iret C hr (Nat.le_of_ble_eq_true rfl) (Nat.le_of_ble_eq_true rfl) dX12_death_45
    · replace h := (if_neg hc4).symm.trans h
      refine G_iload_n C 2 rfl rfl dX12_death_25 ?_
      refine G_callI (run_S C [.int p1] [] (dX12_isDay rfl) ml_X12_isDay ms_X12_isDay lk_X12_235 ⟨(Nat.le_of_ble_eq_true rfl), (Nat.le_of_ble_eq_true rfl)⟩ ⟨(Nat.le_of_ble_eq_true rfl), (Nat.le_of_ble_eq_true rfl)⟩ rfl (Nat.le_of_ble_eq_true rfl) dX12_death_26) ?_
      refine G_if_eq (tgt := 44) C rfl dX12_death_29 (fun hc6 => ?_) (fun hc6 => ?_)
      · replace h := (if_pos hc6).symm.trans h
        refine G_iconst C (v := -1) rfl dX12_death_44 ?_
        obtain ⟨rfl, rfl⟩ := some2 h
        exact G_iret C hr (Nat.le_of_ble_eq_true rfl) (Nat.le_of_ble_eq_true rfl) dX12_death_45
      · replace h := (if_neg hc6).symm.trans h
        refine G_iload_n C 3 rfl rfl dX12_death_32 ?_
        refine G_callI (run_S C [.int p2] [] (dX12_isDay rfl) ml_X12_isDay ms_X12_isDay lk_X12_235 ⟨(Nat.le_of_ble_eq_true rfl), (Nat.le_of_ble_eq_true rfl)⟩ ⟨(Nat.le_of_ble_eq_true rfl), (Nat.le_of_ble_eq_true rfl)⟩ rfl (Nat.le_of_ble_eq_true rfl) dX12_death_33) ?_
        refine G_if_eq (tgt := 44) C rfl dX12_death_36 (fun hc8 => ?_) (fun hc8 => ?_)
        · replace h := (if_pos hc8).symm.trans h
          refine G_iconst C (v := -1) rfl dX12_death_44 ?_
          obtain ⟨rfl, rfl⟩ := some2 h
          exact G_iret C hr (Nat.le_of_ble_eq_true rfl) (Nat.le_of_ble_eq_true rfl) dX12_death_45
        · replace h := (if_neg hc8).symm.trans h
          refine G_iload_n C 3 rfl rfl dX12_death_39 ?_
          refine G_iload_n C 2 rfl rfl dX12_death_40 ?_
          refine G_icmp_ge (tgt := 46) C rfl dX12_death_41 (fun hc9 => ?_) (fun hc9 => ?_)
          · replace h := (if_pos hc9).symm.trans h
            refine G_aload_n C 0 rfl rfl dX12_death_46 ?_
            refine G_iconst C (v := 0) rfl dX12_death_47 ?_
            refine G_iload_n C 1 rfl rfl dX12_death_48 ?_
            refine G_iconst C (v := -1) rfl dX12_death_49 ?_
            refine G_iload_n C 2 rfl rfl dX12_death_50 ?_
            obtain ⟨v10, σ10, hv10, h⟩ := bd2_elim h
            refine G_callI (run_V C [.int (0 : Int32), .int p0, .int (-1 : Int32), .int p1] [] (dX12_tells hv10) ml_X12_tells mv_X12_tells lk_X12_256 ⟨(Nat.le_of_ble_eq_true rfl), (Nat.le_of_ble_eq_true rfl)⟩ ⟨(Nat.le_of_ble_eq_true rfl), (Nat.le_of_ble_eq_true rfl)⟩ vq_11 rfl ko_81 rfl (Nat.le_of_ble_eq_true rfl) dX12_death_51) ?_
            refine G_istore (L' := [(4, .int v10), (0, .ref 81), (1, .int p0), (2, .int p1), (3, .int p2)]) C (Nat.le_of_ble_eq_true rfl) rfl dX12_death_54 ?_
            refine G_aload_n C 1 rfl rfl dX12_death_56 ?_
            refine G_getF C fl_X12_71_11 rfl rfl fn_81_29 dX12_death_57 ?_
            refine G_iload C 0 rfl dX12_death_60 ?_
            refine G_iload_n C 4 rfl rfl dX12_death_62 ?_
            obtain ⟨hc11, h⟩ := ifn h
            obtain ⟨σ12, hs12, h⟩ := stp_elim h
            refine G_iastore C ks_102 hc11 dX12_death_63 ?_
            rw [← hs12]
            refine G_iload C 0 rfl dX12_death_64 ?_
            obtain ⟨rfl, rfl⟩ := some2 h
            exact G_iret C hr (Nat.le_of_ble_eq_true rfl) (Nat.le_of_ble_eq_true rfl) dX12_death_66
          · replace h := (if_neg hc9).symm.trans h
            refine G_iconst C (v := -1) rfl dX12_death_44 ?_
            obtain ⟨rfl, rfl⟩ := some2 h
            exact G_iret C hr (Nat.le_of_ble_eq_true rfl) (Nat.le_of_ble_eq_true rfl) dX12_death_45
  · replace h := (if_pos hc3).symm.trans h
    refine G_iconst C (v := 0) rfl dX12_death_13 ?_
    obtain ⟨rfl, rfl⟩ := some2 h
    exact G_iret C hr (Nat.le_of_ble_eq_true rfl) (Nat.le_of_ble_eq_true rfl) dX12_death_14
set_option maxRecDepth 100000 in
set_option maxHeartbeats 4000000 in
theorem eX12_heir_77B (C : Cx E p s m args meth c cX12_heir 7 RX12) (hr : meth.sig.returnType = (some .int)) {σ0 : Sto} {r1 : Int32} {r2 : Sto} {σ : Sto} {f77 : Int32 → Int32 → Int32 → Int32 → Int32 → Int32 → Sto → Option (Int32 × Sto)} {x1 : Int32} {x2 : Int32} {x3 : Int32} {x4 : Int32} {x5 : Int32} {x6 : Int32} (hf77 : ∀ (x1 : Int32) (x2 : Int32) (x3 : Int32) (x4 : Int32) (x5 : Int32) (x6 : Int32) (σ' : Sto), f77 x1 x2 x3 x4 x5 x6 σ' = some (r1, r2) → G p l e (rmd 3 0 0) s m args below meth c E true (sZ σ0) ad0 (MQ below (QI E true σ0 r1 r2 ad0) args s 0 0 (AE E)) 7 0 0 σ' 77 [(0, .ref 81), (1, .int x1), (2, .int x2), (3, .int x3), (4, .int x4), (5, .int x5), (6, .int x6)] []) (h : mX12_heir_77B f77 x1 x2 x3 x4 x5 x6 σ = some (r1, r2)) : G p l e (rmd 3 0 0) s m args below meth c E true (sZ σ0) ad0 (MQ below (QI E true σ0 r1 r2 ad0) args s 0 0 (AE E)) 7 0 0 σ 77 [(0, .ref 81), (1, .int x1), (2, .int x2), (3, .int x3), (4, .int x4), (5, .int x5), (6, .int x6)] [] := by
  unfold mX12_heir_77B at h
  refine G_iload C 6 rfl dX12_heir_77 ?_
  refine G_aload_n C 0 rfl rfl dX12_heir_79 ?_
  refine G_getI C fl_X12_253_11 (Or.inl rfl) ko_81 dX12_heir_80 ?_
  refine G_icmp_ge (tgt := 151) C rfl dX12_heir_83 (fun hc13 => ?_) (fun hc13 => ?_)
  · replace h := (if_pos hc13).symm.trans h
    refine G_iload C 5 rfl dX12_heir_151 ?_
    refine G_sipush C (v := 27720) rfl dX12_heir_153 ?_
    refine G_icmp_le (tgt := 161) C rfl dX12_heir_156 (fun hc14 => ?_) (fun hc14 => ?_)
    · replace h := (if_pos hc14).symm.trans h
      refine G_aload_n C 0 rfl rfl dX12_heir_161 ?_
      refine G_iconst C (v := 1) rfl dX12_heir_162 ?_
      refine G_iload_n C 1 rfl rfl dX12_heir_163 ?_
      refine G_iload_n C 2 rfl rfl dX12_heir_164 ?_
      refine G_iconst C (v := 0) rfl dX12_heir_165 ?_
      obtain ⟨v15, σ15, hv15, h⟩ := bd2_elim h
      refine G_callI (run_V C [.int (1 : Int32), .int x1, .int x2, .int (0 : Int32)] [] (dX12_tells hv15) ml_X12_tells mv_X12_tells lk_X12_256 ⟨(Nat.le_of_ble_eq_true rfl), (Nat.le_of_ble_eq_true rfl)⟩ ⟨(Nat.le_of_ble_eq_true rfl), (Nat.le_of_ble_eq_true rfl)⟩ vq_11 rfl ko_81 rfl (Nat.le_of_ble_eq_true rfl) dX12_heir_166) ?_
      refine G_istore (L' := [(6, .int v15), (0, .ref 81), (1, .int x1), (2, .int x2), (3, .int x3), (4, .int x4), (5, .int x5)]) C (Nat.le_of_ble_eq_true rfl) rfl dX12_heir_169 ?_
      refine G_aload_n C 1 rfl rfl dX12_heir_171 ?_
      refine G_getF C fl_X12_77_11 rfl rfl fn_81_31 dX12_heir_172 ?_
      refine G_iload C 0 rfl dX12_heir_175 ?_
      refine G_iload_n C 4 rfl rfl dX12_heir_177 ?_
      obtain ⟨hc16, h⟩ := ifn h
      obtain ⟨σ17, hs17, h⟩ := stp_elim h
      refine G_iastore C ks_104 hc16 dX12_heir_178 ?_
      rw [← hs17]
      refine G_aload_n C 1 rfl rfl dX12_heir_179 ?_
      refine G_getF C fl_X12_80_11 rfl rfl fn_81_32 dX12_heir_180 ?_
      refine G_iload C 0 rfl dX12_heir_183 ?_
      refine G_iload C 5 rfl dX12_heir_185 ?_
      obtain ⟨σ18, hs18, h⟩ := stp_elim h
      refine G_iastore C ks_105 hc16 dX12_heir_187 ?_
      rw [← hs18]
      refine G_iload C 0 rfl dX12_heir_188 ?_
      obtain ⟨rfl, rfl⟩ := some2 h
      exact G_iret C hr (Nat.le_of_ble_eq_true rfl) (Nat.le_of_ble_eq_true rfl) dX12_heir_190
    · replace h := (if_neg hc14).symm.trans h
      refine G_iconst C (v := -1) rfl dX12_heir_159 ?_
      obtain ⟨rfl, rfl⟩ := some2 h
      exact G_iret C hr (Nat.le_of_ble_eq_true rfl) (Nat.le_of_ble_eq_true rfl) dX12_heir_160
  · replace h := (if_neg hc13).symm.trans h
    refine G_aload_n C 0 rfl rfl dX12_heir_86 ?_
    refine G_getF C fl_X12_56_11 rfl rfl fn_81_24 dX12_heir_87 ?_
    refine G_iload C 6 rfl dX12_heir_90 ?_
    obtain ⟨hc19, h⟩ := ifn h
    refine G_iaload C ks_97 hc19 dX12_heir_92 ?_
    refine G_iconst C (v := 1) rfl dX12_heir_93 ?_
    refine G_icmp_ne (tgt := 145) C rfl dX12_heir_94 (fun hc20 => ?_) (fun hc20 => ?_)
    · replace h := (if_neg hc20).symm.trans h
      refine G_iinc (v := 1) (L' := [(6, .int (x6 + (1 : Int32))), (0, .ref 81), (1, .int x1), (2, .int x2), (3, .int x3), (4, .int x4), (5, .int x5)]) C 6 rfl rfl (Nat.le_of_ble_eq_true rfl) rfl dX12_heir_145 ?_
      refine G_goto (tgt := 77) C rfl dX12_heir_148 ?_
      refine G_sub [1, 2, 3, 4, 5, 6, 0] rfl ?_
      exact hf77 _ _ _ _ _ _ _ h
    · replace h := (if_pos hc20).symm.trans h
      refine G_aload_n C 0 rfl rfl dX12_heir_97 ?_
      refine G_getF C fl_X12_62_11 rfl rfl fn_81_26 dX12_heir_98 ?_
      refine G_iload C 6 rfl dX12_heir_101 ?_
      refine G_iaload C ks_99 hc19 dX12_heir_103 ?_
      refine G_iload_n C 1 rfl rfl dX12_heir_104 ?_
      refine G_icmp_ne (tgt := 145) C rfl dX12_heir_105 (fun hc21 => ?_) (fun hc21 => ?_)
      · replace h := (if_neg hc21).symm.trans h
        refine G_iinc (v := 1) (L' := [(6, .int (x6 + (1 : Int32))), (0, .ref 81), (1, .int x1), (2, .int x2), (3, .int x3), (4, .int x4), (5, .int x5)]) C 6 rfl rfl (Nat.le_of_ble_eq_true rfl) rfl dX12_heir_145 ?_
        refine G_goto (tgt := 77) C rfl dX12_heir_148 ?_
        refine G_sub [1, 2, 3, 4, 5, 6, 0] rfl ?_
        exact hf77 _ _ _ _ _ _ _ h
      · replace h := (if_pos hc21).symm.trans h
        refine G_aload_n C 0 rfl rfl dX12_heir_108 ?_
        refine G_iload C 6 rfl dX12_heir_109 ?_
        refine G_aload_n C 0 rfl rfl dX12_heir_111 ?_
        refine G_getI C fl_X12_250_11 (Or.inl rfl) ko_81 dX12_heir_112 ?_
        obtain ⟨v22, hv22, h⟩ := bnd h
        refine G_callI (run_V C [.int x6, .int (sI σ 81 1)] [] (dX12_isKnown hv22) ml_X12_isKnown mv_X12_isKnown lk_X12_260 ⟨(Nat.le_of_ble_eq_true rfl), (Nat.le_of_ble_eq_true rfl)⟩ ⟨(Nat.le_of_ble_eq_true rfl), (Nat.le_of_ble_eq_true rfl)⟩ vq_11 rfl ko_81 rfl (Nat.le_of_ble_eq_true rfl) dX12_heir_115) ?_
        refine G_if_eq (tgt := 145) C rfl dX12_heir_118 (fun hc23 => ?_) (fun hc23 => ?_)
        · replace h := (if_pos hc23).symm.trans h
          refine G_iinc (v := 1) (L' := [(6, .int (x6 + (1 : Int32))), (0, .ref 81), (1, .int x1), (2, .int x2), (3, .int x3), (4, .int x4), (5, .int x5)]) C 6 rfl rfl (Nat.le_of_ble_eq_true rfl) rfl dX12_heir_145 ?_
          refine G_goto (tgt := 77) C rfl dX12_heir_148 ?_
          refine G_sub [1, 2, 3, 4, 5, 6, 0] rfl ?_
          exact hf77 _ _ _ _ _ _ _ h
        · replace h := (if_neg hc23).symm.trans h
          refine G_iload C 5 rfl dX12_heir_121 ?_
          refine G_sipush C (v := 27720) rfl dX12_heir_123 ?_
          refine G_aload_n C 0 rfl rfl dX12_heir_126 ?_
          refine G_getF C fl_X12_80_11 rfl rfl fn_81_32 dX12_heir_127 ?_
          refine G_iload C 6 rfl dX12_heir_130 ?_
          refine G_iaload C ks_105 hc19 dX12_heir_132 ?_
          obtain ⟨hc24, h⟩ := ifn h
          refine G_idiv C hc24 dX12_heir_133 ?_
          refine G_aload_n C 0 rfl rfl dX12_heir_134 ?_
          refine G_getF C fl_X12_77_11 rfl rfl fn_81_31 dX12_heir_135 ?_
          refine G_iload C 6 rfl dX12_heir_138 ?_
          refine G_iaload C ks_104 hc19 dX12_heir_140 ?_
          refine G_imul C dX12_heir_141 ?_
          refine G_iadd C dX12_heir_142 ?_
          refine G_istore (L' := [(5, .int (x5 + (((27720 : Int32) / (sI σ 105 (x6).toNatClampNeg)) * (sI σ 104 (x6).toNatClampNeg)))), (0, .ref 81), (1, .int x1), (2, .int x2), (3, .int x3), (4, .int x4), (6, .int x6)]) C (Nat.le_of_ble_eq_true rfl) rfl dX12_heir_143 ?_
          refine G_iinc (v := 1) (L' := [(6, .int (x6 + (1 : Int32))), (5, .int (x5 + (((27720 : Int32) / (sI σ 105 (x6).toNatClampNeg)) * (sI σ 104 (x6).toNatClampNeg)))), (0, .ref 81), (1, .int x1), (2, .int x2), (3, .int x3), (4, .int x4)]) C 6 rfl rfl (Nat.le_of_ble_eq_true rfl) rfl dX12_heir_145 ?_
          refine G_goto (tgt := 77) C rfl dX12_heir_148 ?_
          refine G_sub [2, 3, 4, 5, 6, 1, 0] rfl ?_
          exact hf77 _ _ _ _ _ _ _ h
set_option maxRecDepth 100000 in
set_option maxHeartbeats 4000000 in
theorem eX12_heir_77 (C : Cx E p s m args meth c cX12_heir 7 RX12) (hr : meth.sig.returnType = (some .int)) {σ0 : Sto} {r1 : Int32} {r2 : Sto} {σ : Sto} {n : Nat} {x1 : Int32} {x2 : Int32} {x3 : Int32} {x4 : Int32} {x5 : Int32} {x6 : Int32} (h : mX12_heir_77 n x1 x2 x3 x4 x5 x6 σ = some (r1, r2)) : G p l e (rmd 3 0 0) s m args below meth c E true (sZ σ0) ad0 (MQ below (QI E true σ0 r1 r2 ad0) args s 0 0 (AE E)) 7 0 0 σ 77 [(0, .ref 81), (1, .int x1), (2, .int x2), (3, .int x3), (4, .int x4), (5, .int x5), (6, .int x6)] [] := by
  induction n generalizing x1 x2 x3 x4 x5 x6 σ with
  | zero => exact nomatch (show (none : Option (Int32 × Sto)) = some (r1, r2) from h)
  | succ n ih => exact eX12_heir_77B C hr (fun z0 z1 z2 z3 z4 z5 σ9 h9 => ih h9) h
set_option maxRecDepth 100000 in
set_option maxHeartbeats 4000000 in
theorem dX12_heir {σ : Sto} {p0 : Int32} {p1 : Int32} {p2 : Int32} {p3 : Int32} {r1 : Int32} {r2 : Sto} (h : mX12_heir p0 p1 p2 p3 σ = some (r1, r2)) : MM l yX12_heir cX12_heir 7 (some .int) 3 0 0 E true σ [.ref 81, .int p0, .int p1, .int p2, .int p3] (QI E true σ r1 r2) := by
  unfold mX12_heir at h
  refine MM_of (by decide) (Nat.le_of_ble_eq_true rfl) rfl (fun p e s m args below meth c ad0 C hr hn => ?_)
  refine G_aload_n C 0 rfl rfl dX12_heir_0 ?_
  refine G_iconst C (v := 0) rfl dX12_heir_1 ?_
  obtain ⟨σ1, hs1, h⟩ := stp_elim h
  refine G_putI C fl_X12_208_11 fp_X12_11_0 (Or.inl rfl) (Or.inl rfl) ko_81 dX12_heir_2 ?_
  rw [← hs1]
  refine G_aload_n C 0 rfl rfl dX12_heir_5 ?_
  refine G_iload_n C 1 rfl rfl dX12_heir_6 ?_
  obtain ⟨v2, σ2, hv2, h⟩ := bd2_elim h
  refine G_callI (run_V C [.int p0] [] (dX12_isPerson hv2) ml_X12_isPerson mv_X12_isPerson lk_X12_239 ⟨(Nat.le_of_ble_eq_true rfl), (Nat.le_of_ble_eq_true rfl)⟩ ⟨(Nat.le_of_ble_eq_true rfl), (Nat.le_of_ble_eq_true rfl)⟩ vq_11 rfl ko_81 rfl (Nat.le_of_ble_eq_true rfl) dX12_heir_7) ?_
  refine G_if_eq (tgt := 21) C rfl dX12_heir_10 (fun hc3 => ?_) (fun hc3 => ?_)
  · replace h := (if_pos hc3).symm.trans h
    refine G_iconst C (v := 0) rfl dX12_heir_21 ?_
    obtain ⟨rfl, rfl⟩ := some2 h
    exact G_iret C hr (Nat.le_of_ble_eq_true rfl) (Nat.le_of_ble_eq_true rfl) dX12_heir_22
  · replace h := (if_neg hc3).symm.trans h
    refine G_aload_n C 0 rfl rfl dX12_heir_13 ?_
    refine G_iload_n C 2 rfl rfl dX12_heir_14 ?_
    obtain ⟨v4, σ4, hv4, h⟩ := bd2_elim h
    refine G_callI (run_V C [.int p1] [] (dX12_isPerson hv4) ml_X12_isPerson mv_X12_isPerson lk_X12_239 ⟨(Nat.le_of_ble_eq_true rfl), (Nat.le_of_ble_eq_true rfl)⟩ ⟨(Nat.le_of_ble_eq_true rfl), (Nat.le_of_ble_eq_true rfl)⟩ vq_11 rfl ko_81 rfl (Nat.le_of_ble_eq_true rfl) dX12_heir_15) ?_
    refine G_if_ne (tgt := 23) C rfl dX12_heir_18 (fun hc5 => ?_) (fun hc5 => ?_)
    · replace h := (if_neg hc5).symm.trans h
      refine G_aload_n C 0 rfl rfl dX12_heir_23 ?_
      refine G_getI C fl_X12_253_11 (Or.inl rfl) ko_81 dX12_heir_24 ?_
      refine G_sipush C (v := 200) rfl dX12_heir_27 ?_
      refine G_icmp_eq (tgt := 62) C rfl dX12_heir_30 (fun hc6 => ?_) (fun hc6 => ?_)
      · replace h := (if_pos hc6).symm.trans h
        refine G_iconst C (v := -1) rfl dX12_heir_62 ?_
        obtain ⟨rfl, rfl⟩ := some2 h
        exact G_iret C hr (Nat.le_of_ble_eq_true rfl) (Nat.le_of_ble_eq_true rfl) dX12_heir_63
      · replace h := (if_neg hc6).symm.trans h
        refine G_iload C 4 rfl dX12_heir_33 ?_
        refine G_iconst C (v := 1) rfl dX12_heir_35 ?_
        refine G_icmp_lt (tgt := 62) C rfl dX12_heir_36 (fun hc7 => ?_) (fun hc7 => ?_)
        · replace h := (if_pos hc7).symm.trans h
          refine G_iconst C (v := -1) rfl dX12_heir_62 ?_
          obtain ⟨rfl, rfl⟩ := some2 h
          exact G_iret C hr (Nat.le_of_ble_eq_true rfl) (Nat.le_of_ble_eq_true rfl) dX12_heir_63
        · replace h := (if_neg hc7).symm.trans h
          refine G_iload C 4 rfl dX12_heir_39 ?_
          refine G_bipush C (v := 12) rfl dX12_heir_41 ?_
          refine G_icmp_gt (tgt := 62) C rfl dX12_heir_43 (fun hc8 => ?_) (fun hc8 => ?_)
          · replace h := (if_pos hc8).symm.trans h
            refine G_iconst C (v := -1) rfl dX12_heir_62 ?_
            obtain ⟨rfl, rfl⟩ := some2 h
            exact G_iret C hr (Nat.le_of_ble_eq_true rfl) (Nat.le_of_ble_eq_true rfl) dX12_heir_63
          · replace h := (if_neg hc8).symm.trans h
            refine G_iload_n C 3 rfl rfl dX12_heir_46 ?_
            refine G_iconst C (v := 1) rfl dX12_heir_47 ?_
            refine G_icmp_lt (tgt := 62) C rfl dX12_heir_48 (fun hc9 => ?_) (fun hc9 => ?_)
            · replace h := (if_pos hc9).symm.trans h
              refine G_iconst C (v := -1) rfl dX12_heir_62 ?_
              obtain ⟨rfl, rfl⟩ := some2 h
              exact G_iret C hr (Nat.le_of_ble_eq_true rfl) (Nat.le_of_ble_eq_true rfl) dX12_heir_63
            · replace h := (if_neg hc9).symm.trans h
              refine G_iload_n C 3 rfl rfl dX12_heir_51 ?_
              refine G_iload C 4 rfl dX12_heir_52 ?_
              refine G_icmp_gt (tgt := 62) C rfl dX12_heir_54 (fun hc10 => ?_) (fun hc10 => ?_)
              · replace h := (if_pos hc10).symm.trans h
                refine G_iconst C (v := -1) rfl dX12_heir_62 ?_
                obtain ⟨rfl, rfl⟩ := some2 h
                exact G_iret C hr (Nat.le_of_ble_eq_true rfl) (Nat.le_of_ble_eq_true rfl) dX12_heir_63
              · replace h := (if_neg hc10).symm.trans h
                refine G_iload_n C 1 rfl rfl dX12_heir_57 ?_
                refine G_iload_n C 2 rfl rfl dX12_heir_58 ?_
                refine G_icmp_ne (tgt := 64) C rfl dX12_heir_59 (fun hc11 => ?_) (fun hc11 => ?_)
                · replace h := (if_neg hc11).symm.trans h
                  refine G_sipush C (v := 27720) rfl dX12_heir_64 ?_
                  refine G_iload C 4 rfl dX12_heir_67 ?_
                  obtain ⟨hc12, h⟩ := ifn h
                  refine G_idiv C hc12 dX12_heir_69 ?_
                  refine G_iload_n C 3 rfl rfl dX12_heir_70 ?_
                  refine G_imul C dX12_heir_71 ?_
                  refine G_istore (L' := [(5, .int (((27720 : Int32) / p3) * p2)), (0, .ref 81), (1, .int p0), (2, .int p1), (3, .int p2), (4, .int p3)]) C (Nat.le_of_ble_eq_true rfl) rfl dX12_heir_72 ?_
                  refine G_iconst C (v := 0) rfl dX12_heir_74 ?_
                  refine G_istore (L' := [(6, .int (0 : Int32)), (5, .int (((27720 : Int32) / p3) * p2)), (0, .ref 81), (1, .int p0), (2, .int p1), (3, .int p2), (4, .int p3)]) C (Nat.le_of_ble_eq_true rfl) rfl dX12_heir_75 ?_
                  refine G_sub [2, 3, 4, 5, 6, 1, 0] rfl ?_
                  exact eX12_heir_77 C hr h
                · replace h := (if_pos hc11).symm.trans h
                  refine G_iconst C (v := -1) rfl dX12_heir_62 ?_
                  obtain ⟨rfl, rfl⟩ := some2 h
                  exact G_iret C hr (Nat.le_of_ble_eq_true rfl) (Nat.le_of_ble_eq_true rfl) dX12_heir_63
    · replace h := (if_pos hc5).symm.trans h
      refine G_iconst C (v := 0) rfl dX12_heir_21 ?_
      obtain ⟨rfl, rfl⟩ := some2 h
      exact G_iret C hr (Nat.le_of_ble_eq_true rfl) (Nat.le_of_ble_eq_true rfl) dX12_heir_22
set_option maxRecDepth 100000 in
set_option maxHeartbeats 4000000 in
theorem dX12_sale {σ : Sto} {p0 : Int32} {p1 : Int32} {p2 : Int32} {p3 : Int32} {p4 : Int32} {p5 : Int32} {p6 : Int32} {r1 : Int32} {r2 : Sto} (h : mX12_sale p0 p1 p2 p3 p4 p5 p6 σ = some (r1, r2)) : MM l yX12_sale cX12_sale 9 (some .int) 3 0 0 E true σ [.ref 81, .int p0, .int p1, .int p2, .int p3, .int p4, .int p5, .int p6] (QI E true σ r1 r2) := by
  unfold mX12_sale at h
  refine MM_of (by decide) (Nat.le_of_ble_eq_true rfl) rfl (fun p e s m args below meth c ad0 C hr hn => ?_)
  refine G_aload_n C 0 rfl rfl dX12_sale_0 ?_
  refine G_iconst C (v := 0) rfl dX12_sale_1 ?_
  obtain ⟨σ1, hs1, h⟩ := stp_elim h
  refine G_putI C fl_X12_208_11 fp_X12_11_0 (Or.inl rfl) (Or.inl rfl) ko_81 dX12_sale_2 ?_
  rw [← hs1]
  refine G_aload_n C 0 rfl rfl dX12_sale_5 ?_
  refine G_iload_n C 1 rfl rfl dX12_sale_6 ?_
  obtain ⟨v2, σ2, hv2, h⟩ := bd2_elim h
  refine G_callI (run_V C [.int p0] [] (dX12_isWork hv2) ml_X12_isWork mv_X12_isWork lk_X12_243 ⟨(Nat.le_of_ble_eq_true rfl), (Nat.le_of_ble_eq_true rfl)⟩ ⟨(Nat.le_of_ble_eq_true rfl), (Nat.le_of_ble_eq_true rfl)⟩ vq_11 rfl ko_81 rfl (Nat.le_of_ble_eq_true rfl) dX12_sale_7) ?_
  refine G_if_eq (tgt := 38) C rfl dX12_sale_10 (fun hc3 => ?_) (fun hc3 => ?_)
  · replace h := (if_pos hc3).symm.trans h
    refine G_iconst C (v := 0) rfl dX12_sale_38 ?_
    obtain ⟨rfl, rfl⟩ := some2 h
    exact G_iret C hr (Nat.le_of_ble_eq_true rfl) (Nat.le_of_ble_eq_true rfl) dX12_sale_39
  · replace h := (if_neg hc3).symm.trans h
    refine G_aload_n C 0 rfl rfl dX12_sale_13 ?_
    refine G_iload_n C 2 rfl rfl dX12_sale_14 ?_
    obtain ⟨v4, σ4, hv4, h⟩ := bd2_elim h
    refine G_callI (run_V C [.int p1] [] (dX12_isPerson hv4) ml_X12_isPerson mv_X12_isPerson lk_X12_239 ⟨(Nat.le_of_ble_eq_true rfl), (Nat.le_of_ble_eq_true rfl)⟩ ⟨(Nat.le_of_ble_eq_true rfl), (Nat.le_of_ble_eq_true rfl)⟩ vq_11 rfl ko_81 rfl (Nat.le_of_ble_eq_true rfl) dX12_sale_15) ?_
    refine G_if_eq (tgt := 38) C rfl dX12_sale_18 (fun hc5 => ?_) (fun hc5 => ?_)
    · replace h := (if_pos hc5).symm.trans h
      refine G_iconst C (v := 0) rfl dX12_sale_38 ?_
      obtain ⟨rfl, rfl⟩ := some2 h
      exact G_iret C hr (Nat.le_of_ble_eq_true rfl) (Nat.le_of_ble_eq_true rfl) dX12_sale_39
    · replace h := (if_neg hc5).symm.trans h
      refine G_aload_n C 0 rfl rfl dX12_sale_21 ?_
      refine G_iload_n C 3 rfl rfl dX12_sale_22 ?_
      obtain ⟨v6, σ6, hv6, h⟩ := bd2_elim h
      refine G_callI (run_V C [.int p2] [] (dX12_isPerson hv6) ml_X12_isPerson mv_X12_isPerson lk_X12_239 ⟨(Nat.le_of_ble_eq_true rfl), (Nat.le_of_ble_eq_true rfl)⟩ ⟨(Nat.le_of_ble_eq_true rfl), (Nat.le_of_ble_eq_true rfl)⟩ vq_11 rfl ko_81 rfl (Nat.le_of_ble_eq_true rfl) dX12_sale_23) ?_
      refine G_if_eq (tgt := 38) C rfl dX12_sale_26 (fun hc7 => ?_) (fun hc7 => ?_)
      · replace h := (if_pos hc7).symm.trans h
        refine G_iconst C (v := 0) rfl dX12_sale_38 ?_
        obtain ⟨rfl, rfl⟩ := some2 h
        exact G_iret C hr (Nat.le_of_ble_eq_true rfl) (Nat.le_of_ble_eq_true rfl) dX12_sale_39
      · replace h := (if_neg hc7).symm.trans h
        refine G_aload_n C 0 rfl rfl dX12_sale_29 ?_
        refine G_iload C 5 rfl dX12_sale_30 ?_
        obtain ⟨v8, σ8, hv8, h⟩ := bd2_elim h
        refine G_callI (run_V C [.int p4] [] (dX12_isLand hv8) ml_X12_isLand mv_X12_isLand lk_X12_228 ⟨(Nat.le_of_ble_eq_true rfl), (Nat.le_of_ble_eq_true rfl)⟩ ⟨(Nat.le_of_ble_eq_true rfl), (Nat.le_of_ble_eq_true rfl)⟩ vq_11 rfl ko_81 rfl (Nat.le_of_ble_eq_true rfl) dX12_sale_32) ?_
        refine G_if_ne (tgt := 40) C rfl dX12_sale_35 (fun hc9 => ?_) (fun hc9 => ?_)
        · replace h := (if_neg hc9).symm.trans h
          refine G_aload_n C 0 rfl rfl dX12_sale_40 ?_
          refine G_getI C fl_X12_253_11 (Or.inl rfl) ko_81 dX12_sale_41 ?_
          refine G_sipush C (v := 200) rfl dX12_sale_44 ?_
          refine G_icmp_eq (tgt := 88) C rfl dX12_sale_47 (fun hc10 => ?_) (fun hc10 => ?_)
          · replace h := (if_pos hc10).symm.trans h
            refine G_iconst C (v := -1) rfl dX12_sale_88 ?_
            obtain ⟨rfl, rfl⟩ := some2 h
            exact G_iret C hr (Nat.le_of_ble_eq_true rfl) (Nat.le_of_ble_eq_true rfl) dX12_sale_89
          · replace h := (if_neg hc10).symm.trans h
            refine G_iload_n C 2 rfl rfl dX12_sale_50 ?_
            refine G_iload_n C 3 rfl rfl dX12_sale_51 ?_
            refine G_icmp_eq (tgt := 88) C rfl dX12_sale_52 (fun hc11 => ?_) (fun hc11 => ?_)
            · replace h := (if_pos hc11).symm.trans h
              refine G_iconst C (v := -1) rfl dX12_sale_88 ?_
              obtain ⟨rfl, rfl⟩ := some2 h
              exact G_iret C hr (Nat.le_of_ble_eq_true rfl) (Nat.le_of_ble_eq_true rfl) dX12_sale_89
            · replace h := (if_neg hc11).symm.trans h
              refine G_iload C 4 rfl dX12_sale_55 ?_
              refine G_callI (run_S C [.int p3] [] (dX12_isDay rfl) ml_X12_isDay ms_X12_isDay lk_X12_235 ⟨(Nat.le_of_ble_eq_true rfl), (Nat.le_of_ble_eq_true rfl)⟩ ⟨(Nat.le_of_ble_eq_true rfl), (Nat.le_of_ble_eq_true rfl)⟩ rfl (Nat.le_of_ble_eq_true rfl) dX12_sale_57) ?_
              refine G_if_eq (tgt := 88) C rfl dX12_sale_60 (fun hc13 => ?_) (fun hc13 => ?_)
              · replace h := (if_pos hc13).symm.trans h
                refine G_iconst C (v := -1) rfl dX12_sale_88 ?_
                obtain ⟨rfl, rfl⟩ := some2 h
                exact G_iret C hr (Nat.le_of_ble_eq_true rfl) (Nat.le_of_ble_eq_true rfl) dX12_sale_89
              · replace h := (if_neg hc13).symm.trans h
                refine G_iload C 6 rfl dX12_sale_63 ?_
                refine G_iconst C (v := 1) rfl dX12_sale_65 ?_
                refine G_icmp_lt (tgt := 88) C rfl dX12_sale_66 (fun hc14 => ?_) (fun hc14 => ?_)
                · replace h := (if_pos hc14).symm.trans h
                  refine G_iconst C (v := -1) rfl dX12_sale_88 ?_
                  obtain ⟨rfl, rfl⟩ := some2 h
                  exact G_iret C hr (Nat.le_of_ble_eq_true rfl) (Nat.le_of_ble_eq_true rfl) dX12_sale_89
                · replace h := (if_neg hc14).symm.trans h
                  refine G_iload C 6 rfl dX12_sale_69 ?_
                  refine G_ldcw C kc_X12_263 dX12_sale_71 ?_
                  refine G_icmp_gt (tgt := 88) C rfl dX12_sale_74 (fun hc15 => ?_) (fun hc15 => ?_)
                  · replace h := (if_pos hc15).symm.trans h
                    refine G_iconst C (v := -1) rfl dX12_sale_88 ?_
                    obtain ⟨rfl, rfl⟩ := some2 h
                    exact G_iret C hr (Nat.le_of_ble_eq_true rfl) (Nat.le_of_ble_eq_true rfl) dX12_sale_89
                  · replace h := (if_neg hc15).symm.trans h
                    refine G_iload C 7 rfl dX12_sale_77 ?_
                    refine G_if_lt (tgt := 88) C rfl dX12_sale_79 (fun hc16 => ?_) (fun hc16 => ?_)
                    · replace h := (if_pos hc16).symm.trans h
                      refine G_iconst C (v := -1) rfl dX12_sale_88 ?_
                      obtain ⟨rfl, rfl⟩ := some2 h
                      exact G_iret C hr (Nat.le_of_ble_eq_true rfl) (Nat.le_of_ble_eq_true rfl) dX12_sale_89
                    · replace h := (if_neg hc16).symm.trans h
                      refine G_iload C 7 rfl dX12_sale_82 ?_
                      refine G_iconst C (v := 3) rfl dX12_sale_84 ?_
                      refine G_icmp_le (tgt := 90) C rfl dX12_sale_85 (fun hc17 => ?_) (fun hc17 => ?_)
                      · replace h := (if_pos hc17).symm.trans h
                        refine G_aload_n C 0 rfl rfl dX12_sale_90 ?_
                        refine G_iconst C (v := 2) rfl dX12_sale_91 ?_
                        refine G_iload_n C 2 rfl rfl dX12_sale_92 ?_
                        refine G_iload_n C 3 rfl rfl dX12_sale_93 ?_
                        refine G_iload C 4 rfl dX12_sale_94 ?_
                        obtain ⟨v18, σ18, hv18, h⟩ := bd2_elim h
                        refine G_callI (run_V C [.int (2 : Int32), .int p1, .int p2, .int p3] [] (dX12_tells hv18) ml_X12_tells mv_X12_tells lk_X12_256 ⟨(Nat.le_of_ble_eq_true rfl), (Nat.le_of_ble_eq_true rfl)⟩ ⟨(Nat.le_of_ble_eq_true rfl), (Nat.le_of_ble_eq_true rfl)⟩ vq_11 rfl ko_81 rfl (Nat.le_of_ble_eq_true rfl) dX12_sale_96) ?_
                        refine G_istore (L' := [(8, .int v18), (0, .ref 81), (1, .int p0), (2, .int p1), (3, .int p2), (4, .int p3), (5, .int p4), (6, .int p5), (7, .int p6)]) C (Nat.le_of_ble_eq_true rfl) rfl dX12_sale_99 ?_
                        refine G_aload_n C 1 rfl rfl dX12_sale_101 ?_
                        refine G_getF C fl_X12_59_11 rfl rfl fn_81_25 dX12_sale_102 ?_
                        refine G_iload C 0 rfl dX12_sale_105 ?_
                        refine G_iload_n C 2 rfl rfl dX12_sale_107 ?_
                        obtain ⟨hc19, h⟩ := ifn h
                        obtain ⟨σ20, hs20, h⟩ := stp_elim h
                        refine G_iastore C ks_98 hc19 dX12_sale_108 ?_
                        rw [← hs20]
                        refine G_aload_n C 1 rfl rfl dX12_sale_109 ?_
                        refine G_getF C fl_X12_74_11 rfl rfl fn_81_30 dX12_sale_110 ?_
                        refine G_iload C 0 rfl dX12_sale_113 ?_
                        refine G_iload C 6 rfl dX12_sale_115 ?_
                        obtain ⟨σ21, hs21, h⟩ := stp_elim h
                        refine G_iastore C ks_103 hc19 dX12_sale_117 ?_
                        rw [← hs21]
                        refine G_aload_n C 1 rfl rfl dX12_sale_118 ?_
                        refine G_getF C fl_X12_77_11 rfl rfl fn_81_31 dX12_sale_119 ?_
                        refine G_iload C 0 rfl dX12_sale_122 ?_
                        refine G_iload C 7 rfl dX12_sale_124 ?_
                        obtain ⟨σ22, hs22, h⟩ := stp_elim h
                        refine G_iastore C ks_104 hc19 dX12_sale_126 ?_
                        rw [← hs22]
                        refine G_aload_n C 1 rfl rfl dX12_sale_127 ?_
                        refine G_getF C fl_X12_80_11 rfl rfl fn_81_32 dX12_sale_128 ?_
                        refine G_iload C 0 rfl dX12_sale_131 ?_
                        refine G_iload C 8 rfl dX12_sale_133 ?_
                        obtain ⟨σ23, hs23, h⟩ := stp_elim h
                        refine G_iastore C ks_105 hc19 dX12_sale_135 ?_
                        rw [← hs23]
                        refine G_aload_n C 1 rfl rfl dX12_sale_136 ?_
                        refine G_getF C fl_X12_37_11 rfl rfl fn_81_18 dX12_sale_137 ?_
                        refine G_iload_n C 2 rfl rfl dX12_sale_140 ?_
                        refine G_iconst C (v := 1) rfl dX12_sale_141 ?_
                        obtain ⟨hc24, h⟩ := ifn h
                        obtain ⟨σ25, hs25, h⟩ := stp_elim h
                        refine G_zastore C ks_91 hc24 (by decide) dX12_sale_142 ?_
                        rw [← hs25]
                        refine G_iload C 0 rfl dX12_sale_143 ?_
                        obtain ⟨rfl, rfl⟩ := some2 h
                        exact G_iret C hr (Nat.le_of_ble_eq_true rfl) (Nat.le_of_ble_eq_true rfl) dX12_sale_145
                      · replace h := (if_neg hc17).symm.trans h
                        refine G_iconst C (v := -1) rfl dX12_sale_88 ?_
                        obtain ⟨rfl, rfl⟩ := some2 h
                        exact G_iret C hr (Nat.le_of_ble_eq_true rfl) (Nat.le_of_ble_eq_true rfl) dX12_sale_89
        · replace h := (if_pos hc9).symm.trans h
          refine G_iconst C (v := 0) rfl dX12_sale_38 ?_
          obtain ⟨rfl, rfl⟩ := some2 h
          exact G_iret C hr (Nat.le_of_ble_eq_true rfl) (Nat.le_of_ble_eq_true rfl) dX12_sale_39
set_option maxRecDepth 100000 in
set_option maxHeartbeats 4000000 in
theorem eX12_fact_146 (C : Cx E p s m args meth c cX12_fact 7 RX12) (hr : meth.sig.returnType = (some .int)) {σ0 : Sto} {r1 : Int32} {r2 : Sto} {σ : Sto} {x6 : Int32} {y1 : Int32} {y2 : Int32} (h : mX12_fact_146 x6 y1 y2 σ = some (r1, r2)) : G p l e (rmd 3 0 0) s m args below meth c E true (sZ σ0) ad0 (MQ below (QI E true σ0 r1 r2 ad0) args s 0 0 (AE E)) 7 0 0 σ 146 [(6, .int x6)] [.int y2, .int y1, .ref 98] := by
  unfold mX12_fact_146 at h
  obtain ⟨hc16, h⟩ := ifn h
  obtain ⟨σ17, hs17, h⟩ := stp_elim h
  refine G_iastore C ks_98 hc16 dX12_fact_146 ?_
  rw [← hs17]
  refine G_iload C 0 rfl dX12_fact_147 ?_
  obtain ⟨rfl, rfl⟩ := some2 h
  exact G_iret C hr (Nat.le_of_ble_eq_true rfl) (Nat.le_of_ble_eq_true rfl) dX12_fact_149
set_option maxRecDepth 100000 in
set_option maxHeartbeats 4000000 in
theorem eX12_fact_118 (C : Cx E p s m args meth c cX12_fact 7 RX12) (hr : meth.sig.returnType = (some .int)) {σ0 : Sto} {r1 : Int32} {r2 : Sto} {σ : Sto} {x1 : Int32} {x2 : Int32} {x3 : Int32} {x4 : Int32} {x5 : Int32} (h : mX12_fact_118 x1 x2 x3 x4 x5 σ = some (r1, r2)) : G p l e (rmd 3 0 0) s m args below meth c E true (sZ σ0) ad0 (MQ below (QI E true σ0 r1 r2 ad0) args s 0 0 (AE E)) 7 0 0 σ 118 [(0, .ref 81), (1, .int x1), (2, .int x2), (3, .int x3), (4, .int x4), (5, .int x5)] [] := by
  unfold mX12_fact_118 at h
  refine G_aload_n C 0 rfl rfl dX12_fact_118 ?_
  refine G_iload_n C 1 rfl rfl dX12_fact_119 ?_
  refine G_iload_n C 3 rfl rfl dX12_fact_120 ?_
  refine G_iload C 4 rfl dX12_fact_121 ?_
  refine G_iload C 5 rfl dX12_fact_123 ?_
  obtain ⟨v14, σ14, hv14, h⟩ := bd2_elim h
  refine G_callI (run_V C [.int x1, .int x3, .int x4, .int x5] [] (dX12_tells hv14) ml_X12_tells mv_X12_tells lk_X12_256 ⟨(Nat.le_of_ble_eq_true rfl), (Nat.le_of_ble_eq_true rfl)⟩ ⟨(Nat.le_of_ble_eq_true rfl), (Nat.le_of_ble_eq_true rfl)⟩ vq_11 rfl ko_81 rfl (Nat.le_of_ble_eq_true rfl) dX12_fact_125) ?_
  refine G_istore (L' := [(6, .int v14), (0, .ref 81), (1, .int x1), (2, .int x2), (3, .int x3), (4, .int x4), (5, .int x5)]) C (Nat.le_of_ble_eq_true rfl) rfl dX12_fact_128 ?_
  refine G_aload_n C 1 rfl rfl dX12_fact_130 ?_
  refine G_getF C fl_X12_59_11 rfl rfl fn_81_25 dX12_fact_131 ?_
  refine G_iload C 0 rfl dX12_fact_134 ?_
  refine G_iload_n C 2 rfl rfl dX12_fact_136 ?_
  refine G_iconst C (v := 5) rfl dX12_fact_137 ?_
  refine G_icmp_ne (tgt := 145) C rfl dX12_fact_138 (fun hc15 => ?_) (fun hc15 => ?_)
  · replace h := (if_neg hc15).symm.trans h
    refine G_iload_n C 3 rfl rfl dX12_fact_145 ?_
    refine G_sub [0] rfl ?_
    exact eX12_fact_146 C hr h
  · replace h := (if_pos hc15).symm.trans h
    refine G_iconst C (v := -1) rfl dX12_fact_141 ?_
    refine G_goto (tgt := 146) C rfl dX12_fact_142 ?_
    refine G_sub [0] rfl ?_
    exact eX12_fact_146 C hr h
set_option maxRecDepth 100000 in
set_option maxHeartbeats 4000000 in
theorem eX12_fact_87 (C : Cx E p s m args meth c cX12_fact 7 RX12) (hr : meth.sig.returnType = (some .int)) {σ0 : Sto} {r1 : Int32} {r2 : Sto} {σ : Sto} {x1 : Int32} {x2 : Int32} {x3 : Int32} {x4 : Int32} {x5 : Int32} (h : mX12_fact_87 x1 x2 x3 x4 x5 σ = some (r1, r2)) : G p l e (rmd 3 0 0) s m args below meth c E true (sZ σ0) ad0 (MQ below (QI E true σ0 r1 r2 ad0) args s 0 0 (AE E)) 7 0 0 σ 87 [(0, .ref 81), (1, .int x1), (2, .int x2), (3, .int x3), (4, .int x4), (5, .int x5)] [] := by
  unfold mX12_fact_87 at h
  refine G_aload_n C 0 rfl rfl dX12_fact_87 ?_
  refine G_getI C fl_X12_253_11 (Or.inl rfl) ko_81 dX12_fact_88 ?_
  refine G_sipush C (v := 200) rfl dX12_fact_91 ?_
  refine G_icmp_eq (tgt := 116) C rfl dX12_fact_94 (fun hc10 => ?_) (fun hc10 => ?_)
  · replace h := (if_pos hc10).symm.trans h
    refine G_iconst C (v := -1) rfl dX12_fact_116 ?_
    obtain ⟨rfl, rfl⟩ := some2 h
    exact G_iret C hr (Nat.le_of_ble_eq_true rfl) (Nat.le_of_ble_eq_true rfl) dX12_fact_117
  · replace h := (if_neg hc10).symm.trans h
    refine G_iload C 5 rfl dX12_fact_97 ?_
    refine G_callI (run_S C [.int x5] [] (dX12_isDay rfl) ml_X12_isDay ms_X12_isDay lk_X12_235 ⟨(Nat.le_of_ble_eq_true rfl), (Nat.le_of_ble_eq_true rfl)⟩ ⟨(Nat.le_of_ble_eq_true rfl), (Nat.le_of_ble_eq_true rfl)⟩ rfl (Nat.le_of_ble_eq_true rfl) dX12_fact_99) ?_
    refine G_if_eq (tgt := 116) C rfl dX12_fact_102 (fun hc12 => ?_) (fun hc12 => ?_)
    · replace h := (if_pos hc12).symm.trans h
      refine G_iconst C (v := -1) rfl dX12_fact_116 ?_
      obtain ⟨rfl, rfl⟩ := some2 h
      exact G_iret C hr (Nat.le_of_ble_eq_true rfl) (Nat.le_of_ble_eq_true rfl) dX12_fact_117
    · replace h := (if_neg hc12).symm.trans h
      refine G_iload_n C 1 rfl rfl dX12_fact_105 ?_
      refine G_iconst C (v := 3) rfl dX12_fact_106 ?_
      refine G_icmp_ne (tgt := 118) C rfl dX12_fact_107 (fun hc13 => ?_) (fun hc13 => ?_)
      · replace h := (if_neg hc13).symm.trans h
        exact eX12_fact_118 C hr h
      · replace h := (if_pos hc13).symm.trans h
        refine G_iload_n C 3 rfl rfl dX12_fact_110 ?_
        refine G_iload C 4 rfl dX12_fact_111 ?_
        refine G_icmp_ne (tgt := 118) C rfl dX12_fact_113 (fun hc18 => ?_) (fun hc18 => ?_)
        · replace h := (if_neg hc18).symm.trans h
          exact eX12_fact_118 C hr h
        · replace h := (if_pos hc18).symm.trans h
          refine G_iconst C (v := -1) rfl dX12_fact_116 ?_
          obtain ⟨rfl, rfl⟩ := some2 h
          exact G_iret C hr (Nat.le_of_ble_eq_true rfl) (Nat.le_of_ble_eq_true rfl) dX12_fact_117
set_option maxRecDepth 100000 in
set_option maxHeartbeats 4000000 in
theorem eX12_fact_71 (C : Cx E p s m args meth c cX12_fact 7 RX12) (hr : meth.sig.returnType = (some .int)) {σ0 : Sto} {r1 : Int32} {r2 : Sto} {σ : Sto} {x1 : Int32} {x2 : Int32} {x3 : Int32} {x4 : Int32} {x5 : Int32} (h : mX12_fact_71 x1 x2 x3 x4 x5 σ = some (r1, r2)) : G p l e (rmd 3 0 0) s m args below meth c E true (sZ σ0) ad0 (MQ below (QI E true σ0 r1 r2 ad0) args s 0 0 (AE E)) 7 0 0 σ 71 [(0, .ref 81), (1, .int x1), (2, .int x2), (3, .int x3), (4, .int x4), (5, .int x5)] [] := by
  unfold mX12_fact_71 at h
  refine G_iload_n C 1 rfl rfl dX12_fact_71 ?_
  refine G_iconst C (v := 5) rfl dX12_fact_72 ?_
  refine G_icmp_ne (tgt := 87) C rfl dX12_fact_73 (fun hc9 => ?_) (fun hc9 => ?_)
  · replace h := (if_neg hc9).symm.trans h
    exact eX12_fact_87 C hr h
  · replace h := (if_pos hc9).symm.trans h
    refine G_aload_n C 0 rfl rfl dX12_fact_76 ?_
    refine G_iload C 4 rfl dX12_fact_77 ?_
    obtain ⟨v19, σ19, hv19, h⟩ := bd2_elim h
    refine G_callI (run_V C [.int x4] [] (dX12_isSociety hv19) ml_X12_isSociety mv_X12_isSociety lk_X12_264 ⟨(Nat.le_of_ble_eq_true rfl), (Nat.le_of_ble_eq_true rfl)⟩ ⟨(Nat.le_of_ble_eq_true rfl), (Nat.le_of_ble_eq_true rfl)⟩ vq_11 rfl ko_81 rfl (Nat.le_of_ble_eq_true rfl) dX12_fact_79) ?_
    refine G_if_ne (tgt := 87) C rfl dX12_fact_82 (fun hc20 => ?_) (fun hc20 => ?_)
    · replace h := (if_neg hc20).symm.trans h
      exact eX12_fact_87 C hr h
    · replace h := (if_pos hc20).symm.trans h
      refine G_iconst C (v := 0) rfl dX12_fact_85 ?_
      obtain ⟨rfl, rfl⟩ := some2 h
      exact G_iret C hr (Nat.le_of_ble_eq_true rfl) (Nat.le_of_ble_eq_true rfl) dX12_fact_86
set_option maxRecDepth 100000 in
set_option maxHeartbeats 4000000 in
theorem eX12_fact_45 (C : Cx E p s m args meth c cX12_fact 7 RX12) (hr : meth.sig.returnType = (some .int)) {σ0 : Sto} {r1 : Int32} {r2 : Sto} {σ : Sto} {x1 : Int32} {x2 : Int32} {x3 : Int32} {x4 : Int32} {x5 : Int32} (h : mX12_fact_45 x1 x2 x3 x4 x5 σ = some (r1, r2)) : G p l e (rmd 3 0 0) s m args below meth c E true (sZ σ0) ad0 (MQ below (QI E true σ0 r1 r2 ad0) args s 0 0 (AE E)) 7 0 0 σ 45 [(0, .ref 81), (1, .int x1), (2, .int x2), (3, .int x3), (4, .int x4), (5, .int x5)] [] := by
  unfold mX12_fact_45 at h
  refine G_aload_n C 0 rfl rfl dX12_fact_45 ?_
  refine G_iload_n C 3 rfl rfl dX12_fact_46 ?_
  obtain ⟨v6, σ6, hv6, h⟩ := bd2_elim h
  refine G_callI (run_V C [.int x3] [] (dX12_isPerson hv6) ml_X12_isPerson mv_X12_isPerson lk_X12_239 ⟨(Nat.le_of_ble_eq_true rfl), (Nat.le_of_ble_eq_true rfl)⟩ ⟨(Nat.le_of_ble_eq_true rfl), (Nat.le_of_ble_eq_true rfl)⟩ vq_11 rfl ko_81 rfl (Nat.le_of_ble_eq_true rfl) dX12_fact_47) ?_
  refine G_if_ne (tgt := 55) C rfl dX12_fact_50 (fun hc7 => ?_) (fun hc7 => ?_)
  · replace h := (if_neg hc7).symm.trans h
    refine G_iload_n C 1 rfl rfl dX12_fact_55 ?_
    refine G_iconst C (v := 3) rfl dX12_fact_56 ?_
    refine G_icmp_ne (tgt := 71) C rfl dX12_fact_57 (fun hc8 => ?_) (fun hc8 => ?_)
    · replace h := (if_neg hc8).symm.trans h
      exact eX12_fact_71 C hr h
    · replace h := (if_pos hc8).symm.trans h
      refine G_aload_n C 0 rfl rfl dX12_fact_60 ?_
      refine G_iload C 4 rfl dX12_fact_61 ?_
      obtain ⟨v21, σ21, hv21, h⟩ := bd2_elim h
      refine G_callI (run_V C [.int x4] [] (dX12_isPerson hv21) ml_X12_isPerson mv_X12_isPerson lk_X12_239 ⟨(Nat.le_of_ble_eq_true rfl), (Nat.le_of_ble_eq_true rfl)⟩ ⟨(Nat.le_of_ble_eq_true rfl), (Nat.le_of_ble_eq_true rfl)⟩ vq_11 rfl ko_81 rfl (Nat.le_of_ble_eq_true rfl) dX12_fact_63) ?_
      refine G_if_ne (tgt := 71) C rfl dX12_fact_66 (fun hc22 => ?_) (fun hc22 => ?_)
      · replace h := (if_neg hc22).symm.trans h
        exact eX12_fact_71 C hr h
      · replace h := (if_pos hc22).symm.trans h
        refine G_iconst C (v := 0) rfl dX12_fact_69 ?_
        obtain ⟨rfl, rfl⟩ := some2 h
        exact G_iret C hr (Nat.le_of_ble_eq_true rfl) (Nat.le_of_ble_eq_true rfl) dX12_fact_70
  · replace h := (if_pos hc7).symm.trans h
    refine G_iconst C (v := 0) rfl dX12_fact_53 ?_
    obtain ⟨rfl, rfl⟩ := some2 h
    exact G_iret C hr (Nat.le_of_ble_eq_true rfl) (Nat.le_of_ble_eq_true rfl) dX12_fact_54
set_option maxRecDepth 100000 in
set_option maxHeartbeats 4000000 in
theorem eX12_fact_21 (C : Cx E p s m args meth c cX12_fact 7 RX12) (hr : meth.sig.returnType = (some .int)) {σ0 : Sto} {r1 : Int32} {r2 : Sto} {σ : Sto} {x1 : Int32} {x2 : Int32} {x3 : Int32} {x4 : Int32} {x5 : Int32} {y1 : Int32} (h : mX12_fact_21 x1 x2 x3 x4 x5 y1 σ = some (r1, r2)) : G p l e (rmd 3 0 0) s m args below meth c E true (sZ σ0) ad0 (MQ below (QI E true σ0 r1 r2 ad0) args s 0 0 (AE E)) 7 0 0 σ 21 [(0, .ref 81), (1, .int x1), (2, .int x2), (3, .int x3), (4, .int x4), (5, .int x5)] [.int y1, .ref 81] := by
  unfold mX12_fact_21 at h
  refine G_iconst C (v := 1) rfl dX12_fact_21 ?_
  obtain ⟨v3, σ3, hv3, h⟩ := bd2_elim h
  refine G_callI (run_V C [.int y1, .int (1 : Int32)] [] (dX12_right hv3) ml_X12_right mv_X12_right lk_X12_214 ⟨(Nat.le_of_ble_eq_true rfl), (Nat.le_of_ble_eq_true rfl)⟩ ⟨(Nat.le_of_ble_eq_true rfl), (Nat.le_of_ble_eq_true rfl)⟩ vq_11 rfl ko_81 rfl (Nat.le_of_ble_eq_true rfl) dX12_fact_22) ?_
  refine G_if_ne (tgt := 30) C rfl dX12_fact_25 (fun hc4 => ?_) (fun hc4 => ?_)
  · replace h := (if_neg hc4).symm.trans h
    refine G_iload_n C 1 rfl rfl dX12_fact_30 ?_
    refine G_iconst C (v := 5) rfl dX12_fact_31 ?_
    refine G_icmp_eq (tgt := 45) C rfl dX12_fact_32 (fun hc5 => ?_) (fun hc5 => ?_)
    · replace h := (if_pos hc5).symm.trans h
      exact eX12_fact_45 C hr h
    · replace h := (if_neg hc5).symm.trans h
      refine G_aload_n C 0 rfl rfl dX12_fact_35 ?_
      refine G_iload_n C 2 rfl rfl dX12_fact_36 ?_
      obtain ⟨v23, σ23, hv23, h⟩ := bd2_elim h
      refine G_callI (run_V C [.int x2] [] (dX12_isWork hv23) ml_X12_isWork mv_X12_isWork lk_X12_243 ⟨(Nat.le_of_ble_eq_true rfl), (Nat.le_of_ble_eq_true rfl)⟩ ⟨(Nat.le_of_ble_eq_true rfl), (Nat.le_of_ble_eq_true rfl)⟩ vq_11 rfl ko_81 rfl (Nat.le_of_ble_eq_true rfl) dX12_fact_37) ?_
      refine G_if_ne (tgt := 45) C rfl dX12_fact_40 (fun hc24 => ?_) (fun hc24 => ?_)
      · replace h := (if_neg hc24).symm.trans h
        exact eX12_fact_45 C hr h
      · replace h := (if_pos hc24).symm.trans h
        refine G_iconst C (v := 0) rfl dX12_fact_43 ?_
        obtain ⟨rfl, rfl⟩ := some2 h
        exact G_iret C hr (Nat.le_of_ble_eq_true rfl) (Nat.le_of_ble_eq_true rfl) dX12_fact_44
  · replace h := (if_pos hc4).symm.trans h
    refine G_iconst C (v := 0) rfl dX12_fact_28 ?_
    obtain ⟨rfl, rfl⟩ := some2 h
    exact G_iret C hr (Nat.le_of_ble_eq_true rfl) (Nat.le_of_ble_eq_true rfl) dX12_fact_29
set_option maxRecDepth 100000 in
set_option maxHeartbeats 4000000 in
theorem eX12_fact_20 (C : Cx E p s m args meth c cX12_fact 7 RX12) (hr : meth.sig.returnType = (some .int)) {σ0 : Sto} {r1 : Int32} {r2 : Sto} {σ : Sto} {x1 : Int32} {x2 : Int32} {x3 : Int32} {x4 : Int32} {x5 : Int32} (h : mX12_fact_20 x1 x2 x3 x4 x5 σ = some (r1, r2)) : G p l e (rmd 3 0 0) s m args below meth c E true (sZ σ0) ad0 (MQ below (QI E true σ0 r1 r2 ad0) args s 0 0 (AE E)) 7 0 0 σ 20 [(0, .ref 81), (1, .int x1), (2, .int x2), (3, .int x3), (4, .int x4), (5, .int x5)] [.ref 81] := by
  unfold mX12_fact_20 at h
  refine G_iconst C (v := 0) rfl dX12_fact_20 ?_
  exact eX12_fact_21 C hr h
set_option maxRecDepth 100000 in
set_option maxHeartbeats 4000000 in
theorem dX12_fact {σ : Sto} {p0 : Int32} {p1 : Int32} {p2 : Int32} {p3 : Int32} {p4 : Int32} {r1 : Int32} {r2 : Sto} (h : mX12_fact p0 p1 p2 p3 p4 σ = some (r1, r2)) : MM l yX12_fact cX12_fact 7 (some .int) 3 0 0 E true σ [.ref 81, .int p0, .int p1, .int p2, .int p3, .int p4] (QI E true σ r1 r2) := by
  unfold mX12_fact at h
  refine MM_of (by decide) (Nat.le_of_ble_eq_true rfl) rfl (fun p e s m args below meth c ad0 C hr hn => ?_)
  refine G_aload_n C 0 rfl rfl dX12_fact_0 ?_
  refine G_iconst C (v := 0) rfl dX12_fact_1 ?_
  obtain ⟨σ1, hs1, h⟩ := stp_elim h
  refine G_putI C fl_X12_208_11 fp_X12_11_0 (Or.inl rfl) (Or.inl rfl) ko_81 dX12_fact_2 ?_
  rw [← hs1]
  refine G_aload_n C 0 rfl rfl dX12_fact_5 ?_
  refine G_iload_n C 1 rfl rfl dX12_fact_6 ?_
  refine G_iconst C (v := 3) rfl dX12_fact_7 ?_
  refine G_icmp_lt (tgt := 20) C rfl dX12_fact_8 (fun hc2 => ?_) (fun hc2 => ?_)
  · replace h := (if_pos hc2).symm.trans h
    exact eX12_fact_20 C hr h
  · replace h := (if_neg hc2).symm.trans h
    refine G_iload_n C 1 rfl rfl dX12_fact_11 ?_
    refine G_iconst C (v := 5) rfl dX12_fact_12 ?_
    refine G_icmp_gt (tgt := 20) C rfl dX12_fact_13 (fun hc25 => ?_) (fun hc25 => ?_)
    · replace h := (if_pos hc25).symm.trans h
      exact eX12_fact_20 C hr h
    · replace h := (if_neg hc25).symm.trans h
      refine G_iconst C (v := 1) rfl dX12_fact_16 ?_
      refine G_goto (tgt := 21) C rfl dX12_fact_17 ?_
      exact eX12_fact_21 C hr h
set_option maxRecDepth 100000 in
set_option maxHeartbeats 4000000 in
theorem eX12_back_62 (C : Cx E p s m args meth c cX12_back 3 RX12) (hr : meth.sig.returnType = (some .boolean)) {σ0 : Sto} {r1 : Int32} {r2 : Sto} {σ : Sto} {x1 : Int32} {x2 : Int32} {y0 : Int32} (h : mX12_back_62 x1 x2 y0 σ = some (r1, r2)) : G p l e (rmd 2 0 0) s m args below meth c E true (sZ σ0) ad0 (MQ below (QI E true σ0 r1 r2 ad0) args s 0 0 (AE E)) 3 0 0 σ 62 [(0, .ref 81), (1, .int x1), (2, .int x2)] [.int y0] := by
  unfold mX12_back_62 at h
  refine G_iconst C (v := -1) rfl dX12_back_62 ?_
  refine G_icmp_eq (tgt := 68) C rfl dX12_back_63 (fun hc7 => ?_) (fun hc7 => ?_)
  · replace h := (if_pos hc7).symm.trans h
    refine G_iload_n C 1 rfl rfl dX12_back_68 ?_
    refine G_if_eq (tgt := 85) C rfl dX12_back_69 (fun hc8 => ?_) (fun hc8 => ?_)
    · replace h := (if_pos hc8).symm.trans h
      refine G_aload_n C 0 rfl rfl dX12_back_85 ?_
      refine G_getF C fl_X12_86_11 rfl rfl fn_81_34 dX12_back_86 ?_
      refine G_iload_n C 2 rfl rfl dX12_back_89 ?_
      refine G_aload_n C 0 rfl rfl dX12_back_90 ?_
      refine G_getI C fl_X12_250_11 (Or.inl rfl) ko_81 dX12_back_91 ?_
      obtain ⟨hc9, h⟩ := ifn h
      obtain ⟨σ10, hs10, h⟩ := stp_elim h
      refine G_iastore C ks_107 hc9 dX12_back_94 ?_
      rw [← hs10]
      refine G_iconst C (v := 1) rfl dX12_back_95 ?_
      obtain ⟨rfl, rfl⟩ := some2 h
      exact G_zret C (by decide) hr (Nat.le_of_ble_eq_true rfl) (Nat.le_of_ble_eq_true rfl) dX12_back_96
    · replace h := (if_neg hc8).symm.trans h
      refine G_aload_n C 0 rfl rfl dX12_back_72 ?_
      refine G_getF C fl_X12_114_11 rfl rfl fn_81_58 dX12_back_73 ?_
      refine G_iload_n C 2 rfl rfl dX12_back_76 ?_
      refine G_aload_n C 0 rfl rfl dX12_back_77 ?_
      refine G_getI C fl_X12_250_11 (Or.inl rfl) ko_81 dX12_back_78 ?_
      obtain ⟨hc11, h⟩ := ifn h
      obtain ⟨σ12, hs12, h⟩ := stp_elim h
      refine G_iastore C ks_115 hc11 dX12_back_81 ?_
      rw [← hs12]
      refine G_goto (tgt := 95) C rfl dX12_back_82 ?_
      refine G_iconst C (v := 1) rfl dX12_back_95 ?_
      obtain ⟨rfl, rfl⟩ := some2 h
      exact G_zret C (by decide) hr (Nat.le_of_ble_eq_true rfl) (Nat.le_of_ble_eq_true rfl) dX12_back_96
  · replace h := (if_neg hc7).symm.trans h
    refine G_iconst C (v := 0) rfl dX12_back_66 ?_
    obtain ⟨rfl, rfl⟩ := some2 h
    exact G_zret C (by decide) hr (Nat.le_of_ble_eq_true rfl) (Nat.le_of_ble_eq_true rfl) dX12_back_67
set_option maxRecDepth 100000 in
set_option maxHeartbeats 4000000 in
theorem eX12_back_34 (C : Cx E p s m args meth c cX12_back 3 RX12) (hr : meth.sig.returnType = (some .boolean)) {σ0 : Sto} {r1 : Int32} {r2 : Sto} {σ : Sto} {x1 : Int32} {x2 : Int32} {y1 : Int32} (h : mX12_back_34 x1 x2 y1 σ = some (r1, r2)) : G p l e (rmd 2 0 0) s m args below meth c E true (sZ σ0) ad0 (MQ below (QI E true σ0 r1 r2 ad0) args s 0 0 (AE E)) 3 0 0 σ 34 [(0, .ref 81), (1, .int x1), (2, .int x2)] [.int y1, .ref 81] := by
  unfold mX12_back_34 at h
  refine G_iconst C (v := 1) rfl dX12_back_34 ?_
  obtain ⟨v3, σ3, hv3, h⟩ := bd2_elim h
  refine G_callI (run_V C [.int y1, .int (1 : Int32)] [] (dX12_right hv3) ml_X12_right mv_X12_right lk_X12_214 ⟨(Nat.le_of_ble_eq_true rfl), (Nat.le_of_ble_eq_true rfl)⟩ ⟨(Nat.le_of_ble_eq_true rfl), (Nat.le_of_ble_eq_true rfl)⟩ vq_11 rfl ko_81 rfl (Nat.le_of_ble_eq_true rfl) dX12_back_35) ?_
  refine G_if_ne (tgt := 43) C rfl dX12_back_38 (fun hc4 => ?_) (fun hc4 => ?_)
  · replace h := (if_neg hc4).symm.trans h
    refine G_iload_n C 1 rfl rfl dX12_back_43 ?_
    refine G_if_eq (tgt := 56) C rfl dX12_back_44 (fun hc5 => ?_) (fun hc5 => ?_)
    · replace h := (if_pos hc5).symm.trans h
      refine G_aload_n C 0 rfl rfl dX12_back_56 ?_
      refine G_getF C fl_X12_86_11 rfl rfl fn_81_34 dX12_back_57 ?_
      refine G_iload_n C 2 rfl rfl dX12_back_60 ?_
      obtain ⟨hc6, h⟩ := ifn h
      refine G_iaload C ks_107 hc6 dX12_back_61 ?_
      exact eX12_back_62 C hr h
    · replace h := (if_neg hc5).symm.trans h
      refine G_aload_n C 0 rfl rfl dX12_back_47 ?_
      refine G_getF C fl_X12_114_11 rfl rfl fn_81_58 dX12_back_48 ?_
      refine G_iload_n C 2 rfl rfl dX12_back_51 ?_
      obtain ⟨hc13, h⟩ := ifn h
      refine G_iaload C ks_115 hc13 dX12_back_52 ?_
      refine G_goto (tgt := 62) C rfl dX12_back_53 ?_
      exact eX12_back_62 C hr h
  · replace h := (if_pos hc4).symm.trans h
    refine G_iconst C (v := 0) rfl dX12_back_41 ?_
    obtain ⟨rfl, rfl⟩ := some2 h
    exact G_zret C (by decide) hr (Nat.le_of_ble_eq_true rfl) (Nat.le_of_ble_eq_true rfl) dX12_back_42
set_option maxRecDepth 100000 in
set_option maxHeartbeats 4000000 in
theorem eX12_back_33 (C : Cx E p s m args meth c cX12_back 3 RX12) (hr : meth.sig.returnType = (some .boolean)) {σ0 : Sto} {r1 : Int32} {r2 : Sto} {σ : Sto} {x1 : Int32} {x2 : Int32} (h : mX12_back_33 x1 x2 σ = some (r1, r2)) : G p l e (rmd 2 0 0) s m args below meth c E true (sZ σ0) ad0 (MQ below (QI E true σ0 r1 r2 ad0) args s 0 0 (AE E)) 3 0 0 σ 33 [(0, .ref 81), (1, .int x1), (2, .int x2)] [.ref 81] := by
  unfold mX12_back_33 at h
  refine G_iconst C (v := 0) rfl dX12_back_33 ?_
  exact eX12_back_34 C hr h
set_option maxRecDepth 100000 in
set_option maxHeartbeats 4000000 in
theorem eX12_back_26 (C : Cx E p s m args meth c cX12_back 3 RX12) (hr : meth.sig.returnType = (some .boolean)) {σ0 : Sto} {r1 : Int32} {r2 : Sto} {σ : Sto} {x1 : Int32} {x2 : Int32} {y1 : Int32} {y2 : Int32} (h : mX12_back_26 x1 x2 y1 y2 σ = some (r1, r2)) : G p l e (rmd 2 0 0) s m args below meth c E true (sZ σ0) ad0 (MQ below (QI E true σ0 r1 r2 ad0) args s 0 0 (AE E)) 3 0 0 σ 26 [(0, .ref 81), (1, .int x1), (2, .int x2)] [.int y2, .int y1, .ref 81] := by
  unfold mX12_back_26 at h
  refine G_icmp_ge (tgt := 33) C rfl dX12_back_26 (fun hc15 => ?_) (fun hc15 => ?_)
  · replace h := (if_pos hc15).symm.trans h
    exact eX12_back_33 C hr h
  · replace h := (if_neg hc15).symm.trans h
    refine G_iconst C (v := 1) rfl dX12_back_29 ?_
    refine G_goto (tgt := 34) C rfl dX12_back_30 ?_
    exact eX12_back_34 C hr h
set_option maxRecDepth 100000 in
set_option maxHeartbeats 4000000 in
theorem dX12_back {σ : Sto} {p0 : Int32} {p1 : Int32} {r1 : Int32} {r2 : Sto} (h : mX12_back p0 p1 σ = some (r1, r2)) : MM l yX12_back cX12_back 3 (some .boolean) 2 0 0 E true σ [.ref 81, .int p0, .int p1] (QI E true σ r1 r2) := by
  unfold mX12_back at h
  refine MM_of (by decide) (Nat.le_of_ble_eq_true rfl) rfl (fun p e s m args below meth c ad0 C hr hn => ?_)
  refine G_aload_n C 0 rfl rfl dX12_back_0 ?_
  refine G_iconst C (v := 0) rfl dX12_back_1 ?_
  obtain ⟨σ1, hs1, h⟩ := stp_elim h
  refine G_putI C fl_X12_208_11 fp_X12_11_0 (Or.inl rfl) (Or.inl rfl) ko_81 dX12_back_2 ?_
  rw [← hs1]
  refine G_aload_n C 0 rfl rfl dX12_back_5 ?_
  refine G_iload_n C 2 rfl rfl dX12_back_6 ?_
  refine G_if_lt (tgt := 33) C rfl dX12_back_7 (fun hc2 => ?_) (fun hc2 => ?_)
  · replace h := (if_pos hc2).symm.trans h
    exact eX12_back_33 C hr h
  · replace h := (if_neg hc2).symm.trans h
    refine G_iload_n C 2 rfl rfl dX12_back_10 ?_
    refine G_iload_n C 1 rfl rfl dX12_back_11 ?_
    refine G_if_eq (tgt := 22) C rfl dX12_back_12 (fun hc14 => ?_) (fun hc14 => ?_)
    · replace h := (if_pos hc14).symm.trans h
      refine G_aload_n C 0 rfl rfl dX12_back_22 ?_
      refine G_getI C fl_X12_253_11 (Or.inl rfl) ko_81 dX12_back_23 ?_
      exact eX12_back_26 C hr h
    · replace h := (if_neg hc14).symm.trans h
      refine G_aload_n C 0 rfl rfl dX12_back_15 ?_
      refine G_getI C fl_X12_267_11 (Or.inl rfl) ko_81 dX12_back_16 ?_
      refine G_goto (tgt := 26) C rfl dX12_back_19 ?_
      exact eX12_back_26 C hr h
set_option maxRecDepth 100000 in
set_option maxHeartbeats 4000000 in
theorem eX12_isSale_28 (C : Cx E p s m args meth c cX12_isSale 2 RX12) (hr : meth.sig.returnType = (some .boolean)) {σ0 : Sto} {r1 : Int32} {r2 : Sto} {σ : Sto} {y1 : Int32} (h : mX12_isSale_28 y1 σ = some (r1, r2)) : G p l e (rmd 2 0 0) s m args below meth c E true (sZ σ0) ad0 (MQ below (QI E true σ0 r1 r2 ad0) args s 0 0 (AE E)) 2 0 0 σ 28 [] [.int y1, .ref 81] := by
  unfold mX12_isSale_28 at h
  refine G_iconst C (v := 1) rfl dX12_isSale_28 ?_
  obtain ⟨v2, σ2, hv2, h⟩ := bd2_elim h
  refine G_callI (run_V C [.int y1, .int (1 : Int32)] [] (dX12_right hv2) ml_X12_right mv_X12_right lk_X12_214 ⟨(Nat.le_of_ble_eq_true rfl), (Nat.le_of_ble_eq_true rfl)⟩ ⟨(Nat.le_of_ble_eq_true rfl), (Nat.le_of_ble_eq_true rfl)⟩ vq_11 rfl ko_81 rfl (Nat.le_of_ble_eq_true rfl) dX12_isSale_29) ?_
  obtain ⟨hc3, h⟩ := ifn h
  obtain ⟨rfl, rfl⟩ := some2 h
  exact G_zret C hc3 hr (Nat.le_of_ble_eq_true rfl) (Nat.le_of_ble_eq_true rfl) dX12_isSale_32
set_option maxRecDepth 100000 in
set_option maxHeartbeats 4000000 in
theorem eX12_isSale_27 (C : Cx E p s m args meth c cX12_isSale 2 RX12) (hr : meth.sig.returnType = (some .boolean)) {σ0 : Sto} {r1 : Int32} {r2 : Sto} {σ : Sto} (h : mX12_isSale_27 σ = some (r1, r2)) : G p l e (rmd 2 0 0) s m args below meth c E true (sZ σ0) ad0 (MQ below (QI E true σ0 r1 r2 ad0) args s 0 0 (AE E)) 2 0 0 σ 27 [] [.ref 81] := by
  unfold mX12_isSale_27 at h
  refine G_iconst C (v := 0) rfl dX12_isSale_27 ?_
  exact eX12_isSale_28 C hr h
set_option maxRecDepth 100000 in
set_option maxHeartbeats 4000000 in
theorem dX12_isSale {σ : Sto} {p0 : Int32} {r1 : Int32} {r2 : Sto} (h : mX12_isSale p0 σ = some (r1, r2)) : MM l yX12_isSale cX12_isSale 2 (some .boolean) 2 0 0 E true σ [.ref 81, .int p0] (QI E true σ r1 r2) := by
  unfold mX12_isSale at h
  refine MM_of (by decide) (Nat.le_of_ble_eq_true rfl) rfl (fun p e s m args below meth c ad0 C hr hn => ?_)
  refine G_aload_n C 0 rfl rfl dX12_isSale_0 ?_
  refine G_iload_n C 1 rfl rfl dX12_isSale_1 ?_
  refine G_if_lt (tgt := 27) C rfl dX12_isSale_2 (fun hc1 => ?_) (fun hc1 => ?_)
  · replace h := (if_pos hc1).symm.trans h
    refine G_sub [] rfl ?_
    exact eX12_isSale_27 C hr h
  · replace h := (if_neg hc1).symm.trans h
    refine G_iload_n C 1 rfl rfl dX12_isSale_5 ?_
    refine G_aload_n C 0 rfl rfl dX12_isSale_6 ?_
    refine G_getI C fl_X12_253_11 (Or.inl rfl) ko_81 dX12_isSale_7 ?_
    refine G_icmp_ge (tgt := 27) C rfl dX12_isSale_10 (fun hc4 => ?_) (fun hc4 => ?_)
    · replace h := (if_pos hc4).symm.trans h
      refine G_sub [] rfl ?_
      exact eX12_isSale_27 C hr h
    · replace h := (if_neg hc4).symm.trans h
      refine G_aload_n C 0 rfl rfl dX12_isSale_13 ?_
      refine G_getF C fl_X12_56_11 rfl rfl fn_81_24 dX12_isSale_14 ?_
      refine G_iload_n C 1 rfl rfl dX12_isSale_17 ?_
      obtain ⟨hc5, h⟩ := ifn h
      refine G_iaload C ks_97 hc5 dX12_isSale_18 ?_
      refine G_iconst C (v := 2) rfl dX12_isSale_19 ?_
      refine G_icmp_ne (tgt := 27) C rfl dX12_isSale_20 (fun hc6 => ?_) (fun hc6 => ?_)
      · replace h := (if_neg hc6).symm.trans h
        refine G_sub [] rfl ?_
        exact eX12_isSale_27 C hr h
      · replace h := (if_pos hc6).symm.trans h
        refine G_iconst C (v := 1) rfl dX12_isSale_23 ?_
        refine G_goto (tgt := 28) C rfl dX12_isSale_24 ?_
        refine G_sub [] rfl ?_
        exact eX12_isSale_28 C hr h
set_option maxRecDepth 100000 in
set_option maxHeartbeats 4000000 in
theorem eX12_claim_42B (C : Cx E p s m args meth c cX12_claim 5 RX12) (hr : meth.sig.returnType = (some .boolean)) {σ0 : Sto} {r1 : Int32} {r2 : Sto} {σ : Sto} {f42 : Int32 → Int32 → Int32 → Int32 → Sto → Option (Int32 × Sto)} {x1 : Int32} {x2 : Int32} {x3 : Int32} {x4 : Int32} (hf42 : ∀ (x1 : Int32) (x2 : Int32) (x3 : Int32) (x4 : Int32) (σ' : Sto), f42 x1 x2 x3 x4 σ' = some (r1, r2) → G p l e (rmd 3 0 0) s m args below meth c E true (sZ σ0) ad0 (MQ below (QI E true σ0 r1 r2 ad0) args s 0 0 (AE E)) 5 0 0 σ' 42 [(0, .ref 81), (1, .int x1), (2, .int x2), (3, .int x3), (4, .int x4)] []) (h : mX12_claim_42B f42 x1 x2 x3 x4 σ = some (r1, r2)) : G p l e (rmd 3 0 0) s m args below meth c E true (sZ σ0) ad0 (MQ below (QI E true σ0 r1 r2 ad0) args s 0 0 (AE E)) 5 0 0 σ 42 [(0, .ref 81), (1, .int x1), (2, .int x2), (3, .int x3), (4, .int x4)] [] := by
  unfold mX12_claim_42B at h
  refine G_iload C 4 rfl dX12_claim_42 ?_
  refine G_aload_n C 0 rfl rfl dX12_claim_44 ?_
  refine G_getI C fl_X12_273_11 (Or.inl rfl) ko_81 dX12_claim_45 ?_
  refine G_icmp_ge (tgt := 89) C rfl dX12_claim_48 (fun hc7 => ?_) (fun hc7 => ?_)
  · replace h := (if_pos hc7).symm.trans h
    refine G_iload_n C 3 rfl rfl dX12_claim_89 ?_
    refine G_if_eq (tgt := 95) C rfl dX12_claim_90 (fun hc8 => ?_) (fun hc8 => ?_)
    · replace h := (if_pos hc8).symm.trans h
      refine G_aload_n C 0 rfl rfl dX12_claim_95 ?_
      refine G_getF C fl_X12_89_11 rfl rfl fn_81_35 dX12_claim_96 ?_
      refine G_aload_n C 0 rfl rfl dX12_claim_99 ?_
      refine G_getI C fl_X12_273_11 (Or.inl rfl) ko_81 dX12_claim_100 ?_
      refine G_iload_n C 1 rfl rfl dX12_claim_103 ?_
      obtain ⟨hc9, h⟩ := ifn h
      obtain ⟨σ10, hs10, h⟩ := stp_elim h
      refine G_iastore C ks_108 hc9 dX12_claim_104 ?_
      rw [← hs10]
      refine G_aload_n C 0 rfl rfl dX12_claim_105 ?_
      refine G_getF C fl_X12_92_11 rfl rfl fn_81_36 dX12_claim_106 ?_
      refine G_aload_n C 0 rfl rfl dX12_claim_109 ?_
      refine G_getI C fl_X12_273_11 (Or.inl rfl) ko_81 dX12_claim_110 ?_
      refine G_iload_n C 2 rfl rfl dX12_claim_113 ?_
      obtain ⟨hc11, h⟩ := ifn h
      obtain ⟨σ12, hs12, h⟩ := stp_elim h
      refine G_iastore C ks_109 hc11 dX12_claim_114 ?_
      rw [← hs12]
      refine G_aload_n C 0 rfl rfl dX12_claim_115 ?_
      refine G_getF C fl_X12_95_11 rfl rfl fn_81_37 dX12_claim_116 ?_
      refine G_aload_n C 0 rfl rfl dX12_claim_119 ?_
      refine G_getI C fl_X12_273_11 (Or.inl rfl) ko_81 dX12_claim_120 ?_
      refine G_aload_n C 0 rfl rfl dX12_claim_123 ?_
      refine G_getI C fl_X12_250_11 (Or.inl rfl) ko_81 dX12_claim_124 ?_
      obtain ⟨hc13, h⟩ := ifn h
      obtain ⟨σ14, hs14, h⟩ := stp_elim h
      refine G_iastore C ks_110 hc13 dX12_claim_127 ?_
      rw [← hs14]
      refine G_aload_n C 0 rfl rfl dX12_claim_128 ?_
      refine G_dup C rfl dX12_claim_129 ?_
      refine G_getI C fl_X12_273_11 (Or.inl rfl) ko_81 dX12_claim_130 ?_
      refine G_iconst C (v := 1) rfl dX12_claim_133 ?_
      refine G_iadd C dX12_claim_134 ?_
      obtain ⟨σ15, hs15, h⟩ := stp_elim h
      refine G_putI C fl_X12_273_11 fp_X12_11_8 (Or.inl rfl) (Or.inl rfl) ko_81 dX12_claim_135 ?_
      rw [← hs15]
      refine G_iconst C (v := 1) rfl dX12_claim_138 ?_
      obtain ⟨rfl, rfl⟩ := some2 h
      exact G_zret C (by decide) hr (Nat.le_of_ble_eq_true rfl) (Nat.le_of_ble_eq_true rfl) dX12_claim_139
    · replace h := (if_neg hc8).symm.trans h
      refine G_iconst C (v := 0) rfl dX12_claim_93 ?_
      obtain ⟨rfl, rfl⟩ := some2 h
      exact G_zret C (by decide) hr (Nat.le_of_ble_eq_true rfl) (Nat.le_of_ble_eq_true rfl) dX12_claim_94
  · replace h := (if_neg hc7).symm.trans h
    refine G_iload_n C 3 rfl rfl dX12_claim_51 ?_
    refine G_if_ne (tgt := 77) C rfl dX12_claim_52 (fun hc16 => ?_) (fun hc16 => ?_)
    · replace h := (if_neg hc16).symm.trans h
      refine G_iconst C (v := 1) rfl dX12_claim_77 ?_
      refine G_goto (tgt := 82) C rfl dX12_claim_78 ?_
      refine G_istore_n (L' := [(3, .int (1 : Int32)), (0, .ref 81), (1, .int x1), (2, .int x2), (4, .int x4)]) C rfl (Nat.le_of_ble_eq_true rfl) rfl dX12_claim_82 ?_
      refine G_iinc (v := 1) (L' := [(4, .int (x4 + (1 : Int32))), (3, .int (1 : Int32)), (0, .ref 81), (1, .int x1), (2, .int x2)]) C 4 rfl rfl (Nat.le_of_ble_eq_true rfl) rfl dX12_claim_83 ?_
      refine G_goto (tgt := 42) C rfl dX12_claim_86 ?_
      refine G_sub [2, 3, 4, 1, 0] rfl ?_
      exact hf42 _ _ _ _ _ h
    · replace h := (if_pos hc16).symm.trans h
      refine G_aload_n C 0 rfl rfl dX12_claim_55 ?_
      refine G_getF C fl_X12_89_11 rfl rfl fn_81_35 dX12_claim_56 ?_
      refine G_iload C 4 rfl dX12_claim_59 ?_
      obtain ⟨hc17, h⟩ := ifn h
      refine G_iaload C ks_108 hc17 dX12_claim_61 ?_
      refine G_iload_n C 1 rfl rfl dX12_claim_62 ?_
      refine G_icmp_ne (tgt := 81) C rfl dX12_claim_63 (fun hc18 => ?_) (fun hc18 => ?_)
      · replace h := (if_neg hc18).symm.trans h
        refine G_iconst C (v := 0) rfl dX12_claim_81 ?_
        refine G_istore_n (L' := [(3, .int (0 : Int32)), (0, .ref 81), (1, .int x1), (2, .int x2), (4, .int x4)]) C rfl (Nat.le_of_ble_eq_true rfl) rfl dX12_claim_82 ?_
        refine G_iinc (v := 1) (L' := [(4, .int (x4 + (1 : Int32))), (3, .int (0 : Int32)), (0, .ref 81), (1, .int x1), (2, .int x2)]) C 4 rfl rfl (Nat.le_of_ble_eq_true rfl) rfl dX12_claim_83 ?_
        refine G_goto (tgt := 42) C rfl dX12_claim_86 ?_
        refine G_sub [2, 3, 4, 1, 0] rfl ?_
        exact hf42 _ _ _ _ _ h
      · replace h := (if_pos hc18).symm.trans h
        refine G_aload_n C 0 rfl rfl dX12_claim_66 ?_
        refine G_getF C fl_X12_92_11 rfl rfl fn_81_36 dX12_claim_67 ?_
        refine G_iload C 4 rfl dX12_claim_70 ?_
        refine G_iaload C ks_109 hc17 dX12_claim_72 ?_
        refine G_iload_n C 2 rfl rfl dX12_claim_73 ?_
        refine G_icmp_ne (tgt := 81) C rfl dX12_claim_74 (fun hc19 => ?_) (fun hc19 => ?_)
        · replace h := (if_neg hc19).symm.trans h
          refine G_iconst C (v := 0) rfl dX12_claim_81 ?_
          refine G_istore_n (L' := [(3, .int (0 : Int32)), (0, .ref 81), (1, .int x1), (2, .int x2), (4, .int x4)]) C rfl (Nat.le_of_ble_eq_true rfl) rfl dX12_claim_82 ?_
          refine G_iinc (v := 1) (L' := [(4, .int (x4 + (1 : Int32))), (3, .int (0 : Int32)), (0, .ref 81), (1, .int x1), (2, .int x2)]) C 4 rfl rfl (Nat.le_of_ble_eq_true rfl) rfl dX12_claim_83 ?_
          refine G_goto (tgt := 42) C rfl dX12_claim_86 ?_
          refine G_sub [2, 3, 4, 1, 0] rfl ?_
          exact hf42 _ _ _ _ _ h
        · replace h := (if_pos hc19).symm.trans h
          refine G_iconst C (v := 1) rfl dX12_claim_77 ?_
          refine G_goto (tgt := 82) C rfl dX12_claim_78 ?_
          refine G_istore_n (L' := [(3, .int (1 : Int32)), (0, .ref 81), (1, .int x1), (2, .int x2), (4, .int x4)]) C rfl (Nat.le_of_ble_eq_true rfl) rfl dX12_claim_82 ?_
          refine G_iinc (v := 1) (L' := [(4, .int (x4 + (1 : Int32))), (3, .int (1 : Int32)), (0, .ref 81), (1, .int x1), (2, .int x2)]) C 4 rfl rfl (Nat.le_of_ble_eq_true rfl) rfl dX12_claim_83 ?_
          refine G_goto (tgt := 42) C rfl dX12_claim_86 ?_
          refine G_sub [2, 3, 4, 1, 0] rfl ?_
          exact hf42 _ _ _ _ _ h
set_option maxRecDepth 100000 in
set_option maxHeartbeats 4000000 in
theorem eX12_claim_42 (C : Cx E p s m args meth c cX12_claim 5 RX12) (hr : meth.sig.returnType = (some .boolean)) {σ0 : Sto} {r1 : Int32} {r2 : Sto} {σ : Sto} {n : Nat} {x1 : Int32} {x2 : Int32} {x3 : Int32} {x4 : Int32} (h : mX12_claim_42 n x1 x2 x3 x4 σ = some (r1, r2)) : G p l e (rmd 3 0 0) s m args below meth c E true (sZ σ0) ad0 (MQ below (QI E true σ0 r1 r2 ad0) args s 0 0 (AE E)) 5 0 0 σ 42 [(0, .ref 81), (1, .int x1), (2, .int x2), (3, .int x3), (4, .int x4)] [] := by
  induction n generalizing x1 x2 x3 x4 σ with
  | zero => exact nomatch (show (none : Option (Int32 × Sto)) = some (r1, r2) from h)
  | succ n ih => exact eX12_claim_42B C hr (fun z0 z1 z2 z3 σ9 h9 => ih h9) h
set_option maxRecDepth 100000 in
set_option maxHeartbeats 4000000 in
theorem dX12_claim {σ : Sto} {p0 : Int32} {p1 : Int32} {r1 : Int32} {r2 : Sto} (h : mX12_claim p0 p1 σ = some (r1, r2)) : MM l yX12_claim cX12_claim 5 (some .boolean) 3 0 0 E true σ [.ref 81, .int p0, .int p1] (QI E true σ r1 r2) := by
  unfold mX12_claim at h
  refine MM_of (by decide) (Nat.le_of_ble_eq_true rfl) rfl (fun p e s m args below meth c ad0 C hr hn => ?_)
  refine G_aload_n C 0 rfl rfl dX12_claim_0 ?_
  refine G_iconst C (v := 0) rfl dX12_claim_1 ?_
  obtain ⟨σ1, hs1, h⟩ := stp_elim h
  refine G_putI C fl_X12_208_11 fp_X12_11_0 (Or.inl rfl) (Or.inl rfl) ko_81 dX12_claim_2 ?_
  rw [← hs1]
  refine G_aload_n C 0 rfl rfl dX12_claim_5 ?_
  refine G_iload_n C 1 rfl rfl dX12_claim_6 ?_
  obtain ⟨v2, σ2, hv2, h⟩ := bd2_elim h
  refine G_callI (run_V C [.int p0] [] (dX12_isPerson hv2) ml_X12_isPerson mv_X12_isPerson lk_X12_239 ⟨(Nat.le_of_ble_eq_true rfl), (Nat.le_of_ble_eq_true rfl)⟩ ⟨(Nat.le_of_ble_eq_true rfl), (Nat.le_of_ble_eq_true rfl)⟩ vq_11 rfl ko_81 rfl (Nat.le_of_ble_eq_true rfl) dX12_claim_7) ?_
  refine G_if_eq (tgt := 21) C rfl dX12_claim_10 (fun hc3 => ?_) (fun hc3 => ?_)
  · replace h := (if_pos hc3).symm.trans h
    refine G_iconst C (v := 0) rfl dX12_claim_21 ?_
    obtain ⟨rfl, rfl⟩ := some2 h
    exact G_zret C (by decide) hr (Nat.le_of_ble_eq_true rfl) (Nat.le_of_ble_eq_true rfl) dX12_claim_22
  · replace h := (if_neg hc3).symm.trans h
    refine G_aload_n C 0 rfl rfl dX12_claim_13 ?_
    refine G_iload_n C 2 rfl rfl dX12_claim_14 ?_
    obtain ⟨v4, σ4, hv4, h⟩ := bd2_elim h
    refine G_callI (run_V C [.int p1] [] (dX12_isSale hv4) ml_X12_isSale mv_X12_isSale lk_X12_270 ⟨(Nat.le_of_ble_eq_true rfl), (Nat.le_of_ble_eq_true rfl)⟩ ⟨(Nat.le_of_ble_eq_true rfl), (Nat.le_of_ble_eq_true rfl)⟩ vq_11 rfl ko_81 rfl (Nat.le_of_ble_eq_true rfl) dX12_claim_15) ?_
    refine G_if_ne (tgt := 23) C rfl dX12_claim_18 (fun hc5 => ?_) (fun hc5 => ?_)
    · replace h := (if_neg hc5).symm.trans h
      refine G_aload_n C 0 rfl rfl dX12_claim_23 ?_
      refine G_getI C fl_X12_273_11 (Or.inl rfl) ko_81 dX12_claim_24 ?_
      refine G_sipush C (v := 200) rfl dX12_claim_27 ?_
      refine G_icmp_ne (tgt := 37) C rfl dX12_claim_30 (fun hc6 => ?_) (fun hc6 => ?_)
      · replace h := (if_neg hc6).symm.trans h
        refine G_iconst C (v := 0) rfl dX12_claim_37 ?_
        refine G_istore_n (L' := [(3, .int (0 : Int32)), (0, .ref 81), (1, .int p0), (2, .int p1)]) C rfl (Nat.le_of_ble_eq_true rfl) rfl dX12_claim_38 ?_
        refine G_iconst C (v := 0) rfl dX12_claim_39 ?_
        refine G_istore (L' := [(4, .int (0 : Int32)), (3, .int (0 : Int32)), (0, .ref 81), (1, .int p0), (2, .int p1)]) C (Nat.le_of_ble_eq_true rfl) rfl dX12_claim_40 ?_
        refine G_sub [2, 3, 4, 1, 0] rfl ?_
        exact eX12_claim_42 C hr h
      · replace h := (if_pos hc6).symm.trans h
        refine G_iconst C (v := 1) rfl dX12_claim_33 ?_
        refine G_goto (tgt := 38) C rfl dX12_claim_34 ?_
        refine G_istore_n (L' := [(3, .int (1 : Int32)), (0, .ref 81), (1, .int p0), (2, .int p1)]) C rfl (Nat.le_of_ble_eq_true rfl) rfl dX12_claim_38 ?_
        refine G_iconst C (v := 0) rfl dX12_claim_39 ?_
        refine G_istore (L' := [(4, .int (0 : Int32)), (3, .int (1 : Int32)), (0, .ref 81), (1, .int p0), (2, .int p1)]) C (Nat.le_of_ble_eq_true rfl) rfl dX12_claim_40 ?_
        refine G_sub [2, 3, 4, 1, 0] rfl ?_
        exact eX12_claim_42 C hr h
    · replace h := (if_pos hc5).symm.trans h
      refine G_iconst C (v := 0) rfl dX12_claim_21 ?_
      obtain ⟨rfl, rfl⟩ := some2 h
      exact G_zret C (by decide) hr (Nat.le_of_ble_eq_true rfl) (Nat.le_of_ble_eq_true rfl) dX12_claim_22
set_option maxRecDepth 100000 in
set_option maxHeartbeats 4000000 in
theorem eX12_lays_3B (C : Cx E p s m args meth c cX12_lays 3 RX12) (hr : meth.sig.returnType = none) {σ0 : Sto} {r2 : Sto} {σ : Sto} {f3 : Int32 → Int32 → Sto → Option Sto} {x1 : Int32} {x2 : Int32} (hf3 : ∀ (x1 : Int32) (x2 : Int32) (σ' : Sto), f3 x1 x2 σ' = some r2 → G p l e (rmd 1 0 0) s m args below meth c E true (sZ σ0) ad0 (MQ below (QV E true σ0 r2 ad0) args s 0 0 (AE E)) 3 0 0 σ' 3 [(0, .ref 81), (1, .int x1), (2, .int x2)] []) (h : mX12_lays_3B f3 x1 x2 σ = some r2) : G p l e (rmd 1 0 0) s m args below meth c E true (sZ σ0) ad0 (MQ below (QV E true σ0 r2 ad0) args s 0 0 (AE E)) 3 0 0 σ 3 [(0, .ref 81), (1, .int x1), (2, .int x2)] [] := by
  unfold mX12_lays_3B at h
  refine G_iload_n C 2 rfl rfl dX12_lays_3 ?_
  refine G_if_lt (tgt := 39) C rfl dX12_lays_4 (fun hc1 => ?_) (fun hc1 => ?_)
  · replace h := (if_pos hc1).symm.trans h
    obtain rfl := Option.some.inj h
    exact G_vret C hr (Nat.le_of_ble_eq_true rfl) (Nat.le_of_ble_eq_true rfl) dX12_lays_39
  · replace h := (if_neg hc1).symm.trans h
    refine G_aload_n C 0 rfl rfl dX12_lays_7 ?_
    refine G_getF C fl_X12_98_11 rfl rfl fn_81_38 dX12_lays_8 ?_
    refine G_aload_n C 0 rfl rfl dX12_lays_11 ?_
    refine G_getI C fl_X12_276_11 (Or.inl rfl) ko_81 dX12_lays_12 ?_
    refine G_iload_n C 1 rfl rfl dX12_lays_15 ?_
    refine G_iload_n C 2 rfl rfl dX12_lays_16 ?_
    refine G_ishr C dX12_lays_17 ?_
    refine G_sipush C (v := 255) rfl dX12_lays_18 ?_
    refine G_iand C dX12_lays_21 ?_
    obtain ⟨hc2, h⟩ := ifn h
    obtain ⟨σ3, hs3, h⟩ := stp_elim h
    refine G_iastore C ks_111 hc2 dX12_lays_22 ?_
    rw [← hs3]
    refine G_aload_n C 0 rfl rfl dX12_lays_23 ?_
    refine G_dup C rfl dX12_lays_24 ?_
    refine G_getI C fl_X12_276_11 (Or.inl rfl) ko_81 dX12_lays_25 ?_
    refine G_iconst C (v := 1) rfl dX12_lays_28 ?_
    refine G_iadd C dX12_lays_29 ?_
    obtain ⟨σ4, hs4, h⟩ := stp_elim h
    refine G_putI C fl_X12_276_11 fp_X12_11_39 (Or.inl rfl) (Or.inl rfl) ko_81 dX12_lays_30 ?_
    rw [← hs4]
    refine G_iinc (v := -8) (L' := [(2, .int (x2 + (-8 : Int32))), (0, .ref 81), (1, .int x1)]) C 2 rfl rfl (Nat.le_of_ble_eq_true rfl) rfl dX12_lays_33 ?_
    refine G_goto (tgt := 3) C rfl dX12_lays_36 ?_
    refine G_sub [1, 2, 0] rfl ?_
    exact hf3 _ _ _ h
set_option maxRecDepth 100000 in
set_option maxHeartbeats 4000000 in
theorem eX12_lays_3 (C : Cx E p s m args meth c cX12_lays 3 RX12) (hr : meth.sig.returnType = none) {σ0 : Sto} {r2 : Sto} {σ : Sto} {n : Nat} {x1 : Int32} {x2 : Int32} (h : mX12_lays_3 n x1 x2 σ = some r2) : G p l e (rmd 1 0 0) s m args below meth c E true (sZ σ0) ad0 (MQ below (QV E true σ0 r2 ad0) args s 0 0 (AE E)) 3 0 0 σ 3 [(0, .ref 81), (1, .int x1), (2, .int x2)] [] := by
  induction n generalizing x1 x2 σ with
  | zero => exact nomatch (show (none : Option Sto) = some r2 from h)
  | succ n ih => exact eX12_lays_3B C hr (fun z0 z1 σ9 h9 => ih h9) h
set_option maxRecDepth 100000 in
set_option maxHeartbeats 4000000 in
theorem dX12_lays {σ : Sto} {p0 : Int32} {r2 : Sto} (h : mX12_lays p0 σ = some r2) : MM l yX12_lays cX12_lays 3 none 1 0 0 E true σ [.ref 81, .int p0] (QV E true σ r2) := by
  unfold mX12_lays at h
  refine MM_of (by decide) (Nat.le_of_ble_eq_true rfl) rfl (fun p e s m args below meth c ad0 C hr hn => ?_)
  refine G_bipush C (v := 24) rfl dX12_lays_0 ?_
  refine G_istore_n (L' := [(2, .int (24 : Int32)), (0, .ref 81), (1, .int p0)]) C rfl (Nat.le_of_ble_eq_true rfl) rfl dX12_lays_2 ?_
  refine G_sub [1, 2, 0] rfl ?_
  exact eX12_lays_3 C hr h
set_option maxRecDepth 100000 in
set_option maxHeartbeats 4000000 in
theorem dX12_feed {σ : Sto} {p0 : Int32} {p1 : Int32} {p2 : Int32} {p3 : Int32} {p4 : Int32} {r1 : Int32} {r2 : Sto} (h : mX12_feed p0 p1 p2 p3 p4 σ = some (r1, r2)) : MM l yX12_feed cX12_feed 6 (some .int) 2 0 0 E true σ [.ref 81, .int p0, .int p1, .int p2, .int p3, .int p4] (QI E true σ r1 r2) := by
  unfold mX12_feed at h
  refine MM_of (by decide) (Nat.le_of_ble_eq_true rfl) rfl (fun p e s m args below meth c ad0 C hr hn => ?_)
  refine G_aload_n C 0 rfl rfl dX12_feed_0 ?_
  refine G_iconst C (v := 0) rfl dX12_feed_1 ?_
  obtain ⟨σ1, hs1, h⟩ := stp_elim h
  refine G_putI C fl_X12_208_11 fp_X12_11_0 (Or.inl rfl) (Or.inl rfl) ko_81 dX12_feed_2 ?_
  rw [← hs1]
  refine G_aload_n C 0 rfl rfl dX12_feed_5 ?_
  refine G_getI C fl_X12_276_11 (Or.inl rfl) ko_81 dX12_feed_6 ?_
  refine G_bipush C (v := 20) rfl dX12_feed_9 ?_
  refine G_iadd C dX12_feed_11 ?_
  refine G_sipush C (v := 500) rfl dX12_feed_12 ?_
  refine G_icmp_le (tgt := 20) C rfl dX12_feed_15 (fun hc2 => ?_) (fun hc2 => ?_)
  · replace h := (if_pos hc2).symm.trans h
    refine G_aload_n C 0 rfl rfl dX12_feed_20 ?_
    refine G_iload_n C 1 rfl rfl dX12_feed_21 ?_
    obtain ⟨σ3, hv3, h⟩ := bnd h
    refine G_callV (run_V C [.int p0] [] (dX12_lays hv3) ml_X12_lays mv_X12_lays lk_X12_279 ⟨(Nat.le_of_ble_eq_true rfl), (Nat.le_of_ble_eq_true rfl)⟩ ⟨(Nat.le_of_ble_eq_true rfl), (Nat.le_of_ble_eq_true rfl)⟩ vq_11 rfl ko_81 rfl (Nat.le_of_ble_eq_true rfl) dX12_feed_22) ?_
    refine G_aload_n C 0 rfl rfl dX12_feed_25 ?_
    refine G_iload_n C 2 rfl rfl dX12_feed_26 ?_
    obtain ⟨σ4, hv4, h⟩ := bnd h
    refine G_callV (run_V C [.int p1] [] (dX12_lays hv4) ml_X12_lays mv_X12_lays lk_X12_279 ⟨(Nat.le_of_ble_eq_true rfl), (Nat.le_of_ble_eq_true rfl)⟩ ⟨(Nat.le_of_ble_eq_true rfl), (Nat.le_of_ble_eq_true rfl)⟩ vq_11 rfl ko_81 rfl (Nat.le_of_ble_eq_true rfl) dX12_feed_27) ?_
    refine G_aload_n C 0 rfl rfl dX12_feed_30 ?_
    refine G_iload_n C 3 rfl rfl dX12_feed_31 ?_
    obtain ⟨σ5, hv5, h⟩ := bnd h
    refine G_callV (run_V C [.int p2] [] (dX12_lays hv5) ml_X12_lays mv_X12_lays lk_X12_279 ⟨(Nat.le_of_ble_eq_true rfl), (Nat.le_of_ble_eq_true rfl)⟩ ⟨(Nat.le_of_ble_eq_true rfl), (Nat.le_of_ble_eq_true rfl)⟩ vq_11 rfl ko_81 rfl (Nat.le_of_ble_eq_true rfl) dX12_feed_32) ?_
    refine G_aload_n C 0 rfl rfl dX12_feed_35 ?_
    refine G_iload C 4 rfl dX12_feed_36 ?_
    obtain ⟨σ6, hv6, h⟩ := bnd h
    refine G_callV (run_V C [.int p3] [] (dX12_lays hv6) ml_X12_lays mv_X12_lays lk_X12_279 ⟨(Nat.le_of_ble_eq_true rfl), (Nat.le_of_ble_eq_true rfl)⟩ ⟨(Nat.le_of_ble_eq_true rfl), (Nat.le_of_ble_eq_true rfl)⟩ vq_11 rfl ko_81 rfl (Nat.le_of_ble_eq_true rfl) dX12_feed_38) ?_
    refine G_aload_n C 0 rfl rfl dX12_feed_41 ?_
    refine G_iload C 5 rfl dX12_feed_42 ?_
    obtain ⟨σ7, hv7, h⟩ := bnd h
    refine G_callV (run_V C [.int p4] [] (dX12_lays hv7) ml_X12_lays mv_X12_lays lk_X12_279 ⟨(Nat.le_of_ble_eq_true rfl), (Nat.le_of_ble_eq_true rfl)⟩ ⟨(Nat.le_of_ble_eq_true rfl), (Nat.le_of_ble_eq_true rfl)⟩ vq_11 rfl ko_81 rfl (Nat.le_of_ble_eq_true rfl) dX12_feed_44) ?_
    refine G_aload_n C 0 rfl rfl dX12_feed_47 ?_
    refine G_getI C fl_X12_276_11 (Or.inl rfl) ko_81 dX12_feed_48 ?_
    obtain ⟨rfl, rfl⟩ := some2 h
    exact G_iret C hr (Nat.le_of_ble_eq_true rfl) (Nat.le_of_ble_eq_true rfl) dX12_feed_51
  · replace h := (if_neg hc2).symm.trans h
    refine G_iconst C (v := -1) rfl dX12_feed_18 ?_
    obtain ⟨rfl, rfl⟩ := some2 h
    exact G_iret C hr (Nat.le_of_ble_eq_true rfl) (Nat.le_of_ble_eq_true rfl) dX12_feed_19
set_option maxRecDepth 100000 in
set_option maxHeartbeats 4000000 in
theorem dX12_byteAt {σ : Sto} {p0 : Int32} {r : Int32} (h : mX12_byteAt p0 σ = some r) : MM l yX12_byteAt cX12_byteAt 2 (some .int) 1 0 0 E true σ [.ref 81, .int p0] (QI E true σ r σ) := by
  unfold mX12_byteAt at h
  refine MM_of (by decide) (Nat.le_of_ble_eq_true rfl) rfl (fun p e s m args below meth c ad0 C hr hn => ?_)
  refine G_iload_n C 1 rfl rfl dX12_byteAt_0 ?_
  refine G_aload_n C 0 rfl rfl dX12_byteAt_1 ?_
  refine G_getI C fl_X12_283_11 (Or.inl rfl) ko_81 dX12_byteAt_2 ?_
  refine G_icmp_ge (tgt := 17) C rfl dX12_byteAt_5 (fun hc1 => ?_) (fun hc1 => ?_)
  · replace h := (if_pos hc1).symm.trans h
    refine G_iconst C (v := 0) rfl dX12_byteAt_17 ?_
    obtain rfl := Option.some.inj h
    exact G_iret C hr (Nat.le_of_ble_eq_true rfl) (Nat.le_of_ble_eq_true rfl) dX12_byteAt_18
  · replace h := (if_neg hc1).symm.trans h
    refine G_aload_n C 0 rfl rfl dX12_byteAt_8 ?_
    refine G_getF C fl_X12_98_11 rfl rfl fn_81_38 dX12_byteAt_9 ?_
    refine G_iload_n C 1 rfl rfl dX12_byteAt_12 ?_
    obtain ⟨hc2, h⟩ := ifn h
    refine G_iaload C ks_111 hc2 dX12_byteAt_13 ?_
    refine G_goto (tgt := 18) C rfl dX12_byteAt_14 ?_
    obtain rfl := Option.some.inj h
    exact G_iret C hr (Nat.le_of_ble_eq_true rfl) (Nat.le_of_ble_eq_true rfl) dX12_byteAt_18
set_option maxRecDepth 100000 in
set_option maxHeartbeats 4000000 in
theorem dX12_isLetter {σ : Sto} {p0 : Int32} {r : Int32} (h : mX12_isLetter p0 σ = r) : MM l yX12_isLetter cX12_isLetter 1 (some .boolean) 1 0 0 E st σ [.int p0] (QI E st σ r σ) := by
  unfold mX12_isLetter at h
  refine MM_of (by decide) (Nat.le_of_ble_eq_true rfl) rfl (fun p e s m args below meth c ad0 C hr hn => ?_)
  refine G_iload_n C 0 rfl rfl dX12_isLetter_0 ?_
  refine G_bipush C (v := 97) rfl dX12_isLetter_1 ?_
  refine G_icmp_lt (tgt := 16) C rfl dX12_isLetter_3 (fun hc1 => ?_) (fun hc1 => ?_)
  · replace h := (if_pos hc1).symm.trans h
    refine G_iconst C (v := 0) rfl dX12_isLetter_16 ?_
    subst h
    exact G_zret C (by decide) hr (Nat.le_of_ble_eq_true rfl) (Nat.le_of_ble_eq_true rfl) dX12_isLetter_17
  · replace h := (if_neg hc1).symm.trans h
    refine G_iload_n C 0 rfl rfl dX12_isLetter_6 ?_
    refine G_bipush C (v := 122) rfl dX12_isLetter_7 ?_
    refine G_icmp_gt (tgt := 16) C rfl dX12_isLetter_9 (fun hc2 => ?_) (fun hc2 => ?_)
    · replace h := (if_pos hc2).symm.trans h
      refine G_iconst C (v := 0) rfl dX12_isLetter_16 ?_
      subst h
      exact G_zret C (by decide) hr (Nat.le_of_ble_eq_true rfl) (Nat.le_of_ble_eq_true rfl) dX12_isLetter_17
    · replace h := (if_neg hc2).symm.trans h
      refine G_iconst C (v := 1) rfl dX12_isLetter_12 ?_
      refine G_goto (tgt := 17) C rfl dX12_isLetter_13 ?_
      subst h
      exact G_zret C (by decide) hr (Nat.le_of_ble_eq_true rfl) (Nat.le_of_ble_eq_true rfl) dX12_isLetter_17
set_option maxRecDepth 100000 in
set_option maxHeartbeats 4000000 in
theorem dX12_isDigit {σ : Sto} {p0 : Int32} {r : Int32} (h : mX12_isDigit p0 σ = r) : MM l yX12_isDigit cX12_isDigit 1 (some .boolean) 1 0 0 E st σ [.int p0] (QI E st σ r σ) := by
  unfold mX12_isDigit at h
  refine MM_of (by decide) (Nat.le_of_ble_eq_true rfl) rfl (fun p e s m args below meth c ad0 C hr hn => ?_)
  refine G_iload_n C 0 rfl rfl dX12_isDigit_0 ?_
  refine G_bipush C (v := 48) rfl dX12_isDigit_1 ?_
  refine G_icmp_lt (tgt := 16) C rfl dX12_isDigit_3 (fun hc1 => ?_) (fun hc1 => ?_)
  · replace h := (if_pos hc1).symm.trans h
    refine G_iconst C (v := 0) rfl dX12_isDigit_16 ?_
    subst h
    exact G_zret C (by decide) hr (Nat.le_of_ble_eq_true rfl) (Nat.le_of_ble_eq_true rfl) dX12_isDigit_17
  · replace h := (if_neg hc1).symm.trans h
    refine G_iload_n C 0 rfl rfl dX12_isDigit_6 ?_
    refine G_bipush C (v := 57) rfl dX12_isDigit_7 ?_
    refine G_icmp_gt (tgt := 16) C rfl dX12_isDigit_9 (fun hc2 => ?_) (fun hc2 => ?_)
    · replace h := (if_pos hc2).symm.trans h
      refine G_iconst C (v := 0) rfl dX12_isDigit_16 ?_
      subst h
      exact G_zret C (by decide) hr (Nat.le_of_ble_eq_true rfl) (Nat.le_of_ble_eq_true rfl) dX12_isDigit_17
    · replace h := (if_neg hc2).symm.trans h
      refine G_iconst C (v := 1) rfl dX12_isDigit_12 ?_
      refine G_goto (tgt := 17) C rfl dX12_isDigit_13 ?_
      subst h
      exact G_zret C (by decide) hr (Nat.le_of_ble_eq_true rfl) (Nat.le_of_ble_eq_true rfl) dX12_isDigit_17
set_option maxRecDepth 100000 in
set_option maxHeartbeats 4000000 in
theorem eX12_goes_332 (C : Cx E p s m args meth c cX12_goes 2 RX12) (hr : meth.sig.returnType = none) {σ0 : Sto} {r2 : Sto} {σ : Sto} (h : mX12_goes_332 σ = some r2) : G p l e (rmd 2 0 0) s m args below meth c E true (sZ σ0) ad0 (MQ below (QV E true σ0 r2 ad0) args s 0 0 (AE E)) 2 0 0 σ 332 [(0, .ref 81)] [] := by
  unfold mX12_goes_332 at h
  refine G_aload_n C 0 rfl rfl dX12_goes_332 ?_
  refine G_aload_n C 0 rfl rfl dX12_goes_333 ?_
  refine G_getI C fl_X12_286_11 (Or.inl rfl) ko_81 dX12_goes_334 ?_
  refine G_aload_n C 0 rfl rfl dX12_goes_337 ?_
  refine G_getI C fl_X12_293_11 (Or.inl rfl) ko_81 dX12_goes_338 ?_
  refine G_isub C dX12_goes_341 ?_
  obtain ⟨σ15, hs15, h⟩ := stp_elim h
  refine G_putI C fl_X12_315_11 fp_X12_11_46 (Or.inl rfl) (Or.inl rfl) ko_81 dX12_goes_342 ?_
  rw [← hs15]
  obtain rfl := Option.some.inj h
  exact G_vret C hr (Nat.le_of_ble_eq_true rfl) (Nat.le_of_ble_eq_true rfl) dX12_goes_345
set_option maxRecDepth 100000 in
set_option maxHeartbeats 4000000 in
theorem eX12_goes_329 (C : Cx E p s m args meth c cX12_goes 2 RX12) (hr : meth.sig.returnType = none) {σ0 : Sto} {r2 : Sto} {σ : Sto} {y1 : Int32} (h : mX12_goes_329 y1 σ = some r2) : G p l e (rmd 2 0 0) s m args below meth c E true (sZ σ0) ad0 (MQ below (QV E true σ0 r2 ad0) args s 0 0 (AE E)) 2 0 0 σ 329 [(0, .ref 81)] [.int y1, .ref 81] := by
  unfold mX12_goes_329 at h
  obtain ⟨σ14, hs14, h⟩ := stp_elim h
  refine G_putI C fl_X12_306_11 fp_X12_11_44 (Or.inl rfl) (Or.inl rfl) ko_81 dX12_goes_329 ?_
  rw [← hs14]
  exact eX12_goes_332 C hr h
set_option maxRecDepth 100000 in
set_option maxHeartbeats 4000000 in
theorem eX12_goes_238 (C : Cx E p s m args meth c cX12_goes 2 RX12) (hr : meth.sig.returnType = none) {σ0 : Sto} {r2 : Sto} {σ : Sto} {f187 : Sto → Option Sto} (hf187 : ∀ (σ' : Sto), f187 σ' = some r2 → G p l e (rmd 2 0 0) s m args below meth c E true (sZ σ0) ad0 (MQ below (QV E true σ0 r2 ad0) args s 0 0 (AE E)) 2 0 0 σ' 187 [(0, .ref 81)] []) (h : mX12_goes_238 f187 σ = some r2) : G p l e (rmd 2 0 0) s m args below meth c E true (sZ σ0) ad0 (MQ below (QV E true σ0 r2 ad0) args s 0 0 (AE E)) 2 0 0 σ 238 [(0, .ref 81)] [] := by
  unfold mX12_goes_238 at h
  refine G_aload_n C 0 rfl rfl dX12_goes_238 ?_
  refine G_dup C rfl dX12_goes_239 ?_
  refine G_getI C fl_X12_286_11 (Or.inl rfl) ko_81 dX12_goes_240 ?_
  refine G_iconst C (v := 1) rfl dX12_goes_243 ?_
  refine G_iadd C dX12_goes_244 ?_
  obtain ⟨σ29, hs29, h⟩ := stp_elim h
  refine G_putI C fl_X12_286_11 fp_X12_11_43 (Or.inl rfl) (Or.inl rfl) ko_81 dX12_goes_245 ?_
  rw [← hs29]
  refine G_goto (tgt := 187) C rfl dX12_goes_248 ?_
  exact hf187  _ h
set_option maxRecDepth 100000 in
set_option maxHeartbeats 4000000 in
theorem eX12_goes_187B (C : Cx E p s m args meth c cX12_goes 2 RX12) (hr : meth.sig.returnType = none) {σ0 : Sto} {r2 : Sto} {σ : Sto} {f187 : Sto → Option Sto} (hf187 : ∀ (σ' : Sto), f187 σ' = some r2 → G p l e (rmd 2 0 0) s m args below meth c E true (sZ σ0) ad0 (MQ below (QV E true σ0 r2 ad0) args s 0 0 (AE E)) 2 0 0 σ' 187 [(0, .ref 81)] []) (h : mX12_goes_187B f187 σ = some r2) : G p l e (rmd 2 0 0) s m args below meth c E true (sZ σ0) ad0 (MQ below (QV E true σ0 r2 ad0) args s 0 0 (AE E)) 2 0 0 σ 187 [(0, .ref 81)] [] := by
  unfold mX12_goes_187B at h
  refine G_aload_n C 0 rfl rfl dX12_goes_187 ?_
  refine G_aload_n C 0 rfl rfl dX12_goes_188 ?_
  refine G_getI C fl_X12_286_11 (Or.inl rfl) ko_81 dX12_goes_189 ?_
  obtain ⟨v24, hv24, h⟩ := bnd h
  refine G_callI (run_V C [.int (sI σ 81 43)] [] (dX12_byteAt hv24) ml_X12_byteAt mv_X12_byteAt lk_X12_289 ⟨(Nat.le_of_ble_eq_true rfl), (Nat.le_of_ble_eq_true rfl)⟩ ⟨(Nat.le_of_ble_eq_true rfl), (Nat.le_of_ble_eq_true rfl)⟩ vq_11 rfl ko_81 rfl (Nat.le_of_ble_eq_true rfl) dX12_goes_192) ?_
  refine G_callI (run_S C [.int v24] [] (dX12_isDigit rfl) ml_X12_isDigit ms_X12_isDigit lk_X12_312 ⟨(Nat.le_of_ble_eq_true rfl), (Nat.le_of_ble_eq_true rfl)⟩ ⟨(Nat.le_of_ble_eq_true rfl), (Nat.le_of_ble_eq_true rfl)⟩ rfl (Nat.le_of_ble_eq_true rfl) dX12_goes_195) ?_
  refine G_if_eq (tgt := 251) C rfl dX12_goes_198 (fun hc26 => ?_) (fun hc26 => ?_)
  · replace h := (if_pos hc26).symm.trans h
    refine G_aload_n C 0 rfl rfl dX12_goes_251 ?_
    refine G_iconst C (v := 2) rfl dX12_goes_252 ?_
    obtain ⟨σ27, hs27, h⟩ := stp_elim h
    refine G_putI C fl_X12_306_11 fp_X12_11_44 (Or.inl rfl) (Or.inl rfl) ko_81 dX12_goes_253 ?_
    rw [← hs27]
    refine G_goto (tgt := 332) C rfl dX12_goes_256 ?_
    exact eX12_goes_332 C hr h
  · replace h := (if_neg hc26).symm.trans h
    refine G_aload_n C 0 rfl rfl dX12_goes_201 ?_
    refine G_getI C fl_X12_286_11 (Or.inl rfl) ko_81 dX12_goes_202 ?_
    refine G_aload_n C 0 rfl rfl dX12_goes_205 ?_
    refine G_getI C fl_X12_293_11 (Or.inl rfl) ko_81 dX12_goes_206 ?_
    refine G_isub C dX12_goes_209 ?_
    refine G_bipush C (v := 8) rfl dX12_goes_210 ?_
    refine G_icmp_ge (tgt := 238) C rfl dX12_goes_212 (fun hc28 => ?_) (fun hc28 => ?_)
    · replace h := (if_pos hc28).symm.trans h
      exact eX12_goes_238 C hr hf187 h
    · replace h := (if_neg hc28).symm.trans h
      refine G_aload_n C 0 rfl rfl dX12_goes_215 ?_
      refine G_bipush C (v := 10) rfl dX12_goes_216 ?_
      refine G_aload_n C 0 rfl rfl dX12_goes_218 ?_
      refine G_getI C fl_X12_300_11 (Or.inl rfl) ko_81 dX12_goes_219 ?_
      refine G_imul C dX12_goes_222 ?_
      refine G_aload_n C 0 rfl rfl dX12_goes_223 ?_
      refine G_aload_n C 0 rfl rfl dX12_goes_224 ?_
      refine G_getI C fl_X12_286_11 (Or.inl rfl) ko_81 dX12_goes_225 ?_
      obtain ⟨v30, hv30, h⟩ := bnd h
      refine G_callI (run_V C [.int (sI σ 81 43)] [.int ((10 : Int32) * (sI σ 81 47)), .ref 81] (dX12_byteAt hv30) ml_X12_byteAt mv_X12_byteAt lk_X12_289 ⟨(Nat.le_of_ble_eq_true rfl), (Nat.le_of_ble_eq_true rfl)⟩ ⟨(Nat.le_of_ble_eq_true rfl), (Nat.le_of_ble_eq_true rfl)⟩ vq_11 rfl ko_81 rfl (Nat.le_of_ble_eq_true rfl) dX12_goes_228) ?_
      refine G_iadd C dX12_goes_231 ?_
      refine G_bipush C (v := 48) rfl dX12_goes_232 ?_
      refine G_isub C dX12_goes_234 ?_
      obtain ⟨σ31, hs31, h⟩ := stp_elim h
      refine G_putI C fl_X12_300_11 fp_X12_11_47 (Or.inl rfl) (Or.inl rfl) ko_81 dX12_goes_235 ?_
      rw [← hs31]
      exact eX12_goes_238 C hr hf187 h
set_option maxRecDepth 100000 in
set_option maxHeartbeats 4000000 in
theorem eX12_goes_187 (C : Cx E p s m args meth c cX12_goes 2 RX12) (hr : meth.sig.returnType = none) {σ0 : Sto} {r2 : Sto} {σ : Sto} {n : Nat} (h : mX12_goes_187 n σ = some r2) : G p l e (rmd 2 0 0) s m args below meth c E true (sZ σ0) ad0 (MQ below (QV E true σ0 r2 ad0) args s 0 0 (AE E)) 2 0 0 σ 187 [(0, .ref 81)] [] := by
  induction n generalizing  σ with
  | zero => exact nomatch (show (none : Option Sto) = some r2 from h)
  | succ n ih => exact eX12_goes_187B C hr (fun σ9 h9 => ih h9) h
set_option maxRecDepth 100000 in
set_option maxHeartbeats 4000000 in
theorem eX12_goes_159 (C : Cx E p s m args meth c cX12_goes 2 RX12) (hr : meth.sig.returnType = none) {σ0 : Sto} {r2 : Sto} {σ : Sto} {f108 : Sto → Option Sto} (hf108 : ∀ (σ' : Sto), f108 σ' = some r2 → G p l e (rmd 2 0 0) s m args below meth c E true (sZ σ0) ad0 (MQ below (QV E true σ0 r2 ad0) args s 0 0 (AE E)) 2 0 0 σ' 108 [(0, .ref 81)] []) (h : mX12_goes_159 f108 σ = some r2) : G p l e (rmd 2 0 0) s m args below meth c E true (sZ σ0) ad0 (MQ below (QV E true σ0 r2 ad0) args s 0 0 (AE E)) 2 0 0 σ 159 [(0, .ref 81)] [] := by
  unfold mX12_goes_159 at h
  refine G_aload_n C 0 rfl rfl dX12_goes_159 ?_
  refine G_dup C rfl dX12_goes_160 ?_
  refine G_getI C fl_X12_286_11 (Or.inl rfl) ko_81 dX12_goes_161 ?_
  refine G_iconst C (v := 1) rfl dX12_goes_164 ?_
  refine G_iadd C dX12_goes_165 ?_
  obtain ⟨σ37, hs37, h⟩ := stp_elim h
  refine G_putI C fl_X12_286_11 fp_X12_11_43 (Or.inl rfl) (Or.inl rfl) ko_81 dX12_goes_166 ?_
  rw [← hs37]
  refine G_goto (tgt := 108) C rfl dX12_goes_169 ?_
  exact hf108  _ h
set_option maxRecDepth 100000 in
set_option maxHeartbeats 4000000 in
theorem eX12_goes_108B (C : Cx E p s m args meth c cX12_goes 2 RX12) (hr : meth.sig.returnType = none) {σ0 : Sto} {r2 : Sto} {σ : Sto} {f108 : Sto → Option Sto} (hf108 : ∀ (σ' : Sto), f108 σ' = some r2 → G p l e (rmd 2 0 0) s m args below meth c E true (sZ σ0) ad0 (MQ below (QV E true σ0 r2 ad0) args s 0 0 (AE E)) 2 0 0 σ' 108 [(0, .ref 81)] []) (h : mX12_goes_108B f108 σ = some r2) : G p l e (rmd 2 0 0) s m args below meth c E true (sZ σ0) ad0 (MQ below (QV E true σ0 r2 ad0) args s 0 0 (AE E)) 2 0 0 σ 108 [(0, .ref 81)] [] := by
  unfold mX12_goes_108B at h
  refine G_aload_n C 0 rfl rfl dX12_goes_108 ?_
  refine G_aload_n C 0 rfl rfl dX12_goes_109 ?_
  refine G_getI C fl_X12_286_11 (Or.inl rfl) ko_81 dX12_goes_110 ?_
  obtain ⟨v32, hv32, h⟩ := bnd h
  refine G_callI (run_V C [.int (sI σ 81 43)] [] (dX12_byteAt hv32) ml_X12_byteAt mv_X12_byteAt lk_X12_289 ⟨(Nat.le_of_ble_eq_true rfl), (Nat.le_of_ble_eq_true rfl)⟩ ⟨(Nat.le_of_ble_eq_true rfl), (Nat.le_of_ble_eq_true rfl)⟩ vq_11 rfl ko_81 rfl (Nat.le_of_ble_eq_true rfl) dX12_goes_113) ?_
  refine G_callI (run_S C [.int v32] [] (dX12_isLetter rfl) ml_X12_isLetter ms_X12_isLetter lk_X12_309 ⟨(Nat.le_of_ble_eq_true rfl), (Nat.le_of_ble_eq_true rfl)⟩ ⟨(Nat.le_of_ble_eq_true rfl), (Nat.le_of_ble_eq_true rfl)⟩ rfl (Nat.le_of_ble_eq_true rfl) dX12_goes_116) ?_
  refine G_if_eq (tgt := 172) C rfl dX12_goes_119 (fun hc34 => ?_) (fun hc34 => ?_)
  · replace h := (if_pos hc34).symm.trans h
    refine G_aload_n C 0 rfl rfl dX12_goes_172 ?_
    refine G_iconst C (v := 1) rfl dX12_goes_173 ?_
    obtain ⟨σ35, hs35, h⟩ := stp_elim h
    refine G_putI C fl_X12_306_11 fp_X12_11_44 (Or.inl rfl) (Or.inl rfl) ko_81 dX12_goes_174 ?_
    rw [← hs35]
    refine G_goto (tgt := 332) C rfl dX12_goes_177 ?_
    exact eX12_goes_332 C hr h
  · replace h := (if_neg hc34).symm.trans h
    refine G_aload_n C 0 rfl rfl dX12_goes_122 ?_
    refine G_getI C fl_X12_286_11 (Or.inl rfl) ko_81 dX12_goes_123 ?_
    refine G_aload_n C 0 rfl rfl dX12_goes_126 ?_
    refine G_getI C fl_X12_293_11 (Or.inl rfl) ko_81 dX12_goes_127 ?_
    refine G_isub C dX12_goes_130 ?_
    refine G_bipush C (v := 9) rfl dX12_goes_131 ?_
    refine G_icmp_ge (tgt := 159) C rfl dX12_goes_133 (fun hc36 => ?_) (fun hc36 => ?_)
    · replace h := (if_pos hc36).symm.trans h
      exact eX12_goes_159 C hr hf108 h
    · replace h := (if_neg hc36).symm.trans h
      refine G_aload_n C 0 rfl rfl dX12_goes_136 ?_
      refine G_aload_n C 0 rfl rfl dX12_goes_137 ?_
      refine G_getL C fl_X12_296_11 rfl ko_81 dX12_goes_138 ?_
      refine G_iconst C (v := 5) rfl dX12_goes_141 ?_
      refine G_lshl C dX12_goes_142 ?_
      refine G_aload_n C 0 rfl rfl dX12_goes_143 ?_
      refine G_aload_n C 0 rfl rfl dX12_goes_144 ?_
      refine G_getI C fl_X12_286_11 (Or.inl rfl) ko_81 dX12_goes_145 ?_
      obtain ⟨v38, hv38, h⟩ := bnd h
      refine G_callI (run_V C [.int (sI σ 81 43)] [.long ((sL σ 81 49) <<< (((5 : Int32)).toInt64 &&& 63)), .ref 81] (dX12_byteAt hv38) ml_X12_byteAt mv_X12_byteAt lk_X12_289 ⟨(Nat.le_of_ble_eq_true rfl), (Nat.le_of_ble_eq_true rfl)⟩ ⟨(Nat.le_of_ble_eq_true rfl), (Nat.le_of_ble_eq_true rfl)⟩ vq_11 rfl ko_81 rfl (Nat.le_of_ble_eq_true rfl) dX12_goes_148) ?_
      refine G_bipush C (v := 96) rfl dX12_goes_151 ?_
      refine G_isub C dX12_goes_153 ?_
      refine G_i2l C dX12_goes_154 ?_
      refine G_lor C dX12_goes_155 ?_
      obtain ⟨σ39, hs39, h⟩ := stp_elim h
      refine G_putL C fl_X12_296_11 fp_X12_11_49 (Or.inl rfl) rfl ko_81 dX12_goes_156 ?_
      rw [← hs39]
      exact eX12_goes_159 C hr hf108 h
set_option maxRecDepth 100000 in
set_option maxHeartbeats 4000000 in
theorem eX12_goes_108 (C : Cx E p s m args meth c cX12_goes 2 RX12) (hr : meth.sig.returnType = none) {σ0 : Sto} {r2 : Sto} {σ : Sto} {n : Nat} (h : mX12_goes_108 n σ = some r2) : G p l e (rmd 2 0 0) s m args below meth c E true (sZ σ0) ad0 (MQ below (QV E true σ0 r2 ad0) args s 0 0 (AE E)) 2 0 0 σ 108 [(0, .ref 81)] [] := by
  induction n generalizing  σ with
  | zero => exact nomatch (show (none : Option Sto) = some r2 from h)
  | succ n ih => exact eX12_goes_108B C hr (fun σ9 h9 => ih h9) h
set_option maxRecDepth 100000 in
set_option maxHeartbeats 4000000 in
theorem eX12_goes_50 (C : Cx E p s m args meth c cX12_goes 2 RX12) (hr : meth.sig.returnType = none) {σ0 : Sto} {r2 : Sto} {σ : Sto} (h : mX12_goes_50 σ = some r2) : G p l e (rmd 2 0 0) s m args below meth c E true (sZ σ0) ad0 (MQ below (QV E true σ0 r2 ad0) args s 0 0 (AE E)) 2 0 0 σ 50 [(0, .ref 81)] [] := by
  unfold mX12_goes_50 at h
  refine G_aload_n C 0 rfl rfl dX12_goes_50 ?_
  refine G_aload_n C 0 rfl rfl dX12_goes_51 ?_
  refine G_getI C fl_X12_286_11 (Or.inl rfl) ko_81 dX12_goes_52 ?_
  obtain ⟨σ2, hs2, h⟩ := stp_elim h
  refine G_putI C fl_X12_293_11 fp_X12_11_45 (Or.inl rfl) (Or.inl rfl) ko_81 dX12_goes_55 ?_
  rw [← hs2]
  refine G_aload_n C 0 rfl rfl dX12_goes_58 ?_
  refine G_lconst C (v := 0) rfl dX12_goes_59 ?_
  obtain ⟨σ3, hs3, h⟩ := stp_elim h
  refine G_putL C fl_X12_296_11 fp_X12_11_49 (Or.inl rfl) rfl ko_81 dX12_goes_60 ?_
  rw [← hs3]
  refine G_aload_n C 0 rfl rfl dX12_goes_63 ?_
  refine G_iconst C (v := 0) rfl dX12_goes_64 ?_
  obtain ⟨σ4, hs4, h⟩ := stp_elim h
  refine G_putI C fl_X12_300_11 fp_X12_11_47 (Or.inl rfl) (Or.inl rfl) ko_81 dX12_goes_65 ?_
  rw [← hs4]
  refine G_aload_n C 0 rfl rfl dX12_goes_68 ?_
  refine G_aload_n C 0 rfl rfl dX12_goes_69 ?_
  refine G_getI C fl_X12_286_11 (Or.inl rfl) ko_81 dX12_goes_70 ?_
  obtain ⟨v5, hv5, h⟩ := bnd h
  refine G_callI (run_V C [.int (sI σ4 81 43)] [] (dX12_byteAt hv5) ml_X12_byteAt mv_X12_byteAt lk_X12_289 ⟨(Nat.le_of_ble_eq_true rfl), (Nat.le_of_ble_eq_true rfl)⟩ ⟨(Nat.le_of_ble_eq_true rfl), (Nat.le_of_ble_eq_true rfl)⟩ vq_11 rfl ko_81 rfl (Nat.le_of_ble_eq_true rfl) dX12_goes_73) ?_
  refine G_istore_n (L' := [(1, .int v5), (0, .ref 81)]) C rfl (Nat.le_of_ble_eq_true rfl) rfl dX12_goes_76 ?_
  refine G_aload_n C 1 rfl rfl dX12_goes_77 ?_
  refine G_iload_n C 0 rfl rfl dX12_goes_78 ?_
  obtain ⟨σ6, hs6, h⟩ := stp_elim h
  refine G_putI C fl_X12_303_11 fp_X12_11_48 (Or.inl rfl) (Or.inl rfl) ko_81 dX12_goes_79 ?_
  rw [← hs6]
  refine G_aload_n C 1 rfl rfl dX12_goes_82 ?_
  refine G_getI C fl_X12_286_11 (Or.inl rfl) ko_81 dX12_goes_83 ?_
  refine G_aload_n C 1 rfl rfl dX12_goes_86 ?_
  refine G_getI C fl_X12_283_11 (Or.inl rfl) ko_81 dX12_goes_87 ?_
  refine G_icmp_lt (tgt := 101) C rfl dX12_goes_90 (fun hc7 => ?_) (fun hc7 => ?_)
  · replace h := (if_pos hc7).symm.trans h
    refine G_iload_n C 0 rfl rfl dX12_goes_101 ?_
    refine G_callI (run_S C [.int v5] [] (dX12_isLetter rfl) ml_X12_isLetter ms_X12_isLetter lk_X12_309 ⟨(Nat.le_of_ble_eq_true rfl), (Nat.le_of_ble_eq_true rfl)⟩ ⟨(Nat.le_of_ble_eq_true rfl), (Nat.le_of_ble_eq_true rfl)⟩ rfl (Nat.le_of_ble_eq_true rfl) dX12_goes_102) ?_
    refine G_if_eq (tgt := 180) C rfl dX12_goes_105 (fun hc9 => ?_) (fun hc9 => ?_)
    · replace h := (if_pos hc9).symm.trans h
      refine G_iload_n C 0 rfl rfl dX12_goes_180 ?_
      refine G_callI (run_S C [.int v5] [] (dX12_isDigit rfl) ml_X12_isDigit ms_X12_isDigit lk_X12_312 ⟨(Nat.le_of_ble_eq_true rfl), (Nat.le_of_ble_eq_true rfl)⟩ ⟨(Nat.le_of_ble_eq_true rfl), (Nat.le_of_ble_eq_true rfl)⟩ rfl (Nat.le_of_ble_eq_true rfl) dX12_goes_181) ?_
      refine G_if_eq (tgt := 259) C rfl dX12_goes_184 (fun hc11 => ?_) (fun hc11 => ?_)
      · replace h := (if_pos hc11).symm.trans h
        refine G_aload_n C 1 rfl rfl dX12_goes_259 ?_
        refine G_dup C rfl dX12_goes_260 ?_
        refine G_getI C fl_X12_286_11 (Or.inl rfl) ko_81 dX12_goes_261 ?_
        refine G_iconst C (v := 1) rfl dX12_goes_264 ?_
        refine G_iadd C dX12_goes_265 ?_
        obtain ⟨σ12, hs12, h⟩ := stp_elim h
        refine G_putI C fl_X12_286_11 fp_X12_11_43 (Or.inl rfl) (Or.inl rfl) ko_81 dX12_goes_266 ?_
        rw [← hs12]
        refine G_aload_n C 1 rfl rfl dX12_goes_269 ?_
        refine G_iload_n C 0 rfl rfl dX12_goes_270 ?_
        refine G_bipush C (v := 59) rfl dX12_goes_271 ?_
        refine G_icmp_eq (tgt := 324) C rfl dX12_goes_273 (fun hc13 => ?_) (fun hc13 => ?_)
        · replace h := (if_pos hc13).symm.trans h
          refine G_iconst C (v := 3) rfl dX12_goes_324 ?_
          refine G_goto (tgt := 329) C rfl dX12_goes_325 ?_
          refine G_sub [1] rfl ?_
          exact eX12_goes_329 C hr h
        · replace h := (if_neg hc13).symm.trans h
          refine G_iload_n C 0 rfl rfl dX12_goes_276 ?_
          refine G_bipush C (v := 40) rfl dX12_goes_277 ?_
          refine G_icmp_eq (tgt := 324) C rfl dX12_goes_279 (fun hc16 => ?_) (fun hc16 => ?_)
          · replace h := (if_pos hc16).symm.trans h
            refine G_iconst C (v := 3) rfl dX12_goes_324 ?_
            refine G_goto (tgt := 329) C rfl dX12_goes_325 ?_
            refine G_sub [1] rfl ?_
            exact eX12_goes_329 C hr h
          · replace h := (if_neg hc16).symm.trans h
            refine G_iload_n C 0 rfl rfl dX12_goes_282 ?_
            refine G_bipush C (v := 41) rfl dX12_goes_283 ?_
            refine G_icmp_eq (tgt := 324) C rfl dX12_goes_285 (fun hc17 => ?_) (fun hc17 => ?_)
            · replace h := (if_pos hc17).symm.trans h
              refine G_iconst C (v := 3) rfl dX12_goes_324 ?_
              refine G_goto (tgt := 329) C rfl dX12_goes_325 ?_
              refine G_sub [1] rfl ?_
              exact eX12_goes_329 C hr h
            · replace h := (if_neg hc17).symm.trans h
              refine G_iload_n C 0 rfl rfl dX12_goes_288 ?_
              refine G_bipush C (v := 43) rfl dX12_goes_289 ?_
              refine G_icmp_eq (tgt := 324) C rfl dX12_goes_291 (fun hc18 => ?_) (fun hc18 => ?_)
              · replace h := (if_pos hc18).symm.trans h
                refine G_iconst C (v := 3) rfl dX12_goes_324 ?_
                refine G_goto (tgt := 329) C rfl dX12_goes_325 ?_
                refine G_sub [1] rfl ?_
                exact eX12_goes_329 C hr h
              · replace h := (if_neg hc18).symm.trans h
                refine G_iload_n C 0 rfl rfl dX12_goes_294 ?_
                refine G_bipush C (v := 45) rfl dX12_goes_295 ?_
                refine G_icmp_eq (tgt := 324) C rfl dX12_goes_297 (fun hc19 => ?_) (fun hc19 => ?_)
                · replace h := (if_pos hc19).symm.trans h
                  refine G_iconst C (v := 3) rfl dX12_goes_324 ?_
                  refine G_goto (tgt := 329) C rfl dX12_goes_325 ?_
                  refine G_sub [1] rfl ?_
                  exact eX12_goes_329 C hr h
                · replace h := (if_neg hc19).symm.trans h
                  refine G_iload_n C 0 rfl rfl dX12_goes_300 ?_
                  refine G_bipush C (v := 42) rfl dX12_goes_301 ?_
                  refine G_icmp_eq (tgt := 324) C rfl dX12_goes_303 (fun hc20 => ?_) (fun hc20 => ?_)
                  · replace h := (if_pos hc20).symm.trans h
                    refine G_iconst C (v := 3) rfl dX12_goes_324 ?_
                    refine G_goto (tgt := 329) C rfl dX12_goes_325 ?_
                    refine G_sub [1] rfl ?_
                    exact eX12_goes_329 C hr h
                  · replace h := (if_neg hc20).symm.trans h
                    refine G_iload_n C 0 rfl rfl dX12_goes_306 ?_
                    refine G_bipush C (v := 47) rfl dX12_goes_307 ?_
                    refine G_icmp_eq (tgt := 324) C rfl dX12_goes_309 (fun hc21 => ?_) (fun hc21 => ?_)
                    · replace h := (if_pos hc21).symm.trans h
                      refine G_iconst C (v := 3) rfl dX12_goes_324 ?_
                      refine G_goto (tgt := 329) C rfl dX12_goes_325 ?_
                      refine G_sub [1] rfl ?_
                      exact eX12_goes_329 C hr h
                    · replace h := (if_neg hc21).symm.trans h
                      refine G_iload_n C 0 rfl rfl dX12_goes_312 ?_
                      refine G_bipush C (v := 60) rfl dX12_goes_313 ?_
                      refine G_icmp_eq (tgt := 324) C rfl dX12_goes_315 (fun hc22 => ?_) (fun hc22 => ?_)
                      · replace h := (if_pos hc22).symm.trans h
                        refine G_iconst C (v := 3) rfl dX12_goes_324 ?_
                        refine G_goto (tgt := 329) C rfl dX12_goes_325 ?_
                        refine G_sub [1] rfl ?_
                        exact eX12_goes_329 C hr h
                      · replace h := (if_neg hc22).symm.trans h
                        refine G_iload_n C 0 rfl rfl dX12_goes_318 ?_
                        refine G_bipush C (v := 61) rfl dX12_goes_319 ?_
                        refine G_icmp_ne (tgt := 328) C rfl dX12_goes_321 (fun hc23 => ?_) (fun hc23 => ?_)
                        · replace h := (if_neg hc23).symm.trans h
                          refine G_iconst C (v := 4) rfl dX12_goes_328 ?_
                          refine G_sub [1] rfl ?_
                          exact eX12_goes_329 C hr h
                        · replace h := (if_pos hc23).symm.trans h
                          refine G_iconst C (v := 3) rfl dX12_goes_324 ?_
                          refine G_goto (tgt := 329) C rfl dX12_goes_325 ?_
                          refine G_sub [1] rfl ?_
                          exact eX12_goes_329 C hr h
      · replace h := (if_neg hc11).symm.trans h
        refine G_sub [1] rfl ?_
        exact eX12_goes_187 C hr h
    · replace h := (if_neg hc9).symm.trans h
      refine G_sub [1] rfl ?_
      exact eX12_goes_108 C hr h
  · replace h := (if_neg hc7).symm.trans h
    refine G_aload_n C 1 rfl rfl dX12_goes_93 ?_
    refine G_iconst C (v := 0) rfl dX12_goes_94 ?_
    obtain ⟨σ40, hs40, h⟩ := stp_elim h
    refine G_putI C fl_X12_306_11 fp_X12_11_44 (Or.inl rfl) (Or.inl rfl) ko_81 dX12_goes_95 ?_
    rw [← hs40]
    refine G_goto (tgt := 332) C rfl dX12_goes_98 ?_
    refine G_sub [1] rfl ?_
    exact eX12_goes_332 C hr h
set_option maxRecDepth 100000 in
set_option maxHeartbeats 4000000 in
theorem eX12_goes_37 (C : Cx E p s m args meth c cX12_goes 2 RX12) (hr : meth.sig.returnType = none) {σ0 : Sto} {r2 : Sto} {σ : Sto} {f0 : Sto → Option Sto} (hf0 : ∀ (σ' : Sto), f0 σ' = some r2 → G p l e (rmd 2 0 0) s m args below meth c E true (sZ σ0) ad0 (MQ below (QV E true σ0 r2 ad0) args s 0 0 (AE E)) 2 0 0 σ' 0 [(0, .ref 81)] []) (h : mX12_goes_37 f0 σ = some r2) : G p l e (rmd 2 0 0) s m args below meth c E true (sZ σ0) ad0 (MQ below (QV E true σ0 r2 ad0) args s 0 0 (AE E)) 2 0 0 σ 37 [(0, .ref 81)] [] := by
  unfold mX12_goes_37 at h
  refine G_aload_n C 0 rfl rfl dX12_goes_37 ?_
  refine G_dup C rfl dX12_goes_38 ?_
  refine G_getI C fl_X12_286_11 (Or.inl rfl) ko_81 dX12_goes_39 ?_
  refine G_iconst C (v := 1) rfl dX12_goes_42 ?_
  refine G_iadd C dX12_goes_43 ?_
  obtain ⟨σ43, hs43, h⟩ := stp_elim h
  refine G_putI C fl_X12_286_11 fp_X12_11_43 (Or.inl rfl) (Or.inl rfl) ko_81 dX12_goes_44 ?_
  rw [← hs43]
  refine G_goto (tgt := 0) C rfl dX12_goes_47 ?_
  exact hf0  _ h
set_option maxRecDepth 100000 in
set_option maxHeartbeats 4000000 in
theorem eX12_goes_0B (C : Cx E p s m args meth c cX12_goes 2 RX12) (hr : meth.sig.returnType = none) {σ0 : Sto} {r2 : Sto} {σ : Sto} {f0 : Sto → Option Sto} (hf0 : ∀ (σ' : Sto), f0 σ' = some r2 → G p l e (rmd 2 0 0) s m args below meth c E true (sZ σ0) ad0 (MQ below (QV E true σ0 r2 ad0) args s 0 0 (AE E)) 2 0 0 σ' 0 [(0, .ref 81)] []) (h : mX12_goes_0B f0 σ = some r2) : G p l e (rmd 2 0 0) s m args below meth c E true (sZ σ0) ad0 (MQ below (QV E true σ0 r2 ad0) args s 0 0 (AE E)) 2 0 0 σ 0 [(0, .ref 81)] [] := by
  unfold mX12_goes_0B at h
  refine G_aload_n C 0 rfl rfl dX12_goes_0 ?_
  refine G_getI C fl_X12_286_11 (Or.inl rfl) ko_81 dX12_goes_1 ?_
  refine G_aload_n C 0 rfl rfl dX12_goes_4 ?_
  refine G_getI C fl_X12_283_11 (Or.inl rfl) ko_81 dX12_goes_5 ?_
  refine G_icmp_ge (tgt := 50) C rfl dX12_goes_8 (fun hc1 => ?_) (fun hc1 => ?_)
  · replace h := (if_pos hc1).symm.trans h
    exact eX12_goes_50 C hr h
  · replace h := (if_neg hc1).symm.trans h
    refine G_aload_n C 0 rfl rfl dX12_goes_11 ?_
    refine G_aload_n C 0 rfl rfl dX12_goes_12 ?_
    refine G_getI C fl_X12_286_11 (Or.inl rfl) ko_81 dX12_goes_13 ?_
    obtain ⟨v41, hv41, h⟩ := bnd h
    refine G_callI (run_V C [.int (sI σ 81 43)] [] (dX12_byteAt hv41) ml_X12_byteAt mv_X12_byteAt lk_X12_289 ⟨(Nat.le_of_ble_eq_true rfl), (Nat.le_of_ble_eq_true rfl)⟩ ⟨(Nat.le_of_ble_eq_true rfl), (Nat.le_of_ble_eq_true rfl)⟩ vq_11 rfl ko_81 rfl (Nat.le_of_ble_eq_true rfl) dX12_goes_16) ?_
    refine G_bipush C (v := 32) rfl dX12_goes_19 ?_
    refine G_icmp_eq (tgt := 37) C rfl dX12_goes_21 (fun hc42 => ?_) (fun hc42 => ?_)
    · replace h := (if_pos hc42).symm.trans h
      exact eX12_goes_37 C hr hf0 h
    · replace h := (if_neg hc42).symm.trans h
      refine G_aload_n C 0 rfl rfl dX12_goes_24 ?_
      refine G_aload_n C 0 rfl rfl dX12_goes_25 ?_
      refine G_getI C fl_X12_286_11 (Or.inl rfl) ko_81 dX12_goes_26 ?_
      obtain ⟨v44, hv44, h⟩ := bnd h
      refine G_callI (run_V C [.int (sI σ 81 43)] [] (dX12_byteAt hv44) ml_X12_byteAt mv_X12_byteAt lk_X12_289 ⟨(Nat.le_of_ble_eq_true rfl), (Nat.le_of_ble_eq_true rfl)⟩ ⟨(Nat.le_of_ble_eq_true rfl), (Nat.le_of_ble_eq_true rfl)⟩ vq_11 rfl ko_81 rfl (Nat.le_of_ble_eq_true rfl) dX12_goes_29) ?_
      refine G_bipush C (v := 10) rfl dX12_goes_32 ?_
      refine G_icmp_ne (tgt := 50) C rfl dX12_goes_34 (fun hc45 => ?_) (fun hc45 => ?_)
      · replace h := (if_neg hc45).symm.trans h
        exact eX12_goes_50 C hr h
      · replace h := (if_pos hc45).symm.trans h
        exact eX12_goes_37 C hr hf0 h
set_option maxRecDepth 100000 in
set_option maxHeartbeats 4000000 in
theorem eX12_goes_0 (C : Cx E p s m args meth c cX12_goes 2 RX12) (hr : meth.sig.returnType = none) {σ0 : Sto} {r2 : Sto} {σ : Sto} {n : Nat} (h : mX12_goes_0 n σ = some r2) : G p l e (rmd 2 0 0) s m args below meth c E true (sZ σ0) ad0 (MQ below (QV E true σ0 r2 ad0) args s 0 0 (AE E)) 2 0 0 σ 0 [(0, .ref 81)] [] := by
  induction n generalizing  σ with
  | zero => exact nomatch (show (none : Option Sto) = some r2 from h)
  | succ n ih => exact eX12_goes_0B C hr (fun σ9 h9 => ih h9) h
set_option maxRecDepth 100000 in
set_option maxHeartbeats 4000000 in
theorem dX12_goes {σ : Sto} {r2 : Sto} (h : mX12_goes σ = some r2) : MM l yX12_goes cX12_goes 2 none 2 0 0 E true σ [.ref 81] (QV E true σ r2) := by
  unfold mX12_goes at h
  refine MM_of (by decide) (Nat.le_of_ble_eq_true rfl) rfl (fun p e s m args below meth c ad0 C hr hn => ?_)
  exact eX12_goes_0 C hr h
set_option maxRecDepth 100000 in
set_option maxHeartbeats 4000000 in
theorem eX12_spelled_91 (C : Cx E p s m args meth c cX12_spelled 9 RX12) (hr : meth.sig.returnType = (some .long)) {r : Int64} {σ : Sto} {x6 : Int32} {x7 : Int64} (h : mX12_spelled_91 x6 x7 σ = r) : G p l e (rmd 1 0 0) s m args below meth c E st (sZ σ) ad0 (MQ below (QL E st σ r σ ad0) args s 0 0 (AE E)) 9 0 0 σ 91 [(6, .int x6), (7, .long x7)] [] := by
  unfold mX12_spelled_91 at h
  refine G_iload C 0 rfl dX12_spelled_91 ?_
  refine G_if_eq (tgt := 109) C rfl dX12_spelled_93 (fun hc6 => ?_) (fun hc6 => ?_)
  · replace h := (if_pos hc6).symm.trans h
    refine G_lload C 1 rfl dX12_spelled_109 ?_
    subst h
    exact G_lret C hr (Nat.le_of_ble_eq_true rfl) (Nat.le_of_ble_eq_true rfl) dX12_spelled_111
  · replace h := (if_neg hc6).symm.trans h
    refine G_lload C 1 rfl dX12_spelled_96 ?_
    refine G_iconst C (v := 5) rfl dX12_spelled_98 ?_
    refine G_lshl C dX12_spelled_99 ?_
    refine G_iload C 0 rfl dX12_spelled_100 ?_
    refine G_bipush C (v := 96) rfl dX12_spelled_102 ?_
    refine G_isub C dX12_spelled_104 ?_
    refine G_i2l C dX12_spelled_105 ?_
    refine G_lor C dX12_spelled_106 ?_
    refine G_lstore (L' := [(7, .long ((x7 <<< (((5 : Int32)).toInt64 &&& 63)) ||| ((x6 - (96 : Int32))).toInt64)), (6, .int x6)]) C (Nat.le_of_ble_eq_true rfl) rfl dX12_spelled_107 ?_
    refine G_lload C 0 rfl dX12_spelled_109 ?_
    subst h
    exact G_lret C hr (Nat.le_of_ble_eq_true rfl) (Nat.le_of_ble_eq_true rfl) dX12_spelled_111
set_option maxRecDepth 100000 in
set_option maxHeartbeats 4000000 in
theorem eX12_spelled_73 (C : Cx E p s m args meth c cX12_spelled 9 RX12) (hr : meth.sig.returnType = (some .long)) {r : Int64} {σ : Sto} {x5 : Int32} {x6 : Int32} {x7 : Int64} (h : mX12_spelled_73 x5 x6 x7 σ = r) : G p l e (rmd 1 0 0) s m args below meth c E st (sZ σ) ad0 (MQ below (QL E st σ r σ ad0) args s 0 0 (AE E)) 9 0 0 σ 73 [(5, .int x5), (6, .int x6), (7, .long x7)] [] := by
  unfold mX12_spelled_73 at h
  refine G_iload C 0 rfl dX12_spelled_73 ?_
  refine G_if_eq (tgt := 91) C rfl dX12_spelled_75 (fun hc5 => ?_) (fun hc5 => ?_)
  · replace h := (if_pos hc5).symm.trans h
    refine G_sub [1, 2] rfl ?_
    exact eX12_spelled_91 C hr h
  · replace h := (if_neg hc5).symm.trans h
    refine G_lload C 2 rfl dX12_spelled_78 ?_
    refine G_iconst C (v := 5) rfl dX12_spelled_80 ?_
    refine G_lshl C dX12_spelled_81 ?_
    refine G_iload C 0 rfl dX12_spelled_82 ?_
    refine G_bipush C (v := 96) rfl dX12_spelled_84 ?_
    refine G_isub C dX12_spelled_86 ?_
    refine G_i2l C dX12_spelled_87 ?_
    refine G_lor C dX12_spelled_88 ?_
    refine G_lstore (L' := [(7, .long ((x7 <<< (((5 : Int32)).toInt64 &&& 63)) ||| ((x5 - (96 : Int32))).toInt64)), (5, .int x5), (6, .int x6)]) C (Nat.le_of_ble_eq_true rfl) rfl dX12_spelled_89 ?_
    refine G_sub [2, 0] rfl ?_
    exact eX12_spelled_91 C hr h
set_option maxRecDepth 100000 in
set_option maxHeartbeats 4000000 in
theorem eX12_spelled_55 (C : Cx E p s m args meth c cX12_spelled 9 RX12) (hr : meth.sig.returnType = (some .long)) {r : Int64} {σ : Sto} {x4 : Int32} {x5 : Int32} {x6 : Int32} {x7 : Int64} (h : mX12_spelled_55 x4 x5 x6 x7 σ = r) : G p l e (rmd 1 0 0) s m args below meth c E st (sZ σ) ad0 (MQ below (QL E st σ r σ ad0) args s 0 0 (AE E)) 9 0 0 σ 55 [(4, .int x4), (5, .int x5), (6, .int x6), (7, .long x7)] [] := by
  unfold mX12_spelled_55 at h
  refine G_iload C 0 rfl dX12_spelled_55 ?_
  refine G_if_eq (tgt := 73) C rfl dX12_spelled_57 (fun hc4 => ?_) (fun hc4 => ?_)
  · replace h := (if_pos hc4).symm.trans h
    refine G_sub [1, 2, 3] rfl ?_
    exact eX12_spelled_73 C hr h
  · replace h := (if_neg hc4).symm.trans h
    refine G_lload C 3 rfl dX12_spelled_60 ?_
    refine G_iconst C (v := 5) rfl dX12_spelled_62 ?_
    refine G_lshl C dX12_spelled_63 ?_
    refine G_iload C 0 rfl dX12_spelled_64 ?_
    refine G_bipush C (v := 96) rfl dX12_spelled_66 ?_
    refine G_isub C dX12_spelled_68 ?_
    refine G_i2l C dX12_spelled_69 ?_
    refine G_lor C dX12_spelled_70 ?_
    refine G_lstore (L' := [(7, .long ((x7 <<< (((5 : Int32)).toInt64 &&& 63)) ||| ((x4 - (96 : Int32))).toInt64)), (4, .int x4), (5, .int x5), (6, .int x6)]) C (Nat.le_of_ble_eq_true rfl) rfl dX12_spelled_71 ?_
    refine G_sub [2, 3, 0] rfl ?_
    exact eX12_spelled_73 C hr h
set_option maxRecDepth 100000 in
set_option maxHeartbeats 4000000 in
theorem eX12_spelled_39 (C : Cx E p s m args meth c cX12_spelled 9 RX12) (hr : meth.sig.returnType = (some .long)) {r : Int64} {σ : Sto} {x3 : Int32} {x4 : Int32} {x5 : Int32} {x6 : Int32} {x7 : Int64} (h : mX12_spelled_39 x3 x4 x5 x6 x7 σ = r) : G p l e (rmd 1 0 0) s m args below meth c E st (sZ σ) ad0 (MQ below (QL E st σ r σ ad0) args s 0 0 (AE E)) 9 0 0 σ 39 [(3, .int x3), (4, .int x4), (5, .int x5), (6, .int x6), (7, .long x7)] [] := by
  unfold mX12_spelled_39 at h
  refine G_iload_n C 0 rfl rfl dX12_spelled_39 ?_
  refine G_if_eq (tgt := 55) C rfl dX12_spelled_40 (fun hc3 => ?_) (fun hc3 => ?_)
  · replace h := (if_pos hc3).symm.trans h
    refine G_sub [1, 2, 3, 4] rfl ?_
    exact eX12_spelled_55 C hr h
  · replace h := (if_neg hc3).symm.trans h
    refine G_lload C 4 rfl dX12_spelled_43 ?_
    refine G_iconst C (v := 5) rfl dX12_spelled_45 ?_
    refine G_lshl C dX12_spelled_46 ?_
    refine G_iload_n C 0 rfl rfl dX12_spelled_47 ?_
    refine G_bipush C (v := 96) rfl dX12_spelled_48 ?_
    refine G_isub C dX12_spelled_50 ?_
    refine G_i2l C dX12_spelled_51 ?_
    refine G_lor C dX12_spelled_52 ?_
    refine G_lstore (L' := [(7, .long ((x7 <<< (((5 : Int32)).toInt64 &&& 63)) ||| ((x3 - (96 : Int32))).toInt64)), (3, .int x3), (4, .int x4), (5, .int x5), (6, .int x6)]) C (Nat.le_of_ble_eq_true rfl) rfl dX12_spelled_53 ?_
    refine G_sub [2, 3, 4, 0] rfl ?_
    exact eX12_spelled_55 C hr h
set_option maxRecDepth 100000 in
set_option maxHeartbeats 4000000 in
theorem eX12_spelled_23 (C : Cx E p s m args meth c cX12_spelled 9 RX12) (hr : meth.sig.returnType = (some .long)) {r : Int64} {σ : Sto} {x2 : Int32} {x3 : Int32} {x4 : Int32} {x5 : Int32} {x6 : Int32} {x7 : Int64} (h : mX12_spelled_23 x2 x3 x4 x5 x6 x7 σ = r) : G p l e (rmd 1 0 0) s m args below meth c E st (sZ σ) ad0 (MQ below (QL E st σ r σ ad0) args s 0 0 (AE E)) 9 0 0 σ 23 [(2, .int x2), (3, .int x3), (4, .int x4), (5, .int x5), (6, .int x6), (7, .long x7)] [] := by
  unfold mX12_spelled_23 at h
  refine G_iload_n C 0 rfl rfl dX12_spelled_23 ?_
  refine G_if_eq (tgt := 39) C rfl dX12_spelled_24 (fun hc2 => ?_) (fun hc2 => ?_)
  · replace h := (if_pos hc2).symm.trans h
    refine G_sub [1, 2, 3, 4, 5] rfl ?_
    exact eX12_spelled_39 C hr h
  · replace h := (if_neg hc2).symm.trans h
    refine G_lload C 5 rfl dX12_spelled_27 ?_
    refine G_iconst C (v := 5) rfl dX12_spelled_29 ?_
    refine G_lshl C dX12_spelled_30 ?_
    refine G_iload_n C 0 rfl rfl dX12_spelled_31 ?_
    refine G_bipush C (v := 96) rfl dX12_spelled_32 ?_
    refine G_isub C dX12_spelled_34 ?_
    refine G_i2l C dX12_spelled_35 ?_
    refine G_lor C dX12_spelled_36 ?_
    refine G_lstore (L' := [(7, .long ((x7 <<< (((5 : Int32)).toInt64 &&& 63)) ||| ((x2 - (96 : Int32))).toInt64)), (2, .int x2), (3, .int x3), (4, .int x4), (5, .int x5), (6, .int x6)]) C (Nat.le_of_ble_eq_true rfl) rfl dX12_spelled_37 ?_
    refine G_sub [2, 3, 4, 5, 0] rfl ?_
    exact eX12_spelled_39 C hr h
set_option maxRecDepth 100000 in
set_option maxHeartbeats 4000000 in
theorem dX12_spelled {σ : Sto} {p0 : Int32} {p1 : Int32} {p2 : Int32} {p3 : Int32} {p4 : Int32} {p5 : Int32} {p6 : Int32} {r : Int64} (h : mX12_spelled p0 p1 p2 p3 p4 p5 p6 σ = r) : MM l yX12_spelled cX12_spelled 9 (some .long) 1 0 0 E st σ [.int p0, .int p1, .int p2, .int p3, .int p4, .int p5, .int p6] (QL E st σ r σ) := by
  unfold mX12_spelled at h
  refine MM_of (by decide) (Nat.le_of_ble_eq_true rfl) rfl (fun p e s m args below meth c ad0 C hr hn => ?_)
  refine G_iload_n C 0 rfl rfl dX12_spelled_0 ?_
  refine G_bipush C (v := 96) rfl dX12_spelled_1 ?_
  refine G_isub C dX12_spelled_3 ?_
  refine G_i2l C dX12_spelled_4 ?_
  refine G_lstore (L' := [(7, .long ((p0 - (96 : Int32))).toInt64), (0, .int p0), (1, .int p1), (2, .int p2), (3, .int p3), (4, .int p4), (5, .int p5), (6, .int p6)]) C (Nat.le_of_ble_eq_true rfl) rfl dX12_spelled_5 ?_
  refine G_iload_n C 2 rfl rfl dX12_spelled_7 ?_
  refine G_if_eq (tgt := 23) C rfl dX12_spelled_8 (fun hc1 => ?_) (fun hc1 => ?_)
  · replace h := (if_pos hc1).symm.trans h
    refine G_sub [3, 4, 5, 6, 7, 0] rfl ?_
    exact eX12_spelled_23 C hr h
  · replace h := (if_neg hc1).symm.trans h
    refine G_lload C 0 rfl dX12_spelled_11 ?_
    refine G_iconst C (v := 5) rfl dX12_spelled_13 ?_
    refine G_lshl C dX12_spelled_14 ?_
    refine G_iload_n C 2 rfl rfl dX12_spelled_15 ?_
    refine G_bipush C (v := 96) rfl dX12_spelled_16 ?_
    refine G_isub C dX12_spelled_18 ?_
    refine G_i2l C dX12_spelled_19 ?_
    refine G_lor C dX12_spelled_20 ?_
    refine G_lstore (L' := [(7, .long ((((p0 - (96 : Int32))).toInt64 <<< (((5 : Int32)).toInt64 &&& 63)) ||| ((p1 - (96 : Int32))).toInt64)), (0, .int p0), (1, .int p1), (2, .int p2), (3, .int p3), (4, .int p4), (5, .int p5), (6, .int p6)]) C (Nat.le_of_ble_eq_true rfl) rfl dX12_spelled_21 ?_
    refine G_sub [3, 4, 5, 6, 7, 0] rfl ?_
    exact eX12_spelled_23 C hr h
set_option maxRecDepth 100000 in
set_option maxHeartbeats 4000000 in
theorem dX12_known {σ : Sto} {p0 : Int32} {r : Int64} (h : mX12_known p0 σ = r) : MM l yX12_known cX12_known 1 (some .long) 2 0 0 E st σ [.int p0] (QL E st σ r σ) := by
  unfold mX12_known at h
  refine MM_of (by decide) (Nat.le_of_ble_eq_true rfl) rfl (fun p e s m args below meth c ad0 C hr hn => ?_)
  refine G_iload_n C 0 rfl rfl dX12_known_0 ?_
  by_cases hc1 : p0 = (0 : Int32)
  · replace h := (if_pos hc1).symm.trans h
    refine G_tswIn (tgt := 96) C (0) 0 hc1 (by decide) (by decide) (by decide) rfl rfl dX12_known_1 ?_
    refine G_bipush C (v := 100) rfl dX12_known_96 ?_
    refine G_bipush C (v := 117) rfl dX12_known_98 ?_
    refine G_bipush C (v := 101) rfl dX12_known_100 ?_
    refine G_iconst C (v := 0) rfl dX12_known_102 ?_
    refine G_iconst C (v := 0) rfl dX12_known_103 ?_
    refine G_iconst C (v := 0) rfl dX12_known_104 ?_
    refine G_iconst C (v := 0) rfl dX12_known_105 ?_
    refine G_callL (run_S C [.int (100 : Int32), .int (117 : Int32), .int (101 : Int32), .int (0 : Int32), .int (0 : Int32), .int (0 : Int32), .int (0 : Int32)] [] (dX12_spelled rfl) ml_X12_spelled ms_X12_spelled lk_X12_318 ⟨(Nat.le_of_ble_eq_true rfl), (Nat.le_of_ble_eq_true rfl)⟩ ⟨(Nat.le_of_ble_eq_true rfl), (Nat.le_of_ble_eq_true rfl)⟩ rfl (Nat.le_of_ble_eq_true rfl) dX12_known_106) ?_
    subst h
    exact G_lret C hr (Nat.le_of_ble_eq_true rfl) (Nat.le_of_ble_eq_true rfl) dX12_known_109
  replace h := (if_neg hc1).symm.trans h
  by_cases hc3 : p0 = (1 : Int32)
  · replace h := (if_pos hc3).symm.trans h
    refine G_tswIn (tgt := 110) C (1) 1 hc3 (by decide) (by decide) (by decide) rfl rfl dX12_known_1 ?_
    refine G_bipush C (v := 115) rfl dX12_known_110 ?_
    refine G_bipush C (v := 116) rfl dX12_known_112 ?_
    refine G_bipush C (v := 101) rfl dX12_known_114 ?_
    refine G_bipush C (v := 112) rfl dX12_known_116 ?_
    refine G_iconst C (v := 0) rfl dX12_known_118 ?_
    refine G_iconst C (v := 0) rfl dX12_known_119 ?_
    refine G_iconst C (v := 0) rfl dX12_known_120 ?_
    refine G_callL (run_S C [.int (115 : Int32), .int (116 : Int32), .int (101 : Int32), .int (112 : Int32), .int (0 : Int32), .int (0 : Int32), .int (0 : Int32)] [] (dX12_spelled rfl) ml_X12_spelled ms_X12_spelled lk_X12_318 ⟨(Nat.le_of_ble_eq_true rfl), (Nat.le_of_ble_eq_true rfl)⟩ ⟨(Nat.le_of_ble_eq_true rfl), (Nat.le_of_ble_eq_true rfl)⟩ rfl (Nat.le_of_ble_eq_true rfl) dX12_known_121) ?_
    subst h
    exact G_lret C hr (Nat.le_of_ble_eq_true rfl) (Nat.le_of_ble_eq_true rfl) dX12_known_124
  replace h := (if_neg hc3).symm.trans h
  by_cases hc5 : p0 = (2 : Int32)
  · replace h := (if_pos hc5).symm.trans h
    refine G_tswIn (tgt := 125) C (2) 2 hc5 (by decide) (by decide) (by decide) rfl rfl dX12_known_1 ?_
    refine G_bipush C (v := 114) rfl dX12_known_125 ?_
    refine G_bipush C (v := 101) rfl dX12_known_127 ?_
    refine G_bipush C (v := 115) rfl dX12_known_129 ?_
    refine G_bipush C (v := 116) rfl dX12_known_131 ?_
    refine G_iconst C (v := 0) rfl dX12_known_133 ?_
    refine G_iconst C (v := 0) rfl dX12_known_134 ?_
    refine G_iconst C (v := 0) rfl dX12_known_135 ?_
    refine G_callL (run_S C [.int (114 : Int32), .int (101 : Int32), .int (115 : Int32), .int (116 : Int32), .int (0 : Int32), .int (0 : Int32), .int (0 : Int32)] [] (dX12_spelled rfl) ml_X12_spelled ms_X12_spelled lk_X12_318 ⟨(Nat.le_of_ble_eq_true rfl), (Nat.le_of_ble_eq_true rfl)⟩ ⟨(Nat.le_of_ble_eq_true rfl), (Nat.le_of_ble_eq_true rfl)⟩ rfl (Nat.le_of_ble_eq_true rfl) dX12_known_136) ?_
    subst h
    exact G_lret C hr (Nat.le_of_ble_eq_true rfl) (Nat.le_of_ble_eq_true rfl) dX12_known_139
  replace h := (if_neg hc5).symm.trans h
  by_cases hc7 : p0 = (3 : Int32)
  · replace h := (if_pos hc7).symm.trans h
    refine G_tswIn (tgt := 140) C (3) 3 hc7 (by decide) (by decide) (by decide) rfl rfl dX12_known_1 ?_
    refine G_bipush C (v := 108) rfl dX12_known_140 ?_
    refine G_bipush C (v := 101) rfl dX12_known_142 ?_
    refine G_bipush C (v := 97) rfl dX12_known_144 ?_
    refine G_bipush C (v := 115) rfl dX12_known_146 ?_
    refine G_bipush C (v := 116) rfl dX12_known_148 ?_
    refine G_iconst C (v := 0) rfl dX12_known_150 ?_
    refine G_iconst C (v := 0) rfl dX12_known_151 ?_
    refine G_callL (run_S C [.int (108 : Int32), .int (101 : Int32), .int (97 : Int32), .int (115 : Int32), .int (116 : Int32), .int (0 : Int32), .int (0 : Int32)] [] (dX12_spelled rfl) ml_X12_spelled ms_X12_spelled lk_X12_318 ⟨(Nat.le_of_ble_eq_true rfl), (Nat.le_of_ble_eq_true rfl)⟩ ⟨(Nat.le_of_ble_eq_true rfl), (Nat.le_of_ble_eq_true rfl)⟩ rfl (Nat.le_of_ble_eq_true rfl) dX12_known_152) ?_
    subst h
    exact G_lret C hr (Nat.le_of_ble_eq_true rfl) (Nat.le_of_ble_eq_true rfl) dX12_known_155
  replace h := (if_neg hc7).symm.trans h
  by_cases hc9 : p0 = (4 : Int32)
  · replace h := (if_pos hc9).symm.trans h
    refine G_tswIn (tgt := 156) C (4) 4 hc9 (by decide) (by decide) (by decide) rfl rfl dX12_known_1 ?_
    refine G_bipush C (v := 109) rfl dX12_known_156 ?_
    refine G_bipush C (v := 111) rfl dX12_known_158 ?_
    refine G_bipush C (v := 115) rfl dX12_known_160 ?_
    refine G_bipush C (v := 116) rfl dX12_known_162 ?_
    refine G_iconst C (v := 0) rfl dX12_known_164 ?_
    refine G_iconst C (v := 0) rfl dX12_known_165 ?_
    refine G_iconst C (v := 0) rfl dX12_known_166 ?_
    refine G_callL (run_S C [.int (109 : Int32), .int (111 : Int32), .int (115 : Int32), .int (116 : Int32), .int (0 : Int32), .int (0 : Int32), .int (0 : Int32)] [] (dX12_spelled rfl) ml_X12_spelled ms_X12_spelled lk_X12_318 ⟨(Nat.le_of_ble_eq_true rfl), (Nat.le_of_ble_eq_true rfl)⟩ ⟨(Nat.le_of_ble_eq_true rfl), (Nat.le_of_ble_eq_true rfl)⟩ rfl (Nat.le_of_ble_eq_true rfl) dX12_known_167) ?_
    subst h
    exact G_lret C hr (Nat.le_of_ble_eq_true rfl) (Nat.le_of_ble_eq_true rfl) dX12_known_170
  replace h := (if_neg hc9).symm.trans h
  by_cases hc11 : p0 = (5 : Int32)
  · replace h := (if_pos hc11).symm.trans h
    refine G_tswIn (tgt := 171) C (5) 5 hc11 (by decide) (by decide) (by decide) rfl rfl dX12_known_1 ?_
    refine G_bipush C (v := 121) rfl dX12_known_171 ?_
    refine G_bipush C (v := 101) rfl dX12_known_173 ?_
    refine G_bipush C (v := 97) rfl dX12_known_175 ?_
    refine G_bipush C (v := 114) rfl dX12_known_177 ?_
    refine G_bipush C (v := 115) rfl dX12_known_179 ?_
    refine G_iconst C (v := 0) rfl dX12_known_181 ?_
    refine G_iconst C (v := 0) rfl dX12_known_182 ?_
    refine G_callL (run_S C [.int (121 : Int32), .int (101 : Int32), .int (97 : Int32), .int (114 : Int32), .int (115 : Int32), .int (0 : Int32), .int (0 : Int32)] [] (dX12_spelled rfl) ml_X12_spelled ms_X12_spelled lk_X12_318 ⟨(Nat.le_of_ble_eq_true rfl), (Nat.le_of_ble_eq_true rfl)⟩ ⟨(Nat.le_of_ble_eq_true rfl), (Nat.le_of_ble_eq_true rfl)⟩ rfl (Nat.le_of_ble_eq_true rfl) dX12_known_183) ?_
    subst h
    exact G_lret C hr (Nat.le_of_ble_eq_true rfl) (Nat.le_of_ble_eq_true rfl) dX12_known_186
  replace h := (if_neg hc11).symm.trans h
  by_cases hc13 : p0 = (6 : Int32)
  · replace h := (if_pos hc13).symm.trans h
    refine G_tswIn (tgt := 187) C (6) 6 hc13 (by decide) (by decide) (by decide) rfl rfl dX12_known_1 ?_
    refine G_bipush C (v := 99) rfl dX12_known_187 ?_
    refine G_bipush C (v := 108) rfl dX12_known_189 ?_
    refine G_bipush C (v := 97) rfl dX12_known_191 ?_
    refine G_bipush C (v := 105) rfl dX12_known_193 ?_
    refine G_bipush C (v := 109) rfl dX12_known_195 ?_
    refine G_iconst C (v := 0) rfl dX12_known_197 ?_
    refine G_iconst C (v := 0) rfl dX12_known_198 ?_
    refine G_callL (run_S C [.int (99 : Int32), .int (108 : Int32), .int (97 : Int32), .int (105 : Int32), .int (109 : Int32), .int (0 : Int32), .int (0 : Int32)] [] (dX12_spelled rfl) ml_X12_spelled ms_X12_spelled lk_X12_318 ⟨(Nat.le_of_ble_eq_true rfl), (Nat.le_of_ble_eq_true rfl)⟩ ⟨(Nat.le_of_ble_eq_true rfl), (Nat.le_of_ble_eq_true rfl)⟩ rfl (Nat.le_of_ble_eq_true rfl) dX12_known_199) ?_
    subst h
    exact G_lret C hr (Nat.le_of_ble_eq_true rfl) (Nat.le_of_ble_eq_true rfl) dX12_known_202
  replace h := (if_neg hc13).symm.trans h
  by_cases hc15 : p0 = (7 : Int32)
  · replace h := (if_pos hc15).symm.trans h
    refine G_tswIn (tgt := 203) C (7) 7 hc15 (by decide) (by decide) (by decide) rfl rfl dX12_known_1 ?_
    refine G_bipush C (v := 97) rfl dX12_known_203 ?_
    refine G_bipush C (v := 103) rfl dX12_known_205 ?_
    refine G_bipush C (v := 114) rfl dX12_known_207 ?_
    refine G_bipush C (v := 101) rfl dX12_known_209 ?_
    refine G_bipush C (v := 101) rfl dX12_known_211 ?_
    refine G_bipush C (v := 115) rfl dX12_known_213 ?_
    refine G_iconst C (v := 0) rfl dX12_known_215 ?_
    refine G_callL (run_S C [.int (97 : Int32), .int (103 : Int32), .int (114 : Int32), .int (101 : Int32), .int (101 : Int32), .int (115 : Int32), .int (0 : Int32)] [] (dX12_spelled rfl) ml_X12_spelled ms_X12_spelled lk_X12_318 ⟨(Nat.le_of_ble_eq_true rfl), (Nat.le_of_ble_eq_true rfl)⟩ ⟨(Nat.le_of_ble_eq_true rfl), (Nat.le_of_ble_eq_true rfl)⟩ rfl (Nat.le_of_ble_eq_true rfl) dX12_known_216) ?_
    subst h
    exact G_lret C hr (Nat.le_of_ble_eq_true rfl) (Nat.le_of_ble_eq_true rfl) dX12_known_219
  replace h := (if_neg hc15).symm.trans h
  by_cases hc17 : p0 = (8 : Int32)
  · replace h := (if_pos hc17).symm.trans h
    refine G_tswIn (tgt := 220) C (8) 8 hc17 (by decide) (by decide) (by decide) rfl rfl dX12_known_1 ?_
    refine G_bipush C (v := 97) rfl dX12_known_220 ?_
    refine G_bipush C (v := 110) rfl dX12_known_222 ?_
    refine G_bipush C (v := 100) rfl dX12_known_224 ?_
    refine G_iconst C (v := 0) rfl dX12_known_226 ?_
    refine G_iconst C (v := 0) rfl dX12_known_227 ?_
    refine G_iconst C (v := 0) rfl dX12_known_228 ?_
    refine G_iconst C (v := 0) rfl dX12_known_229 ?_
    refine G_callL (run_S C [.int (97 : Int32), .int (110 : Int32), .int (100 : Int32), .int (0 : Int32), .int (0 : Int32), .int (0 : Int32), .int (0 : Int32)] [] (dX12_spelled rfl) ml_X12_spelled ms_X12_spelled lk_X12_318 ⟨(Nat.le_of_ble_eq_true rfl), (Nat.le_of_ble_eq_true rfl)⟩ ⟨(Nat.le_of_ble_eq_true rfl), (Nat.le_of_ble_eq_true rfl)⟩ rfl (Nat.le_of_ble_eq_true rfl) dX12_known_230) ?_
    subst h
    exact G_lret C hr (Nat.le_of_ble_eq_true rfl) (Nat.le_of_ble_eq_true rfl) dX12_known_233
  replace h := (if_neg hc17).symm.trans h
  by_cases hc19 : p0 = (9 : Int32)
  · replace h := (if_pos hc19).symm.trans h
    refine G_tswIn (tgt := 234) C (9) 9 hc19 (by decide) (by decide) (by decide) rfl rfl dX12_known_1 ?_
    refine G_bipush C (v := 111) rfl dX12_known_234 ?_
    refine G_bipush C (v := 114) rfl dX12_known_236 ?_
    refine G_iconst C (v := 0) rfl dX12_known_238 ?_
    refine G_iconst C (v := 0) rfl dX12_known_239 ?_
    refine G_iconst C (v := 0) rfl dX12_known_240 ?_
    refine G_iconst C (v := 0) rfl dX12_known_241 ?_
    refine G_iconst C (v := 0) rfl dX12_known_242 ?_
    refine G_callL (run_S C [.int (111 : Int32), .int (114 : Int32), .int (0 : Int32), .int (0 : Int32), .int (0 : Int32), .int (0 : Int32), .int (0 : Int32)] [] (dX12_spelled rfl) ml_X12_spelled ms_X12_spelled lk_X12_318 ⟨(Nat.le_of_ble_eq_true rfl), (Nat.le_of_ble_eq_true rfl)⟩ ⟨(Nat.le_of_ble_eq_true rfl), (Nat.le_of_ble_eq_true rfl)⟩ rfl (Nat.le_of_ble_eq_true rfl) dX12_known_243) ?_
    subst h
    exact G_lret C hr (Nat.le_of_ble_eq_true rfl) (Nat.le_of_ble_eq_true rfl) dX12_known_246
  replace h := (if_neg hc19).symm.trans h
  by_cases hc21 : p0 = (10 : Int32)
  · replace h := (if_pos hc21).symm.trans h
    refine G_tswIn (tgt := 247) C (10) 10 hc21 (by decide) (by decide) (by decide) rfl rfl dX12_known_1 ?_
    refine G_bipush C (v := 110) rfl dX12_known_247 ?_
    refine G_bipush C (v := 111) rfl dX12_known_249 ?_
    refine G_bipush C (v := 116) rfl dX12_known_251 ?_
    refine G_iconst C (v := 0) rfl dX12_known_253 ?_
    refine G_iconst C (v := 0) rfl dX12_known_254 ?_
    refine G_iconst C (v := 0) rfl dX12_known_255 ?_
    refine G_iconst C (v := 0) rfl dX12_known_256 ?_
    refine G_callL (run_S C [.int (110 : Int32), .int (111 : Int32), .int (116 : Int32), .int (0 : Int32), .int (0 : Int32), .int (0 : Int32), .int (0 : Int32)] [] (dX12_spelled rfl) ml_X12_spelled ms_X12_spelled lk_X12_318 ⟨(Nat.le_of_ble_eq_true rfl), (Nat.le_of_ble_eq_true rfl)⟩ ⟨(Nat.le_of_ble_eq_true rfl), (Nat.le_of_ble_eq_true rfl)⟩ rfl (Nat.le_of_ble_eq_true rfl) dX12_known_257) ?_
    subst h
    exact G_lret C hr (Nat.le_of_ble_eq_true rfl) (Nat.le_of_ble_eq_true rfl) dX12_known_260
  replace h := (if_neg hc21).symm.trans h
  by_cases hc23 : p0 = (11 : Int32)
  · replace h := (if_pos hc23).symm.trans h
    refine G_tswIn (tgt := 261) C (11) 11 hc23 (by decide) (by decide) (by decide) rfl rfl dX12_known_1 ?_
    refine G_bipush C (v := 112) rfl dX12_known_261 ?_
    refine G_bipush C (v := 114) rfl dX12_known_263 ?_
    refine G_bipush C (v := 105) rfl dX12_known_265 ?_
    refine G_bipush C (v := 99) rfl dX12_known_267 ?_
    refine G_bipush C (v := 101) rfl dX12_known_269 ?_
    refine G_iconst C (v := 0) rfl dX12_known_271 ?_
    refine G_iconst C (v := 0) rfl dX12_known_272 ?_
    refine G_callL (run_S C [.int (112 : Int32), .int (114 : Int32), .int (105 : Int32), .int (99 : Int32), .int (101 : Int32), .int (0 : Int32), .int (0 : Int32)] [] (dX12_spelled rfl) ml_X12_spelled ms_X12_spelled lk_X12_318 ⟨(Nat.le_of_ble_eq_true rfl), (Nat.le_of_ble_eq_true rfl)⟩ ⟨(Nat.le_of_ble_eq_true rfl), (Nat.le_of_ble_eq_true rfl)⟩ rfl (Nat.le_of_ble_eq_true rfl) dX12_known_273) ?_
    subst h
    exact G_lret C hr (Nat.le_of_ble_eq_true rfl) (Nat.le_of_ble_eq_true rfl) dX12_known_276
  replace h := (if_neg hc23).symm.trans h
  by_cases hc25 : p0 = (12 : Int32)
  · replace h := (if_pos hc25).symm.trans h
    refine G_tswIn (tgt := 277) C (12) 12 hc25 (by decide) (by decide) (by decide) rfl rfl dX12_known_1 ?_
    refine G_bipush C (v := 115) rfl dX12_known_277 ?_
    refine G_bipush C (v := 101) rfl dX12_known_279 ?_
    refine G_bipush C (v := 108) rfl dX12_known_281 ?_
    refine G_bipush C (v := 108) rfl dX12_known_283 ?_
    refine G_bipush C (v := 101) rfl dX12_known_285 ?_
    refine G_bipush C (v := 114) rfl dX12_known_287 ?_
    refine G_iconst C (v := 0) rfl dX12_known_289 ?_
    refine G_callL (run_S C [.int (115 : Int32), .int (101 : Int32), .int (108 : Int32), .int (108 : Int32), .int (101 : Int32), .int (114 : Int32), .int (0 : Int32)] [] (dX12_spelled rfl) ml_X12_spelled ms_X12_spelled lk_X12_318 ⟨(Nat.le_of_ble_eq_true rfl), (Nat.le_of_ble_eq_true rfl)⟩ ⟨(Nat.le_of_ble_eq_true rfl), (Nat.le_of_ble_eq_true rfl)⟩ rfl (Nat.le_of_ble_eq_true rfl) dX12_known_290) ?_
    subst h
    exact G_lret C hr (Nat.le_of_ble_eq_true rfl) (Nat.le_of_ble_eq_true rfl) dX12_known_293
  replace h := (if_neg hc25).symm.trans h
  by_cases hc27 : p0 = (13 : Int32)
  · replace h := (if_pos hc27).symm.trans h
    refine G_tswIn (tgt := 294) C (13) 13 hc27 (by decide) (by decide) (by decide) rfl rfl dX12_known_1 ?_
    refine G_bipush C (v := 98) rfl dX12_known_294 ?_
    refine G_bipush C (v := 117) rfl dX12_known_296 ?_
    refine G_bipush C (v := 121) rfl dX12_known_298 ?_
    refine G_bipush C (v := 101) rfl dX12_known_300 ?_
    refine G_bipush C (v := 114) rfl dX12_known_302 ?_
    refine G_iconst C (v := 0) rfl dX12_known_304 ?_
    refine G_iconst C (v := 0) rfl dX12_known_305 ?_
    refine G_callL (run_S C [.int (98 : Int32), .int (117 : Int32), .int (121 : Int32), .int (101 : Int32), .int (114 : Int32), .int (0 : Int32), .int (0 : Int32)] [] (dX12_spelled rfl) ml_X12_spelled ms_X12_spelled lk_X12_318 ⟨(Nat.le_of_ble_eq_true rfl), (Nat.le_of_ble_eq_true rfl)⟩ ⟨(Nat.le_of_ble_eq_true rfl), (Nat.le_of_ble_eq_true rfl)⟩ rfl (Nat.le_of_ble_eq_true rfl) dX12_known_306) ?_
    subst h
    exact G_lret C hr (Nat.le_of_ble_eq_true rfl) (Nat.le_of_ble_eq_true rfl) dX12_known_309
  replace h := (if_neg hc27).symm.trans h
  by_cases hc29 : p0 = (14 : Int32)
  · replace h := (if_pos hc29).symm.trans h
    refine G_tswIn (tgt := 310) C (14) 14 hc29 (by decide) (by decide) (by decide) rfl rfl dX12_known_1 ?_
    refine G_bipush C (v := 104) rfl dX12_known_310 ?_
    refine G_bipush C (v := 111) rfl dX12_known_312 ?_
    refine G_bipush C (v := 119) rfl dX12_known_314 ?_
    refine G_iconst C (v := 0) rfl dX12_known_316 ?_
    refine G_iconst C (v := 0) rfl dX12_known_317 ?_
    refine G_iconst C (v := 0) rfl dX12_known_318 ?_
    refine G_iconst C (v := 0) rfl dX12_known_319 ?_
    refine G_callL (run_S C [.int (104 : Int32), .int (111 : Int32), .int (119 : Int32), .int (0 : Int32), .int (0 : Int32), .int (0 : Int32), .int (0 : Int32)] [] (dX12_spelled rfl) ml_X12_spelled ms_X12_spelled lk_X12_318 ⟨(Nat.le_of_ble_eq_true rfl), (Nat.le_of_ble_eq_true rfl)⟩ ⟨(Nat.le_of_ble_eq_true rfl), (Nat.le_of_ble_eq_true rfl)⟩ rfl (Nat.le_of_ble_eq_true rfl) dX12_known_320) ?_
    subst h
    exact G_lret C hr (Nat.le_of_ble_eq_true rfl) (Nat.le_of_ble_eq_true rfl) dX12_known_323
  replace h := (if_neg hc29).symm.trans h
  by_cases hc31 : p0 = (15 : Int32)
  · replace h := (if_pos hc31).symm.trans h
    refine G_tswIn (tgt := 324) C (15) 15 hc31 (by decide) (by decide) (by decide) rfl rfl dX12_known_1 ?_
    refine G_bipush C (v := 97) rfl dX12_known_324 ?_
    refine G_bipush C (v := 114) rfl dX12_known_326 ?_
    refine G_bipush C (v := 116) rfl dX12_known_328 ?_
    refine G_bipush C (v := 105) rfl dX12_known_330 ?_
    refine G_bipush C (v := 115) rfl dX12_known_332 ?_
    refine G_bipush C (v := 116) rfl dX12_known_334 ?_
    refine G_iconst C (v := 0) rfl dX12_known_336 ?_
    refine G_callL (run_S C [.int (97 : Int32), .int (114 : Int32), .int (116 : Int32), .int (105 : Int32), .int (115 : Int32), .int (116 : Int32), .int (0 : Int32)] [] (dX12_spelled rfl) ml_X12_spelled ms_X12_spelled lk_X12_318 ⟨(Nat.le_of_ble_eq_true rfl), (Nat.le_of_ble_eq_true rfl)⟩ ⟨(Nat.le_of_ble_eq_true rfl), (Nat.le_of_ble_eq_true rfl)⟩ rfl (Nat.le_of_ble_eq_true rfl) dX12_known_337) ?_
    subst h
    exact G_lret C hr (Nat.le_of_ble_eq_true rfl) (Nat.le_of_ble_eq_true rfl) dX12_known_340
  replace h := (if_neg hc31).symm.trans h
  by_cases hc33 : p0 = (16 : Int32)
  · replace h := (if_pos hc33).symm.trans h
    refine G_tswIn (tgt := 341) C (16) 16 hc33 (by decide) (by decide) (by decide) rfl rfl dX12_known_1 ?_
    refine G_bipush C (v := 104) rfl dX12_known_341 ?_
    refine G_bipush C (v := 101) rfl dX12_known_343 ?_
    refine G_bipush C (v := 108) rfl dX12_known_345 ?_
    refine G_bipush C (v := 100) rfl dX12_known_347 ?_
    refine G_iconst C (v := 0) rfl dX12_known_349 ?_
    refine G_iconst C (v := 0) rfl dX12_known_350 ?_
    refine G_iconst C (v := 0) rfl dX12_known_351 ?_
    refine G_callL (run_S C [.int (104 : Int32), .int (101 : Int32), .int (108 : Int32), .int (100 : Int32), .int (0 : Int32), .int (0 : Int32), .int (0 : Int32)] [] (dX12_spelled rfl) ml_X12_spelled ms_X12_spelled lk_X12_318 ⟨(Nat.le_of_ble_eq_true rfl), (Nat.le_of_ble_eq_true rfl)⟩ ⟨(Nat.le_of_ble_eq_true rfl), (Nat.le_of_ble_eq_true rfl)⟩ rfl (Nat.le_of_ble_eq_true rfl) dX12_known_352) ?_
    subst h
    exact G_lret C hr (Nat.le_of_ble_eq_true rfl) (Nat.le_of_ble_eq_true rfl) dX12_known_355
  replace h := (if_neg hc33).symm.trans h
  by_cases hc35 : p0 = (17 : Int32)
  · replace h := (if_pos hc35).symm.trans h
    refine G_tswIn (tgt := 356) C (17) 17 hc35 (by decide) (by decide) (by decide) rfl rfl dX12_known_1 ?_
    refine G_bipush C (v := 102) rfl dX12_known_356 ?_
    refine G_bipush C (v := 114) rfl dX12_known_358 ?_
    refine G_bipush C (v := 111) rfl dX12_known_360 ?_
    refine G_bipush C (v := 109) rfl dX12_known_362 ?_
    refine G_iconst C (v := 0) rfl dX12_known_364 ?_
    refine G_iconst C (v := 0) rfl dX12_known_365 ?_
    refine G_iconst C (v := 0) rfl dX12_known_366 ?_
    refine G_callL (run_S C [.int (102 : Int32), .int (114 : Int32), .int (111 : Int32), .int (109 : Int32), .int (0 : Int32), .int (0 : Int32), .int (0 : Int32)] [] (dX12_spelled rfl) ml_X12_spelled ms_X12_spelled lk_X12_318 ⟨(Nat.le_of_ble_eq_true rfl), (Nat.le_of_ble_eq_true rfl)⟩ ⟨(Nat.le_of_ble_eq_true rfl), (Nat.le_of_ble_eq_true rfl)⟩ rfl (Nat.le_of_ble_eq_true rfl) dX12_known_367) ?_
    subst h
    exact G_lret C hr (Nat.le_of_ble_eq_true rfl) (Nat.le_of_ble_eq_true rfl) dX12_known_370
  replace h := (if_neg hc35).symm.trans h
  by_cases hc37 : p0 = (18 : Int32)
  · replace h := (if_pos hc37).symm.trans h
    refine G_tswIn (tgt := 371) C (18) 18 hc37 (by decide) (by decide) (by decide) rfl rfl dX12_known_1 ?_
    refine G_bipush C (v := 97) rfl dX12_known_371 ?_
    refine G_bipush C (v := 103) rfl dX12_known_373 ?_
    refine G_bipush C (v := 97) rfl dX12_known_375 ?_
    refine G_bipush C (v := 105) rfl dX12_known_377 ?_
    refine G_bipush C (v := 110) rfl dX12_known_379 ?_
    refine G_iconst C (v := 0) rfl dX12_known_381 ?_
    refine G_iconst C (v := 0) rfl dX12_known_382 ?_
    refine G_callL (run_S C [.int (97 : Int32), .int (103 : Int32), .int (97 : Int32), .int (105 : Int32), .int (110 : Int32), .int (0 : Int32), .int (0 : Int32)] [] (dX12_spelled rfl) ml_X12_spelled ms_X12_spelled lk_X12_318 ⟨(Nat.le_of_ble_eq_true rfl), (Nat.le_of_ble_eq_true rfl)⟩ ⟨(Nat.le_of_ble_eq_true rfl), (Nat.le_of_ble_eq_true rfl)⟩ rfl (Nat.le_of_ble_eq_true rfl) dX12_known_383) ?_
    subst h
    exact G_lret C hr (Nat.le_of_ble_eq_true rfl) (Nat.le_of_ble_eq_true rfl) dX12_known_386
  replace h := (if_neg hc37).symm.trans h
  by_cases hc39 : p0 = (19 : Int32)
  · replace h := (if_pos hc39).symm.trans h
    refine G_tswIn (tgt := 387) C (19) 19 hc39 (by decide) (by decide) (by decide) rfl rfl dX12_known_1 ?_
    refine G_bipush C (v := 106) rfl dX12_known_387 ?_
    refine G_bipush C (v := 111) rfl dX12_known_389 ?_
    refine G_bipush C (v := 105) rfl dX12_known_391 ?_
    refine G_bipush C (v := 110) rfl dX12_known_393 ?_
    refine G_bipush C (v := 116) rfl dX12_known_395 ?_
    refine G_iconst C (v := 0) rfl dX12_known_397 ?_
    refine G_iconst C (v := 0) rfl dX12_known_398 ?_
    refine G_callL (run_S C [.int (106 : Int32), .int (111 : Int32), .int (105 : Int32), .int (110 : Int32), .int (116 : Int32), .int (0 : Int32), .int (0 : Int32)] [] (dX12_spelled rfl) ml_X12_spelled ms_X12_spelled lk_X12_318 ⟨(Nat.le_of_ble_eq_true rfl), (Nat.le_of_ble_eq_true rfl)⟩ ⟨(Nat.le_of_ble_eq_true rfl), (Nat.le_of_ble_eq_true rfl)⟩ rfl (Nat.le_of_ble_eq_true rfl) dX12_known_399) ?_
    subst h
    exact G_lret C hr (Nat.le_of_ble_eq_true rfl) (Nat.le_of_ble_eq_true rfl) dX12_known_402
  replace h := (if_neg hc39).symm.trans h
  have ht42 : ∀ j : Nat, j < 20 → p0 ≠ Int32.ofInt (0 + (j : Int)) := by
    intro j hj
    rcases (show j = 0 ∨ j = 1 ∨ j = 2 ∨ j = 3 ∨ j = 4 ∨ j = 5 ∨ j = 6 ∨ j = 7 ∨ j = 8 ∨ j = 9 ∨ j = 10 ∨ j = 11 ∨ j = 12 ∨ j = 13 ∨ j = 14 ∨ j = 15 ∨ j = 16 ∨ j = 17 ∨ j = 18 ∨ j = 19 by omega) with rfl | rfl | rfl | rfl | rfl | rfl | rfl | rfl | rfl | rfl | rfl | rfl | rfl | rfl | rfl | rfl | rfl | rfl | rfl | rfl
    · exact hc1
    · exact hc3
    · exact hc5
    · exact hc7
    · exact hc9
    · exact hc11
    · exact hc13
    · exact hc15
    · exact hc17
    · exact hc19
    · exact hc21
    · exact hc23
    · exact hc25
    · exact hc27
    · exact hc29
    · exact hc31
    · exact hc33
    · exact hc35
    · exact hc37
    · exact hc39
  refine G_tswOut (tgt := 403) C 20 ht42 (by decide) (by decide) rfl dX12_known_1 ?_
  refine G_bipush C (v := 101) rfl dX12_known_403 ?_
  refine G_bipush C (v := 100) rfl dX12_known_405 ?_
  refine G_bipush C (v := 105) rfl dX12_known_407 ?_
  refine G_bipush C (v := 116) rfl dX12_known_409 ?_
  refine G_bipush C (v := 105) rfl dX12_known_411 ?_
  refine G_bipush C (v := 111) rfl dX12_known_413 ?_
  refine G_bipush C (v := 110) rfl dX12_known_415 ?_
  refine G_callL (run_S C [.int (101 : Int32), .int (100 : Int32), .int (105 : Int32), .int (116 : Int32), .int (105 : Int32), .int (111 : Int32), .int (110 : Int32)] [] (dX12_spelled rfl) ml_X12_spelled ms_X12_spelled lk_X12_318 ⟨(Nat.le_of_ble_eq_true rfl), (Nat.le_of_ble_eq_true rfl)⟩ ⟨(Nat.le_of_ble_eq_true rfl), (Nat.le_of_ble_eq_true rfl)⟩ rfl (Nat.le_of_ble_eq_true rfl) dX12_known_417) ?_
  subst h
  exact G_lret C hr (Nat.le_of_ble_eq_true rfl) (Nat.le_of_ble_eq_true rfl) dX12_known_420
set_option maxRecDepth 100000 in
set_option maxHeartbeats 4000000 in
theorem eX12_knownWord_21B (C : Cx E p s m args meth c cX12_knownWord 2 RX12) (hr : meth.sig.returnType = (some .int)) {r : Int32} {σ : Sto} {f21 : Int32 → Sto → Option Int32} {x1 : Int32} (hf21 : ∀ (x1 : Int32), f21 x1 σ = some r → G p l e (rmd 3 0 0) s m args below meth c E true (sZ σ) ad0 (MQ below (QI E true σ r σ ad0) args s 0 0 (AE E)) 2 0 0 σ 21 [(0, .ref 81), (1, .int x1)] []) (h : mX12_knownWord_21B f21 x1 σ = some r) : G p l e (rmd 3 0 0) s m args below meth c E true (sZ σ) ad0 (MQ below (QI E true σ r σ ad0) args s 0 0 (AE E)) 2 0 0 σ 21 [(0, .ref 81), (1, .int x1)] [] := by
  unfold mX12_knownWord_21B at h
  refine G_iload_n C 1 rfl rfl dX12_knownWord_21 ?_
  refine G_bipush C (v := 21) rfl dX12_knownWord_22 ?_
  refine G_icmp_ge (tgt := 47) C rfl dX12_knownWord_24 (fun hc3 => ?_) (fun hc3 => ?_)
  · replace h := (if_pos hc3).symm.trans h
    refine G_iconst C (v := -1) rfl dX12_knownWord_47 ?_
    obtain rfl := Option.some.inj h
    exact G_iret C hr (Nat.le_of_ble_eq_true rfl) (Nat.le_of_ble_eq_true rfl) dX12_knownWord_48
  · replace h := (if_neg hc3).symm.trans h
    refine G_iload_n C 1 rfl rfl dX12_knownWord_27 ?_
    refine G_callL (run_S C [.int x1] [] (dX12_known rfl) ml_X12_known ms_X12_known lk_X12_322 ⟨(Nat.le_of_ble_eq_true rfl), (Nat.le_of_ble_eq_true rfl)⟩ ⟨(Nat.le_of_ble_eq_true rfl), (Nat.le_of_ble_eq_true rfl)⟩ rfl (Nat.le_of_ble_eq_true rfl) dX12_knownWord_28) ?_
    refine G_aload_n C 0 rfl rfl dX12_knownWord_31 ?_
    refine G_getL C fl_X12_296_11 rfl ko_81 dX12_knownWord_32 ?_
    refine G_lcmp C dX12_knownWord_35 ?_
    refine G_if_ne (tgt := 41) C rfl dX12_knownWord_36 (fun hc5 => ?_) (fun hc5 => ?_)
    · replace h := (if_neg hc5).symm.trans h
      refine G_iinc (v := 1) (L' := [(1, .int (x1 + (1 : Int32))), (0, .ref 81)]) C 1 rfl rfl (Nat.le_of_ble_eq_true rfl) rfl dX12_knownWord_41 ?_
      refine G_goto (tgt := 21) C rfl dX12_knownWord_44 ?_
      refine G_sub [1, 0] rfl ?_
      exact hf21 _ h
    · replace h := (if_pos hc5).symm.trans h
      refine G_iload_n C 1 rfl rfl dX12_knownWord_39 ?_
      obtain rfl := Option.some.inj h
      exact G_iret C hr (Nat.le_of_ble_eq_true rfl) (Nat.le_of_ble_eq_true rfl) dX12_knownWord_40
set_option maxRecDepth 100000 in
set_option maxHeartbeats 4000000 in
theorem eX12_knownWord_21 (C : Cx E p s m args meth c cX12_knownWord 2 RX12) (hr : meth.sig.returnType = (some .int)) {r : Int32} {σ : Sto} {n : Nat} {x1 : Int32} (h : mX12_knownWord_21 n x1 σ = some r) : G p l e (rmd 3 0 0) s m args below meth c E true (sZ σ) ad0 (MQ below (QI E true σ r σ ad0) args s 0 0 (AE E)) 2 0 0 σ 21 [(0, .ref 81), (1, .int x1)] [] := by
  induction n generalizing x1 with
  | zero => exact nomatch (show (none : Option Int32) = some r from h)
  | succ n ih => exact eX12_knownWord_21B C hr (fun z0 h9 => ih h9) h
set_option maxRecDepth 100000 in
set_option maxHeartbeats 4000000 in
theorem dX12_knownWord {σ : Sto} {r : Int32} (h : mX12_knownWord σ = some r) : MM l yX12_knownWord cX12_knownWord 2 (some .int) 3 0 0 E true σ [.ref 81] (QI E true σ r σ) := by
  unfold mX12_knownWord at h
  refine MM_of (by decide) (Nat.le_of_ble_eq_true rfl) rfl (fun p e s m args below meth c ad0 C hr hn => ?_)
  refine G_aload_n C 0 rfl rfl dX12_knownWord_0 ?_
  refine G_getI C fl_X12_306_11 (Or.inl rfl) ko_81 dX12_knownWord_1 ?_
  refine G_iconst C (v := 1) rfl dX12_knownWord_4 ?_
  refine G_icmp_ne (tgt := 17) C rfl dX12_knownWord_5 (fun hc1 => ?_) (fun hc1 => ?_)
  · replace h := (if_neg hc1).symm.trans h
    refine G_iconst C (v := -1) rfl dX12_knownWord_17 ?_
    obtain rfl := Option.some.inj h
    exact G_iret C hr (Nat.le_of_ble_eq_true rfl) (Nat.le_of_ble_eq_true rfl) dX12_knownWord_18
  · replace h := (if_pos hc1).symm.trans h
    refine G_aload_n C 0 rfl rfl dX12_knownWord_8 ?_
    refine G_getI C fl_X12_315_11 (Or.inl rfl) ko_81 dX12_knownWord_9 ?_
    refine G_bipush C (v := 8) rfl dX12_knownWord_12 ?_
    refine G_icmp_le (tgt := 19) C rfl dX12_knownWord_14 (fun hc2 => ?_) (fun hc2 => ?_)
    · replace h := (if_pos hc2).symm.trans h
      refine G_iconst C (v := 0) rfl dX12_knownWord_19 ?_
      refine G_istore_n (L' := [(1, .int (0 : Int32)), (0, .ref 81)]) C rfl (Nat.le_of_ble_eq_true rfl) rfl dX12_knownWord_20 ?_
      refine G_sub [1, 0] rfl ?_
      exact eX12_knownWord_21 C hr h
    · replace h := (if_neg hc2).symm.trans h
      refine G_iconst C (v := -1) rfl dX12_knownWord_17 ?_
      obtain rfl := Option.some.inj h
      exact G_iret C hr (Nat.le_of_ble_eq_true rfl) (Nat.le_of_ble_eq_true rfl) dX12_knownWord_18
set_option maxRecDepth 100000 in
set_option maxHeartbeats 4000000 in
theorem dX12_wrong {σ : Sto} {p0 : Int32} {r2 : Sto} (h : mX12_wrong p0 σ = some r2) : MM l yX12_wrong cX12_wrong 2 none 1 0 0 E true σ [.ref 81, .int p0] (QV E true σ r2) := by
  unfold mX12_wrong at h
  refine MM_of (by decide) (Nat.le_of_ble_eq_true rfl) rfl (fun p e s m args below meth c ad0 C hr hn => ?_)
  refine G_aload_n C 0 rfl rfl dX12_wrong_0 ?_
  refine G_getI C fl_X12_326_11 (Or.inl rfl) ko_81 dX12_wrong_1 ?_
  refine G_if_eq (tgt := 8) C rfl dX12_wrong_4 (fun hc1 => ?_) (fun hc1 => ?_)
  · replace h := (if_pos hc1).symm.trans h
    refine G_aload_n C 0 rfl rfl dX12_wrong_8 ?_
    refine G_iload_n C 1 rfl rfl dX12_wrong_9 ?_
    obtain ⟨σ2, hs2, h⟩ := stp_elim h
    refine G_putI C fl_X12_326_11 fp_X12_11_40 (Or.inl rfl) (Or.inl rfl) ko_81 dX12_wrong_10 ?_
    rw [← hs2]
    refine G_aload_n C 0 rfl rfl dX12_wrong_13 ?_
    refine G_aload_n C 0 rfl rfl dX12_wrong_14 ?_
    refine G_getI C fl_X12_293_11 (Or.inl rfl) ko_81 dX12_wrong_15 ?_
    obtain ⟨σ3, hs3, h⟩ := stp_elim h
    refine G_putI C fl_X12_101_11 fp_X12_11_41 (Or.inl rfl) (Or.inl rfl) ko_81 dX12_wrong_18 ?_
    rw [← hs3]
    obtain rfl := Option.some.inj h
    exact G_vret C hr (Nat.le_of_ble_eq_true rfl) (Nat.le_of_ble_eq_true rfl) dX12_wrong_21
  · replace h := (if_neg hc1).symm.trans h
    obtain rfl := Option.some.inj h
    exact G_vret C hr (Nat.le_of_ble_eq_true rfl) (Nat.le_of_ble_eq_true rfl) dX12_wrong_7
set_option maxRecDepth 100000 in
set_option maxHeartbeats 4000000 in
theorem dX12_isGood {σ : Sto} {r : Int32} (h : mX12_isGood σ = r) : MM l yX12_isGood cX12_isGood 1 (some .boolean) 1 0 0 E true σ [.ref 81] (QI E true σ r σ) := by
  unfold mX12_isGood at h
  refine MM_of (by decide) (Nat.le_of_ble_eq_true rfl) rfl (fun p e s m args below meth c ad0 C hr hn => ?_)
  refine G_aload_n C 0 rfl rfl dX12_isGood_0 ?_
  refine G_getI C fl_X12_326_11 (Or.inl rfl) ko_81 dX12_isGood_1 ?_
  refine G_if_ne (tgt := 11) C rfl dX12_isGood_4 (fun hc1 => ?_) (fun hc1 => ?_)
  · replace h := (if_neg hc1).symm.trans h
    refine G_iconst C (v := 0) rfl dX12_isGood_11 ?_
    subst h
    exact G_zret C (by decide) hr (Nat.le_of_ble_eq_true rfl) (Nat.le_of_ble_eq_true rfl) dX12_isGood_12
  · replace h := (if_pos hc1).symm.trans h
    refine G_iconst C (v := 1) rfl dX12_isGood_7 ?_
    refine G_goto (tgt := 12) C rfl dX12_isGood_8 ?_
    subst h
    exact G_zret C (by decide) hr (Nat.le_of_ble_eq_true rfl) (Nat.le_of_ble_eq_true rfl) dX12_isGood_12
set_option maxRecDepth 100000 in
set_option maxHeartbeats 4000000 in
theorem dX12_isSign {σ : Sto} {p0 : Int32} {r : Int32} (h : mX12_isSign p0 σ = r) : MM l yX12_isSign cX12_isSign 2 (some .boolean) 1 0 0 E true σ [.ref 81, .int p0] (QI E true σ r σ) := by
  unfold mX12_isSign at h
  refine MM_of (by decide) (Nat.le_of_ble_eq_true rfl) rfl (fun p e s m args below meth c ad0 C hr hn => ?_)
  refine G_aload_n C 0 rfl rfl dX12_isSign_0 ?_
  refine G_getI C fl_X12_306_11 (Or.inl rfl) ko_81 dX12_isSign_1 ?_
  refine G_iconst C (v := 3) rfl dX12_isSign_4 ?_
  refine G_icmp_ne (tgt := 20) C rfl dX12_isSign_5 (fun hc1 => ?_) (fun hc1 => ?_)
  · replace h := (if_neg hc1).symm.trans h
    refine G_iconst C (v := 0) rfl dX12_isSign_20 ?_
    subst h
    exact G_zret C (by decide) hr (Nat.le_of_ble_eq_true rfl) (Nat.le_of_ble_eq_true rfl) dX12_isSign_21
  · replace h := (if_pos hc1).symm.trans h
    refine G_aload_n C 0 rfl rfl dX12_isSign_8 ?_
    refine G_getI C fl_X12_303_11 (Or.inl rfl) ko_81 dX12_isSign_9 ?_
    refine G_iload_n C 1 rfl rfl dX12_isSign_12 ?_
    refine G_icmp_ne (tgt := 20) C rfl dX12_isSign_13 (fun hc2 => ?_) (fun hc2 => ?_)
    · replace h := (if_neg hc2).symm.trans h
      refine G_iconst C (v := 0) rfl dX12_isSign_20 ?_
      subst h
      exact G_zret C (by decide) hr (Nat.le_of_ble_eq_true rfl) (Nat.le_of_ble_eq_true rfl) dX12_isSign_21
    · replace h := (if_pos hc2).symm.trans h
      refine G_iconst C (v := 1) rfl dX12_isSign_16 ?_
      refine G_goto (tgt := 21) C rfl dX12_isSign_17 ?_
      subst h
      exact G_zret C (by decide) hr (Nat.le_of_ble_eq_true rfl) (Nat.le_of_ble_eq_true rfl) dX12_isSign_21
set_option maxRecDepth 100000 in
set_option maxHeartbeats 4000000 in
theorem dX12_puts {σ : Sto} {p0 : Int32} {r2 : Sto} (h : mX12_puts p0 σ = some r2) : MM l yX12_puts cX12_puts 2 none 1 0 0 E true σ [.ref 81, .int p0] (QV E true σ r2) := by
  unfold mX12_puts at h
  refine MM_of (by decide) (Nat.le_of_ble_eq_true rfl) rfl (fun p e s m args below meth c ad0 C hr hn => ?_)
  refine G_aload_n C 0 rfl rfl dX12_puts_0 ?_
  refine G_getF C fl_X12_147_11 rfl rfl fn_81_69 dX12_puts_1 ?_
  refine G_aload_n C 0 rfl rfl dX12_puts_4 ?_
  refine G_getI C fl_X12_329_11 (Or.inl rfl) ko_81 dX12_puts_5 ?_
  refine G_iload_n C 1 rfl rfl dX12_puts_8 ?_
  obtain ⟨hc1, h⟩ := ifn h
  obtain ⟨σ2, hs2, h⟩ := stp_elim h
  refine G_iastore C ks_126 hc1 dX12_puts_9 ?_
  rw [← hs2]
  refine G_aload_n C 0 rfl rfl dX12_puts_10 ?_
  refine G_dup C rfl dX12_puts_11 ?_
  refine G_getI C fl_X12_329_11 (Or.inl rfl) ko_81 dX12_puts_12 ?_
  refine G_iconst C (v := 1) rfl dX12_puts_15 ?_
  refine G_iadd C dX12_puts_16 ?_
  obtain ⟨σ3, hs3, h⟩ := stp_elim h
  refine G_putI C fl_X12_329_11 fp_X12_11_51 (Or.inl rfl) (Or.inl rfl) ko_81 dX12_puts_17 ?_
  rw [← hs3]
  obtain rfl := Option.some.inj h
  exact G_vret C hr (Nat.le_of_ble_eq_true rfl) (Nat.le_of_ble_eq_true rfl) dX12_puts_20
set_option maxRecDepth 100000 in
set_option maxHeartbeats 4000000 in
theorem dX12_strength {σ : Sto} {p0 : Int32} {r : Int32} (h : mX12_strength p0 σ = r) : MM l yX12_strength cX12_strength 1 (some .int) 1 0 0 E st σ [.int p0] (QI E st σ r σ) := by
  unfold mX12_strength at h
  refine MM_of (by decide) (Nat.le_of_ble_eq_true rfl) rfl (fun p e s m args below meth c ad0 C hr hn => ?_)
  refine G_iload_n C 0 rfl rfl dX12_strength_0 ?_
  refine G_bipush C (v := 12) rfl dX12_strength_1 ?_
  refine G_icmp_ne (tgt := 10) C rfl dX12_strength_3 (fun hc1 => ?_) (fun hc1 => ?_)
  · replace h := (if_neg hc1).symm.trans h
    refine G_iload_n C 0 rfl rfl dX12_strength_10 ?_
    refine G_iconst C (v := 5) rfl dX12_strength_11 ?_
    refine G_icmp_ne (tgt := 19) C rfl dX12_strength_12 (fun hc2 => ?_) (fun hc2 => ?_)
    · replace h := (if_neg hc2).symm.trans h
      refine G_iload_n C 0 rfl rfl dX12_strength_19 ?_
      refine G_iconst C (v := 4) rfl dX12_strength_20 ?_
      refine G_icmp_ne (tgt := 28) C rfl dX12_strength_21 (fun hc3 => ?_) (fun hc3 => ?_)
      · replace h := (if_neg hc3).symm.trans h
        refine G_iload_n C 0 rfl rfl dX12_strength_28 ?_
        refine G_iconst C (v := 3) rfl dX12_strength_29 ?_
        refine G_icmp_ne (tgt := 37) C rfl dX12_strength_30 (fun hc4 => ?_) (fun hc4 => ?_)
        · replace h := (if_neg hc4).symm.trans h
          refine G_iload_n C 0 rfl rfl dX12_strength_37 ?_
          refine G_bipush C (v := 6) rfl dX12_strength_38 ?_
          refine G_icmp_eq (tgt := 49) C rfl dX12_strength_40 (fun hc5 => ?_) (fun hc5 => ?_)
          · replace h := (if_pos hc5).symm.trans h
            refine G_iconst C (v := 4) rfl dX12_strength_49 ?_
            refine G_goto (tgt := 71) C rfl dX12_strength_50 ?_
            subst h
            exact G_iret C hr (Nat.le_of_ble_eq_true rfl) (Nat.le_of_ble_eq_true rfl) dX12_strength_71
          · replace h := (if_neg hc5).symm.trans h
            refine G_iload_n C 0 rfl rfl dX12_strength_43 ?_
            refine G_bipush C (v := 7) rfl dX12_strength_44 ?_
            refine G_icmp_ne (tgt := 53) C rfl dX12_strength_46 (fun hc6 => ?_) (fun hc6 => ?_)
            · replace h := (if_neg hc6).symm.trans h
              refine G_iload_n C 0 rfl rfl dX12_strength_53 ?_
              refine G_bipush C (v := 8) rfl dX12_strength_54 ?_
              refine G_icmp_eq (tgt := 65) C rfl dX12_strength_56 (fun hc7 => ?_) (fun hc7 => ?_)
              · replace h := (if_pos hc7).symm.trans h
                refine G_iconst C (v := 5) rfl dX12_strength_65 ?_
                refine G_goto (tgt := 71) C rfl dX12_strength_66 ?_
                subst h
                exact G_iret C hr (Nat.le_of_ble_eq_true rfl) (Nat.le_of_ble_eq_true rfl) dX12_strength_71
              · replace h := (if_neg hc7).symm.trans h
                refine G_iload_n C 0 rfl rfl dX12_strength_59 ?_
                refine G_bipush C (v := 9) rfl dX12_strength_60 ?_
                refine G_icmp_ne (tgt := 69) C rfl dX12_strength_62 (fun hc8 => ?_) (fun hc8 => ?_)
                · replace h := (if_neg hc8).symm.trans h
                  refine G_bipush C (v := 6) rfl dX12_strength_69 ?_
                  subst h
                  exact G_iret C hr (Nat.le_of_ble_eq_true rfl) (Nat.le_of_ble_eq_true rfl) dX12_strength_71
                · replace h := (if_pos hc8).symm.trans h
                  refine G_iconst C (v := 5) rfl dX12_strength_65 ?_
                  refine G_goto (tgt := 71) C rfl dX12_strength_66 ?_
                  subst h
                  exact G_iret C hr (Nat.le_of_ble_eq_true rfl) (Nat.le_of_ble_eq_true rfl) dX12_strength_71
            · replace h := (if_pos hc6).symm.trans h
              refine G_iconst C (v := 4) rfl dX12_strength_49 ?_
              refine G_goto (tgt := 71) C rfl dX12_strength_50 ?_
              subst h
              exact G_iret C hr (Nat.le_of_ble_eq_true rfl) (Nat.le_of_ble_eq_true rfl) dX12_strength_71
        · replace h := (if_pos hc4).symm.trans h
          refine G_iconst C (v := 3) rfl dX12_strength_33 ?_
          refine G_goto (tgt := 71) C rfl dX12_strength_34 ?_
          subst h
          exact G_iret C hr (Nat.le_of_ble_eq_true rfl) (Nat.le_of_ble_eq_true rfl) dX12_strength_71
      · replace h := (if_pos hc3).symm.trans h
        refine G_iconst C (v := 2) rfl dX12_strength_24 ?_
        refine G_goto (tgt := 71) C rfl dX12_strength_25 ?_
        subst h
        exact G_iret C hr (Nat.le_of_ble_eq_true rfl) (Nat.le_of_ble_eq_true rfl) dX12_strength_71
    · replace h := (if_pos hc2).symm.trans h
      refine G_iconst C (v := 1) rfl dX12_strength_15 ?_
      refine G_goto (tgt := 71) C rfl dX12_strength_16 ?_
      subst h
      exact G_iret C hr (Nat.le_of_ble_eq_true rfl) (Nat.le_of_ble_eq_true rfl) dX12_strength_71
  · replace h := (if_pos hc1).symm.trans h
    refine G_iconst C (v := 0) rfl dX12_strength_6 ?_
    refine G_goto (tgt := 71) C rfl dX12_strength_7 ?_
    subst h
    exact G_iret C hr (Nat.le_of_ble_eq_true rfl) (Nat.le_of_ble_eq_true rfl) dX12_strength_71
set_option maxRecDepth 100000 in
set_option maxHeartbeats 4000000 in
theorem eX12_drops_0B (C : Cx E p s m args meth c cX12_drops 2 RX12) (hr : meth.sig.returnType = none) {σ0 : Sto} {r2 : Sto} {σ : Sto} {f0 : Int32 → Sto → Option Sto} {x1 : Int32} (hf0 : ∀ (x1 : Int32) (σ' : Sto), f0 x1 σ' = some r2 → G p l e (rmd 2 0 0) s m args below meth c E true (sZ σ0) ad0 (MQ below (QV E true σ0 r2 ad0) args s 0 0 (AE E)) 2 0 0 σ' 0 [(0, .ref 81), (1, .int x1)] []) (h : mX12_drops_0B f0 x1 σ = some r2) : G p l e (rmd 2 0 0) s m args below meth c E true (sZ σ0) ad0 (MQ below (QV E true σ0 r2 ad0) args s 0 0 (AE E)) 2 0 0 σ 0 [(0, .ref 81), (1, .int x1)] [] := by
  unfold mX12_drops_0B at h
  refine G_aload_n C 0 rfl rfl dX12_drops_0 ?_
  refine G_getI C fl_X12_332_11 (Or.inl rfl) ko_81 dX12_drops_1 ?_
  refine G_if_le (tgt := 67) C rfl dX12_drops_4 (fun hc1 => ?_) (fun hc1 => ?_)
  · replace h := (if_pos hc1).symm.trans h
    obtain rfl := Option.some.inj h
    exact G_vret C hr (Nat.le_of_ble_eq_true rfl) (Nat.le_of_ble_eq_true rfl) dX12_drops_67
  · replace h := (if_neg hc1).symm.trans h
    refine G_aload_n C 0 rfl rfl dX12_drops_7 ?_
    refine G_getF C fl_X12_150_11 rfl rfl fn_81_70 dX12_drops_8 ?_
    refine G_aload_n C 0 rfl rfl dX12_drops_11 ?_
    refine G_getI C fl_X12_332_11 (Or.inl rfl) ko_81 dX12_drops_12 ?_
    refine G_iconst C (v := 1) rfl dX12_drops_15 ?_
    refine G_isub C dX12_drops_16 ?_
    obtain ⟨hc2, h⟩ := ifn h
    refine G_iaload C ks_127 hc2 dX12_drops_17 ?_
    refine G_bipush C (v := 12) rfl dX12_drops_18 ?_
    refine G_icmp_eq (tgt := 67) C rfl dX12_drops_20 (fun hc3 => ?_) (fun hc3 => ?_)
    · replace h := (if_pos hc3).symm.trans h
      obtain rfl := Option.some.inj h
      exact G_vret C hr (Nat.le_of_ble_eq_true rfl) (Nat.le_of_ble_eq_true rfl) dX12_drops_67
    · replace h := (if_neg hc3).symm.trans h
      refine G_aload_n C 0 rfl rfl dX12_drops_23 ?_
      refine G_getF C fl_X12_150_11 rfl rfl fn_81_70 dX12_drops_24 ?_
      refine G_aload_n C 0 rfl rfl dX12_drops_27 ?_
      refine G_getI C fl_X12_332_11 (Or.inl rfl) ko_81 dX12_drops_28 ?_
      refine G_iconst C (v := 1) rfl dX12_drops_31 ?_
      refine G_isub C dX12_drops_32 ?_
      refine G_iaload C ks_127 hc2 dX12_drops_33 ?_
      refine G_callI (run_S C [.int (sI σ 127 (((sI σ 81 52) - (1 : Int32))).toNatClampNeg)] [] (dX12_strength rfl) ml_X12_strength ms_X12_strength lk_X12_335 ⟨(Nat.le_of_ble_eq_true rfl), (Nat.le_of_ble_eq_true rfl)⟩ ⟨(Nat.le_of_ble_eq_true rfl), (Nat.le_of_ble_eq_true rfl)⟩ rfl (Nat.le_of_ble_eq_true rfl) dX12_drops_34) ?_
      refine G_iload_n C 1 rfl rfl dX12_drops_37 ?_
      refine G_icmp_lt (tgt := 67) C rfl dX12_drops_38 (fun hc5 => ?_) (fun hc5 => ?_)
      · replace h := (if_pos hc5).symm.trans h
        obtain rfl := Option.some.inj h
        exact G_vret C hr (Nat.le_of_ble_eq_true rfl) (Nat.le_of_ble_eq_true rfl) dX12_drops_67
      · replace h := (if_neg hc5).symm.trans h
        refine G_aload_n C 0 rfl rfl dX12_drops_41 ?_
        refine G_dup C rfl dX12_drops_42 ?_
        refine G_getI C fl_X12_332_11 (Or.inl rfl) ko_81 dX12_drops_43 ?_
        refine G_iconst C (v := 1) rfl dX12_drops_46 ?_
        refine G_isub C dX12_drops_47 ?_
        obtain ⟨σ6, hs6, h⟩ := stp_elim h
        refine G_putI C fl_X12_332_11 fp_X12_11_52 (Or.inl rfl) (Or.inl rfl) ko_81 dX12_drops_48 ?_
        rw [← hs6]
        refine G_aload_n C 0 rfl rfl dX12_drops_51 ?_
        refine G_aload_n C 0 rfl rfl dX12_drops_52 ?_
        refine G_getF C fl_X12_150_11 rfl rfl fn_81_70 dX12_drops_53 ?_
        refine G_aload_n C 0 rfl rfl dX12_drops_56 ?_
        refine G_getI C fl_X12_332_11 (Or.inl rfl) ko_81 dX12_drops_57 ?_
        obtain ⟨hc7, h⟩ := ifn h
        refine G_iaload C ks_127 hc7 dX12_drops_60 ?_
        obtain ⟨σ8, hv8, h⟩ := bnd h
        refine G_callV (run_V C [.int (sI σ6 127 ((sI σ6 81 52)).toNatClampNeg)] [] (dX12_puts hv8) ml_X12_puts mv_X12_puts lk_X12_338 ⟨(Nat.le_of_ble_eq_true rfl), (Nat.le_of_ble_eq_true rfl)⟩ ⟨(Nat.le_of_ble_eq_true rfl), (Nat.le_of_ble_eq_true rfl)⟩ vq_11 rfl ko_81 rfl (Nat.le_of_ble_eq_true rfl) dX12_drops_61) ?_
        refine G_goto (tgt := 0) C rfl dX12_drops_64 ?_
        exact hf0 _ _ h
set_option maxRecDepth 100000 in
set_option maxHeartbeats 4000000 in
theorem eX12_drops_0 (C : Cx E p s m args meth c cX12_drops 2 RX12) (hr : meth.sig.returnType = none) {σ0 : Sto} {r2 : Sto} {σ : Sto} {n : Nat} {x1 : Int32} (h : mX12_drops_0 n x1 σ = some r2) : G p l e (rmd 2 0 0) s m args below meth c E true (sZ σ0) ad0 (MQ below (QV E true σ0 r2 ad0) args s 0 0 (AE E)) 2 0 0 σ 0 [(0, .ref 81), (1, .int x1)] [] := by
  induction n generalizing x1 σ with
  | zero => exact nomatch (show (none : Option Sto) = some r2 from h)
  | succ n ih => exact eX12_drops_0B C hr (fun z0 σ9 h9 => ih h9) h
set_option maxRecDepth 100000 in
set_option maxHeartbeats 4000000 in
theorem dX12_drops {σ : Sto} {p0 : Int32} {r2 : Sto} (h : mX12_drops p0 σ = some r2) : MM l yX12_drops cX12_drops 2 none 2 0 0 E true σ [.ref 81, .int p0] (QV E true σ r2) := by
  unfold mX12_drops at h
  refine MM_of (by decide) (Nat.le_of_ble_eq_true rfl) rfl (fun p e s m args below meth c ad0 C hr hn => ?_)
  exact eX12_drops_0 C hr h
set_option maxRecDepth 100000 in
set_option maxHeartbeats 4000000 in
theorem dX12_waitsFor {σ : Sto} {p0 : Int32} {r2 : Sto} (h : mX12_waitsFor p0 σ = some r2) : MM l yX12_waitsFor cX12_waitsFor 2 none 1 0 0 E true σ [.ref 81, .int p0] (QV E true σ r2) := by
  unfold mX12_waitsFor at h
  refine MM_of (by decide) (Nat.le_of_ble_eq_true rfl) rfl (fun p e s m args below meth c ad0 C hr hn => ?_)
  refine G_aload_n C 0 rfl rfl dX12_waitsFor_0 ?_
  refine G_getF C fl_X12_150_11 rfl rfl fn_81_70 dX12_waitsFor_1 ?_
  refine G_aload_n C 0 rfl rfl dX12_waitsFor_4 ?_
  refine G_getI C fl_X12_332_11 (Or.inl rfl) ko_81 dX12_waitsFor_5 ?_
  refine G_iload_n C 1 rfl rfl dX12_waitsFor_8 ?_
  obtain ⟨hc1, h⟩ := ifn h
  obtain ⟨σ2, hs2, h⟩ := stp_elim h
  refine G_iastore C ks_127 hc1 dX12_waitsFor_9 ?_
  rw [← hs2]
  refine G_aload_n C 0 rfl rfl dX12_waitsFor_10 ?_
  refine G_dup C rfl dX12_waitsFor_11 ?_
  refine G_getI C fl_X12_332_11 (Or.inl rfl) ko_81 dX12_waitsFor_12 ?_
  refine G_iconst C (v := 1) rfl dX12_waitsFor_15 ?_
  refine G_iadd C dX12_waitsFor_16 ?_
  obtain ⟨σ3, hs3, h⟩ := stp_elim h
  refine G_putI C fl_X12_332_11 fp_X12_11_52 (Or.inl rfl) (Or.inl rfl) ko_81 dX12_waitsFor_17 ?_
  rw [← hs3]
  obtain rfl := Option.some.inj h
  exact G_vret C hr (Nat.le_of_ble_eq_true rfl) (Nat.le_of_ble_eq_true rfl) dX12_waitsFor_20
set_option maxRecDepth 100000 in
set_option maxHeartbeats 4000000 in
theorem eX12_part_91 (C : Cx E p s m args meth c cX12_part 2 RX12) (hr : meth.sig.returnType = none) {σ0 : Sto} {r2 : Sto} {σ : Sto} (h : mX12_part_91 σ = some r2) : G p l e (rmd 4 0 0) s m args below meth c E true (sZ σ0) ad0 (MQ below (QV E true σ0 r2 ad0) args s 0 0 (AE E)) 2 0 0 σ 91 [(0, .ref 81)] [] := by
  unfold mX12_part_91 at h
  refine G_aload_n C 0 rfl rfl dX12_part_91 ?_
  refine G_callI (run_V C [] [] (dX12_isGood rfl) ml_X12_isGood mv_X12_isGood lk_X12_341 ⟨(Nat.le_of_ble_eq_true rfl), (Nat.le_of_ble_eq_true rfl)⟩ ⟨(Nat.le_of_ble_eq_true rfl), (Nat.le_of_ble_eq_true rfl)⟩ vq_11 rfl ko_81 rfl (Nat.le_of_ble_eq_true rfl) dX12_part_92) ?_
  refine G_if_eq (tgt := 102) C rfl dX12_part_95 (fun hc7 => ?_) (fun hc7 => ?_)
  · replace h := (if_pos hc7).symm.trans h
    obtain rfl := Option.some.inj h
    exact G_vret C hr (Nat.le_of_ble_eq_true rfl) (Nat.le_of_ble_eq_true rfl) dX12_part_102
  · replace h := (if_neg hc7).symm.trans h
    refine G_aload_n C 0 rfl rfl dX12_part_98 ?_
    obtain ⟨σ8, hv8, h⟩ := bnd h
    refine G_callV (run_V C [] [] (dX12_goes hv8) ml_X12_goes mv_X12_goes lk_X12_352 ⟨(Nat.le_of_ble_eq_true rfl), (Nat.le_of_ble_eq_true rfl)⟩ ⟨(Nat.le_of_ble_eq_true rfl), (Nat.le_of_ble_eq_true rfl)⟩ vq_11 rfl ko_81 rfl (Nat.le_of_ble_eq_true rfl) dX12_part_99) ?_
    obtain rfl := Option.some.inj h
    exact G_vret C hr (Nat.le_of_ble_eq_true rfl) (Nat.le_of_ble_eq_true rfl) dX12_part_102
set_option maxRecDepth 100000 in
set_option maxHeartbeats 4000000 in
theorem eX12_part_70 (C : Cx E p s m args meth c cX12_part 2 RX12) (hr : meth.sig.returnType = none) {σ0 : Sto} {r2 : Sto} {σ : Sto} {x1 : Int32} (h : mX12_part_70 x1 σ = some r2) : G p l e (rmd 4 0 0) s m args below meth c E true (sZ σ0) ad0 (MQ below (QV E true σ0 r2 ad0) args s 0 0 (AE E)) 2 0 0 σ 70 [(0, .ref 81), (1, .int x1)] [] := by
  unfold mX12_part_70 at h
  refine G_aload_n C 0 rfl rfl dX12_part_70 ?_
  refine G_iconst C (v := 2) rfl dX12_part_71 ?_
  obtain ⟨σ11, hv11, h⟩ := bnd h
  refine G_callV (run_V C [.int (2 : Int32)] [] (dX12_puts hv11) ml_X12_puts mv_X12_puts lk_X12_338 ⟨(Nat.le_of_ble_eq_true rfl), (Nat.le_of_ble_eq_true rfl)⟩ ⟨(Nat.le_of_ble_eq_true rfl), (Nat.le_of_ble_eq_true rfl)⟩ vq_11 rfl ko_81 rfl (Nat.le_of_ble_eq_true rfl) dX12_part_72) ?_
  refine G_aload_n C 0 rfl rfl dX12_part_75 ?_
  refine G_iload_n C 1 rfl rfl dX12_part_76 ?_
  refine G_bipush C (v := 11) rfl dX12_part_77 ?_
  refine G_isub C dX12_part_79 ?_
  obtain ⟨σ12, hv12, h⟩ := bnd h
  refine G_callV (run_V C [.int (x1 - (11 : Int32))] [] (dX12_puts hv12) ml_X12_puts mv_X12_puts lk_X12_338 ⟨(Nat.le_of_ble_eq_true rfl), (Nat.le_of_ble_eq_true rfl)⟩ ⟨(Nat.le_of_ble_eq_true rfl), (Nat.le_of_ble_eq_true rfl)⟩ vq_11 rfl ko_81 rfl (Nat.le_of_ble_eq_true rfl) dX12_part_80) ?_
  refine G_goto (tgt := 91) C rfl dX12_part_83 ?_
  refine G_sub [0] rfl ?_
  exact eX12_part_91 C hr h
set_option maxRecDepth 100000 in
set_option maxHeartbeats 4000000 in
theorem eX12_part_30 (C : Cx E p s m args meth c cX12_part 2 RX12) (hr : meth.sig.returnType = none) {σ0 : Sto} {r2 : Sto} {σ : Sto} (h : mX12_part_30 σ = some r2) : G p l e (rmd 4 0 0) s m args below meth c E true (sZ σ0) ad0 (MQ below (QV E true σ0 r2 ad0) args s 0 0 (AE E)) 2 0 0 σ 30 [(0, .ref 81)] [] := by
  unfold mX12_part_30 at h
  refine G_aload_n C 0 rfl rfl dX12_part_30 ?_
  refine G_iconst C (v := 1) rfl dX12_part_31 ?_
  obtain ⟨σ15, hv15, h⟩ := bnd h
  refine G_callV (run_V C [.int (1 : Int32)] [] (dX12_puts hv15) ml_X12_puts mv_X12_puts lk_X12_338 ⟨(Nat.le_of_ble_eq_true rfl), (Nat.le_of_ble_eq_true rfl)⟩ ⟨(Nat.le_of_ble_eq_true rfl), (Nat.le_of_ble_eq_true rfl)⟩ vq_11 rfl ko_81 rfl (Nat.le_of_ble_eq_true rfl) dX12_part_32) ?_
  refine G_aload_n C 0 rfl rfl dX12_part_35 ?_
  refine G_aload_n C 0 rfl rfl dX12_part_36 ?_
  refine G_getI C fl_X12_300_11 (Or.inl rfl) ko_81 dX12_part_37 ?_
  obtain ⟨σ16, hv16, h⟩ := bnd h
  refine G_callV (run_V C [.int (sI σ15 81 47)] [] (dX12_puts hv16) ml_X12_puts mv_X12_puts lk_X12_338 ⟨(Nat.le_of_ble_eq_true rfl), (Nat.le_of_ble_eq_true rfl)⟩ ⟨(Nat.le_of_ble_eq_true rfl), (Nat.le_of_ble_eq_true rfl)⟩ vq_11 rfl ko_81 rfl (Nat.le_of_ble_eq_true rfl) dX12_part_40) ?_
  refine G_goto (tgt := 91) C rfl dX12_part_43 ?_
  exact eX12_part_91 C hr h
set_option maxRecDepth 100000 in
set_option maxHeartbeats 4000000 in
theorem dX12_part {σ : Sto} {r2 : Sto} (h : mX12_part σ = some r2) : MM l yX12_part cX12_part 2 none 4 0 0 E true σ [.ref 81] (QV E true σ r2) := by
  unfold mX12_part at h
  refine MM_of (by decide) (Nat.le_of_ble_eq_true rfl) rfl (fun p e s m args below meth c ad0 C hr hn => ?_)
  refine G_aload_n C 0 rfl rfl dX12_part_0 ?_
  refine G_callI (run_V C [] [] (dX12_isGood rfl) ml_X12_isGood mv_X12_isGood lk_X12_341 ⟨(Nat.le_of_ble_eq_true rfl), (Nat.le_of_ble_eq_true rfl)⟩ ⟨(Nat.le_of_ble_eq_true rfl), (Nat.le_of_ble_eq_true rfl)⟩ vq_11 rfl ko_81 rfl (Nat.le_of_ble_eq_true rfl) dX12_part_1) ?_
  refine G_if_ne (tgt := 8) C rfl dX12_part_4 (fun hc2 => ?_) (fun hc2 => ?_)
  · replace h := (if_neg hc2).symm.trans h
    refine G_aload_n C 0 rfl rfl dX12_part_8 ?_
    refine G_getI C fl_X12_306_11 (Or.inl rfl) ko_81 dX12_part_9 ?_
    refine G_iconst C (v := 2) rfl dX12_part_12 ?_
    refine G_icmp_ne (tgt := 46) C rfl dX12_part_13 (fun hc3 => ?_) (fun hc3 => ?_)
    · replace h := (if_neg hc3).symm.trans h
      refine G_aload_n C 0 rfl rfl dX12_part_46 ?_
      refine G_getI C fl_X12_306_11 (Or.inl rfl) ko_81 dX12_part_47 ?_
      refine G_iconst C (v := 1) rfl dX12_part_50 ?_
      refine G_icmp_ne (tgt := 86) C rfl dX12_part_51 (fun hc4 => ?_) (fun hc4 => ?_)
      · replace h := (if_neg hc4).symm.trans h
        refine G_aload_n C 0 rfl rfl dX12_part_86 ?_
        refine G_iconst C (v := 1) rfl dX12_part_87 ?_
        obtain ⟨σ5, hv5, h⟩ := bnd h
        refine G_callV (run_V C [.int (1 : Int32)] [] (dX12_wrong hv5) ml_X12_wrong mv_X12_wrong lk_X12_345 ⟨(Nat.le_of_ble_eq_true rfl), (Nat.le_of_ble_eq_true rfl)⟩ ⟨(Nat.le_of_ble_eq_true rfl), (Nat.le_of_ble_eq_true rfl)⟩ vq_11 rfl ko_81 rfl (Nat.le_of_ble_eq_true rfl) dX12_part_88) ?_
        exact eX12_part_91 C hr h
      · replace h := (if_pos hc4).symm.trans h
        refine G_aload_n C 0 rfl rfl dX12_part_54 ?_
        obtain ⟨v9, hv9, h⟩ := bnd h
        refine G_callI (run_V C [] [] (dX12_knownWord hv9) ml_X12_knownWord mv_X12_knownWord lk_X12_348 ⟨(Nat.le_of_ble_eq_true rfl), (Nat.le_of_ble_eq_true rfl)⟩ ⟨(Nat.le_of_ble_eq_true rfl), (Nat.le_of_ble_eq_true rfl)⟩ vq_11 rfl ko_81 rfl (Nat.le_of_ble_eq_true rfl) dX12_part_55) ?_
        refine G_istore_n (L' := [(1, .int v9), (0, .ref 81)]) C rfl (Nat.le_of_ble_eq_true rfl) rfl dX12_part_58 ?_
        refine G_iload_n C 0 rfl rfl dX12_part_59 ?_
        refine G_bipush C (v := 11) rfl dX12_part_60 ?_
        refine G_icmp_ge (tgt := 70) C rfl dX12_part_62 (fun hc10 => ?_) (fun hc10 => ?_)
        · replace h := (if_pos hc10).symm.trans h
          refine G_sub [1, 0] rfl ?_
          exact eX12_part_70 C hr h
        · replace h := (if_neg hc10).symm.trans h
          refine G_aload_n C 1 rfl rfl dX12_part_65 ?_
          refine G_iconst C (v := 3) rfl dX12_part_66 ?_
          obtain ⟨σ13, hv13, h⟩ := bnd h
          refine G_callV (run_V C [.int (3 : Int32)] [] (dX12_wrong hv13) ml_X12_wrong mv_X12_wrong lk_X12_345 ⟨(Nat.le_of_ble_eq_true rfl), (Nat.le_of_ble_eq_true rfl)⟩ ⟨(Nat.le_of_ble_eq_true rfl), (Nat.le_of_ble_eq_true rfl)⟩ vq_11 rfl ko_81 rfl (Nat.le_of_ble_eq_true rfl) dX12_part_67) ?_
          refine G_sub [1, 0] rfl ?_
          exact eX12_part_70 C hr h
    · replace h := (if_pos hc3).symm.trans h
      refine G_aload_n C 0 rfl rfl dX12_part_16 ?_
      refine G_getI C fl_X12_315_11 (Or.inl rfl) ko_81 dX12_part_17 ?_
      refine G_bipush C (v := 8) rfl dX12_part_20 ?_
      refine G_icmp_le (tgt := 30) C rfl dX12_part_22 (fun hc14 => ?_) (fun hc14 => ?_)
      · replace h := (if_pos hc14).symm.trans h
        exact eX12_part_30 C hr h
      · replace h := (if_neg hc14).symm.trans h
        refine G_aload_n C 0 rfl rfl dX12_part_25 ?_
        refine G_iconst C (v := 2) rfl dX12_part_26 ?_
        obtain ⟨σ17, hv17, h⟩ := bnd h
        refine G_callV (run_V C [.int (2 : Int32)] [] (dX12_wrong hv17) ml_X12_wrong mv_X12_wrong lk_X12_345 ⟨(Nat.le_of_ble_eq_true rfl), (Nat.le_of_ble_eq_true rfl)⟩ ⟨(Nat.le_of_ble_eq_true rfl), (Nat.le_of_ble_eq_true rfl)⟩ vq_11 rfl ko_81 rfl (Nat.le_of_ble_eq_true rfl) dX12_part_27) ?_
        exact eX12_part_30 C hr h
  · replace h := (if_pos hc2).symm.trans h
    obtain rfl := Option.some.inj h
    exact G_vret C hr (Nat.le_of_ble_eq_true rfl) (Nat.le_of_ble_eq_true rfl) dX12_part_7
set_option maxRecDepth 100000 in
set_option maxHeartbeats 4000000 in
theorem eX12_begins_61 (C : Cx E p s m args meth c cX12_begins 1 RX12) (hr : meth.sig.returnType = none) {σ0 : Sto} {r2 : Sto} {σ : Sto} {y1 : Int32} (h : mX12_begins_61 y1 σ = some r2) : G p l e (rmd 2 0 0) s m args below meth c E true (sZ σ0) ad0 (MQ below (QV E true σ0 r2 ad0) args s 0 0 (AE E)) 1 0 0 σ 61 [] [.int y1, .ref 81] := by
  unfold mX12_begins_61 at h
  obtain ⟨σ3, hv3, h⟩ := bnd h
  refine G_callV (run_V C [.int y1] [] (dX12_wrong hv3) ml_X12_wrong mv_X12_wrong lk_X12_345 ⟨(Nat.le_of_ble_eq_true rfl), (Nat.le_of_ble_eq_true rfl)⟩ ⟨(Nat.le_of_ble_eq_true rfl), (Nat.le_of_ble_eq_true rfl)⟩ vq_11 rfl ko_81 rfl (Nat.le_of_ble_eq_true rfl) dX12_begins_61) ?_
  obtain rfl := Option.some.inj h
  exact G_vret C hr (Nat.le_of_ble_eq_true rfl) (Nat.le_of_ble_eq_true rfl) dX12_begins_64
set_option maxRecDepth 100000 in
set_option maxHeartbeats 4000000 in
theorem dX12_begins {σ : Sto} {r2 : Sto} (h : mX12_begins σ = some r2) : MM l yX12_begins cX12_begins 1 none 2 0 0 E true σ [.ref 81] (QV E true σ r2) := by
  unfold mX12_begins at h
  refine MM_of (by decide) (Nat.le_of_ble_eq_true rfl) rfl (fun p e s m args below meth c ad0 C hr hn => ?_)
  refine G_aload_n C 0 rfl rfl dX12_begins_0 ?_
  refine G_getI C fl_X12_355_11 (Or.inl rfl) ko_81 dX12_begins_1 ?_
  refine G_bipush C (v := 6) rfl dX12_begins_4 ?_
  refine G_icmp_ge (tgt := 30) C rfl dX12_begins_6 (fun hc1 => ?_) (fun hc1 => ?_)
  · replace h := (if_pos hc1).symm.trans h
    refine G_aload_n C 0 rfl rfl dX12_begins_30 ?_
    refine G_aload_n C 0 rfl rfl dX12_begins_31 ?_
    refine G_getI C fl_X12_306_11 (Or.inl rfl) ko_81 dX12_begins_32 ?_
    refine G_iconst C (v := 2) rfl dX12_begins_35 ?_
    refine G_icmp_eq (tgt := 56) C rfl dX12_begins_36 (fun hc2 => ?_) (fun hc2 => ?_)
    · replace h := (if_pos hc2).symm.trans h
      refine G_iconst C (v := 2) rfl dX12_begins_56 ?_
      refine G_goto (tgt := 61) C rfl dX12_begins_57 ?_
      refine G_sub [] rfl ?_
      exact eX12_begins_61 C hr h
    · replace h := (if_neg hc2).symm.trans h
      refine G_aload_n C 0 rfl rfl dX12_begins_39 ?_
      refine G_getI C fl_X12_306_11 (Or.inl rfl) ko_81 dX12_begins_40 ?_
      refine G_iconst C (v := 1) rfl dX12_begins_43 ?_
      refine G_icmp_eq (tgt := 56) C rfl dX12_begins_44 (fun hc4 => ?_) (fun hc4 => ?_)
      · replace h := (if_pos hc4).symm.trans h
        refine G_iconst C (v := 2) rfl dX12_begins_56 ?_
        refine G_goto (tgt := 61) C rfl dX12_begins_57 ?_
        refine G_sub [] rfl ?_
        exact eX12_begins_61 C hr h
      · replace h := (if_neg hc4).symm.trans h
        refine G_aload_n C 0 rfl rfl dX12_begins_47 ?_
        refine G_bipush C (v := 40) rfl dX12_begins_48 ?_
        refine G_callI (run_V C [.int (40 : Int32)] [.ref 81] (dX12_isSign rfl) ml_X12_isSign mv_X12_isSign lk_X12_358 ⟨(Nat.le_of_ble_eq_true rfl), (Nat.le_of_ble_eq_true rfl)⟩ ⟨(Nat.le_of_ble_eq_true rfl), (Nat.le_of_ble_eq_true rfl)⟩ vq_11 rfl ko_81 rfl (Nat.le_of_ble_eq_true rfl) dX12_begins_50) ?_
        refine G_if_eq (tgt := 60) C rfl dX12_begins_53 (fun hc6 => ?_) (fun hc6 => ?_)
        · replace h := (if_pos hc6).symm.trans h
          refine G_iconst C (v := 1) rfl dX12_begins_60 ?_
          refine G_sub [] rfl ?_
          exact eX12_begins_61 C hr h
        · replace h := (if_neg hc6).symm.trans h
          refine G_iconst C (v := 2) rfl dX12_begins_56 ?_
          refine G_goto (tgt := 61) C rfl dX12_begins_57 ?_
          refine G_sub [] rfl ?_
          exact eX12_begins_61 C hr h
  · replace h := (if_neg hc1).symm.trans h
    refine G_aload_n C 0 rfl rfl dX12_begins_9 ?_
    refine G_dup C rfl dX12_begins_10 ?_
    refine G_getI C fl_X12_355_11 (Or.inl rfl) ko_81 dX12_begins_11 ?_
    refine G_iconst C (v := 1) rfl dX12_begins_14 ?_
    refine G_iadd C dX12_begins_15 ?_
    obtain ⟨σ7, hs7, h⟩ := stp_elim h
    refine G_putI C fl_X12_355_11 fp_X12_11_53 (Or.inl rfl) (Or.inl rfl) ko_81 dX12_begins_16 ?_
    rw [← hs7]
    refine G_aload_n C 0 rfl rfl dX12_begins_19 ?_
    refine G_getF C fl_X12_153_11 rfl rfl fn_81_71 dX12_begins_20 ?_
    refine G_aload_n C 0 rfl rfl dX12_begins_23 ?_
    refine G_getI C fl_X12_355_11 (Or.inl rfl) ko_81 dX12_begins_24 ?_
    refine G_iconst C (v := 0) rfl dX12_begins_27 ?_
    obtain ⟨hc8, h⟩ := ifn h
    obtain ⟨σ9, hs9, h⟩ := stp_elim h
    refine G_zastore C ks_128 hc8 (by decide) dX12_begins_28 ?_
    rw [← hs9]
    obtain rfl := Option.some.inj h
    exact G_vret C hr (Nat.le_of_ble_eq_true rfl) (Nat.le_of_ble_eq_true rfl) dX12_begins_29
set_option maxRecDepth 100000 in
set_option maxHeartbeats 4000000 in
theorem eX12_operand_120 (C : Cx E p s m args meth c cX12_operand 5 RX12) (hr : meth.sig.returnType = none) {σ0 : Sto} {r2 : Sto} {σ : Sto} (h : mX12_operand_120 σ = some r2) : G p l e (rmd 5 0 0) s m args below meth c E true (sZ σ0) ad0 (MQ below (QV E true σ0 r2 ad0) args s 0 0 (AE E)) 5 0 0 σ 120 [(0, .ref 81)] [] := by
  unfold mX12_operand_120 at h
  refine G_aload_n C 0 rfl rfl dX12_operand_120 ?_
  obtain ⟨σ2, hv2, h⟩ := bnd h
  refine G_callV (run_V C [] [] (dX12_part hv2) ml_X12_part mv_X12_part lk_X12_367 ⟨(Nat.le_of_ble_eq_true rfl), (Nat.le_of_ble_eq_true rfl)⟩ ⟨(Nat.le_of_ble_eq_true rfl), (Nat.le_of_ble_eq_true rfl)⟩ vq_11 rfl ko_81 rfl (Nat.le_of_ble_eq_true rfl) dX12_operand_121) ?_
  obtain rfl := Option.some.inj h
  exact G_vret C hr (Nat.le_of_ble_eq_true rfl) (Nat.le_of_ble_eq_true rfl) dX12_operand_124
set_option maxRecDepth 100000 in
set_option maxHeartbeats 4000000 in
theorem eX12_operand_96 (C : Cx E p s m args meth c cX12_operand 5 RX12) (hr : meth.sig.returnType = none) {σ0 : Sto} {r2 : Sto} {σ : Sto} {f4 : Int32 → Int32 → Sto → Option Sto} {x2 : Int32} {y0 : Int32} (hf4 : ∀ (x2 : Int32) (x3 : Int32) (σ' : Sto), f4 x2 x3 σ' = some r2 → G p l e (rmd 5 0 0) s m args below meth c E true (sZ σ0) ad0 (MQ below (QV E true σ0 r2 ad0) args s 0 0 (AE E)) 5 0 0 σ' 4 [(0, .ref 81), (2, .int x2), (3, .int x3)] []) (h : mX12_operand_96 f4 x2 y0 σ = some r2) : G p l e (rmd 5 0 0) s m args below meth c E true (sZ σ0) ad0 (MQ below (QV E true σ0 r2 ad0) args s 0 0 (AE E)) 5 0 0 σ 96 [(0, .ref 81), (2, .int x2)] [.int y0] := by
  unfold mX12_operand_96 at h
  refine G_istore_n (L' := [(3, .int y0), (0, .ref 81), (2, .int x2)]) C rfl (Nat.le_of_ble_eq_true rfl) rfl dX12_operand_96 ?_
  refine G_iload_n C 0 rfl rfl dX12_operand_97 ?_
  refine G_if_eq (tgt := 117) C rfl dX12_operand_98 (fun hc9 => ?_) (fun hc9 => ?_)
  · replace h := (if_pos hc9).symm.trans h
    refine G_goto (tgt := 4) C rfl dX12_operand_117 ?_
    refine G_sub [1, 2, 0] rfl ?_
    exact hf4 _ _ _ h
  · replace h := (if_neg hc9).symm.trans h
    refine G_aload_n C 1 rfl rfl dX12_operand_101 ?_
    refine G_bipush C (v := 12) rfl dX12_operand_102 ?_
    obtain ⟨σ10, hv10, h⟩ := bnd h
    refine G_callV (run_V C [.int (12 : Int32)] [] (dX12_waitsFor hv10) ml_X12_waitsFor mv_X12_waitsFor lk_X12_361 ⟨(Nat.le_of_ble_eq_true rfl), (Nat.le_of_ble_eq_true rfl)⟩ ⟨(Nat.le_of_ble_eq_true rfl), (Nat.le_of_ble_eq_true rfl)⟩ vq_11 rfl ko_81 rfl (Nat.le_of_ble_eq_true rfl) dX12_operand_104) ?_
    refine G_aload_n C 1 rfl rfl dX12_operand_107 ?_
    obtain ⟨σ11, hv11, h⟩ := bnd h
    refine G_callV (run_V C [] [] (dX12_goes hv11) ml_X12_goes mv_X12_goes lk_X12_352 ⟨(Nat.le_of_ble_eq_true rfl), (Nat.le_of_ble_eq_true rfl)⟩ ⟨(Nat.le_of_ble_eq_true rfl), (Nat.le_of_ble_eq_true rfl)⟩ vq_11 rfl ko_81 rfl (Nat.le_of_ble_eq_true rfl) dX12_operand_108) ?_
    refine G_aload_n C 1 rfl rfl dX12_operand_111 ?_
    obtain ⟨σ12, hv12, h⟩ := bnd h
    refine G_callV (run_V C [] [] (dX12_begins hv12) ml_X12_begins mv_X12_begins lk_X12_364 ⟨(Nat.le_of_ble_eq_true rfl), (Nat.le_of_ble_eq_true rfl)⟩ ⟨(Nat.le_of_ble_eq_true rfl), (Nat.le_of_ble_eq_true rfl)⟩ vq_11 rfl ko_81 rfl (Nat.le_of_ble_eq_true rfl) dX12_operand_112) ?_
    refine G_iconst C (v := 1) rfl dX12_operand_115 ?_
    refine G_istore_n (L' := [(2, .int (1 : Int32)), (3, .int y0), (0, .ref 81)]) C rfl (Nat.le_of_ble_eq_true rfl) rfl dX12_operand_116 ?_
    refine G_goto (tgt := 4) C rfl dX12_operand_117 ?_
    refine G_sub [2, 0, 1] rfl ?_
    exact hf4 _ _ _ h
set_option maxRecDepth 100000 in
set_option maxHeartbeats 4000000 in
theorem eX12_operand_95 (C : Cx E p s m args meth c cX12_operand 5 RX12) (hr : meth.sig.returnType = none) {σ0 : Sto} {r2 : Sto} {σ : Sto} {f4 : Int32 → Int32 → Sto → Option Sto} {x2 : Int32} (hf4 : ∀ (x2 : Int32) (x3 : Int32) (σ' : Sto), f4 x2 x3 σ' = some r2 → G p l e (rmd 5 0 0) s m args below meth c E true (sZ σ0) ad0 (MQ below (QV E true σ0 r2 ad0) args s 0 0 (AE E)) 5 0 0 σ' 4 [(0, .ref 81), (2, .int x2), (3, .int x3)] []) (h : mX12_operand_95 f4 x2 σ = some r2) : G p l e (rmd 5 0 0) s m args below meth c E true (sZ σ0) ad0 (MQ below (QV E true σ0 r2 ad0) args s 0 0 (AE E)) 5 0 0 σ 95 [(0, .ref 81), (2, .int x2)] [] := by
  unfold mX12_operand_95 at h
  refine G_iconst C (v := 0) rfl dX12_operand_95 ?_
  exact eX12_operand_96 C hr hf4 h
set_option maxRecDepth 100000 in
set_option maxHeartbeats 4000000 in
theorem eX12_operand_75 (C : Cx E p s m args meth c cX12_operand 5 RX12) (hr : meth.sig.returnType = none) {σ0 : Sto} {r2 : Sto} {σ : Sto} {f4 : Int32 → Int32 → Sto → Option Sto} {x2 : Int32} (hf4 : ∀ (x2 : Int32) (x3 : Int32) (σ' : Sto), f4 x2 x3 σ' = some r2 → G p l e (rmd 5 0 0) s m args below meth c E true (sZ σ0) ad0 (MQ below (QV E true σ0 r2 ad0) args s 0 0 (AE E)) 5 0 0 σ' 4 [(0, .ref 81), (2, .int x2), (3, .int x3)] []) (h : mX12_operand_75 f4 x2 σ = some r2) : G p l e (rmd 5 0 0) s m args below meth c E true (sZ σ0) ad0 (MQ below (QV E true σ0 r2 ad0) args s 0 0 (AE E)) 5 0 0 σ 75 [(0, .ref 81), (2, .int x2)] [] := by
  unfold mX12_operand_75 at h
  refine G_aload_n C 0 rfl rfl dX12_operand_75 ?_
  refine G_callI (run_V C [] [] (dX12_isGood rfl) ml_X12_isGood mv_X12_isGood lk_X12_341 ⟨(Nat.le_of_ble_eq_true rfl), (Nat.le_of_ble_eq_true rfl)⟩ ⟨(Nat.le_of_ble_eq_true rfl), (Nat.le_of_ble_eq_true rfl)⟩ vq_11 rfl ko_81 rfl (Nat.le_of_ble_eq_true rfl) dX12_operand_76) ?_
  refine G_if_eq (tgt := 95) C rfl dX12_operand_79 (fun hc8 => ?_) (fun hc8 => ?_)
  · replace h := (if_pos hc8).symm.trans h
    exact eX12_operand_95 C hr hf4 h
  · replace h := (if_neg hc8).symm.trans h
    refine G_aload_n C 0 rfl rfl dX12_operand_82 ?_
    refine G_bipush C (v := 40) rfl dX12_operand_83 ?_
    refine G_callI (run_V C [.int (40 : Int32)] [] (dX12_isSign rfl) ml_X12_isSign mv_X12_isSign lk_X12_358 ⟨(Nat.le_of_ble_eq_true rfl), (Nat.le_of_ble_eq_true rfl)⟩ ⟨(Nat.le_of_ble_eq_true rfl), (Nat.le_of_ble_eq_true rfl)⟩ vq_11 rfl ko_81 rfl (Nat.le_of_ble_eq_true rfl) dX12_operand_85) ?_
    refine G_if_eq (tgt := 95) C rfl dX12_operand_88 (fun hc14 => ?_) (fun hc14 => ?_)
    · replace h := (if_pos hc14).symm.trans h
      exact eX12_operand_95 C hr hf4 h
    · replace h := (if_neg hc14).symm.trans h
      refine G_iconst C (v := 1) rfl dX12_operand_91 ?_
      refine G_goto (tgt := 96) C rfl dX12_operand_92 ?_
      exact eX12_operand_96 C hr hf4 h
set_option maxRecDepth 100000 in
set_option maxHeartbeats 4000000 in
theorem eX12_operand_50 (C : Cx E p s m args meth c cX12_operand 5 RX12) (hr : meth.sig.returnType = none) {σ0 : Sto} {r2 : Sto} {σ : Sto} {f4 : Int32 → Int32 → Sto → Option Sto} {f18 : Int32 → Int32 → Sto → Option Sto} {x2 : Int32} {x4 : Int32} (hf4 : ∀ (x2 : Int32) (x3 : Int32) (σ' : Sto), f4 x2 x3 σ' = some r2 → G p l e (rmd 5 0 0) s m args below meth c E true (sZ σ0) ad0 (MQ below (QV E true σ0 r2 ad0) args s 0 0 (AE E)) 5 0 0 σ' 4 [(0, .ref 81), (2, .int x2), (3, .int x3)] []) (hf18 : ∀ (x2 : Int32) (x4 : Int32) (σ' : Sto), f18 x2 x4 σ' = some r2 → G p l e (rmd 5 0 0) s m args below meth c E true (sZ σ0) ad0 (MQ below (QV E true σ0 r2 ad0) args s 0 0 (AE E)) 5 0 0 σ' 18 [(0, .ref 81), (2, .int x2), (4, .int x4)] []) (h : mX12_operand_50 f4 f18 x2 x4 σ = some r2) : G p l e (rmd 5 0 0) s m args below meth c E true (sZ σ0) ad0 (MQ below (QV E true σ0 r2 ad0) args s 0 0 (AE E)) 5 0 0 σ 50 [(0, .ref 81), (2, .int x2), (4, .int x4)] [] := by
  unfold mX12_operand_50 at h
  refine G_iinc (v := 1) (L' := [(4, .int (x4 + (1 : Int32))), (0, .ref 81), (2, .int x2)]) C 2 rfl rfl (Nat.le_of_ble_eq_true rfl) rfl dX12_operand_50 ?_
  refine G_aload_n C 1 rfl rfl dX12_operand_53 ?_
  refine G_callI (run_V C [] [] (dX12_isGood rfl) ml_X12_isGood mv_X12_isGood lk_X12_341 ⟨(Nat.le_of_ble_eq_true rfl), (Nat.le_of_ble_eq_true rfl)⟩ ⟨(Nat.le_of_ble_eq_true rfl), (Nat.le_of_ble_eq_true rfl)⟩ vq_11 rfl ko_81 rfl (Nat.le_of_ble_eq_true rfl) dX12_operand_54) ?_
  refine G_if_ne (tgt := 63) C rfl dX12_operand_57 (fun hc20 => ?_) (fun hc20 => ?_)
  · replace h := (if_neg hc20).symm.trans h
    refine G_aload_n C 1 rfl rfl dX12_operand_63 ?_
    refine G_iconst C (v := 3) rfl dX12_operand_64 ?_
    obtain ⟨σ21, hv21, h⟩ := bnd h
    refine G_callV (run_V C [.int (3 : Int32)] [] (dX12_waitsFor hv21) ml_X12_waitsFor mv_X12_waitsFor lk_X12_361 ⟨(Nat.le_of_ble_eq_true rfl), (Nat.le_of_ble_eq_true rfl)⟩ ⟨(Nat.le_of_ble_eq_true rfl), (Nat.le_of_ble_eq_true rfl)⟩ vq_11 rfl ko_81 rfl (Nat.le_of_ble_eq_true rfl) dX12_operand_65) ?_
    refine G_aload_n C 1 rfl rfl dX12_operand_68 ?_
    obtain ⟨σ22, hv22, h⟩ := bnd h
    refine G_callV (run_V C [] [] (dX12_goes hv22) ml_X12_goes mv_X12_goes lk_X12_352 ⟨(Nat.le_of_ble_eq_true rfl), (Nat.le_of_ble_eq_true rfl)⟩ ⟨(Nat.le_of_ble_eq_true rfl), (Nat.le_of_ble_eq_true rfl)⟩ vq_11 rfl ko_81 rfl (Nat.le_of_ble_eq_true rfl) dX12_operand_69) ?_
    refine G_goto (tgt := 18) C rfl dX12_operand_72 ?_
    refine G_sub [1, 2, 0] rfl ?_
    exact hf18 _ _ _ h
  · replace h := (if_pos hc20).symm.trans h
    refine G_goto (tgt := 18) C rfl dX12_operand_60 ?_
    refine G_sub [1, 2, 0] rfl ?_
    exact hf18 _ _ _ h
set_option maxRecDepth 100000 in
set_option maxHeartbeats 4000000 in
theorem eX12_operand_18B (C : Cx E p s m args meth c cX12_operand 5 RX12) (hr : meth.sig.returnType = none) {σ0 : Sto} {r2 : Sto} {σ : Sto} {f4 : Int32 → Int32 → Sto → Option Sto} {f18 : Int32 → Int32 → Sto → Option Sto} {x2 : Int32} {x4 : Int32} (hf4 : ∀ (x2 : Int32) (x3 : Int32) (σ' : Sto), f4 x2 x3 σ' = some r2 → G p l e (rmd 5 0 0) s m args below meth c E true (sZ σ0) ad0 (MQ below (QV E true σ0 r2 ad0) args s 0 0 (AE E)) 5 0 0 σ' 4 [(0, .ref 81), (2, .int x2), (3, .int x3)] []) (hf18 : ∀ (x2 : Int32) (x4 : Int32) (σ' : Sto), f18 x2 x4 σ' = some r2 → G p l e (rmd 5 0 0) s m args below meth c E true (sZ σ0) ad0 (MQ below (QV E true σ0 r2 ad0) args s 0 0 (AE E)) 5 0 0 σ' 18 [(0, .ref 81), (2, .int x2), (4, .int x4)] []) (h : mX12_operand_18B f4 f18 x2 x4 σ = some r2) : G p l e (rmd 5 0 0) s m args below meth c E true (sZ σ0) ad0 (MQ below (QV E true σ0 r2 ad0) args s 0 0 (AE E)) 5 0 0 σ 18 [(0, .ref 81), (2, .int x2), (4, .int x4)] [] := by
  unfold mX12_operand_18B at h
  refine G_aload_n C 0 rfl rfl dX12_operand_18 ?_
  refine G_callI (run_V C [] [] (dX12_isGood rfl) ml_X12_isGood mv_X12_isGood lk_X12_341 ⟨(Nat.le_of_ble_eq_true rfl), (Nat.le_of_ble_eq_true rfl)⟩ ⟨(Nat.le_of_ble_eq_true rfl), (Nat.le_of_ble_eq_true rfl)⟩ vq_11 rfl ko_81 rfl (Nat.le_of_ble_eq_true rfl) dX12_operand_19) ?_
  refine G_if_eq (tgt := 75) C rfl dX12_operand_22 (fun hc6 => ?_) (fun hc6 => ?_)
  · replace h := (if_pos hc6).symm.trans h
    refine G_sub [0, 1] rfl ?_
    exact eX12_operand_75 C hr hf4 h
  · replace h := (if_neg hc6).symm.trans h
    refine G_iload_n C 1 rfl rfl dX12_operand_25 ?_
    refine G_if_eq (tgt := 75) C rfl dX12_operand_26 (fun hc15 => ?_) (fun hc15 => ?_)
    · replace h := (if_pos hc15).symm.trans h
      refine G_sub [0, 1] rfl ?_
      exact eX12_operand_75 C hr hf4 h
    · replace h := (if_neg hc15).symm.trans h
      refine G_aload_n C 0 rfl rfl dX12_operand_29 ?_
      obtain ⟨v16, hv16, h⟩ := bnd h
      refine G_callI (run_V C [] [] (dX12_knownWord hv16) ml_X12_knownWord mv_X12_knownWord lk_X12_348 ⟨(Nat.le_of_ble_eq_true rfl), (Nat.le_of_ble_eq_true rfl)⟩ ⟨(Nat.le_of_ble_eq_true rfl), (Nat.le_of_ble_eq_true rfl)⟩ vq_11 rfl ko_81 rfl (Nat.le_of_ble_eq_true rfl) dX12_operand_30) ?_
      refine G_bipush C (v := 10) rfl dX12_operand_33 ?_
      refine G_icmp_ne (tgt := 75) C rfl dX12_operand_35 (fun hc17 => ?_) (fun hc17 => ?_)
      · replace h := (if_neg hc17).symm.trans h
        refine G_sub [0, 1] rfl ?_
        exact eX12_operand_75 C hr hf4 h
      · replace h := (if_pos hc17).symm.trans h
        refine G_iload C 2 rfl dX12_operand_38 ?_
        refine G_bipush C (v := 6) rfl dX12_operand_40 ?_
        refine G_icmp_ne (tgt := 50) C rfl dX12_operand_42 (fun hc18 => ?_) (fun hc18 => ?_)
        · replace h := (if_neg hc18).symm.trans h
          exact eX12_operand_50 C hr hf4 hf18 h
        · replace h := (if_pos hc18).symm.trans h
          refine G_aload_n C 0 rfl rfl dX12_operand_45 ?_
          refine G_iconst C (v := 2) rfl dX12_operand_46 ?_
          obtain ⟨σ23, hv23, h⟩ := bnd h
          refine G_callV (run_V C [.int (2 : Int32)] [] (dX12_wrong hv23) ml_X12_wrong mv_X12_wrong lk_X12_345 ⟨(Nat.le_of_ble_eq_true rfl), (Nat.le_of_ble_eq_true rfl)⟩ ⟨(Nat.le_of_ble_eq_true rfl), (Nat.le_of_ble_eq_true rfl)⟩ vq_11 rfl ko_81 rfl (Nat.le_of_ble_eq_true rfl) dX12_operand_47) ?_
          exact eX12_operand_50 C hr hf4 hf18 h
set_option maxRecDepth 100000 in
set_option maxHeartbeats 4000000 in
theorem eX12_operand_18 (C : Cx E p s m args meth c cX12_operand 5 RX12) (hr : meth.sig.returnType = none) {σ0 : Sto} {r2 : Sto} {σ : Sto} {f4 : Int32 → Int32 → Sto → Option Sto} {n : Nat} {x2 : Int32} {x4 : Int32} (hf4 : ∀ (x2 : Int32) (x3 : Int32) (σ' : Sto), f4 x2 x3 σ' = some r2 → G p l e (rmd 5 0 0) s m args below meth c E true (sZ σ0) ad0 (MQ below (QV E true σ0 r2 ad0) args s 0 0 (AE E)) 5 0 0 σ' 4 [(0, .ref 81), (2, .int x2), (3, .int x3)] []) (h : mX12_operand_18 f4 n x2 x4 σ = some r2) : G p l e (rmd 5 0 0) s m args below meth c E true (sZ σ0) ad0 (MQ below (QV E true σ0 r2 ad0) args s 0 0 (AE E)) 5 0 0 σ 18 [(0, .ref 81), (2, .int x2), (4, .int x4)] [] := by
  induction n generalizing x2 x4 σ with
  | zero => exact nomatch (show (none : Option Sto) = some r2 from h)
  | succ n ih => exact eX12_operand_18B C hr hf4 (fun z0 z1 σ9 h9 => ih h9) h
set_option maxRecDepth 100000 in
set_option maxHeartbeats 4000000 in
theorem eX12_operand_4B (C : Cx E p s m args meth c cX12_operand 5 RX12) (hr : meth.sig.returnType = none) {σ0 : Sto} {r2 : Sto} {σ : Sto} {f4 : Int32 → Int32 → Sto → Option Sto} {x2 : Int32} {x3 : Int32} (hf4 : ∀ (x2 : Int32) (x3 : Int32) (σ' : Sto), f4 x2 x3 σ' = some r2 → G p l e (rmd 5 0 0) s m args below meth c E true (sZ σ0) ad0 (MQ below (QV E true σ0 r2 ad0) args s 0 0 (AE E)) 5 0 0 σ' 4 [(0, .ref 81), (2, .int x2), (3, .int x3)] []) (h : mX12_operand_4B f4 x2 x3 σ = some r2) : G p l e (rmd 5 0 0) s m args below meth c E true (sZ σ0) ad0 (MQ below (QV E true σ0 r2 ad0) args s 0 0 (AE E)) 5 0 0 σ 4 [(0, .ref 81), (2, .int x2), (3, .int x3)] [] := by
  unfold mX12_operand_4B at h
  refine G_iload_n C 2 rfl rfl dX12_operand_4 ?_
  refine G_if_eq (tgt := 120) C rfl dX12_operand_5 (fun hc1 => ?_) (fun hc1 => ?_)
  · replace h := (if_pos hc1).symm.trans h
    refine G_sub [0] rfl ?_
    exact eX12_operand_120 C hr h
  · replace h := (if_neg hc1).symm.trans h
    refine G_aload_n C 0 rfl rfl dX12_operand_8 ?_
    refine G_callI (run_V C [] [] (dX12_isGood rfl) ml_X12_isGood mv_X12_isGood lk_X12_341 ⟨(Nat.le_of_ble_eq_true rfl), (Nat.le_of_ble_eq_true rfl)⟩ ⟨(Nat.le_of_ble_eq_true rfl), (Nat.le_of_ble_eq_true rfl)⟩ vq_11 rfl ko_81 rfl (Nat.le_of_ble_eq_true rfl) dX12_operand_9) ?_
    refine G_if_eq (tgt := 120) C rfl dX12_operand_12 (fun hc4 => ?_) (fun hc4 => ?_)
    · replace h := (if_pos hc4).symm.trans h
      refine G_sub [0] rfl ?_
      exact eX12_operand_120 C hr h
    · replace h := (if_neg hc4).symm.trans h
      refine G_iconst C (v := 0) rfl dX12_operand_15 ?_
      refine G_istore (L' := [(4, .int (0 : Int32)), (0, .ref 81), (2, .int x2), (3, .int x3)]) C (Nat.le_of_ble_eq_true rfl) rfl dX12_operand_16 ?_
      refine G_sub [1, 2, 0] rfl ?_
      exact eX12_operand_18 C hr hf4 h
set_option maxRecDepth 100000 in
set_option maxHeartbeats 4000000 in
theorem eX12_operand_4 (C : Cx E p s m args meth c cX12_operand 5 RX12) (hr : meth.sig.returnType = none) {σ0 : Sto} {r2 : Sto} {σ : Sto} {n : Nat} {x2 : Int32} {x3 : Int32} (h : mX12_operand_4 n x2 x3 σ = some r2) : G p l e (rmd 5 0 0) s m args below meth c E true (sZ σ0) ad0 (MQ below (QV E true σ0 r2 ad0) args s 0 0 (AE E)) 5 0 0 σ 4 [(0, .ref 81), (2, .int x2), (3, .int x3)] [] := by
  induction n generalizing x2 x3 σ with
  | zero => exact nomatch (show (none : Option Sto) = some r2 from h)
  | succ n ih => exact eX12_operand_4B C hr (fun z0 z1 σ9 h9 => ih h9) h
set_option maxRecDepth 100000 in
set_option maxHeartbeats 4000000 in
theorem dX12_operand {σ : Sto} {p0 : Int32} {r2 : Sto} (h : mX12_operand p0 σ = some r2) : MM l yX12_operand cX12_operand 5 none 5 0 0 E true σ [.ref 81, .int p0] (QV E true σ r2) := by
  unfold mX12_operand at h
  refine MM_of (by decide) (Nat.le_of_ble_eq_true rfl) rfl (fun p e s m args below meth c ad0 C hr hn => ?_)
  refine G_iload_n C 1 rfl rfl dX12_operand_0 ?_
  refine G_istore_n (L' := [(2, .int p0), (0, .ref 81), (1, .int p0)]) C rfl (Nat.le_of_ble_eq_true rfl) rfl dX12_operand_1 ?_
  refine G_iconst C (v := 1) rfl dX12_operand_2 ?_
  refine G_istore_n (L' := [(3, .int (1 : Int32)), (2, .int p0), (0, .ref 81), (1, .int p0)]) C rfl (Nat.le_of_ble_eq_true rfl) rfl dX12_operand_3 ?_
  refine G_sub [2, 1, 0] rfl ?_
  exact eX12_operand_4 C hr h
set_option maxRecDepth 100000 in
set_option maxHeartbeats 4000000 in
theorem eX12_expression_368 (C : Cx E p s m args meth c cX12_expression 4 RX12) (hr : meth.sig.returnType = (some .int)) {σ0 : Sto} {r1 : Int32} {r2 : Sto} {σ : Sto} {x1 : Int32} (h : mX12_expression_368 x1 σ = some (r1, r2)) : G p l e (rmd 6 0 0) s m args below meth c E true (sZ σ0) ad0 (MQ below (QI E true σ0 r1 r2 ad0) args s 0 0 (AE E)) 4 0 0 σ 368 [(0, .ref 81), (1, .int x1)] [] := by
  unfold mX12_expression_368 at h
  refine G_aload_n C 0 rfl rfl dX12_expression_368 ?_
  refine G_iconst C (v := 0) rfl dX12_expression_369 ?_
  obtain ⟨σ8, hv8, h⟩ := bnd h
  refine G_callV (run_V C [.int (0 : Int32)] [] (dX12_drops hv8) ml_X12_drops mv_X12_drops lk_X12_374 ⟨(Nat.le_of_ble_eq_true rfl), (Nat.le_of_ble_eq_true rfl)⟩ ⟨(Nat.le_of_ble_eq_true rfl), (Nat.le_of_ble_eq_true rfl)⟩ vq_11 rfl ko_81 rfl (Nat.le_of_ble_eq_true rfl) dX12_expression_370) ?_
  refine G_aload_n C 0 rfl rfl dX12_expression_373 ?_
  refine G_iconst C (v := 0) rfl dX12_expression_374 ?_
  obtain ⟨σ9, hv9, h⟩ := bnd h
  refine G_callV (run_V C [.int (0 : Int32)] [] (dX12_puts hv9) ml_X12_puts mv_X12_puts lk_X12_338 ⟨(Nat.le_of_ble_eq_true rfl), (Nat.le_of_ble_eq_true rfl)⟩ ⟨(Nat.le_of_ble_eq_true rfl), (Nat.le_of_ble_eq_true rfl)⟩ vq_11 rfl ko_81 rfl (Nat.le_of_ble_eq_true rfl) dX12_expression_375) ?_
  refine G_iload_n C 1 rfl rfl dX12_expression_378 ?_
  obtain ⟨rfl, rfl⟩ := some2 h
  exact G_iret C hr (Nat.le_of_ble_eq_true rfl) (Nat.le_of_ble_eq_true rfl) dX12_expression_379
set_option maxRecDepth 100000 in
set_option maxHeartbeats 4000000 in
theorem eX12_expression_348 (C : Cx E p s m args meth c cX12_expression 4 RX12) (hr : meth.sig.returnType = (some .int)) {σ0 : Sto} {r1 : Int32} {r2 : Sto} {σ : Sto} {x1 : Int32} (h : mX12_expression_348 x1 σ = some (r1, r2)) : G p l e (rmd 6 0 0) s m args below meth c E true (sZ σ0) ad0 (MQ below (QI E true σ0 r1 r2 ad0) args s 0 0 (AE E)) 4 0 0 σ 348 [(0, .ref 81), (1, .int x1)] [] := by
  unfold mX12_expression_348 at h
  refine G_aload_n C 0 rfl rfl dX12_expression_348 ?_
  refine G_callI (run_V C [] [] (dX12_isGood rfl) ml_X12_isGood mv_X12_isGood lk_X12_341 ⟨(Nat.le_of_ble_eq_true rfl), (Nat.le_of_ble_eq_true rfl)⟩ ⟨(Nat.le_of_ble_eq_true rfl), (Nat.le_of_ble_eq_true rfl)⟩ vq_11 rfl ko_81 rfl (Nat.le_of_ble_eq_true rfl) dX12_expression_349) ?_
  refine G_if_eq (tgt := 368) C rfl dX12_expression_352 (fun hc7 => ?_) (fun hc7 => ?_)
  · replace h := (if_pos hc7).symm.trans h
    exact eX12_expression_368 C hr h
  · replace h := (if_neg hc7).symm.trans h
    refine G_aload_n C 0 rfl rfl dX12_expression_355 ?_
    refine G_getI C fl_X12_355_11 (Or.inl rfl) ko_81 dX12_expression_356 ?_
    refine G_iconst C (v := 1) rfl dX12_expression_359 ?_
    refine G_icmp_le (tgt := 368) C rfl dX12_expression_360 (fun hc10 => ?_) (fun hc10 => ?_)
    · replace h := (if_pos hc10).symm.trans h
      exact eX12_expression_368 C hr h
    · replace h := (if_neg hc10).symm.trans h
      refine G_aload_n C 0 rfl rfl dX12_expression_363 ?_
      refine G_iconst C (v := 1) rfl dX12_expression_364 ?_
      obtain ⟨σ11, hv11, h⟩ := bnd h
      refine G_callV (run_V C [.int (1 : Int32)] [] (dX12_wrong hv11) ml_X12_wrong mv_X12_wrong lk_X12_345 ⟨(Nat.le_of_ble_eq_true rfl), (Nat.le_of_ble_eq_true rfl)⟩ ⟨(Nat.le_of_ble_eq_true rfl), (Nat.le_of_ble_eq_true rfl)⟩ vq_11 rfl ko_81 rfl (Nat.le_of_ble_eq_true rfl) dX12_expression_365) ?_
      exact eX12_expression_368 C hr h
set_option maxRecDepth 100000 in
set_option maxHeartbeats 4000000 in
theorem eX12_expression_81 (C : Cx E p s m args meth c cX12_expression 4 RX12) (hr : meth.sig.returnType = (some .int)) {σ0 : Sto} {r1 : Int32} {r2 : Sto} {σ : Sto} {f26 : Int32 → Int32 → Sto → Option (Int32 × Sto)} {x1 : Int32} {x2 : Int32} {y1 : Int32} (hf26 : ∀ (x1 : Int32) (x2 : Int32) (σ' : Sto), f26 x1 x2 σ' = some (r1, r2) → G p l e (rmd 6 0 0) s m args below meth c E true (sZ σ0) ad0 (MQ below (QI E true σ0 r1 r2 ad0) args s 0 0 (AE E)) 4 0 0 σ' 26 [(0, .ref 81), (1, .int x1), (2, .int x2)] []) (h : mX12_expression_81 f26 x1 x2 y1 σ = some (r1, r2)) : G p l e (rmd 6 0 0) s m args below meth c E true (sZ σ0) ad0 (MQ below (QI E true σ0 r1 r2 ad0) args s 0 0 (AE E)) 4 0 0 σ 81 [(0, .ref 81), (1, .int x1), (2, .int x2)] [.int y1, .ref 81] := by
  unfold mX12_expression_81 at h
  obtain ⟨σ19, hv19, h⟩ := bnd h
  refine G_callV (run_V C [.int y1] [] (dX12_waitsFor hv19) ml_X12_waitsFor mv_X12_waitsFor lk_X12_361 ⟨(Nat.le_of_ble_eq_true rfl), (Nat.le_of_ble_eq_true rfl)⟩ ⟨(Nat.le_of_ble_eq_true rfl), (Nat.le_of_ble_eq_true rfl)⟩ vq_11 rfl ko_81 rfl (Nat.le_of_ble_eq_true rfl) dX12_expression_81) ?_
  refine G_aload_n C 0 rfl rfl dX12_expression_84 ?_
  refine G_getF C fl_X12_153_11 rfl rfl fn_81_71 dX12_expression_85 ?_
  refine G_aload_n C 0 rfl rfl dX12_expression_88 ?_
  refine G_getI C fl_X12_355_11 (Or.inl rfl) ko_81 dX12_expression_89 ?_
  refine G_iconst C (v := 0) rfl dX12_expression_92 ?_
  obtain ⟨hc20, h⟩ := ifn h
  obtain ⟨σ21, hs21, h⟩ := stp_elim h
  refine G_zastore C ks_128 hc20 (by decide) dX12_expression_93 ?_
  rw [← hs21]
  refine G_aload_n C 0 rfl rfl dX12_expression_94 ?_
  obtain ⟨σ22, hv22, h⟩ := bnd h
  refine G_callV (run_V C [] [] (dX12_goes hv22) ml_X12_goes mv_X12_goes lk_X12_352 ⟨(Nat.le_of_ble_eq_true rfl), (Nat.le_of_ble_eq_true rfl)⟩ ⟨(Nat.le_of_ble_eq_true rfl), (Nat.le_of_ble_eq_true rfl)⟩ vq_11 rfl ko_81 rfl (Nat.le_of_ble_eq_true rfl) dX12_expression_95) ?_
  refine G_aload_n C 0 rfl rfl dX12_expression_98 ?_
  refine G_iconst C (v := 1) rfl dX12_expression_99 ?_
  obtain ⟨σ23, hv23, h⟩ := bnd h
  refine G_callV (run_V C [.int (1 : Int32)] [] (dX12_operand hv23) ml_X12_operand mv_X12_operand lk_X12_370 ⟨(Nat.le_of_ble_eq_true rfl), (Nat.le_of_ble_eq_true rfl)⟩ ⟨(Nat.le_of_ble_eq_true rfl), (Nat.le_of_ble_eq_true rfl)⟩ vq_11 rfl ko_81 rfl (Nat.le_of_ble_eq_true rfl) dX12_expression_100) ?_
  refine G_goto (tgt := 345) C rfl dX12_expression_103 ?_
  refine G_goto (tgt := 26) C rfl dX12_expression_345 ?_
  exact hf26 _ _ _ h
set_option maxRecDepth 100000 in
set_option maxHeartbeats 4000000 in
theorem eX12_expression_66 (C : Cx E p s m args meth c cX12_expression 4 RX12) (hr : meth.sig.returnType = (some .int)) {σ0 : Sto} {r1 : Int32} {r2 : Sto} {σ : Sto} {f26 : Int32 → Int32 → Sto → Option (Int32 × Sto)} {x1 : Int32} {x2 : Int32} {x3 : Int32} {y1 : Int32} (hf26 : ∀ (x1 : Int32) (x2 : Int32) (σ' : Sto), f26 x1 x2 σ' = some (r1, r2) → G p l e (rmd 6 0 0) s m args below meth c E true (sZ σ0) ad0 (MQ below (QI E true σ0 r1 r2 ad0) args s 0 0 (AE E)) 4 0 0 σ' 26 [(0, .ref 81), (1, .int x1), (2, .int x2)] []) (h : mX12_expression_66 f26 x1 x2 x3 y1 σ = some (r1, r2)) : G p l e (rmd 6 0 0) s m args below meth c E true (sZ σ0) ad0 (MQ below (QI E true σ0 r1 r2 ad0) args s 0 0 (AE E)) 4 0 0 σ 66 [(0, .ref 81), (1, .int x1), (2, .int x2), (3, .int x3)] [.int y1, .ref 81] := by
  unfold mX12_expression_66 at h
  obtain ⟨σ17, hv17, h⟩ := bnd h
  refine G_callV (run_V C [.int y1] [] (dX12_drops hv17) ml_X12_drops mv_X12_drops lk_X12_374 ⟨(Nat.le_of_ble_eq_true rfl), (Nat.le_of_ble_eq_true rfl)⟩ ⟨(Nat.le_of_ble_eq_true rfl), (Nat.le_of_ble_eq_true rfl)⟩ vq_11 rfl ko_81 rfl (Nat.le_of_ble_eq_true rfl) dX12_expression_66) ?_
  refine G_aload_n C 0 rfl rfl dX12_expression_69 ?_
  refine G_iload_n C 3 rfl rfl dX12_expression_70 ?_
  refine G_bipush C (v := 8) rfl dX12_expression_71 ?_
  refine G_icmp_ne (tgt := 80) C rfl dX12_expression_73 (fun hc18 => ?_) (fun hc18 => ?_)
  · replace h := (if_neg hc18).symm.trans h
    refine G_iconst C (v := 5) rfl dX12_expression_80 ?_
    refine G_sub [0, 1, 2] rfl ?_
    exact eX12_expression_81 C hr hf26 h
  · replace h := (if_pos hc18).symm.trans h
    refine G_iconst C (v := 4) rfl dX12_expression_76 ?_
    refine G_goto (tgt := 81) C rfl dX12_expression_77 ?_
    refine G_sub [0, 1, 2] rfl ?_
    exact eX12_expression_81 C hr hf26 h
set_option maxRecDepth 100000 in
set_option maxHeartbeats 4000000 in
theorem eX12_expression_54 (C : Cx E p s m args meth c cX12_expression 4 RX12) (hr : meth.sig.returnType = (some .int)) {σ0 : Sto} {r1 : Int32} {r2 : Sto} {σ : Sto} {f26 : Int32 → Int32 → Sto → Option (Int32 × Sto)} {x1 : Int32} {x2 : Int32} {x3 : Int32} (hf26 : ∀ (x1 : Int32) (x2 : Int32) (σ' : Sto), f26 x1 x2 σ' = some (r1, r2) → G p l e (rmd 6 0 0) s m args below meth c E true (sZ σ0) ad0 (MQ below (QI E true σ0 r1 r2 ad0) args s 0 0 (AE E)) 4 0 0 σ' 26 [(0, .ref 81), (1, .int x1), (2, .int x2)] []) (h : mX12_expression_54 f26 x1 x2 x3 σ = some (r1, r2)) : G p l e (rmd 6 0 0) s m args below meth c E true (sZ σ0) ad0 (MQ below (QI E true σ0 r1 r2 ad0) args s 0 0 (AE E)) 4 0 0 σ 54 [(0, .ref 81), (1, .int x1), (2, .int x2), (3, .int x3)] [] := by
  unfold mX12_expression_54 at h
  refine G_aload_n C 0 rfl rfl dX12_expression_54 ?_
  refine G_iload_n C 3 rfl rfl dX12_expression_55 ?_
  refine G_bipush C (v := 8) rfl dX12_expression_56 ?_
  refine G_icmp_ne (tgt := 65) C rfl dX12_expression_58 (fun hc16 => ?_) (fun hc16 => ?_)
  · replace h := (if_neg hc16).symm.trans h
    refine G_iconst C (v := 1) rfl dX12_expression_65 ?_
    exact eX12_expression_66 C hr hf26 h
  · replace h := (if_pos hc16).symm.trans h
    refine G_iconst C (v := 2) rfl dX12_expression_61 ?_
    refine G_goto (tgt := 66) C rfl dX12_expression_62 ?_
    exact eX12_expression_66 C hr hf26 h
set_option maxRecDepth 100000 in
set_option maxHeartbeats 4000000 in
theorem eX12_expression_223 (C : Cx E p s m args meth c cX12_expression 4 RX12) (hr : meth.sig.returnType = (some .int)) {σ0 : Sto} {r1 : Int32} {r2 : Sto} {σ : Sto} {f26 : Int32 → Int32 → Sto → Option (Int32 × Sto)} {x1 : Int32} {x2 : Int32} {y1 : Int32} (hf26 : ∀ (x1 : Int32) (x2 : Int32) (σ' : Sto), f26 x1 x2 σ' = some (r1, r2) → G p l e (rmd 6 0 0) s m args below meth c E true (sZ σ0) ad0 (MQ below (QI E true σ0 r1 r2 ad0) args s 0 0 (AE E)) 4 0 0 σ' 26 [(0, .ref 81), (1, .int x1), (2, .int x2)] []) (h : mX12_expression_223 f26 x1 x2 y1 σ = some (r1, r2)) : G p l e (rmd 6 0 0) s m args below meth c E true (sZ σ0) ad0 (MQ below (QI E true σ0 r1 r2 ad0) args s 0 0 (AE E)) 4 0 0 σ 223 [(0, .ref 81), (1, .int x1), (2, .int x2)] [.int y1, .ref 81] := by
  unfold mX12_expression_223 at h
  obtain ⟨σ34, hv34, h⟩ := bnd h
  refine G_callV (run_V C [.int y1] [] (dX12_waitsFor hv34) ml_X12_waitsFor mv_X12_waitsFor lk_X12_361 ⟨(Nat.le_of_ble_eq_true rfl), (Nat.le_of_ble_eq_true rfl)⟩ ⟨(Nat.le_of_ble_eq_true rfl), (Nat.le_of_ble_eq_true rfl)⟩ vq_11 rfl ko_81 rfl (Nat.le_of_ble_eq_true rfl) dX12_expression_223) ?_
  refine G_aload_n C 0 rfl rfl dX12_expression_226 ?_
  obtain ⟨σ35, hv35, h⟩ := bnd h
  refine G_callV (run_V C [] [] (dX12_goes hv35) ml_X12_goes mv_X12_goes lk_X12_352 ⟨(Nat.le_of_ble_eq_true rfl), (Nat.le_of_ble_eq_true rfl)⟩ ⟨(Nat.le_of_ble_eq_true rfl), (Nat.le_of_ble_eq_true rfl)⟩ vq_11 rfl ko_81 rfl (Nat.le_of_ble_eq_true rfl) dX12_expression_227) ?_
  refine G_aload_n C 0 rfl rfl dX12_expression_230 ?_
  refine G_iconst C (v := 0) rfl dX12_expression_231 ?_
  obtain ⟨σ36, hv36, h⟩ := bnd h
  refine G_callV (run_V C [.int (0 : Int32)] [] (dX12_operand hv36) ml_X12_operand mv_X12_operand lk_X12_370 ⟨(Nat.le_of_ble_eq_true rfl), (Nat.le_of_ble_eq_true rfl)⟩ ⟨(Nat.le_of_ble_eq_true rfl), (Nat.le_of_ble_eq_true rfl)⟩ vq_11 rfl ko_81 rfl (Nat.le_of_ble_eq_true rfl) dX12_expression_232) ?_
  refine G_goto (tgt := 345) C rfl dX12_expression_235 ?_
  refine G_goto (tgt := 26) C rfl dX12_expression_345 ?_
  exact hf26 _ _ _ h
set_option maxRecDepth 100000 in
set_option maxHeartbeats 4000000 in
theorem eX12_expression_201 (C : Cx E p s m args meth c cX12_expression 4 RX12) (hr : meth.sig.returnType = (some .int)) {σ0 : Sto} {r1 : Int32} {r2 : Sto} {σ : Sto} {f26 : Int32 → Int32 → Sto → Option (Int32 × Sto)} {x1 : Int32} {x2 : Int32} (hf26 : ∀ (x1 : Int32) (x2 : Int32) (σ' : Sto), f26 x1 x2 σ' = some (r1, r2) → G p l e (rmd 6 0 0) s m args below meth c E true (sZ σ0) ad0 (MQ below (QI E true σ0 r1 r2 ad0) args s 0 0 (AE E)) 4 0 0 σ' 26 [(0, .ref 81), (1, .int x1), (2, .int x2)] []) (h : mX12_expression_201 f26 x1 x2 σ = some (r1, r2)) : G p l e (rmd 6 0 0) s m args below meth c E true (sZ σ0) ad0 (MQ below (QI E true σ0 r1 r2 ad0) args s 0 0 (AE E)) 4 0 0 σ 201 [(0, .ref 81), (1, .int x1), (2, .int x2)] [] := by
  unfold mX12_expression_201 at h
  refine G_aload_n C 0 rfl rfl dX12_expression_201 ?_
  refine G_iconst C (v := 5) rfl dX12_expression_202 ?_
  obtain ⟨σ31, hv31, h⟩ := bnd h
  refine G_callV (run_V C [.int (5 : Int32)] [] (dX12_drops hv31) ml_X12_drops mv_X12_drops lk_X12_374 ⟨(Nat.le_of_ble_eq_true rfl), (Nat.le_of_ble_eq_true rfl)⟩ ⟨(Nat.le_of_ble_eq_true rfl), (Nat.le_of_ble_eq_true rfl)⟩ vq_11 rfl ko_81 rfl (Nat.le_of_ble_eq_true rfl) dX12_expression_203) ?_
  refine G_aload_n C 0 rfl rfl dX12_expression_206 ?_
  refine G_aload_n C 0 rfl rfl dX12_expression_207 ?_
  refine G_bipush C (v := 43) rfl dX12_expression_208 ?_
  refine G_callI (run_V C [.int (43 : Int32)] [.ref 81] (dX12_isSign rfl) ml_X12_isSign mv_X12_isSign lk_X12_358 ⟨(Nat.le_of_ble_eq_true rfl), (Nat.le_of_ble_eq_true rfl)⟩ ⟨(Nat.le_of_ble_eq_true rfl), (Nat.le_of_ble_eq_true rfl)⟩ vq_11 rfl ko_81 rfl (Nat.le_of_ble_eq_true rfl) dX12_expression_210) ?_
  refine G_if_eq (tgt := 221) C rfl dX12_expression_213 (fun hc33 => ?_) (fun hc33 => ?_)
  · replace h := (if_pos hc33).symm.trans h
    refine G_bipush C (v := 9) rfl dX12_expression_221 ?_
    exact eX12_expression_223 C hr hf26 h
  · replace h := (if_neg hc33).symm.trans h
    refine G_bipush C (v := 8) rfl dX12_expression_216 ?_
    refine G_goto (tgt := 223) C rfl dX12_expression_218 ?_
    exact eX12_expression_223 C hr hf26 h
set_option maxRecDepth 100000 in
set_option maxHeartbeats 4000000 in
theorem eX12_expression_279 (C : Cx E p s m args meth c cX12_expression 4 RX12) (hr : meth.sig.returnType = (some .int)) {σ0 : Sto} {r1 : Int32} {r2 : Sto} {σ : Sto} {f26 : Int32 → Int32 → Sto → Option (Int32 × Sto)} {x1 : Int32} {x2 : Int32} {y1 : Int32} (hf26 : ∀ (x1 : Int32) (x2 : Int32) (σ' : Sto), f26 x1 x2 σ' = some (r1, r2) → G p l e (rmd 6 0 0) s m args below meth c E true (sZ σ0) ad0 (MQ below (QI E true σ0 r1 r2 ad0) args s 0 0 (AE E)) 4 0 0 σ' 26 [(0, .ref 81), (1, .int x1), (2, .int x2)] []) (h : mX12_expression_279 f26 x1 x2 y1 σ = some (r1, r2)) : G p l e (rmd 6 0 0) s m args below meth c E true (sZ σ0) ad0 (MQ below (QI E true σ0 r1 r2 ad0) args s 0 0 (AE E)) 4 0 0 σ 279 [(0, .ref 81), (1, .int x1), (2, .int x2)] [.int y1, .ref 81] := by
  unfold mX12_expression_279 at h
  obtain ⟨σ44, hv44, h⟩ := bnd h
  refine G_callV (run_V C [.int y1] [] (dX12_waitsFor hv44) ml_X12_waitsFor mv_X12_waitsFor lk_X12_361 ⟨(Nat.le_of_ble_eq_true rfl), (Nat.le_of_ble_eq_true rfl)⟩ ⟨(Nat.le_of_ble_eq_true rfl), (Nat.le_of_ble_eq_true rfl)⟩ vq_11 rfl ko_81 rfl (Nat.le_of_ble_eq_true rfl) dX12_expression_279) ?_
  refine G_aload_n C 0 rfl rfl dX12_expression_282 ?_
  obtain ⟨σ45, hv45, h⟩ := bnd h
  refine G_callV (run_V C [] [] (dX12_goes hv45) ml_X12_goes mv_X12_goes lk_X12_352 ⟨(Nat.le_of_ble_eq_true rfl), (Nat.le_of_ble_eq_true rfl)⟩ ⟨(Nat.le_of_ble_eq_true rfl), (Nat.le_of_ble_eq_true rfl)⟩ vq_11 rfl ko_81 rfl (Nat.le_of_ble_eq_true rfl) dX12_expression_283) ?_
  refine G_aload_n C 0 rfl rfl dX12_expression_286 ?_
  refine G_iconst C (v := 0) rfl dX12_expression_287 ?_
  obtain ⟨σ46, hv46, h⟩ := bnd h
  refine G_callV (run_V C [.int (0 : Int32)] [] (dX12_operand hv46) ml_X12_operand mv_X12_operand lk_X12_370 ⟨(Nat.le_of_ble_eq_true rfl), (Nat.le_of_ble_eq_true rfl)⟩ ⟨(Nat.le_of_ble_eq_true rfl), (Nat.le_of_ble_eq_true rfl)⟩ vq_11 rfl ko_81 rfl (Nat.le_of_ble_eq_true rfl) dX12_expression_288) ?_
  refine G_goto (tgt := 345) C rfl dX12_expression_291 ?_
  refine G_goto (tgt := 26) C rfl dX12_expression_345 ?_
  exact hf26 _ _ _ h
set_option maxRecDepth 100000 in
set_option maxHeartbeats 4000000 in
theorem eX12_expression_256 (C : Cx E p s m args meth c cX12_expression 4 RX12) (hr : meth.sig.returnType = (some .int)) {σ0 : Sto} {r1 : Int32} {r2 : Sto} {σ : Sto} {f26 : Int32 → Int32 → Sto → Option (Int32 × Sto)} {x1 : Int32} {x2 : Int32} (hf26 : ∀ (x1 : Int32) (x2 : Int32) (σ' : Sto), f26 x1 x2 σ' = some (r1, r2) → G p l e (rmd 6 0 0) s m args below meth c E true (sZ σ0) ad0 (MQ below (QI E true σ0 r1 r2 ad0) args s 0 0 (AE E)) 4 0 0 σ' 26 [(0, .ref 81), (1, .int x1), (2, .int x2)] []) (h : mX12_expression_256 f26 x1 x2 σ = some (r1, r2)) : G p l e (rmd 6 0 0) s m args below meth c E true (sZ σ0) ad0 (MQ below (QI E true σ0 r1 r2 ad0) args s 0 0 (AE E)) 4 0 0 σ 256 [(0, .ref 81), (1, .int x1), (2, .int x2)] [] := by
  unfold mX12_expression_256 at h
  refine G_aload_n C 0 rfl rfl dX12_expression_256 ?_
  refine G_bipush C (v := 6) rfl dX12_expression_257 ?_
  obtain ⟨σ41, hv41, h⟩ := bnd h
  refine G_callV (run_V C [.int (6 : Int32)] [] (dX12_drops hv41) ml_X12_drops mv_X12_drops lk_X12_374 ⟨(Nat.le_of_ble_eq_true rfl), (Nat.le_of_ble_eq_true rfl)⟩ ⟨(Nat.le_of_ble_eq_true rfl), (Nat.le_of_ble_eq_true rfl)⟩ vq_11 rfl ko_81 rfl (Nat.le_of_ble_eq_true rfl) dX12_expression_259) ?_
  refine G_aload_n C 0 rfl rfl dX12_expression_262 ?_
  refine G_aload_n C 0 rfl rfl dX12_expression_263 ?_
  refine G_bipush C (v := 42) rfl dX12_expression_264 ?_
  refine G_callI (run_V C [.int (42 : Int32)] [.ref 81] (dX12_isSign rfl) ml_X12_isSign mv_X12_isSign lk_X12_358 ⟨(Nat.le_of_ble_eq_true rfl), (Nat.le_of_ble_eq_true rfl)⟩ ⟨(Nat.le_of_ble_eq_true rfl), (Nat.le_of_ble_eq_true rfl)⟩ vq_11 rfl ko_81 rfl (Nat.le_of_ble_eq_true rfl) dX12_expression_266) ?_
  refine G_if_eq (tgt := 277) C rfl dX12_expression_269 (fun hc43 => ?_) (fun hc43 => ?_)
  · replace h := (if_pos hc43).symm.trans h
    refine G_bipush C (v := 11) rfl dX12_expression_277 ?_
    exact eX12_expression_279 C hr hf26 h
  · replace h := (if_neg hc43).symm.trans h
    refine G_bipush C (v := 10) rfl dX12_expression_272 ?_
    refine G_goto (tgt := 279) C rfl dX12_expression_274 ?_
    exact eX12_expression_279 C hr hf26 h
set_option maxRecDepth 100000 in
set_option maxHeartbeats 4000000 in
theorem eX12_expression_183 (C : Cx E p s m args meth c cX12_expression 4 RX12) (hr : meth.sig.returnType = (some .int)) {σ0 : Sto} {r1 : Int32} {r2 : Sto} {σ : Sto} {f26 : Int32 → Int32 → Sto → Option (Int32 × Sto)} {x1 : Int32} {x2 : Int32} (hf26 : ∀ (x1 : Int32) (x2 : Int32) (σ' : Sto), f26 x1 x2 σ' = some (r1, r2) → G p l e (rmd 6 0 0) s m args below meth c E true (sZ σ0) ad0 (MQ below (QI E true σ0 r1 r2 ad0) args s 0 0 (AE E)) 4 0 0 σ' 26 [(0, .ref 81), (1, .int x1), (2, .int x2)] []) (h : mX12_expression_183 f26 x1 x2 σ = some (r1, r2)) : G p l e (rmd 6 0 0) s m args below meth c E true (sZ σ0) ad0 (MQ below (QI E true σ0 r1 r2 ad0) args s 0 0 (AE E)) 4 0 0 σ 183 [(0, .ref 81), (1, .int x1), (2, .int x2)] [] := by
  unfold mX12_expression_183 at h
  refine G_aload_n C 0 rfl rfl dX12_expression_183 ?_
  refine G_bipush C (v := 43) rfl dX12_expression_184 ?_
  refine G_callI (run_V C [.int (43 : Int32)] [] (dX12_isSign rfl) ml_X12_isSign mv_X12_isSign lk_X12_358 ⟨(Nat.le_of_ble_eq_true rfl), (Nat.le_of_ble_eq_true rfl)⟩ ⟨(Nat.le_of_ble_eq_true rfl), (Nat.le_of_ble_eq_true rfl)⟩ vq_11 rfl ko_81 rfl (Nat.le_of_ble_eq_true rfl) dX12_expression_186) ?_
  refine G_if_ne (tgt := 201) C rfl dX12_expression_189 (fun hc30 => ?_) (fun hc30 => ?_)
  · replace h := (if_neg hc30).symm.trans h
    exact eX12_expression_201 C hr hf26 h
  · replace h := (if_pos hc30).symm.trans h
    refine G_aload_n C 0 rfl rfl dX12_expression_192 ?_
    refine G_bipush C (v := 45) rfl dX12_expression_193 ?_
    refine G_callI (run_V C [.int (45 : Int32)] [] (dX12_isSign rfl) ml_X12_isSign mv_X12_isSign lk_X12_358 ⟨(Nat.le_of_ble_eq_true rfl), (Nat.le_of_ble_eq_true rfl)⟩ ⟨(Nat.le_of_ble_eq_true rfl), (Nat.le_of_ble_eq_true rfl)⟩ vq_11 rfl ko_81 rfl (Nat.le_of_ble_eq_true rfl) dX12_expression_195) ?_
    refine G_if_eq (tgt := 238) C rfl dX12_expression_198 (fun hc38 => ?_) (fun hc38 => ?_)
    · replace h := (if_pos hc38).symm.trans h
      refine G_aload_n C 0 rfl rfl dX12_expression_238 ?_
      refine G_bipush C (v := 42) rfl dX12_expression_239 ?_
      refine G_callI (run_V C [.int (42 : Int32)] [] (dX12_isSign rfl) ml_X12_isSign mv_X12_isSign lk_X12_358 ⟨(Nat.le_of_ble_eq_true rfl), (Nat.le_of_ble_eq_true rfl)⟩ ⟨(Nat.le_of_ble_eq_true rfl), (Nat.le_of_ble_eq_true rfl)⟩ vq_11 rfl ko_81 rfl (Nat.le_of_ble_eq_true rfl) dX12_expression_241) ?_
      refine G_if_ne (tgt := 256) C rfl dX12_expression_244 (fun hc40 => ?_) (fun hc40 => ?_)
      · replace h := (if_neg hc40).symm.trans h
        exact eX12_expression_256 C hr hf26 h
      · replace h := (if_pos hc40).symm.trans h
        refine G_aload_n C 0 rfl rfl dX12_expression_247 ?_
        refine G_bipush C (v := 47) rfl dX12_expression_248 ?_
        refine G_callI (run_V C [.int (47 : Int32)] [] (dX12_isSign rfl) ml_X12_isSign mv_X12_isSign lk_X12_358 ⟨(Nat.le_of_ble_eq_true rfl), (Nat.le_of_ble_eq_true rfl)⟩ ⟨(Nat.le_of_ble_eq_true rfl), (Nat.le_of_ble_eq_true rfl)⟩ vq_11 rfl ko_81 rfl (Nat.le_of_ble_eq_true rfl) dX12_expression_250) ?_
        refine G_if_eq (tgt := 294) C rfl dX12_expression_253 (fun hc48 => ?_) (fun hc48 => ?_)
        · replace h := (if_pos hc48).symm.trans h
          refine G_aload_n C 0 rfl rfl dX12_expression_294 ?_
          refine G_bipush C (v := 41) rfl dX12_expression_295 ?_
          refine G_callI (run_V C [.int (41 : Int32)] [] (dX12_isSign rfl) ml_X12_isSign mv_X12_isSign lk_X12_358 ⟨(Nat.le_of_ble_eq_true rfl), (Nat.le_of_ble_eq_true rfl)⟩ ⟨(Nat.le_of_ble_eq_true rfl), (Nat.le_of_ble_eq_true rfl)⟩ vq_11 rfl ko_81 rfl (Nat.le_of_ble_eq_true rfl) dX12_expression_297) ?_
          refine G_if_eq (tgt := 343) C rfl dX12_expression_300 (fun hc50 => ?_) (fun hc50 => ?_)
          · replace h := (if_pos hc50).symm.trans h
            refine G_iconst C (v := 0) rfl dX12_expression_343 ?_
            refine G_istore_n (L' := [(2, .int (0 : Int32)), (0, .ref 81), (1, .int x1)]) C rfl (Nat.le_of_ble_eq_true rfl) rfl dX12_expression_344 ?_
            refine G_goto (tgt := 26) C rfl dX12_expression_345 ?_
            refine G_sub [1, 2, 0] rfl ?_
            exact hf26 _ _ _ h
          · replace h := (if_neg hc50).symm.trans h
            refine G_aload_n C 0 rfl rfl dX12_expression_303 ?_
            refine G_getI C fl_X12_355_11 (Or.inl rfl) ko_81 dX12_expression_304 ?_
            refine G_iconst C (v := 1) rfl dX12_expression_307 ?_
            refine G_icmp_le (tgt := 343) C rfl dX12_expression_308 (fun hc51 => ?_) (fun hc51 => ?_)
            · replace h := (if_pos hc51).symm.trans h
              refine G_iconst C (v := 0) rfl dX12_expression_343 ?_
              refine G_istore_n (L' := [(2, .int (0 : Int32)), (0, .ref 81), (1, .int x1)]) C rfl (Nat.le_of_ble_eq_true rfl) rfl dX12_expression_344 ?_
              refine G_goto (tgt := 26) C rfl dX12_expression_345 ?_
              refine G_sub [1, 2, 0] rfl ?_
              exact hf26 _ _ _ h
            · replace h := (if_neg hc51).symm.trans h
              refine G_aload_n C 0 rfl rfl dX12_expression_311 ?_
              refine G_iconst C (v := 0) rfl dX12_expression_312 ?_
              obtain ⟨σ52, hv52, h⟩ := bnd h
              refine G_callV (run_V C [.int (0 : Int32)] [] (dX12_drops hv52) ml_X12_drops mv_X12_drops lk_X12_374 ⟨(Nat.le_of_ble_eq_true rfl), (Nat.le_of_ble_eq_true rfl)⟩ ⟨(Nat.le_of_ble_eq_true rfl), (Nat.le_of_ble_eq_true rfl)⟩ vq_11 rfl ko_81 rfl (Nat.le_of_ble_eq_true rfl) dX12_expression_313) ?_
              refine G_aload_n C 0 rfl rfl dX12_expression_316 ?_
              refine G_dup C rfl dX12_expression_317 ?_
              refine G_getI C fl_X12_332_11 (Or.inl rfl) ko_81 dX12_expression_318 ?_
              refine G_iconst C (v := 1) rfl dX12_expression_321 ?_
              refine G_isub C dX12_expression_322 ?_
              obtain ⟨σ53, hs53, h⟩ := stp_elim h
              refine G_putI C fl_X12_332_11 fp_X12_11_52 (Or.inl rfl) (Or.inl rfl) ko_81 dX12_expression_323 ?_
              rw [← hs53]
              refine G_aload_n C 0 rfl rfl dX12_expression_326 ?_
              refine G_dup C rfl dX12_expression_327 ?_
              refine G_getI C fl_X12_355_11 (Or.inl rfl) ko_81 dX12_expression_328 ?_
              refine G_iconst C (v := 1) rfl dX12_expression_331 ?_
              refine G_isub C dX12_expression_332 ?_
              obtain ⟨σ54, hs54, h⟩ := stp_elim h
              refine G_putI C fl_X12_355_11 fp_X12_11_53 (Or.inl rfl) (Or.inl rfl) ko_81 dX12_expression_333 ?_
              rw [← hs54]
              refine G_aload_n C 0 rfl rfl dX12_expression_336 ?_
              obtain ⟨σ55, hv55, h⟩ := bnd h
              refine G_callV (run_V C [] [] (dX12_goes hv55) ml_X12_goes mv_X12_goes lk_X12_352 ⟨(Nat.le_of_ble_eq_true rfl), (Nat.le_of_ble_eq_true rfl)⟩ ⟨(Nat.le_of_ble_eq_true rfl), (Nat.le_of_ble_eq_true rfl)⟩ vq_11 rfl ko_81 rfl (Nat.le_of_ble_eq_true rfl) dX12_expression_337) ?_
              refine G_goto (tgt := 345) C rfl dX12_expression_340 ?_
              refine G_goto (tgt := 26) C rfl dX12_expression_345 ?_
              exact hf26 _ _ _ h
        · replace h := (if_neg hc48).symm.trans h
          exact eX12_expression_256 C hr hf26 h
    · replace h := (if_neg hc38).symm.trans h
      exact eX12_expression_201 C hr hf26 h
set_option maxRecDepth 100000 in
set_option maxHeartbeats 4000000 in
theorem eX12_expression_158 (C : Cx E p s m args meth c cX12_expression 4 RX12) (hr : meth.sig.returnType = (some .int)) {σ0 : Sto} {r1 : Int32} {r2 : Sto} {σ : Sto} {f26 : Int32 → Int32 → Sto → Option (Int32 × Sto)} {x1 : Int32} {x2 : Int32} {y1 : Int32} (hf26 : ∀ (x1 : Int32) (x2 : Int32) (σ' : Sto), f26 x1 x2 σ' = some (r1, r2) → G p l e (rmd 6 0 0) s m args below meth c E true (sZ σ0) ad0 (MQ below (QI E true σ0 r1 r2 ad0) args s 0 0 (AE E)) 4 0 0 σ' 26 [(0, .ref 81), (1, .int x1), (2, .int x2)] []) (h : mX12_expression_158 f26 x1 x2 y1 σ = some (r1, r2)) : G p l e (rmd 6 0 0) s m args below meth c E true (sZ σ0) ad0 (MQ below (QI E true σ0 r1 r2 ad0) args s 0 0 (AE E)) 4 0 0 σ 158 [(0, .ref 81), (1, .int x1), (2, .int x2)] [.int y1, .ref 81] := by
  unfold mX12_expression_158 at h
  obtain ⟨σ59, hv59, h⟩ := bnd h
  refine G_callV (run_V C [.int y1] [] (dX12_waitsFor hv59) ml_X12_waitsFor mv_X12_waitsFor lk_X12_361 ⟨(Nat.le_of_ble_eq_true rfl), (Nat.le_of_ble_eq_true rfl)⟩ ⟨(Nat.le_of_ble_eq_true rfl), (Nat.le_of_ble_eq_true rfl)⟩ vq_11 rfl ko_81 rfl (Nat.le_of_ble_eq_true rfl) dX12_expression_158) ?_
  refine G_aload_n C 0 rfl rfl dX12_expression_161 ?_
  refine G_getF C fl_X12_153_11 rfl rfl fn_81_71 dX12_expression_162 ?_
  refine G_aload_n C 0 rfl rfl dX12_expression_165 ?_
  refine G_getI C fl_X12_355_11 (Or.inl rfl) ko_81 dX12_expression_166 ?_
  refine G_iconst C (v := 1) rfl dX12_expression_169 ?_
  obtain ⟨hc60, h⟩ := ifn h
  obtain ⟨σ61, hs61, h⟩ := stp_elim h
  refine G_zastore C ks_128 hc60 (by decide) dX12_expression_170 ?_
  rw [← hs61]
  refine G_aload_n C 0 rfl rfl dX12_expression_171 ?_
  obtain ⟨σ62, hv62, h⟩ := bnd h
  refine G_callV (run_V C [] [] (dX12_goes hv62) ml_X12_goes mv_X12_goes lk_X12_352 ⟨(Nat.le_of_ble_eq_true rfl), (Nat.le_of_ble_eq_true rfl)⟩ ⟨(Nat.le_of_ble_eq_true rfl), (Nat.le_of_ble_eq_true rfl)⟩ vq_11 rfl ko_81 rfl (Nat.le_of_ble_eq_true rfl) dX12_expression_172) ?_
  refine G_aload_n C 0 rfl rfl dX12_expression_175 ?_
  refine G_iconst C (v := 0) rfl dX12_expression_176 ?_
  obtain ⟨σ63, hv63, h⟩ := bnd h
  refine G_callV (run_V C [.int (0 : Int32)] [] (dX12_operand hv63) ml_X12_operand mv_X12_operand lk_X12_370 ⟨(Nat.le_of_ble_eq_true rfl), (Nat.le_of_ble_eq_true rfl)⟩ ⟨(Nat.le_of_ble_eq_true rfl), (Nat.le_of_ble_eq_true rfl)⟩ vq_11 rfl ko_81 rfl (Nat.le_of_ble_eq_true rfl) dX12_expression_177) ?_
  refine G_goto (tgt := 345) C rfl dX12_expression_180 ?_
  refine G_goto (tgt := 26) C rfl dX12_expression_345 ?_
  exact hf26 _ _ _ h
set_option maxRecDepth 100000 in
set_option maxHeartbeats 4000000 in
theorem eX12_expression_124 (C : Cx E p s m args meth c cX12_expression 4 RX12) (hr : meth.sig.returnType = (some .int)) {σ0 : Sto} {r1 : Int32} {r2 : Sto} {σ : Sto} {f26 : Int32 → Int32 → Sto → Option (Int32 × Sto)} {x1 : Int32} {x2 : Int32} (hf26 : ∀ (x1 : Int32) (x2 : Int32) (σ' : Sto), f26 x1 x2 σ' = some (r1, r2) → G p l e (rmd 6 0 0) s m args below meth c E true (sZ σ0) ad0 (MQ below (QI E true σ0 r1 r2 ad0) args s 0 0 (AE E)) 4 0 0 σ' 26 [(0, .ref 81), (1, .int x1), (2, .int x2)] []) (h : mX12_expression_124 f26 x1 x2 σ = some (r1, r2)) : G p l e (rmd 6 0 0) s m args below meth c E true (sZ σ0) ad0 (MQ below (QI E true σ0 r1 r2 ad0) args s 0 0 (AE E)) 4 0 0 σ 124 [(0, .ref 81), (1, .int x1), (2, .int x2)] [] := by
  unfold mX12_expression_124 at h
  refine G_aload_n C 0 rfl rfl dX12_expression_124 ?_
  refine G_getF C fl_X12_153_11 rfl rfl fn_81_71 dX12_expression_125 ?_
  refine G_aload_n C 0 rfl rfl dX12_expression_128 ?_
  refine G_getI C fl_X12_355_11 (Or.inl rfl) ko_81 dX12_expression_129 ?_
  obtain ⟨hc27, h⟩ := ifn h
  refine G_zaload C ks_128 hc27 dX12_expression_132 ?_
  refine G_if_ne (tgt := 183) C rfl dX12_expression_133 (fun hc28 => ?_) (fun hc28 => ?_)
  · replace h := (if_neg hc28).symm.trans h
    exact eX12_expression_183 C hr hf26 h
  · replace h := (if_pos hc28).symm.trans h
    refine G_aload_n C 0 rfl rfl dX12_expression_136 ?_
    refine G_iconst C (v := 4) rfl dX12_expression_137 ?_
    obtain ⟨σ56, hv56, h⟩ := bnd h
    refine G_callV (run_V C [.int (4 : Int32)] [] (dX12_drops hv56) ml_X12_drops mv_X12_drops lk_X12_374 ⟨(Nat.le_of_ble_eq_true rfl), (Nat.le_of_ble_eq_true rfl)⟩ ⟨(Nat.le_of_ble_eq_true rfl), (Nat.le_of_ble_eq_true rfl)⟩ vq_11 rfl ko_81 rfl (Nat.le_of_ble_eq_true rfl) dX12_expression_138) ?_
    refine G_aload_n C 0 rfl rfl dX12_expression_141 ?_
    refine G_aload_n C 0 rfl rfl dX12_expression_142 ?_
    refine G_bipush C (v := 60) rfl dX12_expression_143 ?_
    refine G_callI (run_V C [.int (60 : Int32)] [.ref 81] (dX12_isSign rfl) ml_X12_isSign mv_X12_isSign lk_X12_358 ⟨(Nat.le_of_ble_eq_true rfl), (Nat.le_of_ble_eq_true rfl)⟩ ⟨(Nat.le_of_ble_eq_true rfl), (Nat.le_of_ble_eq_true rfl)⟩ vq_11 rfl ko_81 rfl (Nat.le_of_ble_eq_true rfl) dX12_expression_145) ?_
    refine G_if_eq (tgt := 156) C rfl dX12_expression_148 (fun hc58 => ?_) (fun hc58 => ?_)
    · replace h := (if_pos hc58).symm.trans h
      refine G_bipush C (v := 7) rfl dX12_expression_156 ?_
      exact eX12_expression_158 C hr hf26 h
    · replace h := (if_neg hc58).symm.trans h
      refine G_bipush C (v := 6) rfl dX12_expression_151 ?_
      refine G_goto (tgt := 158) C rfl dX12_expression_153 ?_
      exact eX12_expression_158 C hr hf26 h
set_option maxRecDepth 100000 in
set_option maxHeartbeats 4000000 in
theorem eX12_expression_26B (C : Cx E p s m args meth c cX12_expression 4 RX12) (hr : meth.sig.returnType = (some .int)) {σ0 : Sto} {r1 : Int32} {r2 : Sto} {σ : Sto} {f26 : Int32 → Int32 → Sto → Option (Int32 × Sto)} {x1 : Int32} {x2 : Int32} (hf26 : ∀ (x1 : Int32) (x2 : Int32) (σ' : Sto), f26 x1 x2 σ' = some (r1, r2) → G p l e (rmd 6 0 0) s m args below meth c E true (sZ σ0) ad0 (MQ below (QI E true σ0 r1 r2 ad0) args s 0 0 (AE E)) 4 0 0 σ' 26 [(0, .ref 81), (1, .int x1), (2, .int x2)] []) (h : mX12_expression_26B f26 x1 x2 σ = some (r1, r2)) : G p l e (rmd 6 0 0) s m args below meth c E true (sZ σ0) ad0 (MQ below (QI E true σ0 r1 r2 ad0) args s 0 0 (AE E)) 4 0 0 σ 26 [(0, .ref 81), (1, .int x1), (2, .int x2)] [] := by
  unfold mX12_expression_26B at h
  refine G_iload_n C 2 rfl rfl dX12_expression_26 ?_
  refine G_if_eq (tgt := 348) C rfl dX12_expression_27 (fun hc5 => ?_) (fun hc5 => ?_)
  · replace h := (if_pos hc5).symm.trans h
    refine G_sub [0, 1] rfl ?_
    exact eX12_expression_348 C hr h
  · replace h := (if_neg hc5).symm.trans h
    refine G_aload_n C 0 rfl rfl dX12_expression_30 ?_
    refine G_callI (run_V C [] [] (dX12_isGood rfl) ml_X12_isGood mv_X12_isGood lk_X12_341 ⟨(Nat.le_of_ble_eq_true rfl), (Nat.le_of_ble_eq_true rfl)⟩ ⟨(Nat.le_of_ble_eq_true rfl), (Nat.le_of_ble_eq_true rfl)⟩ vq_11 rfl ko_81 rfl (Nat.le_of_ble_eq_true rfl) dX12_expression_31) ?_
    refine G_if_eq (tgt := 348) C rfl dX12_expression_34 (fun hc13 => ?_) (fun hc13 => ?_)
    · replace h := (if_pos hc13).symm.trans h
      refine G_sub [0, 1] rfl ?_
      exact eX12_expression_348 C hr h
    · replace h := (if_neg hc13).symm.trans h
      refine G_aload_n C 0 rfl rfl dX12_expression_37 ?_
      obtain ⟨v14, hv14, h⟩ := bnd h
      refine G_callI (run_V C [] [] (dX12_knownWord hv14) ml_X12_knownWord mv_X12_knownWord lk_X12_348 ⟨(Nat.le_of_ble_eq_true rfl), (Nat.le_of_ble_eq_true rfl)⟩ ⟨(Nat.le_of_ble_eq_true rfl), (Nat.le_of_ble_eq_true rfl)⟩ vq_11 rfl ko_81 rfl (Nat.le_of_ble_eq_true rfl) dX12_expression_38) ?_
      refine G_istore_n (L' := [(3, .int v14), (0, .ref 81), (1, .int x1), (2, .int x2)]) C rfl (Nat.le_of_ble_eq_true rfl) rfl dX12_expression_41 ?_
      refine G_iload_n C 0 rfl rfl dX12_expression_42 ?_
      refine G_bipush C (v := 8) rfl dX12_expression_43 ?_
      refine G_icmp_eq (tgt := 54) C rfl dX12_expression_45 (fun hc15 => ?_) (fun hc15 => ?_)
      · replace h := (if_pos hc15).symm.trans h
        refine G_sub [1, 2, 3, 0] rfl ?_
        exact eX12_expression_54 C hr hf26 h
      · replace h := (if_neg hc15).symm.trans h
        refine G_iload_n C 0 rfl rfl dX12_expression_48 ?_
        refine G_bipush C (v := 9) rfl dX12_expression_49 ?_
        refine G_icmp_ne (tgt := 106) C rfl dX12_expression_51 (fun hc24 => ?_) (fun hc24 => ?_)
        · replace h := (if_neg hc24).symm.trans h
          refine G_aload_n C 1 rfl rfl dX12_expression_106 ?_
          refine G_bipush C (v := 60) rfl dX12_expression_107 ?_
          refine G_callI (run_V C [.int (60 : Int32)] [] (dX12_isSign rfl) ml_X12_isSign mv_X12_isSign lk_X12_358 ⟨(Nat.le_of_ble_eq_true rfl), (Nat.le_of_ble_eq_true rfl)⟩ ⟨(Nat.le_of_ble_eq_true rfl), (Nat.le_of_ble_eq_true rfl)⟩ vq_11 rfl ko_81 rfl (Nat.le_of_ble_eq_true rfl) dX12_expression_109) ?_
          refine G_if_ne (tgt := 124) C rfl dX12_expression_112 (fun hc26 => ?_) (fun hc26 => ?_)
          · replace h := (if_neg hc26).symm.trans h
            refine G_sub [1, 2, 3] rfl ?_
            exact eX12_expression_124 C hr hf26 h
          · replace h := (if_pos hc26).symm.trans h
            refine G_aload_n C 1 rfl rfl dX12_expression_115 ?_
            refine G_bipush C (v := 61) rfl dX12_expression_116 ?_
            refine G_callI (run_V C [.int (61 : Int32)] [] (dX12_isSign rfl) ml_X12_isSign mv_X12_isSign lk_X12_358 ⟨(Nat.le_of_ble_eq_true rfl), (Nat.le_of_ble_eq_true rfl)⟩ ⟨(Nat.le_of_ble_eq_true rfl), (Nat.le_of_ble_eq_true rfl)⟩ vq_11 rfl ko_81 rfl (Nat.le_of_ble_eq_true rfl) dX12_expression_118) ?_
            refine G_if_eq (tgt := 183) C rfl dX12_expression_121 (fun hc65 => ?_) (fun hc65 => ?_)
            · replace h := (if_pos hc65).symm.trans h
              refine G_sub [1, 2, 3] rfl ?_
              exact eX12_expression_183 C hr hf26 h
            · replace h := (if_neg hc65).symm.trans h
              refine G_sub [1, 2, 3] rfl ?_
              exact eX12_expression_124 C hr hf26 h
        · replace h := (if_pos hc24).symm.trans h
          refine G_sub [1, 2, 3, 0] rfl ?_
          exact eX12_expression_54 C hr hf26 h
set_option maxRecDepth 100000 in
set_option maxHeartbeats 4000000 in
theorem eX12_expression_26 (C : Cx E p s m args meth c cX12_expression 4 RX12) (hr : meth.sig.returnType = (some .int)) {σ0 : Sto} {r1 : Int32} {r2 : Sto} {σ : Sto} {n : Nat} {x1 : Int32} {x2 : Int32} (h : mX12_expression_26 n x1 x2 σ = some (r1, r2)) : G p l e (rmd 6 0 0) s m args below meth c E true (sZ σ0) ad0 (MQ below (QI E true σ0 r1 r2 ad0) args s 0 0 (AE E)) 4 0 0 σ 26 [(0, .ref 81), (1, .int x1), (2, .int x2)] [] := by
  induction n generalizing x1 x2 σ with
  | zero => exact nomatch (show (none : Option (Int32 × Sto)) = some (r1, r2) from h)
  | succ n ih => exact eX12_expression_26B C hr (fun z0 z1 σ9 h9 => ih h9) h
set_option maxRecDepth 100000 in
set_option maxHeartbeats 4000000 in
theorem dX12_expression {σ : Sto} {r1 : Int32} {r2 : Sto} (h : mX12_expression σ = some (r1, r2)) : MM l yX12_expression cX12_expression 4 (some .int) 6 0 0 E true σ [.ref 81] (QI E true σ r1 r2) := by
  unfold mX12_expression at h
  refine MM_of (by decide) (Nat.le_of_ble_eq_true rfl) rfl (fun p e s m args below meth c ad0 C hr hn => ?_)
  refine G_aload_n C 0 rfl rfl dX12_expression_0 ?_
  refine G_getI C fl_X12_329_11 (Or.inl rfl) ko_81 dX12_expression_1 ?_
  refine G_istore_n (L' := [(1, .int (sI σ 81 51)), (0, .ref 81)]) C rfl (Nat.le_of_ble_eq_true rfl) rfl dX12_expression_4 ?_
  refine G_aload_n C 1 rfl rfl dX12_expression_5 ?_
  refine G_iconst C (v := 0) rfl dX12_expression_6 ?_
  obtain ⟨σ1, hs1, h⟩ := stp_elim h
  refine G_putI C fl_X12_332_11 fp_X12_11_52 (Or.inl rfl) (Or.inl rfl) ko_81 dX12_expression_7 ?_
  rw [← hs1]
  refine G_aload_n C 1 rfl rfl dX12_expression_10 ?_
  refine G_iconst C (v := 0) rfl dX12_expression_11 ?_
  obtain ⟨σ2, hs2, h⟩ := stp_elim h
  refine G_putI C fl_X12_355_11 fp_X12_11_53 (Or.inl rfl) (Or.inl rfl) ko_81 dX12_expression_12 ?_
  rw [← hs2]
  refine G_aload_n C 1 rfl rfl dX12_expression_15 ?_
  obtain ⟨σ3, hv3, h⟩ := bnd h
  refine G_callV (run_V C [] [] (dX12_begins hv3) ml_X12_begins mv_X12_begins lk_X12_364 ⟨(Nat.le_of_ble_eq_true rfl), (Nat.le_of_ble_eq_true rfl)⟩ ⟨(Nat.le_of_ble_eq_true rfl), (Nat.le_of_ble_eq_true rfl)⟩ vq_11 rfl ko_81 rfl (Nat.le_of_ble_eq_true rfl) dX12_expression_16) ?_
  refine G_aload_n C 1 rfl rfl dX12_expression_19 ?_
  refine G_iconst C (v := 1) rfl dX12_expression_20 ?_
  obtain ⟨σ4, hv4, h⟩ := bnd h
  refine G_callV (run_V C [.int (1 : Int32)] [] (dX12_operand hv4) ml_X12_operand mv_X12_operand lk_X12_370 ⟨(Nat.le_of_ble_eq_true rfl), (Nat.le_of_ble_eq_true rfl)⟩ ⟨(Nat.le_of_ble_eq_true rfl), (Nat.le_of_ble_eq_true rfl)⟩ vq_11 rfl ko_81 rfl (Nat.le_of_ble_eq_true rfl) dX12_expression_21) ?_
  refine G_iconst C (v := 1) rfl dX12_expression_24 ?_
  refine G_istore_n (L' := [(2, .int (1 : Int32)), (1, .int (sI σ 81 51)), (0, .ref 81)]) C rfl (Nat.le_of_ble_eq_true rfl) rfl dX12_expression_25 ?_
  refine G_sub [2, 1, 0] rfl ?_
  exact eX12_expression_26 C hr h
set_option maxRecDepth 100000 in
set_option maxHeartbeats 4000000 in
theorem eX12_number_63 (C : Cx E p s m args meth c cX12_number 5 RX12) (hr : meth.sig.returnType = (some .int)) {σ0 : Sto} {r1 : Int32} {r2 : Sto} {σ : Sto} (h : mX12_number_63 σ = some (r1, r2)) : G p l e (rmd 3 0 0) s m args below meth c E true (sZ σ0) ad0 (MQ below (QI E true σ0 r1 r2 ad0) args s 0 0 (AE E)) 5 0 0 σ 63 [(0, .ref 81)] [] := by
  unfold mX12_number_63 at h
  refine G_aload_n C 0 rfl rfl dX12_number_63 ?_
  refine G_getI C fl_X12_300_11 (Or.inl rfl) ko_81 dX12_number_64 ?_
  refine G_istore (L' := [(4, .int (sI σ 81 47)), (0, .ref 81)]) C (Nat.le_of_ble_eq_true rfl) rfl dX12_number_67 ?_
  refine G_aload_n C 1 rfl rfl dX12_number_69 ?_
  refine G_callI (run_V C [] [] (dX12_isGood rfl) ml_X12_isGood mv_X12_isGood lk_X12_341 ⟨(Nat.le_of_ble_eq_true rfl), (Nat.le_of_ble_eq_true rfl)⟩ ⟨(Nat.le_of_ble_eq_true rfl), (Nat.le_of_ble_eq_true rfl)⟩ vq_11 rfl ko_81 rfl (Nat.le_of_ble_eq_true rfl) dX12_number_70) ?_
  refine G_if_eq (tgt := 80) C rfl dX12_number_73 (fun hc8 => ?_) (fun hc8 => ?_)
  · replace h := (if_pos hc8).symm.trans h
    refine G_iload C 0 rfl dX12_number_80 ?_
    obtain ⟨rfl, rfl⟩ := some2 h
    exact G_iret C hr (Nat.le_of_ble_eq_true rfl) (Nat.le_of_ble_eq_true rfl) dX12_number_82
  · replace h := (if_neg hc8).symm.trans h
    refine G_aload_n C 1 rfl rfl dX12_number_76 ?_
    obtain ⟨σ9, hv9, h⟩ := bnd h
    refine G_callV (run_V C [] [] (dX12_goes hv9) ml_X12_goes mv_X12_goes lk_X12_352 ⟨(Nat.le_of_ble_eq_true rfl), (Nat.le_of_ble_eq_true rfl)⟩ ⟨(Nat.le_of_ble_eq_true rfl), (Nat.le_of_ble_eq_true rfl)⟩ vq_11 rfl ko_81 rfl (Nat.le_of_ble_eq_true rfl) dX12_number_77) ?_
    refine G_iload C 0 rfl dX12_number_80 ?_
    obtain ⟨rfl, rfl⟩ := some2 h
    exact G_iret C hr (Nat.le_of_ble_eq_true rfl) (Nat.le_of_ble_eq_true rfl) dX12_number_82
set_option maxRecDepth 100000 in
set_option maxHeartbeats 4000000 in
theorem eX12_number_58 (C : Cx E p s m args meth c cX12_number 5 RX12) (hr : meth.sig.returnType = (some .int)) {σ0 : Sto} {r1 : Int32} {r2 : Sto} {σ : Sto} {x3 : Int32} (h : mX12_number_58 x3 σ = some (r1, r2)) : G p l e (rmd 3 0 0) s m args below meth c E true (sZ σ0) ad0 (MQ below (QI E true σ0 r1 r2 ad0) args s 0 0 (AE E)) 5 0 0 σ 58 [(0, .ref 81), (3, .int x3)] [] := by
  unfold mX12_number_58 at h
  refine G_aload_n C 0 rfl rfl dX12_number_58 ?_
  refine G_iload_n C 1 rfl rfl dX12_number_59 ?_
  obtain ⟨σ6, hv6, h⟩ := bnd h
  refine G_callV (run_V C [.int x3] [] (dX12_wrong hv6) ml_X12_wrong mv_X12_wrong lk_X12_345 ⟨(Nat.le_of_ble_eq_true rfl), (Nat.le_of_ble_eq_true rfl)⟩ ⟨(Nat.le_of_ble_eq_true rfl), (Nat.le_of_ble_eq_true rfl)⟩ vq_11 rfl ko_81 rfl (Nat.le_of_ble_eq_true rfl) dX12_number_60) ?_
  refine G_sub [0] rfl ?_
  exact eX12_number_63 C hr h
set_option maxRecDepth 100000 in
set_option maxHeartbeats 4000000 in
theorem dX12_number {σ : Sto} {p0 : Int32} {p1 : Int32} {p2 : Int32} {r1 : Int32} {r2 : Sto} (h : mX12_number p0 p1 p2 σ = some (r1, r2)) : MM l yX12_number cX12_number 5 (some .int) 3 0 0 E true σ [.ref 81, .int p0, .int p1, .int p2] (QI E true σ r1 r2) := by
  unfold mX12_number at h
  refine MM_of (by decide) (Nat.le_of_ble_eq_true rfl) rfl (fun p e s m args below meth c ad0 C hr hn => ?_)
  refine G_aload_n C 0 rfl rfl dX12_number_0 ?_
  refine G_callI (run_V C [] [] (dX12_isGood rfl) ml_X12_isGood mv_X12_isGood lk_X12_341 ⟨(Nat.le_of_ble_eq_true rfl), (Nat.le_of_ble_eq_true rfl)⟩ ⟨(Nat.le_of_ble_eq_true rfl), (Nat.le_of_ble_eq_true rfl)⟩ vq_11 rfl ko_81 rfl (Nat.le_of_ble_eq_true rfl) dX12_number_1) ?_
  refine G_if_ne (tgt := 9) C rfl dX12_number_4 (fun hc2 => ?_) (fun hc2 => ?_)
  · replace h := (if_neg hc2).symm.trans h
    refine G_aload_n C 0 rfl rfl dX12_number_9 ?_
    refine G_getI C fl_X12_306_11 (Or.inl rfl) ko_81 dX12_number_10 ?_
    refine G_iconst C (v := 2) rfl dX12_number_13 ?_
    refine G_icmp_eq (tgt := 25) C rfl dX12_number_14 (fun hc3 => ?_) (fun hc3 => ?_)
    · replace h := (if_pos hc3).symm.trans h
      refine G_aload_n C 0 rfl rfl dX12_number_25 ?_
      refine G_getI C fl_X12_315_11 (Or.inl rfl) ko_81 dX12_number_26 ?_
      refine G_bipush C (v := 8) rfl dX12_number_29 ?_
      refine G_icmp_le (tgt := 42) C rfl dX12_number_31 (fun hc4 => ?_) (fun hc4 => ?_)
      · replace h := (if_pos hc4).symm.trans h
        refine G_aload_n C 0 rfl rfl dX12_number_42 ?_
        refine G_getI C fl_X12_300_11 (Or.inl rfl) ko_81 dX12_number_43 ?_
        refine G_iload_n C 1 rfl rfl dX12_number_46 ?_
        refine G_icmp_lt (tgt := 58) C rfl dX12_number_47 (fun hc5 => ?_) (fun hc5 => ?_)
        · replace h := (if_pos hc5).symm.trans h
          refine G_sub [0, 3] rfl ?_
          exact eX12_number_58 C hr h
        · replace h := (if_neg hc5).symm.trans h
          refine G_aload_n C 0 rfl rfl dX12_number_50 ?_
          refine G_getI C fl_X12_300_11 (Or.inl rfl) ko_81 dX12_number_51 ?_
          refine G_iload_n C 2 rfl rfl dX12_number_54 ?_
          refine G_icmp_le (tgt := 63) C rfl dX12_number_55 (fun hc10 => ?_) (fun hc10 => ?_)
          · replace h := (if_pos hc10).symm.trans h
            refine G_sub [0] rfl ?_
            exact eX12_number_63 C hr h
          · replace h := (if_neg hc10).symm.trans h
            refine G_sub [0, 3] rfl ?_
            exact eX12_number_58 C hr h
      · replace h := (if_neg hc4).symm.trans h
        refine G_aload_n C 0 rfl rfl dX12_number_34 ?_
        refine G_iconst C (v := 2) rfl dX12_number_35 ?_
        obtain ⟨σ11, hv11, h⟩ := bnd h
        refine G_callV (run_V C [.int (2 : Int32)] [] (dX12_wrong hv11) ml_X12_wrong mv_X12_wrong lk_X12_345 ⟨(Nat.le_of_ble_eq_true rfl), (Nat.le_of_ble_eq_true rfl)⟩ ⟨(Nat.le_of_ble_eq_true rfl), (Nat.le_of_ble_eq_true rfl)⟩ vq_11 rfl ko_81 rfl (Nat.le_of_ble_eq_true rfl) dX12_number_36) ?_
        refine G_goto (tgt := 63) C rfl dX12_number_39 ?_
        refine G_sub [0] rfl ?_
        exact eX12_number_63 C hr h
    · replace h := (if_neg hc3).symm.trans h
      refine G_aload_n C 0 rfl rfl dX12_number_17 ?_
      refine G_iconst C (v := 1) rfl dX12_number_18 ?_
      obtain ⟨σ12, hv12, h⟩ := bnd h
      refine G_callV (run_V C [.int (1 : Int32)] [] (dX12_wrong hv12) ml_X12_wrong mv_X12_wrong lk_X12_345 ⟨(Nat.le_of_ble_eq_true rfl), (Nat.le_of_ble_eq_true rfl)⟩ ⟨(Nat.le_of_ble_eq_true rfl), (Nat.le_of_ble_eq_true rfl)⟩ vq_11 rfl ko_81 rfl (Nat.le_of_ble_eq_true rfl) dX12_number_19) ?_
      refine G_goto (tgt := 63) C rfl dX12_number_22 ?_
      refine G_sub [0] rfl ?_
      exact eX12_number_63 C hr h
  · replace h := (if_pos hc2).symm.trans h
    refine G_iconst C (v := 0) rfl dX12_number_7 ?_
    obtain ⟨rfl, rfl⟩ := some2 h
    exact G_iret C hr (Nat.le_of_ble_eq_true rfl) (Nat.le_of_ble_eq_true rfl) dX12_number_8
set_option maxRecDepth 100000 in
set_option maxHeartbeats 4000000 in
theorem eX12_step_33 (C : Cx E p s m args meth c cX12_step 4 RX12) (hr : meth.sig.returnType = none) {σ0 : Sto} {r2 : Sto} {σ : Sto} {x1 : Int32} {x2 : Int32} {y0 : Int32} (h : mX12_step_33 x1 x2 y0 σ = some r2) : G p l e (rmd 4 0 0) s m args below meth c E true (sZ σ0) ad0 (MQ below (QV E true σ0 r2 ad0) args s 0 0 (AE E)) 4 0 0 σ 33 [(0, .ref 81), (1, .int x1), (2, .int x2)] [.int y0] := by
  unfold mX12_step_33 at h
  refine G_istore_n (L' := [(3, .int y0), (0, .ref 81), (1, .int x1), (2, .int x2)]) C rfl (Nat.le_of_ble_eq_true rfl) rfl dX12_step_33 ?_
  refine G_aload_n C 1 rfl rfl dX12_step_34 ?_
  refine G_getF C fl_X12_141_11 rfl rfl fn_81_67 dX12_step_35 ?_
  refine G_iload_n C 3 rfl rfl dX12_step_38 ?_
  refine G_aload_n C 1 rfl rfl dX12_step_39 ?_
  refine G_iload_n C 0 rfl rfl dX12_step_40 ?_
  refine G_iconst C (v := 1) rfl dX12_step_41 ?_
  refine G_iadd C dX12_step_42 ?_
  refine G_ldcw C kc_X12_390 dX12_step_43 ?_
  refine G_iconst C (v := 2) rfl dX12_step_46 ?_
  obtain ⟨v4, σ4, hv4, h⟩ := bd2_elim h
  refine G_callI (run_V C [.int (y0 + (1 : Int32)), .int (99999999 : Int32), .int (2 : Int32)] [.int x2, .ref 124] (dX12_number hv4) ml_X12_number mv_X12_number lk_X12_386 ⟨(Nat.le_of_ble_eq_true rfl), (Nat.le_of_ble_eq_true rfl)⟩ ⟨(Nat.le_of_ble_eq_true rfl), (Nat.le_of_ble_eq_true rfl)⟩ vq_11 rfl ko_81 rfl (Nat.le_of_ble_eq_true rfl) dX12_step_47) ?_
  obtain ⟨hc5, h⟩ := ifn h
  obtain ⟨σ6, hs6, h⟩ := stp_elim h
  refine G_iastore C ks_124 hc5 dX12_step_50 ?_
  rw [← hs6]
  refine G_aload_n C 1 rfl rfl dX12_step_51 ?_
  refine G_getF C fl_X12_144_11 rfl rfl fn_81_68 dX12_step_52 ?_
  refine G_iload_n C 3 rfl rfl dX12_step_55 ?_
  refine G_aload_n C 1 rfl rfl dX12_step_56 ?_
  refine G_iconst C (v := 0) rfl dX12_step_57 ?_
  refine G_sipush C (v := 10000) rfl dX12_step_58 ?_
  refine G_iconst C (v := 2) rfl dX12_step_61 ?_
  obtain ⟨v7, σ7, hv7, h⟩ := bd2_elim h
  refine G_callI (run_V C [.int (0 : Int32), .int (10000 : Int32), .int (2 : Int32)] [.int x2, .ref 125] (dX12_number hv7) ml_X12_number mv_X12_number lk_X12_386 ⟨(Nat.le_of_ble_eq_true rfl), (Nat.le_of_ble_eq_true rfl)⟩ ⟨(Nat.le_of_ble_eq_true rfl), (Nat.le_of_ble_eq_true rfl)⟩ vq_11 rfl ko_81 rfl (Nat.le_of_ble_eq_true rfl) dX12_step_62) ?_
  obtain ⟨σ8, hs8, h⟩ := stp_elim h
  refine G_iastore C ks_125 hc5 dX12_step_65 ?_
  rw [← hs8]
  refine G_aload_n C 1 rfl rfl dX12_step_66 ?_
  refine G_getF C fl_X12_117_11 rfl rfl fn_81_59 dX12_step_67 ?_
  refine G_iload_n C 2 rfl rfl dX12_step_70 ?_
  refine G_dup2 C rfl rfl dX12_step_71 ?_
  obtain ⟨hc9, h⟩ := ifn h
  refine G_iaload C ks_116 hc9 dX12_step_72 ?_
  refine G_iconst C (v := 1) rfl dX12_step_73 ?_
  refine G_iadd C dX12_step_74 ?_
  obtain ⟨σ10, hs10, h⟩ := stp_elim h
  refine G_iastore C ks_116 hc9 dX12_step_75 ?_
  rw [← hs10]
  obtain rfl := Option.some.inj h
  exact G_vret C hr (Nat.le_of_ble_eq_true rfl) (Nat.le_of_ble_eq_true rfl) dX12_step_76
set_option maxRecDepth 100000 in
set_option maxHeartbeats 4000000 in
theorem dX12_step {σ : Sto} {p0 : Int32} {r2 : Sto} (h : mX12_step p0 σ = some r2) : MM l yX12_step cX12_step 4 none 4 0 0 E true σ [.ref 81, .int p0] (QV E true σ r2) := by
  unfold mX12_step at h
  refine MM_of (by decide) (Nat.le_of_ble_eq_true rfl) rfl (fun p e s m args below meth c ad0 C hr hn => ?_)
  refine G_bipush C (v := 16) rfl dX12_step_0 ?_
  refine G_iload_n C 1 rfl rfl dX12_step_2 ?_
  refine G_imul C dX12_step_3 ?_
  refine G_aload_n C 0 rfl rfl dX12_step_4 ?_
  refine G_getF C fl_X12_117_11 rfl rfl fn_81_59 dX12_step_5 ?_
  refine G_iload_n C 1 rfl rfl dX12_step_8 ?_
  obtain ⟨hc1, h⟩ := ifn h
  refine G_iaload C ks_116 hc1 dX12_step_9 ?_
  refine G_iadd C dX12_step_10 ?_
  refine G_istore_n (L' := [(2, .int (((16 : Int32) * p0) + (sI σ 116 (p0).toNatClampNeg))), (0, .ref 81), (1, .int p0)]) C rfl (Nat.le_of_ble_eq_true rfl) rfl dX12_step_11 ?_
  refine G_aload_n C 1 rfl rfl dX12_step_12 ?_
  refine G_getF C fl_X12_117_11 rfl rfl fn_81_59 dX12_step_13 ?_
  refine G_iload_n C 2 rfl rfl dX12_step_16 ?_
  refine G_iaload C ks_116 hc1 dX12_step_17 ?_
  refine G_if_ne (tgt := 25) C rfl dX12_step_18 (fun hc2 => ?_) (fun hc2 => ?_)
  · replace h := (if_neg hc2).symm.trans h
    refine G_aload_n C 1 rfl rfl dX12_step_25 ?_
    refine G_getF C fl_X12_141_11 rfl rfl fn_81_67 dX12_step_26 ?_
    refine G_iload_n C 0 rfl rfl dX12_step_29 ?_
    refine G_iconst C (v := 1) rfl dX12_step_30 ?_
    refine G_isub C dX12_step_31 ?_
    obtain ⟨hc3, h⟩ := ifn h
    refine G_iaload C ks_124 hc3 dX12_step_32 ?_
    refine G_sub [1, 2, 0] rfl ?_
    exact eX12_step_33 C hr h
  · replace h := (if_pos hc2).symm.trans h
    refine G_iconst C (v := 0) rfl dX12_step_21 ?_
    refine G_goto (tgt := 33) C rfl dX12_step_22 ?_
    refine G_sub [1, 2, 0] rfl ?_
    exact eX12_step_33 C hr h
set_option maxRecDepth 100000 in
set_option maxHeartbeats 4000000 in
theorem eX12_clause_225 (C : Cx E p s m args meth c cX12_clause 3 RX12) (hr : meth.sig.returnType = none) {σ0 : Sto} {r2 : Sto} {σ : Sto} (h : mX12_clause_225 σ = some r2) : G p l e (rmd 7 0 0) s m args below meth c E true (sZ σ0) ad0 (MQ below (QV E true σ0 r2 ad0) args s 0 0 (AE E)) 3 0 0 σ 225 [(0, .ref 81)] [] := by
  unfold mX12_clause_225 at h
  refine G_aload_n C 0 rfl rfl dX12_clause_225 ?_
  refine G_callI (run_V C [] [] (dX12_isGood rfl) ml_X12_isGood mv_X12_isGood lk_X12_341 ⟨(Nat.le_of_ble_eq_true rfl), (Nat.le_of_ble_eq_true rfl)⟩ ⟨(Nat.le_of_ble_eq_true rfl), (Nat.le_of_ble_eq_true rfl)⟩ vq_11 rfl ko_81 rfl (Nat.le_of_ble_eq_true rfl) dX12_clause_226) ?_
  refine G_if_ne (tgt := 233) C rfl dX12_clause_229 (fun hc20 => ?_) (fun hc20 => ?_)
  · replace h := (if_neg hc20).symm.trans h
    refine G_aload_n C 0 rfl rfl dX12_clause_233 ?_
    refine G_bipush C (v := 59) rfl dX12_clause_234 ?_
    refine G_callI (run_V C [.int (59 : Int32)] [] (dX12_isSign rfl) ml_X12_isSign mv_X12_isSign lk_X12_358 ⟨(Nat.le_of_ble_eq_true rfl), (Nat.le_of_ble_eq_true rfl)⟩ ⟨(Nat.le_of_ble_eq_true rfl), (Nat.le_of_ble_eq_true rfl)⟩ vq_11 rfl ko_81 rfl (Nat.le_of_ble_eq_true rfl) dX12_clause_236) ?_
    refine G_if_eq (tgt := 249) C rfl dX12_clause_239 (fun hc22 => ?_) (fun hc22 => ?_)
    · replace h := (if_pos hc22).symm.trans h
      refine G_aload_n C 0 rfl rfl dX12_clause_249 ?_
      refine G_iconst C (v := 1) rfl dX12_clause_250 ?_
      obtain ⟨σ23, hv23, h⟩ := bnd h
      refine G_callV (run_V C [.int (1 : Int32)] [] (dX12_wrong hv23) ml_X12_wrong mv_X12_wrong lk_X12_345 ⟨(Nat.le_of_ble_eq_true rfl), (Nat.le_of_ble_eq_true rfl)⟩ ⟨(Nat.le_of_ble_eq_true rfl), (Nat.le_of_ble_eq_true rfl)⟩ vq_11 rfl ko_81 rfl (Nat.le_of_ble_eq_true rfl) dX12_clause_251) ?_
      obtain rfl := Option.some.inj h
      exact G_vret C hr (Nat.le_of_ble_eq_true rfl) (Nat.le_of_ble_eq_true rfl) dX12_clause_254
    · replace h := (if_neg hc22).symm.trans h
      refine G_aload_n C 0 rfl rfl dX12_clause_242 ?_
      obtain ⟨σ24, hv24, h⟩ := bnd h
      refine G_callV (run_V C [] [] (dX12_goes hv24) ml_X12_goes mv_X12_goes lk_X12_352 ⟨(Nat.le_of_ble_eq_true rfl), (Nat.le_of_ble_eq_true rfl)⟩ ⟨(Nat.le_of_ble_eq_true rfl), (Nat.le_of_ble_eq_true rfl)⟩ vq_11 rfl ko_81 rfl (Nat.le_of_ble_eq_true rfl) dX12_clause_243) ?_
      refine G_goto (tgt := 254) C rfl dX12_clause_246 ?_
      obtain rfl := Option.some.inj h
      exact G_vret C hr (Nat.le_of_ble_eq_true rfl) (Nat.le_of_ble_eq_true rfl) dX12_clause_254
  · replace h := (if_pos hc20).symm.trans h
    obtain rfl := Option.some.inj h
    exact G_vret C hr (Nat.le_of_ble_eq_true rfl) (Nat.le_of_ble_eq_true rfl) dX12_clause_232
set_option maxRecDepth 100000 in
set_option maxHeartbeats 4000000 in
theorem eX12_clause_34 (C : Cx E p s m args meth c cX12_clause 3 RX12) (hr : meth.sig.returnType = none) {σ0 : Sto} {r2 : Sto} {σ : Sto} {x1 : Int32} {x2 : Int32} (h : mX12_clause_34 x1 x2 σ = some r2) : G p l e (rmd 7 0 0) s m args below meth c E true (sZ σ0) ad0 (MQ below (QV E true σ0 r2 ad0) args s 0 0 (AE E)) 3 0 0 σ 34 [(0, .ref 81), (1, .int x1), (2, .int x2)] [] := by
  unfold mX12_clause_34 at h
  refine G_aload_n C 0 rfl rfl dX12_clause_34 ?_
  refine G_callI (run_V C [] [] (dX12_isGood rfl) ml_X12_isGood mv_X12_isGood lk_X12_341 ⟨(Nat.le_of_ble_eq_true rfl), (Nat.le_of_ble_eq_true rfl)⟩ ⟨(Nat.le_of_ble_eq_true rfl), (Nat.le_of_ble_eq_true rfl)⟩ vq_11 rfl ko_81 rfl (Nat.le_of_ble_eq_true rfl) dX12_clause_35) ?_
  refine G_if_ne (tgt := 42) C rfl dX12_clause_38 (fun hc6 => ?_) (fun hc6 => ?_)
  · replace h := (if_neg hc6).symm.trans h
    refine G_aload_n C 0 rfl rfl dX12_clause_42 ?_
    refine G_dup C rfl dX12_clause_43 ?_
    refine G_getI C fl_X12_377_11 (Or.inl rfl) ko_81 dX12_clause_44 ?_
    refine G_iconst C (v := 1) rfl dX12_clause_47 ?_
    refine G_iadd C dX12_clause_48 ?_
    obtain ⟨σ7, hs7, h⟩ := stp_elim h
    refine G_putI C fl_X12_377_11 fp_X12_11_54 (Or.inl rfl) (Or.inl rfl) ko_81 dX12_clause_49 ?_
    rw [← hs7]
    refine G_aload_n C 0 rfl rfl dX12_clause_52 ?_
    obtain ⟨σ8, hv8, h⟩ := bnd h
    refine G_callV (run_V C [] [] (dX12_goes hv8) ml_X12_goes mv_X12_goes lk_X12_352 ⟨(Nat.le_of_ble_eq_true rfl), (Nat.le_of_ble_eq_true rfl)⟩ ⟨(Nat.le_of_ble_eq_true rfl), (Nat.le_of_ble_eq_true rfl)⟩ vq_11 rfl ko_81 rfl (Nat.le_of_ble_eq_true rfl) dX12_clause_53) ?_
    refine G_iload_n C 2 rfl rfl dX12_clause_56 ?_
    refine G_if_ne (tgt := 73) C rfl dX12_clause_57 (fun hc9 => ?_) (fun hc9 => ?_)
    · replace h := (if_neg hc9).symm.trans h
      refine G_iload_n C 2 rfl rfl dX12_clause_73 ?_
      refine G_iconst C (v := 1) rfl dX12_clause_74 ?_
      refine G_icmp_ne (tgt := 86) C rfl dX12_clause_75 (fun hc10 => ?_) (fun hc10 => ?_)
      · replace h := (if_neg hc10).symm.trans h
        refine G_iload_n C 2 rfl rfl dX12_clause_86 ?_
        refine G_iconst C (v := 2) rfl dX12_clause_87 ?_
        refine G_icmp_ne (tgt := 109) C rfl dX12_clause_88 (fun hc11 => ?_) (fun hc11 => ?_)
        · replace h := (if_neg hc11).symm.trans h
          refine G_iload_n C 2 rfl rfl dX12_clause_109 ?_
          refine G_iconst C (v := 3) rfl dX12_clause_110 ?_
          refine G_icmp_ne (tgt := 132) C rfl dX12_clause_111 (fun hc12 => ?_) (fun hc12 => ?_)
          · replace h := (if_neg hc12).symm.trans h
            refine G_iload_n C 2 rfl rfl dX12_clause_132 ?_
            refine G_iconst C (v := 4) rfl dX12_clause_133 ?_
            refine G_icmp_ne (tgt := 155) C rfl dX12_clause_134 (fun hc13 => ?_) (fun hc13 => ?_)
            · replace h := (if_neg hc13).symm.trans h
              refine G_iload_n C 2 rfl rfl dX12_clause_155 ?_
              refine G_iconst C (v := 5) rfl dX12_clause_156 ?_
              refine G_icmp_ne (tgt := 178) C rfl dX12_clause_157 (fun hc14 => ?_) (fun hc14 => ?_)
              · replace h := (if_neg hc14).symm.trans h
                refine G_iload_n C 2 rfl rfl dX12_clause_178 ?_
                refine G_bipush C (v := 6) rfl dX12_clause_179 ?_
                refine G_icmp_ne (tgt := 202) C rfl dX12_clause_181 (fun hc15 => ?_) (fun hc15 => ?_)
                · replace h := (if_neg hc15).symm.trans h
                  refine G_aload_n C 0 rfl rfl dX12_clause_202 ?_
                  refine G_getF C fl_X12_135_11 rfl rfl fn_81_65 dX12_clause_203 ?_
                  refine G_iload_n C 1 rfl rfl dX12_clause_206 ?_
                  refine G_dup2 C rfl rfl dX12_clause_207 ?_
                  obtain ⟨hc16, h⟩ := ifn h
                  refine G_iaload C ks_122 hc16 dX12_clause_208 ?_
                  refine G_iconst C (v := 1) rfl dX12_clause_209 ?_
                  refine G_aload_n C 0 rfl rfl dX12_clause_210 ?_
                  refine G_iconst C (v := 0) rfl dX12_clause_211 ?_
                  refine G_aload_n C 0 rfl rfl dX12_clause_212 ?_
                  refine G_getI C fl_X12_211_11 (Or.inl rfl) ko_81 dX12_clause_213 ?_
                  refine G_iconst C (v := 1) rfl dX12_clause_216 ?_
                  refine G_isub C dX12_clause_217 ?_
                  refine G_iconst C (v := 4) rfl dX12_clause_218 ?_
                  obtain ⟨v17, σ17, hv17, h⟩ := bd2_elim h
                  refine G_callI (run_V C [.int (0 : Int32), .int ((sI σ8 81 2) - (1 : Int32)), .int (4 : Int32)] [.int (1 : Int32), .int (sI σ8 122 (x1).toNatClampNeg), .int x1, .ref 122] (dX12_number hv17) ml_X12_number mv_X12_number lk_X12_386 ⟨(Nat.le_of_ble_eq_true rfl), (Nat.le_of_ble_eq_true rfl)⟩ ⟨(Nat.le_of_ble_eq_true rfl), (Nat.le_of_ble_eq_true rfl)⟩ vq_11 rfl ko_81 rfl (Nat.le_of_ble_eq_true rfl) dX12_clause_219) ?_
                  refine G_ishl C dX12_clause_222 ?_
                  refine G_ior C dX12_clause_223 ?_
                  obtain ⟨σ18, hs18, h⟩ := stp_elim h
                  refine G_iastore C ks_122 hc16 dX12_clause_224 ?_
                  rw [← hs18]
                  refine G_sub [0] rfl ?_
                  exact eX12_clause_225 C hr h
                · replace h := (if_pos hc15).symm.trans h
                  refine G_aload_n C 0 rfl rfl dX12_clause_184 ?_
                  refine G_getF C fl_X12_132_11 rfl rfl fn_81_64 dX12_clause_185 ?_
                  refine G_iload_n C 1 rfl rfl dX12_clause_188 ?_
                  refine G_aload_n C 0 rfl rfl dX12_clause_189 ?_
                  refine G_iconst C (v := 0) rfl dX12_clause_190 ?_
                  refine G_ldcw C kc_X12_390 dX12_clause_191 ?_
                  refine G_iconst C (v := 2) rfl dX12_clause_194 ?_
                  obtain ⟨v25, σ25, hv25, h⟩ := bd2_elim h
                  refine G_callI (run_V C [.int (0 : Int32), .int (99999999 : Int32), .int (2 : Int32)] [.int x1, .ref 121] (dX12_number hv25) ml_X12_number mv_X12_number lk_X12_386 ⟨(Nat.le_of_ble_eq_true rfl), (Nat.le_of_ble_eq_true rfl)⟩ ⟨(Nat.le_of_ble_eq_true rfl), (Nat.le_of_ble_eq_true rfl)⟩ vq_11 rfl ko_81 rfl (Nat.le_of_ble_eq_true rfl) dX12_clause_195) ?_
                  obtain ⟨hc26, h⟩ := ifn h
                  obtain ⟨σ27, hs27, h⟩ := stp_elim h
                  refine G_iastore C ks_121 hc26 dX12_clause_198 ?_
                  rw [← hs27]
                  refine G_goto (tgt := 225) C rfl dX12_clause_199 ?_
                  refine G_sub [0] rfl ?_
                  exact eX12_clause_225 C hr h
              · replace h := (if_pos hc14).symm.trans h
                refine G_aload_n C 0 rfl rfl dX12_clause_160 ?_
                refine G_getF C fl_X12_129_11 rfl rfl fn_81_63 dX12_clause_161 ?_
                refine G_iload_n C 1 rfl rfl dX12_clause_164 ?_
                refine G_aload_n C 0 rfl rfl dX12_clause_165 ?_
                refine G_iconst C (v := 0) rfl dX12_clause_166 ?_
                refine G_sipush C (v := 200) rfl dX12_clause_167 ?_
                refine G_iconst C (v := 2) rfl dX12_clause_170 ?_
                obtain ⟨v28, σ28, hv28, h⟩ := bd2_elim h
                refine G_callI (run_V C [.int (0 : Int32), .int (200 : Int32), .int (2 : Int32)] [.int x1, .ref 120] (dX12_number hv28) ml_X12_number mv_X12_number lk_X12_386 ⟨(Nat.le_of_ble_eq_true rfl), (Nat.le_of_ble_eq_true rfl)⟩ ⟨(Nat.le_of_ble_eq_true rfl), (Nat.le_of_ble_eq_true rfl)⟩ vq_11 rfl ko_81 rfl (Nat.le_of_ble_eq_true rfl) dX12_clause_171) ?_
                obtain ⟨hc29, h⟩ := ifn h
                obtain ⟨σ30, hs30, h⟩ := stp_elim h
                refine G_iastore C ks_120 hc29 dX12_clause_174 ?_
                rw [← hs30]
                refine G_goto (tgt := 225) C rfl dX12_clause_175 ?_
                refine G_sub [0] rfl ?_
                exact eX12_clause_225 C hr h
            · replace h := (if_pos hc13).symm.trans h
              refine G_aload_n C 0 rfl rfl dX12_clause_137 ?_
              refine G_getF C fl_X12_126_11 rfl rfl fn_81_62 dX12_clause_138 ?_
              refine G_iload_n C 1 rfl rfl dX12_clause_141 ?_
              refine G_aload_n C 0 rfl rfl dX12_clause_142 ?_
              refine G_iconst C (v := 0) rfl dX12_clause_143 ?_
              refine G_ldcw C kc_X12_390 dX12_clause_144 ?_
              refine G_iconst C (v := 2) rfl dX12_clause_147 ?_
              obtain ⟨v31, σ31, hv31, h⟩ := bd2_elim h
              refine G_callI (run_V C [.int (0 : Int32), .int (99999999 : Int32), .int (2 : Int32)] [.int x1, .ref 119] (dX12_number hv31) ml_X12_number mv_X12_number lk_X12_386 ⟨(Nat.le_of_ble_eq_true rfl), (Nat.le_of_ble_eq_true rfl)⟩ ⟨(Nat.le_of_ble_eq_true rfl), (Nat.le_of_ble_eq_true rfl)⟩ vq_11 rfl ko_81 rfl (Nat.le_of_ble_eq_true rfl) dX12_clause_148) ?_
              obtain ⟨hc32, h⟩ := ifn h
              obtain ⟨σ33, hs33, h⟩ := stp_elim h
              refine G_iastore C ks_119 hc32 dX12_clause_151 ?_
              rw [← hs33]
              refine G_goto (tgt := 225) C rfl dX12_clause_152 ?_
              refine G_sub [0] rfl ?_
              exact eX12_clause_225 C hr h
          · replace h := (if_pos hc12).symm.trans h
            refine G_aload_n C 0 rfl rfl dX12_clause_114 ?_
            refine G_getF C fl_X12_123_11 rfl rfl fn_81_61 dX12_clause_115 ?_
            refine G_iload_n C 1 rfl rfl dX12_clause_118 ?_
            refine G_aload_n C 0 rfl rfl dX12_clause_119 ?_
            refine G_iconst C (v := 0) rfl dX12_clause_120 ?_
            refine G_ldcw C kc_X12_390 dX12_clause_121 ?_
            refine G_iconst C (v := 2) rfl dX12_clause_124 ?_
            obtain ⟨v34, σ34, hv34, h⟩ := bd2_elim h
            refine G_callI (run_V C [.int (0 : Int32), .int (99999999 : Int32), .int (2 : Int32)] [.int x1, .ref 118] (dX12_number hv34) ml_X12_number mv_X12_number lk_X12_386 ⟨(Nat.le_of_ble_eq_true rfl), (Nat.le_of_ble_eq_true rfl)⟩ ⟨(Nat.le_of_ble_eq_true rfl), (Nat.le_of_ble_eq_true rfl)⟩ vq_11 rfl ko_81 rfl (Nat.le_of_ble_eq_true rfl) dX12_clause_125) ?_
            obtain ⟨hc35, h⟩ := ifn h
            obtain ⟨σ36, hs36, h⟩ := stp_elim h
            refine G_iastore C ks_118 hc35 dX12_clause_128 ?_
            rw [← hs36]
            refine G_goto (tgt := 225) C rfl dX12_clause_129 ?_
            refine G_sub [0] rfl ?_
            exact eX12_clause_225 C hr h
        · replace h := (if_pos hc11).symm.trans h
          refine G_aload_n C 0 rfl rfl dX12_clause_91 ?_
          refine G_getF C fl_X12_120_11 rfl rfl fn_81_60 dX12_clause_92 ?_
          refine G_iload_n C 1 rfl rfl dX12_clause_95 ?_
          refine G_aload_n C 0 rfl rfl dX12_clause_96 ?_
          refine G_iconst C (v := 0) rfl dX12_clause_97 ?_
          refine G_sipush C (v := 10000) rfl dX12_clause_98 ?_
          refine G_iconst C (v := 2) rfl dX12_clause_101 ?_
          obtain ⟨v37, σ37, hv37, h⟩ := bd2_elim h
          refine G_callI (run_V C [.int (0 : Int32), .int (10000 : Int32), .int (2 : Int32)] [.int x1, .ref 117] (dX12_number hv37) ml_X12_number mv_X12_number lk_X12_386 ⟨(Nat.le_of_ble_eq_true rfl), (Nat.le_of_ble_eq_true rfl)⟩ ⟨(Nat.le_of_ble_eq_true rfl), (Nat.le_of_ble_eq_true rfl)⟩ vq_11 rfl ko_81 rfl (Nat.le_of_ble_eq_true rfl) dX12_clause_102) ?_
          obtain ⟨hc38, h⟩ := ifn h
          obtain ⟨σ39, hs39, h⟩ := stp_elim h
          refine G_iastore C ks_117 hc38 dX12_clause_105 ?_
          rw [← hs39]
          refine G_goto (tgt := 225) C rfl dX12_clause_106 ?_
          refine G_sub [0] rfl ?_
          exact eX12_clause_225 C hr h
      · replace h := (if_pos hc10).symm.trans h
        refine G_aload_n C 0 rfl rfl dX12_clause_78 ?_
        refine G_iload_n C 1 rfl rfl dX12_clause_79 ?_
        obtain ⟨σ40, hv40, h⟩ := bnd h
        refine G_callV (run_V C [.int x1] [] (dX12_step hv40) ml_X12_step mv_X12_step lk_X12_383 ⟨(Nat.le_of_ble_eq_true rfl), (Nat.le_of_ble_eq_true rfl)⟩ ⟨(Nat.le_of_ble_eq_true rfl), (Nat.le_of_ble_eq_true rfl)⟩ vq_11 rfl ko_81 rfl (Nat.le_of_ble_eq_true rfl) dX12_clause_80) ?_
        refine G_goto (tgt := 225) C rfl dX12_clause_83 ?_
        refine G_sub [0] rfl ?_
        exact eX12_clause_225 C hr h
    · replace h := (if_pos hc9).symm.trans h
      refine G_aload_n C 0 rfl rfl dX12_clause_60 ?_
      refine G_getF C fl_X12_138_11 rfl rfl fn_81_66 dX12_clause_61 ?_
      refine G_iload_n C 1 rfl rfl dX12_clause_64 ?_
      refine G_aload_n C 0 rfl rfl dX12_clause_65 ?_
      obtain ⟨v41, σ41, hv41, h⟩ := bd2_elim h
      refine G_callI (run_V C [] [.int x1, .ref 123] (dX12_expression hv41) ml_X12_expression mv_X12_expression lk_X12_380 ⟨(Nat.le_of_ble_eq_true rfl), (Nat.le_of_ble_eq_true rfl)⟩ ⟨(Nat.le_of_ble_eq_true rfl), (Nat.le_of_ble_eq_true rfl)⟩ vq_11 rfl ko_81 rfl (Nat.le_of_ble_eq_true rfl) dX12_clause_66) ?_
      obtain ⟨hc42, h⟩ := ifn h
      obtain ⟨σ43, hs43, h⟩ := stp_elim h
      refine G_iastore C ks_123 hc42 dX12_clause_69 ?_
      rw [← hs43]
      refine G_goto (tgt := 225) C rfl dX12_clause_70 ?_
      refine G_sub [0] rfl ?_
      exact eX12_clause_225 C hr h
  · replace h := (if_pos hc6).symm.trans h
    obtain rfl := Option.some.inj h
    exact G_vret C hr (Nat.le_of_ble_eq_true rfl) (Nat.le_of_ble_eq_true rfl) dX12_clause_41
set_option maxRecDepth 100000 in
set_option maxHeartbeats 4000000 in
theorem eX12_clause_20 (C : Cx E p s m args meth c cX12_clause 3 RX12) (hr : meth.sig.returnType = none) {σ0 : Sto} {r2 : Sto} {σ : Sto} {x1 : Int32} {x2 : Int32} (h : mX12_clause_20 x1 x2 σ = some r2) : G p l e (rmd 7 0 0) s m args below meth c E true (sZ σ0) ad0 (MQ below (QV E true σ0 r2 ad0) args s 0 0 (AE E)) 3 0 0 σ 20 [(0, .ref 81), (1, .int x1), (2, .int x2)] [] := by
  unfold mX12_clause_20 at h
  refine G_aload_n C 0 rfl rfl dX12_clause_20 ?_
  refine G_getI C fl_X12_377_11 (Or.inl rfl) ko_81 dX12_clause_21 ?_
  refine G_bipush C (v := 16) rfl dX12_clause_24 ?_
  refine G_icmp_ne (tgt := 34) C rfl dX12_clause_26 (fun hc4 => ?_) (fun hc4 => ?_)
  · replace h := (if_neg hc4).symm.trans h
    exact eX12_clause_34 C hr h
  · replace h := (if_pos hc4).symm.trans h
    refine G_aload_n C 0 rfl rfl dX12_clause_29 ?_
    refine G_iconst C (v := 2) rfl dX12_clause_30 ?_
    obtain ⟨σ44, hv44, h⟩ := bnd h
    refine G_callV (run_V C [.int (2 : Int32)] [] (dX12_wrong hv44) ml_X12_wrong mv_X12_wrong lk_X12_345 ⟨(Nat.le_of_ble_eq_true rfl), (Nat.le_of_ble_eq_true rfl)⟩ ⟨(Nat.le_of_ble_eq_true rfl), (Nat.le_of_ble_eq_true rfl)⟩ vq_11 rfl ko_81 rfl (Nat.le_of_ble_eq_true rfl) dX12_clause_31) ?_
    exact eX12_clause_34 C hr h
set_option maxRecDepth 100000 in
set_option maxHeartbeats 4000000 in
theorem eX12_clause_15 (C : Cx E p s m args meth c cX12_clause 3 RX12) (hr : meth.sig.returnType = none) {σ0 : Sto} {r2 : Sto} {σ : Sto} {x1 : Int32} {x2 : Int32} (h : mX12_clause_15 x1 x2 σ = some r2) : G p l e (rmd 7 0 0) s m args below meth c E true (sZ σ0) ad0 (MQ below (QV E true σ0 r2 ad0) args s 0 0 (AE E)) 3 0 0 σ 15 [(0, .ref 81), (1, .int x1), (2, .int x2)] [] := by
  unfold mX12_clause_15 at h
  refine G_aload_n C 0 rfl rfl dX12_clause_15 ?_
  refine G_iconst C (v := 1) rfl dX12_clause_16 ?_
  obtain ⟨σ3, hv3, h⟩ := bnd h
  refine G_callV (run_V C [.int (1 : Int32)] [] (dX12_wrong hv3) ml_X12_wrong mv_X12_wrong lk_X12_345 ⟨(Nat.le_of_ble_eq_true rfl), (Nat.le_of_ble_eq_true rfl)⟩ ⟨(Nat.le_of_ble_eq_true rfl), (Nat.le_of_ble_eq_true rfl)⟩ vq_11 rfl ko_81 rfl (Nat.le_of_ble_eq_true rfl) dX12_clause_17) ?_
  exact eX12_clause_20 C hr h
set_option maxRecDepth 100000 in
set_option maxHeartbeats 4000000 in
theorem dX12_clause {σ : Sto} {p0 : Int32} {r2 : Sto} (h : mX12_clause p0 σ = some r2) : MM l yX12_clause cX12_clause 3 none 7 0 0 E true σ [.ref 81, .int p0] (QV E true σ r2) := by
  unfold mX12_clause at h
  refine MM_of (by decide) (Nat.le_of_ble_eq_true rfl) rfl (fun p e s m args below meth c ad0 C hr hn => ?_)
  refine G_aload_n C 0 rfl rfl dX12_clause_0 ?_
  obtain ⟨v1, hv1, h⟩ := bnd h
  refine G_callI (run_V C [] [] (dX12_knownWord hv1) ml_X12_knownWord mv_X12_knownWord lk_X12_348 ⟨(Nat.le_of_ble_eq_true rfl), (Nat.le_of_ble_eq_true rfl)⟩ ⟨(Nat.le_of_ble_eq_true rfl), (Nat.le_of_ble_eq_true rfl)⟩ vq_11 rfl ko_81 rfl (Nat.le_of_ble_eq_true rfl) dX12_clause_1) ?_
  refine G_istore_n (L' := [(2, .int v1), (0, .ref 81), (1, .int p0)]) C rfl (Nat.le_of_ble_eq_true rfl) rfl dX12_clause_4 ?_
  refine G_iload_n C 0 rfl rfl dX12_clause_5 ?_
  refine G_if_lt (tgt := 15) C rfl dX12_clause_6 (fun hc2 => ?_) (fun hc2 => ?_)
  · replace h := (if_pos hc2).symm.trans h
    refine G_sub [1, 2, 0] rfl ?_
    exact eX12_clause_15 C hr h
  · replace h := (if_neg hc2).symm.trans h
    refine G_iload_n C 0 rfl rfl dX12_clause_9 ?_
    refine G_bipush C (v := 7) rfl dX12_clause_10 ?_
    refine G_icmp_le (tgt := 20) C rfl dX12_clause_12 (fun hc45 => ?_) (fun hc45 => ?_)
    · replace h := (if_pos hc45).symm.trans h
      refine G_sub [1, 2, 0] rfl ?_
      exact eX12_clause_20 C hr h
    · replace h := (if_neg hc45).symm.trans h
      refine G_sub [1, 2, 0] rfl ?_
      exact eX12_clause_15 C hr h
set_option maxRecDepth 100000 in
set_option maxHeartbeats 4000000 in
theorem eX12_reads_92B (C : Cx E p s m args meth c cX12_reads 3 RX12) (hr : meth.sig.returnType = none) {σ0 : Sto} {r2 : Sto} {σ : Sto} {f92 : Int32 → Sto → Option Sto} {x1 : Int32} (hf92 : ∀ (x1 : Int32) (σ' : Sto), f92 x1 σ' = some r2 → G p l e (rmd 8 0 0) s m args below meth c E true (sZ σ0) ad0 (MQ below (QV E true σ0 r2 ad0) args s 0 0 (AE E)) 3 0 0 σ' 92 [(0, .ref 81), (1, .int x1)] []) (h : mX12_reads_92B f92 x1 σ = some r2) : G p l e (rmd 8 0 0) s m args below meth c E true (sZ σ0) ad0 (MQ below (QV E true σ0 r2 ad0) args s 0 0 (AE E)) 3 0 0 σ 92 [(0, .ref 81), (1, .int x1)] [] := by
  unfold mX12_reads_92B at h
  refine G_aload_n C 0 rfl rfl dX12_reads_92 ?_
  refine G_callI (run_V C [] [] (dX12_isGood rfl) ml_X12_isGood mv_X12_isGood lk_X12_341 ⟨(Nat.le_of_ble_eq_true rfl), (Nat.le_of_ble_eq_true rfl)⟩ ⟨(Nat.le_of_ble_eq_true rfl), (Nat.le_of_ble_eq_true rfl)⟩ vq_11 rfl ko_81 rfl (Nat.le_of_ble_eq_true rfl) dX12_reads_93) ?_
  refine G_if_eq (tgt := 114) C rfl dX12_reads_96 (fun hc17 => ?_) (fun hc17 => ?_)
  · replace h := (if_pos hc17).symm.trans h
    obtain rfl := Option.some.inj h
    exact G_vret C hr (Nat.le_of_ble_eq_true rfl) (Nat.le_of_ble_eq_true rfl) dX12_reads_114
  · replace h := (if_neg hc17).symm.trans h
    refine G_aload_n C 0 rfl rfl dX12_reads_99 ?_
    refine G_getI C fl_X12_306_11 (Or.inl rfl) ko_81 dX12_reads_100 ?_
    refine G_if_eq (tgt := 114) C rfl dX12_reads_103 (fun hc18 => ?_) (fun hc18 => ?_)
    · replace h := (if_pos hc18).symm.trans h
      obtain rfl := Option.some.inj h
      exact G_vret C hr (Nat.le_of_ble_eq_true rfl) (Nat.le_of_ble_eq_true rfl) dX12_reads_114
    · replace h := (if_neg hc18).symm.trans h
      refine G_aload_n C 0 rfl rfl dX12_reads_106 ?_
      refine G_iload_n C 1 rfl rfl dX12_reads_107 ?_
      obtain ⟨σ19, hv19, h⟩ := bnd h
      refine G_callV (run_V C [.int x1] [] (dX12_clause hv19) ml_X12_clause mv_X12_clause lk_X12_391 ⟨(Nat.le_of_ble_eq_true rfl), (Nat.le_of_ble_eq_true rfl)⟩ ⟨(Nat.le_of_ble_eq_true rfl), (Nat.le_of_ble_eq_true rfl)⟩ vq_11 rfl ko_81 rfl (Nat.le_of_ble_eq_true rfl) dX12_reads_108) ?_
      refine G_goto (tgt := 92) C rfl dX12_reads_111 ?_
      exact hf92 _ _ h
set_option maxRecDepth 100000 in
set_option maxHeartbeats 4000000 in
theorem eX12_reads_92 (C : Cx E p s m args meth c cX12_reads 3 RX12) (hr : meth.sig.returnType = none) {σ0 : Sto} {r2 : Sto} {σ : Sto} {n : Nat} {x1 : Int32} (h : mX12_reads_92 n x1 σ = some r2) : G p l e (rmd 8 0 0) s m args below meth c E true (sZ σ0) ad0 (MQ below (QV E true σ0 r2 ad0) args s 0 0 (AE E)) 3 0 0 σ 92 [(0, .ref 81), (1, .int x1)] [] := by
  induction n generalizing x1 σ with
  | zero => exact nomatch (show (none : Option Sto) = some r2 from h)
  | succ n ih => exact eX12_reads_92B C hr (fun z0 σ9 h9 => ih h9) h
set_option maxRecDepth 100000 in
set_option maxHeartbeats 4000000 in
theorem dX12_reads {σ : Sto} {p0 : Int32} {p1 : Int32} {r2 : Sto} (h : mX12_reads p0 p1 σ = some r2) : MM l yX12_reads cX12_reads 3 none 8 0 0 E true σ [.ref 81, .int p0, .int p1] (QV E true σ r2) := by
  unfold mX12_reads at h
  refine MM_of (by decide) (Nat.le_of_ble_eq_true rfl) rfl (fun p e s m args below meth c ad0 C hr hn => ?_)
  refine G_aload_n C 0 rfl rfl dX12_reads_0 ?_
  refine G_iconst C (v := 0) rfl dX12_reads_1 ?_
  obtain ⟨σ1, hs1, h⟩ := stp_elim h
  refine G_putI C fl_X12_276_11 fp_X12_11_39 (Or.inl rfl) (Or.inl rfl) ko_81 dX12_reads_2 ?_
  rw [← hs1]
  refine G_aload_n C 0 rfl rfl dX12_reads_5 ?_
  refine G_iload_n C 2 rfl rfl dX12_reads_6 ?_
  obtain ⟨σ2, hs2, h⟩ := stp_elim h
  refine G_putI C fl_X12_283_11 fp_X12_11_42 (Or.inl rfl) (Or.inl rfl) ko_81 dX12_reads_7 ?_
  rw [← hs2]
  refine G_aload_n C 0 rfl rfl dX12_reads_10 ?_
  refine G_iconst C (v := 0) rfl dX12_reads_11 ?_
  obtain ⟨σ3, hs3, h⟩ := stp_elim h
  refine G_putI C fl_X12_286_11 fp_X12_11_43 (Or.inl rfl) (Or.inl rfl) ko_81 dX12_reads_12 ?_
  rw [← hs3]
  refine G_aload_n C 0 rfl rfl dX12_reads_15 ?_
  refine G_sipush C (v := 1210) rfl dX12_reads_16 ?_
  refine G_iload_n C 1 rfl rfl dX12_reads_19 ?_
  refine G_imul C dX12_reads_20 ?_
  obtain ⟨σ4, hs4, h⟩ := stp_elim h
  refine G_putI C fl_X12_329_11 fp_X12_11_51 (Or.inl rfl) (Or.inl rfl) ko_81 dX12_reads_21 ?_
  rw [← hs4]
  refine G_aload_n C 0 rfl rfl dX12_reads_24 ?_
  refine G_iconst C (v := 0) rfl dX12_reads_25 ?_
  obtain ⟨σ5, hs5, h⟩ := stp_elim h
  refine G_putI C fl_X12_377_11 fp_X12_11_54 (Or.inl rfl) (Or.inl rfl) ko_81 dX12_reads_26 ?_
  rw [← hs5]
  refine G_aload_n C 0 rfl rfl dX12_reads_29 ?_
  refine G_getF C fl_X12_117_11 rfl rfl fn_81_59 dX12_reads_30 ?_
  refine G_iload_n C 1 rfl rfl dX12_reads_33 ?_
  refine G_iconst C (v := 0) rfl dX12_reads_34 ?_
  obtain ⟨hc6, h⟩ := ifn h
  obtain ⟨σ7, hs7, h⟩ := stp_elim h
  refine G_iastore C ks_116 hc6 dX12_reads_35 ?_
  rw [← hs7]
  refine G_aload_n C 0 rfl rfl dX12_reads_36 ?_
  refine G_getF C fl_X12_120_11 rfl rfl fn_81_60 dX12_reads_37 ?_
  refine G_iload_n C 1 rfl rfl dX12_reads_40 ?_
  refine G_iconst C (v := 0) rfl dX12_reads_41 ?_
  obtain ⟨σ8, hs8, h⟩ := stp_elim h
  refine G_iastore C ks_117 hc6 dX12_reads_42 ?_
  rw [← hs8]
  refine G_aload_n C 0 rfl rfl dX12_reads_43 ?_
  refine G_getF C fl_X12_123_11 rfl rfl fn_81_61 dX12_reads_44 ?_
  refine G_iload_n C 1 rfl rfl dX12_reads_47 ?_
  refine G_iconst C (v := 0) rfl dX12_reads_48 ?_
  obtain ⟨σ9, hs9, h⟩ := stp_elim h
  refine G_iastore C ks_118 hc6 dX12_reads_49 ?_
  rw [← hs9]
  refine G_aload_n C 0 rfl rfl dX12_reads_50 ?_
  refine G_getF C fl_X12_126_11 rfl rfl fn_81_62 dX12_reads_51 ?_
  refine G_iload_n C 1 rfl rfl dX12_reads_54 ?_
  refine G_iconst C (v := -1) rfl dX12_reads_55 ?_
  obtain ⟨σ10, hs10, h⟩ := stp_elim h
  refine G_iastore C ks_119 hc6 dX12_reads_56 ?_
  rw [← hs10]
  refine G_aload_n C 0 rfl rfl dX12_reads_57 ?_
  refine G_getF C fl_X12_129_11 rfl rfl fn_81_63 dX12_reads_58 ?_
  refine G_iload_n C 1 rfl rfl dX12_reads_61 ?_
  refine G_bipush C (v := 70) rfl dX12_reads_62 ?_
  obtain ⟨σ11, hs11, h⟩ := stp_elim h
  refine G_iastore C ks_120 hc6 dX12_reads_64 ?_
  rw [← hs11]
  refine G_aload_n C 0 rfl rfl dX12_reads_65 ?_
  refine G_getF C fl_X12_132_11 rfl rfl fn_81_64 dX12_reads_66 ?_
  refine G_iload_n C 1 rfl rfl dX12_reads_69 ?_
  refine G_sipush C (v := 300) rfl dX12_reads_70 ?_
  obtain ⟨σ12, hs12, h⟩ := stp_elim h
  refine G_iastore C ks_121 hc6 dX12_reads_73 ?_
  rw [← hs12]
  refine G_aload_n C 0 rfl rfl dX12_reads_74 ?_
  refine G_getF C fl_X12_135_11 rfl rfl fn_81_65 dX12_reads_75 ?_
  refine G_iload_n C 1 rfl rfl dX12_reads_78 ?_
  refine G_iconst C (v := 0) rfl dX12_reads_79 ?_
  obtain ⟨σ13, hs13, h⟩ := stp_elim h
  refine G_iastore C ks_122 hc6 dX12_reads_80 ?_
  rw [← hs13]
  refine G_aload_n C 0 rfl rfl dX12_reads_81 ?_
  refine G_getF C fl_X12_138_11 rfl rfl fn_81_66 dX12_reads_82 ?_
  refine G_iload_n C 1 rfl rfl dX12_reads_85 ?_
  refine G_iconst C (v := -1) rfl dX12_reads_86 ?_
  obtain ⟨σ14, hs14, h⟩ := stp_elim h
  refine G_iastore C ks_123 hc6 dX12_reads_87 ?_
  rw [← hs14]
  refine G_aload_n C 0 rfl rfl dX12_reads_88 ?_
  obtain ⟨σ15, hv15, h⟩ := bnd h
  refine G_callV (run_V C [] [] (dX12_goes hv15) ml_X12_goes mv_X12_goes lk_X12_352 ⟨(Nat.le_of_ble_eq_true rfl), (Nat.le_of_ble_eq_true rfl)⟩ ⟨(Nat.le_of_ble_eq_true rfl), (Nat.le_of_ble_eq_true rfl)⟩ vq_11 rfl ko_81 rfl (Nat.le_of_ble_eq_true rfl) dX12_reads_89) ?_
  refine G_sub [0, 1] rfl ?_
  exact eX12_reads_92 C hr h
set_option maxRecDepth 100000 in
set_option maxHeartbeats 4000000 in
theorem eX12_law_66 (C : Cx E p s m args meth c cX12_law 4 RX12) (hr : meth.sig.returnType = (some .int)) {σ0 : Sto} {r1 : Int32} {r2 : Sto} {σ : Sto} (h : mX12_law_66 σ = some (r1, r2)) : G p l e (rmd 9 0 0) s m args below meth c E true (sZ σ0) ad0 (MQ below (QI E true σ0 r1 r2 ad0) args s 0 0 (AE E)) 4 0 0 σ 66 [(0, .ref 81)] [] := by
  unfold mX12_law_66 at h
  refine G_aload_n C 0 rfl rfl dX12_law_66 ?_
  refine G_iconst C (v := 0) rfl dX12_law_67 ?_
  obtain ⟨σ10, hs10, h⟩ := stp_elim h
  refine G_putI C fl_X12_276_11 fp_X12_11_39 (Or.inl rfl) (Or.inl rfl) ko_81 dX12_law_68 ?_
  rw [← hs10]
  refine G_bipush C (v := -9) rfl dX12_law_71 ?_
  obtain ⟨rfl, rfl⟩ := some2 h
  exact G_iret C hr (Nat.le_of_ble_eq_true rfl) (Nat.le_of_ble_eq_true rfl) dX12_law_73
set_option maxRecDepth 100000 in
set_option maxHeartbeats 4000000 in
theorem eX12_law_31 (C : Cx E p s m args meth c cX12_law 4 RX12) (hr : meth.sig.returnType = (some .int)) {σ0 : Sto} {r1 : Int32} {r2 : Sto} {σ : Sto} {x1 : Int32} {x2 : Int32} {x3 : Int32} {y1 : Int32} (h : mX12_law_31 x1 x2 x3 y1 σ = some (r1, r2)) : G p l e (rmd 9 0 0) s m args below meth c E true (sZ σ0) ad0 (MQ below (QI E true σ0 r1 r2 ad0) args s 0 0 (AE E)) 4 0 0 σ 31 [(0, .ref 81), (1, .int x1), (2, .int x2), (3, .int x3)] [.int y1, .ref 81] := by
  unfold mX12_law_31 at h
  refine G_iconst C (v := 2) rfl dX12_law_31 ?_
  obtain ⟨v5, σ5, hv5, h⟩ := bd2_elim h
  refine G_callI (run_V C [.int y1, .int (2 : Int32)] [] (dX12_right hv5) ml_X12_right mv_X12_right lk_X12_214 ⟨(Nat.le_of_ble_eq_true rfl), (Nat.le_of_ble_eq_true rfl)⟩ ⟨(Nat.le_of_ble_eq_true rfl), (Nat.le_of_ble_eq_true rfl)⟩ vq_11 rfl ko_81 rfl (Nat.le_of_ble_eq_true rfl) dX12_law_32) ?_
  refine G_if_ne (tgt := 40) C rfl dX12_law_35 (fun hc6 => ?_) (fun hc6 => ?_)
  · replace h := (if_neg hc6).symm.trans h
    refine G_aload_n C 0 rfl rfl dX12_law_40 ?_
    refine G_iconst C (v := -1) rfl dX12_law_41 ?_
    obtain ⟨σ7, hs7, h⟩ := stp_elim h
    refine G_putI C fl_X12_101_11 fp_X12_11_41 (Or.inl rfl) (Or.inl rfl) ko_81 dX12_law_42 ?_
    rw [← hs7]
    refine G_aload_n C 0 rfl rfl dX12_law_45 ?_
    refine G_iconst C (v := 0) rfl dX12_law_46 ?_
    obtain ⟨σ8, hs8, h⟩ := stp_elim h
    refine G_putI C fl_X12_326_11 fp_X12_11_40 (Or.inl rfl) (Or.inl rfl) ko_81 dX12_law_47 ?_
    rw [← hs8]
    refine G_aload_n C 0 rfl rfl dX12_law_50 ?_
    refine G_getI C fl_X12_267_11 (Or.inl rfl) ko_81 dX12_law_51 ?_
    refine G_bipush C (v := 12) rfl dX12_law_54 ?_
    refine G_icmp_eq (tgt := 66) C rfl dX12_law_56 (fun hc9 => ?_) (fun hc9 => ?_)
    · replace h := (if_pos hc9).symm.trans h
      refine G_sub [0] rfl ?_
      exact eX12_law_66 C hr h
    · replace h := (if_neg hc9).symm.trans h
      refine G_iload_n C 3 rfl rfl dX12_law_59 ?_
      refine G_callI (run_S C [.int x3] [] (dX12_isDay rfl) ml_X12_isDay ms_X12_isDay lk_X12_235 ⟨(Nat.le_of_ble_eq_true rfl), (Nat.le_of_ble_eq_true rfl)⟩ ⟨(Nat.le_of_ble_eq_true rfl), (Nat.le_of_ble_eq_true rfl)⟩ rfl (Nat.le_of_ble_eq_true rfl) dX12_law_60) ?_
      refine G_if_ne (tgt := 74) C rfl dX12_law_63 (fun hc12 => ?_) (fun hc12 => ?_)
      · replace h := (if_neg hc12).symm.trans h
        refine G_aload_n C 0 rfl rfl dX12_law_74 ?_
        refine G_aload_n C 0 rfl rfl dX12_law_75 ?_
        refine G_getI C fl_X12_267_11 (Or.inl rfl) ko_81 dX12_law_76 ?_
        refine G_iload_n C 2 rfl rfl dX12_law_79 ?_
        obtain ⟨σ13, hv13, h⟩ := bnd h
        refine G_callV (run_V C [.int (sI σ8 81 50), .int x2] [] (dX12_reads hv13) ml_X12_reads mv_X12_reads lk_X12_394 ⟨(Nat.le_of_ble_eq_true rfl), (Nat.le_of_ble_eq_true rfl)⟩ ⟨(Nat.le_of_ble_eq_true rfl), (Nat.le_of_ble_eq_true rfl)⟩ vq_11 rfl ko_81 rfl (Nat.le_of_ble_eq_true rfl) dX12_law_80) ?_
        refine G_aload_n C 0 rfl rfl dX12_law_83 ?_
        refine G_callI (run_V C [] [] (dX12_isGood rfl) ml_X12_isGood mv_X12_isGood lk_X12_341 ⟨(Nat.le_of_ble_eq_true rfl), (Nat.le_of_ble_eq_true rfl)⟩ ⟨(Nat.le_of_ble_eq_true rfl), (Nat.le_of_ble_eq_true rfl)⟩ vq_11 rfl ko_81 rfl (Nat.le_of_ble_eq_true rfl) dX12_law_84) ?_
        refine G_if_ne (tgt := 97) C rfl dX12_law_87 (fun hc15 => ?_) (fun hc15 => ?_)
        · replace h := (if_neg hc15).symm.trans h
          refine G_aload_n C 0 rfl rfl dX12_law_97 ?_
          refine G_getF C fl_X12_105_11 rfl rfl fn_81_55 dX12_law_98 ?_
          refine G_aload_n C 0 rfl rfl dX12_law_101 ?_
          refine G_getI C fl_X12_267_11 (Or.inl rfl) ko_81 dX12_law_102 ?_
          refine G_iload_n C 1 rfl rfl dX12_law_105 ?_
          obtain ⟨hc16, h⟩ := ifn h
          obtain ⟨σ17, hs17, h⟩ := stp_elim h
          refine G_iastore C ks_112 hc16 dX12_law_106 ?_
          rw [← hs17]
          refine G_aload_n C 0 rfl rfl dX12_law_107 ?_
          refine G_getF C fl_X12_108_11 rfl rfl fn_81_56 dX12_law_108 ?_
          refine G_aload_n C 0 rfl rfl dX12_law_111 ?_
          refine G_getI C fl_X12_267_11 (Or.inl rfl) ko_81 dX12_law_112 ?_
          refine G_iload_n C 3 rfl rfl dX12_law_115 ?_
          obtain ⟨hc18, h⟩ := ifn h
          obtain ⟨σ19, hs19, h⟩ := stp_elim h
          refine G_iastore C ks_113 hc18 dX12_law_116 ?_
          rw [← hs19]
          refine G_aload_n C 0 rfl rfl dX12_law_117 ?_
          refine G_getF C fl_X12_111_11 rfl rfl fn_81_57 dX12_law_118 ?_
          refine G_aload_n C 0 rfl rfl dX12_law_121 ?_
          refine G_getI C fl_X12_267_11 (Or.inl rfl) ko_81 dX12_law_122 ?_
          refine G_aload_n C 0 rfl rfl dX12_law_125 ?_
          refine G_getI C fl_X12_250_11 (Or.inl rfl) ko_81 dX12_law_126 ?_
          obtain ⟨hc20, h⟩ := ifn h
          obtain ⟨σ21, hs21, h⟩ := stp_elim h
          refine G_iastore C ks_114 hc20 dX12_law_129 ?_
          rw [← hs21]
          refine G_aload_n C 0 rfl rfl dX12_law_130 ?_
          refine G_getF C fl_X12_114_11 rfl rfl fn_81_58 dX12_law_131 ?_
          refine G_aload_n C 0 rfl rfl dX12_law_134 ?_
          refine G_getI C fl_X12_267_11 (Or.inl rfl) ko_81 dX12_law_135 ?_
          refine G_iconst C (v := -1) rfl dX12_law_138 ?_
          obtain ⟨hc22, h⟩ := ifn h
          obtain ⟨σ23, hs23, h⟩ := stp_elim h
          refine G_iastore C ks_115 hc22 dX12_law_139 ?_
          rw [← hs23]
          refine G_aload_n C 0 rfl rfl dX12_law_140 ?_
          refine G_dup C rfl dX12_law_141 ?_
          refine G_getI C fl_X12_267_11 (Or.inl rfl) ko_81 dX12_law_142 ?_
          refine G_iconst C (v := 1) rfl dX12_law_145 ?_
          refine G_iadd C dX12_law_146 ?_
          obtain ⟨σ24, hs24, h⟩ := stp_elim h
          refine G_putI C fl_X12_267_11 fp_X12_11_50 (Or.inl rfl) (Or.inl rfl) ko_81 dX12_law_147 ?_
          rw [← hs24]
          refine G_aload_n C 0 rfl rfl dX12_law_150 ?_
          refine G_getI C fl_X12_267_11 (Or.inl rfl) ko_81 dX12_law_151 ?_
          refine G_iconst C (v := 1) rfl dX12_law_154 ?_
          refine G_isub C dX12_law_155 ?_
          obtain ⟨rfl, rfl⟩ := some2 h
          exact G_iret C hr (Nat.le_of_ble_eq_true rfl) (Nat.le_of_ble_eq_true rfl) dX12_law_156
        · replace h := (if_pos hc15).symm.trans h
          refine G_iconst C (v := -1) rfl dX12_law_90 ?_
          refine G_aload_n C 0 rfl rfl dX12_law_91 ?_
          refine G_getI C fl_X12_326_11 (Or.inl rfl) ko_81 dX12_law_92 ?_
          refine G_isub C dX12_law_95 ?_
          obtain ⟨rfl, rfl⟩ := some2 h
          exact G_iret C hr (Nat.le_of_ble_eq_true rfl) (Nat.le_of_ble_eq_true rfl) dX12_law_96
      · replace h := (if_pos hc12).symm.trans h
        refine G_sub [0] rfl ?_
        exact eX12_law_66 C hr h
  · replace h := (if_pos hc6).symm.trans h
    refine G_iconst C (v := 0) rfl dX12_law_38 ?_
    obtain ⟨rfl, rfl⟩ := some2 h
    exact G_iret C hr (Nat.le_of_ble_eq_true rfl) (Nat.le_of_ble_eq_true rfl) dX12_law_39
set_option maxRecDepth 100000 in
set_option maxHeartbeats 4000000 in
theorem eX12_law_30 (C : Cx E p s m args meth c cX12_law 4 RX12) (hr : meth.sig.returnType = (some .int)) {σ0 : Sto} {r1 : Int32} {r2 : Sto} {σ : Sto} {x1 : Int32} {x2 : Int32} {x3 : Int32} (h : mX12_law_30 x1 x2 x3 σ = some (r1, r2)) : G p l e (rmd 9 0 0) s m args below meth c E true (sZ σ0) ad0 (MQ below (QI E true σ0 r1 r2 ad0) args s 0 0 (AE E)) 4 0 0 σ 30 [(0, .ref 81), (1, .int x1), (2, .int x2), (3, .int x3)] [.ref 81] := by
  unfold mX12_law_30 at h
  refine G_iconst C (v := 0) rfl dX12_law_30 ?_
  exact eX12_law_31 C hr h
set_option maxRecDepth 100000 in
set_option maxHeartbeats 4000000 in
theorem dX12_law {σ : Sto} {p0 : Int32} {p1 : Int32} {p2 : Int32} {r1 : Int32} {r2 : Sto} (h : mX12_law p0 p1 p2 σ = some (r1, r2)) : MM l yX12_law cX12_law 4 (some .int) 9 0 0 E true σ [.ref 81, .int p0, .int p1, .int p2] (QI E true σ r1 r2) := by
  unfold mX12_law at h
  refine MM_of (by decide) (Nat.le_of_ble_eq_true rfl) rfl (fun p e s m args below meth c ad0 C hr hn => ?_)
  refine G_aload_n C 0 rfl rfl dX12_law_0 ?_
  refine G_iconst C (v := 0) rfl dX12_law_1 ?_
  obtain ⟨σ1, hs1, h⟩ := stp_elim h
  refine G_putI C fl_X12_208_11 fp_X12_11_0 (Or.inl rfl) (Or.inl rfl) ko_81 dX12_law_2 ?_
  rw [← hs1]
  refine G_aload_n C 0 rfl rfl dX12_law_5 ?_
  refine G_iload_n C 1 rfl rfl dX12_law_6 ?_
  obtain ⟨v2, σ2, hv2, h⟩ := bd2_elim h
  refine G_callI (run_V C [.int p0] [] (dX12_isLand hv2) ml_X12_isLand mv_X12_isLand lk_X12_228 ⟨(Nat.le_of_ble_eq_true rfl), (Nat.le_of_ble_eq_true rfl)⟩ ⟨(Nat.le_of_ble_eq_true rfl), (Nat.le_of_ble_eq_true rfl)⟩ vq_11 rfl ko_81 rfl (Nat.le_of_ble_eq_true rfl) dX12_law_7) ?_
  refine G_if_eq (tgt := 38) C rfl dX12_law_10 (fun hc3 => ?_) (fun hc3 => ?_)
  · replace h := (if_pos hc3).symm.trans h
    refine G_iconst C (v := 0) rfl dX12_law_38 ?_
    obtain ⟨rfl, rfl⟩ := some2 h
    exact G_iret C hr (Nat.le_of_ble_eq_true rfl) (Nat.le_of_ble_eq_true rfl) dX12_law_39
  · replace h := (if_neg hc3).symm.trans h
    refine G_aload_n C 0 rfl rfl dX12_law_13 ?_
    refine G_iload_n C 2 rfl rfl dX12_law_14 ?_
    refine G_if_lt (tgt := 30) C rfl dX12_law_15 (fun hc4 => ?_) (fun hc4 => ?_)
    · replace h := (if_pos hc4).symm.trans h
      exact eX12_law_30 C hr h
    · replace h := (if_neg hc4).symm.trans h
      refine G_iload_n C 2 rfl rfl dX12_law_18 ?_
      refine G_aload_n C 0 rfl rfl dX12_law_19 ?_
      refine G_getI C fl_X12_276_11 (Or.inl rfl) ko_81 dX12_law_20 ?_
      refine G_icmp_gt (tgt := 30) C rfl dX12_law_23 (fun hc25 => ?_) (fun hc25 => ?_)
      · replace h := (if_pos hc25).symm.trans h
        exact eX12_law_30 C hr h
      · replace h := (if_neg hc25).symm.trans h
        refine G_iconst C (v := 1) rfl dX12_law_26 ?_
        refine G_goto (tgt := 31) C rfl dX12_law_27 ?_
        exact eX12_law_31 C hr h
set_option maxRecDepth 100000 in
set_option maxHeartbeats 4000000 in
theorem dX12_fault {σ : Sto} {r1 : Int32} {r2 : Sto} (h : mX12_fault σ = some (r1, r2)) : MM l yX12_fault cX12_fault 1 (some .int) 1 0 0 E true σ [.ref 81] (QI E true σ r1 r2) := by
  unfold mX12_fault at h
  refine MM_of (by decide) (Nat.le_of_ble_eq_true rfl) rfl (fun p e s m args below meth c ad0 C hr hn => ?_)
  refine G_aload_n C 0 rfl rfl dX12_fault_0 ?_
  refine G_iconst C (v := 0) rfl dX12_fault_1 ?_
  obtain ⟨σ1, hs1, h⟩ := stp_elim h
  refine G_putI C fl_X12_208_11 fp_X12_11_0 (Or.inl rfl) (Or.inl rfl) ko_81 dX12_fault_2 ?_
  rw [← hs1]
  refine G_aload_n C 0 rfl rfl dX12_fault_5 ?_
  refine G_getI C fl_X12_101_11 (Or.inl rfl) ko_81 dX12_fault_6 ?_
  obtain ⟨rfl, rfl⟩ := some2 h
  exact G_iret C hr (Nat.le_of_ble_eq_true rfl) (Nat.le_of_ble_eq_true rfl) dX12_fault_9
set_option maxRecDepth 100000 in
set_option maxHeartbeats 4000000 in
theorem eX12_gathers_102 (C : Cx E p s m args meth c cX12_gathers 5 RX12) (hr : meth.sig.returnType = none) {σ0 : Sto} {r2 : Sto} {σ : Sto} {f37 : Int32 → Int32 → Int32 → Sto → Option Sto} {f53 : Int32 → Int32 → Int32 → Int32 → Sto → Option Sto} {x1 : Int32} {x2 : Int32} {x3 : Int32} {x4 : Int32} (hf37 : ∀ (x1 : Int32) (x2 : Int32) (x3 : Int32) (σ' : Sto), f37 x1 x2 x3 σ' = some r2 → G p l e (rmd 2 0 0) s m args below meth c E true (sZ σ0) ad0 (MQ below (QV E true σ0 r2 ad0) args s 0 0 (AE E)) 5 0 0 σ' 37 [(0, .ref 81), (1, .int x1), (2, .int x2), (3, .int x3)] []) (hf53 : ∀ (x1 : Int32) (x2 : Int32) (x3 : Int32) (x4 : Int32) (σ' : Sto), f53 x1 x2 x3 x4 σ' = some r2 → G p l e (rmd 2 0 0) s m args below meth c E true (sZ σ0) ad0 (MQ below (QV E true σ0 r2 ad0) args s 0 0 (AE E)) 5 0 0 σ' 53 [(0, .ref 81), (1, .int x1), (2, .int x2), (3, .int x3), (4, .int x4)] []) (h : mX12_gathers_102 f37 f53 x1 x2 x3 x4 σ = some r2) : G p l e (rmd 2 0 0) s m args below meth c E true (sZ σ0) ad0 (MQ below (QV E true σ0 r2 ad0) args s 0 0 (AE E)) 5 0 0 σ 102 [(0, .ref 81), (1, .int x1), (2, .int x2), (3, .int x3), (4, .int x4)] [] := by
  unfold mX12_gathers_102 at h
  refine G_aload_n C 0 rfl rfl dX12_gathers_102 ?_
  refine G_iload C 4 rfl dX12_gathers_103 ?_
  refine G_iload_n C 1 rfl rfl dX12_gathers_105 ?_
  obtain ⟨v12, hv12, h⟩ := bnd h
  refine G_callI (run_V C [.int x4, .int x1] [] (dX12_isKnown hv12) ml_X12_isKnown mv_X12_isKnown lk_X12_260 ⟨(Nat.le_of_ble_eq_true rfl), (Nat.le_of_ble_eq_true rfl)⟩ ⟨(Nat.le_of_ble_eq_true rfl), (Nat.le_of_ble_eq_true rfl)⟩ vq_11 rfl ko_81 rfl (Nat.le_of_ble_eq_true rfl) dX12_gathers_106) ?_
  refine G_if_ne (tgt := 115) C rfl dX12_gathers_109 (fun hc13 => ?_) (fun hc13 => ?_)
  · replace h := (if_neg hc13).symm.trans h
    refine G_aload_n C 0 rfl rfl dX12_gathers_115 ?_
    refine G_getF C fl_X12_56_11 rfl rfl fn_81_24 dX12_gathers_116 ?_
    refine G_iload C 4 rfl dX12_gathers_119 ?_
    obtain ⟨hc14, h⟩ := ifn h
    refine G_iaload C ks_97 hc14 dX12_gathers_121 ?_
    refine G_if_ne (tgt := 154) C rfl dX12_gathers_122 (fun hc15 => ?_) (fun hc15 => ?_)
    · replace h := (if_neg hc15).symm.trans h
      refine G_aload_n C 0 rfl rfl dX12_gathers_154 ?_
      refine G_getF C fl_X12_165_11 rfl rfl fn_81_77 dX12_gathers_155 ?_
      refine G_iload_n C 2 rfl rfl dX12_gathers_158 ?_
      refine G_iload C 4 rfl dX12_gathers_159 ?_
      obtain ⟨hc16, h⟩ := ifn h
      obtain ⟨σ17, hs17, h⟩ := stp_elim h
      refine G_iastore C ks_132 hc16 dX12_gathers_161 ?_
      rw [← hs17]
      refine G_iinc (v := 1) (L' := [(2, .int (x2 + (1 : Int32))), (0, .ref 81), (1, .int x1), (3, .int x3), (4, .int x4)]) C 2 rfl rfl (Nat.le_of_ble_eq_true rfl) rfl dX12_gathers_162 ?_
      refine G_iinc (v := 1) (L' := [(4, .int (x4 + (1 : Int32))), (2, .int (x2 + (1 : Int32))), (0, .ref 81), (1, .int x1), (3, .int x3)]) C 4 rfl rfl (Nat.le_of_ble_eq_true rfl) rfl dX12_gathers_165 ?_
      refine G_goto (tgt := 53) C rfl dX12_gathers_168 ?_
      refine G_sub [2, 3, 1, 4, 0] rfl ?_
      exact hf53 _ _ _ _ _ h
    · replace h := (if_pos hc15).symm.trans h
      refine G_aload_n C 0 rfl rfl dX12_gathers_125 ?_
      refine G_getF C fl_X12_156_11 rfl rfl fn_81_74 dX12_gathers_126 ?_
      refine G_iload_n C 3 rfl rfl dX12_gathers_129 ?_
      refine G_aload_n C 0 rfl rfl dX12_gathers_130 ?_
      refine G_getF C fl_X12_68_11 rfl rfl fn_81_28 dX12_gathers_131 ?_
      refine G_iload C 4 rfl dX12_gathers_134 ?_
      refine G_iaload C ks_101 hc14 dX12_gathers_136 ?_
      obtain ⟨hc18, h⟩ := ifn h
      obtain ⟨σ19, hs19, h⟩ := stp_elim h
      refine G_iastore C ks_129 hc18 dX12_gathers_137 ?_
      rw [← hs19]
      refine G_aload_n C 0 rfl rfl dX12_gathers_138 ?_
      refine G_getF C fl_X12_159_11 rfl rfl fn_81_75 dX12_gathers_139 ?_
      refine G_iload_n C 3 rfl rfl dX12_gathers_142 ?_
      refine G_aload_n C 0 rfl rfl dX12_gathers_143 ?_
      refine G_getF C fl_X12_71_11 rfl rfl fn_81_29 dX12_gathers_144 ?_
      refine G_iload C 4 rfl dX12_gathers_147 ?_
      refine G_iaload C ks_102 hc14 dX12_gathers_149 ?_
      obtain ⟨σ20, hs20, h⟩ := stp_elim h
      refine G_iastore C ks_130 hc18 dX12_gathers_150 ?_
      rw [← hs20]
      refine G_goto (tgt := 165) C rfl dX12_gathers_151 ?_
      refine G_iinc (v := 1) (L' := [(4, .int (x4 + (1 : Int32))), (0, .ref 81), (1, .int x1), (2, .int x2), (3, .int x3)]) C 4 rfl rfl (Nat.le_of_ble_eq_true rfl) rfl dX12_gathers_165 ?_
      refine G_goto (tgt := 53) C rfl dX12_gathers_168 ?_
      refine G_sub [1, 2, 3, 4, 0] rfl ?_
      exact hf53 _ _ _ _ _ h
  · replace h := (if_pos hc13).symm.trans h
    refine G_goto (tgt := 165) C rfl dX12_gathers_112 ?_
    refine G_iinc (v := 1) (L' := [(4, .int (x4 + (1 : Int32))), (0, .ref 81), (1, .int x1), (2, .int x2), (3, .int x3)]) C 4 rfl rfl (Nat.le_of_ble_eq_true rfl) rfl dX12_gathers_165 ?_
    refine G_goto (tgt := 53) C rfl dX12_gathers_168 ?_
    refine G_sub [1, 2, 3, 4, 0] rfl ?_
    exact hf53 _ _ _ _ _ h
set_option maxRecDepth 100000 in
set_option maxHeartbeats 4000000 in
theorem eX12_gathers_53B (C : Cx E p s m args meth c cX12_gathers 5 RX12) (hr : meth.sig.returnType = none) {σ0 : Sto} {r2 : Sto} {σ : Sto} {f37 : Int32 → Int32 → Int32 → Sto → Option Sto} {f53 : Int32 → Int32 → Int32 → Int32 → Sto → Option Sto} {x1 : Int32} {x2 : Int32} {x3 : Int32} {x4 : Int32} (hf37 : ∀ (x1 : Int32) (x2 : Int32) (x3 : Int32) (σ' : Sto), f37 x1 x2 x3 σ' = some r2 → G p l e (rmd 2 0 0) s m args below meth c E true (sZ σ0) ad0 (MQ below (QV E true σ0 r2 ad0) args s 0 0 (AE E)) 5 0 0 σ' 37 [(0, .ref 81), (1, .int x1), (2, .int x2), (3, .int x3)] []) (hf53 : ∀ (x1 : Int32) (x2 : Int32) (x3 : Int32) (x4 : Int32) (σ' : Sto), f53 x1 x2 x3 x4 σ' = some r2 → G p l e (rmd 2 0 0) s m args below meth c E true (sZ σ0) ad0 (MQ below (QV E true σ0 r2 ad0) args s 0 0 (AE E)) 5 0 0 σ' 53 [(0, .ref 81), (1, .int x1), (2, .int x2), (3, .int x3), (4, .int x4)] []) (h : mX12_gathers_53B f37 f53 x1 x2 x3 x4 σ = some r2) : G p l e (rmd 2 0 0) s m args below meth c E true (sZ σ0) ad0 (MQ below (QV E true σ0 r2 ad0) args s 0 0 (AE E)) 5 0 0 σ 53 [(0, .ref 81), (1, .int x1), (2, .int x2), (3, .int x3), (4, .int x4)] [] := by
  unfold mX12_gathers_53B at h
  refine G_iload C 4 rfl dX12_gathers_53 ?_
  refine G_aload_n C 0 rfl rfl dX12_gathers_55 ?_
  refine G_getI C fl_X12_253_11 (Or.inl rfl) ko_81 dX12_gathers_56 ?_
  refine G_icmp_ge (tgt := 171) C rfl dX12_gathers_59 (fun hc7 => ?_) (fun hc7 => ?_)
  · replace h := (if_pos hc7).symm.trans h
    refine G_iinc (v := 1) (L' := [(3, .int (x3 + (1 : Int32))), (0, .ref 81), (1, .int x1), (2, .int x2), (4, .int x4)]) C 3 rfl rfl (Nat.le_of_ble_eq_true rfl) rfl dX12_gathers_171 ?_
    refine G_goto (tgt := 37) C rfl dX12_gathers_174 ?_
    refine G_sub [1, 2, 3, 0] rfl ?_
    exact hf37 _ _ _ _ h
  · replace h := (if_neg hc7).symm.trans h
    refine G_iload_n C 3 rfl rfl dX12_gathers_62 ?_
    refine G_aload_n C 0 rfl rfl dX12_gathers_63 ?_
    refine G_getI C fl_X12_218_11 (Or.inl rfl) ko_81 dX12_gathers_64 ?_
    refine G_icmp_ge (tgt := 171) C rfl dX12_gathers_67 (fun hc8 => ?_) (fun hc8 => ?_)
    · replace h := (if_pos hc8).symm.trans h
      refine G_iinc (v := 1) (L' := [(3, .int (x3 + (1 : Int32))), (0, .ref 81), (1, .int x1), (2, .int x2), (4, .int x4)]) C 3 rfl rfl (Nat.le_of_ble_eq_true rfl) rfl dX12_gathers_171 ?_
      refine G_goto (tgt := 37) C rfl dX12_gathers_174 ?_
      refine G_sub [1, 2, 3, 0] rfl ?_
      exact hf37 _ _ _ _ h
    · replace h := (if_neg hc8).symm.trans h
      refine G_aload_n C 0 rfl rfl dX12_gathers_70 ?_
      refine G_getF C fl_X12_62_11 rfl rfl fn_81_26 dX12_gathers_71 ?_
      refine G_iload C 4 rfl dX12_gathers_74 ?_
      obtain ⟨hc9, h⟩ := ifn h
      refine G_iaload C ks_99 hc9 dX12_gathers_76 ?_
      refine G_iload_n C 3 rfl rfl dX12_gathers_77 ?_
      refine G_icmp_ne (tgt := 165) C rfl dX12_gathers_78 (fun hc10 => ?_) (fun hc10 => ?_)
      · replace h := (if_neg hc10).symm.trans h
        refine G_iinc (v := 1) (L' := [(4, .int (x4 + (1 : Int32))), (0, .ref 81), (1, .int x1), (2, .int x2), (3, .int x3)]) C 4 rfl rfl (Nat.le_of_ble_eq_true rfl) rfl dX12_gathers_165 ?_
        refine G_goto (tgt := 53) C rfl dX12_gathers_168 ?_
        refine G_sub [1, 2, 3, 4, 0] rfl ?_
        exact hf53 _ _ _ _ _ h
      · replace h := (if_pos hc10).symm.trans h
        refine G_aload_n C 0 rfl rfl dX12_gathers_81 ?_
        refine G_getF C fl_X12_56_11 rfl rfl fn_81_24 dX12_gathers_82 ?_
        refine G_iload C 4 rfl dX12_gathers_85 ?_
        refine G_iaload C ks_97 hc9 dX12_gathers_87 ?_
        refine G_iconst C (v := 1) rfl dX12_gathers_88 ?_
        refine G_icmp_eq (tgt := 102) C rfl dX12_gathers_89 (fun hc11 => ?_) (fun hc11 => ?_)
        · replace h := (if_pos hc11).symm.trans h
          exact eX12_gathers_102 C hr hf37 hf53 h
        · replace h := (if_neg hc11).symm.trans h
          refine G_aload_n C 0 rfl rfl dX12_gathers_92 ?_
          refine G_getF C fl_X12_56_11 rfl rfl fn_81_24 dX12_gathers_93 ?_
          refine G_iload C 4 rfl dX12_gathers_96 ?_
          refine G_iaload C ks_97 hc9 dX12_gathers_98 ?_
          refine G_if_ne (tgt := 165) C rfl dX12_gathers_99 (fun hc21 => ?_) (fun hc21 => ?_)
          · replace h := (if_neg hc21).symm.trans h
            refine G_iinc (v := 1) (L' := [(4, .int (x4 + (1 : Int32))), (0, .ref 81), (1, .int x1), (2, .int x2), (3, .int x3)]) C 4 rfl rfl (Nat.le_of_ble_eq_true rfl) rfl dX12_gathers_165 ?_
            refine G_goto (tgt := 53) C rfl dX12_gathers_168 ?_
            refine G_sub [1, 2, 3, 4, 0] rfl ?_
            exact hf53 _ _ _ _ _ h
          · replace h := (if_pos hc21).symm.trans h
            exact eX12_gathers_102 C hr hf37 hf53 h
set_option maxRecDepth 100000 in
set_option maxHeartbeats 4000000 in
theorem eX12_gathers_53 (C : Cx E p s m args meth c cX12_gathers 5 RX12) (hr : meth.sig.returnType = none) {σ0 : Sto} {r2 : Sto} {σ : Sto} {f37 : Int32 → Int32 → Int32 → Sto → Option Sto} {n : Nat} {x1 : Int32} {x2 : Int32} {x3 : Int32} {x4 : Int32} (hf37 : ∀ (x1 : Int32) (x2 : Int32) (x3 : Int32) (σ' : Sto), f37 x1 x2 x3 σ' = some r2 → G p l e (rmd 2 0 0) s m args below meth c E true (sZ σ0) ad0 (MQ below (QV E true σ0 r2 ad0) args s 0 0 (AE E)) 5 0 0 σ' 37 [(0, .ref 81), (1, .int x1), (2, .int x2), (3, .int x3)] []) (h : mX12_gathers_53 f37 n x1 x2 x3 x4 σ = some r2) : G p l e (rmd 2 0 0) s m args below meth c E true (sZ σ0) ad0 (MQ below (QV E true σ0 r2 ad0) args s 0 0 (AE E)) 5 0 0 σ 53 [(0, .ref 81), (1, .int x1), (2, .int x2), (3, .int x3), (4, .int x4)] [] := by
  induction n generalizing x1 x2 x3 x4 σ with
  | zero => exact nomatch (show (none : Option Sto) = some r2 from h)
  | succ n ih => exact eX12_gathers_53B C hr hf37 (fun z0 z1 z2 z3 σ9 h9 => ih h9) h
set_option maxRecDepth 100000 in
set_option maxHeartbeats 4000000 in
theorem eX12_gathers_37B (C : Cx E p s m args meth c cX12_gathers 5 RX12) (hr : meth.sig.returnType = none) {σ0 : Sto} {r2 : Sto} {σ : Sto} {f37 : Int32 → Int32 → Int32 → Sto → Option Sto} {x1 : Int32} {x2 : Int32} {x3 : Int32} (hf37 : ∀ (x1 : Int32) (x2 : Int32) (x3 : Int32) (σ' : Sto), f37 x1 x2 x3 σ' = some r2 → G p l e (rmd 2 0 0) s m args below meth c E true (sZ σ0) ad0 (MQ below (QV E true σ0 r2 ad0) args s 0 0 (AE E)) 5 0 0 σ' 37 [(0, .ref 81), (1, .int x1), (2, .int x2), (3, .int x3)] []) (h : mX12_gathers_37B f37 x1 x2 x3 σ = some r2) : G p l e (rmd 2 0 0) s m args below meth c E true (sZ σ0) ad0 (MQ below (QV E true σ0 r2 ad0) args s 0 0 (AE E)) 5 0 0 σ 37 [(0, .ref 81), (1, .int x1), (2, .int x2), (3, .int x3)] [] := by
  unfold mX12_gathers_37B at h
  refine G_iload_n C 3 rfl rfl dX12_gathers_37 ?_
  refine G_bipush C (v := 30) rfl dX12_gathers_38 ?_
  refine G_icmp_ge (tgt := 177) C rfl dX12_gathers_40 (fun hc3 => ?_) (fun hc3 => ?_)
  · replace h := (if_pos hc3).symm.trans h
    refine G_aload_n C 0 rfl rfl dX12_gathers_177 ?_
    refine G_getF C fl_X12_162_11 rfl rfl fn_81_76 dX12_gathers_178 ?_
    refine G_bipush C (v := 30) rfl dX12_gathers_181 ?_
    refine G_iload_n C 2 rfl rfl dX12_gathers_183 ?_
    obtain ⟨σ4, hs4, h⟩ := stp_elim h
    refine G_iastore C ks_131 ⟨by decide, by decide⟩ dX12_gathers_184 ?_
    rw [← hs4]
    obtain rfl := Option.some.inj h
    exact G_vret C hr (Nat.le_of_ble_eq_true rfl) (Nat.le_of_ble_eq_true rfl) dX12_gathers_185
  · replace h := (if_neg hc3).symm.trans h
    refine G_aload_n C 0 rfl rfl dX12_gathers_43 ?_
    refine G_getF C fl_X12_162_11 rfl rfl fn_81_76 dX12_gathers_44 ?_
    refine G_iload_n C 3 rfl rfl dX12_gathers_47 ?_
    refine G_iload_n C 2 rfl rfl dX12_gathers_48 ?_
    obtain ⟨hc5, h⟩ := ifn h
    obtain ⟨σ6, hs6, h⟩ := stp_elim h
    refine G_iastore C ks_131 hc5 dX12_gathers_49 ?_
    rw [← hs6]
    refine G_iconst C (v := 0) rfl dX12_gathers_50 ?_
    refine G_istore (L' := [(4, .int (0 : Int32)), (0, .ref 81), (1, .int x1), (2, .int x2), (3, .int x3)]) C (Nat.le_of_ble_eq_true rfl) rfl dX12_gathers_51 ?_
    refine G_sub [1, 2, 3, 4, 0] rfl ?_
    exact eX12_gathers_53 C hr hf37 h
set_option maxRecDepth 100000 in
set_option maxHeartbeats 4000000 in
theorem eX12_gathers_37 (C : Cx E p s m args meth c cX12_gathers 5 RX12) (hr : meth.sig.returnType = none) {σ0 : Sto} {r2 : Sto} {σ : Sto} {n : Nat} {x1 : Int32} {x2 : Int32} {x3 : Int32} (h : mX12_gathers_37 n x1 x2 x3 σ = some r2) : G p l e (rmd 2 0 0) s m args below meth c E true (sZ σ0) ad0 (MQ below (QV E true σ0 r2 ad0) args s 0 0 (AE E)) 5 0 0 σ 37 [(0, .ref 81), (1, .int x1), (2, .int x2), (3, .int x3)] [] := by
  induction n generalizing x1 x2 x3 σ with
  | zero => exact nomatch (show (none : Option Sto) = some r2 from h)
  | succ n ih => exact eX12_gathers_37B C hr (fun z0 z1 z2 σ9 h9 => ih h9) h
set_option maxRecDepth 100000 in
set_option maxHeartbeats 4000000 in
theorem eX12_gathers_7B (C : Cx E p s m args meth c cX12_gathers 5 RX12) (hr : meth.sig.returnType = none) {σ0 : Sto} {r2 : Sto} {σ : Sto} {f7 : Int32 → Int32 → Sto → Option Sto} {x1 : Int32} {x2 : Int32} (hf7 : ∀ (x1 : Int32) (x2 : Int32) (σ' : Sto), f7 x1 x2 σ' = some r2 → G p l e (rmd 2 0 0) s m args below meth c E true (sZ σ0) ad0 (MQ below (QV E true σ0 r2 ad0) args s 0 0 (AE E)) 5 0 0 σ' 7 [(0, .ref 81), (1, .int x1), (2, .int x2)] []) (h : mX12_gathers_7B f7 x1 x2 σ = some r2) : G p l e (rmd 2 0 0) s m args below meth c E true (sZ σ0) ad0 (MQ below (QV E true σ0 r2 ad0) args s 0 0 (AE E)) 5 0 0 σ 7 [(0, .ref 81), (1, .int x1), (2, .int x2)] [] := by
  unfold mX12_gathers_7B at h
  refine G_iload_n C 2 rfl rfl dX12_gathers_7 ?_
  refine G_bipush C (v := 30) rfl dX12_gathers_8 ?_
  refine G_icmp_ge (tgt := 33) C rfl dX12_gathers_10 (fun hc2 => ?_) (fun hc2 => ?_)
  · replace h := (if_pos hc2).symm.trans h
    refine G_iconst C (v := 0) rfl dX12_gathers_33 ?_
    refine G_istore_n (L' := [(2, .int (0 : Int32)), (0, .ref 81), (1, .int x1)]) C rfl (Nat.le_of_ble_eq_true rfl) rfl dX12_gathers_34 ?_
    refine G_iconst C (v := 0) rfl dX12_gathers_35 ?_
    refine G_istore_n (L' := [(3, .int (0 : Int32)), (2, .int (0 : Int32)), (0, .ref 81), (1, .int x1)]) C rfl (Nat.le_of_ble_eq_true rfl) rfl dX12_gathers_36 ?_
    refine G_sub [2, 3, 1, 0] rfl ?_
    exact eX12_gathers_37 C hr h
  · replace h := (if_neg hc2).symm.trans h
    refine G_aload_n C 0 rfl rfl dX12_gathers_13 ?_
    refine G_getF C fl_X12_156_11 rfl rfl fn_81_74 dX12_gathers_14 ?_
    refine G_iload_n C 2 rfl rfl dX12_gathers_17 ?_
    refine G_iconst C (v := -1) rfl dX12_gathers_18 ?_
    obtain ⟨hc22, h⟩ := ifn h
    obtain ⟨σ23, hs23, h⟩ := stp_elim h
    refine G_iastore C ks_129 hc22 dX12_gathers_19 ?_
    rw [← hs23]
    refine G_aload_n C 0 rfl rfl dX12_gathers_20 ?_
    refine G_getF C fl_X12_159_11 rfl rfl fn_81_75 dX12_gathers_21 ?_
    refine G_iload_n C 2 rfl rfl dX12_gathers_24 ?_
    refine G_iconst C (v := -1) rfl dX12_gathers_25 ?_
    obtain ⟨σ24, hs24, h⟩ := stp_elim h
    refine G_iastore C ks_130 hc22 dX12_gathers_26 ?_
    rw [← hs24]
    refine G_iinc (v := 1) (L' := [(2, .int (x2 + (1 : Int32))), (0, .ref 81), (1, .int x1)]) C 2 rfl rfl (Nat.le_of_ble_eq_true rfl) rfl dX12_gathers_27 ?_
    refine G_goto (tgt := 7) C rfl dX12_gathers_30 ?_
    refine G_sub [1, 2, 0] rfl ?_
    exact hf7 _ _ _ h
set_option maxRecDepth 100000 in
set_option maxHeartbeats 4000000 in
theorem eX12_gathers_7 (C : Cx E p s m args meth c cX12_gathers 5 RX12) (hr : meth.sig.returnType = none) {σ0 : Sto} {r2 : Sto} {σ : Sto} {n : Nat} {x1 : Int32} {x2 : Int32} (h : mX12_gathers_7 n x1 x2 σ = some r2) : G p l e (rmd 2 0 0) s m args below meth c E true (sZ σ0) ad0 (MQ below (QV E true σ0 r2 ad0) args s 0 0 (AE E)) 5 0 0 σ 7 [(0, .ref 81), (1, .int x1), (2, .int x2)] [] := by
  induction n generalizing x1 x2 σ with
  | zero => exact nomatch (show (none : Option Sto) = some r2 from h)
  | succ n ih => exact eX12_gathers_7B C hr (fun z0 z1 σ9 h9 => ih h9) h
set_option maxRecDepth 100000 in
set_option maxHeartbeats 4000000 in
theorem dX12_gathers {σ : Sto} {p0 : Int32} {r2 : Sto} (h : mX12_gathers p0 σ = some r2) : MM l yX12_gathers cX12_gathers 5 none 2 0 0 E true σ [.ref 81, .int p0] (QV E true σ r2) := by
  unfold mX12_gathers at h
  refine MM_of (by decide) (Nat.le_of_ble_eq_true rfl) rfl (fun p e s m args below meth c ad0 C hr hn => ?_)
  refine G_aload_n C 0 rfl rfl dX12_gathers_0 ?_
  refine G_iload_n C 1 rfl rfl dX12_gathers_1 ?_
  obtain ⟨σ1, hs1, h⟩ := stp_elim h
  refine G_putI C fl_X12_398_11 fp_X12_11_72 (Or.inl rfl) (Or.inl rfl) ko_81 dX12_gathers_2 ?_
  rw [← hs1]
  refine G_iconst C (v := 0) rfl dX12_gathers_5 ?_
  refine G_istore_n (L' := [(2, .int (0 : Int32)), (0, .ref 81), (1, .int p0)]) C rfl (Nat.le_of_ble_eq_true rfl) rfl dX12_gathers_6 ?_
  refine G_sub [1, 2, 0] rfl ?_
  exact eX12_gathers_7 C hr h
set_option maxRecDepth 100000 in
set_option maxHeartbeats 4000000 in
theorem dX12_isDead {σ : Sto} {p0 : Int32} {p1 : Int32} {r : Int32} (h : mX12_isDead p0 p1 σ = some r) : MM l yX12_isDead cX12_isDead 3 (some .boolean) 1 0 0 E true σ [.ref 81, .int p0, .int p1] (QI E true σ r σ) := by
  unfold mX12_isDead at h
  refine MM_of (by decide) (Nat.le_of_ble_eq_true rfl) rfl (fun p e s m args below meth c ad0 C hr hn => ?_)
  refine G_aload_n C 0 rfl rfl dX12_isDead_0 ?_
  refine G_getF C fl_X12_159_11 rfl rfl fn_81_75 dX12_isDead_1 ?_
  refine G_iload_n C 1 rfl rfl dX12_isDead_4 ?_
  obtain ⟨hc1, h⟩ := ifn h
  refine G_iaload C ks_130 hc1 dX12_isDead_5 ?_
  refine G_iconst C (v := -1) rfl dX12_isDead_6 ?_
  refine G_icmp_eq (tgt := 24) C rfl dX12_isDead_7 (fun hc2 => ?_) (fun hc2 => ?_)
  · replace h := (if_pos hc2).symm.trans h
    refine G_iconst C (v := 0) rfl dX12_isDead_24 ?_
    obtain rfl := Option.some.inj h
    exact G_zret C (by decide) hr (Nat.le_of_ble_eq_true rfl) (Nat.le_of_ble_eq_true rfl) dX12_isDead_25
  · replace h := (if_neg hc2).symm.trans h
    refine G_aload_n C 0 rfl rfl dX12_isDead_10 ?_
    refine G_getF C fl_X12_159_11 rfl rfl fn_81_75 dX12_isDead_11 ?_
    refine G_iload_n C 1 rfl rfl dX12_isDead_14 ?_
    refine G_iaload C ks_130 hc1 dX12_isDead_15 ?_
    refine G_iload_n C 2 rfl rfl dX12_isDead_16 ?_
    refine G_icmp_gt (tgt := 24) C rfl dX12_isDead_17 (fun hc3 => ?_) (fun hc3 => ?_)
    · replace h := (if_pos hc3).symm.trans h
      refine G_iconst C (v := 0) rfl dX12_isDead_24 ?_
      obtain rfl := Option.some.inj h
      exact G_zret C (by decide) hr (Nat.le_of_ble_eq_true rfl) (Nat.le_of_ble_eq_true rfl) dX12_isDead_25
    · replace h := (if_neg hc3).symm.trans h
      refine G_iconst C (v := 1) rfl dX12_isDead_20 ?_
      refine G_goto (tgt := 25) C rfl dX12_isDead_21 ?_
      obtain rfl := Option.some.inj h
      exact G_zret C (by decide) hr (Nat.le_of_ble_eq_true rfl) (Nat.le_of_ble_eq_true rfl) dX12_isDead_25
set_option maxRecDepth 100000 in
set_option maxHeartbeats 4000000 in
theorem eX12_rateOf_5B (C : Cx E p s m args meth c cX12_rateOf 5 RX12) (hr : meth.sig.returnType = (some .int)) {r : Int32} {σ : Sto} {f5 : Int32 → Int32 → Int32 → Int32 → Sto → Option Int32} {x1 : Int32} {x2 : Int32} {x3 : Int32} {x4 : Int32} (hf5 : ∀ (x1 : Int32) (x2 : Int32) (x3 : Int32) (x4 : Int32), f5 x1 x2 x3 x4 σ = some r → G p l e (rmd 1 0 0) s m args below meth c E true (sZ σ) ad0 (MQ below (QI E true σ r σ ad0) args s 0 0 (AE E)) 5 0 0 σ 5 [(0, .ref 81), (1, .int x1), (2, .int x2), (3, .int x3), (4, .int x4)] []) (h : mX12_rateOf_5B f5 x1 x2 x3 x4 σ = some r) : G p l e (rmd 1 0 0) s m args below meth c E true (sZ σ) ad0 (MQ below (QI E true σ r σ ad0) args s 0 0 (AE E)) 5 0 0 σ 5 [(0, .ref 81), (1, .int x1), (2, .int x2), (3, .int x3), (4, .int x4)] [] := by
  unfold mX12_rateOf_5B at h
  refine G_iload C 4 rfl dX12_rateOf_5 ?_
  refine G_aload_n C 0 rfl rfl dX12_rateOf_7 ?_
  refine G_getI C fl_X12_232_11 (Or.inl rfl) ko_81 dX12_rateOf_8 ?_
  refine G_icmp_ge (tgt := 66) C rfl dX12_rateOf_11 (fun hc1 => ?_) (fun hc1 => ?_)
  · replace h := (if_pos hc1).symm.trans h
    refine G_iload_n C 3 rfl rfl dX12_rateOf_66 ?_
    refine G_iconst C (v := -1) rfl dX12_rateOf_67 ?_
    refine G_icmp_ne (tgt := 77) C rfl dX12_rateOf_68 (fun hc2 => ?_) (fun hc2 => ?_)
    · replace h := (if_neg hc2).symm.trans h
      refine G_aload_n C 0 rfl rfl dX12_rateOf_77 ?_
      refine G_getF C fl_X12_53_11 rfl rfl fn_81_23 dX12_rateOf_78 ?_
      refine G_iload_n C 3 rfl rfl dX12_rateOf_81 ?_
      obtain ⟨hc3, h⟩ := ifn h
      refine G_iaload C ks_96 hc3 dX12_rateOf_82 ?_
      obtain rfl := Option.some.inj h
      exact G_iret C hr (Nat.le_of_ble_eq_true rfl) (Nat.le_of_ble_eq_true rfl) dX12_rateOf_83
    · replace h := (if_pos hc2).symm.trans h
      refine G_sipush C (v := 1000) rfl dX12_rateOf_71 ?_
      refine G_goto (tgt := 83) C rfl dX12_rateOf_74 ?_
      obtain rfl := Option.some.inj h
      exact G_iret C hr (Nat.le_of_ble_eq_true rfl) (Nat.le_of_ble_eq_true rfl) dX12_rateOf_83
  · replace h := (if_neg hc1).symm.trans h
    refine G_aload_n C 0 rfl rfl dX12_rateOf_14 ?_
    refine G_getF C fl_X12_47_11 rfl rfl fn_81_21 dX12_rateOf_15 ?_
    refine G_iload C 4 rfl dX12_rateOf_18 ?_
    obtain ⟨hc4, h⟩ := ifn h
    refine G_iaload C ks_94 hc4 dX12_rateOf_20 ?_
    refine G_iload_n C 1 rfl rfl dX12_rateOf_21 ?_
    refine G_icmp_ne (tgt := 60) C rfl dX12_rateOf_22 (fun hc5 => ?_) (fun hc5 => ?_)
    · replace h := (if_neg hc5).symm.trans h
      refine G_iinc (v := 1) (L' := [(4, .int (x4 + (1 : Int32))), (0, .ref 81), (1, .int x1), (2, .int x2), (3, .int x3)]) C 4 rfl rfl (Nat.le_of_ble_eq_true rfl) rfl dX12_rateOf_60 ?_
      refine G_goto (tgt := 5) C rfl dX12_rateOf_63 ?_
      refine G_sub [1, 2, 3, 4, 0] rfl ?_
      exact hf5 _ _ _ _ h
    · replace h := (if_pos hc5).symm.trans h
      refine G_aload_n C 0 rfl rfl dX12_rateOf_25 ?_
      refine G_getF C fl_X12_50_11 rfl rfl fn_81_22 dX12_rateOf_26 ?_
      refine G_iload C 4 rfl dX12_rateOf_29 ?_
      refine G_iaload C ks_95 hc4 dX12_rateOf_31 ?_
      refine G_iload_n C 2 rfl rfl dX12_rateOf_32 ?_
      refine G_icmp_gt (tgt := 60) C rfl dX12_rateOf_33 (fun hc6 => ?_) (fun hc6 => ?_)
      · replace h := (if_pos hc6).symm.trans h
        refine G_iinc (v := 1) (L' := [(4, .int (x4 + (1 : Int32))), (0, .ref 81), (1, .int x1), (2, .int x2), (3, .int x3)]) C 4 rfl rfl (Nat.le_of_ble_eq_true rfl) rfl dX12_rateOf_60 ?_
        refine G_goto (tgt := 5) C rfl dX12_rateOf_63 ?_
        refine G_sub [1, 2, 3, 4, 0] rfl ?_
        exact hf5 _ _ _ _ h
      · replace h := (if_neg hc6).symm.trans h
        refine G_iload_n C 3 rfl rfl dX12_rateOf_36 ?_
        refine G_iconst C (v := -1) rfl dX12_rateOf_37 ?_
        refine G_icmp_eq (tgt := 57) C rfl dX12_rateOf_38 (fun hc7 => ?_) (fun hc7 => ?_)
        · replace h := (if_pos hc7).symm.trans h
          refine G_iload C 4 rfl dX12_rateOf_57 ?_
          refine G_istore_n (L' := [(3, .int x4), (0, .ref 81), (1, .int x1), (2, .int x2), (4, .int x4)]) C rfl (Nat.le_of_ble_eq_true rfl) rfl dX12_rateOf_59 ?_
          refine G_iinc (v := 1) (L' := [(4, .int (x4 + (1 : Int32))), (3, .int x4), (0, .ref 81), (1, .int x1), (2, .int x2)]) C 4 rfl rfl (Nat.le_of_ble_eq_true rfl) rfl dX12_rateOf_60 ?_
          refine G_goto (tgt := 5) C rfl dX12_rateOf_63 ?_
          refine G_sub [2, 3, 4, 1, 0] rfl ?_
          exact hf5 _ _ _ _ h
        · replace h := (if_neg hc7).symm.trans h
          refine G_aload_n C 0 rfl rfl dX12_rateOf_41 ?_
          refine G_getF C fl_X12_50_11 rfl rfl fn_81_22 dX12_rateOf_42 ?_
          refine G_iload C 4 rfl dX12_rateOf_45 ?_
          refine G_iaload C ks_95 hc4 dX12_rateOf_47 ?_
          refine G_aload_n C 0 rfl rfl dX12_rateOf_48 ?_
          refine G_getF C fl_X12_50_11 rfl rfl fn_81_22 dX12_rateOf_49 ?_
          refine G_iload_n C 3 rfl rfl dX12_rateOf_52 ?_
          obtain ⟨hc8, h⟩ := ifn h
          refine G_iaload C ks_95 hc8 dX12_rateOf_53 ?_
          refine G_icmp_lt (tgt := 60) C rfl dX12_rateOf_54 (fun hc9 => ?_) (fun hc9 => ?_)
          · replace h := (if_pos hc9).symm.trans h
            refine G_iinc (v := 1) (L' := [(4, .int (x4 + (1 : Int32))), (0, .ref 81), (1, .int x1), (2, .int x2), (3, .int x3)]) C 4 rfl rfl (Nat.le_of_ble_eq_true rfl) rfl dX12_rateOf_60 ?_
            refine G_goto (tgt := 5) C rfl dX12_rateOf_63 ?_
            refine G_sub [1, 2, 3, 4, 0] rfl ?_
            exact hf5 _ _ _ _ h
          · replace h := (if_neg hc9).symm.trans h
            refine G_iload C 4 rfl dX12_rateOf_57 ?_
            refine G_istore_n (L' := [(3, .int x4), (0, .ref 81), (1, .int x1), (2, .int x2), (4, .int x4)]) C rfl (Nat.le_of_ble_eq_true rfl) rfl dX12_rateOf_59 ?_
            refine G_iinc (v := 1) (L' := [(4, .int (x4 + (1 : Int32))), (3, .int x4), (0, .ref 81), (1, .int x1), (2, .int x2)]) C 4 rfl rfl (Nat.le_of_ble_eq_true rfl) rfl dX12_rateOf_60 ?_
            refine G_goto (tgt := 5) C rfl dX12_rateOf_63 ?_
            refine G_sub [2, 3, 4, 1, 0] rfl ?_
            exact hf5 _ _ _ _ h
set_option maxRecDepth 100000 in
set_option maxHeartbeats 4000000 in
theorem eX12_rateOf_5 (C : Cx E p s m args meth c cX12_rateOf 5 RX12) (hr : meth.sig.returnType = (some .int)) {r : Int32} {σ : Sto} {n : Nat} {x1 : Int32} {x2 : Int32} {x3 : Int32} {x4 : Int32} (h : mX12_rateOf_5 n x1 x2 x3 x4 σ = some r) : G p l e (rmd 1 0 0) s m args below meth c E true (sZ σ) ad0 (MQ below (QI E true σ r σ ad0) args s 0 0 (AE E)) 5 0 0 σ 5 [(0, .ref 81), (1, .int x1), (2, .int x2), (3, .int x3), (4, .int x4)] [] := by
  induction n generalizing x1 x2 x3 x4 with
  | zero => exact nomatch (show (none : Option Int32) = some r from h)
  | succ n ih => exact eX12_rateOf_5B C hr (fun z0 z1 z2 z3 h9 => ih h9) h
set_option maxRecDepth 100000 in
set_option maxHeartbeats 4000000 in
theorem dX12_rateOf {σ : Sto} {p0 : Int32} {p1 : Int32} {r : Int32} (h : mX12_rateOf p0 p1 σ = some r) : MM l yX12_rateOf cX12_rateOf 5 (some .int) 1 0 0 E true σ [.ref 81, .int p0, .int p1] (QI E true σ r σ) := by
  unfold mX12_rateOf at h
  refine MM_of (by decide) (Nat.le_of_ble_eq_true rfl) rfl (fun p e s m args below meth c ad0 C hr hn => ?_)
  refine G_iconst C (v := -1) rfl dX12_rateOf_0 ?_
  refine G_istore_n (L' := [(3, .int (-1 : Int32)), (0, .ref 81), (1, .int p0), (2, .int p1)]) C rfl (Nat.le_of_ble_eq_true rfl) rfl dX12_rateOf_1 ?_
  refine G_iconst C (v := 0) rfl dX12_rateOf_2 ?_
  refine G_istore (L' := [(4, .int (0 : Int32)), (3, .int (-1 : Int32)), (0, .ref 81), (1, .int p0), (2, .int p1)]) C (Nat.le_of_ble_eq_true rfl) rfl dX12_rateOf_3 ?_
  refine G_sub [2, 3, 4, 1, 0] rfl ?_
  exact eX12_rateOf_5 C hr h
set_option maxRecDepth 100000 in
set_option maxHeartbeats 4000000 in
theorem eX12_lawOf_151 (C : Cx E p s m args meth c cX12_lawOf 6 RX12) (hr : meth.sig.returnType = (some .int)) {r : Int32} {σ : Sto} {x3 : Int32} {y0 : Int32} (h : mX12_lawOf_151 x3 y0 σ = some r) : G p l e (rmd 1 0 0) s m args below meth c E true (sZ σ) ad0 (MQ below (QI E true σ r σ ad0) args s 0 0 (AE E)) 6 0 0 σ 151 [(0, .ref 81), (3, .int x3)] [.int y0] := by
  unfold mX12_lawOf_151 at h
  refine G_istore (L' := [(4, .int y0), (0, .ref 81), (3, .int x3)]) C (Nat.le_of_ble_eq_true rfl) rfl dX12_lawOf_151 ?_
  refine G_iload C 0 rfl dX12_lawOf_153 ?_
  refine G_if_eq (tgt := 184) C rfl dX12_lawOf_155 (fun hc3 => ?_) (fun hc3 => ?_)
  · replace h := (if_pos hc3).symm.trans h
    refine G_iload_n C 2 rfl rfl dX12_lawOf_184 ?_
    obtain rfl := Option.some.inj h
    exact G_iret C hr (Nat.le_of_ble_eq_true rfl) (Nat.le_of_ble_eq_true rfl) dX12_lawOf_185
  · replace h := (if_neg hc3).symm.trans h
    refine G_iload_n C 2 rfl rfl dX12_lawOf_158 ?_
    refine G_iconst C (v := -1) rfl dX12_lawOf_159 ?_
    refine G_icmp_eq (tgt := 179) C rfl dX12_lawOf_160 (fun hc4 => ?_) (fun hc4 => ?_)
    · replace h := (if_pos hc4).symm.trans h
      refine G_bipush C (v := 12) rfl dX12_lawOf_179 ?_
      refine G_goto (tgt := 185) C rfl dX12_lawOf_181 ?_
      obtain rfl := Option.some.inj h
      exact G_iret C hr (Nat.le_of_ble_eq_true rfl) (Nat.le_of_ble_eq_true rfl) dX12_lawOf_185
    · replace h := (if_neg hc4).symm.trans h
      refine G_aload_n C 1 rfl rfl dX12_lawOf_163 ?_
      refine G_getF C fl_X12_108_11 rfl rfl fn_81_56 dX12_lawOf_164 ?_
      refine G_bipush C (v := 12) rfl dX12_lawOf_167 ?_
      refine G_iaload C ks_113 ⟨by decide, by decide⟩ dX12_lawOf_169 ?_
      refine G_aload_n C 1 rfl rfl dX12_lawOf_170 ?_
      refine G_getF C fl_X12_108_11 rfl rfl fn_81_56 dX12_lawOf_171 ?_
      refine G_iload_n C 2 rfl rfl dX12_lawOf_174 ?_
      obtain ⟨hc5, h⟩ := ifn h
      refine G_iaload C ks_113 hc5 dX12_lawOf_175 ?_
      refine G_icmp_lt (tgt := 184) C rfl dX12_lawOf_176 (fun hc6 => ?_) (fun hc6 => ?_)
      · replace h := (if_pos hc6).symm.trans h
        refine G_iload_n C 2 rfl rfl dX12_lawOf_184 ?_
        obtain rfl := Option.some.inj h
        exact G_iret C hr (Nat.le_of_ble_eq_true rfl) (Nat.le_of_ble_eq_true rfl) dX12_lawOf_185
      · replace h := (if_neg hc6).symm.trans h
        refine G_bipush C (v := 12) rfl dX12_lawOf_179 ?_
        refine G_goto (tgt := 185) C rfl dX12_lawOf_181 ?_
        obtain rfl := Option.some.inj h
        exact G_iret C hr (Nat.le_of_ble_eq_true rfl) (Nat.le_of_ble_eq_true rfl) dX12_lawOf_185
set_option maxRecDepth 100000 in
set_option maxHeartbeats 4000000 in
theorem eX12_lawOf_150 (C : Cx E p s m args meth c cX12_lawOf 6 RX12) (hr : meth.sig.returnType = (some .int)) {r : Int32} {σ : Sto} {x3 : Int32} (h : mX12_lawOf_150 x3 σ = some r) : G p l e (rmd 1 0 0) s m args below meth c E true (sZ σ) ad0 (MQ below (QI E true σ r σ ad0) args s 0 0 (AE E)) 6 0 0 σ 150 [(0, .ref 81), (3, .int x3)] [] := by
  unfold mX12_lawOf_150 at h
  refine G_iconst C (v := 0) rfl dX12_lawOf_150 ?_
  exact eX12_lawOf_151 C hr h
set_option maxRecDepth 100000 in
set_option maxHeartbeats 4000000 in
theorem eX12_lawOf_80 (C : Cx E p s m args meth c cX12_lawOf 6 RX12) (hr : meth.sig.returnType = (some .int)) {r : Int32} {σ : Sto} {f5 : Int32 → Int32 → Int32 → Int32 → Sto → Option Int32} {x1 : Int32} {x2 : Int32} {x3 : Int32} {x4 : Int32} {y0 : Int32} (hf5 : ∀ (x1 : Int32) (x2 : Int32) (x3 : Int32) (x4 : Int32), f5 x1 x2 x3 x4 σ = some r → G p l e (rmd 1 0 0) s m args below meth c E true (sZ σ) ad0 (MQ below (QI E true σ r σ ad0) args s 0 0 (AE E)) 6 0 0 σ 5 [(0, .ref 81), (1, .int x1), (2, .int x2), (3, .int x3), (4, .int x4)] []) (h : mX12_lawOf_80 f5 x1 x2 x3 x4 y0 σ = some r) : G p l e (rmd 1 0 0) s m args below meth c E true (sZ σ) ad0 (MQ below (QI E true σ r σ ad0) args s 0 0 (AE E)) 6 0 0 σ 80 [(0, .ref 81), (1, .int x1), (2, .int x2), (3, .int x3), (4, .int x4)] [.int y0] := by
  unfold mX12_lawOf_80 at h
  refine G_istore (L' := [(5, .int y0), (0, .ref 81), (1, .int x1), (2, .int x2), (3, .int x3), (4, .int x4)]) C (Nat.le_of_ble_eq_true rfl) rfl dX12_lawOf_80 ?_
  refine G_iload C 0 rfl dX12_lawOf_82 ?_
  refine G_if_eq (tgt := 111) C rfl dX12_lawOf_84 (fun hc11 => ?_) (fun hc11 => ?_)
  · replace h := (if_pos hc11).symm.trans h
    refine G_iinc (v := 1) (L' := [(4, .int (x4 + (1 : Int32))), (5, .int y0), (0, .ref 81), (1, .int x1), (2, .int x2), (3, .int x3)]) C 5 rfl rfl (Nat.le_of_ble_eq_true rfl) rfl dX12_lawOf_111 ?_
    refine G_goto (tgt := 5) C rfl dX12_lawOf_114 ?_
    refine G_sub [2, 3, 4, 5, 0] rfl ?_
    exact hf5 _ _ _ _ h
  · replace h := (if_neg hc11).symm.trans h
    refine G_iload_n C 4 rfl rfl dX12_lawOf_87 ?_
    refine G_iconst C (v := -1) rfl dX12_lawOf_88 ?_
    refine G_icmp_eq (tgt := 108) C rfl dX12_lawOf_89 (fun hc12 => ?_) (fun hc12 => ?_)
    · replace h := (if_pos hc12).symm.trans h
      refine G_iload C 5 rfl dX12_lawOf_108 ?_
      refine G_istore_n (L' := [(3, .int x4), (5, .int y0), (0, .ref 81), (1, .int x1), (2, .int x2), (4, .int x4)]) C rfl (Nat.le_of_ble_eq_true rfl) rfl dX12_lawOf_110 ?_
      refine G_iinc (v := 1) (L' := [(4, .int (x4 + (1 : Int32))), (3, .int x4), (5, .int y0), (0, .ref 81), (1, .int x1), (2, .int x2)]) C 5 rfl rfl (Nat.le_of_ble_eq_true rfl) rfl dX12_lawOf_111 ?_
      refine G_goto (tgt := 5) C rfl dX12_lawOf_114 ?_
      refine G_sub [3, 4, 5, 1, 0] rfl ?_
      exact hf5 _ _ _ _ h
    · replace h := (if_neg hc12).symm.trans h
      refine G_aload_n C 1 rfl rfl dX12_lawOf_92 ?_
      refine G_getF C fl_X12_108_11 rfl rfl fn_81_56 dX12_lawOf_93 ?_
      refine G_iload C 5 rfl dX12_lawOf_96 ?_
      obtain ⟨hc13, h⟩ := ifn h
      refine G_iaload C ks_113 hc13 dX12_lawOf_98 ?_
      refine G_aload_n C 1 rfl rfl dX12_lawOf_99 ?_
      refine G_getF C fl_X12_108_11 rfl rfl fn_81_56 dX12_lawOf_100 ?_
      refine G_iload_n C 4 rfl rfl dX12_lawOf_103 ?_
      obtain ⟨hc14, h⟩ := ifn h
      refine G_iaload C ks_113 hc14 dX12_lawOf_104 ?_
      refine G_icmp_lt (tgt := 111) C rfl dX12_lawOf_105 (fun hc15 => ?_) (fun hc15 => ?_)
      · replace h := (if_pos hc15).symm.trans h
        refine G_iinc (v := 1) (L' := [(4, .int (x4 + (1 : Int32))), (5, .int y0), (0, .ref 81), (1, .int x1), (2, .int x2), (3, .int x3)]) C 5 rfl rfl (Nat.le_of_ble_eq_true rfl) rfl dX12_lawOf_111 ?_
        refine G_goto (tgt := 5) C rfl dX12_lawOf_114 ?_
        refine G_sub [2, 3, 4, 5, 0] rfl ?_
        exact hf5 _ _ _ _ h
      · replace h := (if_neg hc15).symm.trans h
        refine G_iload C 5 rfl dX12_lawOf_108 ?_
        refine G_istore_n (L' := [(3, .int x4), (5, .int y0), (0, .ref 81), (1, .int x1), (2, .int x2), (4, .int x4)]) C rfl (Nat.le_of_ble_eq_true rfl) rfl dX12_lawOf_110 ?_
        refine G_iinc (v := 1) (L' := [(4, .int (x4 + (1 : Int32))), (3, .int x4), (5, .int y0), (0, .ref 81), (1, .int x1), (2, .int x2)]) C 5 rfl rfl (Nat.le_of_ble_eq_true rfl) rfl dX12_lawOf_111 ?_
        refine G_goto (tgt := 5) C rfl dX12_lawOf_114 ?_
        refine G_sub [3, 4, 5, 1, 0] rfl ?_
        exact hf5 _ _ _ _ h
set_option maxRecDepth 100000 in
set_option maxHeartbeats 4000000 in
theorem eX12_lawOf_79 (C : Cx E p s m args meth c cX12_lawOf 6 RX12) (hr : meth.sig.returnType = (some .int)) {r : Int32} {σ : Sto} {f5 : Int32 → Int32 → Int32 → Int32 → Sto → Option Int32} {x1 : Int32} {x2 : Int32} {x3 : Int32} {x4 : Int32} (hf5 : ∀ (x1 : Int32) (x2 : Int32) (x3 : Int32) (x4 : Int32), f5 x1 x2 x3 x4 σ = some r → G p l e (rmd 1 0 0) s m args below meth c E true (sZ σ) ad0 (MQ below (QI E true σ r σ ad0) args s 0 0 (AE E)) 6 0 0 σ 5 [(0, .ref 81), (1, .int x1), (2, .int x2), (3, .int x3), (4, .int x4)] []) (h : mX12_lawOf_79 f5 x1 x2 x3 x4 σ = some r) : G p l e (rmd 1 0 0) s m args below meth c E true (sZ σ) ad0 (MQ below (QI E true σ r σ ad0) args s 0 0 (AE E)) 6 0 0 σ 79 [(0, .ref 81), (1, .int x1), (2, .int x2), (3, .int x3), (4, .int x4)] [] := by
  unfold mX12_lawOf_79 at h
  refine G_iconst C (v := 0) rfl dX12_lawOf_79 ?_
  exact eX12_lawOf_80 C hr hf5 h
set_option maxRecDepth 100000 in
set_option maxHeartbeats 4000000 in
theorem eX12_lawOf_5B (C : Cx E p s m args meth c cX12_lawOf 6 RX12) (hr : meth.sig.returnType = (some .int)) {r : Int32} {σ : Sto} {f5 : Int32 → Int32 → Int32 → Int32 → Sto → Option Int32} {x1 : Int32} {x2 : Int32} {x3 : Int32} {x4 : Int32} (hf5 : ∀ (x1 : Int32) (x2 : Int32) (x3 : Int32) (x4 : Int32), f5 x1 x2 x3 x4 σ = some r → G p l e (rmd 1 0 0) s m args below meth c E true (sZ σ) ad0 (MQ below (QI E true σ r σ ad0) args s 0 0 (AE E)) 6 0 0 σ 5 [(0, .ref 81), (1, .int x1), (2, .int x2), (3, .int x3), (4, .int x4)] []) (h : mX12_lawOf_5B f5 x1 x2 x3 x4 σ = some r) : G p l e (rmd 1 0 0) s m args below meth c E true (sZ σ) ad0 (MQ below (QI E true σ r σ ad0) args s 0 0 (AE E)) 6 0 0 σ 5 [(0, .ref 81), (1, .int x1), (2, .int x2), (3, .int x3), (4, .int x4)] [] := by
  unfold mX12_lawOf_5B at h
  refine G_iload C 4 rfl dX12_lawOf_5 ?_
  refine G_aload_n C 0 rfl rfl dX12_lawOf_7 ?_
  refine G_getI C fl_X12_267_11 (Or.inl rfl) ko_81 dX12_lawOf_8 ?_
  refine G_icmp_ge (tgt := 117) C rfl dX12_lawOf_11 (fun hc1 => ?_) (fun hc1 => ?_)
  · replace h := (if_pos hc1).symm.trans h
    refine G_aload_n C 0 rfl rfl dX12_lawOf_117 ?_
    refine G_getI C fl_X12_401_11 (Or.inr rfl) ko_81 dX12_lawOf_118 ?_
    refine G_if_eq (tgt := 150) C rfl dX12_lawOf_121 (fun hc2 => ?_) (fun hc2 => ?_)
    · replace h := (if_pos hc2).symm.trans h
      refine G_sub [0, 3] rfl ?_
      exact eX12_lawOf_150 C hr h
    · replace h := (if_neg hc2).symm.trans h
      refine G_aload_n C 0 rfl rfl dX12_lawOf_124 ?_
      refine G_getF C fl_X12_105_11 rfl rfl fn_81_55 dX12_lawOf_125 ?_
      refine G_bipush C (v := 12) rfl dX12_lawOf_128 ?_
      refine G_iaload C ks_112 ⟨by decide, by decide⟩ dX12_lawOf_130 ?_
      refine G_iload_n C 1 rfl rfl dX12_lawOf_131 ?_
      refine G_icmp_ne (tgt := 150) C rfl dX12_lawOf_132 (fun hc7 => ?_) (fun hc7 => ?_)
      · replace h := (if_neg hc7).symm.trans h
        refine G_sub [0, 3] rfl ?_
        exact eX12_lawOf_150 C hr h
      · replace h := (if_pos hc7).symm.trans h
        refine G_aload_n C 0 rfl rfl dX12_lawOf_135 ?_
        refine G_getF C fl_X12_108_11 rfl rfl fn_81_56 dX12_lawOf_136 ?_
        refine G_bipush C (v := 12) rfl dX12_lawOf_139 ?_
        refine G_iaload C ks_113 ⟨by decide, by decide⟩ dX12_lawOf_141 ?_
        refine G_iload_n C 2 rfl rfl dX12_lawOf_142 ?_
        refine G_icmp_gt (tgt := 150) C rfl dX12_lawOf_143 (fun hc8 => ?_) (fun hc8 => ?_)
        · replace h := (if_pos hc8).symm.trans h
          refine G_sub [0, 3] rfl ?_
          exact eX12_lawOf_150 C hr h
        · replace h := (if_neg hc8).symm.trans h
          refine G_iconst C (v := 1) rfl dX12_lawOf_146 ?_
          refine G_goto (tgt := 151) C rfl dX12_lawOf_147 ?_
          refine G_sub [0, 3] rfl ?_
          exact eX12_lawOf_151 C hr h
  · replace h := (if_neg hc1).symm.trans h
    refine G_aload_n C 0 rfl rfl dX12_lawOf_14 ?_
    refine G_getF C fl_X12_105_11 rfl rfl fn_81_55 dX12_lawOf_15 ?_
    refine G_iload C 4 rfl dX12_lawOf_18 ?_
    obtain ⟨hc9, h⟩ := ifn h
    refine G_iaload C ks_112 hc9 dX12_lawOf_20 ?_
    refine G_iload_n C 1 rfl rfl dX12_lawOf_21 ?_
    refine G_icmp_ne (tgt := 79) C rfl dX12_lawOf_22 (fun hc10 => ?_) (fun hc10 => ?_)
    · replace h := (if_neg hc10).symm.trans h
      exact eX12_lawOf_79 C hr hf5 h
    · replace h := (if_pos hc10).symm.trans h
      refine G_aload_n C 0 rfl rfl dX12_lawOf_25 ?_
      refine G_getF C fl_X12_108_11 rfl rfl fn_81_56 dX12_lawOf_26 ?_
      refine G_iload C 4 rfl dX12_lawOf_29 ?_
      refine G_iaload C ks_113 hc9 dX12_lawOf_31 ?_
      refine G_iload_n C 2 rfl rfl dX12_lawOf_32 ?_
      refine G_icmp_gt (tgt := 79) C rfl dX12_lawOf_33 (fun hc16 => ?_) (fun hc16 => ?_)
      · replace h := (if_pos hc16).symm.trans h
        exact eX12_lawOf_79 C hr hf5 h
      · replace h := (if_neg hc16).symm.trans h
        refine G_aload_n C 0 rfl rfl dX12_lawOf_36 ?_
        refine G_getF C fl_X12_111_11 rfl rfl fn_81_57 dX12_lawOf_37 ?_
        refine G_iload C 4 rfl dX12_lawOf_40 ?_
        refine G_iaload C ks_114 hc9 dX12_lawOf_42 ?_
        refine G_aload_n C 0 rfl rfl dX12_lawOf_43 ?_
        refine G_getI C fl_X12_398_11 (Or.inl rfl) ko_81 dX12_lawOf_44 ?_
        refine G_icmp_gt (tgt := 79) C rfl dX12_lawOf_47 (fun hc17 => ?_) (fun hc17 => ?_)
        · replace h := (if_pos hc17).symm.trans h
          exact eX12_lawOf_79 C hr hf5 h
        · replace h := (if_neg hc17).symm.trans h
          refine G_aload_n C 0 rfl rfl dX12_lawOf_50 ?_
          refine G_getF C fl_X12_114_11 rfl rfl fn_81_58 dX12_lawOf_51 ?_
          refine G_iload C 4 rfl dX12_lawOf_54 ?_
          refine G_iaload C ks_115 hc9 dX12_lawOf_56 ?_
          refine G_iconst C (v := -1) rfl dX12_lawOf_57 ?_
          refine G_icmp_eq (tgt := 75) C rfl dX12_lawOf_58 (fun hc18 => ?_) (fun hc18 => ?_)
          · replace h := (if_pos hc18).symm.trans h
            refine G_iconst C (v := 1) rfl dX12_lawOf_75 ?_
            refine G_goto (tgt := 80) C rfl dX12_lawOf_76 ?_
            exact eX12_lawOf_80 C hr hf5 h
          · replace h := (if_neg hc18).symm.trans h
            refine G_aload_n C 0 rfl rfl dX12_lawOf_61 ?_
            refine G_getF C fl_X12_114_11 rfl rfl fn_81_58 dX12_lawOf_62 ?_
            refine G_iload C 4 rfl dX12_lawOf_65 ?_
            refine G_iaload C ks_115 hc9 dX12_lawOf_67 ?_
            refine G_aload_n C 0 rfl rfl dX12_lawOf_68 ?_
            refine G_getI C fl_X12_398_11 (Or.inl rfl) ko_81 dX12_lawOf_69 ?_
            refine G_icmp_le (tgt := 79) C rfl dX12_lawOf_72 (fun hc19 => ?_) (fun hc19 => ?_)
            · replace h := (if_pos hc19).symm.trans h
              exact eX12_lawOf_79 C hr hf5 h
            · replace h := (if_neg hc19).symm.trans h
              refine G_iconst C (v := 1) rfl dX12_lawOf_75 ?_
              refine G_goto (tgt := 80) C rfl dX12_lawOf_76 ?_
              exact eX12_lawOf_80 C hr hf5 h
set_option maxRecDepth 100000 in
set_option maxHeartbeats 4000000 in
theorem eX12_lawOf_5 (C : Cx E p s m args meth c cX12_lawOf 6 RX12) (hr : meth.sig.returnType = (some .int)) {r : Int32} {σ : Sto} {n : Nat} {x1 : Int32} {x2 : Int32} {x3 : Int32} {x4 : Int32} (h : mX12_lawOf_5 n x1 x2 x3 x4 σ = some r) : G p l e (rmd 1 0 0) s m args below meth c E true (sZ σ) ad0 (MQ below (QI E true σ r σ ad0) args s 0 0 (AE E)) 6 0 0 σ 5 [(0, .ref 81), (1, .int x1), (2, .int x2), (3, .int x3), (4, .int x4)] [] := by
  induction n generalizing x1 x2 x3 x4 with
  | zero => exact nomatch (show (none : Option Int32) = some r from h)
  | succ n ih => exact eX12_lawOf_5B C hr (fun z0 z1 z2 z3 h9 => ih h9) h
set_option maxRecDepth 100000 in
set_option maxHeartbeats 4000000 in
theorem dX12_lawOf {σ : Sto} {p0 : Int32} {p1 : Int32} {r : Int32} (h : mX12_lawOf p0 p1 σ = some r) : MM l yX12_lawOf cX12_lawOf 6 (some .int) 1 0 0 E true σ [.ref 81, .int p0, .int p1] (QI E true σ r σ) := by
  unfold mX12_lawOf at h
  refine MM_of (by decide) (Nat.le_of_ble_eq_true rfl) rfl (fun p e s m args below meth c ad0 C hr hn => ?_)
  refine G_iconst C (v := -1) rfl dX12_lawOf_0 ?_
  refine G_istore_n (L' := [(3, .int (-1 : Int32)), (0, .ref 81), (1, .int p0), (2, .int p1)]) C rfl (Nat.le_of_ble_eq_true rfl) rfl dX12_lawOf_1 ?_
  refine G_iconst C (v := 0) rfl dX12_lawOf_2 ?_
  refine G_istore (L' := [(4, .int (0 : Int32)), (3, .int (-1 : Int32)), (0, .ref 81), (1, .int p0), (2, .int p1)]) C (Nat.le_of_ble_eq_true rfl) rfl dX12_lawOf_3 ?_
  refine G_sub [2, 3, 4, 1, 0] rfl ?_
  exact eX12_lawOf_5 C hr h
set_option maxRecDepth 100000 in
set_option maxHeartbeats 4000000 in
theorem eX12_looksBack_230 (C : Cx E p s m args meth c cX12_looksBack 5 RX12) (hr : meth.sig.returnType = none) {σ0 : Sto} {r2 : Sto} {σ : Sto} {y1 : Int32} (h : mX12_looksBack_230 y1 σ = some r2) : G p l e (rmd 2 0 0) s m args below meth c E true (sZ σ0) ad0 (MQ below (QV E true σ0 r2 ad0) args s 0 0 (AE E)) 5 0 0 σ 230 [] [.int y1, .ref 81] := by
  unfold mX12_looksBack_230 at h
  obtain ⟨σ9, hs9, h⟩ := stp_elim h
  refine G_putI C fl_X12_411_11 fp_X12_11_81 (Or.inl rfl) (Or.inl rfl) ko_81 dX12_looksBack_230 ?_
  rw [← hs9]
  obtain rfl := Option.some.inj h
  exact G_vret C hr (Nat.le_of_ble_eq_true rfl) (Nat.le_of_ble_eq_true rfl) dX12_looksBack_233
set_option maxRecDepth 100000 in
set_option maxHeartbeats 4000000 in
theorem eX12_looksBack_229 (C : Cx E p s m args meth c cX12_looksBack 5 RX12) (hr : meth.sig.returnType = none) {σ0 : Sto} {r2 : Sto} {σ : Sto} (h : mX12_looksBack_229 σ = some r2) : G p l e (rmd 2 0 0) s m args below meth c E true (sZ σ0) ad0 (MQ below (QV E true σ0 r2 ad0) args s 0 0 (AE E)) 5 0 0 σ 229 [] [.ref 81] := by
  unfold mX12_looksBack_229 at h
  refine G_iconst C (v := 0) rfl dX12_looksBack_229 ?_
  exact eX12_looksBack_230 C hr h
set_option maxRecDepth 100000 in
set_option maxHeartbeats 4000000 in
theorem eX12_looksBack_202 (C : Cx E p s m args meth c cX12_looksBack 5 RX12) (hr : meth.sig.returnType = none) {σ0 : Sto} {r2 : Sto} {σ : Sto} {x2 : Int32} {x3 : Int32} {y1 : Int32} (h : mX12_looksBack_202 x2 x3 y1 σ = some r2) : G p l e (rmd 2 0 0) s m args below meth c E true (sZ σ0) ad0 (MQ below (QV E true σ0 r2 ad0) args s 0 0 (AE E)) 5 0 0 σ 202 [(0, .ref 81), (2, .int x2), (3, .int x3)] [.int y1, .ref 81] := by
  unfold mX12_looksBack_202 at h
  obtain ⟨σ7, hs7, h⟩ := stp_elim h
  refine G_putI C fl_X12_408_11 fp_X12_11_80 (Or.inl rfl) (Or.inl rfl) ko_81 dX12_looksBack_202 ?_
  rw [← hs7]
  refine G_aload_n C 0 rfl rfl dX12_looksBack_205 ?_
  refine G_iload_n C 2 rfl rfl dX12_looksBack_206 ?_
  refine G_iconst C (v := -1) rfl dX12_looksBack_207 ?_
  refine G_icmp_eq (tgt := 229) C rfl dX12_looksBack_208 (fun hc8 => ?_) (fun hc8 => ?_)
  · replace h := (if_pos hc8).symm.trans h
    refine G_sub [] rfl ?_
    exact eX12_looksBack_229 C hr h
  · replace h := (if_neg hc8).symm.trans h
    refine G_aload_n C 0 rfl rfl dX12_looksBack_211 ?_
    refine G_iload_n C 1 rfl rfl dX12_looksBack_212 ?_
    refine G_aload_n C 0 rfl rfl dX12_looksBack_213 ?_
    refine G_getF C fl_X12_62_11 rfl rfl fn_81_26 dX12_looksBack_214 ?_
    refine G_iload_n C 2 rfl rfl dX12_looksBack_217 ?_
    obtain ⟨hc10, h⟩ := ifn h
    refine G_iaload C ks_99 hc10 dX12_looksBack_218 ?_
    obtain ⟨v11, hv11, h⟩ := bnd h
    refine G_callI (run_V C [.int x2, .int (sI σ7 99 (x3).toNatClampNeg)] [.ref 81] (dX12_isBy hv11) ml_X12_isBy mv_X12_isBy lk_X12_246 ⟨(Nat.le_of_ble_eq_true rfl), (Nat.le_of_ble_eq_true rfl)⟩ ⟨(Nat.le_of_ble_eq_true rfl), (Nat.le_of_ble_eq_true rfl)⟩ vq_11 rfl ko_81 rfl (Nat.le_of_ble_eq_true rfl) dX12_looksBack_219) ?_
    refine G_if_eq (tgt := 229) C rfl dX12_looksBack_222 (fun hc12 => ?_) (fun hc12 => ?_)
    · replace h := (if_pos hc12).symm.trans h
      refine G_sub [] rfl ?_
      exact eX12_looksBack_229 C hr h
    · replace h := (if_neg hc12).symm.trans h
      refine G_iconst C (v := 1) rfl dX12_looksBack_225 ?_
      refine G_goto (tgt := 230) C rfl dX12_looksBack_226 ?_
      refine G_sub [] rfl ?_
      exact eX12_looksBack_230 C hr h
set_option maxRecDepth 100000 in
set_option maxHeartbeats 4000000 in
theorem eX12_looksBack_131 (C : Cx E p s m args meth c cX12_looksBack 5 RX12) (hr : meth.sig.returnType = none) {σ0 : Sto} {r2 : Sto} {σ : Sto} {f17 : Int32 → Int32 → Int32 → Int32 → Sto → Option Sto} {x1 : Int32} {x2 : Int32} {x3 : Int32} {x4 : Int32} (hf17 : ∀ (x1 : Int32) (x2 : Int32) (x3 : Int32) (x4 : Int32) (σ' : Sto), f17 x1 x2 x3 x4 σ' = some r2 → G p l e (rmd 2 0 0) s m args below meth c E true (sZ σ0) ad0 (MQ below (QV E true σ0 r2 ad0) args s 0 0 (AE E)) 5 0 0 σ' 17 [(0, .ref 81), (1, .int x1), (2, .int x2), (3, .int x3), (4, .int x4)] []) (h : mX12_looksBack_131 f17 x1 x2 x3 x4 σ = some r2) : G p l e (rmd 2 0 0) s m args below meth c E true (sZ σ0) ad0 (MQ below (QV E true σ0 r2 ad0) args s 0 0 (AE E)) 5 0 0 σ 131 [(0, .ref 81), (1, .int x1), (2, .int x2), (3, .int x3), (4, .int x4)] [] := by
  unfold mX12_looksBack_131 at h
  refine G_aload_n C 0 rfl rfl dX12_looksBack_131 ?_
  refine G_getF C fl_X12_56_11 rfl rfl fn_81_24 dX12_looksBack_132 ?_
  refine G_iload C 4 rfl dX12_looksBack_135 ?_
  obtain ⟨hc22, h⟩ := ifn h
  refine G_iaload C ks_97 hc22 dX12_looksBack_137 ?_
  refine G_iconst C (v := 2) rfl dX12_looksBack_138 ?_
  refine G_icmp_ne (tgt := 172) C rfl dX12_looksBack_139 (fun hc23 => ?_) (fun hc23 => ?_)
  · replace h := (if_neg hc23).symm.trans h
    refine G_iinc (v := 1) (L' := [(4, .int (x4 + (1 : Int32))), (0, .ref 81), (1, .int x1), (2, .int x2), (3, .int x3)]) C 4 rfl rfl (Nat.le_of_ble_eq_true rfl) rfl dX12_looksBack_172 ?_
    refine G_goto (tgt := 17) C rfl dX12_looksBack_175 ?_
    refine G_sub [1, 2, 3, 4, 0] rfl ?_
    exact hf17 _ _ _ _ _ h
  · replace h := (if_pos hc23).symm.trans h
    refine G_aload_n C 0 rfl rfl dX12_looksBack_142 ?_
    refine G_getF C fl_X12_68_11 rfl rfl fn_81_28 dX12_looksBack_143 ?_
    refine G_iload C 4 rfl dX12_looksBack_146 ?_
    refine G_iaload C ks_101 hc22 dX12_looksBack_148 ?_
    refine G_aload_n C 0 rfl rfl dX12_looksBack_149 ?_
    refine G_getF C fl_X12_68_11 rfl rfl fn_81_28 dX12_looksBack_150 ?_
    refine G_iload_n C 1 rfl rfl dX12_looksBack_153 ?_
    obtain ⟨hc24, h⟩ := ifn h
    refine G_iaload C ks_101 hc24 dX12_looksBack_154 ?_
    refine G_sipush C (v := 365) rfl dX12_looksBack_155 ?_
    refine G_isub C dX12_looksBack_158 ?_
    refine G_icmp_lt (tgt := 172) C rfl dX12_looksBack_159 (fun hc25 => ?_) (fun hc25 => ?_)
    · replace h := (if_pos hc25).symm.trans h
      refine G_iinc (v := 1) (L' := [(4, .int (x4 + (1 : Int32))), (0, .ref 81), (1, .int x1), (2, .int x2), (3, .int x3)]) C 4 rfl rfl (Nat.le_of_ble_eq_true rfl) rfl dX12_looksBack_172 ?_
      refine G_goto (tgt := 17) C rfl dX12_looksBack_175 ?_
      refine G_sub [1, 2, 3, 4, 0] rfl ?_
      exact hf17 _ _ _ _ _ h
    · replace h := (if_neg hc25).symm.trans h
      refine G_aload_n C 0 rfl rfl dX12_looksBack_162 ?_
      refine G_dup C rfl dX12_looksBack_163 ?_
      refine G_getI C fl_X12_405_11 (Or.inl rfl) ko_81 dX12_looksBack_164 ?_
      refine G_iconst C (v := 1) rfl dX12_looksBack_167 ?_
      refine G_iadd C dX12_looksBack_168 ?_
      obtain ⟨σ26, hs26, h⟩ := stp_elim h
      refine G_putI C fl_X12_405_11 fp_X12_11_82 (Or.inl rfl) (Or.inl rfl) ko_81 dX12_looksBack_169 ?_
      rw [← hs26]
      refine G_iinc (v := 1) (L' := [(4, .int (x4 + (1 : Int32))), (0, .ref 81), (1, .int x1), (2, .int x2), (3, .int x3)]) C 4 rfl rfl (Nat.le_of_ble_eq_true rfl) rfl dX12_looksBack_172 ?_
      refine G_goto (tgt := 17) C rfl dX12_looksBack_175 ?_
      refine G_sub [1, 2, 3, 4, 0] rfl ?_
      exact hf17 _ _ _ _ _ h
set_option maxRecDepth 100000 in
set_option maxHeartbeats 4000000 in
theorem eX12_looksBack_128 (C : Cx E p s m args meth c cX12_looksBack 5 RX12) (hr : meth.sig.returnType = none) {σ0 : Sto} {r2 : Sto} {σ : Sto} {f17 : Int32 → Int32 → Int32 → Int32 → Sto → Option Sto} {x1 : Int32} {x2 : Int32} {x4 : Int32} (hf17 : ∀ (x1 : Int32) (x2 : Int32) (x3 : Int32) (x4 : Int32) (σ' : Sto), f17 x1 x2 x3 x4 σ' = some r2 → G p l e (rmd 2 0 0) s m args below meth c E true (sZ σ0) ad0 (MQ below (QV E true σ0 r2 ad0) args s 0 0 (AE E)) 5 0 0 σ' 17 [(0, .ref 81), (1, .int x1), (2, .int x2), (3, .int x3), (4, .int x4)] []) (h : mX12_looksBack_128 f17 x1 x2 x4 σ = some r2) : G p l e (rmd 2 0 0) s m args below meth c E true (sZ σ0) ad0 (MQ below (QV E true σ0 r2 ad0) args s 0 0 (AE E)) 5 0 0 σ 128 [(0, .ref 81), (1, .int x1), (2, .int x2), (4, .int x4)] [] := by
  unfold mX12_looksBack_128 at h
  refine G_iload C 3 rfl dX12_looksBack_128 ?_
  refine G_istore_n (L' := [(3, .int x4), (0, .ref 81), (1, .int x1), (2, .int x2), (4, .int x4)]) C rfl (Nat.le_of_ble_eq_true rfl) rfl dX12_looksBack_130 ?_
  refine G_sub [1, 2, 3, 0, 4] rfl ?_
  exact eX12_looksBack_131 C hr hf17 h
set_option maxRecDepth 100000 in
set_option maxHeartbeats 4000000 in
theorem eX12_looksBack_48 (C : Cx E p s m args meth c cX12_looksBack 5 RX12) (hr : meth.sig.returnType = none) {σ0 : Sto} {r2 : Sto} {σ : Sto} {f17 : Int32 → Int32 → Int32 → Int32 → Sto → Option Sto} {x1 : Int32} {x2 : Int32} {x3 : Int32} {x4 : Int32} (hf17 : ∀ (x1 : Int32) (x2 : Int32) (x3 : Int32) (x4 : Int32) (σ' : Sto), f17 x1 x2 x3 x4 σ' = some r2 → G p l e (rmd 2 0 0) s m args below meth c E true (sZ σ0) ad0 (MQ below (QV E true σ0 r2 ad0) args s 0 0 (AE E)) 5 0 0 σ' 17 [(0, .ref 81), (1, .int x1), (2, .int x2), (3, .int x3), (4, .int x4)] []) (h : mX12_looksBack_48 f17 x1 x2 x3 x4 σ = some r2) : G p l e (rmd 2 0 0) s m args below meth c E true (sZ σ0) ad0 (MQ below (QV E true σ0 r2 ad0) args s 0 0 (AE E)) 5 0 0 σ 48 [(0, .ref 81), (1, .int x1), (2, .int x2), (3, .int x3), (4, .int x4)] [] := by
  unfold mX12_looksBack_48 at h
  refine G_aload_n C 0 rfl rfl dX12_looksBack_48 ?_
  refine G_getF C fl_X12_59_11 rfl rfl fn_81_25 dX12_looksBack_49 ?_
  refine G_iload C 4 rfl dX12_looksBack_52 ?_
  obtain ⟨hc15, h⟩ := ifn h
  refine G_iaload C ks_98 hc15 dX12_looksBack_54 ?_
  refine G_iload_n C 2 rfl rfl dX12_looksBack_55 ?_
  refine G_icmp_ne (tgt := 172) C rfl dX12_looksBack_56 (fun hc16 => ?_) (fun hc16 => ?_)
  · replace h := (if_neg hc16).symm.trans h
    refine G_iinc (v := 1) (L' := [(4, .int (x4 + (1 : Int32))), (0, .ref 81), (1, .int x1), (2, .int x2), (3, .int x3)]) C 4 rfl rfl (Nat.le_of_ble_eq_true rfl) rfl dX12_looksBack_172 ?_
    refine G_goto (tgt := 17) C rfl dX12_looksBack_175 ?_
    refine G_sub [1, 2, 3, 4, 0] rfl ?_
    exact hf17 _ _ _ _ _ h
  · replace h := (if_pos hc16).symm.trans h
    refine G_aload_n C 0 rfl rfl dX12_looksBack_59 ?_
    refine G_iload C 4 rfl dX12_looksBack_60 ?_
    refine G_aload_n C 0 rfl rfl dX12_looksBack_62 ?_
    refine G_getI C fl_X12_398_11 (Or.inl rfl) ko_81 dX12_looksBack_63 ?_
    obtain ⟨v17, hv17, h⟩ := bnd h
    refine G_callI (run_V C [.int x4, .int (sI σ 81 72)] [] (dX12_isKnown hv17) ml_X12_isKnown mv_X12_isKnown lk_X12_260 ⟨(Nat.le_of_ble_eq_true rfl), (Nat.le_of_ble_eq_true rfl)⟩ ⟨(Nat.le_of_ble_eq_true rfl), (Nat.le_of_ble_eq_true rfl)⟩ vq_11 rfl ko_81 rfl (Nat.le_of_ble_eq_true rfl) dX12_looksBack_66) ?_
    refine G_if_eq (tgt := 172) C rfl dX12_looksBack_69 (fun hc18 => ?_) (fun hc18 => ?_)
    · replace h := (if_pos hc18).symm.trans h
      refine G_iinc (v := 1) (L' := [(4, .int (x4 + (1 : Int32))), (0, .ref 81), (1, .int x1), (2, .int x2), (3, .int x3)]) C 4 rfl rfl (Nat.le_of_ble_eq_true rfl) rfl dX12_looksBack_172 ?_
      refine G_goto (tgt := 17) C rfl dX12_looksBack_175 ?_
      refine G_sub [1, 2, 3, 4, 0] rfl ?_
      exact hf17 _ _ _ _ _ h
    · replace h := (if_neg hc18).symm.trans h
      refine G_aload_n C 0 rfl rfl dX12_looksBack_72 ?_
      refine G_getF C fl_X12_68_11 rfl rfl fn_81_28 dX12_looksBack_73 ?_
      refine G_iload C 4 rfl dX12_looksBack_76 ?_
      refine G_iaload C ks_101 hc15 dX12_looksBack_78 ?_
      refine G_aload_n C 0 rfl rfl dX12_looksBack_79 ?_
      refine G_getF C fl_X12_68_11 rfl rfl fn_81_28 dX12_looksBack_80 ?_
      refine G_iload_n C 1 rfl rfl dX12_looksBack_83 ?_
      obtain ⟨hc19, h⟩ := ifn h
      refine G_iaload C ks_101 hc19 dX12_looksBack_84 ?_
      refine G_icmp_lt (tgt := 91) C rfl dX12_looksBack_85 (fun hc20 => ?_) (fun hc20 => ?_)
      · replace h := (if_pos hc20).symm.trans h
        refine G_aload_n C 0 rfl rfl dX12_looksBack_91 ?_
        refine G_getF C fl_X12_65_11 rfl rfl fn_81_27 dX12_looksBack_92 ?_
        refine G_iload C 4 rfl dX12_looksBack_95 ?_
        refine G_iaload C ks_100 hc15 dX12_looksBack_97 ?_
        refine G_aload_n C 0 rfl rfl dX12_looksBack_98 ?_
        refine G_getF C fl_X12_62_11 rfl rfl fn_81_26 dX12_looksBack_99 ?_
        refine G_iload_n C 1 rfl rfl dX12_looksBack_102 ?_
        refine G_iaload C ks_99 hc19 dX12_looksBack_103 ?_
        refine G_icmp_ne (tgt := 131) C rfl dX12_looksBack_104 (fun hc21 => ?_) (fun hc21 => ?_)
        · replace h := (if_neg hc21).symm.trans h
          exact eX12_looksBack_131 C hr hf17 h
        · replace h := (if_pos hc21).symm.trans h
          refine G_iload_n C 3 rfl rfl dX12_looksBack_107 ?_
          refine G_iconst C (v := -1) rfl dX12_looksBack_108 ?_
          refine G_icmp_eq (tgt := 128) C rfl dX12_looksBack_109 (fun hc27 => ?_) (fun hc27 => ?_)
          · replace h := (if_pos hc27).symm.trans h
            refine G_sub [0, 1, 2, 4] rfl ?_
            exact eX12_looksBack_128 C hr hf17 h
          · replace h := (if_neg hc27).symm.trans h
            refine G_aload_n C 0 rfl rfl dX12_looksBack_112 ?_
            refine G_getF C fl_X12_68_11 rfl rfl fn_81_28 dX12_looksBack_113 ?_
            refine G_iload C 4 rfl dX12_looksBack_116 ?_
            refine G_iaload C ks_101 hc15 dX12_looksBack_118 ?_
            refine G_aload_n C 0 rfl rfl dX12_looksBack_119 ?_
            refine G_getF C fl_X12_68_11 rfl rfl fn_81_28 dX12_looksBack_120 ?_
            refine G_iload_n C 3 rfl rfl dX12_looksBack_123 ?_
            obtain ⟨hc28, h⟩ := ifn h
            refine G_iaload C ks_101 hc28 dX12_looksBack_124 ?_
            refine G_icmp_lt (tgt := 131) C rfl dX12_looksBack_125 (fun hc29 => ?_) (fun hc29 => ?_)
            · replace h := (if_pos hc29).symm.trans h
              exact eX12_looksBack_131 C hr hf17 h
            · replace h := (if_neg hc29).symm.trans h
              refine G_sub [0, 1, 2, 4] rfl ?_
              exact eX12_looksBack_128 C hr hf17 h
      · replace h := (if_neg hc20).symm.trans h
        refine G_goto (tgt := 172) C rfl dX12_looksBack_88 ?_
        refine G_iinc (v := 1) (L' := [(4, .int (x4 + (1 : Int32))), (0, .ref 81), (1, .int x1), (2, .int x2), (3, .int x3)]) C 4 rfl rfl (Nat.le_of_ble_eq_true rfl) rfl dX12_looksBack_172 ?_
        refine G_goto (tgt := 17) C rfl dX12_looksBack_175 ?_
        refine G_sub [1, 2, 3, 4, 0] rfl ?_
        exact hf17 _ _ _ _ _ h
set_option maxRecDepth 100000 in
set_option maxHeartbeats 4000000 in
theorem eX12_looksBack_17B (C : Cx E p s m args meth c cX12_looksBack 5 RX12) (hr : meth.sig.returnType = none) {σ0 : Sto} {r2 : Sto} {σ : Sto} {f17 : Int32 → Int32 → Int32 → Int32 → Sto → Option Sto} {x1 : Int32} {x2 : Int32} {x3 : Int32} {x4 : Int32} (hf17 : ∀ (x1 : Int32) (x2 : Int32) (x3 : Int32) (x4 : Int32) (σ' : Sto), f17 x1 x2 x3 x4 σ' = some r2 → G p l e (rmd 2 0 0) s m args below meth c E true (sZ σ0) ad0 (MQ below (QV E true σ0 r2 ad0) args s 0 0 (AE E)) 5 0 0 σ' 17 [(0, .ref 81), (1, .int x1), (2, .int x2), (3, .int x3), (4, .int x4)] []) (h : mX12_looksBack_17B f17 x1 x2 x3 x4 σ = some r2) : G p l e (rmd 2 0 0) s m args below meth c E true (sZ σ0) ad0 (MQ below (QV E true σ0 r2 ad0) args s 0 0 (AE E)) 5 0 0 σ 17 [(0, .ref 81), (1, .int x1), (2, .int x2), (3, .int x3), (4, .int x4)] [] := by
  unfold mX12_looksBack_17B at h
  refine G_iload C 4 rfl dX12_looksBack_17 ?_
  refine G_aload_n C 0 rfl rfl dX12_looksBack_19 ?_
  refine G_getI C fl_X12_253_11 (Or.inl rfl) ko_81 dX12_looksBack_20 ?_
  refine G_icmp_ge (tgt := 178) C rfl dX12_looksBack_23 (fun hc3 => ?_) (fun hc3 => ?_)
  · replace h := (if_pos hc3).symm.trans h
    refine G_aload_n C 0 rfl rfl dX12_looksBack_178 ?_
    refine G_iload_n C 3 rfl rfl dX12_looksBack_179 ?_
    refine G_iconst C (v := -1) rfl dX12_looksBack_180 ?_
    refine G_icmp_ne (tgt := 189) C rfl dX12_looksBack_181 (fun hc4 => ?_) (fun hc4 => ?_)
    · replace h := (if_neg hc4).symm.trans h
      refine G_aload_n C 0 rfl rfl dX12_looksBack_189 ?_
      refine G_getF C fl_X12_68_11 rfl rfl fn_81_28 dX12_looksBack_190 ?_
      refine G_iload_n C 1 rfl rfl dX12_looksBack_193 ?_
      obtain ⟨hc5, h⟩ := ifn h
      refine G_iaload C ks_101 hc5 dX12_looksBack_194 ?_
      refine G_aload_n C 0 rfl rfl dX12_looksBack_195 ?_
      refine G_getF C fl_X12_68_11 rfl rfl fn_81_28 dX12_looksBack_196 ?_
      refine G_iload_n C 3 rfl rfl dX12_looksBack_199 ?_
      obtain ⟨hc6, h⟩ := ifn h
      refine G_iaload C ks_101 hc6 dX12_looksBack_200 ?_
      refine G_isub C dX12_looksBack_201 ?_
      refine G_sub [0, 2, 3] rfl ?_
      exact eX12_looksBack_202 C hr h
    · replace h := (if_pos hc4).symm.trans h
      refine G_ldc C kc_X12_238 dX12_looksBack_184 ?_
      refine G_goto (tgt := 202) C rfl dX12_looksBack_186 ?_
      refine G_sub [0, 2, 3] rfl ?_
      exact eX12_looksBack_202 C hr h
  · replace h := (if_neg hc3).symm.trans h
    refine G_aload_n C 0 rfl rfl dX12_looksBack_26 ?_
    refine G_getF C fl_X12_56_11 rfl rfl fn_81_24 dX12_looksBack_27 ?_
    refine G_iload C 4 rfl dX12_looksBack_30 ?_
    obtain ⟨hc13, h⟩ := ifn h
    refine G_iaload C ks_97 hc13 dX12_looksBack_32 ?_
    refine G_iconst C (v := 2) rfl dX12_looksBack_33 ?_
    refine G_icmp_eq (tgt := 48) C rfl dX12_looksBack_34 (fun hc14 => ?_) (fun hc14 => ?_)
    · replace h := (if_pos hc14).symm.trans h
      exact eX12_looksBack_48 C hr hf17 h
    · replace h := (if_neg hc14).symm.trans h
      refine G_aload_n C 0 rfl rfl dX12_looksBack_37 ?_
      refine G_getF C fl_X12_56_11 rfl rfl fn_81_24 dX12_looksBack_38 ?_
      refine G_iload C 4 rfl dX12_looksBack_41 ?_
      refine G_iaload C ks_97 hc13 dX12_looksBack_43 ?_
      refine G_iconst C (v := 3) rfl dX12_looksBack_44 ?_
      refine G_icmp_ne (tgt := 172) C rfl dX12_looksBack_45 (fun hc30 => ?_) (fun hc30 => ?_)
      · replace h := (if_neg hc30).symm.trans h
        refine G_iinc (v := 1) (L' := [(4, .int (x4 + (1 : Int32))), (0, .ref 81), (1, .int x1), (2, .int x2), (3, .int x3)]) C 4 rfl rfl (Nat.le_of_ble_eq_true rfl) rfl dX12_looksBack_172 ?_
        refine G_goto (tgt := 17) C rfl dX12_looksBack_175 ?_
        refine G_sub [1, 2, 3, 4, 0] rfl ?_
        exact hf17 _ _ _ _ _ h
      · replace h := (if_pos hc30).symm.trans h
        exact eX12_looksBack_48 C hr hf17 h
set_option maxRecDepth 100000 in
set_option maxHeartbeats 4000000 in
theorem eX12_looksBack_17 (C : Cx E p s m args meth c cX12_looksBack 5 RX12) (hr : meth.sig.returnType = none) {σ0 : Sto} {r2 : Sto} {σ : Sto} {n : Nat} {x1 : Int32} {x2 : Int32} {x3 : Int32} {x4 : Int32} (h : mX12_looksBack_17 n x1 x2 x3 x4 σ = some r2) : G p l e (rmd 2 0 0) s m args below meth c E true (sZ σ0) ad0 (MQ below (QV E true σ0 r2 ad0) args s 0 0 (AE E)) 5 0 0 σ 17 [(0, .ref 81), (1, .int x1), (2, .int x2), (3, .int x3), (4, .int x4)] [] := by
  induction n generalizing x1 x2 x3 x4 σ with
  | zero => exact nomatch (show (none : Option Sto) = some r2 from h)
  | succ n ih => exact eX12_looksBack_17B C hr (fun z0 z1 z2 z3 σ9 h9 => ih h9) h
set_option maxRecDepth 100000 in
set_option maxHeartbeats 4000000 in
theorem dX12_looksBack {σ : Sto} {p0 : Int32} {r2 : Sto} (h : mX12_looksBack p0 σ = some r2) : MM l yX12_looksBack cX12_looksBack 5 none 2 0 0 E true σ [.ref 81, .int p0] (QV E true σ r2) := by
  unfold mX12_looksBack at h
  refine MM_of (by decide) (Nat.le_of_ble_eq_true rfl) rfl (fun p e s m args below meth c ad0 C hr hn => ?_)
  refine G_aload_n C 0 rfl rfl dX12_looksBack_0 ?_
  refine G_getF C fl_X12_59_11 rfl rfl fn_81_25 dX12_looksBack_1 ?_
  refine G_iload_n C 1 rfl rfl dX12_looksBack_4 ?_
  obtain ⟨hc1, h⟩ := ifn h
  refine G_iaload C ks_98 hc1 dX12_looksBack_5 ?_
  refine G_istore_n (L' := [(2, .int (sI σ 98 (p0).toNatClampNeg)), (0, .ref 81), (1, .int p0)]) C rfl (Nat.le_of_ble_eq_true rfl) rfl dX12_looksBack_6 ?_
  refine G_iconst C (v := -1) rfl dX12_looksBack_7 ?_
  refine G_istore_n (L' := [(3, .int (-1 : Int32)), (2, .int (sI σ 98 (p0).toNatClampNeg)), (0, .ref 81), (1, .int p0)]) C rfl (Nat.le_of_ble_eq_true rfl) rfl dX12_looksBack_8 ?_
  refine G_aload_n C 2 rfl rfl dX12_looksBack_9 ?_
  refine G_iconst C (v := 0) rfl dX12_looksBack_10 ?_
  obtain ⟨σ2, hs2, h⟩ := stp_elim h
  refine G_putI C fl_X12_405_11 fp_X12_11_82 (Or.inl rfl) (Or.inl rfl) ko_81 dX12_looksBack_11 ?_
  rw [← hs2]
  refine G_iconst C (v := 0) rfl dX12_looksBack_14 ?_
  refine G_istore (L' := [(4, .int (0 : Int32)), (3, .int (-1 : Int32)), (2, .int (sI σ 98 (p0).toNatClampNeg)), (0, .ref 81), (1, .int p0)]) C (Nat.le_of_ble_eq_true rfl) rfl dX12_looksBack_15 ?_
  refine G_sub [3, 4, 2, 1, 0] rfl ?_
  exact eX12_looksBack_17 C hr h
set_option maxRecDepth 100000 in
set_option maxHeartbeats 4000000 in
theorem dX12_works {σ : Sto} {p0 : Int32} {p1 : Int32} {p2 : Int32} {r : Int32} (h : mX12_works p0 p1 p2 σ = some r) : MM l yX12_works cX12_works 3 (some .int) 1 0 0 E st σ [.int p0, .int p1, .int p2] (QI E st σ r σ) := by
  unfold mX12_works at h
  refine MM_of (by decide) (Nat.le_of_ble_eq_true rfl) rfl (fun p e s m args below meth c ad0 C hr hn => ?_)
  refine G_iload_n C 0 rfl rfl dX12_works_0 ?_
  by_cases hc1 : p0 = (4 : Int32)
  · replace h := (if_pos hc1).symm.trans h
    refine G_tswIn (tgt := 44) C (4) 0 hc1 (by decide) (by decide) (by decide) rfl rfl dX12_works_1 ?_
    refine G_iload_n C 1 rfl rfl dX12_works_44 ?_
    refine G_if_eq (tgt := 56) C rfl dX12_works_45 (fun hc2 => ?_) (fun hc2 => ?_)
    · replace h := (if_pos hc2).symm.trans h
      refine G_iconst C (v := 0) rfl dX12_works_56 ?_
      obtain rfl := Option.some.inj h
      exact G_iret C hr (Nat.le_of_ble_eq_true rfl) (Nat.le_of_ble_eq_true rfl) dX12_works_57
    · replace h := (if_neg hc2).symm.trans h
      refine G_iload_n C 2 rfl rfl dX12_works_48 ?_
      refine G_if_eq (tgt := 56) C rfl dX12_works_49 (fun hc3 => ?_) (fun hc3 => ?_)
      · replace h := (if_pos hc3).symm.trans h
        refine G_iconst C (v := 0) rfl dX12_works_56 ?_
        obtain rfl := Option.some.inj h
        exact G_iret C hr (Nat.le_of_ble_eq_true rfl) (Nat.le_of_ble_eq_true rfl) dX12_works_57
      · replace h := (if_neg hc3).symm.trans h
        refine G_iconst C (v := 1) rfl dX12_works_52 ?_
        refine G_goto (tgt := 57) C rfl dX12_works_53 ?_
        obtain rfl := Option.some.inj h
        exact G_iret C hr (Nat.le_of_ble_eq_true rfl) (Nat.le_of_ble_eq_true rfl) dX12_works_57
  replace h := (if_neg hc1).symm.trans h
  by_cases hc4 : p0 = (5 : Int32)
  · replace h := (if_pos hc4).symm.trans h
    refine G_tswIn (tgt := 58) C (5) 1 hc4 (by decide) (by decide) (by decide) rfl rfl dX12_works_1 ?_
    refine G_iload_n C 1 rfl rfl dX12_works_58 ?_
    refine G_if_ne (tgt := 66) C rfl dX12_works_59 (fun hc5 => ?_) (fun hc5 => ?_)
    · replace h := (if_neg hc5).symm.trans h
      refine G_iconst C (v := 1) rfl dX12_works_66 ?_
      refine G_goto (tgt := 71) C rfl dX12_works_67 ?_
      obtain rfl := Option.some.inj h
      exact G_iret C hr (Nat.le_of_ble_eq_true rfl) (Nat.le_of_ble_eq_true rfl) dX12_works_71
    · replace h := (if_pos hc5).symm.trans h
      refine G_iload_n C 2 rfl rfl dX12_works_62 ?_
      refine G_if_eq (tgt := 70) C rfl dX12_works_63 (fun hc6 => ?_) (fun hc6 => ?_)
      · replace h := (if_pos hc6).symm.trans h
        refine G_iconst C (v := 0) rfl dX12_works_70 ?_
        obtain rfl := Option.some.inj h
        exact G_iret C hr (Nat.le_of_ble_eq_true rfl) (Nat.le_of_ble_eq_true rfl) dX12_works_71
      · replace h := (if_neg hc6).symm.trans h
        refine G_iconst C (v := 1) rfl dX12_works_66 ?_
        refine G_goto (tgt := 71) C rfl dX12_works_67 ?_
        obtain rfl := Option.some.inj h
        exact G_iret C hr (Nat.le_of_ble_eq_true rfl) (Nat.le_of_ble_eq_true rfl) dX12_works_71
  replace h := (if_neg hc4).symm.trans h
  by_cases hc7 : p0 = (6 : Int32)
  · replace h := (if_pos hc7).symm.trans h
    refine G_tswIn (tgt := 72) C (6) 2 hc7 (by decide) (by decide) (by decide) rfl rfl dX12_works_1 ?_
    refine G_iload_n C 1 rfl rfl dX12_works_72 ?_
    refine G_iload_n C 2 rfl rfl dX12_works_73 ?_
    refine G_icmp_ge (tgt := 81) C rfl dX12_works_74 (fun hc8 => ?_) (fun hc8 => ?_)
    · replace h := (if_pos hc8).symm.trans h
      refine G_iconst C (v := 0) rfl dX12_works_81 ?_
      obtain rfl := Option.some.inj h
      exact G_iret C hr (Nat.le_of_ble_eq_true rfl) (Nat.le_of_ble_eq_true rfl) dX12_works_82
    · replace h := (if_neg hc8).symm.trans h
      refine G_iconst C (v := 1) rfl dX12_works_77 ?_
      refine G_goto (tgt := 82) C rfl dX12_works_78 ?_
      obtain rfl := Option.some.inj h
      exact G_iret C hr (Nat.le_of_ble_eq_true rfl) (Nat.le_of_ble_eq_true rfl) dX12_works_82
  replace h := (if_neg hc7).symm.trans h
  by_cases hc9 : p0 = (7 : Int32)
  · replace h := (if_pos hc9).symm.trans h
    refine G_tswIn (tgt := 83) C (7) 3 hc9 (by decide) (by decide) (by decide) rfl rfl dX12_works_1 ?_
    refine G_iload_n C 1 rfl rfl dX12_works_83 ?_
    refine G_iload_n C 2 rfl rfl dX12_works_84 ?_
    refine G_icmp_ne (tgt := 92) C rfl dX12_works_85 (fun hc10 => ?_) (fun hc10 => ?_)
    · replace h := (if_neg hc10).symm.trans h
      refine G_iconst C (v := 0) rfl dX12_works_92 ?_
      obtain rfl := Option.some.inj h
      exact G_iret C hr (Nat.le_of_ble_eq_true rfl) (Nat.le_of_ble_eq_true rfl) dX12_works_93
    · replace h := (if_pos hc10).symm.trans h
      refine G_iconst C (v := 1) rfl dX12_works_88 ?_
      refine G_goto (tgt := 93) C rfl dX12_works_89 ?_
      obtain rfl := Option.some.inj h
      exact G_iret C hr (Nat.le_of_ble_eq_true rfl) (Nat.le_of_ble_eq_true rfl) dX12_works_93
  replace h := (if_neg hc9).symm.trans h
  by_cases hc11 : p0 = (8 : Int32)
  · replace h := (if_pos hc11).symm.trans h
    refine G_tswIn (tgt := 94) C (8) 4 hc11 (by decide) (by decide) (by decide) rfl rfl dX12_works_1 ?_
    refine G_iload_n C 1 rfl rfl dX12_works_94 ?_
    refine G_iload_n C 2 rfl rfl dX12_works_95 ?_
    refine G_iadd C dX12_works_96 ?_
    obtain rfl := Option.some.inj h
    exact G_iret C hr (Nat.le_of_ble_eq_true rfl) (Nat.le_of_ble_eq_true rfl) dX12_works_97
  replace h := (if_neg hc11).symm.trans h
  by_cases hc12 : p0 = (9 : Int32)
  · replace h := (if_pos hc12).symm.trans h
    refine G_tswIn (tgt := 98) C (9) 5 hc12 (by decide) (by decide) (by decide) rfl rfl dX12_works_1 ?_
    refine G_iload_n C 1 rfl rfl dX12_works_98 ?_
    refine G_iload_n C 2 rfl rfl dX12_works_99 ?_
    refine G_isub C dX12_works_100 ?_
    obtain rfl := Option.some.inj h
    exact G_iret C hr (Nat.le_of_ble_eq_true rfl) (Nat.le_of_ble_eq_true rfl) dX12_works_101
  replace h := (if_neg hc12).symm.trans h
  by_cases hc13 : p0 = (10 : Int32)
  · replace h := (if_pos hc13).symm.trans h
    refine G_tswIn (tgt := 102) C (10) 6 hc13 (by decide) (by decide) (by decide) rfl rfl dX12_works_1 ?_
    refine G_iload_n C 1 rfl rfl dX12_works_102 ?_
    refine G_iload_n C 2 rfl rfl dX12_works_103 ?_
    refine G_imul C dX12_works_104 ?_
    obtain rfl := Option.some.inj h
    exact G_iret C hr (Nat.le_of_ble_eq_true rfl) (Nat.le_of_ble_eq_true rfl) dX12_works_105
  replace h := (if_neg hc13).symm.trans h
  have ht16 : ∀ j : Nat, j < 7 → p0 ≠ Int32.ofInt (4 + (j : Int)) := by
    intro j hj
    rcases (show j = 0 ∨ j = 1 ∨ j = 2 ∨ j = 3 ∨ j = 4 ∨ j = 5 ∨ j = 6 by omega) with rfl | rfl | rfl | rfl | rfl | rfl | rfl
    · exact hc1
    · exact hc4
    · exact hc7
    · exact hc9
    · exact hc11
    · exact hc12
    · exact hc13
  refine G_tswOut (tgt := 106) C 7 ht16 (by decide) (by decide) rfl dX12_works_1 ?_
  refine G_iload_n C 2 rfl rfl dX12_works_106 ?_
  refine G_if_ne (tgt := 114) C rfl dX12_works_107 (fun hc14 => ?_) (fun hc14 => ?_)
  · replace h := (if_neg hc14).symm.trans h
    refine G_iload_n C 1 rfl rfl dX12_works_114 ?_
    refine G_iload_n C 2 rfl rfl dX12_works_115 ?_
    obtain ⟨hc15, h⟩ := ifn h
    refine G_idiv C hc15 dX12_works_116 ?_
    obtain rfl := Option.some.inj h
    exact G_iret C hr (Nat.le_of_ble_eq_true rfl) (Nat.le_of_ble_eq_true rfl) dX12_works_117
  · replace h := (if_pos hc14).symm.trans h
    refine G_iconst C (v := 0) rfl dX12_works_110 ?_
    refine G_goto (tgt := 117) C rfl dX12_works_111 ?_
    obtain rfl := Option.some.inj h
    exact G_iret C hr (Nat.le_of_ble_eq_true rfl) (Nat.le_of_ble_eq_true rfl) dX12_works_117
set_option maxRecDepth 100000 in
set_option maxHeartbeats 4000000 in
theorem eX12_worth_67 (C : Cx E p s m args meth c cX12_worth 5 RX12) (hr : meth.sig.returnType = (some .int)) {σ0 : Sto} {r1 : Int32} {r2 : Sto} {σ : Sto} {f4 : Int32 → Int32 → Sto → Option (Int32 × Sto)} {x2 : Int32} {x3 : Int32} {y1 : Int32} {y2 : Int32} (hf4 : ∀ (x2 : Int32) (x3 : Int32) (σ' : Sto), f4 x2 x3 σ' = some (r1, r2) → G p l e (rmd 2 0 0) s m args below meth c E true (sZ σ0) ad0 (MQ below (QI E true σ0 r1 r2 ad0) args s 0 0 (AE E)) 5 0 0 σ' 4 [(0, .ref 81), (2, .int x2), (3, .int x3)] []) (h : mX12_worth_67 f4 x2 x3 y1 y2 σ = some (r1, r2)) : G p l e (rmd 2 0 0) s m args below meth c E true (sZ σ0) ad0 (MQ below (QI E true σ0 r1 r2 ad0) args s 0 0 (AE E)) 5 0 0 σ 67 [(0, .ref 81), (2, .int x2), (3, .int x3)] [.int y2, .int y1, .ref 134] := by
  unfold mX12_worth_67 at h
  obtain ⟨hc7, h⟩ := ifn h
  obtain ⟨σ8, hs8, h⟩ := stp_elim h
  refine G_iastore C ks_134 hc7 dX12_worth_67 ?_
  rw [← hs8]
  refine G_iinc (v := 1) (L' := [(3, .int (x3 + (1 : Int32))), (0, .ref 81), (2, .int x2)]) C 2 rfl rfl (Nat.le_of_ble_eq_true rfl) rfl dX12_worth_68 ?_
  refine G_iinc (v := 1) (L' := [(2, .int (x2 + (1 : Int32))), (3, .int (x3 + (1 : Int32))), (0, .ref 81)]) C 2 rfl rfl (Nat.le_of_ble_eq_true rfl) rfl dX12_worth_71 ?_
  refine G_goto (tgt := 140) C rfl dX12_worth_74 ?_
  refine G_goto (tgt := 4) C rfl dX12_worth_140 ?_
  refine G_sub [2, 0, 1] rfl ?_
  exact hf4 _ _ _ h
set_option maxRecDepth 100000 in
set_option maxHeartbeats 4000000 in
theorem eX12_worth_36 (C : Cx E p s m args meth c cX12_worth 5 RX12) (hr : meth.sig.returnType = (some .int)) {σ0 : Sto} {r1 : Int32} {r2 : Sto} {σ : Sto} {f4 : Int32 → Int32 → Sto → Option (Int32 × Sto)} {x2 : Int32} {x3 : Int32} {x4 : Int32} (hf4 : ∀ (x2 : Int32) (x3 : Int32) (σ' : Sto), f4 x2 x3 σ' = some (r1, r2) → G p l e (rmd 2 0 0) s m args below meth c E true (sZ σ0) ad0 (MQ below (QI E true σ0 r1 r2 ad0) args s 0 0 (AE E)) 5 0 0 σ' 4 [(0, .ref 81), (2, .int x2), (3, .int x3)] []) (h : mX12_worth_36 f4 x2 x3 x4 σ = some (r1, r2)) : G p l e (rmd 2 0 0) s m args below meth c E true (sZ σ0) ad0 (MQ below (QI E true σ0 r1 r2 ad0) args s 0 0 (AE E)) 5 0 0 σ 36 [(0, .ref 81), (2, .int x2), (3, .int x3), (4, .int x4)] [] := by
  unfold mX12_worth_36 at h
  refine G_aload_n C 0 rfl rfl dX12_worth_36 ?_
  refine G_getF C fl_X12_171_11 rfl rfl fn_81_88 dX12_worth_37 ?_
  refine G_iload_n C 1 rfl rfl dX12_worth_40 ?_
  refine G_iload C 3 rfl dX12_worth_41 ?_
  refine G_iconst C (v := 1) rfl dX12_worth_43 ?_
  refine G_icmp_ne (tgt := 56) C rfl dX12_worth_44 (fun hc4 => ?_) (fun hc4 => ?_)
  · replace h := (if_neg hc4).symm.trans h
    refine G_aload_n C 0 rfl rfl dX12_worth_56 ?_
    refine G_getF C fl_X12_168_11 rfl rfl fn_81_87 dX12_worth_57 ?_
    refine G_aload_n C 0 rfl rfl dX12_worth_60 ?_
    refine G_getF C fl_X12_147_11 rfl rfl fn_81_69 dX12_worth_61 ?_
    refine G_iload_n C 2 rfl rfl dX12_worth_64 ?_
    obtain ⟨hc5, h⟩ := ifn h
    refine G_iaload C ks_126 hc5 dX12_worth_65 ?_
    obtain ⟨hc6, h⟩ := ifn h
    refine G_iaload C ks_133 hc6 dX12_worth_66 ?_
    refine G_sub [0, 1, 2] rfl ?_
    exact eX12_worth_67 C hr hf4 h
  · replace h := (if_pos hc4).symm.trans h
    refine G_aload_n C 0 rfl rfl dX12_worth_47 ?_
    refine G_getF C fl_X12_147_11 rfl rfl fn_81_69 dX12_worth_48 ?_
    refine G_iload_n C 2 rfl rfl dX12_worth_51 ?_
    obtain ⟨hc9, h⟩ := ifn h
    refine G_iaload C ks_126 hc9 dX12_worth_52 ?_
    refine G_goto (tgt := 67) C rfl dX12_worth_53 ?_
    refine G_sub [0, 1, 2] rfl ?_
    exact eX12_worth_67 C hr hf4 h
set_option maxRecDepth 100000 in
set_option maxHeartbeats 4000000 in
theorem eX12_worth_106 (C : Cx E p s m args meth c cX12_worth 5 RX12) (hr : meth.sig.returnType = (some .int)) {σ0 : Sto} {r1 : Int32} {r2 : Sto} {σ : Sto} {f4 : Int32 → Int32 → Sto → Option (Int32 × Sto)} {x2 : Int32} {x3 : Int32} {y1 : Int32} {y2 : Int32} (hf4 : ∀ (x2 : Int32) (x3 : Int32) (σ' : Sto), f4 x2 x3 σ' = some (r1, r2) → G p l e (rmd 2 0 0) s m args below meth c E true (sZ σ0) ad0 (MQ below (QI E true σ0 r1 r2 ad0) args s 0 0 (AE E)) 5 0 0 σ' 4 [(0, .ref 81), (2, .int x2), (3, .int x3)] []) (h : mX12_worth_106 f4 x2 x3 y1 y2 σ = some (r1, r2)) : G p l e (rmd 2 0 0) s m args below meth c E true (sZ σ0) ad0 (MQ below (QI E true σ0 r1 r2 ad0) args s 0 0 (AE E)) 5 0 0 σ 106 [(0, .ref 81), (2, .int x2), (3, .int x3)] [.int y2, .int y1, .ref 134] := by
  unfold mX12_worth_106 at h
  obtain ⟨hc18, h⟩ := ifn h
  obtain ⟨σ19, hs19, h⟩ := stp_elim h
  refine G_iastore C ks_134 hc18 dX12_worth_106 ?_
  rw [← hs19]
  refine G_goto (tgt := 140) C rfl dX12_worth_107 ?_
  refine G_goto (tgt := 4) C rfl dX12_worth_140 ?_
  exact hf4 _ _ _ h
set_option maxRecDepth 100000 in
set_option maxHeartbeats 4000000 in
theorem eX12_worth_4B (C : Cx E p s m args meth c cX12_worth 5 RX12) (hr : meth.sig.returnType = (some .int)) {σ0 : Sto} {r1 : Int32} {r2 : Sto} {σ : Sto} {f4 : Int32 → Int32 → Sto → Option (Int32 × Sto)} {x2 : Int32} {x3 : Int32} (hf4 : ∀ (x2 : Int32) (x3 : Int32) (σ' : Sto), f4 x2 x3 σ' = some (r1, r2) → G p l e (rmd 2 0 0) s m args below meth c E true (sZ σ0) ad0 (MQ below (QI E true σ0 r1 r2 ad0) args s 0 0 (AE E)) 5 0 0 σ' 4 [(0, .ref 81), (2, .int x2), (3, .int x3)] []) (h : mX12_worth_4B f4 x2 x3 σ = some (r1, r2)) : G p l e (rmd 2 0 0) s m args below meth c E true (sZ σ0) ad0 (MQ below (QI E true σ0 r1 r2 ad0) args s 0 0 (AE E)) 5 0 0 σ 4 [(0, .ref 81), (2, .int x2), (3, .int x3)] [] := by
  unfold mX12_worth_4B at h
  refine G_aload_n C 0 rfl rfl dX12_worth_4 ?_
  refine G_getF C fl_X12_147_11 rfl rfl fn_81_69 dX12_worth_5 ?_
  refine G_iload_n C 2 rfl rfl dX12_worth_8 ?_
  obtain ⟨hc1, h⟩ := ifn h
  refine G_iaload C ks_126 hc1 dX12_worth_9 ?_
  refine G_if_eq (tgt := 143) C rfl dX12_worth_10 (fun hc2 => ?_) (fun hc2 => ?_)
  · replace h := (if_pos hc2).symm.trans h
    refine G_aload_n C 0 rfl rfl dX12_worth_143 ?_
    refine G_getF C fl_X12_171_11 rfl rfl fn_81_88 dX12_worth_144 ?_
    refine G_iconst C (v := 0) rfl dX12_worth_147 ?_
    refine G_iaload C ks_134 ⟨by decide, by decide⟩ dX12_worth_148 ?_
    obtain ⟨rfl, rfl⟩ := some2 h
    exact G_iret C hr (Nat.le_of_ble_eq_true rfl) (Nat.le_of_ble_eq_true rfl) dX12_worth_149
  · replace h := (if_neg hc2).symm.trans h
    refine G_aload_n C 0 rfl rfl dX12_worth_13 ?_
    refine G_getF C fl_X12_147_11 rfl rfl fn_81_69 dX12_worth_14 ?_
    refine G_iload_n C 2 rfl rfl dX12_worth_17 ?_
    refine G_iaload C ks_126 hc1 dX12_worth_18 ?_
    refine G_istore (L' := [(4, .int (sI σ 126 (x3).toNatClampNeg)), (0, .ref 81), (2, .int x2), (3, .int x3)]) C (Nat.le_of_ble_eq_true rfl) rfl dX12_worth_19 ?_
    refine G_iinc (v := 1) (L' := [(3, .int (x3 + (1 : Int32))), (4, .int (sI σ 126 (x3).toNatClampNeg)), (0, .ref 81), (2, .int x2)]) C 3 rfl rfl (Nat.le_of_ble_eq_true rfl) rfl dX12_worth_21 ?_
    refine G_iload C 1 rfl dX12_worth_24 ?_
    refine G_iconst C (v := 1) rfl dX12_worth_26 ?_
    refine G_icmp_eq (tgt := 36) C rfl dX12_worth_27 (fun hc3 => ?_) (fun hc3 => ?_)
    · replace h := (if_pos hc3).symm.trans h
      refine G_sub [2, 3, 0, 1] rfl ?_
      exact eX12_worth_36 C hr hf4 h
    · replace h := (if_neg hc3).symm.trans h
      refine G_iload C 1 rfl dX12_worth_30 ?_
      refine G_iconst C (v := 2) rfl dX12_worth_32 ?_
      refine G_icmp_ne (tgt := 77) C rfl dX12_worth_33 (fun hc10 => ?_) (fun hc10 => ?_)
      · replace h := (if_neg hc10).symm.trans h
        refine G_iload C 1 rfl dX12_worth_77 ?_
        refine G_iconst C (v := 3) rfl dX12_worth_79 ?_
        refine G_icmp_ne (tgt := 110) C rfl dX12_worth_80 (fun hc11 => ?_) (fun hc11 => ?_)
        · replace h := (if_neg hc11).symm.trans h
          refine G_iinc (v := -1) (L' := [(2, .int (x2 + (-1 : Int32))), (3, .int (x3 + (1 : Int32))), (4, .int (sI σ 126 (x3).toNatClampNeg)), (0, .ref 81)]) C 3 rfl rfl (Nat.le_of_ble_eq_true rfl) rfl dX12_worth_110 ?_
          refine G_aload_n C 3 rfl rfl dX12_worth_113 ?_
          refine G_getF C fl_X12_171_11 rfl rfl fn_81_88 dX12_worth_114 ?_
          refine G_iload_n C 0 rfl rfl dX12_worth_117 ?_
          refine G_iconst C (v := 1) rfl dX12_worth_118 ?_
          refine G_isub C dX12_worth_119 ?_
          refine G_iload C 2 rfl dX12_worth_120 ?_
          refine G_aload_n C 3 rfl rfl dX12_worth_122 ?_
          refine G_getF C fl_X12_171_11 rfl rfl fn_81_88 dX12_worth_123 ?_
          refine G_iload_n C 0 rfl rfl dX12_worth_126 ?_
          refine G_iconst C (v := 1) rfl dX12_worth_127 ?_
          refine G_isub C dX12_worth_128 ?_
          obtain ⟨hc12, h⟩ := ifn h
          refine G_iaload C ks_134 hc12 dX12_worth_129 ?_
          refine G_aload_n C 3 rfl rfl dX12_worth_130 ?_
          refine G_getF C fl_X12_171_11 rfl rfl fn_81_88 dX12_worth_131 ?_
          refine G_iload_n C 0 rfl rfl dX12_worth_134 ?_
          obtain ⟨hc13, h⟩ := ifn h
          refine G_iaload C ks_134 hc13 dX12_worth_135 ?_
          obtain ⟨v14, hv14, h⟩ := bnd h
          refine G_callI (run_S C [.int (sI σ 126 (x3).toNatClampNeg), .int (sI σ 134 (((x2 + (-1 : Int32)) - (1 : Int32))).toNatClampNeg), .int (sI σ 134 ((x2 + (-1 : Int32))).toNatClampNeg)] [.int ((x2 + (-1 : Int32)) - (1 : Int32)), .ref 134] (dX12_works hv14) ml_X12_works ms_X12_works lk_X12_414 ⟨(Nat.le_of_ble_eq_true rfl), (Nat.le_of_ble_eq_true rfl)⟩ ⟨(Nat.le_of_ble_eq_true rfl), (Nat.le_of_ble_eq_true rfl)⟩ rfl (Nat.le_of_ble_eq_true rfl) dX12_worth_136) ?_
          obtain ⟨σ15, hs15, h⟩ := stp_elim h
          refine G_iastore C ks_134 hc12 dX12_worth_139 ?_
          rw [← hs15]
          refine G_goto (tgt := 4) C rfl dX12_worth_140 ?_
          refine G_sub [3, 0, 1] rfl ?_
          exact hf4 _ _ _ h
        · replace h := (if_pos hc11).symm.trans h
          refine G_aload_n C 2 rfl rfl dX12_worth_83 ?_
          refine G_getF C fl_X12_171_11 rfl rfl fn_81_88 dX12_worth_84 ?_
          refine G_iload_n C 3 rfl rfl dX12_worth_87 ?_
          refine G_iconst C (v := 1) rfl dX12_worth_88 ?_
          refine G_isub C dX12_worth_89 ?_
          refine G_aload_n C 2 rfl rfl dX12_worth_90 ?_
          refine G_getF C fl_X12_171_11 rfl rfl fn_81_88 dX12_worth_91 ?_
          refine G_iload_n C 3 rfl rfl dX12_worth_94 ?_
          refine G_iconst C (v := 1) rfl dX12_worth_95 ?_
          refine G_isub C dX12_worth_96 ?_
          obtain ⟨hc16, h⟩ := ifn h
          refine G_iaload C ks_134 hc16 dX12_worth_97 ?_
          refine G_if_ne (tgt := 105) C rfl dX12_worth_98 (fun hc17 => ?_) (fun hc17 => ?_)
          · replace h := (if_neg hc17).symm.trans h
            refine G_iconst C (v := 0) rfl dX12_worth_105 ?_
            refine G_sub [2, 3, 0] rfl ?_
            exact eX12_worth_106 C hr hf4 h
          · replace h := (if_pos hc17).symm.trans h
            refine G_iconst C (v := 1) rfl dX12_worth_101 ?_
            refine G_goto (tgt := 106) C rfl dX12_worth_102 ?_
            refine G_sub [2, 3, 0] rfl ?_
            exact eX12_worth_106 C hr hf4 h
      · replace h := (if_pos hc10).symm.trans h
        refine G_sub [2, 3, 0, 1] rfl ?_
        exact eX12_worth_36 C hr hf4 h
set_option maxRecDepth 100000 in
set_option maxHeartbeats 4000000 in
theorem eX12_worth_4 (C : Cx E p s m args meth c cX12_worth 5 RX12) (hr : meth.sig.returnType = (some .int)) {σ0 : Sto} {r1 : Int32} {r2 : Sto} {σ : Sto} {n : Nat} {x2 : Int32} {x3 : Int32} (h : mX12_worth_4 n x2 x3 σ = some (r1, r2)) : G p l e (rmd 2 0 0) s m args below meth c E true (sZ σ0) ad0 (MQ below (QI E true σ0 r1 r2 ad0) args s 0 0 (AE E)) 5 0 0 σ 4 [(0, .ref 81), (2, .int x2), (3, .int x3)] [] := by
  induction n generalizing x2 x3 σ with
  | zero => exact nomatch (show (none : Option (Int32 × Sto)) = some (r1, r2) from h)
  | succ n ih => exact eX12_worth_4B C hr (fun z0 z1 σ9 h9 => ih h9) h
set_option maxRecDepth 100000 in
set_option maxHeartbeats 4000000 in
theorem dX12_worth {σ : Sto} {p0 : Int32} {r1 : Int32} {r2 : Sto} (h : mX12_worth p0 σ = some (r1, r2)) : MM l yX12_worth cX12_worth 5 (some .int) 2 0 0 E true σ [.ref 81, .int p0] (QI E true σ r1 r2) := by
  unfold mX12_worth at h
  refine MM_of (by decide) (Nat.le_of_ble_eq_true rfl) rfl (fun p e s m args below meth c ad0 C hr hn => ?_)
  refine G_iconst C (v := 0) rfl dX12_worth_0 ?_
  refine G_istore_n (L' := [(2, .int (0 : Int32)), (0, .ref 81), (1, .int p0)]) C rfl (Nat.le_of_ble_eq_true rfl) rfl dX12_worth_1 ?_
  refine G_iload_n C 2 rfl rfl dX12_worth_2 ?_
  refine G_istore_n (L' := [(3, .int p0), (2, .int (0 : Int32)), (0, .ref 81), (1, .int p0)]) C rfl (Nat.le_of_ble_eq_true rfl) rfl dX12_worth_3 ?_
  refine G_sub [2, 1, 0] rfl ?_
  exact eX12_worth_4 C hr h
set_option maxRecDepth 100000 in
set_option maxHeartbeats 4000000 in
theorem eX12_isCounting_138 (C : Cx E p s m args meth c cX12_isCounting 4 RX12) (hr : meth.sig.returnType = (some .boolean)) {σ0 : Sto} {r1 : Int32} {r2 : Sto} {σ : Sto} {x2 : Int32} {y1 : Int32} {y2 : Int32} (h : mX12_isCounting_138 x2 y1 y2 σ = some (r1, r2)) : G p l e (rmd 3 0 0) s m args below meth c E true (sZ σ0) ad0 (MQ below (QI E true σ0 r1 r2 ad0) args s 0 0 (AE E)) 4 0 0 σ 138 [(0, .ref 81), (2, .int x2)] [.int y2, .int y1, .ref 133] := by
  unfold mX12_isCounting_138 at h
  obtain ⟨hc14, h⟩ := ifn h
  obtain ⟨σ15, hs15, h⟩ := stp_elim h
  refine G_iastore C ks_133 hc14 dX12_isCounting_138 ?_
  rw [← hs15]
  refine G_aload_n C 0 rfl rfl dX12_isCounting_139 ?_
  refine G_getF C fl_X12_168_11 rfl rfl fn_81_87 dX12_isCounting_140 ?_
  refine G_iconst C (v := 5) rfl dX12_isCounting_143 ?_
  refine G_aload_n C 0 rfl rfl dX12_isCounting_144 ?_
  refine G_getI C fl_X12_408_11 (Or.inl rfl) ko_81 dX12_isCounting_145 ?_
  obtain ⟨σ16, hs16, h⟩ := stp_elim h
  refine G_iastore C ks_133 ⟨by decide, by decide⟩ dX12_isCounting_148 ?_
  rw [← hs16]
  refine G_aload_n C 0 rfl rfl dX12_isCounting_149 ?_
  refine G_getF C fl_X12_168_11 rfl rfl fn_81_87 dX12_isCounting_150 ?_
  refine G_bipush C (v := 6) rfl dX12_isCounting_153 ?_
  refine G_aload_n C 0 rfl rfl dX12_isCounting_155 ?_
  refine G_getI C fl_X12_411_11 (Or.inl rfl) ko_81 dX12_isCounting_156 ?_
  obtain ⟨σ17, hs17, h⟩ := stp_elim h
  refine G_iastore C ks_133 ⟨by decide, by decide⟩ dX12_isCounting_159 ?_
  rw [← hs17]
  refine G_aload_n C 0 rfl rfl dX12_isCounting_160 ?_
  refine G_getF C fl_X12_168_11 rfl rfl fn_81_87 dX12_isCounting_161 ?_
  refine G_bipush C (v := 7) rfl dX12_isCounting_164 ?_
  refine G_aload_n C 0 rfl rfl dX12_isCounting_166 ?_
  refine G_getI C fl_X12_405_11 (Or.inl rfl) ko_81 dX12_isCounting_167 ?_
  obtain ⟨σ18, hs18, h⟩ := stp_elim h
  refine G_iastore C ks_133 ⟨by decide, by decide⟩ dX12_isCounting_170 ?_
  rw [← hs18]
  refine G_aload_n C 0 rfl rfl dX12_isCounting_171 ?_
  refine G_getF C fl_X12_168_11 rfl rfl fn_81_87 dX12_isCounting_172 ?_
  refine G_bipush C (v := 8) rfl dX12_isCounting_175 ?_
  refine G_aload_n C 0 rfl rfl dX12_isCounting_177 ?_
  refine G_getF C fl_X12_16_11 rfl rfl fn_81_11 dX12_isCounting_178 ?_
  refine G_iload_n C 1 rfl rfl dX12_isCounting_181 ?_
  obtain ⟨hc19, h⟩ := ifn h
  refine G_iaload C ks_84 hc19 dX12_isCounting_182 ?_
  obtain ⟨σ20, hs20, h⟩ := stp_elim h
  refine G_iastore C ks_133 ⟨by decide, by decide⟩ dX12_isCounting_183 ?_
  rw [← hs20]
  refine G_aload_n C 0 rfl rfl dX12_isCounting_184 ?_
  refine G_getF C fl_X12_168_11 rfl rfl fn_81_87 dX12_isCounting_185 ?_
  refine G_bipush C (v := 9) rfl dX12_isCounting_188 ?_
  refine G_aload_n C 0 rfl rfl dX12_isCounting_190 ?_
  refine G_getF C fl_X12_25_11 rfl rfl fn_81_14 dX12_isCounting_191 ?_
  refine G_iload_n C 1 rfl rfl dX12_isCounting_194 ?_
  refine G_iaload C ks_87 hc19 dX12_isCounting_195 ?_
  obtain ⟨σ21, hs21, h⟩ := stp_elim h
  refine G_iastore C ks_133 ⟨by decide, by decide⟩ dX12_isCounting_196 ?_
  rw [← hs21]
  refine G_aload_n C 0 rfl rfl dX12_isCounting_197 ?_
  refine G_aload_n C 0 rfl rfl dX12_isCounting_198 ?_
  refine G_getF C fl_X12_138_11 rfl rfl fn_81_66 dX12_isCounting_199 ?_
  refine G_aload_n C 0 rfl rfl dX12_isCounting_202 ?_
  refine G_getI C fl_X12_416_11 (Or.inl rfl) ko_81 dX12_isCounting_203 ?_
  obtain ⟨hc22, h⟩ := ifn h
  refine G_iaload C ks_123 hc22 dX12_isCounting_206 ?_
  obtain ⟨v23, σ23, hv23, h⟩ := bd2_elim h
  refine G_callI (run_V C [.int (sI σ21 123 ((sI σ21 81 79)).toNatClampNeg)] [] (dX12_worth hv23) ml_X12_worth mv_X12_worth lk_X12_422 ⟨(Nat.le_of_ble_eq_true rfl), (Nat.le_of_ble_eq_true rfl)⟩ ⟨(Nat.le_of_ble_eq_true rfl), (Nat.le_of_ble_eq_true rfl)⟩ vq_11 rfl ko_81 rfl (Nat.le_of_ble_eq_true rfl) dX12_isCounting_207) ?_
  refine G_if_eq (tgt := 217) C rfl dX12_isCounting_210 (fun hc24 => ?_) (fun hc24 => ?_)
  · replace h := (if_pos hc24).symm.trans h
    refine G_iconst C (v := 0) rfl dX12_isCounting_217 ?_
    obtain ⟨rfl, rfl⟩ := some2 h
    exact G_zret C (by decide) hr (Nat.le_of_ble_eq_true rfl) (Nat.le_of_ble_eq_true rfl) dX12_isCounting_218
  · replace h := (if_neg hc24).symm.trans h
    refine G_iconst C (v := 1) rfl dX12_isCounting_213 ?_
    refine G_goto (tgt := 218) C rfl dX12_isCounting_214 ?_
    obtain ⟨rfl, rfl⟩ := some2 h
    exact G_zret C (by decide) hr (Nat.le_of_ble_eq_true rfl) (Nat.le_of_ble_eq_true rfl) dX12_isCounting_218
set_option maxRecDepth 100000 in
set_option maxHeartbeats 4000000 in
theorem dX12_isCounting {σ : Sto} {p0 : Int32} {r1 : Int32} {r2 : Sto} (h : mX12_isCounting p0 σ = some (r1, r2)) : MM l yX12_isCounting cX12_isCounting 4 (some .boolean) 3 0 0 E true σ [.ref 81, .int p0] (QI E true σ r1 r2) := by
  unfold mX12_isCounting at h
  refine MM_of (by decide) (Nat.le_of_ble_eq_true rfl) rfl (fun p e s m args below meth c ad0 C hr hn => ?_)
  refine G_aload_n C 0 rfl rfl dX12_isCounting_0 ?_
  refine G_getI C fl_X12_416_11 (Or.inl rfl) ko_81 dX12_isCounting_1 ?_
  refine G_iconst C (v := -1) rfl dX12_isCounting_4 ?_
  refine G_icmp_eq (tgt := 24) C rfl dX12_isCounting_5 (fun hc1 => ?_) (fun hc1 => ?_)
  · replace h := (if_pos hc1).symm.trans h
    refine G_iconst C (v := 0) rfl dX12_isCounting_24 ?_
    obtain ⟨rfl, rfl⟩ := some2 h
    exact G_zret C (by decide) hr (Nat.le_of_ble_eq_true rfl) (Nat.le_of_ble_eq_true rfl) dX12_isCounting_25
  · replace h := (if_neg hc1).symm.trans h
    refine G_aload_n C 0 rfl rfl dX12_isCounting_8 ?_
    refine G_getI C fl_X12_419_11 (Or.inl rfl) ko_81 dX12_isCounting_9 ?_
    refine G_aload_n C 0 rfl rfl dX12_isCounting_12 ?_
    refine G_getF C fl_X12_123_11 rfl rfl fn_81_61 dX12_isCounting_13 ?_
    refine G_aload_n C 0 rfl rfl dX12_isCounting_16 ?_
    refine G_getI C fl_X12_416_11 (Or.inl rfl) ko_81 dX12_isCounting_17 ?_
    obtain ⟨hc2, h⟩ := ifn h
    refine G_iaload C ks_118 hc2 dX12_isCounting_20 ?_
    refine G_icmp_ge (tgt := 26) C rfl dX12_isCounting_21 (fun hc3 => ?_) (fun hc3 => ?_)
    · replace h := (if_pos hc3).symm.trans h
      refine G_aload_n C 0 rfl rfl dX12_isCounting_26 ?_
      refine G_getF C fl_X12_59_11 rfl rfl fn_81_25 dX12_isCounting_27 ?_
      refine G_iload_n C 1 rfl rfl dX12_isCounting_30 ?_
      obtain ⟨hc4, h⟩ := ifn h
      refine G_iaload C ks_98 hc4 dX12_isCounting_31 ?_
      refine G_istore_n (L' := [(2, .int (sI σ 98 (p0).toNatClampNeg)), (0, .ref 81), (1, .int p0)]) C rfl (Nat.le_of_ble_eq_true rfl) rfl dX12_isCounting_32 ?_
      refine G_aload_n C 1 rfl rfl dX12_isCounting_33 ?_
      refine G_iload_n C 0 rfl rfl dX12_isCounting_34 ?_
      refine G_aload_n C 1 rfl rfl dX12_isCounting_35 ?_
      refine G_getF C fl_X12_62_11 rfl rfl fn_81_26 dX12_isCounting_36 ?_
      refine G_iload_n C 2 rfl rfl dX12_isCounting_39 ?_
      refine G_iaload C ks_99 hc4 dX12_isCounting_40 ?_
      obtain ⟨v5, hv5, h⟩ := bnd h
      refine G_callI (run_V C [.int (sI σ 98 (p0).toNatClampNeg), .int (sI σ 99 (p0).toNatClampNeg)] [] (dX12_isBy hv5) ml_X12_isBy mv_X12_isBy lk_X12_246 ⟨(Nat.le_of_ble_eq_true rfl), (Nat.le_of_ble_eq_true rfl)⟩ ⟨(Nat.le_of_ble_eq_true rfl), (Nat.le_of_ble_eq_true rfl)⟩ vq_11 rfl ko_81 rfl (Nat.le_of_ble_eq_true rfl) dX12_isCounting_41) ?_
      refine G_istore_n (L' := [(3, .int v5), (2, .int (sI σ 98 (p0).toNatClampNeg)), (0, .ref 81), (1, .int p0)]) C rfl (Nat.le_of_ble_eq_true rfl) rfl dX12_isCounting_44 ?_
      refine G_aload_n C 2 rfl rfl dX12_isCounting_45 ?_
      refine G_getF C fl_X12_138_11 rfl rfl fn_81_66 dX12_isCounting_46 ?_
      refine G_aload_n C 2 rfl rfl dX12_isCounting_49 ?_
      refine G_getI C fl_X12_416_11 (Or.inl rfl) ko_81 dX12_isCounting_50 ?_
      refine G_iaload C ks_123 hc2 dX12_isCounting_53 ?_
      refine G_iconst C (v := -1) rfl dX12_isCounting_54 ?_
      refine G_icmp_ne (tgt := 68) C rfl dX12_isCounting_55 (fun hc6 => ?_) (fun hc6 => ?_)
      · replace h := (if_neg hc6).symm.trans h
        refine G_aload_n C 2 rfl rfl dX12_isCounting_68 ?_
        refine G_getF C fl_X12_168_11 rfl rfl fn_81_87 dX12_isCounting_69 ?_
        refine G_iconst C (v := 0) rfl dX12_isCounting_72 ?_
        refine G_aload_n C 2 rfl rfl dX12_isCounting_73 ?_
        refine G_getI C fl_X12_419_11 (Or.inl rfl) ko_81 dX12_isCounting_74 ?_
        obtain ⟨σ7, hs7, h⟩ := stp_elim h
        refine G_iastore C ks_133 ⟨by decide, by decide⟩ dX12_isCounting_77 ?_
        rw [← hs7]
        refine G_aload_n C 2 rfl rfl dX12_isCounting_78 ?_
        refine G_getF C fl_X12_168_11 rfl rfl fn_81_87 dX12_isCounting_79 ?_
        refine G_iconst C (v := 1) rfl dX12_isCounting_82 ?_
        refine G_aload_n C 2 rfl rfl dX12_isCounting_83 ?_
        refine G_getF C fl_X12_13_11 rfl rfl fn_81_10 dX12_isCounting_84 ?_
        refine G_aload_n C 2 rfl rfl dX12_isCounting_87 ?_
        refine G_getF C fl_X12_62_11 rfl rfl fn_81_26 dX12_isCounting_88 ?_
        refine G_iload_n C 3 rfl rfl dX12_isCounting_91 ?_
        refine G_iaload C ks_99 hc4 dX12_isCounting_92 ?_
        obtain ⟨hc8, h⟩ := ifn h
        refine G_iaload C ks_83 hc8 dX12_isCounting_93 ?_
        obtain ⟨σ9, hs9, h⟩ := stp_elim h
        refine G_iastore C ks_133 ⟨by decide, by decide⟩ dX12_isCounting_94 ?_
        rw [← hs9]
        refine G_aload_n C 2 rfl rfl dX12_isCounting_95 ?_
        refine G_getF C fl_X12_168_11 rfl rfl fn_81_87 dX12_isCounting_96 ?_
        refine G_iconst C (v := 2) rfl dX12_isCounting_99 ?_
        refine G_aload_n C 2 rfl rfl dX12_isCounting_100 ?_
        refine G_getF C fl_X12_13_11 rfl rfl fn_81_10 dX12_isCounting_101 ?_
        refine G_aload_n C 2 rfl rfl dX12_isCounting_104 ?_
        refine G_getF C fl_X12_65_11 rfl rfl fn_81_27 dX12_isCounting_105 ?_
        refine G_iload_n C 3 rfl rfl dX12_isCounting_108 ?_
        refine G_iaload C ks_100 hc4 dX12_isCounting_109 ?_
        obtain ⟨hc10, h⟩ := ifn h
        refine G_iaload C ks_83 hc10 dX12_isCounting_110 ?_
        obtain ⟨σ11, hs11, h⟩ := stp_elim h
        refine G_iastore C ks_133 ⟨by decide, by decide⟩ dX12_isCounting_111 ?_
        rw [← hs11]
        refine G_aload_n C 2 rfl rfl dX12_isCounting_112 ?_
        refine G_getF C fl_X12_168_11 rfl rfl fn_81_87 dX12_isCounting_113 ?_
        refine G_iconst C (v := 3) rfl dX12_isCounting_116 ?_
        refine G_aload_n C 2 rfl rfl dX12_isCounting_117 ?_
        refine G_getF C fl_X12_80_11 rfl rfl fn_81_32 dX12_isCounting_118 ?_
        refine G_iload_n C 3 rfl rfl dX12_isCounting_121 ?_
        refine G_iaload C ks_105 hc4 dX12_isCounting_122 ?_
        obtain ⟨σ12, hs12, h⟩ := stp_elim h
        refine G_iastore C ks_133 ⟨by decide, by decide⟩ dX12_isCounting_123 ?_
        rw [← hs12]
        refine G_aload_n C 2 rfl rfl dX12_isCounting_124 ?_
        refine G_getF C fl_X12_168_11 rfl rfl fn_81_87 dX12_isCounting_125 ?_
        refine G_iconst C (v := 4) rfl dX12_isCounting_128 ?_
        refine G_iload_n C 0 rfl rfl dX12_isCounting_129 ?_
        refine G_if_eq (tgt := 137) C rfl dX12_isCounting_130 (fun hc13 => ?_) (fun hc13 => ?_)
        · replace h := (if_pos hc13).symm.trans h
          refine G_iconst C (v := 0) rfl dX12_isCounting_137 ?_
          refine G_sub [2, 1] rfl ?_
          exact eX12_isCounting_138 C hr h
        · replace h := (if_neg hc13).symm.trans h
          refine G_iconst C (v := 1) rfl dX12_isCounting_133 ?_
          refine G_goto (tgt := 138) C rfl dX12_isCounting_134 ?_
          refine G_sub [2, 1] rfl ?_
          exact eX12_isCounting_138 C hr h
      · replace h := (if_pos hc6).symm.trans h
        refine G_iload_n C 0 rfl rfl dX12_isCounting_58 ?_
        refine G_if_ne (tgt := 66) C rfl dX12_isCounting_59 (fun hc25 => ?_) (fun hc25 => ?_)
        · replace h := (if_neg hc25).symm.trans h
          refine G_iconst C (v := 0) rfl dX12_isCounting_66 ?_
          obtain ⟨rfl, rfl⟩ := some2 h
          exact G_zret C (by decide) hr (Nat.le_of_ble_eq_true rfl) (Nat.le_of_ble_eq_true rfl) dX12_isCounting_67
        · replace h := (if_pos hc25).symm.trans h
          refine G_iconst C (v := 1) rfl dX12_isCounting_62 ?_
          refine G_goto (tgt := 67) C rfl dX12_isCounting_63 ?_
          obtain ⟨rfl, rfl⟩ := some2 h
          exact G_zret C (by decide) hr (Nat.le_of_ble_eq_true rfl) (Nat.le_of_ble_eq_true rfl) dX12_isCounting_67
    · replace h := (if_neg hc3).symm.trans h
      refine G_iconst C (v := 0) rfl dX12_isCounting_24 ?_
      obtain ⟨rfl, rfl⟩ := some2 h
      exact G_zret C (by decide) hr (Nat.le_of_ble_eq_true rfl) (Nat.le_of_ble_eq_true rfl) dX12_isCounting_25
set_option maxRecDepth 100000 in
set_option maxHeartbeats 4000000 in
theorem eX12_partOf_149 (C : Cx E p s m args meth c cX12_partOf 6 RX12) (hr : meth.sig.returnType = (some .int)) {r : Int32} {σ : Sto} {x1 : Int64} (h : mX12_partOf_149 x1 σ = some r) : G p l e (rmd 1 0 0) s m args below meth c E true (sZ σ) ad0 (MQ below (QI E true σ r σ ad0) args s 0 0 (AE E)) 6 0 0 σ 149 [(0, .ref 81), (1, .long x1)] [] := by
  unfold mX12_partOf_149 at h
  refine G_lload_n C 1 rfl rfl dX12_partOf_149 ?_
  refine G_ldc2 C kc_X12_425 dX12_partOf_150 ?_
  refine G_ldiv C (by decide) dX12_partOf_153 ?_
  refine G_lstore_n (L' := [(1, .long (x1 / (10000 : Int64))), (0, .ref 81)]) C rfl (Nat.le_of_ble_eq_true rfl) rfl dX12_partOf_154 ?_
  refine G_aload_n C 1 rfl rfl dX12_partOf_155 ?_
  refine G_getF C fl_X12_126_11 rfl rfl fn_81_62 dX12_partOf_156 ?_
  refine G_aload_n C 1 rfl rfl dX12_partOf_159 ?_
  refine G_getI C fl_X12_416_11 (Or.inl rfl) ko_81 dX12_partOf_160 ?_
  obtain ⟨hc4, h⟩ := ifn h
  refine G_iaload C ks_119 hc4 dX12_partOf_163 ?_
  refine G_iconst C (v := -1) rfl dX12_partOf_164 ?_
  refine G_icmp_eq (tgt := 196) C rfl dX12_partOf_165 (fun hc5 => ?_) (fun hc5 => ?_)
  · replace h := (if_pos hc5).symm.trans h
    refine G_lload_n C 0 rfl rfl dX12_partOf_196 ?_
    refine G_l2i C dX12_partOf_197 ?_
    obtain rfl := Option.some.inj h
    exact G_iret C hr (Nat.le_of_ble_eq_true rfl) (Nat.le_of_ble_eq_true rfl) dX12_partOf_198
  · replace h := (if_neg hc5).symm.trans h
    refine G_lload_n C 0 rfl rfl dX12_partOf_168 ?_
    refine G_aload_n C 1 rfl rfl dX12_partOf_169 ?_
    refine G_getF C fl_X12_126_11 rfl rfl fn_81_62 dX12_partOf_170 ?_
    refine G_aload_n C 1 rfl rfl dX12_partOf_173 ?_
    refine G_getI C fl_X12_416_11 (Or.inl rfl) ko_81 dX12_partOf_174 ?_
    refine G_iaload C ks_119 hc4 dX12_partOf_177 ?_
    refine G_i2l C dX12_partOf_178 ?_
    refine G_lcmp C dX12_partOf_179 ?_
    refine G_if_le (tgt := 196) C rfl dX12_partOf_180 (fun hc6 => ?_) (fun hc6 => ?_)
    · replace h := (if_pos hc6).symm.trans h
      refine G_lload_n C 0 rfl rfl dX12_partOf_196 ?_
      refine G_l2i C dX12_partOf_197 ?_
      obtain rfl := Option.some.inj h
      exact G_iret C hr (Nat.le_of_ble_eq_true rfl) (Nat.le_of_ble_eq_true rfl) dX12_partOf_198
    · replace h := (if_neg hc6).symm.trans h
      refine G_aload_n C 1 rfl rfl dX12_partOf_183 ?_
      refine G_getF C fl_X12_126_11 rfl rfl fn_81_62 dX12_partOf_184 ?_
      refine G_aload_n C 1 rfl rfl dX12_partOf_187 ?_
      refine G_getI C fl_X12_416_11 (Or.inl rfl) ko_81 dX12_partOf_188 ?_
      refine G_iaload C ks_119 hc4 dX12_partOf_191 ?_
      refine G_i2l C dX12_partOf_192 ?_
      refine G_goto (tgt := 197) C rfl dX12_partOf_193 ?_
      refine G_l2i C dX12_partOf_197 ?_
      obtain rfl := Option.some.inj h
      exact G_iret C hr (Nat.le_of_ble_eq_true rfl) (Nat.le_of_ble_eq_true rfl) dX12_partOf_198
set_option maxRecDepth 100000 in
set_option maxHeartbeats 4000000 in
theorem eX12_partOf_98 (C : Cx E p s m args meth c cX12_partOf 6 RX12) (hr : meth.sig.returnType = (some .int)) {r : Int32} {σ : Sto} {f7 : Int64 → Int32 → Int32 → Sto → Option Int32} {x1 : Int64} {x4 : Int32} (hf7 : ∀ (x1 : Int64) (x3 : Int32) (x4 : Int32), f7 x1 x3 x4 σ = some r → G p l e (rmd 1 0 0) s m args below meth c E true (sZ σ) ad0 (MQ below (QI E true σ r σ ad0) args s 0 0 (AE E)) 6 0 0 σ 7 [(0, .ref 81), (1, .long x1), (3, .int x3), (4, .int x4)] []) (h : mX12_partOf_98 f7 x1 x4 σ = some r) : G p l e (rmd 1 0 0) s m args below meth c E true (sZ σ) ad0 (MQ below (QI E true σ r σ ad0) args s 0 0 (AE E)) 6 0 0 σ 98 [(0, .ref 81), (1, .long x1), (4, .int x4)] [] := by
  unfold mX12_partOf_98 at h
  refine G_aload_n C 0 rfl rfl dX12_partOf_98 ?_
  refine G_getF C fl_X12_141_11 rfl rfl fn_81_67 dX12_partOf_99 ?_
  refine G_bipush C (v := 16) rfl dX12_partOf_102 ?_
  refine G_aload_n C 0 rfl rfl dX12_partOf_104 ?_
  refine G_getI C fl_X12_416_11 (Or.inl rfl) ko_81 dX12_partOf_105 ?_
  refine G_imul C dX12_partOf_108 ?_
  refine G_iload C 2 rfl dX12_partOf_109 ?_
  refine G_iadd C dX12_partOf_111 ?_
  obtain ⟨hc10, h⟩ := ifn h
  refine G_iaload C ks_124 hc10 dX12_partOf_112 ?_
  refine G_istore_n (L' := [(3, .int (sI σ 124 ((((16 : Int32) * (sI σ 81 79)) + x4)).toNatClampNeg)), (0, .ref 81), (1, .long x1), (4, .int x4)]) C rfl (Nat.le_of_ble_eq_true rfl) rfl dX12_partOf_113 ?_
  refine G_iinc (v := 1) (L' := [(4, .int (x4 + (1 : Int32))), (3, .int (sI σ 124 ((((16 : Int32) * (sI σ 81 79)) + x4)).toNatClampNeg)), (0, .ref 81), (1, .long x1)]) C 3 rfl rfl (Nat.le_of_ble_eq_true rfl) rfl dX12_partOf_114 ?_
  refine G_goto (tgt := 7) C rfl dX12_partOf_117 ?_
  refine G_sub [2, 3, 1, 0] rfl ?_
  exact hf7 _ _ _ h
set_option maxRecDepth 100000 in
set_option maxHeartbeats 4000000 in
theorem eX12_partOf_65 (C : Cx E p s m args meth c cX12_partOf 6 RX12) (hr : meth.sig.returnType = (some .int)) {r : Int32} {σ : Sto} {f7 : Int64 → Int32 → Int32 → Sto → Option Int32} {x1 : Int64} {x3 : Int32} {x4 : Int32} {y0 : Int32} (hf7 : ∀ (x1 : Int64) (x3 : Int32) (x4 : Int32), f7 x1 x3 x4 σ = some r → G p l e (rmd 1 0 0) s m args below meth c E true (sZ σ) ad0 (MQ below (QI E true σ r σ ad0) args s 0 0 (AE E)) 6 0 0 σ 7 [(0, .ref 81), (1, .long x1), (3, .int x3), (4, .int x4)] []) (h : mX12_partOf_65 f7 x1 x3 x4 y0 σ = some r) : G p l e (rmd 1 0 0) s m args below meth c E true (sZ σ) ad0 (MQ below (QI E true σ r σ ad0) args s 0 0 (AE E)) 6 0 0 σ 65 [(0, .ref 81), (1, .long x1), (3, .int x3), (4, .int x4)] [.int y0] := by
  unfold mX12_partOf_65 at h
  refine G_istore (L' := [(5, .int y0), (0, .ref 81), (1, .long x1), (3, .int x3), (4, .int x4)]) C (Nat.le_of_ble_eq_true rfl) rfl dX12_partOf_65 ?_
  refine G_iload C 0 rfl dX12_partOf_67 ?_
  refine G_iload_n C 3 rfl rfl dX12_partOf_69 ?_
  refine G_icmp_le (tgt := 98) C rfl dX12_partOf_70 (fun hc9 => ?_) (fun hc9 => ?_)
  · replace h := (if_pos hc9).symm.trans h
    refine G_sub [1, 2, 4] rfl ?_
    exact eX12_partOf_98 C hr hf7 h
  · replace h := (if_neg hc9).symm.trans h
    refine G_lload_n C 2 rfl rfl dX12_partOf_73 ?_
    refine G_iload C 0 rfl dX12_partOf_74 ?_
    refine G_iload_n C 3 rfl rfl dX12_partOf_76 ?_
    refine G_isub C dX12_partOf_77 ?_
    refine G_i2l C dX12_partOf_78 ?_
    refine G_aload_n C 1 rfl rfl dX12_partOf_79 ?_
    refine G_getF C fl_X12_144_11 rfl rfl fn_81_68 dX12_partOf_80 ?_
    refine G_bipush C (v := 16) rfl dX12_partOf_83 ?_
    refine G_aload_n C 1 rfl rfl dX12_partOf_85 ?_
    refine G_getI C fl_X12_416_11 (Or.inl rfl) ko_81 dX12_partOf_86 ?_
    refine G_imul C dX12_partOf_89 ?_
    refine G_iload C 4 rfl dX12_partOf_90 ?_
    refine G_iadd C dX12_partOf_92 ?_
    obtain ⟨hc11, h⟩ := ifn h
    refine G_iaload C ks_125 hc11 dX12_partOf_93 ?_
    refine G_i2l C dX12_partOf_94 ?_
    refine G_lmul C dX12_partOf_95 ?_
    refine G_ladd C dX12_partOf_96 ?_
    refine G_lstore_n (L' := [(1, .long (x1 + (((y0 - x3)).toInt64 * ((sI σ 125 ((((16 : Int32) * (sI σ 81 79)) + x4)).toNatClampNeg)).toInt64))), (5, .int y0), (0, .ref 81), (3, .int x3), (4, .int x4)]) C rfl (Nat.le_of_ble_eq_true rfl) rfl dX12_partOf_97 ?_
    refine G_sub [2, 0, 4] rfl ?_
    exact eX12_partOf_98 C hr hf7 h
set_option maxRecDepth 100000 in
set_option maxHeartbeats 4000000 in
theorem eX12_partOf_7B (C : Cx E p s m args meth c cX12_partOf 6 RX12) (hr : meth.sig.returnType = (some .int)) {r : Int32} {σ : Sto} {f7 : Int64 → Int32 → Int32 → Sto → Option Int32} {x1 : Int64} {x3 : Int32} {x4 : Int32} (hf7 : ∀ (x1 : Int64) (x3 : Int32) (x4 : Int32), f7 x1 x3 x4 σ = some r → G p l e (rmd 1 0 0) s m args below meth c E true (sZ σ) ad0 (MQ below (QI E true σ r σ ad0) args s 0 0 (AE E)) 6 0 0 σ 7 [(0, .ref 81), (1, .long x1), (3, .int x3), (4, .int x4)] []) (h : mX12_partOf_7B f7 x1 x3 x4 σ = some r) : G p l e (rmd 1 0 0) s m args below meth c E true (sZ σ) ad0 (MQ below (QI E true σ r σ ad0) args s 0 0 (AE E)) 6 0 0 σ 7 [(0, .ref 81), (1, .long x1), (3, .int x3), (4, .int x4)] [] := by
  unfold mX12_partOf_7B at h
  refine G_iload C 3 rfl dX12_partOf_7 ?_
  refine G_aload_n C 0 rfl rfl dX12_partOf_9 ?_
  refine G_getF C fl_X12_117_11 rfl rfl fn_81_59 dX12_partOf_10 ?_
  refine G_aload_n C 0 rfl rfl dX12_partOf_13 ?_
  refine G_getI C fl_X12_416_11 (Or.inl rfl) ko_81 dX12_partOf_14 ?_
  obtain ⟨hc1, h⟩ := ifn h
  refine G_iaload C ks_116 hc1 dX12_partOf_17 ?_
  refine G_icmp_ge (tgt := 120) C rfl dX12_partOf_18 (fun hc2 => ?_) (fun hc2 => ?_)
  · replace h := (if_pos hc2).symm.trans h
    refine G_aload_n C 0 rfl rfl dX12_partOf_120 ?_
    refine G_getI C fl_X12_419_11 (Or.inl rfl) ko_81 dX12_partOf_121 ?_
    refine G_iload_n C 2 rfl rfl dX12_partOf_124 ?_
    refine G_icmp_le (tgt := 149) C rfl dX12_partOf_125 (fun hc3 => ?_) (fun hc3 => ?_)
    · replace h := (if_pos hc3).symm.trans h
      refine G_sub [0, 1] rfl ?_
      exact eX12_partOf_149 C hr h
    · replace h := (if_neg hc3).symm.trans h
      refine G_lload_n C 1 rfl rfl dX12_partOf_128 ?_
      refine G_aload_n C 0 rfl rfl dX12_partOf_129 ?_
      refine G_getI C fl_X12_419_11 (Or.inl rfl) ko_81 dX12_partOf_130 ?_
      refine G_iload_n C 2 rfl rfl dX12_partOf_133 ?_
      refine G_isub C dX12_partOf_134 ?_
      refine G_i2l C dX12_partOf_135 ?_
      refine G_aload_n C 0 rfl rfl dX12_partOf_136 ?_
      refine G_getF C fl_X12_120_11 rfl rfl fn_81_60 dX12_partOf_137 ?_
      refine G_aload_n C 0 rfl rfl dX12_partOf_140 ?_
      refine G_getI C fl_X12_416_11 (Or.inl rfl) ko_81 dX12_partOf_141 ?_
      refine G_iaload C ks_117 hc1 dX12_partOf_144 ?_
      refine G_i2l C dX12_partOf_145 ?_
      refine G_lmul C dX12_partOf_146 ?_
      refine G_ladd C dX12_partOf_147 ?_
      refine G_lstore_n (L' := [(1, .long (x1 + ((((sI σ 81 78) - x3)).toInt64 * ((sI σ 117 ((sI σ 81 79)).toNatClampNeg)).toInt64))), (0, .ref 81), (3, .int x3), (4, .int x4)]) C rfl (Nat.le_of_ble_eq_true rfl) rfl dX12_partOf_148 ?_
      refine G_sub [1, 0] rfl ?_
      exact eX12_partOf_149 C hr h
  · replace h := (if_neg hc2).symm.trans h
    refine G_aload_n C 0 rfl rfl dX12_partOf_21 ?_
    refine G_getF C fl_X12_141_11 rfl rfl fn_81_67 dX12_partOf_22 ?_
    refine G_bipush C (v := 16) rfl dX12_partOf_25 ?_
    refine G_aload_n C 0 rfl rfl dX12_partOf_27 ?_
    refine G_getI C fl_X12_416_11 (Or.inl rfl) ko_81 dX12_partOf_28 ?_
    refine G_imul C dX12_partOf_31 ?_
    refine G_iload C 3 rfl dX12_partOf_32 ?_
    refine G_iadd C dX12_partOf_34 ?_
    obtain ⟨hc7, h⟩ := ifn h
    refine G_iaload C ks_124 hc7 dX12_partOf_35 ?_
    refine G_aload_n C 0 rfl rfl dX12_partOf_36 ?_
    refine G_getI C fl_X12_419_11 (Or.inl rfl) ko_81 dX12_partOf_37 ?_
    refine G_icmp_ge (tgt := 61) C rfl dX12_partOf_40 (fun hc8 => ?_) (fun hc8 => ?_)
    · replace h := (if_pos hc8).symm.trans h
      refine G_aload_n C 0 rfl rfl dX12_partOf_61 ?_
      refine G_getI C fl_X12_419_11 (Or.inl rfl) ko_81 dX12_partOf_62 ?_
      exact eX12_partOf_65 C hr hf7 h
    · replace h := (if_neg hc8).symm.trans h
      refine G_aload_n C 0 rfl rfl dX12_partOf_43 ?_
      refine G_getF C fl_X12_141_11 rfl rfl fn_81_67 dX12_partOf_44 ?_
      refine G_bipush C (v := 16) rfl dX12_partOf_47 ?_
      refine G_aload_n C 0 rfl rfl dX12_partOf_49 ?_
      refine G_getI C fl_X12_416_11 (Or.inl rfl) ko_81 dX12_partOf_50 ?_
      refine G_imul C dX12_partOf_53 ?_
      refine G_iload C 3 rfl dX12_partOf_54 ?_
      refine G_iadd C dX12_partOf_56 ?_
      refine G_iaload C ks_124 hc7 dX12_partOf_57 ?_
      refine G_goto (tgt := 65) C rfl dX12_partOf_58 ?_
      exact eX12_partOf_65 C hr hf7 h
set_option maxRecDepth 100000 in
set_option maxHeartbeats 4000000 in
theorem eX12_partOf_7 (C : Cx E p s m args meth c cX12_partOf 6 RX12) (hr : meth.sig.returnType = (some .int)) {r : Int32} {σ : Sto} {n : Nat} {x1 : Int64} {x3 : Int32} {x4 : Int32} (h : mX12_partOf_7 n x1 x3 x4 σ = some r) : G p l e (rmd 1 0 0) s m args below meth c E true (sZ σ) ad0 (MQ below (QI E true σ r σ ad0) args s 0 0 (AE E)) 6 0 0 σ 7 [(0, .ref 81), (1, .long x1), (3, .int x3), (4, .int x4)] [] := by
  induction n generalizing x1 x3 x4 with
  | zero => exact nomatch (show (none : Option Int32) = some r from h)
  | succ n ih => exact eX12_partOf_7B C hr (fun z0 z1 z2 h9 => ih h9) h
set_option maxRecDepth 100000 in
set_option maxHeartbeats 4000000 in
theorem dX12_partOf {σ : Sto} {r : Int32} (h : mX12_partOf σ = some r) : MM l yX12_partOf cX12_partOf 6 (some .int) 1 0 0 E true σ [.ref 81] (QI E true σ r σ) := by
  unfold mX12_partOf at h
  refine MM_of (by decide) (Nat.le_of_ble_eq_true rfl) rfl (fun p e s m args below meth c ad0 C hr hn => ?_)
  refine G_lconst C (v := 0) rfl dX12_partOf_0 ?_
  refine G_lstore_n (L' := [(1, .long (0 : Int64)), (0, .ref 81)]) C rfl (Nat.le_of_ble_eq_true rfl) rfl dX12_partOf_1 ?_
  refine G_iconst C (v := 0) rfl dX12_partOf_2 ?_
  refine G_istore_n (L' := [(3, .int (0 : Int32)), (1, .long (0 : Int64)), (0, .ref 81)]) C rfl (Nat.le_of_ble_eq_true rfl) rfl dX12_partOf_3 ?_
  refine G_iconst C (v := 0) rfl dX12_partOf_4 ?_
  refine G_istore (L' := [(4, .int (0 : Int32)), (3, .int (0 : Int32)), (1, .long (0 : Int64)), (0, .ref 81)]) C (Nat.le_of_ble_eq_true rfl) rfl dX12_partOf_5 ?_
  refine G_sub [3, 2, 1, 0] rfl ?_
  exact eX12_partOf_7 C hr h
set_option maxRecDepth 100000 in
set_option maxHeartbeats 4000000 in
theorem eX12_shares_235 (C : Cx E p s m args meth c cX12_shares 10 RX12) (hr : meth.sig.returnType = none) {σ0 : Sto} {r2 : Sto} {σ : Sto} {f61 : Int32 → Int32 → Int32 → Int32 → Int32 → Sto → Option Sto} {x1 : Int32} {x2 : Int32} {x3 : Int32} {x4 : Int32} {x5 : Int32} {x6 : Int32} {y1 : Int32} {y2 : Int32} (hf61 : ∀ (x1 : Int32) (x2 : Int32) (x3 : Int32) (x4 : Int32) (x5 : Int32) (σ' : Sto), f61 x1 x2 x3 x4 x5 σ' = some r2 → G p l e (rmd 1 0 0) s m args below meth c E true (sZ σ0) ad0 (MQ below (QV E true σ0 r2 ad0) args s 0 0 (AE E)) 10 0 0 σ' 61 [(0, .ref 81), (1, .int x1), (2, .int x2), (3, .int x3), (4, .int x4), (5, .int x5)] []) (h : mX12_shares_235 f61 x1 x2 x3 x4 x5 x6 y1 y2 σ = some r2) : G p l e (rmd 1 0 0) s m args below meth c E true (sZ σ0) ad0 (MQ below (QV E true σ0 r2 ad0) args s 0 0 (AE E)) 10 0 0 σ 235 [(0, .ref 81), (1, .int x1), (2, .int x2), (3, .int x3), (4, .int x4), (5, .int x5), (6, .int x6)] [.int y2, .int y1, .ref 136] := by
  unfold mX12_shares_235 at h
  obtain ⟨hc16, h⟩ := ifn h
  obtain ⟨σ17, hs17, h⟩ := stp_elim h
  refine G_iastore C ks_136 hc16 dX12_shares_235 ?_
  rw [← hs17]
  refine G_aload_n C 0 rfl rfl dX12_shares_236 ?_
  refine G_getF C fl_X12_177_11 rfl rfl fn_81_90 dX12_shares_237 ?_
  refine G_iload C 6 rfl dX12_shares_240 ?_
  obtain ⟨hc18, h⟩ := ifn h
  refine G_iaload C ks_136 hc18 dX12_shares_242 ?_
  refine G_if_eq (tgt := 275) C rfl dX12_shares_243 (fun hc19 => ?_) (fun hc19 => ?_)
  · replace h := (if_pos hc19).symm.trans h
    refine G_iinc (v := 1) (L' := [(5, .int (x5 + (1 : Int32))), (0, .ref 81), (1, .int x1), (2, .int x2), (3, .int x3), (4, .int x4), (6, .int x6)]) C 5 rfl rfl (Nat.le_of_ble_eq_true rfl) rfl dX12_shares_275 ?_
    refine G_goto (tgt := 61) C rfl dX12_shares_278 ?_
    refine G_sub [1, 2, 3, 4, 5, 0] rfl ?_
    exact hf61 _ _ _ _ _ _ h
  · replace h := (if_neg hc19).symm.trans h
    refine G_aload_n C 0 rfl rfl dX12_shares_246 ?_
    refine G_getF C fl_X12_174_11 rfl rfl fn_81_89 dX12_shares_247 ?_
    refine G_iload C 6 rfl dX12_shares_250 ?_
    refine G_aload_n C 0 rfl rfl dX12_shares_252 ?_
    refine G_getI C fl_X12_448_11 (Or.inl rfl) ko_81 dX12_shares_253 ?_
    refine G_i2l C dX12_shares_256 ?_
    refine G_aload_n C 0 rfl rfl dX12_shares_257 ?_
    refine G_getF C fl_X12_22_11 rfl rfl fn_81_13 dX12_shares_258 ?_
    refine G_iconst C (v := 3) rfl dX12_shares_261 ?_
    refine G_iload_n C 2 rfl rfl dX12_shares_262 ?_
    refine G_imul C dX12_shares_263 ?_
    refine G_iload C 5 rfl dX12_shares_264 ?_
    refine G_iadd C dX12_shares_266 ?_
    obtain ⟨hc20, h⟩ := ifn h
    refine G_iaload C ks_86 hc20 dX12_shares_267 ?_
    refine G_i2l C dX12_shares_268 ?_
    refine G_lmul C dX12_shares_269 ?_
    refine G_iload_n C 3 rfl rfl dX12_shares_270 ?_
    refine G_i2l C dX12_shares_271 ?_
    obtain ⟨hc21, h⟩ := ifn h
    refine G_ldiv C hc21 dX12_shares_272 ?_
    refine G_l2i C dX12_shares_273 ?_
    obtain ⟨σ22, hs22, h⟩ := stp_elim h
    refine G_iastore C ks_135 hc18 dX12_shares_274 ?_
    rw [← hs22]
    refine G_iinc (v := 1) (L' := [(5, .int (x5 + (1 : Int32))), (0, .ref 81), (1, .int x1), (2, .int x2), (3, .int x3), (4, .int x4), (6, .int x6)]) C 5 rfl rfl (Nat.le_of_ble_eq_true rfl) rfl dX12_shares_275 ?_
    refine G_goto (tgt := 61) C rfl dX12_shares_278 ?_
    refine G_sub [1, 2, 3, 4, 5, 0] rfl ?_
    exact hf61 _ _ _ _ _ _ h
set_option maxRecDepth 100000 in
set_option maxHeartbeats 4000000 in
theorem eX12_shares_203 (C : Cx E p s m args meth c cX12_shares 10 RX12) (hr : meth.sig.returnType = none) {σ0 : Sto} {r2 : Sto} {σ : Sto} {f61 : Int32 → Int32 → Int32 → Int32 → Int32 → Sto → Option Sto} {x1 : Int32} {x2 : Int32} {x3 : Int32} {x4 : Int32} {x5 : Int32} {x6 : Int32} {x7 : Int32} {x8 : Int32} {y0 : Int32} (hf61 : ∀ (x1 : Int32) (x2 : Int32) (x3 : Int32) (x4 : Int32) (x5 : Int32) (σ' : Sto), f61 x1 x2 x3 x4 x5 σ' = some r2 → G p l e (rmd 1 0 0) s m args below meth c E true (sZ σ0) ad0 (MQ below (QV E true σ0 r2 ad0) args s 0 0 (AE E)) 10 0 0 σ' 61 [(0, .ref 81), (1, .int x1), (2, .int x2), (3, .int x3), (4, .int x4), (5, .int x5)] []) (h : mX12_shares_203 f61 x1 x2 x3 x4 x5 x6 x7 x8 y0 σ = some r2) : G p l e (rmd 1 0 0) s m args below meth c E true (sZ σ0) ad0 (MQ below (QV E true σ0 r2 ad0) args s 0 0 (AE E)) 10 0 0 σ 203 [(0, .ref 81), (1, .int x1), (2, .int x2), (3, .int x3), (4, .int x4), (5, .int x5), (6, .int x6), (7, .int x7), (8, .int x8)] [.int y0] := by
  unfold mX12_shares_203 at h
  refine G_istore (L' := [(9, .int y0), (0, .ref 81), (1, .int x1), (2, .int x2), (3, .int x3), (4, .int x4), (5, .int x5), (6, .int x6), (7, .int x7), (8, .int x8)]) C (Nat.le_of_ble_eq_true rfl) rfl dX12_shares_203 ?_
  refine G_aload_n C 1 rfl rfl dX12_shares_205 ?_
  refine G_getF C fl_X12_177_11 rfl rfl fn_81_90 dX12_shares_206 ?_
  refine G_iload C 7 rfl dX12_shares_209 ?_
  refine G_iload C 8 rfl dX12_shares_211 ?_
  refine G_if_eq (tgt := 221) C rfl dX12_shares_213 (fun hc15 => ?_) (fun hc15 => ?_)
  · replace h := (if_pos hc15).symm.trans h
    refine G_iconst C (v := 0) rfl dX12_shares_221 ?_
    refine G_goto (tgt := 235) C rfl dX12_shares_222 ?_
    refine G_sub [1, 2, 3, 4, 5, 6, 7] rfl ?_
    exact eX12_shares_235 C hr hf61 h
  · replace h := (if_neg hc15).symm.trans h
    refine G_iload C 9 rfl dX12_shares_216 ?_
    refine G_if_eq (tgt := 225) C rfl dX12_shares_218 (fun hc23 => ?_) (fun hc23 => ?_)
    · replace h := (if_pos hc23).symm.trans h
      refine G_iload C 0 rfl dX12_shares_225 ?_
      refine G_if_eq (tgt := 234) C rfl dX12_shares_227 (fun hc24 => ?_) (fun hc24 => ?_)
      · replace h := (if_pos hc24).symm.trans h
        refine G_iconst C (v := 1) rfl dX12_shares_234 ?_
        refine G_sub [1, 2, 3, 4, 5, 6, 7] rfl ?_
        exact eX12_shares_235 C hr hf61 h
      · replace h := (if_neg hc24).symm.trans h
        refine G_iconst C (v := 2) rfl dX12_shares_230 ?_
        refine G_goto (tgt := 235) C rfl dX12_shares_231 ?_
        refine G_sub [1, 2, 3, 4, 5, 6, 7] rfl ?_
        exact eX12_shares_235 C hr hf61 h
    · replace h := (if_neg hc23).symm.trans h
      refine G_iconst C (v := 0) rfl dX12_shares_221 ?_
      refine G_goto (tgt := 235) C rfl dX12_shares_222 ?_
      refine G_sub [1, 2, 3, 4, 5, 6, 7] rfl ?_
      exact eX12_shares_235 C hr hf61 h
set_option maxRecDepth 100000 in
set_option maxHeartbeats 4000000 in
theorem eX12_shares_202 (C : Cx E p s m args meth c cX12_shares 10 RX12) (hr : meth.sig.returnType = none) {σ0 : Sto} {r2 : Sto} {σ : Sto} {f61 : Int32 → Int32 → Int32 → Int32 → Int32 → Sto → Option Sto} {x1 : Int32} {x2 : Int32} {x3 : Int32} {x4 : Int32} {x5 : Int32} {x6 : Int32} {x7 : Int32} {x8 : Int32} (hf61 : ∀ (x1 : Int32) (x2 : Int32) (x3 : Int32) (x4 : Int32) (x5 : Int32) (σ' : Sto), f61 x1 x2 x3 x4 x5 σ' = some r2 → G p l e (rmd 1 0 0) s m args below meth c E true (sZ σ0) ad0 (MQ below (QV E true σ0 r2 ad0) args s 0 0 (AE E)) 10 0 0 σ' 61 [(0, .ref 81), (1, .int x1), (2, .int x2), (3, .int x3), (4, .int x4), (5, .int x5)] []) (h : mX12_shares_202 f61 x1 x2 x3 x4 x5 x6 x7 x8 σ = some r2) : G p l e (rmd 1 0 0) s m args below meth c E true (sZ σ0) ad0 (MQ below (QV E true σ0 r2 ad0) args s 0 0 (AE E)) 10 0 0 σ 202 [(0, .ref 81), (1, .int x1), (2, .int x2), (3, .int x3), (4, .int x4), (5, .int x5), (6, .int x6), (7, .int x7), (8, .int x8)] [] := by
  unfold mX12_shares_202 at h
  refine G_iconst C (v := 0) rfl dX12_shares_202 ?_
  exact eX12_shares_203 C hr hf61 h
set_option maxRecDepth 100000 in
set_option maxHeartbeats 4000000 in
theorem eX12_shares_166 (C : Cx E p s m args meth c cX12_shares 10 RX12) (hr : meth.sig.returnType = none) {σ0 : Sto} {r2 : Sto} {σ : Sto} {f61 : Int32 → Int32 → Int32 → Int32 → Int32 → Sto → Option Sto} {x1 : Int32} {x2 : Int32} {x3 : Int32} {x4 : Int32} {x5 : Int32} {x6 : Int32} {x7 : Int32} {y0 : Int32} (hf61 : ∀ (x1 : Int32) (x2 : Int32) (x3 : Int32) (x4 : Int32) (x5 : Int32) (σ' : Sto), f61 x1 x2 x3 x4 x5 σ' = some r2 → G p l e (rmd 1 0 0) s m args below meth c E true (sZ σ0) ad0 (MQ below (QV E true σ0 r2 ad0) args s 0 0 (AE E)) 10 0 0 σ' 61 [(0, .ref 81), (1, .int x1), (2, .int x2), (3, .int x3), (4, .int x4), (5, .int x5)] []) (h : mX12_shares_166 f61 x1 x2 x3 x4 x5 x6 x7 y0 σ = some r2) : G p l e (rmd 1 0 0) s m args below meth c E true (sZ σ0) ad0 (MQ below (QV E true σ0 r2 ad0) args s 0 0 (AE E)) 10 0 0 σ 166 [(0, .ref 81), (1, .int x1), (2, .int x2), (3, .int x3), (4, .int x4), (5, .int x5), (6, .int x6), (7, .int x7)] [.int y0] := by
  unfold mX12_shares_166 at h
  refine G_istore (L' := [(8, .int y0), (0, .ref 81), (1, .int x1), (2, .int x2), (3, .int x3), (4, .int x4), (5, .int x5), (6, .int x6), (7, .int x7)]) C (Nat.le_of_ble_eq_true rfl) rfl dX12_shares_166 ?_
  refine G_aload_n C 1 rfl rfl dX12_shares_168 ?_
  refine G_getF C fl_X12_159_11 rfl rfl fn_81_75 dX12_shares_169 ?_
  refine G_iload C 7 rfl dX12_shares_172 ?_
  obtain ⟨hc13, h⟩ := ifn h
  refine G_iaload C ks_130 hc13 dX12_shares_174 ?_
  refine G_iconst C (v := -1) rfl dX12_shares_175 ?_
  refine G_icmp_eq (tgt := 202) C rfl dX12_shares_176 (fun hc14 => ?_) (fun hc14 => ?_)
  · replace h := (if_pos hc14).symm.trans h
    refine G_sub [1, 2, 3, 4, 5, 6, 7, 8, 0] rfl ?_
    exact eX12_shares_202 C hr hf61 h
  · replace h := (if_neg hc14).symm.trans h
    refine G_aload_n C 1 rfl rfl dX12_shares_179 ?_
    refine G_getF C fl_X12_68_11 rfl rfl fn_81_28 dX12_shares_180 ?_
    refine G_iload_n C 2 rfl rfl dX12_shares_183 ?_
    obtain ⟨hc25, h⟩ := ifn h
    refine G_iaload C ks_101 hc25 dX12_shares_184 ?_
    refine G_aload_n C 1 rfl rfl dX12_shares_185 ?_
    refine G_getF C fl_X12_156_11 rfl rfl fn_81_74 dX12_shares_186 ?_
    refine G_iload C 7 rfl dX12_shares_189 ?_
    refine G_iaload C ks_129 hc13 dX12_shares_191 ?_
    refine G_iload C 5 rfl dX12_shares_192 ?_
    refine G_iadd C dX12_shares_194 ?_
    refine G_icmp_lt (tgt := 202) C rfl dX12_shares_195 (fun hc26 => ?_) (fun hc26 => ?_)
    · replace h := (if_pos hc26).symm.trans h
      refine G_sub [1, 2, 3, 4, 5, 6, 7, 8, 0] rfl ?_
      exact eX12_shares_202 C hr hf61 h
    · replace h := (if_neg hc26).symm.trans h
      refine G_iconst C (v := 1) rfl dX12_shares_198 ?_
      refine G_goto (tgt := 203) C rfl dX12_shares_199 ?_
      refine G_sub [1, 2, 3, 4, 5, 6, 7, 8, 0] rfl ?_
      exact eX12_shares_203 C hr hf61 h
set_option maxRecDepth 100000 in
set_option maxHeartbeats 4000000 in
theorem eX12_shares_165 (C : Cx E p s m args meth c cX12_shares 10 RX12) (hr : meth.sig.returnType = none) {σ0 : Sto} {r2 : Sto} {σ : Sto} {f61 : Int32 → Int32 → Int32 → Int32 → Int32 → Sto → Option Sto} {x1 : Int32} {x2 : Int32} {x3 : Int32} {x4 : Int32} {x5 : Int32} {x6 : Int32} {x7 : Int32} (hf61 : ∀ (x1 : Int32) (x2 : Int32) (x3 : Int32) (x4 : Int32) (x5 : Int32) (σ' : Sto), f61 x1 x2 x3 x4 x5 σ' = some r2 → G p l e (rmd 1 0 0) s m args below meth c E true (sZ σ0) ad0 (MQ below (QV E true σ0 r2 ad0) args s 0 0 (AE E)) 10 0 0 σ' 61 [(0, .ref 81), (1, .int x1), (2, .int x2), (3, .int x3), (4, .int x4), (5, .int x5)] []) (h : mX12_shares_165 f61 x1 x2 x3 x4 x5 x6 x7 σ = some r2) : G p l e (rmd 1 0 0) s m args below meth c E true (sZ σ0) ad0 (MQ below (QV E true σ0 r2 ad0) args s 0 0 (AE E)) 10 0 0 σ 165 [(0, .ref 81), (1, .int x1), (2, .int x2), (3, .int x3), (4, .int x4), (5, .int x5), (6, .int x6), (7, .int x7)] [] := by
  unfold mX12_shares_165 at h
  refine G_iconst C (v := 0) rfl dX12_shares_165 ?_
  exact eX12_shares_166 C hr hf61 h
set_option maxRecDepth 100000 in
set_option maxHeartbeats 4000000 in
theorem eX12_shares_129 (C : Cx E p s m args meth c cX12_shares 10 RX12) (hr : meth.sig.returnType = none) {σ0 : Sto} {r2 : Sto} {σ : Sto} {f61 : Int32 → Int32 → Int32 → Int32 → Int32 → Sto → Option Sto} {x1 : Int32} {x2 : Int32} {x3 : Int32} {x4 : Int32} {x5 : Int32} {x6 : Int32} {y0 : Int32} (hf61 : ∀ (x1 : Int32) (x2 : Int32) (x3 : Int32) (x4 : Int32) (x5 : Int32) (σ' : Sto), f61 x1 x2 x3 x4 x5 σ' = some r2 → G p l e (rmd 1 0 0) s m args below meth c E true (sZ σ0) ad0 (MQ below (QV E true σ0 r2 ad0) args s 0 0 (AE E)) 10 0 0 σ' 61 [(0, .ref 81), (1, .int x1), (2, .int x2), (3, .int x3), (4, .int x4), (5, .int x5)] []) (h : mX12_shares_129 f61 x1 x2 x3 x4 x5 x6 y0 σ = some r2) : G p l e (rmd 1 0 0) s m args below meth c E true (sZ σ0) ad0 (MQ below (QV E true σ0 r2 ad0) args s 0 0 (AE E)) 10 0 0 σ 129 [(0, .ref 81), (1, .int x1), (2, .int x2), (3, .int x3), (4, .int x4), (5, .int x5), (6, .int x6)] [.int y0] := by
  unfold mX12_shares_129 at h
  refine G_istore (L' := [(7, .int y0), (0, .ref 81), (1, .int x1), (2, .int x2), (3, .int x3), (4, .int x4), (5, .int x5), (6, .int x6)]) C (Nat.le_of_ble_eq_true rfl) rfl dX12_shares_129 ?_
  refine G_aload_n C 1 rfl rfl dX12_shares_131 ?_
  refine G_getF C fl_X12_159_11 rfl rfl fn_81_75 dX12_shares_132 ?_
  refine G_iload C 7 rfl dX12_shares_135 ?_
  obtain ⟨hc11, h⟩ := ifn h
  refine G_iaload C ks_130 hc11 dX12_shares_137 ?_
  refine G_iconst C (v := -1) rfl dX12_shares_138 ?_
  refine G_icmp_eq (tgt := 165) C rfl dX12_shares_139 (fun hc12 => ?_) (fun hc12 => ?_)
  · replace h := (if_pos hc12).symm.trans h
    refine G_sub [1, 2, 3, 4, 5, 6, 7, 0] rfl ?_
    exact eX12_shares_165 C hr hf61 h
  · replace h := (if_neg hc12).symm.trans h
    refine G_aload_n C 1 rfl rfl dX12_shares_142 ?_
    refine G_getF C fl_X12_68_11 rfl rfl fn_81_28 dX12_shares_143 ?_
    refine G_iload_n C 2 rfl rfl dX12_shares_146 ?_
    obtain ⟨hc27, h⟩ := ifn h
    refine G_iaload C ks_101 hc27 dX12_shares_147 ?_
    refine G_aload_n C 1 rfl rfl dX12_shares_148 ?_
    refine G_getF C fl_X12_159_11 rfl rfl fn_81_75 dX12_shares_149 ?_
    refine G_iload C 7 rfl dX12_shares_152 ?_
    refine G_iaload C ks_130 hc11 dX12_shares_154 ?_
    refine G_iload C 5 rfl dX12_shares_155 ?_
    refine G_iadd C dX12_shares_157 ?_
    refine G_icmp_lt (tgt := 165) C rfl dX12_shares_158 (fun hc28 => ?_) (fun hc28 => ?_)
    · replace h := (if_pos hc28).symm.trans h
      refine G_sub [1, 2, 3, 4, 5, 6, 7, 0] rfl ?_
      exact eX12_shares_165 C hr hf61 h
    · replace h := (if_neg hc28).symm.trans h
      refine G_iconst C (v := 1) rfl dX12_shares_161 ?_
      refine G_goto (tgt := 166) C rfl dX12_shares_162 ?_
      refine G_sub [1, 2, 3, 4, 5, 6, 7, 0] rfl ?_
      exact eX12_shares_166 C hr hf61 h
set_option maxRecDepth 100000 in
set_option maxHeartbeats 4000000 in
theorem eX12_shares_61B (C : Cx E p s m args meth c cX12_shares 10 RX12) (hr : meth.sig.returnType = none) {σ0 : Sto} {r2 : Sto} {σ : Sto} {f61 : Int32 → Int32 → Int32 → Int32 → Int32 → Sto → Option Sto} {x1 : Int32} {x2 : Int32} {x3 : Int32} {x4 : Int32} {x5 : Int32} (hf61 : ∀ (x1 : Int32) (x2 : Int32) (x3 : Int32) (x4 : Int32) (x5 : Int32) (σ' : Sto), f61 x1 x2 x3 x4 x5 σ' = some r2 → G p l e (rmd 1 0 0) s m args below meth c E true (sZ σ0) ad0 (MQ below (QV E true σ0 r2 ad0) args s 0 0 (AE E)) 10 0 0 σ' 61 [(0, .ref 81), (1, .int x1), (2, .int x2), (3, .int x3), (4, .int x4), (5, .int x5)] []) (h : mX12_shares_61B f61 x1 x2 x3 x4 x5 σ = some r2) : G p l e (rmd 1 0 0) s m args below meth c E true (sZ σ0) ad0 (MQ below (QV E true σ0 r2 ad0) args s 0 0 (AE E)) 10 0 0 σ 61 [(0, .ref 81), (1, .int x1), (2, .int x2), (3, .int x3), (4, .int x4), (5, .int x5)] [] := by
  unfold mX12_shares_61B at h
  refine G_iload C 5 rfl dX12_shares_61 ?_
  refine G_aload_n C 0 rfl rfl dX12_shares_63 ?_
  refine G_getF C fl_X12_16_11 rfl rfl fn_81_11 dX12_shares_64 ?_
  refine G_iload_n C 2 rfl rfl dX12_shares_67 ?_
  obtain ⟨hc5, h⟩ := ifn h
  refine G_iaload C ks_84 hc5 dX12_shares_68 ?_
  refine G_icmp_ge (tgt := 281) C rfl dX12_shares_69 (fun hc6 => ?_) (fun hc6 => ?_)
  · replace h := (if_pos hc6).symm.trans h
    obtain rfl := Option.some.inj h
    exact G_vret C hr (Nat.le_of_ble_eq_true rfl) (Nat.le_of_ble_eq_true rfl) dX12_shares_281
  · replace h := (if_neg hc6).symm.trans h
    refine G_aload_n C 0 rfl rfl dX12_shares_72 ?_
    refine G_getF C fl_X12_19_11 rfl rfl fn_81_12 dX12_shares_73 ?_
    refine G_iconst C (v := 3) rfl dX12_shares_76 ?_
    refine G_iload_n C 2 rfl rfl dX12_shares_77 ?_
    refine G_imul C dX12_shares_78 ?_
    refine G_iload C 5 rfl dX12_shares_79 ?_
    refine G_iadd C dX12_shares_81 ?_
    obtain ⟨hc7, h⟩ := ifn h
    refine G_iaload C ks_85 hc7 dX12_shares_82 ?_
    refine G_istore (L' := [(6, .int (sI σ 85 ((((3 : Int32) * x2) + x5)).toNatClampNeg)), (0, .ref 81), (1, .int x1), (2, .int x2), (3, .int x3), (4, .int x4), (5, .int x5)]) C (Nat.le_of_ble_eq_true rfl) rfl dX12_shares_83 ?_
    refine G_aload_n C 1 rfl rfl dX12_shares_85 ?_
    refine G_getF C fl_X12_7_11 rfl rfl fn_81_9 dX12_shares_86 ?_
    refine G_iload C 0 rfl dX12_shares_89 ?_
    obtain ⟨hc8, h⟩ := ifn h
    refine G_iaload C ks_82 hc8 dX12_shares_91 ?_
    refine G_aload_n C 1 rfl rfl dX12_shares_92 ?_
    refine G_getF C fl_X12_74_11 rfl rfl fn_81_30 dX12_shares_93 ?_
    refine G_iload_n C 2 rfl rfl dX12_shares_96 ?_
    obtain ⟨hc9, h⟩ := ifn h
    refine G_iaload C ks_103 hc9 dX12_shares_97 ?_
    refine G_icmp_eq (tgt := 124) C rfl dX12_shares_98 (fun hc10 => ?_) (fun hc10 => ?_)
    · replace h := (if_pos hc10).symm.trans h
      refine G_iconst C (v := 1) rfl dX12_shares_124 ?_
      refine G_goto (tgt := 129) C rfl dX12_shares_125 ?_
      refine G_sub [1, 2, 3, 4, 5, 6, 0] rfl ?_
      exact eX12_shares_129 C hr hf61 h
    · replace h := (if_neg hc10).symm.trans h
      refine G_aload_n C 1 rfl rfl dX12_shares_101 ?_
      refine G_getF C fl_X12_135_11 rfl rfl fn_81_65 dX12_shares_102 ?_
      refine G_aload_n C 1 rfl rfl dX12_shares_105 ?_
      refine G_getI C fl_X12_416_11 (Or.inl rfl) ko_81 dX12_shares_106 ?_
      obtain ⟨hc29, h⟩ := ifn h
      refine G_iaload C ks_122 hc29 dX12_shares_109 ?_
      refine G_aload_n C 1 rfl rfl dX12_shares_110 ?_
      refine G_getF C fl_X12_7_11 rfl rfl fn_81_9 dX12_shares_111 ?_
      refine G_iload C 0 rfl dX12_shares_114 ?_
      refine G_iaload C ks_82 hc8 dX12_shares_116 ?_
      refine G_ishr C dX12_shares_117 ?_
      refine G_iconst C (v := 1) rfl dX12_shares_118 ?_
      refine G_iand C dX12_shares_119 ?_
      refine G_iconst C (v := 1) rfl dX12_shares_120 ?_
      refine G_icmp_ne (tgt := 128) C rfl dX12_shares_121 (fun hc30 => ?_) (fun hc30 => ?_)
      · replace h := (if_neg hc30).symm.trans h
        refine G_iconst C (v := 0) rfl dX12_shares_128 ?_
        refine G_sub [1, 2, 3, 4, 5, 6, 0] rfl ?_
        exact eX12_shares_129 C hr hf61 h
      · replace h := (if_pos hc30).symm.trans h
        refine G_iconst C (v := 1) rfl dX12_shares_124 ?_
        refine G_goto (tgt := 129) C rfl dX12_shares_125 ?_
        refine G_sub [1, 2, 3, 4, 5, 6, 0] rfl ?_
        exact eX12_shares_129 C hr hf61 h
set_option maxRecDepth 100000 in
set_option maxHeartbeats 4000000 in
theorem eX12_shares_61 (C : Cx E p s m args meth c cX12_shares 10 RX12) (hr : meth.sig.returnType = none) {σ0 : Sto} {r2 : Sto} {σ : Sto} {n : Nat} {x1 : Int32} {x2 : Int32} {x3 : Int32} {x4 : Int32} {x5 : Int32} (h : mX12_shares_61 n x1 x2 x3 x4 x5 σ = some r2) : G p l e (rmd 1 0 0) s m args below meth c E true (sZ σ0) ad0 (MQ below (QV E true σ0 r2 ad0) args s 0 0 (AE E)) 10 0 0 σ 61 [(0, .ref 81), (1, .int x1), (2, .int x2), (3, .int x3), (4, .int x4), (5, .int x5)] [] := by
  induction n generalizing x1 x2 x3 x4 x5 σ with
  | zero => exact nomatch (show (none : Option Sto) = some r2 from h)
  | succ n ih => exact eX12_shares_61B C hr (fun z0 z1 z2 z3 z4 σ9 h9 => ih h9) h
set_option maxRecDepth 100000 in
set_option maxHeartbeats 4000000 in
theorem eX12_shares_12B (C : Cx E p s m args meth c cX12_shares 10 RX12) (hr : meth.sig.returnType = none) {σ0 : Sto} {r2 : Sto} {σ : Sto} {f12 : Int32 → Int32 → Int32 → Int32 → Sto → Option Sto} {x1 : Int32} {x2 : Int32} {x3 : Int32} {x4 : Int32} (hf12 : ∀ (x1 : Int32) (x2 : Int32) (x3 : Int32) (x4 : Int32) (σ' : Sto), f12 x1 x2 x3 x4 σ' = some r2 → G p l e (rmd 1 0 0) s m args below meth c E true (sZ σ0) ad0 (MQ below (QV E true σ0 r2 ad0) args s 0 0 (AE E)) 10 0 0 σ' 12 [(0, .ref 81), (1, .int x1), (2, .int x2), (3, .int x3), (4, .int x4)] []) (h : mX12_shares_12B f12 x1 x2 x3 x4 σ = some r2) : G p l e (rmd 1 0 0) s m args below meth c E true (sZ σ0) ad0 (MQ below (QV E true σ0 r2 ad0) args s 0 0 (AE E)) 10 0 0 σ 12 [(0, .ref 81), (1, .int x1), (2, .int x2), (3, .int x3), (4, .int x4)] [] := by
  unfold mX12_shares_12B at h
  refine G_iload C 4 rfl dX12_shares_12 ?_
  refine G_aload_n C 0 rfl rfl dX12_shares_14 ?_
  refine G_getF C fl_X12_16_11 rfl rfl fn_81_11 dX12_shares_15 ?_
  refine G_iload_n C 2 rfl rfl dX12_shares_18 ?_
  obtain ⟨hc2, h⟩ := ifn h
  refine G_iaload C ks_84 hc2 dX12_shares_19 ?_
  refine G_icmp_ge (tgt := 43) C rfl dX12_shares_20 (fun hc3 => ?_) (fun hc3 => ?_)
  · replace h := (if_pos hc3).symm.trans h
    refine G_sipush C (v := 365) rfl dX12_shares_43 ?_
    refine G_aload_n C 0 rfl rfl dX12_shares_46 ?_
    refine G_getF C fl_X12_129_11 rfl rfl fn_81_63 dX12_shares_47 ?_
    refine G_aload_n C 0 rfl rfl dX12_shares_50 ?_
    refine G_getI C fl_X12_416_11 (Or.inl rfl) ko_81 dX12_shares_51 ?_
    obtain ⟨hc4, h⟩ := ifn h
    refine G_iaload C ks_120 hc4 dX12_shares_54 ?_
    refine G_imul C dX12_shares_55 ?_
    refine G_istore (L' := [(4, .int ((365 : Int32) * (sI σ 120 ((sI σ 81 79)).toNatClampNeg))), (0, .ref 81), (1, .int x1), (2, .int x2), (3, .int x3)]) C (Nat.le_of_ble_eq_true rfl) rfl dX12_shares_56 ?_
    refine G_iconst C (v := 0) rfl dX12_shares_58 ?_
    refine G_istore (L' := [(5, .int (0 : Int32)), (4, .int ((365 : Int32) * (sI σ 120 ((sI σ 81 79)).toNatClampNeg))), (0, .ref 81), (1, .int x1), (2, .int x2), (3, .int x3)]) C (Nat.le_of_ble_eq_true rfl) rfl dX12_shares_59 ?_
    refine G_sub [2, 3, 4, 5, 1, 0] rfl ?_
    exact eX12_shares_61 C hr h
  · replace h := (if_neg hc3).symm.trans h
    refine G_iload_n C 3 rfl rfl dX12_shares_23 ?_
    refine G_aload_n C 0 rfl rfl dX12_shares_24 ?_
    refine G_getF C fl_X12_22_11 rfl rfl fn_81_13 dX12_shares_25 ?_
    refine G_iconst C (v := 3) rfl dX12_shares_28 ?_
    refine G_iload_n C 2 rfl rfl dX12_shares_29 ?_
    refine G_imul C dX12_shares_30 ?_
    refine G_iload C 4 rfl dX12_shares_31 ?_
    refine G_iadd C dX12_shares_33 ?_
    obtain ⟨hc31, h⟩ := ifn h
    refine G_iaload C ks_86 hc31 dX12_shares_34 ?_
    refine G_iadd C dX12_shares_35 ?_
    refine G_istore_n (L' := [(3, .int (x3 + (sI σ 86 ((((3 : Int32) * x2) + x4)).toNatClampNeg))), (0, .ref 81), (1, .int x1), (2, .int x2), (4, .int x4)]) C rfl (Nat.le_of_ble_eq_true rfl) rfl dX12_shares_36 ?_
    refine G_iinc (v := 1) (L' := [(4, .int (x4 + (1 : Int32))), (3, .int (x3 + (sI σ 86 ((((3 : Int32) * x2) + x4)).toNatClampNeg))), (0, .ref 81), (1, .int x1), (2, .int x2)]) C 4 rfl rfl (Nat.le_of_ble_eq_true rfl) rfl dX12_shares_37 ?_
    refine G_goto (tgt := 12) C rfl dX12_shares_40 ?_
    refine G_sub [2, 3, 4, 1, 0] rfl ?_
    exact hf12 _ _ _ _ _ h
set_option maxRecDepth 100000 in
set_option maxHeartbeats 4000000 in
theorem eX12_shares_12 (C : Cx E p s m args meth c cX12_shares 10 RX12) (hr : meth.sig.returnType = none) {σ0 : Sto} {r2 : Sto} {σ : Sto} {n : Nat} {x1 : Int32} {x2 : Int32} {x3 : Int32} {x4 : Int32} (h : mX12_shares_12 n x1 x2 x3 x4 σ = some r2) : G p l e (rmd 1 0 0) s m args below meth c E true (sZ σ0) ad0 (MQ below (QV E true σ0 r2 ad0) args s 0 0 (AE E)) 10 0 0 σ 12 [(0, .ref 81), (1, .int x1), (2, .int x2), (3, .int x3), (4, .int x4)] [] := by
  induction n generalizing x1 x2 x3 x4 σ with
  | zero => exact nomatch (show (none : Option Sto) = some r2 from h)
  | succ n ih => exact eX12_shares_12B C hr (fun z0 z1 z2 z3 σ9 h9 => ih h9) h
set_option maxRecDepth 100000 in
set_option maxHeartbeats 4000000 in
theorem dX12_shares {σ : Sto} {p0 : Int32} {r2 : Sto} (h : mX12_shares p0 σ = some r2) : MM l yX12_shares cX12_shares 10 none 1 0 0 E true σ [.ref 81, .int p0] (QV E true σ r2) := by
  unfold mX12_shares at h
  refine MM_of (by decide) (Nat.le_of_ble_eq_true rfl) rfl (fun p e s m args below meth c ad0 C hr hn => ?_)
  refine G_aload_n C 0 rfl rfl dX12_shares_0 ?_
  refine G_getF C fl_X12_59_11 rfl rfl fn_81_25 dX12_shares_1 ?_
  refine G_iload_n C 1 rfl rfl dX12_shares_4 ?_
  obtain ⟨hc1, h⟩ := ifn h
  refine G_iaload C ks_98 hc1 dX12_shares_5 ?_
  refine G_istore_n (L' := [(2, .int (sI σ 98 (p0).toNatClampNeg)), (0, .ref 81), (1, .int p0)]) C rfl (Nat.le_of_ble_eq_true rfl) rfl dX12_shares_6 ?_
  refine G_iconst C (v := 0) rfl dX12_shares_7 ?_
  refine G_istore_n (L' := [(3, .int (0 : Int32)), (2, .int (sI σ 98 (p0).toNatClampNeg)), (0, .ref 81), (1, .int p0)]) C rfl (Nat.le_of_ble_eq_true rfl) rfl dX12_shares_8 ?_
  refine G_iconst C (v := 0) rfl dX12_shares_9 ?_
  refine G_istore (L' := [(4, .int (0 : Int32)), (3, .int (0 : Int32)), (2, .int (sI σ 98 (p0).toNatClampNeg)), (0, .ref 81), (1, .int p0)]) C (Nat.le_of_ble_eq_true rfl) rfl dX12_shares_10 ?_
  refine G_sub [3, 4, 2, 1, 0] rfl ?_
  exact eX12_shares_12 C hr h
set_option maxRecDepth 100000 in
set_option maxHeartbeats 4000000 in
theorem eX12_passesOn_50B (C : Cx E p s m args meth c cX12_passesOn 7 RX12) (hr : meth.sig.returnType = none) {σ0 : Sto} {r2 : Sto} {σ : Sto} {f50 : Int32 → Int32 → Int32 → Sto → Option Sto} {x1 : Int32} {x3 : Int32} {x4 : Int32} (hf50 : ∀ (x1 : Int32) (x3 : Int32) (x4 : Int32) (σ' : Sto), f50 x1 x3 x4 σ' = some r2 → G p l e (rmd 2 0 0) s m args below meth c E true (sZ σ0) ad0 (MQ below (QV E true σ0 r2 ad0) args s 0 0 (AE E)) 7 0 0 σ' 50 [(0, .ref 81), (1, .int x1), (3, .int x3), (4, .int x4)] []) (h : mX12_passesOn_50B f50 x1 x3 x4 σ = some r2) : G p l e (rmd 2 0 0) s m args below meth c E true (sZ σ0) ad0 (MQ below (QV E true σ0 r2 ad0) args s 0 0 (AE E)) 7 0 0 σ 50 [(0, .ref 81), (1, .int x1), (3, .int x3), (4, .int x4)] [] := by
  unfold mX12_passesOn_50B at h
  refine G_iload C 3 rfl dX12_passesOn_50 ?_
  refine G_aload_n C 0 rfl rfl dX12_passesOn_52 ?_
  refine G_getF C fl_X12_162_11 rfl rfl fn_81_76 dX12_passesOn_53 ?_
  refine G_iload_n C 1 rfl rfl dX12_passesOn_56 ?_
  refine G_iconst C (v := 1) rfl dX12_passesOn_57 ?_
  refine G_iadd C dX12_passesOn_58 ?_
  obtain ⟨hc6, h⟩ := ifn h
  refine G_iaload C ks_131 hc6 dX12_passesOn_59 ?_
  refine G_icmp_ge (tgt := 128) C rfl dX12_passesOn_60 (fun hc7 => ?_) (fun hc7 => ?_)
  · replace h := (if_pos hc7).symm.trans h
    refine G_aload_n C 0 rfl rfl dX12_passesOn_128 ?_
    refine G_dup C rfl dX12_passesOn_129 ?_
    refine G_getI C fl_X12_450_11 (Or.inl rfl) ko_81 dX12_passesOn_130 ?_
    refine G_iload_n C 2 rfl rfl dX12_passesOn_133 ?_
    refine G_iadd C dX12_passesOn_134 ?_
    obtain ⟨σ8, hs8, h⟩ := stp_elim h
    refine G_putI C fl_X12_450_11 fp_X12_11_85 (Or.inl rfl) (Or.inl rfl) ko_81 dX12_passesOn_135 ?_
    rw [← hs8]
    obtain rfl := Option.some.inj h
    exact G_vret C hr (Nat.le_of_ble_eq_true rfl) (Nat.le_of_ble_eq_true rfl) dX12_passesOn_138
  · replace h := (if_neg hc7).symm.trans h
    refine G_aload_n C 0 rfl rfl dX12_passesOn_63 ?_
    refine G_getF C fl_X12_165_11 rfl rfl fn_81_77 dX12_passesOn_64 ?_
    refine G_iload C 3 rfl dX12_passesOn_67 ?_
    obtain ⟨hc9, h⟩ := ifn h
    refine G_iaload C ks_132 hc9 dX12_passesOn_69 ?_
    refine G_istore (L' := [(5, .int (sI σ 132 (x4).toNatClampNeg)), (0, .ref 81), (1, .int x1), (3, .int x3), (4, .int x4)]) C (Nat.le_of_ble_eq_true rfl) rfl dX12_passesOn_70 ?_
    refine G_aload_n C 1 rfl rfl dX12_passesOn_72 ?_
    refine G_getF C fl_X12_189_11 rfl rfl fn_81_94 dX12_passesOn_73 ?_
    refine G_iload_n C 2 rfl rfl dX12_passesOn_76 ?_
    obtain ⟨hc10, h⟩ := ifn h
    refine G_iaload C ks_140 hc10 dX12_passesOn_77 ?_
    refine G_i2l C dX12_passesOn_78 ?_
    refine G_aload_n C 1 rfl rfl dX12_passesOn_79 ?_
    refine G_getF C fl_X12_77_11 rfl rfl fn_81_31 dX12_passesOn_80 ?_
    refine G_iload C 0 rfl dX12_passesOn_83 ?_
    obtain ⟨hc11, h⟩ := ifn h
    refine G_iaload C ks_104 hc11 dX12_passesOn_85 ?_
    refine G_i2l C dX12_passesOn_86 ?_
    refine G_lmul C dX12_passesOn_87 ?_
    refine G_aload_n C 1 rfl rfl dX12_passesOn_88 ?_
    refine G_getF C fl_X12_80_11 rfl rfl fn_81_32 dX12_passesOn_89 ?_
    refine G_iload C 0 rfl dX12_passesOn_92 ?_
    refine G_iaload C ks_105 hc11 dX12_passesOn_94 ?_
    refine G_i2l C dX12_passesOn_95 ?_
    obtain ⟨hc12, h⟩ := ifn h
    refine G_ldiv C hc12 dX12_passesOn_96 ?_
    refine G_l2i C dX12_passesOn_97 ?_
    refine G_istore (L' := [(6, .int (((((sI σ 140 (x1).toNatClampNeg)).toInt64 * ((sI σ 104 ((sI σ 132 (x4).toNatClampNeg)).toNatClampNeg)).toInt64) / ((sI σ 105 ((sI σ 132 (x4).toNatClampNeg)).toNatClampNeg)).toInt64)).toInt32), (5, .int (sI σ 132 (x4).toNatClampNeg)), (0, .ref 81), (1, .int x1), (3, .int x3), (4, .int x4)]) C (Nat.le_of_ble_eq_true rfl) rfl dX12_passesOn_98 ?_
    refine G_aload_n C 2 rfl rfl dX12_passesOn_100 ?_
    refine G_getF C fl_X12_192_11 rfl rfl fn_81_95 dX12_passesOn_101 ?_
    refine G_aload_n C 2 rfl rfl dX12_passesOn_104 ?_
    refine G_getF C fl_X12_65_11 rfl rfl fn_81_27 dX12_passesOn_105 ?_
    refine G_iload C 1 rfl dX12_passesOn_108 ?_
    refine G_iaload C ks_100 hc11 dX12_passesOn_110 ?_
    refine G_dup2 C rfl rfl dX12_passesOn_111 ?_
    obtain ⟨hc13, h⟩ := ifn h
    refine G_iaload C ks_141 hc13 dX12_passesOn_112 ?_
    refine G_iload C 0 rfl dX12_passesOn_113 ?_
    refine G_iadd C dX12_passesOn_115 ?_
    obtain ⟨σ14, hs14, h⟩ := stp_elim h
    refine G_iastore C ks_141 hc13 dX12_passesOn_116 ?_
    rw [← hs14]
    refine G_iload_n C 4 rfl rfl dX12_passesOn_117 ?_
    refine G_iload C 0 rfl dX12_passesOn_118 ?_
    refine G_isub C dX12_passesOn_120 ?_
    refine G_istore_n (L' := [(3, .int (x3 - (((((sI σ 140 (x1).toNatClampNeg)).toInt64 * ((sI σ 104 ((sI σ 132 (x4).toNatClampNeg)).toNatClampNeg)).toInt64) / ((sI σ 105 ((sI σ 132 (x4).toNatClampNeg)).toNatClampNeg)).toInt64)).toInt32)), (6, .int (((((sI σ 140 (x1).toNatClampNeg)).toInt64 * ((sI σ 104 ((sI σ 132 (x4).toNatClampNeg)).toNatClampNeg)).toInt64) / ((sI σ 105 ((sI σ 132 (x4).toNatClampNeg)).toNatClampNeg)).toInt64)).toInt32), (5, .int (sI σ 132 (x4).toNatClampNeg)), (0, .ref 81), (1, .int x1), (4, .int x4)]) C rfl (Nat.le_of_ble_eq_true rfl) rfl dX12_passesOn_121 ?_
    refine G_iinc (v := 1) (L' := [(4, .int (x4 + (1 : Int32))), (3, .int (x3 - (((((sI σ 140 (x1).toNatClampNeg)).toInt64 * ((sI σ 104 ((sI σ 132 (x4).toNatClampNeg)).toNatClampNeg)).toInt64) / ((sI σ 105 ((sI σ 132 (x4).toNatClampNeg)).toNatClampNeg)).toInt64)).toInt32)), (6, .int (((((sI σ 140 (x1).toNatClampNeg)).toInt64 * ((sI σ 104 ((sI σ 132 (x4).toNatClampNeg)).toNatClampNeg)).toInt64) / ((sI σ 105 ((sI σ 132 (x4).toNatClampNeg)).toNatClampNeg)).toInt64)).toInt32), (5, .int (sI σ 132 (x4).toNatClampNeg)), (0, .ref 81), (1, .int x1)]) C 5 rfl rfl (Nat.le_of_ble_eq_true rfl) rfl dX12_passesOn_122 ?_
    refine G_goto (tgt := 50) C rfl dX12_passesOn_125 ?_
    refine G_sub [4, 5, 1, 0] rfl ?_
    exact hf50 _ _ _ _ h
set_option maxRecDepth 100000 in
set_option maxHeartbeats 4000000 in
theorem eX12_passesOn_50 (C : Cx E p s m args meth c cX12_passesOn 7 RX12) (hr : meth.sig.returnType = none) {σ0 : Sto} {r2 : Sto} {σ : Sto} {n : Nat} {x1 : Int32} {x3 : Int32} {x4 : Int32} (h : mX12_passesOn_50 n x1 x3 x4 σ = some r2) : G p l e (rmd 2 0 0) s m args below meth c E true (sZ σ0) ad0 (MQ below (QV E true σ0 r2 ad0) args s 0 0 (AE E)) 7 0 0 σ 50 [(0, .ref 81), (1, .int x1), (3, .int x3), (4, .int x4)] [] := by
  induction n generalizing x1 x3 x4 σ with
  | zero => exact nomatch (show (none : Option Sto) = some r2 from h)
  | succ n ih => exact eX12_passesOn_50B C hr (fun z0 z1 z2 σ9 h9 => ih h9) h
set_option maxRecDepth 100000 in
set_option maxHeartbeats 4000000 in
theorem dX12_passesOn {σ : Sto} {p0 : Int32} {p1 : Int32} {r2 : Sto} (h : mX12_passesOn p0 p1 σ = some r2) : MM l yX12_passesOn cX12_passesOn 7 none 2 0 0 E true σ [.ref 81, .int p0, .int p1] (QV E true σ r2) := by
  unfold mX12_passesOn at h
  refine MM_of (by decide) (Nat.le_of_ble_eq_true rfl) rfl (fun p e s m args below meth c ad0 C hr hn => ?_)
  refine G_aload_n C 0 rfl rfl dX12_passesOn_0 ?_
  refine G_getF C fl_X12_189_11 rfl rfl fn_81_94 dX12_passesOn_1 ?_
  refine G_iload_n C 1 rfl rfl dX12_passesOn_4 ?_
  obtain ⟨hc1, h⟩ := ifn h
  refine G_iaload C ks_140 hc1 dX12_passesOn_5 ?_
  refine G_if_ne (tgt := 10) C rfl dX12_passesOn_6 (fun hc2 => ?_) (fun hc2 => ?_)
  · replace h := (if_neg hc2).symm.trans h
    refine G_aload_n C 0 rfl rfl dX12_passesOn_10 ?_
    refine G_iload_n C 1 rfl rfl dX12_passesOn_11 ?_
    refine G_iload_n C 2 rfl rfl dX12_passesOn_12 ?_
    obtain ⟨v3, hv3, h⟩ := bnd h
    refine G_callI (run_V C [.int p0, .int p1] [] (dX12_isDead hv3) ml_X12_isDead mv_X12_isDead lk_X12_468 ⟨(Nat.le_of_ble_eq_true rfl), (Nat.le_of_ble_eq_true rfl)⟩ ⟨(Nat.le_of_ble_eq_true rfl), (Nat.le_of_ble_eq_true rfl)⟩ vq_11 rfl ko_81 rfl (Nat.le_of_ble_eq_true rfl) dX12_passesOn_13) ?_
    refine G_if_ne (tgt := 35) C rfl dX12_passesOn_16 (fun hc4 => ?_) (fun hc4 => ?_)
    · replace h := (if_neg hc4).symm.trans h
      refine G_aload_n C 0 rfl rfl dX12_passesOn_35 ?_
      refine G_getF C fl_X12_189_11 rfl rfl fn_81_94 dX12_passesOn_36 ?_
      refine G_iload_n C 1 rfl rfl dX12_passesOn_39 ?_
      refine G_iaload C ks_140 hc1 dX12_passesOn_40 ?_
      refine G_istore_n (L' := [(3, .int (sI σ 140 (p0).toNatClampNeg)), (0, .ref 81), (1, .int p0), (2, .int p1)]) C rfl (Nat.le_of_ble_eq_true rfl) rfl dX12_passesOn_41 ?_
      refine G_aload_n C 1 rfl rfl dX12_passesOn_42 ?_
      refine G_getF C fl_X12_162_11 rfl rfl fn_81_76 dX12_passesOn_43 ?_
      refine G_iload_n C 2 rfl rfl dX12_passesOn_46 ?_
      obtain ⟨hc5, h⟩ := ifn h
      refine G_iaload C ks_131 hc5 dX12_passesOn_47 ?_
      refine G_istore (L' := [(4, .int (sI σ 131 (p0).toNatClampNeg)), (3, .int (sI σ 140 (p0).toNatClampNeg)), (0, .ref 81), (1, .int p0), (2, .int p1)]) C (Nat.le_of_ble_eq_true rfl) rfl dX12_passesOn_48 ?_
      refine G_sub [2, 3, 1, 0] rfl ?_
      exact eX12_passesOn_50 C hr h
    · replace h := (if_pos hc4).symm.trans h
      refine G_aload_n C 0 rfl rfl dX12_passesOn_19 ?_
      refine G_getF C fl_X12_192_11 rfl rfl fn_81_95 dX12_passesOn_20 ?_
      refine G_iload_n C 1 rfl rfl dX12_passesOn_23 ?_
      refine G_dup2 C rfl rfl dX12_passesOn_24 ?_
      refine G_iaload C ks_141 hc1 dX12_passesOn_25 ?_
      refine G_aload_n C 0 rfl rfl dX12_passesOn_26 ?_
      refine G_getF C fl_X12_189_11 rfl rfl fn_81_94 dX12_passesOn_27 ?_
      refine G_iload_n C 1 rfl rfl dX12_passesOn_30 ?_
      refine G_iaload C ks_140 hc1 dX12_passesOn_31 ?_
      refine G_iadd C dX12_passesOn_32 ?_
      obtain ⟨σ15, hs15, h⟩ := stp_elim h
      refine G_iastore C ks_141 hc1 dX12_passesOn_33 ?_
      rw [← hs15]
      obtain rfl := Option.some.inj h
      exact G_vret C hr (Nat.le_of_ble_eq_true rfl) (Nat.le_of_ble_eq_true rfl) dX12_passesOn_34
  · replace h := (if_pos hc2).symm.trans h
    obtain rfl := Option.some.inj h
    exact G_vret C hr (Nat.le_of_ble_eq_true rfl) (Nat.le_of_ble_eq_true rfl) dX12_passesOn_9
set_option maxRecDepth 100000 in
set_option maxHeartbeats 4000000 in
theorem eX12_passes_109B (C : Cx E p s m args meth c cX12_passes 4 RX12) (hr : meth.sig.returnType = none) {σ0 : Sto} {r2 : Sto} {σ : Sto} {f109 : Int32 → Int32 → Sto → Option Sto} {x1 : Int32} {x2 : Int32} (hf109 : ∀ (x1 : Int32) (x2 : Int32) (σ' : Sto), f109 x1 x2 σ' = some r2 → G p l e (rmd 3 0 0) s m args below meth c E true (sZ σ0) ad0 (MQ below (QV E true σ0 r2 ad0) args s 0 0 (AE E)) 4 0 0 σ' 109 [(0, .ref 81), (1, .int x1), (2, .int x2)] []) (h : mX12_passes_109B f109 x1 x2 σ = some r2) : G p l e (rmd 3 0 0) s m args below meth c E true (sZ σ0) ad0 (MQ below (QV E true σ0 r2 ad0) args s 0 0 (AE E)) 4 0 0 σ 109 [(0, .ref 81), (1, .int x1), (2, .int x2)] [] := by
  unfold mX12_passes_109B at h
  refine G_iload_n C 2 rfl rfl dX12_passes_109 ?_
  refine G_bipush C (v := 30) rfl dX12_passes_110 ?_
  refine G_icmp_ge (tgt := 160) C rfl dX12_passes_112 (fun hc3 => ?_) (fun hc3 => ?_)
  · replace h := (if_pos hc3).symm.trans h
    obtain rfl := Option.some.inj h
    exact G_vret C hr (Nat.le_of_ble_eq_true rfl) (Nat.le_of_ble_eq_true rfl) dX12_passes_160
  · replace h := (if_neg hc3).symm.trans h
    refine G_aload_n C 0 rfl rfl dX12_passes_115 ?_
    refine G_iload_n C 2 rfl rfl dX12_passes_116 ?_
    refine G_iload_n C 1 rfl rfl dX12_passes_117 ?_
    obtain ⟨v4, hv4, h⟩ := bnd h
    refine G_callI (run_V C [.int x2, .int x1] [] (dX12_isDead hv4) ml_X12_isDead mv_X12_isDead lk_X12_468 ⟨(Nat.le_of_ble_eq_true rfl), (Nat.le_of_ble_eq_true rfl)⟩ ⟨(Nat.le_of_ble_eq_true rfl), (Nat.le_of_ble_eq_true rfl)⟩ vq_11 rfl ko_81 rfl (Nat.le_of_ble_eq_true rfl) dX12_passes_118) ?_
    refine G_if_eq (tgt := 142) C rfl dX12_passes_121 (fun hc5 => ?_) (fun hc5 => ?_)
    · replace h := (if_pos hc5).symm.trans h
      refine G_aload_n C 0 rfl rfl dX12_passes_142 ?_
      refine G_getF C fl_X12_180_11 rfl rfl fn_81_91 dX12_passes_143 ?_
      refine G_iload_n C 2 rfl rfl dX12_passes_146 ?_
      refine G_aload_n C 0 rfl rfl dX12_passes_147 ?_
      refine G_getF C fl_X12_189_11 rfl rfl fn_81_94 dX12_passes_148 ?_
      refine G_iload_n C 2 rfl rfl dX12_passes_151 ?_
      obtain ⟨hc6, h⟩ := ifn h
      refine G_iaload C ks_140 hc6 dX12_passes_152 ?_
      obtain ⟨σ7, hs7, h⟩ := stp_elim h
      refine G_iastore C ks_137 hc6 dX12_passes_153 ?_
      rw [← hs7]
      refine G_iinc (v := 1) (L' := [(2, .int (x2 + (1 : Int32))), (0, .ref 81), (1, .int x1)]) C 2 rfl rfl (Nat.le_of_ble_eq_true rfl) rfl dX12_passes_154 ?_
      refine G_goto (tgt := 109) C rfl dX12_passes_157 ?_
      refine G_sub [1, 2, 0] rfl ?_
      exact hf109 _ _ _ h
    · replace h := (if_neg hc5).symm.trans h
      refine G_aload_n C 0 rfl rfl dX12_passes_124 ?_
      refine G_dup C rfl dX12_passes_125 ?_
      refine G_getI C fl_X12_450_11 (Or.inl rfl) ko_81 dX12_passes_126 ?_
      refine G_aload_n C 0 rfl rfl dX12_passes_129 ?_
      refine G_getF C fl_X12_189_11 rfl rfl fn_81_94 dX12_passes_130 ?_
      refine G_iload_n C 2 rfl rfl dX12_passes_133 ?_
      obtain ⟨hc8, h⟩ := ifn h
      refine G_iaload C ks_140 hc8 dX12_passes_134 ?_
      refine G_iadd C dX12_passes_135 ?_
      obtain ⟨σ9, hs9, h⟩ := stp_elim h
      refine G_putI C fl_X12_450_11 fp_X12_11_85 (Or.inl rfl) (Or.inl rfl) ko_81 dX12_passes_136 ?_
      rw [← hs9]
      refine G_goto (tgt := 154) C rfl dX12_passes_139 ?_
      refine G_iinc (v := 1) (L' := [(2, .int (x2 + (1 : Int32))), (0, .ref 81), (1, .int x1)]) C 2 rfl rfl (Nat.le_of_ble_eq_true rfl) rfl dX12_passes_154 ?_
      refine G_goto (tgt := 109) C rfl dX12_passes_157 ?_
      refine G_sub [1, 2, 0] rfl ?_
      exact hf109 _ _ _ h
set_option maxRecDepth 100000 in
set_option maxHeartbeats 4000000 in
theorem eX12_passes_109 (C : Cx E p s m args meth c cX12_passes 4 RX12) (hr : meth.sig.returnType = none) {σ0 : Sto} {r2 : Sto} {σ : Sto} {n : Nat} {x1 : Int32} {x2 : Int32} (h : mX12_passes_109 n x1 x2 σ = some r2) : G p l e (rmd 3 0 0) s m args below meth c E true (sZ σ0) ad0 (MQ below (QV E true σ0 r2 ad0) args s 0 0 (AE E)) 4 0 0 σ 109 [(0, .ref 81), (1, .int x1), (2, .int x2)] [] := by
  induction n generalizing x1 x2 σ with
  | zero => exact nomatch (show (none : Option Sto) = some r2 from h)
  | succ n ih => exact eX12_passes_109B C hr (fun z0 z1 σ9 h9 => ih h9) h
set_option maxRecDepth 100000 in
set_option maxHeartbeats 4000000 in
theorem eX12_passes_77B (C : Cx E p s m args meth c cX12_passes 4 RX12) (hr : meth.sig.returnType = none) {σ0 : Sto} {r2 : Sto} {σ : Sto} {f28 : Int32 → Int32 → Sto → Option Sto} {f77 : Int32 → Int32 → Int32 → Sto → Option Sto} {x1 : Int32} {x2 : Int32} {x3 : Int32} (hf28 : ∀ (x1 : Int32) (x2 : Int32) (σ' : Sto), f28 x1 x2 σ' = some r2 → G p l e (rmd 3 0 0) s m args below meth c E true (sZ σ0) ad0 (MQ below (QV E true σ0 r2 ad0) args s 0 0 (AE E)) 4 0 0 σ' 28 [(0, .ref 81), (1, .int x1), (2, .int x2)] []) (hf77 : ∀ (x1 : Int32) (x2 : Int32) (x3 : Int32) (σ' : Sto), f77 x1 x2 x3 σ' = some r2 → G p l e (rmd 3 0 0) s m args below meth c E true (sZ σ0) ad0 (MQ below (QV E true σ0 r2 ad0) args s 0 0 (AE E)) 4 0 0 σ' 77 [(0, .ref 81), (1, .int x1), (2, .int x2), (3, .int x3)] []) (h : mX12_passes_77B f28 f77 x1 x2 x3 σ = some r2) : G p l e (rmd 3 0 0) s m args below meth c E true (sZ σ0) ad0 (MQ below (QV E true σ0 r2 ad0) args s 0 0 (AE E)) 4 0 0 σ 77 [(0, .ref 81), (1, .int x1), (2, .int x2), (3, .int x3)] [] := by
  unfold mX12_passes_77B at h
  refine G_iload_n C 3 rfl rfl dX12_passes_77 ?_
  refine G_bipush C (v := 30) rfl dX12_passes_78 ?_
  refine G_icmp_ge (tgt := 101) C rfl dX12_passes_80 (fun hc12 => ?_) (fun hc12 => ?_)
  · replace h := (if_pos hc12).symm.trans h
    refine G_iinc (v := 1) (L' := [(2, .int (x2 + (1 : Int32))), (0, .ref 81), (1, .int x1), (3, .int x3)]) C 2 rfl rfl (Nat.le_of_ble_eq_true rfl) rfl dX12_passes_101 ?_
    refine G_goto (tgt := 28) C rfl dX12_passes_104 ?_
    refine G_sub [1, 2, 0] rfl ?_
    exact hf28 _ _ _ h
  · replace h := (if_neg hc12).symm.trans h
    refine G_aload_n C 0 rfl rfl dX12_passes_83 ?_
    refine G_getF C fl_X12_189_11 rfl rfl fn_81_94 dX12_passes_84 ?_
    refine G_iload_n C 3 rfl rfl dX12_passes_87 ?_
    refine G_aload_n C 0 rfl rfl dX12_passes_88 ?_
    refine G_getF C fl_X12_192_11 rfl rfl fn_81_95 dX12_passes_89 ?_
    refine G_iload_n C 3 rfl rfl dX12_passes_92 ?_
    obtain ⟨hc13, h⟩ := ifn h
    refine G_iaload C ks_141 hc13 dX12_passes_93 ?_
    obtain ⟨σ14, hs14, h⟩ := stp_elim h
    refine G_iastore C ks_140 hc13 dX12_passes_94 ?_
    rw [← hs14]
    refine G_iinc (v := 1) (L' := [(3, .int (x3 + (1 : Int32))), (0, .ref 81), (1, .int x1), (2, .int x2)]) C 3 rfl rfl (Nat.le_of_ble_eq_true rfl) rfl dX12_passes_95 ?_
    refine G_goto (tgt := 77) C rfl dX12_passes_98 ?_
    refine G_sub [1, 2, 3, 0] rfl ?_
    exact hf77 _ _ _ _ h
set_option maxRecDepth 100000 in
set_option maxHeartbeats 4000000 in
theorem eX12_passes_77 (C : Cx E p s m args meth c cX12_passes 4 RX12) (hr : meth.sig.returnType = none) {σ0 : Sto} {r2 : Sto} {σ : Sto} {f28 : Int32 → Int32 → Sto → Option Sto} {n : Nat} {x1 : Int32} {x2 : Int32} {x3 : Int32} (hf28 : ∀ (x1 : Int32) (x2 : Int32) (σ' : Sto), f28 x1 x2 σ' = some r2 → G p l e (rmd 3 0 0) s m args below meth c E true (sZ σ0) ad0 (MQ below (QV E true σ0 r2 ad0) args s 0 0 (AE E)) 4 0 0 σ' 28 [(0, .ref 81), (1, .int x1), (2, .int x2)] []) (h : mX12_passes_77 f28 n x1 x2 x3 σ = some r2) : G p l e (rmd 3 0 0) s m args below meth c E true (sZ σ0) ad0 (MQ below (QV E true σ0 r2 ad0) args s 0 0 (AE E)) 4 0 0 σ 77 [(0, .ref 81), (1, .int x1), (2, .int x2), (3, .int x3)] [] := by
  induction n generalizing x1 x2 x3 σ with
  | zero => exact nomatch (show (none : Option Sto) = some r2 from h)
  | succ n ih => exact eX12_passes_77B C hr hf28 (fun z0 z1 z2 σ9 h9 => ih h9) h
set_option maxRecDepth 100000 in
set_option maxHeartbeats 4000000 in
theorem eX12_passes_57B (C : Cx E p s m args meth c cX12_passes 4 RX12) (hr : meth.sig.returnType = none) {σ0 : Sto} {r2 : Sto} {σ : Sto} {f28 : Int32 → Int32 → Sto → Option Sto} {f57 : Int32 → Int32 → Int32 → Sto → Option Sto} {x1 : Int32} {x2 : Int32} {x3 : Int32} (hf28 : ∀ (x1 : Int32) (x2 : Int32) (σ' : Sto), f28 x1 x2 σ' = some r2 → G p l e (rmd 3 0 0) s m args below meth c E true (sZ σ0) ad0 (MQ below (QV E true σ0 r2 ad0) args s 0 0 (AE E)) 4 0 0 σ' 28 [(0, .ref 81), (1, .int x1), (2, .int x2)] []) (hf57 : ∀ (x1 : Int32) (x2 : Int32) (x3 : Int32) (σ' : Sto), f57 x1 x2 x3 σ' = some r2 → G p l e (rmd 3 0 0) s m args below meth c E true (sZ σ0) ad0 (MQ below (QV E true σ0 r2 ad0) args s 0 0 (AE E)) 4 0 0 σ' 57 [(0, .ref 81), (1, .int x1), (2, .int x2), (3, .int x3)] []) (h : mX12_passes_57B f28 f57 x1 x2 x3 σ = some r2) : G p l e (rmd 3 0 0) s m args below meth c E true (sZ σ0) ad0 (MQ below (QV E true σ0 r2 ad0) args s 0 0 (AE E)) 4 0 0 σ 57 [(0, .ref 81), (1, .int x1), (2, .int x2), (3, .int x3)] [] := by
  unfold mX12_passes_57B at h
  refine G_iload_n C 3 rfl rfl dX12_passes_57 ?_
  refine G_bipush C (v := 30) rfl dX12_passes_58 ?_
  refine G_icmp_ge (tgt := 75) C rfl dX12_passes_60 (fun hc11 => ?_) (fun hc11 => ?_)
  · replace h := (if_pos hc11).symm.trans h
    refine G_iconst C (v := 0) rfl dX12_passes_75 ?_
    refine G_istore_n (L' := [(3, .int (0 : Int32)), (0, .ref 81), (1, .int x1), (2, .int x2)]) C rfl (Nat.le_of_ble_eq_true rfl) rfl dX12_passes_76 ?_
    refine G_sub [1, 2, 3, 0] rfl ?_
    exact eX12_passes_77 C hr hf28 h
  · replace h := (if_neg hc11).symm.trans h
    refine G_aload_n C 0 rfl rfl dX12_passes_63 ?_
    refine G_iload_n C 3 rfl rfl dX12_passes_64 ?_
    refine G_iload_n C 1 rfl rfl dX12_passes_65 ?_
    obtain ⟨σ15, hv15, h⟩ := bnd h
    refine G_callV (run_V C [.int x3, .int x1] [] (dX12_passesOn hv15) ml_X12_passesOn mv_X12_passesOn lk_X12_465 ⟨(Nat.le_of_ble_eq_true rfl), (Nat.le_of_ble_eq_true rfl)⟩ ⟨(Nat.le_of_ble_eq_true rfl), (Nat.le_of_ble_eq_true rfl)⟩ vq_11 rfl ko_81 rfl (Nat.le_of_ble_eq_true rfl) dX12_passes_66) ?_
    refine G_iinc (v := 1) (L' := [(3, .int (x3 + (1 : Int32))), (0, .ref 81), (1, .int x1), (2, .int x2)]) C 3 rfl rfl (Nat.le_of_ble_eq_true rfl) rfl dX12_passes_69 ?_
    refine G_goto (tgt := 57) C rfl dX12_passes_72 ?_
    refine G_sub [1, 2, 3, 0] rfl ?_
    exact hf57 _ _ _ _ h
set_option maxRecDepth 100000 in
set_option maxHeartbeats 4000000 in
theorem eX12_passes_57 (C : Cx E p s m args meth c cX12_passes 4 RX12) (hr : meth.sig.returnType = none) {σ0 : Sto} {r2 : Sto} {σ : Sto} {f28 : Int32 → Int32 → Sto → Option Sto} {n : Nat} {x1 : Int32} {x2 : Int32} {x3 : Int32} (hf28 : ∀ (x1 : Int32) (x2 : Int32) (σ' : Sto), f28 x1 x2 σ' = some r2 → G p l e (rmd 3 0 0) s m args below meth c E true (sZ σ0) ad0 (MQ below (QV E true σ0 r2 ad0) args s 0 0 (AE E)) 4 0 0 σ' 28 [(0, .ref 81), (1, .int x1), (2, .int x2)] []) (h : mX12_passes_57 f28 n x1 x2 x3 σ = some r2) : G p l e (rmd 3 0 0) s m args below meth c E true (sZ σ0) ad0 (MQ below (QV E true σ0 r2 ad0) args s 0 0 (AE E)) 4 0 0 σ 57 [(0, .ref 81), (1, .int x1), (2, .int x2), (3, .int x3)] [] := by
  induction n generalizing x1 x2 x3 σ with
  | zero => exact nomatch (show (none : Option Sto) = some r2 from h)
  | succ n ih => exact eX12_passes_57B C hr hf28 (fun z0 z1 z2 σ9 h9 => ih h9) h
set_option maxRecDepth 100000 in
set_option maxHeartbeats 4000000 in
theorem eX12_passes_36B (C : Cx E p s m args meth c cX12_passes 4 RX12) (hr : meth.sig.returnType = none) {σ0 : Sto} {r2 : Sto} {σ : Sto} {f28 : Int32 → Int32 → Sto → Option Sto} {f36 : Int32 → Int32 → Int32 → Sto → Option Sto} {x1 : Int32} {x2 : Int32} {x3 : Int32} (hf28 : ∀ (x1 : Int32) (x2 : Int32) (σ' : Sto), f28 x1 x2 σ' = some r2 → G p l e (rmd 3 0 0) s m args below meth c E true (sZ σ0) ad0 (MQ below (QV E true σ0 r2 ad0) args s 0 0 (AE E)) 4 0 0 σ' 28 [(0, .ref 81), (1, .int x1), (2, .int x2)] []) (hf36 : ∀ (x1 : Int32) (x2 : Int32) (x3 : Int32) (σ' : Sto), f36 x1 x2 x3 σ' = some r2 → G p l e (rmd 3 0 0) s m args below meth c E true (sZ σ0) ad0 (MQ below (QV E true σ0 r2 ad0) args s 0 0 (AE E)) 4 0 0 σ' 36 [(0, .ref 81), (1, .int x1), (2, .int x2), (3, .int x3)] []) (h : mX12_passes_36B f28 f36 x1 x2 x3 σ = some r2) : G p l e (rmd 3 0 0) s m args below meth c E true (sZ σ0) ad0 (MQ below (QV E true σ0 r2 ad0) args s 0 0 (AE E)) 4 0 0 σ 36 [(0, .ref 81), (1, .int x1), (2, .int x2), (3, .int x3)] [] := by
  unfold mX12_passes_36B at h
  refine G_iload_n C 3 rfl rfl dX12_passes_36 ?_
  refine G_bipush C (v := 30) rfl dX12_passes_37 ?_
  refine G_icmp_ge (tgt := 55) C rfl dX12_passes_39 (fun hc10 => ?_) (fun hc10 => ?_)
  · replace h := (if_pos hc10).symm.trans h
    refine G_iconst C (v := 0) rfl dX12_passes_55 ?_
    refine G_istore_n (L' := [(3, .int (0 : Int32)), (0, .ref 81), (1, .int x1), (2, .int x2)]) C rfl (Nat.le_of_ble_eq_true rfl) rfl dX12_passes_56 ?_
    refine G_sub [1, 2, 3, 0] rfl ?_
    exact eX12_passes_57 C hr hf28 h
  · replace h := (if_neg hc10).symm.trans h
    refine G_aload_n C 0 rfl rfl dX12_passes_42 ?_
    refine G_getF C fl_X12_192_11 rfl rfl fn_81_95 dX12_passes_43 ?_
    refine G_iload_n C 3 rfl rfl dX12_passes_46 ?_
    refine G_iconst C (v := 0) rfl dX12_passes_47 ?_
    obtain ⟨hc16, h⟩ := ifn h
    obtain ⟨σ17, hs17, h⟩ := stp_elim h
    refine G_iastore C ks_141 hc16 dX12_passes_48 ?_
    rw [← hs17]
    refine G_iinc (v := 1) (L' := [(3, .int (x3 + (1 : Int32))), (0, .ref 81), (1, .int x1), (2, .int x2)]) C 3 rfl rfl (Nat.le_of_ble_eq_true rfl) rfl dX12_passes_49 ?_
    refine G_goto (tgt := 36) C rfl dX12_passes_52 ?_
    refine G_sub [1, 2, 3, 0] rfl ?_
    exact hf36 _ _ _ _ h
set_option maxRecDepth 100000 in
set_option maxHeartbeats 4000000 in
theorem eX12_passes_36 (C : Cx E p s m args meth c cX12_passes 4 RX12) (hr : meth.sig.returnType = none) {σ0 : Sto} {r2 : Sto} {σ : Sto} {f28 : Int32 → Int32 → Sto → Option Sto} {n : Nat} {x1 : Int32} {x2 : Int32} {x3 : Int32} (hf28 : ∀ (x1 : Int32) (x2 : Int32) (σ' : Sto), f28 x1 x2 σ' = some r2 → G p l e (rmd 3 0 0) s m args below meth c E true (sZ σ0) ad0 (MQ below (QV E true σ0 r2 ad0) args s 0 0 (AE E)) 4 0 0 σ' 28 [(0, .ref 81), (1, .int x1), (2, .int x2)] []) (h : mX12_passes_36 f28 n x1 x2 x3 σ = some r2) : G p l e (rmd 3 0 0) s m args below meth c E true (sZ σ0) ad0 (MQ below (QV E true σ0 r2 ad0) args s 0 0 (AE E)) 4 0 0 σ 36 [(0, .ref 81), (1, .int x1), (2, .int x2), (3, .int x3)] [] := by
  induction n generalizing x1 x2 x3 σ with
  | zero => exact nomatch (show (none : Option Sto) = some r2 from h)
  | succ n ih => exact eX12_passes_36B C hr hf28 (fun z0 z1 z2 σ9 h9 => ih h9) h
set_option maxRecDepth 100000 in
set_option maxHeartbeats 4000000 in
theorem eX12_passes_28B (C : Cx E p s m args meth c cX12_passes 4 RX12) (hr : meth.sig.returnType = none) {σ0 : Sto} {r2 : Sto} {σ : Sto} {f28 : Int32 → Int32 → Sto → Option Sto} {x1 : Int32} {x2 : Int32} (hf28 : ∀ (x1 : Int32) (x2 : Int32) (σ' : Sto), f28 x1 x2 σ' = some r2 → G p l e (rmd 3 0 0) s m args below meth c E true (sZ σ0) ad0 (MQ below (QV E true σ0 r2 ad0) args s 0 0 (AE E)) 4 0 0 σ' 28 [(0, .ref 81), (1, .int x1), (2, .int x2)] []) (h : mX12_passes_28B f28 x1 x2 σ = some r2) : G p l e (rmd 3 0 0) s m args below meth c E true (sZ σ0) ad0 (MQ below (QV E true σ0 r2 ad0) args s 0 0 (AE E)) 4 0 0 σ 28 [(0, .ref 81), (1, .int x1), (2, .int x2)] [] := by
  unfold mX12_passes_28B at h
  refine G_iload_n C 2 rfl rfl dX12_passes_28 ?_
  refine G_bipush C (v := 8) rfl dX12_passes_29 ?_
  refine G_icmp_ge (tgt := 107) C rfl dX12_passes_31 (fun hc2 => ?_) (fun hc2 => ?_)
  · replace h := (if_pos hc2).symm.trans h
    refine G_iconst C (v := 0) rfl dX12_passes_107 ?_
    refine G_istore_n (L' := [(2, .int (0 : Int32)), (0, .ref 81), (1, .int x1)]) C rfl (Nat.le_of_ble_eq_true rfl) rfl dX12_passes_108 ?_
    refine G_sub [1, 2, 0] rfl ?_
    exact eX12_passes_109 C hr h
  · replace h := (if_neg hc2).symm.trans h
    refine G_iconst C (v := 0) rfl dX12_passes_34 ?_
    refine G_istore_n (L' := [(3, .int (0 : Int32)), (0, .ref 81), (1, .int x1), (2, .int x2)]) C rfl (Nat.le_of_ble_eq_true rfl) rfl dX12_passes_35 ?_
    refine G_sub [1, 2, 3, 0] rfl ?_
    exact eX12_passes_36 C hr hf28 h
set_option maxRecDepth 100000 in
set_option maxHeartbeats 4000000 in
theorem eX12_passes_28 (C : Cx E p s m args meth c cX12_passes 4 RX12) (hr : meth.sig.returnType = none) {σ0 : Sto} {r2 : Sto} {σ : Sto} {n : Nat} {x1 : Int32} {x2 : Int32} (h : mX12_passes_28 n x1 x2 σ = some r2) : G p l e (rmd 3 0 0) s m args below meth c E true (sZ σ0) ad0 (MQ below (QV E true σ0 r2 ad0) args s 0 0 (AE E)) 4 0 0 σ 28 [(0, .ref 81), (1, .int x1), (2, .int x2)] [] := by
  induction n generalizing x1 x2 σ with
  | zero => exact nomatch (show (none : Option Sto) = some r2 from h)
  | succ n ih => exact eX12_passes_28B C hr (fun z0 z1 σ9 h9 => ih h9) h
set_option maxRecDepth 100000 in
set_option maxHeartbeats 4000000 in
theorem eX12_passes_2B (C : Cx E p s m args meth c cX12_passes 4 RX12) (hr : meth.sig.returnType = none) {σ0 : Sto} {r2 : Sto} {σ : Sto} {f2 : Int32 → Int32 → Sto → Option Sto} {x1 : Int32} {x2 : Int32} (hf2 : ∀ (x1 : Int32) (x2 : Int32) (σ' : Sto), f2 x1 x2 σ' = some r2 → G p l e (rmd 3 0 0) s m args below meth c E true (sZ σ0) ad0 (MQ below (QV E true σ0 r2 ad0) args s 0 0 (AE E)) 4 0 0 σ' 2 [(0, .ref 81), (1, .int x1), (2, .int x2)] []) (h : mX12_passes_2B f2 x1 x2 σ = some r2) : G p l e (rmd 3 0 0) s m args below meth c E true (sZ σ0) ad0 (MQ below (QV E true σ0 r2 ad0) args s 0 0 (AE E)) 4 0 0 σ 2 [(0, .ref 81), (1, .int x1), (2, .int x2)] [] := by
  unfold mX12_passes_2B at h
  refine G_iload_n C 2 rfl rfl dX12_passes_2 ?_
  refine G_bipush C (v := 30) rfl dX12_passes_3 ?_
  refine G_icmp_ge (tgt := 26) C rfl dX12_passes_5 (fun hc1 => ?_) (fun hc1 => ?_)
  · replace h := (if_pos hc1).symm.trans h
    refine G_iconst C (v := 0) rfl dX12_passes_26 ?_
    refine G_istore_n (L' := [(2, .int (0 : Int32)), (0, .ref 81), (1, .int x1)]) C rfl (Nat.le_of_ble_eq_true rfl) rfl dX12_passes_27 ?_
    refine G_sub [1, 2, 0] rfl ?_
    exact eX12_passes_28 C hr h
  · replace h := (if_neg hc1).symm.trans h
    refine G_aload_n C 0 rfl rfl dX12_passes_8 ?_
    refine G_getF C fl_X12_189_11 rfl rfl fn_81_94 dX12_passes_9 ?_
    refine G_iload_n C 2 rfl rfl dX12_passes_12 ?_
    refine G_aload_n C 0 rfl rfl dX12_passes_13 ?_
    refine G_getF C fl_X12_174_11 rfl rfl fn_81_89 dX12_passes_14 ?_
    refine G_iload_n C 2 rfl rfl dX12_passes_17 ?_
    obtain ⟨hc18, h⟩ := ifn h
    refine G_iaload C ks_135 hc18 dX12_passes_18 ?_
    obtain ⟨σ19, hs19, h⟩ := stp_elim h
    refine G_iastore C ks_140 hc18 dX12_passes_19 ?_
    rw [← hs19]
    refine G_iinc (v := 1) (L' := [(2, .int (x2 + (1 : Int32))), (0, .ref 81), (1, .int x1)]) C 2 rfl rfl (Nat.le_of_ble_eq_true rfl) rfl dX12_passes_20 ?_
    refine G_goto (tgt := 2) C rfl dX12_passes_23 ?_
    refine G_sub [1, 2, 0] rfl ?_
    exact hf2 _ _ _ h
set_option maxRecDepth 100000 in
set_option maxHeartbeats 4000000 in
theorem eX12_passes_2 (C : Cx E p s m args meth c cX12_passes 4 RX12) (hr : meth.sig.returnType = none) {σ0 : Sto} {r2 : Sto} {σ : Sto} {n : Nat} {x1 : Int32} {x2 : Int32} (h : mX12_passes_2 n x1 x2 σ = some r2) : G p l e (rmd 3 0 0) s m args below meth c E true (sZ σ0) ad0 (MQ below (QV E true σ0 r2 ad0) args s 0 0 (AE E)) 4 0 0 σ 2 [(0, .ref 81), (1, .int x1), (2, .int x2)] [] := by
  induction n generalizing x1 x2 σ with
  | zero => exact nomatch (show (none : Option Sto) = some r2 from h)
  | succ n ih => exact eX12_passes_2B C hr (fun z0 z1 σ9 h9 => ih h9) h
set_option maxRecDepth 100000 in
set_option maxHeartbeats 4000000 in
theorem dX12_passes {σ : Sto} {p0 : Int32} {r2 : Sto} (h : mX12_passes p0 σ = some r2) : MM l yX12_passes cX12_passes 4 none 3 0 0 E true σ [.ref 81, .int p0] (QV E true σ r2) := by
  unfold mX12_passes at h
  refine MM_of (by decide) (Nat.le_of_ble_eq_true rfl) rfl (fun p e s m args below meth c ad0 C hr hn => ?_)
  refine G_iconst C (v := 0) rfl dX12_passes_0 ?_
  refine G_istore_n (L' := [(2, .int (0 : Int32)), (0, .ref 81), (1, .int p0)]) C rfl (Nat.le_of_ble_eq_true rfl) rfl dX12_passes_1 ?_
  refine G_sub [1, 2, 0] rfl ?_
  exact eX12_passes_2 C hr h
set_option maxRecDepth 100000 in
set_option maxHeartbeats 4000000 in
theorem eX12_pays_129B (C : Cx E p s m args meth c cX12_pays 5 RX12) (hr : meth.sig.returnType = none) {σ0 : Sto} {r2 : Sto} {σ : Sto} {f129 : Int32 → Int32 → Int32 → Int32 → Sto → Option Sto} {x1 : Int32} {x2 : Int32} {x3 : Int32} {x4 : Int32} (hf129 : ∀ (x1 : Int32) (x2 : Int32) (x3 : Int32) (x4 : Int32) (σ' : Sto), f129 x1 x2 x3 x4 σ' = some r2 → G p l e (rmd 2 0 0) s m args below meth c E true (sZ σ0) ad0 (MQ below (QV E true σ0 r2 ad0) args s 0 0 (AE E)) 5 0 0 σ' 129 [(0, .ref 81), (1, .int x1), (2, .int x2), (3, .int x3), (4, .int x4)] []) (h : mX12_pays_129B f129 x1 x2 x3 x4 σ = some r2) : G p l e (rmd 2 0 0) s m args below meth c E true (sZ σ0) ad0 (MQ below (QV E true σ0 r2 ad0) args s 0 0 (AE E)) 5 0 0 σ 129 [(0, .ref 81), (1, .int x1), (2, .int x2), (3, .int x3), (4, .int x4)] [] := by
  unfold mX12_pays_129B at h
  refine G_iload C 4 rfl dX12_pays_129 ?_
  refine G_aload_n C 0 rfl rfl dX12_pays_131 ?_
  refine G_getI C fl_X12_273_11 (Or.inl rfl) ko_81 dX12_pays_132 ?_
  refine G_icmp_ge (tgt := 216) C rfl dX12_pays_135 (fun hc4 => ?_) (fun hc4 => ?_)
  · replace h := (if_pos hc4).symm.trans h
    refine G_iload_n C 3 rfl rfl dX12_pays_216 ?_
    refine G_if_eq (tgt := 235) C rfl dX12_pays_217 (fun hc5 => ?_) (fun hc5 => ?_)
    · replace h := (if_pos hc5).symm.trans h
      refine G_aload_n C 0 rfl rfl dX12_pays_235 ?_
      refine G_dup C rfl dX12_pays_236 ?_
      refine G_getI C fl_X12_450_11 (Or.inl rfl) ko_81 dX12_pays_237 ?_
      refine G_aload_n C 0 rfl rfl dX12_pays_240 ?_
      refine G_getF C fl_X12_180_11 rfl rfl fn_81_91 dX12_pays_241 ?_
      refine G_iload_n C 2 rfl rfl dX12_pays_244 ?_
      obtain ⟨hc6, h⟩ := ifn h
      refine G_iaload C ks_137 hc6 dX12_pays_245 ?_
      refine G_iadd C dX12_pays_246 ?_
      obtain ⟨σ7, hs7, h⟩ := stp_elim h
      refine G_putI C fl_X12_450_11 fp_X12_11_85 (Or.inl rfl) (Or.inl rfl) ko_81 dX12_pays_247 ?_
      rw [← hs7]
      obtain rfl := Option.some.inj h
      exact G_vret C hr (Nat.le_of_ble_eq_true rfl) (Nat.le_of_ble_eq_true rfl) dX12_pays_250
    · replace h := (if_neg hc5).symm.trans h
      refine G_aload_n C 0 rfl rfl dX12_pays_220 ?_
      refine G_getF C fl_X12_183_11 rfl rfl fn_81_92 dX12_pays_221 ?_
      refine G_iload_n C 2 rfl rfl dX12_pays_224 ?_
      refine G_aload_n C 0 rfl rfl dX12_pays_225 ?_
      refine G_getF C fl_X12_180_11 rfl rfl fn_81_91 dX12_pays_226 ?_
      refine G_iload_n C 2 rfl rfl dX12_pays_229 ?_
      obtain ⟨hc8, h⟩ := ifn h
      refine G_iaload C ks_137 hc8 dX12_pays_230 ?_
      obtain ⟨σ9, hs9, h⟩ := stp_elim h
      refine G_iastore C ks_138 hc8 dX12_pays_231 ?_
      rw [← hs9]
      refine G_goto (tgt := 250) C rfl dX12_pays_232 ?_
      obtain rfl := Option.some.inj h
      exact G_vret C hr (Nat.le_of_ble_eq_true rfl) (Nat.le_of_ble_eq_true rfl) dX12_pays_250
  · replace h := (if_neg hc4).symm.trans h
    refine G_iload_n C 3 rfl rfl dX12_pays_138 ?_
    refine G_if_ne (tgt := 204) C rfl dX12_pays_139 (fun hc10 => ?_) (fun hc10 => ?_)
    · replace h := (if_neg hc10).symm.trans h
      refine G_iconst C (v := 1) rfl dX12_pays_204 ?_
      refine G_goto (tgt := 209) C rfl dX12_pays_205 ?_
      refine G_istore_n (L' := [(3, .int (1 : Int32)), (0, .ref 81), (1, .int x1), (2, .int x2), (4, .int x4)]) C rfl (Nat.le_of_ble_eq_true rfl) rfl dX12_pays_209 ?_
      refine G_iinc (v := 1) (L' := [(4, .int (x4 + (1 : Int32))), (3, .int (1 : Int32)), (0, .ref 81), (1, .int x1), (2, .int x2)]) C 4 rfl rfl (Nat.le_of_ble_eq_true rfl) rfl dX12_pays_210 ?_
      refine G_goto (tgt := 129) C rfl dX12_pays_213 ?_
      refine G_sub [2, 3, 4, 1, 0] rfl ?_
      exact hf129 _ _ _ _ _ h
    · replace h := (if_pos hc10).symm.trans h
      refine G_aload_n C 0 rfl rfl dX12_pays_142 ?_
      refine G_getF C fl_X12_89_11 rfl rfl fn_81_35 dX12_pays_143 ?_
      refine G_iload C 4 rfl dX12_pays_146 ?_
      obtain ⟨hc11, h⟩ := ifn h
      refine G_iaload C ks_108 hc11 dX12_pays_148 ?_
      refine G_iload_n C 2 rfl rfl dX12_pays_149 ?_
      refine G_icmp_ne (tgt := 208) C rfl dX12_pays_150 (fun hc12 => ?_) (fun hc12 => ?_)
      · replace h := (if_neg hc12).symm.trans h
        refine G_iconst C (v := 0) rfl dX12_pays_208 ?_
        refine G_istore_n (L' := [(3, .int (0 : Int32)), (0, .ref 81), (1, .int x1), (2, .int x2), (4, .int x4)]) C rfl (Nat.le_of_ble_eq_true rfl) rfl dX12_pays_209 ?_
        refine G_iinc (v := 1) (L' := [(4, .int (x4 + (1 : Int32))), (3, .int (0 : Int32)), (0, .ref 81), (1, .int x1), (2, .int x2)]) C 4 rfl rfl (Nat.le_of_ble_eq_true rfl) rfl dX12_pays_210 ?_
        refine G_goto (tgt := 129) C rfl dX12_pays_213 ?_
        refine G_sub [2, 3, 4, 1, 0] rfl ?_
        exact hf129 _ _ _ _ _ h
      · replace h := (if_pos hc12).symm.trans h
        refine G_aload_n C 0 rfl rfl dX12_pays_153 ?_
        refine G_getF C fl_X12_92_11 rfl rfl fn_81_36 dX12_pays_154 ?_
        refine G_iload C 4 rfl dX12_pays_157 ?_
        refine G_iaload C ks_109 hc11 dX12_pays_159 ?_
        refine G_iload_n C 1 rfl rfl dX12_pays_160 ?_
        refine G_icmp_ne (tgt := 208) C rfl dX12_pays_161 (fun hc13 => ?_) (fun hc13 => ?_)
        · replace h := (if_neg hc13).symm.trans h
          refine G_iconst C (v := 0) rfl dX12_pays_208 ?_
          refine G_istore_n (L' := [(3, .int (0 : Int32)), (0, .ref 81), (1, .int x1), (2, .int x2), (4, .int x4)]) C rfl (Nat.le_of_ble_eq_true rfl) rfl dX12_pays_209 ?_
          refine G_iinc (v := 1) (L' := [(4, .int (x4 + (1 : Int32))), (3, .int (0 : Int32)), (0, .ref 81), (1, .int x1), (2, .int x2)]) C 4 rfl rfl (Nat.le_of_ble_eq_true rfl) rfl dX12_pays_210 ?_
          refine G_goto (tgt := 129) C rfl dX12_pays_213 ?_
          refine G_sub [2, 3, 4, 1, 0] rfl ?_
          exact hf129 _ _ _ _ _ h
        · replace h := (if_pos hc13).symm.trans h
          refine G_aload_n C 0 rfl rfl dX12_pays_164 ?_
          refine G_getF C fl_X12_95_11 rfl rfl fn_81_37 dX12_pays_165 ?_
          refine G_iload C 4 rfl dX12_pays_168 ?_
          refine G_iaload C ks_110 hc11 dX12_pays_170 ?_
          refine G_aload_n C 0 rfl rfl dX12_pays_171 ?_
          refine G_getI C fl_X12_398_11 (Or.inl rfl) ko_81 dX12_pays_172 ?_
          refine G_icmp_gt (tgt := 208) C rfl dX12_pays_175 (fun hc14 => ?_) (fun hc14 => ?_)
          · replace h := (if_pos hc14).symm.trans h
            refine G_iconst C (v := 0) rfl dX12_pays_208 ?_
            refine G_istore_n (L' := [(3, .int (0 : Int32)), (0, .ref 81), (1, .int x1), (2, .int x2), (4, .int x4)]) C rfl (Nat.le_of_ble_eq_true rfl) rfl dX12_pays_209 ?_
            refine G_iinc (v := 1) (L' := [(4, .int (x4 + (1 : Int32))), (3, .int (0 : Int32)), (0, .ref 81), (1, .int x1), (2, .int x2)]) C 4 rfl rfl (Nat.le_of_ble_eq_true rfl) rfl dX12_pays_210 ?_
            refine G_goto (tgt := 129) C rfl dX12_pays_213 ?_
            refine G_sub [2, 3, 4, 1, 0] rfl ?_
            exact hf129 _ _ _ _ _ h
          · replace h := (if_neg hc14).symm.trans h
            refine G_aload_n C 0 rfl rfl dX12_pays_178 ?_
            refine G_getF C fl_X12_95_11 rfl rfl fn_81_37 dX12_pays_179 ?_
            refine G_iload C 4 rfl dX12_pays_182 ?_
            refine G_iaload C ks_110 hc11 dX12_pays_184 ?_
            refine G_aload_n C 0 rfl rfl dX12_pays_185 ?_
            refine G_getF C fl_X12_83_11 rfl rfl fn_81_33 dX12_pays_186 ?_
            refine G_iload_n C 1 rfl rfl dX12_pays_189 ?_
            obtain ⟨hc15, h⟩ := ifn h
            refine G_iaload C ks_106 hc15 dX12_pays_190 ?_
            refine G_isub C dX12_pays_191 ?_
            refine G_aload_n C 0 rfl rfl dX12_pays_192 ?_
            refine G_getF C fl_X12_132_11 rfl rfl fn_81_64 dX12_pays_193 ?_
            refine G_aload_n C 0 rfl rfl dX12_pays_196 ?_
            refine G_getI C fl_X12_416_11 (Or.inl rfl) ko_81 dX12_pays_197 ?_
            obtain ⟨hc16, h⟩ := ifn h
            refine G_iaload C ks_121 hc16 dX12_pays_200 ?_
            refine G_icmp_gt (tgt := 208) C rfl dX12_pays_201 (fun hc17 => ?_) (fun hc17 => ?_)
            · replace h := (if_pos hc17).symm.trans h
              refine G_iconst C (v := 0) rfl dX12_pays_208 ?_
              refine G_istore_n (L' := [(3, .int (0 : Int32)), (0, .ref 81), (1, .int x1), (2, .int x2), (4, .int x4)]) C rfl (Nat.le_of_ble_eq_true rfl) rfl dX12_pays_209 ?_
              refine G_iinc (v := 1) (L' := [(4, .int (x4 + (1 : Int32))), (3, .int (0 : Int32)), (0, .ref 81), (1, .int x1), (2, .int x2)]) C 4 rfl rfl (Nat.le_of_ble_eq_true rfl) rfl dX12_pays_210 ?_
              refine G_goto (tgt := 129) C rfl dX12_pays_213 ?_
              refine G_sub [2, 3, 4, 1, 0] rfl ?_
              exact hf129 _ _ _ _ _ h
            · replace h := (if_neg hc17).symm.trans h
              refine G_iconst C (v := 1) rfl dX12_pays_204 ?_
              refine G_goto (tgt := 209) C rfl dX12_pays_205 ?_
              refine G_istore_n (L' := [(3, .int (1 : Int32)), (0, .ref 81), (1, .int x1), (2, .int x2), (4, .int x4)]) C rfl (Nat.le_of_ble_eq_true rfl) rfl dX12_pays_209 ?_
              refine G_iinc (v := 1) (L' := [(4, .int (x4 + (1 : Int32))), (3, .int (1 : Int32)), (0, .ref 81), (1, .int x1), (2, .int x2)]) C 4 rfl rfl (Nat.le_of_ble_eq_true rfl) rfl dX12_pays_210 ?_
              refine G_goto (tgt := 129) C rfl dX12_pays_213 ?_
              refine G_sub [2, 3, 4, 1, 0] rfl ?_
              exact hf129 _ _ _ _ _ h
set_option maxRecDepth 100000 in
set_option maxHeartbeats 4000000 in
theorem eX12_pays_129 (C : Cx E p s m args meth c cX12_pays 5 RX12) (hr : meth.sig.returnType = none) {σ0 : Sto} {r2 : Sto} {σ : Sto} {n : Nat} {x1 : Int32} {x2 : Int32} {x3 : Int32} {x4 : Int32} (h : mX12_pays_129 n x1 x2 x3 x4 σ = some r2) : G p l e (rmd 2 0 0) s m args below meth c E true (sZ σ0) ad0 (MQ below (QV E true σ0 r2 ad0) args s 0 0 (AE E)) 5 0 0 σ 129 [(0, .ref 81), (1, .int x1), (2, .int x2), (3, .int x3), (4, .int x4)] [] := by
  induction n generalizing x1 x2 x3 x4 σ with
  | zero => exact nomatch (show (none : Option Sto) = some r2 from h)
  | succ n ih => exact eX12_pays_129B C hr (fun z0 z1 z2 z3 σ9 h9 => ih h9) h
set_option maxRecDepth 100000 in
set_option maxHeartbeats 4000000 in
theorem eX12_pays_2B (C : Cx E p s m args meth c cX12_pays 5 RX12) (hr : meth.sig.returnType = none) {σ0 : Sto} {r2 : Sto} {σ : Sto} {f2 : Int32 → Int32 → Int32 → Sto → Option Sto} {x1 : Int32} {x2 : Int32} {x3 : Int32} (hf2 : ∀ (x1 : Int32) (x2 : Int32) (x3 : Int32) (σ' : Sto), f2 x1 x2 x3 σ' = some r2 → G p l e (rmd 2 0 0) s m args below meth c E true (sZ σ0) ad0 (MQ below (QV E true σ0 r2 ad0) args s 0 0 (AE E)) 5 0 0 σ' 2 [(0, .ref 81), (1, .int x1), (2, .int x2), (3, .int x3)] []) (h : mX12_pays_2B f2 x1 x2 x3 σ = some r2) : G p l e (rmd 2 0 0) s m args below meth c E true (sZ σ0) ad0 (MQ below (QV E true σ0 r2 ad0) args s 0 0 (AE E)) 5 0 0 σ 2 [(0, .ref 81), (1, .int x1), (2, .int x2), (3, .int x3)] [] := by
  unfold mX12_pays_2B at h
  refine G_iload_n C 3 rfl rfl dX12_pays_2 ?_
  refine G_aload_n C 0 rfl rfl dX12_pays_3 ?_
  refine G_getI C fl_X12_253_11 (Or.inl rfl) ko_81 dX12_pays_4 ?_
  refine G_icmp_ge (tgt := 75) C rfl dX12_pays_7 (fun hc1 => ?_) (fun hc1 => ?_)
  · replace h := (if_pos hc1).symm.trans h
    refine G_aload_n C 0 rfl rfl dX12_pays_75 ?_
    refine G_getF C fl_X12_186_11 rfl rfl fn_81_93 dX12_pays_76 ?_
    refine G_iload_n C 2 rfl rfl dX12_pays_79 ?_
    obtain ⟨hc2, h⟩ := ifn h
    refine G_iaload C ks_139 hc2 dX12_pays_80 ?_
    refine G_iconst C (v := -1) rfl dX12_pays_81 ?_
    refine G_icmp_eq (tgt := 124) C rfl dX12_pays_82 (fun hc3 => ?_) (fun hc3 => ?_)
    · replace h := (if_pos hc3).symm.trans h
      refine G_iconst C (v := 0) rfl dX12_pays_124 ?_
      refine G_istore_n (L' := [(3, .int (0 : Int32)), (0, .ref 81), (1, .int x1), (2, .int x2)]) C rfl (Nat.le_of_ble_eq_true rfl) rfl dX12_pays_125 ?_
      refine G_iconst C (v := 0) rfl dX12_pays_126 ?_
      refine G_istore (L' := [(4, .int (0 : Int32)), (3, .int (0 : Int32)), (0, .ref 81), (1, .int x1), (2, .int x2)]) C (Nat.le_of_ble_eq_true rfl) rfl dX12_pays_127 ?_
      refine G_sub [2, 3, 4, 1, 0] rfl ?_
      exact eX12_pays_129 C hr h
    · replace h := (if_neg hc3).symm.trans h
      refine G_aload_n C 0 rfl rfl dX12_pays_85 ?_
      refine G_getF C fl_X12_183_11 rfl rfl fn_81_92 dX12_pays_86 ?_
      refine G_iload_n C 2 rfl rfl dX12_pays_89 ?_
      refine G_aload_n C 0 rfl rfl dX12_pays_90 ?_
      refine G_getF C fl_X12_180_11 rfl rfl fn_81_91 dX12_pays_91 ?_
      refine G_iload_n C 2 rfl rfl dX12_pays_94 ?_
      refine G_iaload C ks_137 hc2 dX12_pays_95 ?_
      refine G_aload_n C 0 rfl rfl dX12_pays_96 ?_
      refine G_getF C fl_X12_180_11 rfl rfl fn_81_91 dX12_pays_97 ?_
      refine G_iload_n C 2 rfl rfl dX12_pays_100 ?_
      refine G_iaload C ks_137 hc2 dX12_pays_101 ?_
      refine G_i2l C dX12_pays_102 ?_
      refine G_aload_n C 0 rfl rfl dX12_pays_103 ?_
      refine G_getF C fl_X12_44_11 rfl rfl fn_81_20 dX12_pays_104 ?_
      refine G_aload_n C 0 rfl rfl dX12_pays_107 ?_
      refine G_getF C fl_X12_186_11 rfl rfl fn_81_93 dX12_pays_108 ?_
      refine G_iload_n C 2 rfl rfl dX12_pays_111 ?_
      refine G_iaload C ks_139 hc2 dX12_pays_112 ?_
      obtain ⟨hc18, h⟩ := ifn h
      refine G_iaload C ks_93 hc18 dX12_pays_113 ?_
      refine G_i2l C dX12_pays_114 ?_
      refine G_lmul C dX12_pays_115 ?_
      refine G_ldc2 C kc_X12_431 dX12_pays_116 ?_
      refine G_ldiv C (by decide) dX12_pays_119 ?_
      refine G_l2i C dX12_pays_120 ?_
      refine G_isub C dX12_pays_121 ?_
      obtain ⟨σ19, hs19, h⟩ := stp_elim h
      refine G_iastore C ks_138 hc2 dX12_pays_122 ?_
      rw [← hs19]
      obtain rfl := Option.some.inj h
      exact G_vret C hr (Nat.le_of_ble_eq_true rfl) (Nat.le_of_ble_eq_true rfl) dX12_pays_123
  · replace h := (if_neg hc1).symm.trans h
    refine G_aload_n C 0 rfl rfl dX12_pays_10 ?_
    refine G_getF C fl_X12_56_11 rfl rfl fn_81_24 dX12_pays_11 ?_
    refine G_iload_n C 3 rfl rfl dX12_pays_14 ?_
    obtain ⟨hc20, h⟩ := ifn h
    refine G_iaload C ks_97 hc20 dX12_pays_15 ?_
    refine G_iconst C (v := 5) rfl dX12_pays_16 ?_
    refine G_icmp_ne (tgt := 69) C rfl dX12_pays_17 (fun hc21 => ?_) (fun hc21 => ?_)
    · replace h := (if_neg hc21).symm.trans h
      refine G_iinc (v := 1) (L' := [(3, .int (x3 + (1 : Int32))), (0, .ref 81), (1, .int x1), (2, .int x2)]) C 3 rfl rfl (Nat.le_of_ble_eq_true rfl) rfl dX12_pays_69 ?_
      refine G_goto (tgt := 2) C rfl dX12_pays_72 ?_
      refine G_sub [1, 2, 3, 0] rfl ?_
      exact hf2 _ _ _ _ h
    · replace h := (if_pos hc21).symm.trans h
      refine G_aload_n C 0 rfl rfl dX12_pays_20 ?_
      refine G_getF C fl_X12_62_11 rfl rfl fn_81_26 dX12_pays_21 ?_
      refine G_iload_n C 3 rfl rfl dX12_pays_24 ?_
      refine G_iaload C ks_99 hc20 dX12_pays_25 ?_
      refine G_iload_n C 2 rfl rfl dX12_pays_26 ?_
      refine G_icmp_ne (tgt := 69) C rfl dX12_pays_27 (fun hc22 => ?_) (fun hc22 => ?_)
      · replace h := (if_neg hc22).symm.trans h
        refine G_iinc (v := 1) (L' := [(3, .int (x3 + (1 : Int32))), (0, .ref 81), (1, .int x1), (2, .int x2)]) C 3 rfl rfl (Nat.le_of_ble_eq_true rfl) rfl dX12_pays_69 ?_
        refine G_goto (tgt := 2) C rfl dX12_pays_72 ?_
        refine G_sub [1, 2, 3, 0] rfl ?_
        exact hf2 _ _ _ _ h
      · replace h := (if_pos hc22).symm.trans h
        refine G_aload_n C 0 rfl rfl dX12_pays_30 ?_
        refine G_getF C fl_X12_68_11 rfl rfl fn_81_28 dX12_pays_31 ?_
        refine G_iload_n C 3 rfl rfl dX12_pays_34 ?_
        refine G_iaload C ks_101 hc20 dX12_pays_35 ?_
        refine G_aload_n C 0 rfl rfl dX12_pays_36 ?_
        refine G_getF C fl_X12_68_11 rfl rfl fn_81_28 dX12_pays_37 ?_
        refine G_iload_n C 1 rfl rfl dX12_pays_40 ?_
        obtain ⟨hc23, h⟩ := ifn h
        refine G_iaload C ks_101 hc23 dX12_pays_41 ?_
        refine G_icmp_gt (tgt := 69) C rfl dX12_pays_42 (fun hc24 => ?_) (fun hc24 => ?_)
        · replace h := (if_pos hc24).symm.trans h
          refine G_iinc (v := 1) (L' := [(3, .int (x3 + (1 : Int32))), (0, .ref 81), (1, .int x1), (2, .int x2)]) C 3 rfl rfl (Nat.le_of_ble_eq_true rfl) rfl dX12_pays_69 ?_
          refine G_goto (tgt := 2) C rfl dX12_pays_72 ?_
          refine G_sub [1, 2, 3, 0] rfl ?_
          exact hf2 _ _ _ _ h
        · replace h := (if_neg hc24).symm.trans h
          refine G_aload_n C 0 rfl rfl dX12_pays_45 ?_
          refine G_iload_n C 3 rfl rfl dX12_pays_46 ?_
          refine G_aload_n C 0 rfl rfl dX12_pays_47 ?_
          refine G_getI C fl_X12_398_11 (Or.inl rfl) ko_81 dX12_pays_48 ?_
          obtain ⟨v25, hv25, h⟩ := bnd h
          refine G_callI (run_V C [.int x3, .int (sI σ 81 72)] [] (dX12_isKnown hv25) ml_X12_isKnown mv_X12_isKnown lk_X12_260 ⟨(Nat.le_of_ble_eq_true rfl), (Nat.le_of_ble_eq_true rfl)⟩ ⟨(Nat.le_of_ble_eq_true rfl), (Nat.le_of_ble_eq_true rfl)⟩ vq_11 rfl ko_81 rfl (Nat.le_of_ble_eq_true rfl) dX12_pays_51) ?_
          refine G_if_eq (tgt := 69) C rfl dX12_pays_54 (fun hc26 => ?_) (fun hc26 => ?_)
          · replace h := (if_pos hc26).symm.trans h
            refine G_iinc (v := 1) (L' := [(3, .int (x3 + (1 : Int32))), (0, .ref 81), (1, .int x1), (2, .int x2)]) C 3 rfl rfl (Nat.le_of_ble_eq_true rfl) rfl dX12_pays_69 ?_
            refine G_goto (tgt := 2) C rfl dX12_pays_72 ?_
            refine G_sub [1, 2, 3, 0] rfl ?_
            exact hf2 _ _ _ _ h
          · replace h := (if_neg hc26).symm.trans h
            refine G_aload_n C 0 rfl rfl dX12_pays_57 ?_
            refine G_getF C fl_X12_186_11 rfl rfl fn_81_93 dX12_pays_58 ?_
            refine G_iload_n C 2 rfl rfl dX12_pays_61 ?_
            refine G_aload_n C 0 rfl rfl dX12_pays_62 ?_
            refine G_getF C fl_X12_65_11 rfl rfl fn_81_27 dX12_pays_63 ?_
            refine G_iload_n C 3 rfl rfl dX12_pays_66 ?_
            refine G_iaload C ks_100 hc20 dX12_pays_67 ?_
            obtain ⟨hc27, h⟩ := ifn h
            obtain ⟨σ28, hs28, h⟩ := stp_elim h
            refine G_iastore C ks_139 hc27 dX12_pays_68 ?_
            rw [← hs28]
            refine G_iinc (v := 1) (L' := [(3, .int (x3 + (1 : Int32))), (0, .ref 81), (1, .int x1), (2, .int x2)]) C 3 rfl rfl (Nat.le_of_ble_eq_true rfl) rfl dX12_pays_69 ?_
            refine G_goto (tgt := 2) C rfl dX12_pays_72 ?_
            refine G_sub [1, 2, 3, 0] rfl ?_
            exact hf2 _ _ _ _ h
set_option maxRecDepth 100000 in
set_option maxHeartbeats 4000000 in
theorem eX12_pays_2 (C : Cx E p s m args meth c cX12_pays 5 RX12) (hr : meth.sig.returnType = none) {σ0 : Sto} {r2 : Sto} {σ : Sto} {n : Nat} {x1 : Int32} {x2 : Int32} {x3 : Int32} (h : mX12_pays_2 n x1 x2 x3 σ = some r2) : G p l e (rmd 2 0 0) s m args below meth c E true (sZ σ0) ad0 (MQ below (QV E true σ0 r2 ad0) args s 0 0 (AE E)) 5 0 0 σ 2 [(0, .ref 81), (1, .int x1), (2, .int x2), (3, .int x3)] [] := by
  induction n generalizing x1 x2 x3 σ with
  | zero => exact nomatch (show (none : Option Sto) = some r2 from h)
  | succ n ih => exact eX12_pays_2B C hr (fun z0 z1 z2 σ9 h9 => ih h9) h
set_option maxRecDepth 100000 in
set_option maxHeartbeats 4000000 in
theorem dX12_pays {σ : Sto} {p0 : Int32} {p1 : Int32} {r2 : Sto} (h : mX12_pays p0 p1 σ = some r2) : MM l yX12_pays cX12_pays 5 none 2 0 0 E true σ [.ref 81, .int p0, .int p1] (QV E true σ r2) := by
  unfold mX12_pays at h
  refine MM_of (by decide) (Nat.le_of_ble_eq_true rfl) rfl (fun p e s m args below meth c ad0 C hr hn => ?_)
  refine G_iconst C (v := 0) rfl dX12_pays_0 ?_
  refine G_istore_n (L' := [(3, .int (0 : Int32)), (0, .ref 81), (1, .int p0), (2, .int p1)]) C rfl (Nat.le_of_ble_eq_true rfl) rfl dX12_pays_1 ?_
  refine G_sub [1, 2, 3, 0] rfl ?_
  exact eX12_pays_2 C hr h
set_option maxRecDepth 100000 in
set_option maxHeartbeats 4000000 in
theorem eX12_sells_217B (C : Cx E p s m args meth c cX12_sells 3 RX12) (hr : meth.sig.returnType = none) {σ0 : Sto} {r2 : Sto} {σ : Sto} {f217 : Int32 → Int32 → Sto → Option Sto} {x1 : Int32} {x2 : Int32} (hf217 : ∀ (x1 : Int32) (x2 : Int32) (σ' : Sto), f217 x1 x2 σ' = some r2 → G p l e (rmd 4 0 0) s m args below meth c E true (sZ σ0) ad0 (MQ below (QV E true σ0 r2 ad0) args s 0 0 (AE E)) 3 0 0 σ' 217 [(0, .ref 81), (1, .int x1), (2, .int x2)] []) (h : mX12_sells_217B f217 x1 x2 σ = some r2) : G p l e (rmd 4 0 0) s m args below meth c E true (sZ σ0) ad0 (MQ below (QV E true σ0 r2 ad0) args s 0 0 (AE E)) 3 0 0 σ 217 [(0, .ref 81), (1, .int x1), (2, .int x2)] [] := by
  unfold mX12_sells_217B at h
  refine G_iload_n C 2 rfl rfl dX12_sells_217 ?_
  refine G_aload_n C 0 rfl rfl dX12_sells_218 ?_
  refine G_getI C fl_X12_218_11 (Or.inl rfl) ko_81 dX12_sells_219 ?_
  refine G_icmp_ge (tgt := 246) C rfl dX12_sells_222 (fun hc20 => ?_) (fun hc20 => ?_)
  · replace h := (if_pos hc20).symm.trans h
    obtain rfl := Option.some.inj h
    exact G_vret C hr (Nat.le_of_ble_eq_true rfl) (Nat.le_of_ble_eq_true rfl) dX12_sells_246
  · replace h := (if_neg hc20).symm.trans h
    refine G_aload_n C 0 rfl rfl dX12_sells_225 ?_
    refine G_getF C fl_X12_180_11 rfl rfl fn_81_91 dX12_sells_226 ?_
    refine G_iload_n C 2 rfl rfl dX12_sells_229 ?_
    obtain ⟨hc21, h⟩ := ifn h
    refine G_iaload C ks_137 hc21 dX12_sells_230 ?_
    refine G_if_le (tgt := 240) C rfl dX12_sells_231 (fun hc22 => ?_) (fun hc22 => ?_)
    · replace h := (if_pos hc22).symm.trans h
      refine G_iinc (v := 1) (L' := [(2, .int (x2 + (1 : Int32))), (0, .ref 81), (1, .int x1)]) C 2 rfl rfl (Nat.le_of_ble_eq_true rfl) rfl dX12_sells_240 ?_
      refine G_goto (tgt := 217) C rfl dX12_sells_243 ?_
      refine G_sub [1, 2, 0] rfl ?_
      exact hf217 _ _ _ h
    · replace h := (if_neg hc22).symm.trans h
      refine G_aload_n C 0 rfl rfl dX12_sells_234 ?_
      refine G_iload_n C 1 rfl rfl dX12_sells_235 ?_
      refine G_iload_n C 2 rfl rfl dX12_sells_236 ?_
      obtain ⟨σ23, hv23, h⟩ := bnd h
      refine G_callV (run_V C [.int x1, .int x2] [] (dX12_pays hv23) ml_X12_pays mv_X12_pays lk_X12_462 ⟨(Nat.le_of_ble_eq_true rfl), (Nat.le_of_ble_eq_true rfl)⟩ ⟨(Nat.le_of_ble_eq_true rfl), (Nat.le_of_ble_eq_true rfl)⟩ vq_11 rfl ko_81 rfl (Nat.le_of_ble_eq_true rfl) dX12_sells_237) ?_
      refine G_iinc (v := 1) (L' := [(2, .int (x2 + (1 : Int32))), (0, .ref 81), (1, .int x1)]) C 2 rfl rfl (Nat.le_of_ble_eq_true rfl) rfl dX12_sells_240 ?_
      refine G_goto (tgt := 217) C rfl dX12_sells_243 ?_
      refine G_sub [1, 2, 0] rfl ?_
      exact hf217 _ _ _ h
set_option maxRecDepth 100000 in
set_option maxHeartbeats 4000000 in
theorem eX12_sells_217 (C : Cx E p s m args meth c cX12_sells 3 RX12) (hr : meth.sig.returnType = none) {σ0 : Sto} {r2 : Sto} {σ : Sto} {n : Nat} {x1 : Int32} {x2 : Int32} (h : mX12_sells_217 n x1 x2 σ = some r2) : G p l e (rmd 4 0 0) s m args below meth c E true (sZ σ0) ad0 (MQ below (QV E true σ0 r2 ad0) args s 0 0 (AE E)) 3 0 0 σ 217 [(0, .ref 81), (1, .int x1), (2, .int x2)] [] := by
  induction n generalizing x1 x2 σ with
  | zero => exact nomatch (show (none : Option Sto) = some r2 from h)
  | succ n ih => exact eX12_sells_217B C hr (fun z0 z1 σ9 h9 => ih h9) h
set_option maxRecDepth 100000 in
set_option maxHeartbeats 4000000 in
theorem eX12_sells_145B (C : Cx E p s m args meth c cX12_sells 3 RX12) (hr : meth.sig.returnType = none) {σ0 : Sto} {r2 : Sto} {σ : Sto} {f145 : Int32 → Int32 → Sto → Option Sto} {x1 : Int32} {x2 : Int32} (hf145 : ∀ (x1 : Int32) (x2 : Int32) (σ' : Sto), f145 x1 x2 σ' = some r2 → G p l e (rmd 4 0 0) s m args below meth c E true (sZ σ0) ad0 (MQ below (QV E true σ0 r2 ad0) args s 0 0 (AE E)) 3 0 0 σ' 145 [(0, .ref 81), (1, .int x1), (2, .int x2)] []) (h : mX12_sells_145B f145 x1 x2 σ = some r2) : G p l e (rmd 4 0 0) s m args below meth c E true (sZ σ0) ad0 (MQ below (QV E true σ0 r2 ad0) args s 0 0 (AE E)) 3 0 0 σ 145 [(0, .ref 81), (1, .int x1), (2, .int x2)] [] := by
  unfold mX12_sells_145B at h
  refine G_iload_n C 2 rfl rfl dX12_sells_145 ?_
  refine G_bipush C (v := 30) rfl dX12_sells_146 ?_
  refine G_icmp_ge (tgt := 192) C rfl dX12_sells_148 (fun hc15 => ?_) (fun hc15 => ?_)
  · replace h := (if_pos hc15).symm.trans h
    refine G_aload_n C 0 rfl rfl dX12_sells_192 ?_
    refine G_getI C fl_X12_442_11 (Or.inl rfl) ko_81 dX12_sells_193 ?_
    refine G_if_ne (tgt := 200) C rfl dX12_sells_196 (fun hc16 => ?_) (fun hc16 => ?_)
    · replace h := (if_neg hc16).symm.trans h
      refine G_aload_n C 0 rfl rfl dX12_sells_200 ?_
      refine G_iload_n C 1 rfl rfl dX12_sells_201 ?_
      obtain ⟨σ17, hv17, h⟩ := bnd h
      refine G_callV (run_V C [.int x1] [] (dX12_shares hv17) ml_X12_shares mv_X12_shares lk_X12_456 ⟨(Nat.le_of_ble_eq_true rfl), (Nat.le_of_ble_eq_true rfl)⟩ ⟨(Nat.le_of_ble_eq_true rfl), (Nat.le_of_ble_eq_true rfl)⟩ vq_11 rfl ko_81 rfl (Nat.le_of_ble_eq_true rfl) dX12_sells_202) ?_
      refine G_aload_n C 0 rfl rfl dX12_sells_205 ?_
      refine G_aload_n C 0 rfl rfl dX12_sells_206 ?_
      refine G_getF C fl_X12_68_11 rfl rfl fn_81_28 dX12_sells_207 ?_
      refine G_iload_n C 1 rfl rfl dX12_sells_210 ?_
      obtain ⟨hc18, h⟩ := ifn h
      refine G_iaload C ks_101 hc18 dX12_sells_211 ?_
      obtain ⟨σ19, hv19, h⟩ := bnd h
      refine G_callV (run_V C [.int (sI σ17 101 (x1).toNatClampNeg)] [] (dX12_passes hv19) ml_X12_passes mv_X12_passes lk_X12_459 ⟨(Nat.le_of_ble_eq_true rfl), (Nat.le_of_ble_eq_true rfl)⟩ ⟨(Nat.le_of_ble_eq_true rfl), (Nat.le_of_ble_eq_true rfl)⟩ vq_11 rfl ko_81 rfl (Nat.le_of_ble_eq_true rfl) dX12_sells_212) ?_
      refine G_iconst C (v := 0) rfl dX12_sells_215 ?_
      refine G_istore_n (L' := [(2, .int (0 : Int32)), (0, .ref 81), (1, .int x1)]) C rfl (Nat.le_of_ble_eq_true rfl) rfl dX12_sells_216 ?_
      refine G_sub [1, 2, 0] rfl ?_
      exact eX12_sells_217 C hr h
    · replace h := (if_pos hc16).symm.trans h
      obtain rfl := Option.some.inj h
      exact G_vret C hr (Nat.le_of_ble_eq_true rfl) (Nat.le_of_ble_eq_true rfl) dX12_sells_199
  · replace h := (if_neg hc15).symm.trans h
    refine G_aload_n C 0 rfl rfl dX12_sells_151 ?_
    refine G_getF C fl_X12_174_11 rfl rfl fn_81_89 dX12_sells_152 ?_
    refine G_iload_n C 2 rfl rfl dX12_sells_155 ?_
    refine G_iconst C (v := 0) rfl dX12_sells_156 ?_
    obtain ⟨hc24, h⟩ := ifn h
    obtain ⟨σ25, hs25, h⟩ := stp_elim h
    refine G_iastore C ks_135 hc24 dX12_sells_157 ?_
    rw [← hs25]
    refine G_aload_n C 0 rfl rfl dX12_sells_158 ?_
    refine G_getF C fl_X12_177_11 rfl rfl fn_81_90 dX12_sells_159 ?_
    refine G_iload_n C 2 rfl rfl dX12_sells_162 ?_
    refine G_iconst C (v := 0) rfl dX12_sells_163 ?_
    obtain ⟨σ26, hs26, h⟩ := stp_elim h
    refine G_iastore C ks_136 hc24 dX12_sells_164 ?_
    rw [← hs26]
    refine G_aload_n C 0 rfl rfl dX12_sells_165 ?_
    refine G_getF C fl_X12_180_11 rfl rfl fn_81_91 dX12_sells_166 ?_
    refine G_iload_n C 2 rfl rfl dX12_sells_169 ?_
    refine G_iconst C (v := 0) rfl dX12_sells_170 ?_
    obtain ⟨σ27, hs27, h⟩ := stp_elim h
    refine G_iastore C ks_137 hc24 dX12_sells_171 ?_
    rw [← hs27]
    refine G_aload_n C 0 rfl rfl dX12_sells_172 ?_
    refine G_getF C fl_X12_183_11 rfl rfl fn_81_92 dX12_sells_173 ?_
    refine G_iload_n C 2 rfl rfl dX12_sells_176 ?_
    refine G_iconst C (v := 0) rfl dX12_sells_177 ?_
    obtain ⟨σ28, hs28, h⟩ := stp_elim h
    refine G_iastore C ks_138 hc24 dX12_sells_178 ?_
    rw [← hs28]
    refine G_aload_n C 0 rfl rfl dX12_sells_179 ?_
    refine G_getF C fl_X12_186_11 rfl rfl fn_81_93 dX12_sells_180 ?_
    refine G_iload_n C 2 rfl rfl dX12_sells_183 ?_
    refine G_iconst C (v := -1) rfl dX12_sells_184 ?_
    obtain ⟨σ29, hs29, h⟩ := stp_elim h
    refine G_iastore C ks_139 hc24 dX12_sells_185 ?_
    rw [← hs29]
    refine G_iinc (v := 1) (L' := [(2, .int (x2 + (1 : Int32))), (0, .ref 81), (1, .int x1)]) C 2 rfl rfl (Nat.le_of_ble_eq_true rfl) rfl dX12_sells_186 ?_
    refine G_goto (tgt := 145) C rfl dX12_sells_189 ?_
    refine G_sub [1, 2, 0] rfl ?_
    exact hf145 _ _ _ h
set_option maxRecDepth 100000 in
set_option maxHeartbeats 4000000 in
theorem eX12_sells_145 (C : Cx E p s m args meth c cX12_sells 3 RX12) (hr : meth.sig.returnType = none) {σ0 : Sto} {r2 : Sto} {σ : Sto} {n : Nat} {x1 : Int32} {x2 : Int32} (h : mX12_sells_145 n x1 x2 σ = some r2) : G p l e (rmd 4 0 0) s m args below meth c E true (sZ σ0) ad0 (MQ below (QV E true σ0 r2 ad0) args s 0 0 (AE E)) 3 0 0 σ 145 [(0, .ref 81), (1, .int x1), (2, .int x2)] [] := by
  induction n generalizing x1 x2 σ with
  | zero => exact nomatch (show (none : Option Sto) = some r2 from h)
  | succ n ih => exact eX12_sells_145B C hr (fun z0 z1 σ9 h9 => ih h9) h
set_option maxRecDepth 100000 in
set_option maxHeartbeats 4000000 in
theorem eX12_sells_113B (C : Cx E p s m args meth c cX12_sells 3 RX12) (hr : meth.sig.returnType = none) {σ0 : Sto} {r2 : Sto} {σ : Sto} {f113 : Int32 → Int32 → Sto → Option Sto} {x1 : Int32} {x2 : Int32} (hf113 : ∀ (x1 : Int32) (x2 : Int32) (σ' : Sto), f113 x1 x2 σ' = some r2 → G p l e (rmd 4 0 0) s m args below meth c E true (sZ σ0) ad0 (MQ below (QV E true σ0 r2 ad0) args s 0 0 (AE E)) 3 0 0 σ' 113 [(0, .ref 81), (1, .int x1), (2, .int x2)] []) (h : mX12_sells_113B f113 x1 x2 σ = some r2) : G p l e (rmd 4 0 0) s m args below meth c E true (sZ σ0) ad0 (MQ below (QV E true σ0 r2 ad0) args s 0 0 (AE E)) 3 0 0 σ 113 [(0, .ref 81), (1, .int x1), (2, .int x2)] [] := by
  unfold mX12_sells_113B at h
  refine G_iload_n C 2 rfl rfl dX12_sells_113 ?_
  refine G_if_lt (tgt := 143) C rfl dX12_sells_114 (fun hc14 => ?_) (fun hc14 => ?_)
  · replace h := (if_pos hc14).symm.trans h
    refine G_iconst C (v := 0) rfl dX12_sells_143 ?_
    refine G_istore_n (L' := [(2, .int (0 : Int32)), (0, .ref 81), (1, .int x1)]) C rfl (Nat.le_of_ble_eq_true rfl) rfl dX12_sells_144 ?_
    refine G_sub [1, 2, 0] rfl ?_
    exact eX12_sells_145 C hr h
  · replace h := (if_neg hc14).symm.trans h
    refine G_aload_n C 0 rfl rfl dX12_sells_117 ?_
    refine G_getF C fl_X12_41_11 rfl rfl fn_81_19 dX12_sells_118 ?_
    refine G_iload_n C 2 rfl rfl dX12_sells_121 ?_
    obtain ⟨hc30, h⟩ := ifn h
    refine G_iaload C ks_92 hc30 dX12_sells_122 ?_
    refine G_aload_n C 0 rfl rfl dX12_sells_123 ?_
    refine G_getF C fl_X12_74_11 rfl rfl fn_81_30 dX12_sells_124 ?_
    refine G_iload_n C 1 rfl rfl dX12_sells_127 ?_
    obtain ⟨hc31, h⟩ := ifn h
    refine G_iaload C ks_103 hc31 dX12_sells_128 ?_
    refine G_icmp_ne (tgt := 137) C rfl dX12_sells_129 (fun hc32 => ?_) (fun hc32 => ?_)
    · replace h := (if_neg hc32).symm.trans h
      refine G_iinc (v := -1) (L' := [(2, .int (x2 + (-1 : Int32))), (0, .ref 81), (1, .int x1)]) C 2 rfl rfl (Nat.le_of_ble_eq_true rfl) rfl dX12_sells_137 ?_
      refine G_goto (tgt := 113) C rfl dX12_sells_140 ?_
      refine G_sub [1, 2, 0] rfl ?_
      exact hf113 _ _ _ h
    · replace h := (if_pos hc32).symm.trans h
      refine G_aload_n C 0 rfl rfl dX12_sells_132 ?_
      refine G_iload_n C 2 rfl rfl dX12_sells_133 ?_
      obtain ⟨σ33, hs33, h⟩ := stp_elim h
      refine G_putI C fl_X12_453_11 fp_X12_11_86 (Or.inl rfl) (Or.inl rfl) ko_81 dX12_sells_134 ?_
      rw [← hs33]
      refine G_iinc (v := -1) (L' := [(2, .int (x2 + (-1 : Int32))), (0, .ref 81), (1, .int x1)]) C 2 rfl rfl (Nat.le_of_ble_eq_true rfl) rfl dX12_sells_137 ?_
      refine G_goto (tgt := 113) C rfl dX12_sells_140 ?_
      refine G_sub [1, 2, 0] rfl ?_
      exact hf113 _ _ _ h
set_option maxRecDepth 100000 in
set_option maxHeartbeats 4000000 in
theorem eX12_sells_113 (C : Cx E p s m args meth c cX12_sells 3 RX12) (hr : meth.sig.returnType = none) {σ0 : Sto} {r2 : Sto} {σ : Sto} {n : Nat} {x1 : Int32} {x2 : Int32} (h : mX12_sells_113 n x1 x2 σ = some r2) : G p l e (rmd 4 0 0) s m args below meth c E true (sZ σ0) ad0 (MQ below (QV E true σ0 r2 ad0) args s 0 0 (AE E)) 3 0 0 σ 113 [(0, .ref 81), (1, .int x1), (2, .int x2)] [] := by
  induction n generalizing x1 x2 σ with
  | zero => exact nomatch (show (none : Option Sto) = some r2 from h)
  | succ n ih => exact eX12_sells_113B C hr (fun z0 z1 σ9 h9 => ih h9) h
set_option maxRecDepth 100000 in
set_option maxHeartbeats 4000000 in
theorem eX12_sells_93 (C : Cx E p s m args meth c cX12_sells 3 RX12) (hr : meth.sig.returnType = none) {σ0 : Sto} {r2 : Sto} {σ : Sto} {x1 : Int32} {y1 : Int32} (h : mX12_sells_93 x1 y1 σ = some r2) : G p l e (rmd 4 0 0) s m args below meth c E true (sZ σ0) ad0 (MQ below (QV E true σ0 r2 ad0) args s 0 0 (AE E)) 3 0 0 σ 93 [(0, .ref 81), (1, .int x1)] [.int y1, .ref 81] := by
  unfold mX12_sells_93 at h
  obtain ⟨σ11, hs11, h⟩ := stp_elim h
  refine G_putI C fl_X12_448_11 fp_X12_11_84 (Or.inl rfl) (Or.inl rfl) ko_81 dX12_sells_93 ?_
  rw [← hs11]
  refine G_aload_n C 0 rfl rfl dX12_sells_96 ?_
  refine G_iconst C (v := 0) rfl dX12_sells_97 ?_
  obtain ⟨σ12, hs12, h⟩ := stp_elim h
  refine G_putI C fl_X12_450_11 fp_X12_11_85 (Or.inl rfl) (Or.inl rfl) ko_81 dX12_sells_98 ?_
  rw [← hs12]
  refine G_aload_n C 0 rfl rfl dX12_sells_101 ?_
  refine G_iconst C (v := -1) rfl dX12_sells_102 ?_
  obtain ⟨σ13, hs13, h⟩ := stp_elim h
  refine G_putI C fl_X12_453_11 fp_X12_11_86 (Or.inl rfl) (Or.inl rfl) ko_81 dX12_sells_103 ?_
  rw [← hs13]
  refine G_aload_n C 0 rfl rfl dX12_sells_106 ?_
  refine G_getI C fl_X12_224_11 (Or.inl rfl) ko_81 dX12_sells_107 ?_
  refine G_iconst C (v := 1) rfl dX12_sells_110 ?_
  refine G_isub C dX12_sells_111 ?_
  refine G_istore_n (L' := [(2, .int ((sI σ13 81 5) - (1 : Int32))), (0, .ref 81), (1, .int x1)]) C rfl (Nat.le_of_ble_eq_true rfl) rfl dX12_sells_112 ?_
  refine G_sub [1, 2, 0] rfl ?_
  exact eX12_sells_113 C hr h
set_option maxRecDepth 100000 in
set_option maxHeartbeats 4000000 in
theorem eX12_sells_73 (C : Cx E p s m args meth c cX12_sells 3 RX12) (hr : meth.sig.returnType = none) {σ0 : Sto} {r2 : Sto} {σ : Sto} {x1 : Int32} {y1 : Int32} (h : mX12_sells_73 x1 y1 σ = some r2) : G p l e (rmd 4 0 0) s m args below meth c E true (sZ σ0) ad0 (MQ below (QV E true σ0 r2 ad0) args s 0 0 (AE E)) 3 0 0 σ 73 [(0, .ref 81), (1, .int x1)] [.int y1, .ref 81] := by
  unfold mX12_sells_73 at h
  obtain ⟨σ9, hs9, h⟩ := stp_elim h
  refine G_putI C fl_X12_442_11 fp_X12_11_83 (Or.inl rfl) (Or.inl rfl) ko_81 dX12_sells_73 ?_
  rw [← hs9]
  refine G_aload_n C 0 rfl rfl dX12_sells_76 ?_
  refine G_aload_n C 0 rfl rfl dX12_sells_77 ?_
  refine G_getI C fl_X12_442_11 (Or.inl rfl) ko_81 dX12_sells_78 ?_
  refine G_iconst C (v := 1) rfl dX12_sells_81 ?_
  refine G_icmp_ne (tgt := 92) C rfl dX12_sells_82 (fun hc10 => ?_) (fun hc10 => ?_)
  · replace h := (if_neg hc10).symm.trans h
    refine G_iconst C (v := 0) rfl dX12_sells_92 ?_
    exact eX12_sells_93 C hr h
  · replace h := (if_pos hc10).symm.trans h
    refine G_aload_n C 0 rfl rfl dX12_sells_85 ?_
    obtain ⟨v34, hv34, h⟩ := bnd h
    refine G_callI (run_V C [] [.ref 81] (dX12_partOf hv34) ml_X12_partOf mv_X12_partOf lk_X12_445 ⟨(Nat.le_of_ble_eq_true rfl), (Nat.le_of_ble_eq_true rfl)⟩ ⟨(Nat.le_of_ble_eq_true rfl), (Nat.le_of_ble_eq_true rfl)⟩ vq_11 rfl ko_81 rfl (Nat.le_of_ble_eq_true rfl) dX12_sells_86) ?_
    refine G_goto (tgt := 93) C rfl dX12_sells_89 ?_
    exact eX12_sells_93 C hr h
set_option maxRecDepth 100000 in
set_option maxHeartbeats 4000000 in
theorem dX12_sells {σ : Sto} {p0 : Int32} {r2 : Sto} (h : mX12_sells p0 σ = some r2) : MM l yX12_sells cX12_sells 3 none 4 0 0 E true σ [.ref 81, .int p0] (QV E true σ r2) := by
  unfold mX12_sells at h
  refine MM_of (by decide) (Nat.le_of_ble_eq_true rfl) rfl (fun p e s m args below meth c ad0 C hr hn => ?_)
  refine G_aload_n C 0 rfl rfl dX12_sells_0 ?_
  refine G_aload_n C 0 rfl rfl dX12_sells_1 ?_
  refine G_getF C fl_X12_77_11 rfl rfl fn_81_31 dX12_sells_2 ?_
  refine G_iload_n C 1 rfl rfl dX12_sells_5 ?_
  obtain ⟨hc1, h⟩ := ifn h
  refine G_iaload C ks_104 hc1 dX12_sells_6 ?_
  refine G_i2l C dX12_sells_7 ?_
  refine G_aload_n C 0 rfl rfl dX12_sells_8 ?_
  refine G_aload_n C 0 rfl rfl dX12_sells_9 ?_
  refine G_getF C fl_X12_74_11 rfl rfl fn_81_30 dX12_sells_10 ?_
  refine G_iload_n C 1 rfl rfl dX12_sells_13 ?_
  refine G_iaload C ks_103 hc1 dX12_sells_14 ?_
  refine G_aload_n C 0 rfl rfl dX12_sells_15 ?_
  refine G_getF C fl_X12_68_11 rfl rfl fn_81_28 dX12_sells_16 ?_
  refine G_iload_n C 1 rfl rfl dX12_sells_19 ?_
  refine G_iaload C ks_101 hc1 dX12_sells_20 ?_
  obtain ⟨v2, hv2, h⟩ := bnd h
  refine G_callI (run_V C [.int (sI σ 103 (p0).toNatClampNeg), .int (sI σ 101 (p0).toNatClampNeg)] [.long ((sI σ 104 (p0).toNatClampNeg)).toInt64, .ref 81] (dX12_rateOf hv2) ml_X12_rateOf mv_X12_rateOf lk_X12_427 ⟨(Nat.le_of_ble_eq_true rfl), (Nat.le_of_ble_eq_true rfl)⟩ ⟨(Nat.le_of_ble_eq_true rfl), (Nat.le_of_ble_eq_true rfl)⟩ vq_11 rfl ko_81 rfl (Nat.le_of_ble_eq_true rfl) dX12_sells_21) ?_
  refine G_i2l C dX12_sells_24 ?_
  refine G_lmul C dX12_sells_25 ?_
  refine G_ldc2 C kc_X12_431 dX12_sells_26 ?_
  refine G_ldiv C (by decide) dX12_sells_29 ?_
  refine G_l2i C dX12_sells_30 ?_
  obtain ⟨σ3, hs3, h⟩ := stp_elim h
  refine G_putI C fl_X12_419_11 fp_X12_11_78 (Or.inl rfl) (Or.inl rfl) ko_81 dX12_sells_31 ?_
  rw [← hs3]
  refine G_aload_n C 0 rfl rfl dX12_sells_34 ?_
  refine G_aload_n C 0 rfl rfl dX12_sells_35 ?_
  refine G_aload_n C 0 rfl rfl dX12_sells_36 ?_
  refine G_getF C fl_X12_74_11 rfl rfl fn_81_30 dX12_sells_37 ?_
  refine G_iload_n C 1 rfl rfl dX12_sells_40 ?_
  refine G_iaload C ks_103 hc1 dX12_sells_41 ?_
  refine G_aload_n C 0 rfl rfl dX12_sells_42 ?_
  refine G_getF C fl_X12_68_11 rfl rfl fn_81_28 dX12_sells_43 ?_
  refine G_iload_n C 1 rfl rfl dX12_sells_46 ?_
  refine G_iaload C ks_101 hc1 dX12_sells_47 ?_
  obtain ⟨v4, hv4, h⟩ := bnd h
  refine G_callI (run_V C [.int (sI σ3 103 (p0).toNatClampNeg), .int (sI σ3 101 (p0).toNatClampNeg)] [.ref 81] (dX12_lawOf hv4) ml_X12_lawOf mv_X12_lawOf lk_X12_433 ⟨(Nat.le_of_ble_eq_true rfl), (Nat.le_of_ble_eq_true rfl)⟩ ⟨(Nat.le_of_ble_eq_true rfl), (Nat.le_of_ble_eq_true rfl)⟩ vq_11 rfl ko_81 rfl (Nat.le_of_ble_eq_true rfl) dX12_sells_48) ?_
  obtain ⟨σ5, hs5, h⟩ := stp_elim h
  refine G_putI C fl_X12_416_11 fp_X12_11_79 (Or.inl rfl) (Or.inl rfl) ko_81 dX12_sells_51 ?_
  rw [← hs5]
  refine G_aload_n C 0 rfl rfl dX12_sells_54 ?_
  refine G_iload_n C 1 rfl rfl dX12_sells_55 ?_
  obtain ⟨σ6, hv6, h⟩ := bnd h
  refine G_callV (run_V C [.int p0] [] (dX12_looksBack hv6) ml_X12_looksBack mv_X12_looksBack lk_X12_436 ⟨(Nat.le_of_ble_eq_true rfl), (Nat.le_of_ble_eq_true rfl)⟩ ⟨(Nat.le_of_ble_eq_true rfl), (Nat.le_of_ble_eq_true rfl)⟩ vq_11 rfl ko_81 rfl (Nat.le_of_ble_eq_true rfl) dX12_sells_56) ?_
  refine G_aload_n C 0 rfl rfl dX12_sells_59 ?_
  refine G_aload_n C 0 rfl rfl dX12_sells_60 ?_
  refine G_iload_n C 1 rfl rfl dX12_sells_61 ?_
  obtain ⟨v7, σ7, hv7, h⟩ := bd2_elim h
  refine G_callI (run_V C [.int p0] [.ref 81] (dX12_isCounting hv7) ml_X12_isCounting mv_X12_isCounting lk_X12_439 ⟨(Nat.le_of_ble_eq_true rfl), (Nat.le_of_ble_eq_true rfl)⟩ ⟨(Nat.le_of_ble_eq_true rfl), (Nat.le_of_ble_eq_true rfl)⟩ vq_11 rfl ko_81 rfl (Nat.le_of_ble_eq_true rfl) dX12_sells_62) ?_
  refine G_if_eq (tgt := 72) C rfl dX12_sells_65 (fun hc8 => ?_) (fun hc8 => ?_)
  · replace h := (if_pos hc8).symm.trans h
    refine G_iconst C (v := 0) rfl dX12_sells_72 ?_
    exact eX12_sells_73 C hr h
  · replace h := (if_neg hc8).symm.trans h
    refine G_iconst C (v := 1) rfl dX12_sells_68 ?_
    refine G_goto (tgt := 73) C rfl dX12_sells_69 ?_
    exact eX12_sells_73 C hr h
set_option maxRecDepth 100000 in
set_option maxHeartbeats 4000000 in
theorem eX12_isEvening_18 (C : Cx E p s m args meth c cX12_isEvening 2 RX12) (hr : meth.sig.returnType = (some .boolean)) {σ0 : Sto} {r1 : Int32} {r2 : Sto} {σ : Sto} {y1 : Int32} (h : mX12_isEvening_18 y1 σ = some (r1, r2)) : G p l e (rmd 2 0 0) s m args below meth c E true (sZ σ0) ad0 (MQ below (QI E true σ0 r1 r2 ad0) args s 0 0 (AE E)) 2 0 0 σ 18 [] [.int y1, .ref 81] := by
  unfold mX12_isEvening_18 at h
  refine G_iconst C (v := 2) rfl dX12_isEvening_18 ?_
  obtain ⟨v2, σ2, hv2, h⟩ := bd2_elim h
  refine G_callI (run_V C [.int y1, .int (2 : Int32)] [] (dX12_right hv2) ml_X12_right mv_X12_right lk_X12_214 ⟨(Nat.le_of_ble_eq_true rfl), (Nat.le_of_ble_eq_true rfl)⟩ ⟨(Nat.le_of_ble_eq_true rfl), (Nat.le_of_ble_eq_true rfl)⟩ vq_11 rfl ko_81 rfl (Nat.le_of_ble_eq_true rfl) dX12_isEvening_19) ?_
  obtain ⟨hc3, h⟩ := ifn h
  obtain ⟨rfl, rfl⟩ := some2 h
  exact G_zret C hc3 hr (Nat.le_of_ble_eq_true rfl) (Nat.le_of_ble_eq_true rfl) dX12_isEvening_22
set_option maxRecDepth 100000 in
set_option maxHeartbeats 4000000 in
theorem eX12_isEvening_17 (C : Cx E p s m args meth c cX12_isEvening 2 RX12) (hr : meth.sig.returnType = (some .boolean)) {σ0 : Sto} {r1 : Int32} {r2 : Sto} {σ : Sto} (h : mX12_isEvening_17 σ = some (r1, r2)) : G p l e (rmd 2 0 0) s m args below meth c E true (sZ σ0) ad0 (MQ below (QI E true σ0 r1 r2 ad0) args s 0 0 (AE E)) 2 0 0 σ 17 [] [.ref 81] := by
  unfold mX12_isEvening_17 at h
  refine G_iconst C (v := 0) rfl dX12_isEvening_17 ?_
  exact eX12_isEvening_18 C hr h
set_option maxRecDepth 100000 in
set_option maxHeartbeats 4000000 in
theorem dX12_isEvening {σ : Sto} {p0 : Int32} {r1 : Int32} {r2 : Sto} (h : mX12_isEvening p0 σ = some (r1, r2)) : MM l yX12_isEvening cX12_isEvening 2 (some .boolean) 2 0 0 E true σ [.ref 81, .int p0] (QI E true σ r1 r2) := by
  unfold mX12_isEvening at h
  refine MM_of (by decide) (Nat.le_of_ble_eq_true rfl) rfl (fun p e s m args below meth c ad0 C hr hn => ?_)
  refine G_aload_n C 0 rfl rfl dX12_isEvening_0 ?_
  refine G_iload_n C 1 rfl rfl dX12_isEvening_1 ?_
  refine G_if_lt (tgt := 17) C rfl dX12_isEvening_2 (fun hc1 => ?_) (fun hc1 => ?_)
  · replace h := (if_pos hc1).symm.trans h
    refine G_sub [] rfl ?_
    exact eX12_isEvening_17 C hr h
  · replace h := (if_neg hc1).symm.trans h
    refine G_iload_n C 1 rfl rfl dX12_isEvening_5 ?_
    refine G_aload_n C 0 rfl rfl dX12_isEvening_6 ?_
    refine G_getI C fl_X12_250_11 (Or.inl rfl) ko_81 dX12_isEvening_7 ?_
    refine G_icmp_gt (tgt := 17) C rfl dX12_isEvening_10 (fun hc4 => ?_) (fun hc4 => ?_)
    · replace h := (if_pos hc4).symm.trans h
      refine G_sub [] rfl ?_
      exact eX12_isEvening_17 C hr h
    · replace h := (if_neg hc4).symm.trans h
      refine G_iconst C (v := 1) rfl dX12_isEvening_13 ?_
      refine G_goto (tgt := 18) C rfl dX12_isEvening_14 ?_
      refine G_sub [] rfl ?_
      exact eX12_isEvening_18 C hr h
set_option maxRecDepth 100000 in
set_option maxHeartbeats 4000000 in
theorem eX12_sold_29 (C : Cx E p s m args meth c cX12_sold 4 RX12) (hr : meth.sig.returnType = (some .int)) {σ0 : Sto} {r1 : Int32} {r2 : Sto} {σ : Sto} {x1 : Int32} {x2 : Int32} {x3 : Int32} {y1 : Int32} (h : mX12_sold_29 x1 x2 x3 y1 σ = some (r1, r2)) : G p l e (rmd 5 0 0) s m args below meth c E true (sZ σ0) ad0 (MQ below (QI E true σ0 r1 r2 ad0) args s 0 0 (AE E)) 4 0 0 σ 29 [(0, .ref 81), (1, .int x1), (2, .int x2), (3, .int x3)] [.int y1, .ref 81] := by
  unfold mX12_sold_29 at h
  refine G_iconst C (v := 1) rfl dX12_sold_29 ?_
  obtain ⟨v5, σ5, hv5, h⟩ := bd2_elim h
  refine G_callI (run_V C [.int y1, .int (1 : Int32)] [] (dX12_right hv5) ml_X12_right mv_X12_right lk_X12_214 ⟨(Nat.le_of_ble_eq_true rfl), (Nat.le_of_ble_eq_true rfl)⟩ ⟨(Nat.le_of_ble_eq_true rfl), (Nat.le_of_ble_eq_true rfl)⟩ vq_11 rfl ko_81 rfl (Nat.le_of_ble_eq_true rfl) dX12_sold_30) ?_
  refine G_if_eq (tgt := 44) C rfl dX12_sold_33 (fun hc6 => ?_) (fun hc6 => ?_)
  · replace h := (if_pos hc6).symm.trans h
    refine G_iconst C (v := 0) rfl dX12_sold_44 ?_
    obtain ⟨rfl, rfl⟩ := some2 h
    exact G_iret C hr (Nat.le_of_ble_eq_true rfl) (Nat.le_of_ble_eq_true rfl) dX12_sold_45
  · replace h := (if_neg hc6).symm.trans h
    refine G_aload_n C 0 rfl rfl dX12_sold_36 ?_
    refine G_iload_n C 3 rfl rfl dX12_sold_37 ?_
    obtain ⟨v7, σ7, hv7, h⟩ := bd2_elim h
    refine G_callI (run_V C [.int x3] [] (dX12_isEvening hv7) ml_X12_isEvening mv_X12_isEvening lk_X12_471 ⟨(Nat.le_of_ble_eq_true rfl), (Nat.le_of_ble_eq_true rfl)⟩ ⟨(Nat.le_of_ble_eq_true rfl), (Nat.le_of_ble_eq_true rfl)⟩ vq_11 rfl ko_81 rfl (Nat.le_of_ble_eq_true rfl) dX12_sold_38) ?_
    refine G_if_ne (tgt := 46) C rfl dX12_sold_41 (fun hc8 => ?_) (fun hc8 => ?_)
    · replace h := (if_neg hc8).symm.trans h
      refine G_aload_n C 0 rfl rfl dX12_sold_46 ?_
      refine G_iload_n C 1 rfl rfl dX12_sold_47 ?_
      refine G_iload_n C 3 rfl rfl dX12_sold_48 ?_
      obtain ⟨v9, hv9, h⟩ := bnd h
      refine G_callI (run_V C [.int x1, .int x3] [] (dX12_isKnown hv9) ml_X12_isKnown mv_X12_isKnown lk_X12_260 ⟨(Nat.le_of_ble_eq_true rfl), (Nat.le_of_ble_eq_true rfl)⟩ ⟨(Nat.le_of_ble_eq_true rfl), (Nat.le_of_ble_eq_true rfl)⟩ vq_11 rfl ko_81 rfl (Nat.le_of_ble_eq_true rfl) dX12_sold_49) ?_
      refine G_if_ne (tgt := 57) C rfl dX12_sold_52 (fun hc10 => ?_) (fun hc10 => ?_)
      · replace h := (if_neg hc10).symm.trans h
        refine G_aload_n C 0 rfl rfl dX12_sold_57 ?_
        refine G_iload_n C 3 rfl rfl dX12_sold_58 ?_
        obtain ⟨σ11, hv11, h⟩ := bnd h
        refine G_callV (run_V C [.int x3] [] (dX12_gathers hv11) ml_X12_gathers mv_X12_gathers lk_X12_474 ⟨(Nat.le_of_ble_eq_true rfl), (Nat.le_of_ble_eq_true rfl)⟩ ⟨(Nat.le_of_ble_eq_true rfl), (Nat.le_of_ble_eq_true rfl)⟩ vq_11 rfl ko_81 rfl (Nat.le_of_ble_eq_true rfl) dX12_sold_59) ?_
        refine G_aload_n C 0 rfl rfl dX12_sold_62 ?_
        refine G_iload_n C 1 rfl rfl dX12_sold_63 ?_
        obtain ⟨σ12, hv12, h⟩ := bnd h
        refine G_callV (run_V C [.int x1] [] (dX12_sells hv12) ml_X12_sells mv_X12_sells lk_X12_477 ⟨(Nat.le_of_ble_eq_true rfl), (Nat.le_of_ble_eq_true rfl)⟩ ⟨(Nat.le_of_ble_eq_true rfl), (Nat.le_of_ble_eq_true rfl)⟩ vq_11 rfl ko_81 rfl (Nat.le_of_ble_eq_true rfl) dX12_sold_64) ?_
        refine G_iload_n C 2 rfl rfl dX12_sold_67 ?_
        by_cases hc13 : x2 = (0 : Int32)
        · replace h := (if_pos hc13).symm.trans h
          refine G_tswIn (tgt := 112) C (0) 0 hc13 (by decide) (by decide) (by decide) rfl rfl dX12_sold_68 ?_
          refine G_aload_n C 0 rfl rfl dX12_sold_112 ?_
          refine G_getI C fl_X12_419_11 (Or.inl rfl) ko_81 dX12_sold_113 ?_
          obtain ⟨rfl, rfl⟩ := some2 h
          exact G_iret C hr (Nat.le_of_ble_eq_true rfl) (Nat.le_of_ble_eq_true rfl) dX12_sold_116
        replace h := (if_neg hc13).symm.trans h
        by_cases hc14 : x2 = (1 : Int32)
        · replace h := (if_pos hc14).symm.trans h
          refine G_tswIn (tgt := 117) C (1) 1 hc14 (by decide) (by decide) (by decide) rfl rfl dX12_sold_68 ?_
          refine G_aload_n C 0 rfl rfl dX12_sold_117 ?_
          refine G_getI C fl_X12_442_11 (Or.inl rfl) ko_81 dX12_sold_118 ?_
          obtain ⟨rfl, rfl⟩ := some2 h
          exact G_iret C hr (Nat.le_of_ble_eq_true rfl) (Nat.le_of_ble_eq_true rfl) dX12_sold_121
        replace h := (if_neg hc14).symm.trans h
        by_cases hc15 : x2 = (2 : Int32)
        · replace h := (if_pos hc15).symm.trans h
          refine G_tswIn (tgt := 122) C (2) 2 hc15 (by decide) (by decide) (by decide) rfl rfl dX12_sold_68 ?_
          refine G_aload_n C 0 rfl rfl dX12_sold_122 ?_
          refine G_getI C fl_X12_448_11 (Or.inl rfl) ko_81 dX12_sold_123 ?_
          obtain ⟨rfl, rfl⟩ := some2 h
          exact G_iret C hr (Nat.le_of_ble_eq_true rfl) (Nat.le_of_ble_eq_true rfl) dX12_sold_126
        replace h := (if_neg hc15).symm.trans h
        by_cases hc16 : x2 = (3 : Int32)
        · replace h := (if_pos hc16).symm.trans h
          refine G_tswIn (tgt := 127) C (3) 3 hc16 (by decide) (by decide) (by decide) rfl rfl dX12_sold_68 ?_
          refine G_aload_n C 0 rfl rfl dX12_sold_127 ?_
          refine G_getI C fl_X12_450_11 (Or.inl rfl) ko_81 dX12_sold_128 ?_
          obtain ⟨rfl, rfl⟩ := some2 h
          exact G_iret C hr (Nat.le_of_ble_eq_true rfl) (Nat.le_of_ble_eq_true rfl) dX12_sold_131
        replace h := (if_neg hc16).symm.trans h
        by_cases hc17 : x2 = (4 : Int32)
        · replace h := (if_pos hc17).symm.trans h
          refine G_tswIn (tgt := 132) C (4) 4 hc17 (by decide) (by decide) (by decide) rfl rfl dX12_sold_68 ?_
          refine G_aload_n C 0 rfl rfl dX12_sold_132 ?_
          refine G_getI C fl_X12_453_11 (Or.inl rfl) ko_81 dX12_sold_133 ?_
          obtain ⟨rfl, rfl⟩ := some2 h
          exact G_iret C hr (Nat.le_of_ble_eq_true rfl) (Nat.le_of_ble_eq_true rfl) dX12_sold_136
        replace h := (if_neg hc17).symm.trans h
        by_cases hc18 : x2 = (5 : Int32)
        · replace h := (if_pos hc18).symm.trans h
          refine G_tswIn (tgt := 137) C (5) 5 hc18 (by decide) (by decide) (by decide) rfl rfl dX12_sold_68 ?_
          refine G_aload_n C 0 rfl rfl dX12_sold_137 ?_
          refine G_getI C fl_X12_416_11 (Or.inl rfl) ko_81 dX12_sold_138 ?_
          obtain ⟨rfl, rfl⟩ := some2 h
          exact G_iret C hr (Nat.le_of_ble_eq_true rfl) (Nat.le_of_ble_eq_true rfl) dX12_sold_141
        replace h := (if_neg hc18).symm.trans h
        by_cases hc19 : x2 = (6 : Int32)
        · replace h := (if_pos hc19).symm.trans h
          refine G_tswIn (tgt := 142) C (6) 6 hc19 (by decide) (by decide) (by decide) rfl rfl dX12_sold_68 ?_
          refine G_aload_n C 0 rfl rfl dX12_sold_142 ?_
          refine G_getI C fl_X12_408_11 (Or.inl rfl) ko_81 dX12_sold_143 ?_
          obtain ⟨rfl, rfl⟩ := some2 h
          exact G_iret C hr (Nat.le_of_ble_eq_true rfl) (Nat.le_of_ble_eq_true rfl) dX12_sold_146
        replace h := (if_neg hc19).symm.trans h
        have ht20 : ∀ j : Nat, j < 7 → x2 ≠ Int32.ofInt (0 + (j : Int)) := by
          intro j hj
          rcases (show j = 0 ∨ j = 1 ∨ j = 2 ∨ j = 3 ∨ j = 4 ∨ j = 5 ∨ j = 6 by omega) with rfl | rfl | rfl | rfl | rfl | rfl | rfl
          · exact hc13
          · exact hc14
          · exact hc15
          · exact hc16
          · exact hc17
          · exact hc18
          · exact hc19
        refine G_tswOut (tgt := 147) C 7 ht20 (by decide) (by decide) rfl dX12_sold_68 ?_
        refine G_aload_n C 0 rfl rfl dX12_sold_147 ?_
        refine G_getI C fl_X12_405_11 (Or.inl rfl) ko_81 dX12_sold_148 ?_
        obtain ⟨rfl, rfl⟩ := some2 h
        exact G_iret C hr (Nat.le_of_ble_eq_true rfl) (Nat.le_of_ble_eq_true rfl) dX12_sold_151
      · replace h := (if_pos hc10).symm.trans h
        refine G_iconst C (v := -1) rfl dX12_sold_55 ?_
        obtain ⟨rfl, rfl⟩ := some2 h
        exact G_iret C hr (Nat.le_of_ble_eq_true rfl) (Nat.le_of_ble_eq_true rfl) dX12_sold_56
    · replace h := (if_pos hc8).symm.trans h
      refine G_iconst C (v := 0) rfl dX12_sold_44 ?_
      obtain ⟨rfl, rfl⟩ := some2 h
      exact G_iret C hr (Nat.le_of_ble_eq_true rfl) (Nat.le_of_ble_eq_true rfl) dX12_sold_45
set_option maxRecDepth 100000 in
set_option maxHeartbeats 4000000 in
theorem eX12_sold_28 (C : Cx E p s m args meth c cX12_sold 4 RX12) (hr : meth.sig.returnType = (some .int)) {σ0 : Sto} {r1 : Int32} {r2 : Sto} {σ : Sto} {x1 : Int32} {x2 : Int32} {x3 : Int32} (h : mX12_sold_28 x1 x2 x3 σ = some (r1, r2)) : G p l e (rmd 5 0 0) s m args below meth c E true (sZ σ0) ad0 (MQ below (QI E true σ0 r1 r2 ad0) args s 0 0 (AE E)) 4 0 0 σ 28 [(0, .ref 81), (1, .int x1), (2, .int x2), (3, .int x3)] [.ref 81] := by
  unfold mX12_sold_28 at h
  refine G_iconst C (v := 0) rfl dX12_sold_28 ?_
  exact eX12_sold_29 C hr h
set_option maxRecDepth 100000 in
set_option maxHeartbeats 4000000 in
theorem dX12_sold {σ : Sto} {p0 : Int32} {p1 : Int32} {p2 : Int32} {r1 : Int32} {r2 : Sto} (h : mX12_sold p0 p1 p2 σ = some (r1, r2)) : MM l yX12_sold cX12_sold 4 (some .int) 5 0 0 E true σ [.ref 81, .int p0, .int p1, .int p2] (QI E true σ r1 r2) := by
  unfold mX12_sold at h
  refine MM_of (by decide) (Nat.le_of_ble_eq_true rfl) rfl (fun p e s m args below meth c ad0 C hr hn => ?_)
  refine G_aload_n C 0 rfl rfl dX12_sold_0 ?_
  refine G_iconst C (v := 0) rfl dX12_sold_1 ?_
  obtain ⟨σ1, hs1, h⟩ := stp_elim h
  refine G_putI C fl_X12_208_11 fp_X12_11_0 (Or.inl rfl) (Or.inl rfl) ko_81 dX12_sold_2 ?_
  rw [← hs1]
  refine G_aload_n C 0 rfl rfl dX12_sold_5 ?_
  refine G_iload_n C 1 rfl rfl dX12_sold_6 ?_
  obtain ⟨v2, σ2, hv2, h⟩ := bd2_elim h
  refine G_callI (run_V C [.int p0] [] (dX12_isSale hv2) ml_X12_isSale mv_X12_isSale lk_X12_270 ⟨(Nat.le_of_ble_eq_true rfl), (Nat.le_of_ble_eq_true rfl)⟩ ⟨(Nat.le_of_ble_eq_true rfl), (Nat.le_of_ble_eq_true rfl)⟩ vq_11 rfl ko_81 rfl (Nat.le_of_ble_eq_true rfl) dX12_sold_7) ?_
  refine G_if_eq (tgt := 44) C rfl dX12_sold_10 (fun hc3 => ?_) (fun hc3 => ?_)
  · replace h := (if_pos hc3).symm.trans h
    refine G_iconst C (v := 0) rfl dX12_sold_44 ?_
    obtain ⟨rfl, rfl⟩ := some2 h
    exact G_iret C hr (Nat.le_of_ble_eq_true rfl) (Nat.le_of_ble_eq_true rfl) dX12_sold_45
  · replace h := (if_neg hc3).symm.trans h
    refine G_aload_n C 0 rfl rfl dX12_sold_13 ?_
    refine G_iload_n C 2 rfl rfl dX12_sold_14 ?_
    refine G_if_lt (tgt := 28) C rfl dX12_sold_15 (fun hc4 => ?_) (fun hc4 => ?_)
    · replace h := (if_pos hc4).symm.trans h
      exact eX12_sold_28 C hr h
    · replace h := (if_neg hc4).symm.trans h
      refine G_iload_n C 2 rfl rfl dX12_sold_18 ?_
      refine G_bipush C (v := 7) rfl dX12_sold_19 ?_
      refine G_icmp_gt (tgt := 28) C rfl dX12_sold_21 (fun hc21 => ?_) (fun hc21 => ?_)
      · replace h := (if_pos hc21).symm.trans h
        exact eX12_sold_28 C hr h
      · replace h := (if_neg hc21).symm.trans h
        refine G_iconst C (v := 1) rfl dX12_sold_24 ?_
        refine G_goto (tgt := 29) C rfl dX12_sold_25 ?_
        exact eX12_sold_29 C hr h
set_option maxRecDepth 100000 in
set_option maxHeartbeats 4000000 in
theorem eX12_has_36 (C : Cx E p s m args meth c cX12_has 5 RX12) (hr : meth.sig.returnType = (some .int)) {σ0 : Sto} {r1 : Int32} {r2 : Sto} {σ : Sto} {x1 : Int32} {x2 : Int32} {x3 : Int32} {x4 : Int32} {y1 : Int32} (h : mX12_has_36 x1 x2 x3 x4 y1 σ = some (r1, r2)) : G p l e (rmd 5 0 0) s m args below meth c E true (sZ σ0) ad0 (MQ below (QI E true σ0 r1 r2 ad0) args s 0 0 (AE E)) 5 0 0 σ 36 [(0, .ref 81), (1, .int x1), (2, .int x2), (3, .int x3), (4, .int x4)] [.int y1, .ref 81] := by
  unfold mX12_has_36 at h
  refine G_iconst C (v := 1) rfl dX12_has_36 ?_
  obtain ⟨v7, σ7, hv7, h⟩ := bd2_elim h
  refine G_callI (run_V C [.int y1, .int (1 : Int32)] [] (dX12_right hv7) ml_X12_right mv_X12_right lk_X12_214 ⟨(Nat.le_of_ble_eq_true rfl), (Nat.le_of_ble_eq_true rfl)⟩ ⟨(Nat.le_of_ble_eq_true rfl), (Nat.le_of_ble_eq_true rfl)⟩ vq_11 rfl ko_81 rfl (Nat.le_of_ble_eq_true rfl) dX12_has_37) ?_
  refine G_if_eq (tgt := 52) C rfl dX12_has_40 (fun hc8 => ?_) (fun hc8 => ?_)
  · replace h := (if_pos hc8).symm.trans h
    refine G_iconst C (v := 0) rfl dX12_has_52 ?_
    obtain ⟨rfl, rfl⟩ := some2 h
    exact G_iret C hr (Nat.le_of_ble_eq_true rfl) (Nat.le_of_ble_eq_true rfl) dX12_has_53
  · replace h := (if_neg hc8).symm.trans h
    refine G_aload_n C 0 rfl rfl dX12_has_43 ?_
    refine G_iload C 4 rfl dX12_has_44 ?_
    obtain ⟨v9, σ9, hv9, h⟩ := bd2_elim h
    refine G_callI (run_V C [.int x4] [] (dX12_isEvening hv9) ml_X12_isEvening mv_X12_isEvening lk_X12_471 ⟨(Nat.le_of_ble_eq_true rfl), (Nat.le_of_ble_eq_true rfl)⟩ ⟨(Nat.le_of_ble_eq_true rfl), (Nat.le_of_ble_eq_true rfl)⟩ vq_11 rfl ko_81 rfl (Nat.le_of_ble_eq_true rfl) dX12_has_46) ?_
    refine G_if_ne (tgt := 54) C rfl dX12_has_49 (fun hc10 => ?_) (fun hc10 => ?_)
    · replace h := (if_neg hc10).symm.trans h
      refine G_aload_n C 0 rfl rfl dX12_has_54 ?_
      refine G_iload_n C 1 rfl rfl dX12_has_55 ?_
      refine G_iload C 4 rfl dX12_has_56 ?_
      obtain ⟨v11, hv11, h⟩ := bnd h
      refine G_callI (run_V C [.int x1, .int x4] [] (dX12_isKnown hv11) ml_X12_isKnown mv_X12_isKnown lk_X12_260 ⟨(Nat.le_of_ble_eq_true rfl), (Nat.le_of_ble_eq_true rfl)⟩ ⟨(Nat.le_of_ble_eq_true rfl), (Nat.le_of_ble_eq_true rfl)⟩ vq_11 rfl ko_81 rfl (Nat.le_of_ble_eq_true rfl) dX12_has_58) ?_
      refine G_if_ne (tgt := 66) C rfl dX12_has_61 (fun hc12 => ?_) (fun hc12 => ?_)
      · replace h := (if_neg hc12).symm.trans h
        refine G_aload_n C 0 rfl rfl dX12_has_66 ?_
        refine G_iload C 4 rfl dX12_has_67 ?_
        obtain ⟨σ13, hv13, h⟩ := bnd h
        refine G_callV (run_V C [.int x4] [] (dX12_gathers hv13) ml_X12_gathers mv_X12_gathers lk_X12_474 ⟨(Nat.le_of_ble_eq_true rfl), (Nat.le_of_ble_eq_true rfl)⟩ ⟨(Nat.le_of_ble_eq_true rfl), (Nat.le_of_ble_eq_true rfl)⟩ vq_11 rfl ko_81 rfl (Nat.le_of_ble_eq_true rfl) dX12_has_69) ?_
        refine G_aload_n C 0 rfl rfl dX12_has_72 ?_
        refine G_iload_n C 1 rfl rfl dX12_has_73 ?_
        obtain ⟨σ14, hv14, h⟩ := bnd h
        refine G_callV (run_V C [.int x1] [] (dX12_sells hv14) ml_X12_sells mv_X12_sells lk_X12_477 ⟨(Nat.le_of_ble_eq_true rfl), (Nat.le_of_ble_eq_true rfl)⟩ ⟨(Nat.le_of_ble_eq_true rfl), (Nat.le_of_ble_eq_true rfl)⟩ vq_11 rfl ko_81 rfl (Nat.le_of_ble_eq_true rfl) dX12_has_74) ?_
        refine G_iload_n C 3 rfl rfl dX12_has_77 ?_
        refine G_if_ne (tgt := 90) C rfl dX12_has_78 (fun hc15 => ?_) (fun hc15 => ?_)
        · replace h := (if_neg hc15).symm.trans h
          refine G_iload_n C 3 rfl rfl dX12_has_90 ?_
          refine G_iconst C (v := 1) rfl dX12_has_91 ?_
          refine G_icmp_ne (tgt := 104) C rfl dX12_has_92 (fun hc16 => ?_) (fun hc16 => ?_)
          · replace h := (if_neg hc16).symm.trans h
            refine G_iload_n C 3 rfl rfl dX12_has_104 ?_
            refine G_iconst C (v := 2) rfl dX12_has_105 ?_
            refine G_icmp_ne (tgt := 118) C rfl dX12_has_106 (fun hc17 => ?_) (fun hc17 => ?_)
            · replace h := (if_neg hc17).symm.trans h
              refine G_aload_n C 0 rfl rfl dX12_has_118 ?_
              refine G_getF C fl_X12_183_11 rfl rfl fn_81_92 dX12_has_119 ?_
              refine G_iload_n C 2 rfl rfl dX12_has_122 ?_
              obtain ⟨hc18, h⟩ := ifn h
              refine G_iaload C ks_138 hc18 dX12_has_123 ?_
              obtain ⟨rfl, rfl⟩ := some2 h
              exact G_iret C hr (Nat.le_of_ble_eq_true rfl) (Nat.le_of_ble_eq_true rfl) dX12_has_124
            · replace h := (if_pos hc17).symm.trans h
              refine G_aload_n C 0 rfl rfl dX12_has_109 ?_
              refine G_getF C fl_X12_180_11 rfl rfl fn_81_91 dX12_has_110 ?_
              refine G_iload_n C 2 rfl rfl dX12_has_113 ?_
              obtain ⟨hc19, h⟩ := ifn h
              refine G_iaload C ks_137 hc19 dX12_has_114 ?_
              refine G_goto (tgt := 124) C rfl dX12_has_115 ?_
              obtain ⟨rfl, rfl⟩ := some2 h
              exact G_iret C hr (Nat.le_of_ble_eq_true rfl) (Nat.le_of_ble_eq_true rfl) dX12_has_124
          · replace h := (if_pos hc16).symm.trans h
            refine G_aload_n C 0 rfl rfl dX12_has_95 ?_
            refine G_getF C fl_X12_177_11 rfl rfl fn_81_90 dX12_has_96 ?_
            refine G_iload_n C 2 rfl rfl dX12_has_99 ?_
            obtain ⟨hc20, h⟩ := ifn h
            refine G_iaload C ks_136 hc20 dX12_has_100 ?_
            refine G_goto (tgt := 124) C rfl dX12_has_101 ?_
            obtain ⟨rfl, rfl⟩ := some2 h
            exact G_iret C hr (Nat.le_of_ble_eq_true rfl) (Nat.le_of_ble_eq_true rfl) dX12_has_124
        · replace h := (if_pos hc15).symm.trans h
          refine G_aload_n C 0 rfl rfl dX12_has_81 ?_
          refine G_getF C fl_X12_174_11 rfl rfl fn_81_89 dX12_has_82 ?_
          refine G_iload_n C 2 rfl rfl dX12_has_85 ?_
          obtain ⟨hc21, h⟩ := ifn h
          refine G_iaload C ks_135 hc21 dX12_has_86 ?_
          refine G_goto (tgt := 124) C rfl dX12_has_87 ?_
          obtain ⟨rfl, rfl⟩ := some2 h
          exact G_iret C hr (Nat.le_of_ble_eq_true rfl) (Nat.le_of_ble_eq_true rfl) dX12_has_124
      · replace h := (if_pos hc12).symm.trans h
        refine G_iconst C (v := 0) rfl dX12_has_64 ?_
        obtain ⟨rfl, rfl⟩ := some2 h
        exact G_iret C hr (Nat.le_of_ble_eq_true rfl) (Nat.le_of_ble_eq_true rfl) dX12_has_65
    · replace h := (if_pos hc10).symm.trans h
      refine G_iconst C (v := 0) rfl dX12_has_52 ?_
      obtain ⟨rfl, rfl⟩ := some2 h
      exact G_iret C hr (Nat.le_of_ble_eq_true rfl) (Nat.le_of_ble_eq_true rfl) dX12_has_53
set_option maxRecDepth 100000 in
set_option maxHeartbeats 4000000 in
theorem eX12_has_35 (C : Cx E p s m args meth c cX12_has 5 RX12) (hr : meth.sig.returnType = (some .int)) {σ0 : Sto} {r1 : Int32} {r2 : Sto} {σ : Sto} {x1 : Int32} {x2 : Int32} {x3 : Int32} {x4 : Int32} (h : mX12_has_35 x1 x2 x3 x4 σ = some (r1, r2)) : G p l e (rmd 5 0 0) s m args below meth c E true (sZ σ0) ad0 (MQ below (QI E true σ0 r1 r2 ad0) args s 0 0 (AE E)) 5 0 0 σ 35 [(0, .ref 81), (1, .int x1), (2, .int x2), (3, .int x3), (4, .int x4)] [.ref 81] := by
  unfold mX12_has_35 at h
  refine G_iconst C (v := 0) rfl dX12_has_35 ?_
  exact eX12_has_36 C hr h
set_option maxRecDepth 100000 in
set_option maxHeartbeats 4000000 in
theorem dX12_has {σ : Sto} {p0 : Int32} {p1 : Int32} {p2 : Int32} {p3 : Int32} {r1 : Int32} {r2 : Sto} (h : mX12_has p0 p1 p2 p3 σ = some (r1, r2)) : MM l yX12_has cX12_has 5 (some .int) 5 0 0 E true σ [.ref 81, .int p0, .int p1, .int p2, .int p3] (QI E true σ r1 r2) := by
  unfold mX12_has at h
  refine MM_of (by decide) (Nat.le_of_ble_eq_true rfl) rfl (fun p e s m args below meth c ad0 C hr hn => ?_)
  refine G_aload_n C 0 rfl rfl dX12_has_0 ?_
  refine G_iconst C (v := 0) rfl dX12_has_1 ?_
  obtain ⟨σ1, hs1, h⟩ := stp_elim h
  refine G_putI C fl_X12_208_11 fp_X12_11_0 (Or.inl rfl) (Or.inl rfl) ko_81 dX12_has_2 ?_
  rw [← hs1]
  refine G_aload_n C 0 rfl rfl dX12_has_5 ?_
  refine G_iload_n C 1 rfl rfl dX12_has_6 ?_
  obtain ⟨v2, σ2, hv2, h⟩ := bd2_elim h
  refine G_callI (run_V C [.int p0] [] (dX12_isSale hv2) ml_X12_isSale mv_X12_isSale lk_X12_270 ⟨(Nat.le_of_ble_eq_true rfl), (Nat.le_of_ble_eq_true rfl)⟩ ⟨(Nat.le_of_ble_eq_true rfl), (Nat.le_of_ble_eq_true rfl)⟩ vq_11 rfl ko_81 rfl (Nat.le_of_ble_eq_true rfl) dX12_has_7) ?_
  refine G_if_eq (tgt := 52) C rfl dX12_has_10 (fun hc3 => ?_) (fun hc3 => ?_)
  · replace h := (if_pos hc3).symm.trans h
    refine G_iconst C (v := 0) rfl dX12_has_52 ?_
    obtain ⟨rfl, rfl⟩ := some2 h
    exact G_iret C hr (Nat.le_of_ble_eq_true rfl) (Nat.le_of_ble_eq_true rfl) dX12_has_53
  · replace h := (if_neg hc3).symm.trans h
    refine G_aload_n C 0 rfl rfl dX12_has_13 ?_
    refine G_iload_n C 2 rfl rfl dX12_has_14 ?_
    obtain ⟨v4, σ4, hv4, h⟩ := bd2_elim h
    refine G_callI (run_V C [.int p1] [] (dX12_isPerson hv4) ml_X12_isPerson mv_X12_isPerson lk_X12_239 ⟨(Nat.le_of_ble_eq_true rfl), (Nat.le_of_ble_eq_true rfl)⟩ ⟨(Nat.le_of_ble_eq_true rfl), (Nat.le_of_ble_eq_true rfl)⟩ vq_11 rfl ko_81 rfl (Nat.le_of_ble_eq_true rfl) dX12_has_15) ?_
    refine G_if_eq (tgt := 52) C rfl dX12_has_18 (fun hc5 => ?_) (fun hc5 => ?_)
    · replace h := (if_pos hc5).symm.trans h
      refine G_iconst C (v := 0) rfl dX12_has_52 ?_
      obtain ⟨rfl, rfl⟩ := some2 h
      exact G_iret C hr (Nat.le_of_ble_eq_true rfl) (Nat.le_of_ble_eq_true rfl) dX12_has_53
    · replace h := (if_neg hc5).symm.trans h
      refine G_aload_n C 0 rfl rfl dX12_has_21 ?_
      refine G_iload_n C 3 rfl rfl dX12_has_22 ?_
      refine G_if_lt (tgt := 35) C rfl dX12_has_23 (fun hc6 => ?_) (fun hc6 => ?_)
      · replace h := (if_pos hc6).symm.trans h
        exact eX12_has_35 C hr h
      · replace h := (if_neg hc6).symm.trans h
        refine G_iload_n C 3 rfl rfl dX12_has_26 ?_
        refine G_iconst C (v := 3) rfl dX12_has_27 ?_
        refine G_icmp_gt (tgt := 35) C rfl dX12_has_28 (fun hc22 => ?_) (fun hc22 => ?_)
        · replace h := (if_pos hc22).symm.trans h
          exact eX12_has_35 C hr h
        · replace h := (if_neg hc22).symm.trans h
          refine G_iconst C (v := 1) rfl dX12_has_31 ?_
          refine G_goto (tgt := 36) C rfl dX12_has_32 ?_
          exact eX12_has_36 C hr h
set_option maxRecDepth 100000 in
set_option maxHeartbeats 4000000 in
theorem dX12_isOf {σ : Sto} {p0 : Int32} {p1 : Int32} {p2 : Int32} {r : Int32} (h : mX12_isOf p0 p1 p2 σ = some r) : MM l yX12_isOf cX12_isOf 4 (some .boolean) 2 0 0 E true σ [.ref 81, .int p0, .int p1, .int p2] (QI E true σ r σ) := by
  unfold mX12_isOf at h
  refine MM_of (by decide) (Nat.le_of_ble_eq_true rfl) rfl (fun p e s m args below meth c ad0 C hr hn => ?_)
  refine G_aload_n C 0 rfl rfl dX12_isOf_0 ?_
  refine G_getF C fl_X12_56_11 rfl rfl fn_81_24 dX12_isOf_1 ?_
  refine G_iload_n C 1 rfl rfl dX12_isOf_4 ?_
  obtain ⟨hc1, h⟩ := ifn h
  refine G_iaload C ks_97 hc1 dX12_isOf_5 ?_
  refine G_iconst C (v := 2) rfl dX12_isOf_6 ?_
  refine G_icmp_ne (tgt := 37) C rfl dX12_isOf_7 (fun hc2 => ?_) (fun hc2 => ?_)
  · replace h := (if_neg hc2).symm.trans h
    refine G_iconst C (v := 0) rfl dX12_isOf_37 ?_
    obtain rfl := Option.some.inj h
    exact G_zret C (by decide) hr (Nat.le_of_ble_eq_true rfl) (Nat.le_of_ble_eq_true rfl) dX12_isOf_38
  · replace h := (if_pos hc2).symm.trans h
    refine G_aload_n C 0 rfl rfl dX12_isOf_10 ?_
    refine G_getF C fl_X12_68_11 rfl rfl fn_81_28 dX12_isOf_11 ?_
    refine G_iload_n C 1 rfl rfl dX12_isOf_14 ?_
    refine G_iaload C ks_101 hc1 dX12_isOf_15 ?_
    refine G_sipush C (v := 365) rfl dX12_isOf_16 ?_
    refine G_idiv C (by decide) dX12_isOf_19 ?_
    refine G_iload_n C 2 rfl rfl dX12_isOf_20 ?_
    refine G_icmp_ne (tgt := 37) C rfl dX12_isOf_21 (fun hc3 => ?_) (fun hc3 => ?_)
    · replace h := (if_neg hc3).symm.trans h
      refine G_iconst C (v := 0) rfl dX12_isOf_37 ?_
      obtain rfl := Option.some.inj h
      exact G_zret C (by decide) hr (Nat.le_of_ble_eq_true rfl) (Nat.le_of_ble_eq_true rfl) dX12_isOf_38
    · replace h := (if_pos hc3).symm.trans h
      refine G_aload_n C 0 rfl rfl dX12_isOf_24 ?_
      refine G_iload_n C 1 rfl rfl dX12_isOf_25 ?_
      refine G_iload_n C 3 rfl rfl dX12_isOf_26 ?_
      obtain ⟨v4, hv4, h⟩ := bnd h
      refine G_callI (run_V C [.int p0, .int p2] [] (dX12_isKnown hv4) ml_X12_isKnown mv_X12_isKnown lk_X12_260 ⟨(Nat.le_of_ble_eq_true rfl), (Nat.le_of_ble_eq_true rfl)⟩ ⟨(Nat.le_of_ble_eq_true rfl), (Nat.le_of_ble_eq_true rfl)⟩ vq_11 rfl ko_81 rfl (Nat.le_of_ble_eq_true rfl) dX12_isOf_27) ?_
      refine G_if_eq (tgt := 37) C rfl dX12_isOf_30 (fun hc5 => ?_) (fun hc5 => ?_)
      · replace h := (if_pos hc5).symm.trans h
        refine G_iconst C (v := 0) rfl dX12_isOf_37 ?_
        obtain rfl := Option.some.inj h
        exact G_zret C (by decide) hr (Nat.le_of_ble_eq_true rfl) (Nat.le_of_ble_eq_true rfl) dX12_isOf_38
      · replace h := (if_neg hc5).symm.trans h
        refine G_iconst C (v := 1) rfl dX12_isOf_33 ?_
        refine G_goto (tgt := 38) C rfl dX12_isOf_34 ?_
        obtain rfl := Option.some.inj h
        exact G_zret C (by decide) hr (Nat.le_of_ble_eq_true rfl) (Nat.le_of_ble_eq_true rfl) dX12_isOf_38
set_option maxRecDepth 100000 in
set_option maxHeartbeats 4000000 in
theorem eX12_isYear_16 (C : Cx E p s m args meth c cX12_isYear 2 RX12) (hr : meth.sig.returnType = (some .boolean)) {σ0 : Sto} {r1 : Int32} {r2 : Sto} {σ : Sto} {y1 : Int32} (h : mX12_isYear_16 y1 σ = some (r1, r2)) : G p l e (rmd 2 0 0) s m args below meth c E true (sZ σ0) ad0 (MQ below (QI E true σ0 r1 r2 ad0) args s 0 0 (AE E)) 2 0 0 σ 16 [] [.int y1, .ref 81] := by
  unfold mX12_isYear_16 at h
  refine G_iconst C (v := 1) rfl dX12_isYear_16 ?_
  obtain ⟨v2, σ2, hv2, h⟩ := bd2_elim h
  refine G_callI (run_V C [.int y1, .int (1 : Int32)] [] (dX12_right hv2) ml_X12_right mv_X12_right lk_X12_214 ⟨(Nat.le_of_ble_eq_true rfl), (Nat.le_of_ble_eq_true rfl)⟩ ⟨(Nat.le_of_ble_eq_true rfl), (Nat.le_of_ble_eq_true rfl)⟩ vq_11 rfl ko_81 rfl (Nat.le_of_ble_eq_true rfl) dX12_isYear_17) ?_
  obtain ⟨hc3, h⟩ := ifn h
  obtain ⟨rfl, rfl⟩ := some2 h
  exact G_zret C hc3 hr (Nat.le_of_ble_eq_true rfl) (Nat.le_of_ble_eq_true rfl) dX12_isYear_20
set_option maxRecDepth 100000 in
set_option maxHeartbeats 4000000 in
theorem eX12_isYear_15 (C : Cx E p s m args meth c cX12_isYear 2 RX12) (hr : meth.sig.returnType = (some .boolean)) {σ0 : Sto} {r1 : Int32} {r2 : Sto} {σ : Sto} (h : mX12_isYear_15 σ = some (r1, r2)) : G p l e (rmd 2 0 0) s m args below meth c E true (sZ σ0) ad0 (MQ below (QI E true σ0 r1 r2 ad0) args s 0 0 (AE E)) 2 0 0 σ 15 [] [.ref 81] := by
  unfold mX12_isYear_15 at h
  refine G_iconst C (v := 0) rfl dX12_isYear_15 ?_
  exact eX12_isYear_16 C hr h
set_option maxRecDepth 100000 in
set_option maxHeartbeats 4000000 in
theorem dX12_isYear {σ : Sto} {p0 : Int32} {r1 : Int32} {r2 : Sto} (h : mX12_isYear p0 σ = some (r1, r2)) : MM l yX12_isYear cX12_isYear 2 (some .boolean) 2 0 0 E true σ [.ref 81, .int p0] (QI E true σ r1 r2) := by
  unfold mX12_isYear at h
  refine MM_of (by decide) (Nat.le_of_ble_eq_true rfl) rfl (fun p e s m args below meth c ad0 C hr hn => ?_)
  refine G_aload_n C 0 rfl rfl dX12_isYear_0 ?_
  refine G_iload_n C 1 rfl rfl dX12_isYear_1 ?_
  refine G_if_lt (tgt := 15) C rfl dX12_isYear_2 (fun hc1 => ?_) (fun hc1 => ?_)
  · replace h := (if_pos hc1).symm.trans h
    refine G_sub [] rfl ?_
    exact eX12_isYear_15 C hr h
  · replace h := (if_neg hc1).symm.trans h
    refine G_iload_n C 1 rfl rfl dX12_isYear_5 ?_
    refine G_bipush C (v := 99) rfl dX12_isYear_6 ?_
    refine G_icmp_gt (tgt := 15) C rfl dX12_isYear_8 (fun hc4 => ?_) (fun hc4 => ?_)
    · replace h := (if_pos hc4).symm.trans h
      refine G_sub [] rfl ?_
      exact eX12_isYear_15 C hr h
    · replace h := (if_neg hc4).symm.trans h
      refine G_iconst C (v := 1) rfl dX12_isYear_11 ?_
      refine G_goto (tgt := 16) C rfl dX12_isYear_12 ?_
      refine G_sub [] rfl ?_
      exact eX12_isYear_16 C hr h
set_option maxRecDepth 100000 in
set_option maxHeartbeats 4000000 in
theorem eX12_gets_42B (C : Cx E p s m args meth c cX12_gets 7 RX12) (hr : meth.sig.returnType = (some .long)) {σ0 : Sto} {r1 : Int64} {r2 : Sto} {σ : Sto} {f42 : Int32 → Int32 → Int32 → Int64 → Int32 → Sto → Option (Int64 × Sto)} {x1 : Int32} {x2 : Int32} {x3 : Int32} {x4 : Int64} {x6 : Int32} (hf42 : ∀ (x1 : Int32) (x2 : Int32) (x3 : Int32) (x4 : Int64) (x6 : Int32) (σ' : Sto), f42 x1 x2 x3 x4 x6 σ' = some (r1, r2) → G p l e (rmd 5 0 0) s m args below meth c E true (sZ σ0) ad0 (MQ below (QL E true σ0 r1 r2 ad0) args s 0 0 (AE E)) 7 0 0 σ' 42 [(0, .ref 81), (1, .int x1), (2, .int x2), (3, .int x3), (4, .long x4), (6, .int x6)] []) (h : mX12_gets_42B f42 x1 x2 x3 x4 x6 σ = some (r1, r2)) : G p l e (rmd 5 0 0) s m args below meth c E true (sZ σ0) ad0 (MQ below (QL E true σ0 r1 r2 ad0) args s 0 0 (AE E)) 7 0 0 σ 42 [(0, .ref 81), (1, .int x1), (2, .int x2), (3, .int x3), (4, .long x4), (6, .int x6)] [] := by
  unfold mX12_gets_42B at h
  refine G_iload C 5 rfl dX12_gets_42 ?_
  refine G_aload_n C 0 rfl rfl dX12_gets_44 ?_
  refine G_getI C fl_X12_253_11 (Or.inl rfl) ko_81 dX12_gets_45 ?_
  refine G_icmp_ge (tgt := 89) C rfl dX12_gets_48 (fun hc9 => ?_) (fun hc9 => ?_)
  · replace h := (if_pos hc9).symm.trans h
    refine G_lload C 4 rfl dX12_gets_89 ?_
    obtain ⟨rfl, rfl⟩ := some2 h
    exact G_lret C hr (Nat.le_of_ble_eq_true rfl) (Nat.le_of_ble_eq_true rfl) dX12_gets_91
  · replace h := (if_neg hc9).symm.trans h
    refine G_aload_n C 0 rfl rfl dX12_gets_51 ?_
    refine G_iload C 5 rfl dX12_gets_52 ?_
    refine G_iload_n C 2 rfl rfl dX12_gets_54 ?_
    refine G_iload_n C 3 rfl rfl dX12_gets_55 ?_
    obtain ⟨v10, hv10, h⟩ := bnd h
    refine G_callI (run_V C [.int x6, .int x2, .int x3] [] (dX12_isOf hv10) ml_X12_isOf mv_X12_isOf lk_X12_483 ⟨(Nat.le_of_ble_eq_true rfl), (Nat.le_of_ble_eq_true rfl)⟩ ⟨(Nat.le_of_ble_eq_true rfl), (Nat.le_of_ble_eq_true rfl)⟩ vq_11 rfl ko_81 rfl (Nat.le_of_ble_eq_true rfl) dX12_gets_56) ?_
    refine G_if_ne (tgt := 65) C rfl dX12_gets_59 (fun hc11 => ?_) (fun hc11 => ?_)
    · replace h := (if_neg hc11).symm.trans h
      refine G_aload_n C 0 rfl rfl dX12_gets_65 ?_
      refine G_iload C 5 rfl dX12_gets_66 ?_
      obtain ⟨σ12, hv12, h⟩ := bnd h
      refine G_callV (run_V C [.int x6] [] (dX12_sells hv12) ml_X12_sells mv_X12_sells lk_X12_477 ⟨(Nat.le_of_ble_eq_true rfl), (Nat.le_of_ble_eq_true rfl)⟩ ⟨(Nat.le_of_ble_eq_true rfl), (Nat.le_of_ble_eq_true rfl)⟩ vq_11 rfl ko_81 rfl (Nat.le_of_ble_eq_true rfl) dX12_gets_68) ?_
      refine G_lload C 4 rfl dX12_gets_71 ?_
      refine G_aload_n C 0 rfl rfl dX12_gets_73 ?_
      refine G_getF C fl_X12_183_11 rfl rfl fn_81_92 dX12_gets_74 ?_
      refine G_iload_n C 1 rfl rfl dX12_gets_77 ?_
      obtain ⟨hc13, h⟩ := ifn h
      refine G_iaload C ks_138 hc13 dX12_gets_78 ?_
      refine G_i2l C dX12_gets_79 ?_
      refine G_ladd C dX12_gets_80 ?_
      refine G_lstore (L' := [(4, .long (x4 + ((sI σ12 138 (x1).toNatClampNeg)).toInt64)), (0, .ref 81), (1, .int x1), (2, .int x2), (3, .int x3), (6, .int x6)]) C (Nat.le_of_ble_eq_true rfl) rfl dX12_gets_81 ?_
      refine G_iinc (v := 1) (L' := [(6, .int (x6 + (1 : Int32))), (4, .long (x4 + ((sI σ12 138 (x1).toNatClampNeg)).toInt64)), (0, .ref 81), (1, .int x1), (2, .int x2), (3, .int x3)]) C 5 rfl rfl (Nat.le_of_ble_eq_true rfl) rfl dX12_gets_83 ?_
      refine G_goto (tgt := 42) C rfl dX12_gets_86 ?_
      refine G_sub [2, 3, 4, 5, 1, 0] rfl ?_
      exact hf42 _ _ _ _ _ _ h
    · replace h := (if_pos hc11).symm.trans h
      refine G_goto (tgt := 83) C rfl dX12_gets_62 ?_
      refine G_iinc (v := 1) (L' := [(6, .int (x6 + (1 : Int32))), (0, .ref 81), (1, .int x1), (2, .int x2), (3, .int x3), (4, .long x4)]) C 5 rfl rfl (Nat.le_of_ble_eq_true rfl) rfl dX12_gets_83 ?_
      refine G_goto (tgt := 42) C rfl dX12_gets_86 ?_
      refine G_sub [1, 2, 3, 4, 5, 0] rfl ?_
      exact hf42 _ _ _ _ _ _ h
set_option maxRecDepth 100000 in
set_option maxHeartbeats 4000000 in
theorem eX12_gets_42 (C : Cx E p s m args meth c cX12_gets 7 RX12) (hr : meth.sig.returnType = (some .long)) {σ0 : Sto} {r1 : Int64} {r2 : Sto} {σ : Sto} {n : Nat} {x1 : Int32} {x2 : Int32} {x3 : Int32} {x4 : Int64} {x6 : Int32} (h : mX12_gets_42 n x1 x2 x3 x4 x6 σ = some (r1, r2)) : G p l e (rmd 5 0 0) s m args below meth c E true (sZ σ0) ad0 (MQ below (QL E true σ0 r1 r2 ad0) args s 0 0 (AE E)) 7 0 0 σ 42 [(0, .ref 81), (1, .int x1), (2, .int x2), (3, .int x3), (4, .long x4), (6, .int x6)] [] := by
  induction n generalizing x1 x2 x3 x4 x6 σ with
  | zero => exact nomatch (show (none : Option (Int64 × Sto)) = some (r1, r2) from h)
  | succ n ih => exact eX12_gets_42B C hr (fun z0 z1 z2 z3 z4 σ9 h9 => ih h9) h
set_option maxRecDepth 100000 in
set_option maxHeartbeats 4000000 in
theorem dX12_gets {σ : Sto} {p0 : Int32} {p1 : Int32} {p2 : Int32} {r1 : Int64} {r2 : Sto} (h : mX12_gets p0 p1 p2 σ = some (r1, r2)) : MM l yX12_gets cX12_gets 7 (some .long) 5 0 0 E true σ [.ref 81, .int p0, .int p1, .int p2] (QL E true σ r1 r2) := by
  unfold mX12_gets at h
  refine MM_of (by decide) (Nat.le_of_ble_eq_true rfl) rfl (fun p e s m args below meth c ad0 C hr hn => ?_)
  refine G_aload_n C 0 rfl rfl dX12_gets_0 ?_
  refine G_iconst C (v := 0) rfl dX12_gets_1 ?_
  obtain ⟨σ1, hs1, h⟩ := stp_elim h
  refine G_putI C fl_X12_208_11 fp_X12_11_0 (Or.inl rfl) (Or.inl rfl) ko_81 dX12_gets_2 ?_
  rw [← hs1]
  refine G_aload_n C 0 rfl rfl dX12_gets_5 ?_
  refine G_iload_n C 1 rfl rfl dX12_gets_6 ?_
  obtain ⟨v2, σ2, hv2, h⟩ := bd2_elim h
  refine G_callI (run_V C [.int p0] [] (dX12_isPerson hv2) ml_X12_isPerson mv_X12_isPerson lk_X12_239 ⟨(Nat.le_of_ble_eq_true rfl), (Nat.le_of_ble_eq_true rfl)⟩ ⟨(Nat.le_of_ble_eq_true rfl), (Nat.le_of_ble_eq_true rfl)⟩ vq_11 rfl ko_81 rfl (Nat.le_of_ble_eq_true rfl) dX12_gets_7) ?_
  refine G_if_eq (tgt := 29) C rfl dX12_gets_10 (fun hc3 => ?_) (fun hc3 => ?_)
  · replace h := (if_pos hc3).symm.trans h
    refine G_lconst C (v := 0) rfl dX12_gets_29 ?_
    obtain ⟨rfl, rfl⟩ := some2 h
    exact G_lret C hr (Nat.le_of_ble_eq_true rfl) (Nat.le_of_ble_eq_true rfl) dX12_gets_30
  · replace h := (if_neg hc3).symm.trans h
    refine G_aload_n C 0 rfl rfl dX12_gets_13 ?_
    refine G_iload_n C 2 rfl rfl dX12_gets_14 ?_
    obtain ⟨v4, σ4, hv4, h⟩ := bd2_elim h
    refine G_callI (run_V C [.int p1] [] (dX12_isYear hv4) ml_X12_isYear mv_X12_isYear lk_X12_480 ⟨(Nat.le_of_ble_eq_true rfl), (Nat.le_of_ble_eq_true rfl)⟩ ⟨(Nat.le_of_ble_eq_true rfl), (Nat.le_of_ble_eq_true rfl)⟩ vq_11 rfl ko_81 rfl (Nat.le_of_ble_eq_true rfl) dX12_gets_15) ?_
    refine G_if_eq (tgt := 29) C rfl dX12_gets_18 (fun hc5 => ?_) (fun hc5 => ?_)
    · replace h := (if_pos hc5).symm.trans h
      refine G_lconst C (v := 0) rfl dX12_gets_29 ?_
      obtain ⟨rfl, rfl⟩ := some2 h
      exact G_lret C hr (Nat.le_of_ble_eq_true rfl) (Nat.le_of_ble_eq_true rfl) dX12_gets_30
    · replace h := (if_neg hc5).symm.trans h
      refine G_aload_n C 0 rfl rfl dX12_gets_21 ?_
      refine G_iload_n C 3 rfl rfl dX12_gets_22 ?_
      obtain ⟨v6, σ6, hv6, h⟩ := bd2_elim h
      refine G_callI (run_V C [.int p2] [] (dX12_isEvening hv6) ml_X12_isEvening mv_X12_isEvening lk_X12_471 ⟨(Nat.le_of_ble_eq_true rfl), (Nat.le_of_ble_eq_true rfl)⟩ ⟨(Nat.le_of_ble_eq_true rfl), (Nat.le_of_ble_eq_true rfl)⟩ vq_11 rfl ko_81 rfl (Nat.le_of_ble_eq_true rfl) dX12_gets_23) ?_
      refine G_if_ne (tgt := 31) C rfl dX12_gets_26 (fun hc7 => ?_) (fun hc7 => ?_)
      · replace h := (if_neg hc7).symm.trans h
        refine G_aload_n C 0 rfl rfl dX12_gets_31 ?_
        refine G_iload_n C 3 rfl rfl dX12_gets_32 ?_
        obtain ⟨σ8, hv8, h⟩ := bnd h
        refine G_callV (run_V C [.int p2] [] (dX12_gathers hv8) ml_X12_gathers mv_X12_gathers lk_X12_474 ⟨(Nat.le_of_ble_eq_true rfl), (Nat.le_of_ble_eq_true rfl)⟩ ⟨(Nat.le_of_ble_eq_true rfl), (Nat.le_of_ble_eq_true rfl)⟩ vq_11 rfl ko_81 rfl (Nat.le_of_ble_eq_true rfl) dX12_gets_33) ?_
        refine G_lconst C (v := 0) rfl dX12_gets_36 ?_
        refine G_lstore (L' := [(4, .long (0 : Int64)), (0, .ref 81), (1, .int p0), (2, .int p1), (3, .int p2)]) C (Nat.le_of_ble_eq_true rfl) rfl dX12_gets_37 ?_
        refine G_iconst C (v := 0) rfl dX12_gets_39 ?_
        refine G_istore (L' := [(6, .int (0 : Int32)), (4, .long (0 : Int64)), (0, .ref 81), (1, .int p0), (2, .int p1), (3, .int p2)]) C (Nat.le_of_ble_eq_true rfl) rfl dX12_gets_40 ?_
        refine G_sub [2, 3, 4, 5, 1, 0] rfl ?_
        exact eX12_gets_42 C hr h
      · replace h := (if_pos hc7).symm.trans h
        refine G_lconst C (v := 0) rfl dX12_gets_29 ?_
        obtain ⟨rfl, rfl⟩ := some2 h
        exact G_lret C hr (Nat.le_of_ble_eq_true rfl) (Nat.le_of_ble_eq_true rfl) dX12_gets_30
set_option maxRecDepth 100000 in
set_option maxHeartbeats 4000000 in
theorem eX12_clears_57B (C : Cx E p s m args meth c cX12_clears 5 RX12) (hr : meth.sig.returnType = none) {σ0 : Sto} {r2 : Sto} {σ : Sto} {f28 : Int32 → Int32 → Int32 → Sto → Option Sto} {f57 : Int32 → Int32 → Int32 → Int32 → Sto → Option Sto} {x1 : Int32} {x2 : Int32} {x3 : Int32} {x4 : Int32} (hf28 : ∀ (x1 : Int32) (x2 : Int32) (x3 : Int32) (σ' : Sto), f28 x1 x2 x3 σ' = some r2 → G p l e (rmd 5 0 0) s m args below meth c E true (sZ σ0) ad0 (MQ below (QV E true σ0 r2 ad0) args s 0 0 (AE E)) 5 0 0 σ' 28 [(0, .ref 81), (1, .int x1), (2, .int x2), (3, .int x3)] []) (hf57 : ∀ (x1 : Int32) (x2 : Int32) (x3 : Int32) (x4 : Int32) (σ' : Sto), f57 x1 x2 x3 x4 σ' = some r2 → G p l e (rmd 5 0 0) s m args below meth c E true (sZ σ0) ad0 (MQ below (QV E true σ0 r2 ad0) args s 0 0 (AE E)) 5 0 0 σ' 57 [(0, .ref 81), (1, .int x1), (2, .int x2), (3, .int x3), (4, .int x4)] []) (h : mX12_clears_57B f28 f57 x1 x2 x3 x4 σ = some r2) : G p l e (rmd 5 0 0) s m args below meth c E true (sZ σ0) ad0 (MQ below (QV E true σ0 r2 ad0) args s 0 0 (AE E)) 5 0 0 σ 57 [(0, .ref 81), (1, .int x1), (2, .int x2), (3, .int x3), (4, .int x4)] [] := by
  unfold mX12_clears_57B at h
  refine G_iload C 4 rfl dX12_clears_57 ?_
  refine G_aload_n C 0 rfl rfl dX12_clears_59 ?_
  refine G_getI C fl_X12_218_11 (Or.inl rfl) ko_81 dX12_clears_60 ?_
  refine G_icmp_ge (tgt := 135) C rfl dX12_clears_63 (fun hc7 => ?_) (fun hc7 => ?_)
  · replace h := (if_pos hc7).symm.trans h
    refine G_iinc (v := 1) (L' := [(3, .int (x3 + (1 : Int32))), (0, .ref 81), (1, .int x1), (2, .int x2), (4, .int x4)]) C 3 rfl rfl (Nat.le_of_ble_eq_true rfl) rfl dX12_clears_135 ?_
    refine G_goto (tgt := 28) C rfl dX12_clears_138 ?_
    refine G_sub [1, 2, 3, 0] rfl ?_
    exact hf28 _ _ _ _ h
  · replace h := (if_neg hc7).symm.trans h
    refine G_aload_n C 0 rfl rfl dX12_clears_66 ?_
    refine G_getI C fl_X12_453_11 (Or.inl rfl) ko_81 dX12_clears_67 ?_
    refine G_iconst C (v := -1) rfl dX12_clears_70 ?_
    refine G_icmp_eq (tgt := 135) C rfl dX12_clears_71 (fun hc8 => ?_) (fun hc8 => ?_)
    · replace h := (if_pos hc8).symm.trans h
      refine G_iinc (v := 1) (L' := [(3, .int (x3 + (1 : Int32))), (0, .ref 81), (1, .int x1), (2, .int x2), (4, .int x4)]) C 3 rfl rfl (Nat.le_of_ble_eq_true rfl) rfl dX12_clears_135 ?_
      refine G_goto (tgt := 28) C rfl dX12_clears_138 ?_
      refine G_sub [1, 2, 3, 0] rfl ?_
      exact hf28 _ _ _ _ h
    · replace h := (if_neg hc8).symm.trans h
      refine G_aload_n C 0 rfl rfl dX12_clears_74 ?_
      refine G_getF C fl_X12_186_11 rfl rfl fn_81_93 dX12_clears_75 ?_
      refine G_iload C 4 rfl dX12_clears_78 ?_
      obtain ⟨hc9, h⟩ := ifn h
      refine G_iaload C ks_139 hc9 dX12_clears_80 ?_
      refine G_iconst C (v := -1) rfl dX12_clears_81 ?_
      refine G_icmp_eq (tgt := 129) C rfl dX12_clears_82 (fun hc10 => ?_) (fun hc10 => ?_)
      · replace h := (if_pos hc10).symm.trans h
        refine G_iinc (v := 1) (L' := [(4, .int (x4 + (1 : Int32))), (0, .ref 81), (1, .int x1), (2, .int x2), (3, .int x3)]) C 4 rfl rfl (Nat.le_of_ble_eq_true rfl) rfl dX12_clears_129 ?_
        refine G_goto (tgt := 57) C rfl dX12_clears_132 ?_
        refine G_sub [1, 2, 3, 4, 0] rfl ?_
        exact hf57 _ _ _ _ _ h
      · replace h := (if_neg hc10).symm.trans h
        refine G_aload_n C 0 rfl rfl dX12_clears_85 ?_
        refine G_getF C fl_X12_186_11 rfl rfl fn_81_93 dX12_clears_86 ?_
        refine G_iload C 4 rfl dX12_clears_89 ?_
        refine G_iaload C ks_139 hc9 dX12_clears_91 ?_
        refine G_aload_n C 0 rfl rfl dX12_clears_92 ?_
        refine G_getI C fl_X12_453_11 (Or.inl rfl) ko_81 dX12_clears_93 ?_
        refine G_icmp_eq (tgt := 129) C rfl dX12_clears_96 (fun hc11 => ?_) (fun hc11 => ?_)
        · replace h := (if_pos hc11).symm.trans h
          refine G_iinc (v := 1) (L' := [(4, .int (x4 + (1 : Int32))), (0, .ref 81), (1, .int x1), (2, .int x2), (3, .int x3)]) C 4 rfl rfl (Nat.le_of_ble_eq_true rfl) rfl dX12_clears_129 ?_
          refine G_goto (tgt := 57) C rfl dX12_clears_132 ?_
          refine G_sub [1, 2, 3, 4, 0] rfl ?_
          exact hf57 _ _ _ _ _ h
        · replace h := (if_neg hc11).symm.trans h
          refine G_aload_n C 0 rfl rfl dX12_clears_99 ?_
          refine G_getF C fl_X12_195_11 rfl rfl fn_81_96 dX12_clears_100 ?_
          refine G_iconst C (v := 5) rfl dX12_clears_103 ?_
          refine G_aload_n C 0 rfl rfl dX12_clears_104 ?_
          refine G_getI C fl_X12_453_11 (Or.inl rfl) ko_81 dX12_clears_105 ?_
          refine G_imul C dX12_clears_108 ?_
          refine G_aload_n C 0 rfl rfl dX12_clears_109 ?_
          refine G_getF C fl_X12_186_11 rfl rfl fn_81_93 dX12_clears_110 ?_
          refine G_iload C 4 rfl dX12_clears_113 ?_
          refine G_iaload C ks_139 hc9 dX12_clears_115 ?_
          refine G_iadd C dX12_clears_116 ?_
          refine G_dup2 C rfl rfl dX12_clears_117 ?_
          obtain ⟨hc12, h⟩ := ifn h
          refine G_laload C ks_142 hc12 dX12_clears_118 ?_
          refine G_aload_n C 0 rfl rfl dX12_clears_119 ?_
          refine G_getF C fl_X12_180_11 rfl rfl fn_81_91 dX12_clears_120 ?_
          refine G_iload C 4 rfl dX12_clears_123 ?_
          refine G_iaload C ks_137 hc9 dX12_clears_125 ?_
          refine G_i2l C dX12_clears_126 ?_
          refine G_ladd C dX12_clears_127 ?_
          obtain ⟨σ13, hs13, h⟩ := stp_elim h
          refine G_lastore C ks_142 hc12 dX12_clears_128 ?_
          rw [← hs13]
          refine G_iinc (v := 1) (L' := [(4, .int (x4 + (1 : Int32))), (0, .ref 81), (1, .int x1), (2, .int x2), (3, .int x3)]) C 4 rfl rfl (Nat.le_of_ble_eq_true rfl) rfl dX12_clears_129 ?_
          refine G_goto (tgt := 57) C rfl dX12_clears_132 ?_
          refine G_sub [1, 2, 3, 4, 0] rfl ?_
          exact hf57 _ _ _ _ _ h
set_option maxRecDepth 100000 in
set_option maxHeartbeats 4000000 in
theorem eX12_clears_57 (C : Cx E p s m args meth c cX12_clears 5 RX12) (hr : meth.sig.returnType = none) {σ0 : Sto} {r2 : Sto} {σ : Sto} {f28 : Int32 → Int32 → Int32 → Sto → Option Sto} {n : Nat} {x1 : Int32} {x2 : Int32} {x3 : Int32} {x4 : Int32} (hf28 : ∀ (x1 : Int32) (x2 : Int32) (x3 : Int32) (σ' : Sto), f28 x1 x2 x3 σ' = some r2 → G p l e (rmd 5 0 0) s m args below meth c E true (sZ σ0) ad0 (MQ below (QV E true σ0 r2 ad0) args s 0 0 (AE E)) 5 0 0 σ' 28 [(0, .ref 81), (1, .int x1), (2, .int x2), (3, .int x3)] []) (h : mX12_clears_57 f28 n x1 x2 x3 x4 σ = some r2) : G p l e (rmd 5 0 0) s m args below meth c E true (sZ σ0) ad0 (MQ below (QV E true σ0 r2 ad0) args s 0 0 (AE E)) 5 0 0 σ 57 [(0, .ref 81), (1, .int x1), (2, .int x2), (3, .int x3), (4, .int x4)] [] := by
  induction n generalizing x1 x2 x3 x4 σ with
  | zero => exact nomatch (show (none : Option Sto) = some r2 from h)
  | succ n ih => exact eX12_clears_57B C hr hf28 (fun z0 z1 z2 z3 σ9 h9 => ih h9) h
set_option maxRecDepth 100000 in
set_option maxHeartbeats 4000000 in
theorem eX12_clears_28B (C : Cx E p s m args meth c cX12_clears 5 RX12) (hr : meth.sig.returnType = none) {σ0 : Sto} {r2 : Sto} {σ : Sto} {f28 : Int32 → Int32 → Int32 → Sto → Option Sto} {x1 : Int32} {x2 : Int32} {x3 : Int32} (hf28 : ∀ (x1 : Int32) (x2 : Int32) (x3 : Int32) (σ' : Sto), f28 x1 x2 x3 σ' = some r2 → G p l e (rmd 5 0 0) s m args below meth c E true (sZ σ0) ad0 (MQ below (QV E true σ0 r2 ad0) args s 0 0 (AE E)) 5 0 0 σ' 28 [(0, .ref 81), (1, .int x1), (2, .int x2), (3, .int x3)] []) (h : mX12_clears_28B f28 x1 x2 x3 σ = some r2) : G p l e (rmd 5 0 0) s m args below meth c E true (sZ σ0) ad0 (MQ below (QV E true σ0 r2 ad0) args s 0 0 (AE E)) 5 0 0 σ 28 [(0, .ref 81), (1, .int x1), (2, .int x2), (3, .int x3)] [] := by
  unfold mX12_clears_28B at h
  refine G_iload_n C 3 rfl rfl dX12_clears_28 ?_
  refine G_aload_n C 0 rfl rfl dX12_clears_29 ?_
  refine G_getI C fl_X12_253_11 (Or.inl rfl) ko_81 dX12_clears_30 ?_
  refine G_icmp_ge (tgt := 141) C rfl dX12_clears_33 (fun hc3 => ?_) (fun hc3 => ?_)
  · replace h := (if_pos hc3).symm.trans h
    obtain rfl := Option.some.inj h
    exact G_vret C hr (Nat.le_of_ble_eq_true rfl) (Nat.le_of_ble_eq_true rfl) dX12_clears_141
  · replace h := (if_neg hc3).symm.trans h
    refine G_aload_n C 0 rfl rfl dX12_clears_36 ?_
    refine G_iload_n C 3 rfl rfl dX12_clears_37 ?_
    refine G_iload_n C 1 rfl rfl dX12_clears_38 ?_
    refine G_iload_n C 2 rfl rfl dX12_clears_39 ?_
    obtain ⟨v4, hv4, h⟩ := bnd h
    refine G_callI (run_V C [.int x3, .int x1, .int x2] [] (dX12_isOf hv4) ml_X12_isOf mv_X12_isOf lk_X12_483 ⟨(Nat.le_of_ble_eq_true rfl), (Nat.le_of_ble_eq_true rfl)⟩ ⟨(Nat.le_of_ble_eq_true rfl), (Nat.le_of_ble_eq_true rfl)⟩ vq_11 rfl ko_81 rfl (Nat.le_of_ble_eq_true rfl) dX12_clears_40) ?_
    refine G_if_ne (tgt := 49) C rfl dX12_clears_43 (fun hc5 => ?_) (fun hc5 => ?_)
    · replace h := (if_neg hc5).symm.trans h
      refine G_aload_n C 0 rfl rfl dX12_clears_49 ?_
      refine G_iload_n C 3 rfl rfl dX12_clears_50 ?_
      obtain ⟨σ6, hv6, h⟩ := bnd h
      refine G_callV (run_V C [.int x3] [] (dX12_sells hv6) ml_X12_sells mv_X12_sells lk_X12_477 ⟨(Nat.le_of_ble_eq_true rfl), (Nat.le_of_ble_eq_true rfl)⟩ ⟨(Nat.le_of_ble_eq_true rfl), (Nat.le_of_ble_eq_true rfl)⟩ vq_11 rfl ko_81 rfl (Nat.le_of_ble_eq_true rfl) dX12_clears_51) ?_
      refine G_iconst C (v := 0) rfl dX12_clears_54 ?_
      refine G_istore (L' := [(4, .int (0 : Int32)), (0, .ref 81), (1, .int x1), (2, .int x2), (3, .int x3)]) C (Nat.le_of_ble_eq_true rfl) rfl dX12_clears_55 ?_
      refine G_sub [1, 2, 3, 4, 0] rfl ?_
      exact eX12_clears_57 C hr hf28 h
    · replace h := (if_pos hc5).symm.trans h
      refine G_goto (tgt := 135) C rfl dX12_clears_46 ?_
      refine G_iinc (v := 1) (L' := [(3, .int (x3 + (1 : Int32))), (0, .ref 81), (1, .int x1), (2, .int x2)]) C 3 rfl rfl (Nat.le_of_ble_eq_true rfl) rfl dX12_clears_135 ?_
      refine G_goto (tgt := 28) C rfl dX12_clears_138 ?_
      refine G_sub [1, 2, 3, 0] rfl ?_
      exact hf28 _ _ _ _ h
set_option maxRecDepth 100000 in
set_option maxHeartbeats 4000000 in
theorem eX12_clears_28 (C : Cx E p s m args meth c cX12_clears 5 RX12) (hr : meth.sig.returnType = none) {σ0 : Sto} {r2 : Sto} {σ : Sto} {n : Nat} {x1 : Int32} {x2 : Int32} {x3 : Int32} (h : mX12_clears_28 n x1 x2 x3 σ = some r2) : G p l e (rmd 5 0 0) s m args below meth c E true (sZ σ0) ad0 (MQ below (QV E true σ0 r2 ad0) args s 0 0 (AE E)) 5 0 0 σ 28 [(0, .ref 81), (1, .int x1), (2, .int x2), (3, .int x3)] [] := by
  induction n generalizing x1 x2 x3 σ with
  | zero => exact nomatch (show (none : Option Sto) = some r2 from h)
  | succ n ih => exact eX12_clears_28B C hr (fun z0 z1 z2 σ9 h9 => ih h9) h
set_option maxRecDepth 100000 in
set_option maxHeartbeats 4000000 in
theorem eX12_clears_7B (C : Cx E p s m args meth c cX12_clears 5 RX12) (hr : meth.sig.returnType = none) {σ0 : Sto} {r2 : Sto} {σ : Sto} {f7 : Int32 → Int32 → Int32 → Sto → Option Sto} {x1 : Int32} {x2 : Int32} {x3 : Int32} (hf7 : ∀ (x1 : Int32) (x2 : Int32) (x3 : Int32) (σ' : Sto), f7 x1 x2 x3 σ' = some r2 → G p l e (rmd 5 0 0) s m args below meth c E true (sZ σ0) ad0 (MQ below (QV E true σ0 r2 ad0) args s 0 0 (AE E)) 5 0 0 σ' 7 [(0, .ref 81), (1, .int x1), (2, .int x2), (3, .int x3)] []) (h : mX12_clears_7B f7 x1 x2 x3 σ = some r2) : G p l e (rmd 5 0 0) s m args below meth c E true (sZ σ0) ad0 (MQ below (QV E true σ0 r2 ad0) args s 0 0 (AE E)) 5 0 0 σ 7 [(0, .ref 81), (1, .int x1), (2, .int x2), (3, .int x3)] [] := by
  unfold mX12_clears_7B at h
  refine G_iload_n C 3 rfl rfl dX12_clears_7 ?_
  refine G_bipush C (v := 25) rfl dX12_clears_8 ?_
  refine G_icmp_ge (tgt := 26) C rfl dX12_clears_10 (fun hc2 => ?_) (fun hc2 => ?_)
  · replace h := (if_pos hc2).symm.trans h
    refine G_iconst C (v := 0) rfl dX12_clears_26 ?_
    refine G_istore_n (L' := [(3, .int (0 : Int32)), (0, .ref 81), (1, .int x1), (2, .int x2)]) C rfl (Nat.le_of_ble_eq_true rfl) rfl dX12_clears_27 ?_
    refine G_sub [1, 2, 3, 0] rfl ?_
    exact eX12_clears_28 C hr h
  · replace h := (if_neg hc2).symm.trans h
    refine G_aload_n C 0 rfl rfl dX12_clears_13 ?_
    refine G_getF C fl_X12_195_11 rfl rfl fn_81_96 dX12_clears_14 ?_
    refine G_iload_n C 3 rfl rfl dX12_clears_17 ?_
    refine G_lconst C (v := 0) rfl dX12_clears_18 ?_
    obtain ⟨hc14, h⟩ := ifn h
    obtain ⟨σ15, hs15, h⟩ := stp_elim h
    refine G_lastore C ks_142 hc14 dX12_clears_19 ?_
    rw [← hs15]
    refine G_iinc (v := 1) (L' := [(3, .int (x3 + (1 : Int32))), (0, .ref 81), (1, .int x1), (2, .int x2)]) C 3 rfl rfl (Nat.le_of_ble_eq_true rfl) rfl dX12_clears_20 ?_
    refine G_goto (tgt := 7) C rfl dX12_clears_23 ?_
    refine G_sub [1, 2, 3, 0] rfl ?_
    exact hf7 _ _ _ _ h
set_option maxRecDepth 100000 in
set_option maxHeartbeats 4000000 in
theorem eX12_clears_7 (C : Cx E p s m args meth c cX12_clears 5 RX12) (hr : meth.sig.returnType = none) {σ0 : Sto} {r2 : Sto} {σ : Sto} {n : Nat} {x1 : Int32} {x2 : Int32} {x3 : Int32} (h : mX12_clears_7 n x1 x2 x3 σ = some r2) : G p l e (rmd 5 0 0) s m args below meth c E true (sZ σ0) ad0 (MQ below (QV E true σ0 r2 ad0) args s 0 0 (AE E)) 5 0 0 σ 7 [(0, .ref 81), (1, .int x1), (2, .int x2), (3, .int x3)] [] := by
  induction n generalizing x1 x2 x3 σ with
  | zero => exact nomatch (show (none : Option Sto) = some r2 from h)
  | succ n ih => exact eX12_clears_7B C hr (fun z0 z1 z2 σ9 h9 => ih h9) h
set_option maxRecDepth 100000 in
set_option maxHeartbeats 4000000 in
theorem dX12_clears {σ : Sto} {p0 : Int32} {p1 : Int32} {r2 : Sto} (h : mX12_clears p0 p1 σ = some r2) : MM l yX12_clears cX12_clears 5 none 5 0 0 E true σ [.ref 81, .int p0, .int p1] (QV E true σ r2) := by
  unfold mX12_clears at h
  refine MM_of (by decide) (Nat.le_of_ble_eq_true rfl) rfl (fun p e s m args below meth c ad0 C hr hn => ?_)
  refine G_aload_n C 0 rfl rfl dX12_clears_0 ?_
  refine G_iload_n C 2 rfl rfl dX12_clears_1 ?_
  obtain ⟨σ1, hv1, h⟩ := bnd h
  refine G_callV (run_V C [.int p1] [] (dX12_gathers hv1) ml_X12_gathers mv_X12_gathers lk_X12_474 ⟨(Nat.le_of_ble_eq_true rfl), (Nat.le_of_ble_eq_true rfl)⟩ ⟨(Nat.le_of_ble_eq_true rfl), (Nat.le_of_ble_eq_true rfl)⟩ vq_11 rfl ko_81 rfl (Nat.le_of_ble_eq_true rfl) dX12_clears_2) ?_
  refine G_iconst C (v := 0) rfl dX12_clears_5 ?_
  refine G_istore_n (L' := [(3, .int (0 : Int32)), (0, .ref 81), (1, .int p0), (2, .int p1)]) C rfl (Nat.le_of_ble_eq_true rfl) rfl dX12_clears_6 ?_
  refine G_sub [1, 2, 3, 0] rfl ?_
  exact eX12_clears_7 C hr h
set_option maxRecDepth 100000 in
set_option maxHeartbeats 4000000 in
theorem dX12_owes {σ : Sto} {p0 : Int32} {p1 : Int32} {p2 : Int32} {p3 : Int32} {r1 : Int64} {r2 : Sto} (h : mX12_owes p0 p1 p2 p3 σ = some (r1, r2)) : MM l yX12_owes cX12_owes 5 (some .long) 6 0 0 E true σ [.ref 81, .int p0, .int p1, .int p2, .int p3] (QL E true σ r1 r2) := by
  unfold mX12_owes at h
  refine MM_of (by decide) (Nat.le_of_ble_eq_true rfl) rfl (fun p e s m args below meth c ad0 C hr hn => ?_)
  refine G_aload_n C 0 rfl rfl dX12_owes_0 ?_
  refine G_iconst C (v := 0) rfl dX12_owes_1 ?_
  obtain ⟨σ1, hs1, h⟩ := stp_elim h
  refine G_putI C fl_X12_208_11 fp_X12_11_0 (Or.inl rfl) (Or.inl rfl) ko_81 dX12_owes_2 ?_
  rw [← hs1]
  refine G_aload_n C 0 rfl rfl dX12_owes_5 ?_
  refine G_iload_n C 1 rfl rfl dX12_owes_6 ?_
  obtain ⟨v2, σ2, hv2, h⟩ := bd2_elim h
  refine G_callI (run_V C [.int p0] [] (dX12_isSociety hv2) ml_X12_isSociety mv_X12_isSociety lk_X12_264 ⟨(Nat.le_of_ble_eq_true rfl), (Nat.le_of_ble_eq_true rfl)⟩ ⟨(Nat.le_of_ble_eq_true rfl), (Nat.le_of_ble_eq_true rfl)⟩ vq_11 rfl ko_81 rfl (Nat.le_of_ble_eq_true rfl) dX12_owes_7) ?_
  refine G_if_eq (tgt := 38) C rfl dX12_owes_10 (fun hc3 => ?_) (fun hc3 => ?_)
  · replace h := (if_pos hc3).symm.trans h
    refine G_lconst C (v := 0) rfl dX12_owes_38 ?_
    obtain ⟨rfl, rfl⟩ := some2 h
    exact G_lret C hr (Nat.le_of_ble_eq_true rfl) (Nat.le_of_ble_eq_true rfl) dX12_owes_39
  · replace h := (if_neg hc3).symm.trans h
    refine G_aload_n C 0 rfl rfl dX12_owes_13 ?_
    refine G_iload_n C 2 rfl rfl dX12_owes_14 ?_
    obtain ⟨v4, σ4, hv4, h⟩ := bd2_elim h
    refine G_callI (run_V C [.int p1] [] (dX12_isSociety hv4) ml_X12_isSociety mv_X12_isSociety lk_X12_264 ⟨(Nat.le_of_ble_eq_true rfl), (Nat.le_of_ble_eq_true rfl)⟩ ⟨(Nat.le_of_ble_eq_true rfl), (Nat.le_of_ble_eq_true rfl)⟩ vq_11 rfl ko_81 rfl (Nat.le_of_ble_eq_true rfl) dX12_owes_15) ?_
    refine G_if_eq (tgt := 38) C rfl dX12_owes_18 (fun hc5 => ?_) (fun hc5 => ?_)
    · replace h := (if_pos hc5).symm.trans h
      refine G_lconst C (v := 0) rfl dX12_owes_38 ?_
      obtain ⟨rfl, rfl⟩ := some2 h
      exact G_lret C hr (Nat.le_of_ble_eq_true rfl) (Nat.le_of_ble_eq_true rfl) dX12_owes_39
    · replace h := (if_neg hc5).symm.trans h
      refine G_aload_n C 0 rfl rfl dX12_owes_21 ?_
      refine G_iload_n C 3 rfl rfl dX12_owes_22 ?_
      obtain ⟨v6, σ6, hv6, h⟩ := bd2_elim h
      refine G_callI (run_V C [.int p2] [] (dX12_isYear hv6) ml_X12_isYear mv_X12_isYear lk_X12_480 ⟨(Nat.le_of_ble_eq_true rfl), (Nat.le_of_ble_eq_true rfl)⟩ ⟨(Nat.le_of_ble_eq_true rfl), (Nat.le_of_ble_eq_true rfl)⟩ vq_11 rfl ko_81 rfl (Nat.le_of_ble_eq_true rfl) dX12_owes_23) ?_
      refine G_if_eq (tgt := 38) C rfl dX12_owes_26 (fun hc7 => ?_) (fun hc7 => ?_)
      · replace h := (if_pos hc7).symm.trans h
        refine G_lconst C (v := 0) rfl dX12_owes_38 ?_
        obtain ⟨rfl, rfl⟩ := some2 h
        exact G_lret C hr (Nat.le_of_ble_eq_true rfl) (Nat.le_of_ble_eq_true rfl) dX12_owes_39
      · replace h := (if_neg hc7).symm.trans h
        refine G_aload_n C 0 rfl rfl dX12_owes_29 ?_
        refine G_iload C 4 rfl dX12_owes_30 ?_
        obtain ⟨v8, σ8, hv8, h⟩ := bd2_elim h
        refine G_callI (run_V C [.int p3] [] (dX12_isEvening hv8) ml_X12_isEvening mv_X12_isEvening lk_X12_471 ⟨(Nat.le_of_ble_eq_true rfl), (Nat.le_of_ble_eq_true rfl)⟩ ⟨(Nat.le_of_ble_eq_true rfl), (Nat.le_of_ble_eq_true rfl)⟩ vq_11 rfl ko_81 rfl (Nat.le_of_ble_eq_true rfl) dX12_owes_32) ?_
        refine G_if_ne (tgt := 40) C rfl dX12_owes_35 (fun hc9 => ?_) (fun hc9 => ?_)
        · replace h := (if_neg hc9).symm.trans h
          refine G_aload_n C 0 rfl rfl dX12_owes_40 ?_
          refine G_iload_n C 3 rfl rfl dX12_owes_41 ?_
          refine G_iload C 4 rfl dX12_owes_42 ?_
          obtain ⟨σ10, hv10, h⟩ := bnd h
          refine G_callV (run_V C [.int p2, .int p3] [] (dX12_clears hv10) ml_X12_clears mv_X12_clears lk_X12_487 ⟨(Nat.le_of_ble_eq_true rfl), (Nat.le_of_ble_eq_true rfl)⟩ ⟨(Nat.le_of_ble_eq_true rfl), (Nat.le_of_ble_eq_true rfl)⟩ vq_11 rfl ko_81 rfl (Nat.le_of_ble_eq_true rfl) dX12_owes_44) ?_
          refine G_aload_n C 0 rfl rfl dX12_owes_47 ?_
          refine G_getF C fl_X12_195_11 rfl rfl fn_81_96 dX12_owes_48 ?_
          refine G_iconst C (v := 5) rfl dX12_owes_51 ?_
          refine G_iload_n C 1 rfl rfl dX12_owes_52 ?_
          refine G_imul C dX12_owes_53 ?_
          refine G_iload_n C 2 rfl rfl dX12_owes_54 ?_
          refine G_iadd C dX12_owes_55 ?_
          obtain ⟨hc11, h⟩ := ifn h
          refine G_laload C ks_142 hc11 dX12_owes_56 ?_
          obtain ⟨rfl, rfl⟩ := some2 h
          exact G_lret C hr (Nat.le_of_ble_eq_true rfl) (Nat.le_of_ble_eq_true rfl) dX12_owes_57
        · replace h := (if_pos hc9).symm.trans h
          refine G_lconst C (v := 0) rfl dX12_owes_38 ?_
          obtain ⟨rfl, rfl⟩ := some2 h
          exact G_lret C hr (Nat.le_of_ble_eq_true rfl) (Nat.le_of_ble_eq_true rfl) dX12_owes_39
set_option maxRecDepth 100000 in
set_option maxHeartbeats 4000000 in
theorem eX12_netOf_5B (C : Cx E p s m args meth c cX12_netOf 5 RX12) (hr : meth.sig.returnType = (some .long)) {r : Int64} {σ : Sto} {f5 : Int32 → Int64 → Int32 → Sto → Option Int64} {x1 : Int32} {x2 : Int64} {x4 : Int32} (hf5 : ∀ (x1 : Int32) (x2 : Int64) (x4 : Int32), f5 x1 x2 x4 σ = some r → G p l e (rmd 1 0 0) s m args below meth c E true (sZ σ) ad0 (MQ below (QL E true σ r σ ad0) args s 0 0 (AE E)) 5 0 0 σ 5 [(0, .ref 81), (1, .int x1), (2, .long x2), (4, .int x4)] []) (h : mX12_netOf_5B f5 x1 x2 x4 σ = some r) : G p l e (rmd 1 0 0) s m args below meth c E true (sZ σ) ad0 (MQ below (QL E true σ r σ ad0) args s 0 0 (AE E)) 5 0 0 σ 5 [(0, .ref 81), (1, .int x1), (2, .long x2), (4, .int x4)] [] := by
  unfold mX12_netOf_5B at h
  refine G_iload C 3 rfl dX12_netOf_5 ?_
  refine G_iconst C (v := 5) rfl dX12_netOf_7 ?_
  refine G_icmp_ge (tgt := 43) C rfl dX12_netOf_8 (fun hc1 => ?_) (fun hc1 => ?_)
  · replace h := (if_pos hc1).symm.trans h
    refine G_lload_n C 2 rfl rfl dX12_netOf_43 ?_
    obtain rfl := Option.some.inj h
    exact G_lret C hr (Nat.le_of_ble_eq_true rfl) (Nat.le_of_ble_eq_true rfl) dX12_netOf_44
  · replace h := (if_neg hc1).symm.trans h
    refine G_lload_n C 2 rfl rfl dX12_netOf_11 ?_
    refine G_aload_n C 0 rfl rfl dX12_netOf_12 ?_
    refine G_getF C fl_X12_195_11 rfl rfl fn_81_96 dX12_netOf_13 ?_
    refine G_iconst C (v := 5) rfl dX12_netOf_16 ?_
    refine G_iload C 3 rfl dX12_netOf_17 ?_
    refine G_imul C dX12_netOf_19 ?_
    refine G_iload_n C 1 rfl rfl dX12_netOf_20 ?_
    refine G_iadd C dX12_netOf_21 ?_
    obtain ⟨hc2, h⟩ := ifn h
    refine G_laload C ks_142 hc2 dX12_netOf_22 ?_
    refine G_aload_n C 0 rfl rfl dX12_netOf_23 ?_
    refine G_getF C fl_X12_195_11 rfl rfl fn_81_96 dX12_netOf_24 ?_
    refine G_iconst C (v := 5) rfl dX12_netOf_27 ?_
    refine G_iload_n C 1 rfl rfl dX12_netOf_28 ?_
    refine G_imul C dX12_netOf_29 ?_
    refine G_iload C 3 rfl dX12_netOf_30 ?_
    refine G_iadd C dX12_netOf_32 ?_
    obtain ⟨hc3, h⟩ := ifn h
    refine G_laload C ks_142 hc3 dX12_netOf_33 ?_
    refine G_lsub C dX12_netOf_34 ?_
    refine G_ladd C dX12_netOf_35 ?_
    refine G_lstore_n (L' := [(2, .long (x2 + ((sL σ 142 ((((5 : Int32) * x4) + x1)).toNatClampNeg) - (sL σ 142 ((((5 : Int32) * x1) + x4)).toNatClampNeg)))), (0, .ref 81), (1, .int x1), (4, .int x4)]) C rfl (Nat.le_of_ble_eq_true rfl) rfl dX12_netOf_36 ?_
    refine G_iinc (v := 1) (L' := [(4, .int (x4 + (1 : Int32))), (2, .long (x2 + ((sL σ 142 ((((5 : Int32) * x4) + x1)).toNatClampNeg) - (sL σ 142 ((((5 : Int32) * x1) + x4)).toNatClampNeg)))), (0, .ref 81), (1, .int x1)]) C 3 rfl rfl (Nat.le_of_ble_eq_true rfl) rfl dX12_netOf_37 ?_
    refine G_goto (tgt := 5) C rfl dX12_netOf_40 ?_
    refine G_sub [2, 3, 1, 0] rfl ?_
    exact hf5 _ _ _ h
set_option maxRecDepth 100000 in
set_option maxHeartbeats 4000000 in
theorem eX12_netOf_5 (C : Cx E p s m args meth c cX12_netOf 5 RX12) (hr : meth.sig.returnType = (some .long)) {r : Int64} {σ : Sto} {n : Nat} {x1 : Int32} {x2 : Int64} {x4 : Int32} (h : mX12_netOf_5 n x1 x2 x4 σ = some r) : G p l e (rmd 1 0 0) s m args below meth c E true (sZ σ) ad0 (MQ below (QL E true σ r σ ad0) args s 0 0 (AE E)) 5 0 0 σ 5 [(0, .ref 81), (1, .int x1), (2, .long x2), (4, .int x4)] [] := by
  induction n generalizing x1 x2 x4 with
  | zero => exact nomatch (show (none : Option Int64) = some r from h)
  | succ n ih => exact eX12_netOf_5B C hr (fun z0 z1 z2 h9 => ih h9) h
set_option maxRecDepth 100000 in
set_option maxHeartbeats 4000000 in
theorem dX12_netOf {σ : Sto} {p0 : Int32} {r : Int64} (h : mX12_netOf p0 σ = some r) : MM l yX12_netOf cX12_netOf 5 (some .long) 1 0 0 E true σ [.ref 81, .int p0] (QL E true σ r σ) := by
  unfold mX12_netOf at h
  refine MM_of (by decide) (Nat.le_of_ble_eq_true rfl) rfl (fun p e s m args below meth c ad0 C hr hn => ?_)
  refine G_lconst C (v := 0) rfl dX12_netOf_0 ?_
  refine G_lstore_n (L' := [(2, .long (0 : Int64)), (0, .ref 81), (1, .int p0)]) C rfl (Nat.le_of_ble_eq_true rfl) rfl dX12_netOf_1 ?_
  refine G_iconst C (v := 0) rfl dX12_netOf_2 ?_
  refine G_istore (L' := [(4, .int (0 : Int32)), (2, .long (0 : Int64)), (0, .ref 81), (1, .int p0)]) C (Nat.le_of_ble_eq_true rfl) rfl dX12_netOf_3 ?_
  refine G_sub [2, 3, 1, 0] rfl ?_
  exact eX12_netOf_5 C hr h
set_option maxRecDepth 100000 in
set_option maxHeartbeats 4000000 in
theorem dX12_net {σ : Sto} {p0 : Int32} {p1 : Int32} {p2 : Int32} {r1 : Int64} {r2 : Sto} (h : mX12_net p0 p1 p2 σ = some (r1, r2)) : MM l yX12_net cX12_net 4 (some .long) 6 0 0 E true σ [.ref 81, .int p0, .int p1, .int p2] (QL E true σ r1 r2) := by
  unfold mX12_net at h
  refine MM_of (by decide) (Nat.le_of_ble_eq_true rfl) rfl (fun p e s m args below meth c ad0 C hr hn => ?_)
  refine G_aload_n C 0 rfl rfl dX12_net_0 ?_
  refine G_iconst C (v := 0) rfl dX12_net_1 ?_
  obtain ⟨σ1, hs1, h⟩ := stp_elim h
  refine G_putI C fl_X12_208_11 fp_X12_11_0 (Or.inl rfl) (Or.inl rfl) ko_81 dX12_net_2 ?_
  rw [← hs1]
  refine G_aload_n C 0 rfl rfl dX12_net_5 ?_
  refine G_iload_n C 1 rfl rfl dX12_net_6 ?_
  obtain ⟨v2, σ2, hv2, h⟩ := bd2_elim h
  refine G_callI (run_V C [.int p0] [] (dX12_isSociety hv2) ml_X12_isSociety mv_X12_isSociety lk_X12_264 ⟨(Nat.le_of_ble_eq_true rfl), (Nat.le_of_ble_eq_true rfl)⟩ ⟨(Nat.le_of_ble_eq_true rfl), (Nat.le_of_ble_eq_true rfl)⟩ vq_11 rfl ko_81 rfl (Nat.le_of_ble_eq_true rfl) dX12_net_7) ?_
  refine G_if_eq (tgt := 29) C rfl dX12_net_10 (fun hc3 => ?_) (fun hc3 => ?_)
  · replace h := (if_pos hc3).symm.trans h
    refine G_lconst C (v := 0) rfl dX12_net_29 ?_
    obtain ⟨rfl, rfl⟩ := some2 h
    exact G_lret C hr (Nat.le_of_ble_eq_true rfl) (Nat.le_of_ble_eq_true rfl) dX12_net_30
  · replace h := (if_neg hc3).symm.trans h
    refine G_aload_n C 0 rfl rfl dX12_net_13 ?_
    refine G_iload_n C 2 rfl rfl dX12_net_14 ?_
    obtain ⟨v4, σ4, hv4, h⟩ := bd2_elim h
    refine G_callI (run_V C [.int p1] [] (dX12_isYear hv4) ml_X12_isYear mv_X12_isYear lk_X12_480 ⟨(Nat.le_of_ble_eq_true rfl), (Nat.le_of_ble_eq_true rfl)⟩ ⟨(Nat.le_of_ble_eq_true rfl), (Nat.le_of_ble_eq_true rfl)⟩ vq_11 rfl ko_81 rfl (Nat.le_of_ble_eq_true rfl) dX12_net_15) ?_
    refine G_if_eq (tgt := 29) C rfl dX12_net_18 (fun hc5 => ?_) (fun hc5 => ?_)
    · replace h := (if_pos hc5).symm.trans h
      refine G_lconst C (v := 0) rfl dX12_net_29 ?_
      obtain ⟨rfl, rfl⟩ := some2 h
      exact G_lret C hr (Nat.le_of_ble_eq_true rfl) (Nat.le_of_ble_eq_true rfl) dX12_net_30
    · replace h := (if_neg hc5).symm.trans h
      refine G_aload_n C 0 rfl rfl dX12_net_21 ?_
      refine G_iload_n C 3 rfl rfl dX12_net_22 ?_
      obtain ⟨v6, σ6, hv6, h⟩ := bd2_elim h
      refine G_callI (run_V C [.int p2] [] (dX12_isEvening hv6) ml_X12_isEvening mv_X12_isEvening lk_X12_471 ⟨(Nat.le_of_ble_eq_true rfl), (Nat.le_of_ble_eq_true rfl)⟩ ⟨(Nat.le_of_ble_eq_true rfl), (Nat.le_of_ble_eq_true rfl)⟩ vq_11 rfl ko_81 rfl (Nat.le_of_ble_eq_true rfl) dX12_net_23) ?_
      refine G_if_ne (tgt := 31) C rfl dX12_net_26 (fun hc7 => ?_) (fun hc7 => ?_)
      · replace h := (if_neg hc7).symm.trans h
        refine G_aload_n C 0 rfl rfl dX12_net_31 ?_
        refine G_iload_n C 2 rfl rfl dX12_net_32 ?_
        refine G_iload_n C 3 rfl rfl dX12_net_33 ?_
        obtain ⟨σ8, hv8, h⟩ := bnd h
        refine G_callV (run_V C [.int p1, .int p2] [] (dX12_clears hv8) ml_X12_clears mv_X12_clears lk_X12_487 ⟨(Nat.le_of_ble_eq_true rfl), (Nat.le_of_ble_eq_true rfl)⟩ ⟨(Nat.le_of_ble_eq_true rfl), (Nat.le_of_ble_eq_true rfl)⟩ vq_11 rfl ko_81 rfl (Nat.le_of_ble_eq_true rfl) dX12_net_34) ?_
        refine G_aload_n C 0 rfl rfl dX12_net_37 ?_
        refine G_iload_n C 1 rfl rfl dX12_net_38 ?_
        obtain ⟨v9, hv9, h⟩ := bnd h
        refine G_callL (run_V C [.int p0] [] (dX12_netOf hv9) ml_X12_netOf mv_X12_netOf lk_X12_490 ⟨(Nat.le_of_ble_eq_true rfl), (Nat.le_of_ble_eq_true rfl)⟩ ⟨(Nat.le_of_ble_eq_true rfl), (Nat.le_of_ble_eq_true rfl)⟩ vq_11 rfl ko_81 rfl (Nat.le_of_ble_eq_true rfl) dX12_net_39) ?_
        obtain ⟨rfl, rfl⟩ := some2 h
        exact G_lret C hr (Nat.le_of_ble_eq_true rfl) (Nat.le_of_ble_eq_true rfl) dX12_net_42
      · replace h := (if_pos hc7).symm.trans h
        refine G_lconst C (v := 0) rfl dX12_net_29 ?_
        obtain ⟨rfl, rfl⟩ := some2 h
        exact G_lret C hr (Nat.le_of_ble_eq_true rfl) (Nat.le_of_ble_eq_true rfl) dX12_net_30
set_option maxRecDepth 100000 in
set_option maxHeartbeats 4000000 in
theorem eX12_isNothing_5B (C : Cx E p s m args meth c cX12_isNothing 5 RX12) (hr : meth.sig.returnType = (some .boolean)) {r : Int32} {σ : Sto} {f5 : Int32 → Int64 → Int32 → Sto → Option Int32} {x1 : Int32} {x2 : Int64} {x4 : Int32} (hf5 : ∀ (x1 : Int32) (x2 : Int64) (x4 : Int32), f5 x1 x2 x4 σ = some r → G p l e (rmd 2 0 0) s m args below meth c E true (sZ σ) ad0 (MQ below (QI E true σ r σ ad0) args s 0 0 (AE E)) 5 0 0 σ 5 [(0, .ref 81), (1, .int x1), (2, .long x2), (4, .int x4)] []) (h : mX12_isNothing_5B f5 x1 x2 x4 σ = some r) : G p l e (rmd 2 0 0) s m args below meth c E true (sZ σ) ad0 (MQ below (QI E true σ r σ ad0) args s 0 0 (AE E)) 5 0 0 σ 5 [(0, .ref 81), (1, .int x1), (2, .long x2), (4, .int x4)] [] := by
  unfold mX12_isNothing_5B at h
  refine G_iload C 3 rfl dX12_isNothing_5 ?_
  refine G_iconst C (v := 5) rfl dX12_isNothing_7 ?_
  refine G_icmp_ge (tgt := 36) C rfl dX12_isNothing_8 (fun hc1 => ?_) (fun hc1 => ?_)
  · replace h := (if_pos hc1).symm.trans h
    refine G_lload_n C 2 rfl rfl dX12_isNothing_36 ?_
    refine G_lconst C (v := 0) rfl dX12_isNothing_37 ?_
    refine G_lcmp C dX12_isNothing_38 ?_
    refine G_if_ne (tgt := 46) C rfl dX12_isNothing_39 (fun hc2 => ?_) (fun hc2 => ?_)
    · replace h := (if_neg hc2).symm.trans h
      refine G_iconst C (v := 0) rfl dX12_isNothing_46 ?_
      obtain rfl := Option.some.inj h
      exact G_zret C (by decide) hr (Nat.le_of_ble_eq_true rfl) (Nat.le_of_ble_eq_true rfl) dX12_isNothing_47
    · replace h := (if_pos hc2).symm.trans h
      refine G_iconst C (v := 1) rfl dX12_isNothing_42 ?_
      refine G_goto (tgt := 47) C rfl dX12_isNothing_43 ?_
      obtain rfl := Option.some.inj h
      exact G_zret C (by decide) hr (Nat.le_of_ble_eq_true rfl) (Nat.le_of_ble_eq_true rfl) dX12_isNothing_47
  · replace h := (if_neg hc1).symm.trans h
    refine G_iload_n C 1 rfl rfl dX12_isNothing_11 ?_
    refine G_iload C 3 rfl dX12_isNothing_12 ?_
    refine G_ishr C dX12_isNothing_14 ?_
    refine G_iconst C (v := 1) rfl dX12_isNothing_15 ?_
    refine G_iand C dX12_isNothing_16 ?_
    refine G_iconst C (v := 1) rfl dX12_isNothing_17 ?_
    refine G_icmp_ne (tgt := 30) C rfl dX12_isNothing_18 (fun hc3 => ?_) (fun hc3 => ?_)
    · replace h := (if_neg hc3).symm.trans h
      refine G_iinc (v := 1) (L' := [(4, .int (x4 + (1 : Int32))), (0, .ref 81), (1, .int x1), (2, .long x2)]) C 3 rfl rfl (Nat.le_of_ble_eq_true rfl) rfl dX12_isNothing_30 ?_
      refine G_goto (tgt := 5) C rfl dX12_isNothing_33 ?_
      refine G_sub [1, 2, 3, 0] rfl ?_
      exact hf5 _ _ _ h
    · replace h := (if_pos hc3).symm.trans h
      refine G_lload_n C 2 rfl rfl dX12_isNothing_21 ?_
      refine G_aload_n C 0 rfl rfl dX12_isNothing_22 ?_
      refine G_iload C 3 rfl dX12_isNothing_23 ?_
      obtain ⟨v4, hv4, h⟩ := bnd h
      refine G_callL (run_V C [.int x4] [.long x2] (dX12_netOf hv4) ml_X12_netOf mv_X12_netOf lk_X12_490 ⟨(Nat.le_of_ble_eq_true rfl), (Nat.le_of_ble_eq_true rfl)⟩ ⟨(Nat.le_of_ble_eq_true rfl), (Nat.le_of_ble_eq_true rfl)⟩ vq_11 rfl ko_81 rfl (Nat.le_of_ble_eq_true rfl) dX12_isNothing_25) ?_
      refine G_ladd C dX12_isNothing_28 ?_
      refine G_lstore_n (L' := [(2, .long (x2 + v4)), (0, .ref 81), (1, .int x1), (4, .int x4)]) C rfl (Nat.le_of_ble_eq_true rfl) rfl dX12_isNothing_29 ?_
      refine G_iinc (v := 1) (L' := [(4, .int (x4 + (1 : Int32))), (2, .long (x2 + v4)), (0, .ref 81), (1, .int x1)]) C 3 rfl rfl (Nat.le_of_ble_eq_true rfl) rfl dX12_isNothing_30 ?_
      refine G_goto (tgt := 5) C rfl dX12_isNothing_33 ?_
      refine G_sub [2, 3, 1, 0] rfl ?_
      exact hf5 _ _ _ h
set_option maxRecDepth 100000 in
set_option maxHeartbeats 4000000 in
theorem eX12_isNothing_5 (C : Cx E p s m args meth c cX12_isNothing 5 RX12) (hr : meth.sig.returnType = (some .boolean)) {r : Int32} {σ : Sto} {n : Nat} {x1 : Int32} {x2 : Int64} {x4 : Int32} (h : mX12_isNothing_5 n x1 x2 x4 σ = some r) : G p l e (rmd 2 0 0) s m args below meth c E true (sZ σ) ad0 (MQ below (QI E true σ r σ ad0) args s 0 0 (AE E)) 5 0 0 σ 5 [(0, .ref 81), (1, .int x1), (2, .long x2), (4, .int x4)] [] := by
  induction n generalizing x1 x2 x4 with
  | zero => exact nomatch (show (none : Option Int32) = some r from h)
  | succ n ih => exact eX12_isNothing_5B C hr (fun z0 z1 z2 h9 => ih h9) h
set_option maxRecDepth 100000 in
set_option maxHeartbeats 4000000 in
theorem dX12_isNothing {σ : Sto} {p0 : Int32} {r : Int32} (h : mX12_isNothing p0 σ = some r) : MM l yX12_isNothing cX12_isNothing 5 (some .boolean) 2 0 0 E true σ [.ref 81, .int p0] (QI E true σ r σ) := by
  unfold mX12_isNothing at h
  refine MM_of (by decide) (Nat.le_of_ble_eq_true rfl) rfl (fun p e s m args below meth c ad0 C hr hn => ?_)
  refine G_lconst C (v := 0) rfl dX12_isNothing_0 ?_
  refine G_lstore_n (L' := [(2, .long (0 : Int64)), (0, .ref 81), (1, .int p0)]) C rfl (Nat.le_of_ble_eq_true rfl) rfl dX12_isNothing_1 ?_
  refine G_iconst C (v := 0) rfl dX12_isNothing_2 ?_
  refine G_istore (L' := [(4, .int (0 : Int32)), (2, .long (0 : Int64)), (0, .ref 81), (1, .int p0)]) C (Nat.le_of_ble_eq_true rfl) rfl dX12_isNothing_3 ?_
  refine G_sub [2, 3, 1, 0] rfl ?_
  exact eX12_isNothing_5 C hr h
set_option maxRecDepth 100000 in
set_option maxHeartbeats 4000000 in
theorem eX12_payments_157 (C : Cx E p s m args meth c cX12_payments 7 RX12) (hr : meth.sig.returnType = (some .int)) {σ0 : Sto} {r1 : Int32} {r2 : Sto} {σ : Sto} {f79 : Int32 → Int32 → Int32 → Sto → Option (Int32 × Sto)} {f98 : Int32 → Int32 → Int32 → Int32 → Sto → Option (Int32 × Sto)} {x3 : Int32} {x4 : Int32} {x5 : Int32} {x6 : Int32} (hf79 : ∀ (x3 : Int32) (x4 : Int32) (x5 : Int32) (σ' : Sto), f79 x3 x4 x5 σ' = some (r1, r2) → G p l e (rmd 6 0 0) s m args below meth c E true (sZ σ0) ad0 (MQ below (QI E true σ0 r1 r2 ad0) args s 0 0 (AE E)) 7 0 0 σ' 79 [(0, .ref 81), (3, .int x3), (4, .int x4), (5, .int x5)] []) (hf98 : ∀ (x3 : Int32) (x4 : Int32) (x5 : Int32) (x6 : Int32) (σ' : Sto), f98 x3 x4 x5 x6 σ' = some (r1, r2) → G p l e (rmd 6 0 0) s m args below meth c E true (sZ σ0) ad0 (MQ below (QI E true σ0 r1 r2 ad0) args s 0 0 (AE E)) 7 0 0 σ' 98 [(0, .ref 81), (3, .int x3), (4, .int x4), (5, .int x5), (6, .int x6)] []) (h : mX12_payments_157 f79 f98 x3 x4 x5 x6 σ = some (r1, r2)) : G p l e (rmd 6 0 0) s m args below meth c E true (sZ σ0) ad0 (MQ below (QI E true σ0 r1 r2 ad0) args s 0 0 (AE E)) 7 0 0 σ 157 [(0, .ref 81), (3, .int x3), (4, .int x4), (5, .int x5), (6, .int x6)] [] := by
  unfold mX12_payments_157 at h
  refine G_iload C 4 rfl dX12_payments_157 ?_
  refine G_iconst C (v := 1) rfl dX12_payments_159 ?_
  refine G_isub C dX12_payments_160 ?_
  refine G_iload C 3 rfl dX12_payments_161 ?_
  refine G_iand C dX12_payments_163 ?_
  refine G_istore (L' := [(6, .int ((x6 - (1 : Int32)) &&& x5)), (0, .ref 81), (3, .int x3), (4, .int x4), (5, .int x5)]) C (Nat.le_of_ble_eq_true rfl) rfl dX12_payments_164 ?_
  refine G_goto (tgt := 98) C rfl dX12_payments_166 ?_
  refine G_sub [1, 2, 3, 4, 0] rfl ?_
  exact hf98 _ _ _ _ _ h
set_option maxRecDepth 100000 in
set_option maxHeartbeats 4000000 in
theorem eX12_payments_98B (C : Cx E p s m args meth c cX12_payments 7 RX12) (hr : meth.sig.returnType = (some .int)) {σ0 : Sto} {r1 : Int32} {r2 : Sto} {σ : Sto} {f79 : Int32 → Int32 → Int32 → Sto → Option (Int32 × Sto)} {f98 : Int32 → Int32 → Int32 → Int32 → Sto → Option (Int32 × Sto)} {x3 : Int32} {x4 : Int32} {x5 : Int32} {x6 : Int32} (hf79 : ∀ (x3 : Int32) (x4 : Int32) (x5 : Int32) (σ' : Sto), f79 x3 x4 x5 σ' = some (r1, r2) → G p l e (rmd 6 0 0) s m args below meth c E true (sZ σ0) ad0 (MQ below (QI E true σ0 r1 r2 ad0) args s 0 0 (AE E)) 7 0 0 σ' 79 [(0, .ref 81), (3, .int x3), (4, .int x4), (5, .int x5)] []) (hf98 : ∀ (x3 : Int32) (x4 : Int32) (x5 : Int32) (x6 : Int32) (σ' : Sto), f98 x3 x4 x5 x6 σ' = some (r1, r2) → G p l e (rmd 6 0 0) s m args below meth c E true (sZ σ0) ad0 (MQ below (QI E true σ0 r1 r2 ad0) args s 0 0 (AE E)) 7 0 0 σ' 98 [(0, .ref 81), (3, .int x3), (4, .int x4), (5, .int x5), (6, .int x6)] []) (h : mX12_payments_98B f79 f98 x3 x4 x5 x6 σ = some (r1, r2)) : G p l e (rmd 6 0 0) s m args below meth c E true (sZ σ0) ad0 (MQ below (QI E true σ0 r1 r2 ad0) args s 0 0 (AE E)) 7 0 0 σ 98 [(0, .ref 81), (3, .int x3), (4, .int x4), (5, .int x5), (6, .int x6)] [] := by
  unfold mX12_payments_98B at h
  refine G_iload C 4 rfl dX12_payments_98 ?_
  refine G_if_le (tgt := 169) C rfl dX12_payments_100 (fun hc12 => ?_) (fun hc12 => ?_)
  · replace h := (if_pos hc12).symm.trans h
    refine G_iinc (v := 1) (L' := [(5, .int (x5 + (1 : Int32))), (0, .ref 81), (3, .int x3), (4, .int x4), (6, .int x6)]) C 3 rfl rfl (Nat.le_of_ble_eq_true rfl) rfl dX12_payments_169 ?_
    refine G_goto (tgt := 79) C rfl dX12_payments_172 ?_
    refine G_sub [1, 2, 3, 0] rfl ?_
    exact hf79 _ _ _ _ h
  · replace h := (if_neg hc12).symm.trans h
    refine G_aload_n C 0 rfl rfl dX12_payments_103 ?_
    refine G_iload C 4 rfl dX12_payments_104 ?_
    obtain ⟨v13, hv13, h⟩ := bnd h
    refine G_callI (run_V C [.int x6] [] (dX12_isNothing hv13) ml_X12_isNothing mv_X12_isNothing lk_X12_493 ⟨(Nat.le_of_ble_eq_true rfl), (Nat.le_of_ble_eq_true rfl)⟩ ⟨(Nat.le_of_ble_eq_true rfl), (Nat.le_of_ble_eq_true rfl)⟩ vq_11 rfl ko_81 rfl (Nat.le_of_ble_eq_true rfl) dX12_payments_106) ?_
    refine G_if_eq (tgt := 157) C rfl dX12_payments_109 (fun hc14 => ?_) (fun hc14 => ?_)
    · replace h := (if_pos hc14).symm.trans h
      exact eX12_payments_157 C hr hf79 hf98 h
    · replace h := (if_neg hc14).symm.trans h
      refine G_aload_n C 0 rfl rfl dX12_payments_112 ?_
      refine G_getF C fl_X12_199_11 rfl rfl fn_81_97 dX12_payments_113 ?_
      refine G_iload C 3 rfl dX12_payments_116 ?_
      refine G_iload C 4 rfl dX12_payments_118 ?_
      refine G_iconst C (v := -1) rfl dX12_payments_120 ?_
      refine G_ixor C dX12_payments_121 ?_
      refine G_iand C dX12_payments_122 ?_
      obtain ⟨hc15, h⟩ := ifn h
      refine G_iaload C ks_143 hc15 dX12_payments_123 ?_
      refine G_iconst C (v := 1) rfl dX12_payments_124 ?_
      refine G_iadd C dX12_payments_125 ?_
      refine G_aload_n C 0 rfl rfl dX12_payments_126 ?_
      refine G_getF C fl_X12_199_11 rfl rfl fn_81_97 dX12_payments_127 ?_
      refine G_iload C 3 rfl dX12_payments_130 ?_
      obtain ⟨hc16, h⟩ := ifn h
      refine G_iaload C ks_143 hc16 dX12_payments_132 ?_
      refine G_icmp_le (tgt := 157) C rfl dX12_payments_133 (fun hc17 => ?_) (fun hc17 => ?_)
      · replace h := (if_pos hc17).symm.trans h
        exact eX12_payments_157 C hr hf79 hf98 h
      · replace h := (if_neg hc17).symm.trans h
        refine G_aload_n C 0 rfl rfl dX12_payments_136 ?_
        refine G_getF C fl_X12_199_11 rfl rfl fn_81_97 dX12_payments_137 ?_
        refine G_iload C 3 rfl dX12_payments_140 ?_
        refine G_aload_n C 0 rfl rfl dX12_payments_142 ?_
        refine G_getF C fl_X12_199_11 rfl rfl fn_81_97 dX12_payments_143 ?_
        refine G_iload C 3 rfl dX12_payments_146 ?_
        refine G_iload C 4 rfl dX12_payments_148 ?_
        refine G_iconst C (v := -1) rfl dX12_payments_150 ?_
        refine G_ixor C dX12_payments_151 ?_
        refine G_iand C dX12_payments_152 ?_
        refine G_iaload C ks_143 hc15 dX12_payments_153 ?_
        refine G_iconst C (v := 1) rfl dX12_payments_154 ?_
        refine G_iadd C dX12_payments_155 ?_
        obtain ⟨σ18, hs18, h⟩ := stp_elim h
        refine G_iastore C ks_143 hc16 dX12_payments_156 ?_
        rw [← hs18]
        exact eX12_payments_157 C hr hf79 hf98 h
set_option maxRecDepth 100000 in
set_option maxHeartbeats 4000000 in
theorem eX12_payments_98 (C : Cx E p s m args meth c cX12_payments 7 RX12) (hr : meth.sig.returnType = (some .int)) {σ0 : Sto} {r1 : Int32} {r2 : Sto} {σ : Sto} {f79 : Int32 → Int32 → Int32 → Sto → Option (Int32 × Sto)} {n : Nat} {x3 : Int32} {x4 : Int32} {x5 : Int32} {x6 : Int32} (hf79 : ∀ (x3 : Int32) (x4 : Int32) (x5 : Int32) (σ' : Sto), f79 x3 x4 x5 σ' = some (r1, r2) → G p l e (rmd 6 0 0) s m args below meth c E true (sZ σ0) ad0 (MQ below (QI E true σ0 r1 r2 ad0) args s 0 0 (AE E)) 7 0 0 σ' 79 [(0, .ref 81), (3, .int x3), (4, .int x4), (5, .int x5)] []) (h : mX12_payments_98 f79 n x3 x4 x5 x6 σ = some (r1, r2)) : G p l e (rmd 6 0 0) s m args below meth c E true (sZ σ0) ad0 (MQ below (QI E true σ0 r1 r2 ad0) args s 0 0 (AE E)) 7 0 0 σ 98 [(0, .ref 81), (3, .int x3), (4, .int x4), (5, .int x5), (6, .int x6)] [] := by
  induction n generalizing x3 x4 x5 x6 σ with
  | zero => exact nomatch (show (none : Option (Int32 × Sto)) = some (r1, r2) from h)
  | succ n ih => exact eX12_payments_98B C hr hf79 (fun z0 z1 z2 z3 σ9 h9 => ih h9) h
set_option maxRecDepth 100000 in
set_option maxHeartbeats 4000000 in
theorem eX12_payments_79B (C : Cx E p s m args meth c cX12_payments 7 RX12) (hr : meth.sig.returnType = (some .int)) {σ0 : Sto} {r1 : Int32} {r2 : Sto} {σ : Sto} {f79 : Int32 → Int32 → Int32 → Sto → Option (Int32 × Sto)} {x3 : Int32} {x4 : Int32} {x5 : Int32} (hf79 : ∀ (x3 : Int32) (x4 : Int32) (x5 : Int32) (σ' : Sto), f79 x3 x4 x5 σ' = some (r1, r2) → G p l e (rmd 6 0 0) s m args below meth c E true (sZ σ0) ad0 (MQ below (QI E true σ0 r1 r2 ad0) args s 0 0 (AE E)) 7 0 0 σ' 79 [(0, .ref 81), (3, .int x3), (4, .int x4), (5, .int x5)] []) (h : mX12_payments_79B f79 x3 x4 x5 σ = some (r1, r2)) : G p l e (rmd 6 0 0) s m args below meth c E true (sZ σ0) ad0 (MQ below (QI E true σ0 r1 r2 ad0) args s 0 0 (AE E)) 7 0 0 σ 79 [(0, .ref 81), (3, .int x3), (4, .int x4), (5, .int x5)] [] := by
  unfold mX12_payments_79B at h
  refine G_iload C 3 rfl dX12_payments_79 ?_
  refine G_bipush C (v := 32) rfl dX12_payments_81 ?_
  refine G_icmp_ge (tgt := 175) C rfl dX12_payments_83 (fun hc8 => ?_) (fun hc8 => ?_)
  · replace h := (if_pos hc8).symm.trans h
    refine G_iload C 2 rfl dX12_payments_175 ?_
    refine G_aload_n C 0 rfl rfl dX12_payments_177 ?_
    refine G_getF C fl_X12_199_11 rfl rfl fn_81_97 dX12_payments_178 ?_
    refine G_iload_n C 1 rfl rfl dX12_payments_181 ?_
    obtain ⟨hc9, h⟩ := ifn h
    refine G_iaload C ks_143 hc9 dX12_payments_182 ?_
    refine G_isub C dX12_payments_183 ?_
    obtain ⟨rfl, rfl⟩ := some2 h
    exact G_iret C hr (Nat.le_of_ble_eq_true rfl) (Nat.le_of_ble_eq_true rfl) dX12_payments_184
  · replace h := (if_neg hc8).symm.trans h
    refine G_aload_n C 0 rfl rfl dX12_payments_86 ?_
    refine G_getF C fl_X12_199_11 rfl rfl fn_81_97 dX12_payments_87 ?_
    refine G_iload C 3 rfl dX12_payments_90 ?_
    refine G_iconst C (v := 0) rfl dX12_payments_92 ?_
    obtain ⟨hc10, h⟩ := ifn h
    obtain ⟨σ11, hs11, h⟩ := stp_elim h
    refine G_iastore C ks_143 hc10 dX12_payments_93 ?_
    rw [← hs11]
    refine G_iload C 3 rfl dX12_payments_94 ?_
    refine G_istore (L' := [(6, .int x5), (0, .ref 81), (3, .int x3), (4, .int x4), (5, .int x5)]) C (Nat.le_of_ble_eq_true rfl) rfl dX12_payments_96 ?_
    refine G_sub [1, 2, 3, 4, 0] rfl ?_
    exact eX12_payments_98 C hr hf79 h
set_option maxRecDepth 100000 in
set_option maxHeartbeats 4000000 in
theorem eX12_payments_79 (C : Cx E p s m args meth c cX12_payments 7 RX12) (hr : meth.sig.returnType = (some .int)) {σ0 : Sto} {r1 : Int32} {r2 : Sto} {σ : Sto} {n : Nat} {x3 : Int32} {x4 : Int32} {x5 : Int32} (h : mX12_payments_79 n x3 x4 x5 σ = some (r1, r2)) : G p l e (rmd 6 0 0) s m args below meth c E true (sZ σ0) ad0 (MQ below (QI E true σ0 r1 r2 ad0) args s 0 0 (AE E)) 7 0 0 σ 79 [(0, .ref 81), (3, .int x3), (4, .int x4), (5, .int x5)] [] := by
  induction n generalizing x3 x4 x5 σ with
  | zero => exact nomatch (show (none : Option (Int32 × Sto)) = some (r1, r2) from h)
  | succ n ih => exact eX12_payments_79B C hr (fun z0 z1 z2 σ9 h9 => ih h9) h
set_option maxRecDepth 100000 in
set_option maxHeartbeats 4000000 in
theorem eX12_payments_37B (C : Cx E p s m args meth c cX12_payments 7 RX12) (hr : meth.sig.returnType = (some .int)) {σ0 : Sto} {r1 : Int32} {r2 : Sto} {σ : Sto} {f37 : Int32 → Int32 → Int32 → Sto → Option (Int32 × Sto)} {x3 : Int32} {x4 : Int32} {x5 : Int32} (hf37 : ∀ (x3 : Int32) (x4 : Int32) (x5 : Int32) (σ' : Sto), f37 x3 x4 x5 σ' = some (r1, r2) → G p l e (rmd 6 0 0) s m args below meth c E true (sZ σ0) ad0 (MQ below (QI E true σ0 r1 r2 ad0) args s 0 0 (AE E)) 7 0 0 σ' 37 [(0, .ref 81), (3, .int x3), (4, .int x4), (5, .int x5)] []) (h : mX12_payments_37B f37 x3 x4 x5 σ = some (r1, r2)) : G p l e (rmd 6 0 0) s m args below meth c E true (sZ σ0) ad0 (MQ below (QI E true σ0 r1 r2 ad0) args s 0 0 (AE E)) 7 0 0 σ 37 [(0, .ref 81), (3, .int x3), (4, .int x4), (5, .int x5)] [] := by
  unfold mX12_payments_37B at h
  refine G_iload C 3 rfl dX12_payments_37 ?_
  refine G_aload_n C 0 rfl rfl dX12_payments_39 ?_
  refine G_getI C fl_X12_224_11 (Or.inl rfl) ko_81 dX12_payments_40 ?_
  refine G_icmp_ge (tgt := 76) C rfl dX12_payments_43 (fun hc7 => ?_) (fun hc7 => ?_)
  · replace h := (if_pos hc7).symm.trans h
    refine G_iconst C (v := 0) rfl dX12_payments_76 ?_
    refine G_istore (L' := [(5, .int (0 : Int32)), (0, .ref 81), (3, .int x3), (4, .int x4)]) C (Nat.le_of_ble_eq_true rfl) rfl dX12_payments_77 ?_
    refine G_sub [1, 2, 3, 0] rfl ?_
    exact eX12_payments_79 C hr h
  · replace h := (if_neg hc7).symm.trans h
    refine G_aload_n C 0 rfl rfl dX12_payments_46 ?_
    refine G_iload C 3 rfl dX12_payments_47 ?_
    obtain ⟨v19, hv19, h⟩ := bnd h
    refine G_callL (run_V C [.int x5] [] (dX12_netOf hv19) ml_X12_netOf mv_X12_netOf lk_X12_490 ⟨(Nat.le_of_ble_eq_true rfl), (Nat.le_of_ble_eq_true rfl)⟩ ⟨(Nat.le_of_ble_eq_true rfl), (Nat.le_of_ble_eq_true rfl)⟩ vq_11 rfl ko_81 rfl (Nat.le_of_ble_eq_true rfl) dX12_payments_49) ?_
    refine G_lconst C (v := 0) rfl dX12_payments_52 ?_
    refine G_lcmp C dX12_payments_53 ?_
    refine G_if_ne (tgt := 60) C rfl dX12_payments_54 (fun hc20 => ?_) (fun hc20 => ?_)
    · replace h := (if_neg hc20).symm.trans h
      refine G_iload_n C 1 rfl rfl dX12_payments_60 ?_
      refine G_iconst C (v := 1) rfl dX12_payments_61 ?_
      refine G_iload C 3 rfl dX12_payments_62 ?_
      refine G_ishl C dX12_payments_64 ?_
      refine G_ior C dX12_payments_65 ?_
      refine G_istore_n (L' := [(3, .int (x3 ||| ((1 : Int32) <<< (x5 &&& 31)))), (0, .ref 81), (4, .int x4), (5, .int x5)]) C rfl (Nat.le_of_ble_eq_true rfl) rfl dX12_payments_66 ?_
      refine G_iinc (v := 1) (L' := [(4, .int (x4 + (1 : Int32))), (3, .int (x3 ||| ((1 : Int32) <<< (x5 &&& 31)))), (0, .ref 81), (5, .int x5)]) C 2 rfl rfl (Nat.le_of_ble_eq_true rfl) rfl dX12_payments_67 ?_
      refine G_iinc (v := 1) (L' := [(5, .int (x5 + (1 : Int32))), (4, .int (x4 + (1 : Int32))), (3, .int (x3 ||| ((1 : Int32) <<< (x5 &&& 31)))), (0, .ref 81)]) C 3 rfl rfl (Nat.le_of_ble_eq_true rfl) rfl dX12_payments_70 ?_
      refine G_goto (tgt := 37) C rfl dX12_payments_73 ?_
      refine G_sub [3, 2, 1, 0] rfl ?_
      exact hf37 _ _ _ _ h
    · replace h := (if_pos hc20).symm.trans h
      refine G_goto (tgt := 70) C rfl dX12_payments_57 ?_
      refine G_iinc (v := 1) (L' := [(5, .int (x5 + (1 : Int32))), (0, .ref 81), (3, .int x3), (4, .int x4)]) C 3 rfl rfl (Nat.le_of_ble_eq_true rfl) rfl dX12_payments_70 ?_
      refine G_goto (tgt := 37) C rfl dX12_payments_73 ?_
      refine G_sub [1, 2, 3, 0] rfl ?_
      exact hf37 _ _ _ _ h
set_option maxRecDepth 100000 in
set_option maxHeartbeats 4000000 in
theorem eX12_payments_37 (C : Cx E p s m args meth c cX12_payments 7 RX12) (hr : meth.sig.returnType = (some .int)) {σ0 : Sto} {r1 : Int32} {r2 : Sto} {σ : Sto} {n : Nat} {x3 : Int32} {x4 : Int32} {x5 : Int32} (h : mX12_payments_37 n x3 x4 x5 σ = some (r1, r2)) : G p l e (rmd 6 0 0) s m args below meth c E true (sZ σ0) ad0 (MQ below (QI E true σ0 r1 r2 ad0) args s 0 0 (AE E)) 7 0 0 σ 37 [(0, .ref 81), (3, .int x3), (4, .int x4), (5, .int x5)] [] := by
  induction n generalizing x3 x4 x5 σ with
  | zero => exact nomatch (show (none : Option (Int32 × Sto)) = some (r1, r2) from h)
  | succ n ih => exact eX12_payments_37B C hr (fun z0 z1 z2 σ9 h9 => ih h9) h
set_option maxRecDepth 100000 in
set_option maxHeartbeats 4000000 in
theorem dX12_payments {σ : Sto} {p0 : Int32} {p1 : Int32} {r1 : Int32} {r2 : Sto} (h : mX12_payments p0 p1 σ = some (r1, r2)) : MM l yX12_payments cX12_payments 7 (some .int) 6 0 0 E true σ [.ref 81, .int p0, .int p1] (QI E true σ r1 r2) := by
  unfold mX12_payments at h
  refine MM_of (by decide) (Nat.le_of_ble_eq_true rfl) rfl (fun p e s m args below meth c ad0 C hr hn => ?_)
  refine G_aload_n C 0 rfl rfl dX12_payments_0 ?_
  refine G_iconst C (v := 0) rfl dX12_payments_1 ?_
  obtain ⟨σ1, hs1, h⟩ := stp_elim h
  refine G_putI C fl_X12_208_11 fp_X12_11_0 (Or.inl rfl) (Or.inl rfl) ko_81 dX12_payments_2 ?_
  rw [← hs1]
  refine G_aload_n C 0 rfl rfl dX12_payments_5 ?_
  refine G_iload_n C 1 rfl rfl dX12_payments_6 ?_
  obtain ⟨v2, σ2, hv2, h⟩ := bd2_elim h
  refine G_callI (run_V C [.int p0] [] (dX12_isYear hv2) ml_X12_isYear mv_X12_isYear lk_X12_480 ⟨(Nat.le_of_ble_eq_true rfl), (Nat.le_of_ble_eq_true rfl)⟩ ⟨(Nat.le_of_ble_eq_true rfl), (Nat.le_of_ble_eq_true rfl)⟩ vq_11 rfl ko_81 rfl (Nat.le_of_ble_eq_true rfl) dX12_payments_7) ?_
  refine G_if_eq (tgt := 21) C rfl dX12_payments_10 (fun hc3 => ?_) (fun hc3 => ?_)
  · replace h := (if_pos hc3).symm.trans h
    refine G_iconst C (v := 0) rfl dX12_payments_21 ?_
    obtain ⟨rfl, rfl⟩ := some2 h
    exact G_iret C hr (Nat.le_of_ble_eq_true rfl) (Nat.le_of_ble_eq_true rfl) dX12_payments_22
  · replace h := (if_neg hc3).symm.trans h
    refine G_aload_n C 0 rfl rfl dX12_payments_13 ?_
    refine G_iload_n C 2 rfl rfl dX12_payments_14 ?_
    obtain ⟨v4, σ4, hv4, h⟩ := bd2_elim h
    refine G_callI (run_V C [.int p1] [] (dX12_isEvening hv4) ml_X12_isEvening mv_X12_isEvening lk_X12_471 ⟨(Nat.le_of_ble_eq_true rfl), (Nat.le_of_ble_eq_true rfl)⟩ ⟨(Nat.le_of_ble_eq_true rfl), (Nat.le_of_ble_eq_true rfl)⟩ vq_11 rfl ko_81 rfl (Nat.le_of_ble_eq_true rfl) dX12_payments_15) ?_
    refine G_if_ne (tgt := 23) C rfl dX12_payments_18 (fun hc5 => ?_) (fun hc5 => ?_)
    · replace h := (if_neg hc5).symm.trans h
      refine G_aload_n C 0 rfl rfl dX12_payments_23 ?_
      refine G_iload_n C 1 rfl rfl dX12_payments_24 ?_
      refine G_iload_n C 2 rfl rfl dX12_payments_25 ?_
      obtain ⟨σ6, hv6, h⟩ := bnd h
      refine G_callV (run_V C [.int p0, .int p1] [] (dX12_clears hv6) ml_X12_clears mv_X12_clears lk_X12_487 ⟨(Nat.le_of_ble_eq_true rfl), (Nat.le_of_ble_eq_true rfl)⟩ ⟨(Nat.le_of_ble_eq_true rfl), (Nat.le_of_ble_eq_true rfl)⟩ vq_11 rfl ko_81 rfl (Nat.le_of_ble_eq_true rfl) dX12_payments_26) ?_
      refine G_iconst C (v := 0) rfl dX12_payments_29 ?_
      refine G_istore_n (L' := [(3, .int (0 : Int32)), (0, .ref 81), (1, .int p0), (2, .int p1)]) C rfl (Nat.le_of_ble_eq_true rfl) rfl dX12_payments_30 ?_
      refine G_iconst C (v := 0) rfl dX12_payments_31 ?_
      refine G_istore (L' := [(4, .int (0 : Int32)), (3, .int (0 : Int32)), (0, .ref 81), (1, .int p0), (2, .int p1)]) C (Nat.le_of_ble_eq_true rfl) rfl dX12_payments_32 ?_
      refine G_iconst C (v := 0) rfl dX12_payments_34 ?_
      refine G_istore (L' := [(5, .int (0 : Int32)), (4, .int (0 : Int32)), (3, .int (0 : Int32)), (0, .ref 81), (1, .int p0), (2, .int p1)]) C (Nat.le_of_ble_eq_true rfl) rfl dX12_payments_35 ?_
      refine G_sub [3, 2, 1, 0] rfl ?_
      exact eX12_payments_37 C hr h
    · replace h := (if_pos hc5).symm.trans h
      refine G_iconst C (v := 0) rfl dX12_payments_21 ?_
      obtain ⟨rfl, rfl⟩ := some2 h
      exact G_iret C hr (Nat.le_of_ble_eq_true rfl) (Nat.le_of_ble_eq_true rfl) dX12_payments_22
set_option maxRecDepth 100000 in
set_option maxHeartbeats 4000000 in
theorem dX12_isNear {σ : Sto} {p0 : Int32} {p1 : Int32} {p2 : Int32} {r : Int32} (h : mX12_isNear p0 p1 p2 σ = r) : MM l yX12_isNear cX12_isNear 5 (some .boolean) 1 0 0 E st σ [.int p0, .int p1, .int p2] (QI E st σ r σ) := by
  unfold mX12_isNear at h
  refine MM_of (by decide) (Nat.le_of_ble_eq_true rfl) rfl (fun p e s m args below meth c ad0 C hr hn => ?_)
  refine G_iload_n C 0 rfl rfl dX12_isNear_0 ?_
  refine G_i2l C dX12_isNear_1 ?_
  refine G_iload_n C 1 rfl rfl dX12_isNear_2 ?_
  refine G_i2l C dX12_isNear_3 ?_
  refine G_lsub C dX12_isNear_4 ?_
  refine G_lstore_n (L' := [(3, .long ((p0).toInt64 - (p1).toInt64)), (0, .int p0), (1, .int p1), (2, .int p2)]) C rfl (Nat.le_of_ble_eq_true rfl) rfl dX12_isNear_5 ?_
  refine G_lload_n C 0 rfl rfl dX12_isNear_6 ?_
  refine G_iload_n C 3 rfl rfl dX12_isNear_7 ?_
  refine G_i2l C dX12_isNear_8 ?_
  refine G_lcmp C dX12_isNear_9 ?_
  refine G_if_gt (tgt := 25) C rfl dX12_isNear_10 (fun hc1 => ?_) (fun hc1 => ?_)
  · replace h := (if_pos hc1).symm.trans h
    refine G_iconst C (v := 0) rfl dX12_isNear_25 ?_
    subst h
    exact G_zret C (by decide) hr (Nat.le_of_ble_eq_true rfl) (Nat.le_of_ble_eq_true rfl) dX12_isNear_26
  · replace h := (if_neg hc1).symm.trans h
    refine G_lload_n C 0 rfl rfl dX12_isNear_13 ?_
    refine G_lneg C dX12_isNear_14 ?_
    refine G_iload_n C 3 rfl rfl dX12_isNear_15 ?_
    refine G_i2l C dX12_isNear_16 ?_
    refine G_lcmp C dX12_isNear_17 ?_
    refine G_if_gt (tgt := 25) C rfl dX12_isNear_18 (fun hc2 => ?_) (fun hc2 => ?_)
    · replace h := (if_pos hc2).symm.trans h
      refine G_iconst C (v := 0) rfl dX12_isNear_25 ?_
      subst h
      exact G_zret C (by decide) hr (Nat.le_of_ble_eq_true rfl) (Nat.le_of_ble_eq_true rfl) dX12_isNear_26
    · replace h := (if_neg hc2).symm.trans h
      refine G_iconst C (v := 1) rfl dX12_isNear_21 ?_
      refine G_goto (tgt := 26) C rfl dX12_isNear_22 ?_
      subst h
      exact G_zret C (by decide) hr (Nat.le_of_ble_eq_true rfl) (Nat.le_of_ble_eq_true rfl) dX12_isNear_26
set_option maxRecDepth 100000 in
set_option maxHeartbeats 4000000 in
theorem eX12_again_91 (C : Cx E p s m args meth c cX12_again 8 RX12) (hr : meth.sig.returnType = (some .int)) {σ0 : Sto} {r1 : Int32} {r2 : Sto} {σ : Sto} {f31 : Int32 → Int32 → Int32 → Int32 → Int32 → Int32 → Sto → Option (Int32 × Sto)} {x1 : Int32} {x2 : Int32} {x3 : Int32} {x4 : Int32} {x5 : Int32} {x6 : Int32} {y0 : Int32} (hf31 : ∀ (x1 : Int32) (x2 : Int32) (x3 : Int32) (x4 : Int32) (x5 : Int32) (x6 : Int32) (σ' : Sto), f31 x1 x2 x3 x4 x5 x6 σ' = some (r1, r2) → G p l e (rmd 2 0 0) s m args below meth c E true (sZ σ0) ad0 (MQ below (QI E true σ0 r1 r2 ad0) args s 0 0 (AE E)) 8 0 0 σ' 31 [(0, .ref 81), (1, .int x1), (2, .int x2), (3, .int x3), (4, .int x4), (5, .int x5), (6, .int x6)] []) (h : mX12_again_91 f31 x1 x2 x3 x4 x5 x6 y0 σ = some (r1, r2)) : G p l e (rmd 2 0 0) s m args below meth c E true (sZ σ0) ad0 (MQ below (QI E true σ0 r1 r2 ad0) args s 0 0 (AE E)) 8 0 0 σ 91 [(0, .ref 81), (1, .int x1), (2, .int x2), (3, .int x3), (4, .int x4), (5, .int x5), (6, .int x6)] [.int y0] := by
  unfold mX12_again_91 at h
  refine G_istore (L' := [(7, .int y0), (0, .ref 81), (1, .int x1), (2, .int x2), (3, .int x3), (4, .int x4), (5, .int x5), (6, .int x6)]) C (Nat.le_of_ble_eq_true rfl) rfl dX12_again_91 ?_
  refine G_iload C 0 rfl dX12_again_93 ?_
  refine G_if_eq (tgt := 107) C rfl dX12_again_95 (fun hc8 => ?_) (fun hc8 => ?_)
  · replace h := (if_pos hc8).symm.trans h
    refine G_iinc (v := 1) (L' := [(6, .int (x6 + (1 : Int32))), (7, .int y0), (0, .ref 81), (1, .int x1), (2, .int x2), (3, .int x3), (4, .int x4), (5, .int x5)]) C 7 rfl rfl (Nat.le_of_ble_eq_true rfl) rfl dX12_again_107 ?_
    refine G_goto (tgt := 31) C rfl dX12_again_110 ?_
    refine G_sub [2, 3, 4, 5, 6, 7, 0] rfl ?_
    exact hf31 _ _ _ _ _ _ _ h
  · replace h := (if_neg hc8).symm.trans h
    refine G_iload C 6 rfl dX12_again_98 ?_
    refine G_iconst C (v := 1) rfl dX12_again_100 ?_
    refine G_iload C 7 rfl dX12_again_101 ?_
    refine G_ishl C dX12_again_103 ?_
    refine G_ior C dX12_again_104 ?_
    refine G_istore (L' := [(5, .int (x5 ||| ((1 : Int32) <<< (x6 &&& 31)))), (7, .int y0), (0, .ref 81), (1, .int x1), (2, .int x2), (3, .int x3), (4, .int x4), (6, .int x6)]) C (Nat.le_of_ble_eq_true rfl) rfl dX12_again_105 ?_
    refine G_iinc (v := 1) (L' := [(6, .int (x6 + (1 : Int32))), (5, .int (x5 ||| ((1 : Int32) <<< (x6 &&& 31)))), (7, .int y0), (0, .ref 81), (1, .int x1), (2, .int x2), (3, .int x3), (4, .int x4)]) C 7 rfl rfl (Nat.le_of_ble_eq_true rfl) rfl dX12_again_107 ?_
    refine G_goto (tgt := 31) C rfl dX12_again_110 ?_
    refine G_sub [3, 4, 5, 6, 7, 1, 0] rfl ?_
    exact hf31 _ _ _ _ _ _ _ h
set_option maxRecDepth 100000 in
set_option maxHeartbeats 4000000 in
theorem eX12_again_90 (C : Cx E p s m args meth c cX12_again 8 RX12) (hr : meth.sig.returnType = (some .int)) {σ0 : Sto} {r1 : Int32} {r2 : Sto} {σ : Sto} {f31 : Int32 → Int32 → Int32 → Int32 → Int32 → Int32 → Sto → Option (Int32 × Sto)} {x1 : Int32} {x2 : Int32} {x3 : Int32} {x4 : Int32} {x5 : Int32} {x6 : Int32} (hf31 : ∀ (x1 : Int32) (x2 : Int32) (x3 : Int32) (x4 : Int32) (x5 : Int32) (x6 : Int32) (σ' : Sto), f31 x1 x2 x3 x4 x5 x6 σ' = some (r1, r2) → G p l e (rmd 2 0 0) s m args below meth c E true (sZ σ0) ad0 (MQ below (QI E true σ0 r1 r2 ad0) args s 0 0 (AE E)) 8 0 0 σ' 31 [(0, .ref 81), (1, .int x1), (2, .int x2), (3, .int x3), (4, .int x4), (5, .int x5), (6, .int x6)] []) (h : mX12_again_90 f31 x1 x2 x3 x4 x5 x6 σ = some (r1, r2)) : G p l e (rmd 2 0 0) s m args below meth c E true (sZ σ0) ad0 (MQ below (QI E true σ0 r1 r2 ad0) args s 0 0 (AE E)) 8 0 0 σ 90 [(0, .ref 81), (1, .int x1), (2, .int x2), (3, .int x3), (4, .int x4), (5, .int x5), (6, .int x6)] [] := by
  unfold mX12_again_90 at h
  refine G_iconst C (v := 0) rfl dX12_again_90 ?_
  exact eX12_again_91 C hr hf31 h
set_option maxRecDepth 100000 in
set_option maxHeartbeats 4000000 in
theorem eX12_again_31B (C : Cx E p s m args meth c cX12_again 8 RX12) (hr : meth.sig.returnType = (some .int)) {σ0 : Sto} {r1 : Int32} {r2 : Sto} {σ : Sto} {f31 : Int32 → Int32 → Int32 → Int32 → Int32 → Int32 → Sto → Option (Int32 × Sto)} {x1 : Int32} {x2 : Int32} {x3 : Int32} {x4 : Int32} {x5 : Int32} {x6 : Int32} (hf31 : ∀ (x1 : Int32) (x2 : Int32) (x3 : Int32) (x4 : Int32) (x5 : Int32) (x6 : Int32) (σ' : Sto), f31 x1 x2 x3 x4 x5 x6 σ' = some (r1, r2) → G p l e (rmd 2 0 0) s m args below meth c E true (sZ σ0) ad0 (MQ below (QI E true σ0 r1 r2 ad0) args s 0 0 (AE E)) 8 0 0 σ' 31 [(0, .ref 81), (1, .int x1), (2, .int x2), (3, .int x3), (4, .int x4), (5, .int x5), (6, .int x6)] []) (h : mX12_again_31B f31 x1 x2 x3 x4 x5 x6 σ = some (r1, r2)) : G p l e (rmd 2 0 0) s m args below meth c E true (sZ σ0) ad0 (MQ below (QI E true σ0 r1 r2 ad0) args s 0 0 (AE E)) 8 0 0 σ 31 [(0, .ref 81), (1, .int x1), (2, .int x2), (3, .int x3), (4, .int x4), (5, .int x5), (6, .int x6)] [] := by
  unfold mX12_again_31B at h
  refine G_iload C 6 rfl dX12_again_31 ?_
  refine G_aload_n C 0 rfl rfl dX12_again_33 ?_
  refine G_getI C fl_X12_221_11 (Or.inl rfl) ko_81 dX12_again_34 ?_
  refine G_icmp_ge (tgt := 113) C rfl dX12_again_37 (fun hc5 => ?_) (fun hc5 => ?_)
  · replace h := (if_pos hc5).symm.trans h
    refine G_iload C 5 rfl dX12_again_113 ?_
    obtain ⟨rfl, rfl⟩ := some2 h
    exact G_iret C hr (Nat.le_of_ble_eq_true rfl) (Nat.le_of_ble_eq_true rfl) dX12_again_115
  · replace h := (if_neg hc5).symm.trans h
    refine G_iload_n C 1 rfl rfl dX12_again_40 ?_
    refine G_aload_n C 0 rfl rfl dX12_again_41 ?_
    refine G_getF C fl_X12_28_11 rfl rfl fn_81_15 dX12_again_42 ?_
    refine G_iload C 6 rfl dX12_again_45 ?_
    obtain ⟨hc6, h⟩ := ifn h
    refine G_iaload C ks_88 hc6 dX12_again_47 ?_
    refine G_iconst C (v := -1) rfl dX12_again_48 ?_
    refine G_ixor C dX12_again_49 ?_
    refine G_iand C dX12_again_50 ?_
    refine G_if_ne (tgt := 90) C rfl dX12_again_51 (fun hc7 => ?_) (fun hc7 => ?_)
    · replace h := (if_neg hc7).symm.trans h
      exact eX12_again_90 C hr hf31 h
    · replace h := (if_pos hc7).symm.trans h
      refine G_iload_n C 2 rfl rfl dX12_again_54 ?_
      refine G_aload_n C 0 rfl rfl dX12_again_55 ?_
      refine G_getF C fl_X12_31_11 rfl rfl fn_81_16 dX12_again_56 ?_
      refine G_iload C 6 rfl dX12_again_59 ?_
      refine G_iaload C ks_89 hc6 dX12_again_61 ?_
      refine G_iload C 4 rfl dX12_again_62 ?_
      refine G_callI (run_S C [.int x2, .int (sI σ 89 (x6).toNatClampNeg), .int x4] [] (dX12_isNear rfl) ml_X12_isNear ms_X12_isNear lk_X12_496 ⟨(Nat.le_of_ble_eq_true rfl), (Nat.le_of_ble_eq_true rfl)⟩ ⟨(Nat.le_of_ble_eq_true rfl), (Nat.le_of_ble_eq_true rfl)⟩ rfl (Nat.le_of_ble_eq_true rfl) dX12_again_64) ?_
      refine G_if_eq (tgt := 90) C rfl dX12_again_67 (fun hc10 => ?_) (fun hc10 => ?_)
      · replace h := (if_pos hc10).symm.trans h
        exact eX12_again_90 C hr hf31 h
      · replace h := (if_neg hc10).symm.trans h
        refine G_iload_n C 3 rfl rfl dX12_again_70 ?_
        refine G_aload_n C 0 rfl rfl dX12_again_71 ?_
        refine G_getF C fl_X12_34_11 rfl rfl fn_81_17 dX12_again_72 ?_
        refine G_iload C 6 rfl dX12_again_75 ?_
        refine G_iaload C ks_90 hc6 dX12_again_77 ?_
        refine G_iload C 4 rfl dX12_again_78 ?_
        refine G_callI (run_S C [.int x3, .int (sI σ 90 (x6).toNatClampNeg), .int x4] [] (dX12_isNear rfl) ml_X12_isNear ms_X12_isNear lk_X12_496 ⟨(Nat.le_of_ble_eq_true rfl), (Nat.le_of_ble_eq_true rfl)⟩ ⟨(Nat.le_of_ble_eq_true rfl), (Nat.le_of_ble_eq_true rfl)⟩ rfl (Nat.le_of_ble_eq_true rfl) dX12_again_80) ?_
        refine G_if_eq (tgt := 90) C rfl dX12_again_83 (fun hc12 => ?_) (fun hc12 => ?_)
        · replace h := (if_pos hc12).symm.trans h
          exact eX12_again_90 C hr hf31 h
        · replace h := (if_neg hc12).symm.trans h
          refine G_iconst C (v := 1) rfl dX12_again_86 ?_
          refine G_goto (tgt := 91) C rfl dX12_again_87 ?_
          exact eX12_again_91 C hr hf31 h
set_option maxRecDepth 100000 in
set_option maxHeartbeats 4000000 in
theorem eX12_again_31 (C : Cx E p s m args meth c cX12_again 8 RX12) (hr : meth.sig.returnType = (some .int)) {σ0 : Sto} {r1 : Int32} {r2 : Sto} {σ : Sto} {n : Nat} {x1 : Int32} {x2 : Int32} {x3 : Int32} {x4 : Int32} {x5 : Int32} {x6 : Int32} (h : mX12_again_31 n x1 x2 x3 x4 x5 x6 σ = some (r1, r2)) : G p l e (rmd 2 0 0) s m args below meth c E true (sZ σ0) ad0 (MQ below (QI E true σ0 r1 r2 ad0) args s 0 0 (AE E)) 8 0 0 σ 31 [(0, .ref 81), (1, .int x1), (2, .int x2), (3, .int x3), (4, .int x4), (5, .int x5), (6, .int x6)] [] := by
  induction n generalizing x1 x2 x3 x4 x5 x6 σ with
  | zero => exact nomatch (show (none : Option (Int32 × Sto)) = some (r1, r2) from h)
  | succ n ih => exact eX12_again_31B C hr (fun z0 z1 z2 z3 z4 z5 σ9 h9 => ih h9) h
set_option maxRecDepth 100000 in
set_option maxHeartbeats 4000000 in
theorem eX12_again_16 (C : Cx E p s m args meth c cX12_again 8 RX12) (hr : meth.sig.returnType = (some .int)) {σ0 : Sto} {r1 : Int32} {r2 : Sto} {σ : Sto} {x1 : Int32} {x2 : Int32} {x3 : Int32} {x4 : Int32} {y1 : Int32} (h : mX12_again_16 x1 x2 x3 x4 y1 σ = some (r1, r2)) : G p l e (rmd 2 0 0) s m args below meth c E true (sZ σ0) ad0 (MQ below (QI E true σ0 r1 r2 ad0) args s 0 0 (AE E)) 8 0 0 σ 16 [(0, .ref 81), (1, .int x1), (2, .int x2), (3, .int x3), (4, .int x4)] [.int y1, .ref 81] := by
  unfold mX12_again_16 at h
  refine G_iconst C (v := 1) rfl dX12_again_16 ?_
  obtain ⟨v3, σ3, hv3, h⟩ := bd2_elim h
  refine G_callI (run_V C [.int y1, .int (1 : Int32)] [] (dX12_right hv3) ml_X12_right mv_X12_right lk_X12_214 ⟨(Nat.le_of_ble_eq_true rfl), (Nat.le_of_ble_eq_true rfl)⟩ ⟨(Nat.le_of_ble_eq_true rfl), (Nat.le_of_ble_eq_true rfl)⟩ vq_11 rfl ko_81 rfl (Nat.le_of_ble_eq_true rfl) dX12_again_17) ?_
  refine G_if_ne (tgt := 25) C rfl dX12_again_20 (fun hc4 => ?_) (fun hc4 => ?_)
  · replace h := (if_neg hc4).symm.trans h
    refine G_iconst C (v := 0) rfl dX12_again_25 ?_
    refine G_istore (L' := [(5, .int (0 : Int32)), (0, .ref 81), (1, .int x1), (2, .int x2), (3, .int x3), (4, .int x4)]) C (Nat.le_of_ble_eq_true rfl) rfl dX12_again_26 ?_
    refine G_iconst C (v := 0) rfl dX12_again_28 ?_
    refine G_istore (L' := [(6, .int (0 : Int32)), (5, .int (0 : Int32)), (0, .ref 81), (1, .int x1), (2, .int x2), (3, .int x3), (4, .int x4)]) C (Nat.le_of_ble_eq_true rfl) rfl dX12_again_29 ?_
    refine G_sub [2, 3, 4, 5, 6, 1, 0] rfl ?_
    exact eX12_again_31 C hr h
  · replace h := (if_pos hc4).symm.trans h
    refine G_iconst C (v := 0) rfl dX12_again_23 ?_
    obtain ⟨rfl, rfl⟩ := some2 h
    exact G_iret C hr (Nat.le_of_ble_eq_true rfl) (Nat.le_of_ble_eq_true rfl) dX12_again_24
set_option maxRecDepth 100000 in
set_option maxHeartbeats 4000000 in
theorem dX12_again {σ : Sto} {p0 : Int32} {p1 : Int32} {p2 : Int32} {p3 : Int32} {r1 : Int32} {r2 : Sto} (h : mX12_again p0 p1 p2 p3 σ = some (r1, r2)) : MM l yX12_again cX12_again 8 (some .int) 2 0 0 E true σ [.ref 81, .int p0, .int p1, .int p2, .int p3] (QI E true σ r1 r2) := by
  unfold mX12_again at h
  refine MM_of (by decide) (Nat.le_of_ble_eq_true rfl) rfl (fun p e s m args below meth c ad0 C hr hn => ?_)
  refine G_aload_n C 0 rfl rfl dX12_again_0 ?_
  refine G_iconst C (v := 0) rfl dX12_again_1 ?_
  obtain ⟨σ1, hs1, h⟩ := stp_elim h
  refine G_putI C fl_X12_208_11 fp_X12_11_0 (Or.inl rfl) (Or.inl rfl) ko_81 dX12_again_2 ?_
  rw [← hs1]
  refine G_aload_n C 0 rfl rfl dX12_again_5 ?_
  refine G_iload C 4 rfl dX12_again_6 ?_
  refine G_if_lt (tgt := 15) C rfl dX12_again_8 (fun hc2 => ?_) (fun hc2 => ?_)
  · replace h := (if_pos hc2).symm.trans h
    refine G_iconst C (v := 0) rfl dX12_again_15 ?_
    exact eX12_again_16 C hr h
  · replace h := (if_neg hc2).symm.trans h
    refine G_iconst C (v := 1) rfl dX12_again_11 ?_
    refine G_goto (tgt := 16) C rfl dX12_again_12 ?_
    exact eX12_again_16 C hr h
set_option maxRecDepth 100000 in
set_option maxHeartbeats 4000000 in
theorem eX12_handles_113 (C : Cx E p s m args meth c cX12_handles 5 RX12) (hr : meth.sig.returnType = none) {σ0 : Sto} {r2 : Sto} {σ : Sto} {f7 : Int32 → Int32 → Int32 → Sto → Option Sto} {x1 : Int32} {x2 : Int32} {x3 : Int32} {x4 : Int32} (hf7 : ∀ (x1 : Int32) (x2 : Int32) (x3 : Int32) (σ' : Sto), f7 x1 x2 x3 σ' = some r2 → G p l e (rmd 2 0 0) s m args below meth c E true (sZ σ0) ad0 (MQ below (QV E true σ0 r2 ad0) args s 0 0 (AE E)) 5 0 0 σ' 7 [(0, .ref 81), (1, .int x1), (2, .int x2), (3, .int x3)] []) (h : mX12_handles_113 f7 x1 x2 x3 x4 σ = some r2) : G p l e (rmd 2 0 0) s m args below meth c E true (sZ σ0) ad0 (MQ below (QV E true σ0 r2 ad0) args s 0 0 (AE E)) 5 0 0 σ 113 [(0, .ref 81), (1, .int x1), (2, .int x2), (3, .int x3), (4, .int x4)] [] := by
  unfold mX12_handles_113 at h
  refine G_aload_n C 0 rfl rfl dX12_handles_113 ?_
  refine G_getF C fl_X12_202_11 rfl rfl fn_81_99 dX12_handles_114 ?_
  refine G_iload C 4 rfl dX12_handles_117 ?_
  refine G_iload_n C 3 rfl rfl dX12_handles_119 ?_
  obtain ⟨hc10, h⟩ := ifn h
  obtain ⟨σ11, hs11, h⟩ := stp_elim h
  refine G_iastore C ks_144 hc10 dX12_handles_120 ?_
  rw [← hs11]
  refine G_aload_n C 0 rfl rfl dX12_handles_121 ?_
  refine G_dup C rfl dX12_handles_122 ?_
  refine G_getI C fl_X12_499_11 (Or.inl rfl) ko_81 dX12_handles_123 ?_
  refine G_iconst C (v := 1) rfl dX12_handles_126 ?_
  refine G_iadd C dX12_handles_127 ?_
  obtain ⟨σ12, hs12, h⟩ := stp_elim h
  refine G_putI C fl_X12_499_11 fp_X12_11_98 (Or.inl rfl) (Or.inl rfl) ko_81 dX12_handles_128 ?_
  rw [← hs12]
  refine G_iinc (v := 1) (L' := [(3, .int (x3 + (1 : Int32))), (0, .ref 81), (1, .int x1), (2, .int x2), (4, .int x4)]) C 3 rfl rfl (Nat.le_of_ble_eq_true rfl) rfl dX12_handles_131 ?_
  refine G_goto (tgt := 7) C rfl dX12_handles_134 ?_
  refine G_sub [1, 2, 3, 0] rfl ?_
  exact hf7 _ _ _ _ h
set_option maxRecDepth 100000 in
set_option maxHeartbeats 4000000 in
theorem eX12_handles_63B (C : Cx E p s m args meth c cX12_handles 5 RX12) (hr : meth.sig.returnType = none) {σ0 : Sto} {r2 : Sto} {σ : Sto} {f7 : Int32 → Int32 → Int32 → Sto → Option Sto} {f63 : Int32 → Int32 → Int32 → Int32 → Sto → Option Sto} {x1 : Int32} {x2 : Int32} {x3 : Int32} {x4 : Int32} (hf7 : ∀ (x1 : Int32) (x2 : Int32) (x3 : Int32) (σ' : Sto), f7 x1 x2 x3 σ' = some r2 → G p l e (rmd 2 0 0) s m args below meth c E true (sZ σ0) ad0 (MQ below (QV E true σ0 r2 ad0) args s 0 0 (AE E)) 5 0 0 σ' 7 [(0, .ref 81), (1, .int x1), (2, .int x2), (3, .int x3)] []) (hf63 : ∀ (x1 : Int32) (x2 : Int32) (x3 : Int32) (x4 : Int32) (σ' : Sto), f63 x1 x2 x3 x4 σ' = some r2 → G p l e (rmd 2 0 0) s m args below meth c E true (sZ σ0) ad0 (MQ below (QV E true σ0 r2 ad0) args s 0 0 (AE E)) 5 0 0 σ' 63 [(0, .ref 81), (1, .int x1), (2, .int x2), (3, .int x3), (4, .int x4)] []) (h : mX12_handles_63B f7 f63 x1 x2 x3 x4 σ = some r2) : G p l e (rmd 2 0 0) s m args below meth c E true (sZ σ0) ad0 (MQ below (QV E true σ0 r2 ad0) args s 0 0 (AE E)) 5 0 0 σ 63 [(0, .ref 81), (1, .int x1), (2, .int x2), (3, .int x3), (4, .int x4)] [] := by
  unfold mX12_handles_63B at h
  refine G_iload C 4 rfl dX12_handles_63 ?_
  refine G_if_le (tgt := 113) C rfl dX12_handles_65 (fun hc9 => ?_) (fun hc9 => ?_)
  · replace h := (if_pos hc9).symm.trans h
    exact eX12_handles_113 C hr hf7 h
  · replace h := (if_neg hc9).symm.trans h
    refine G_aload_n C 0 rfl rfl dX12_handles_68 ?_
    refine G_getF C fl_X12_68_11 rfl rfl fn_81_28 dX12_handles_69 ?_
    refine G_aload_n C 0 rfl rfl dX12_handles_72 ?_
    refine G_getF C fl_X12_202_11 rfl rfl fn_81_99 dX12_handles_73 ?_
    refine G_iload C 4 rfl dX12_handles_76 ?_
    refine G_iconst C (v := 1) rfl dX12_handles_78 ?_
    refine G_isub C dX12_handles_79 ?_
    obtain ⟨hc13, h⟩ := ifn h
    refine G_iaload C ks_144 hc13 dX12_handles_80 ?_
    obtain ⟨hc14, h⟩ := ifn h
    refine G_iaload C ks_101 hc14 dX12_handles_81 ?_
    refine G_aload_n C 0 rfl rfl dX12_handles_82 ?_
    refine G_getF C fl_X12_68_11 rfl rfl fn_81_28 dX12_handles_83 ?_
    refine G_iload_n C 3 rfl rfl dX12_handles_86 ?_
    obtain ⟨hc15, h⟩ := ifn h
    refine G_iaload C ks_101 hc15 dX12_handles_87 ?_
    refine G_icmp_le (tgt := 113) C rfl dX12_handles_88 (fun hc16 => ?_) (fun hc16 => ?_)
    · replace h := (if_pos hc16).symm.trans h
      exact eX12_handles_113 C hr hf7 h
    · replace h := (if_neg hc16).symm.trans h
      refine G_aload_n C 0 rfl rfl dX12_handles_91 ?_
      refine G_getF C fl_X12_202_11 rfl rfl fn_81_99 dX12_handles_92 ?_
      refine G_iload C 4 rfl dX12_handles_95 ?_
      refine G_aload_n C 0 rfl rfl dX12_handles_97 ?_
      refine G_getF C fl_X12_202_11 rfl rfl fn_81_99 dX12_handles_98 ?_
      refine G_iload C 4 rfl dX12_handles_101 ?_
      refine G_iconst C (v := 1) rfl dX12_handles_103 ?_
      refine G_isub C dX12_handles_104 ?_
      refine G_iaload C ks_144 hc13 dX12_handles_105 ?_
      obtain ⟨hc17, h⟩ := ifn h
      obtain ⟨σ18, hs18, h⟩ := stp_elim h
      refine G_iastore C ks_144 hc17 dX12_handles_106 ?_
      rw [← hs18]
      refine G_iinc (v := -1) (L' := [(4, .int (x4 + (-1 : Int32))), (0, .ref 81), (1, .int x1), (2, .int x2), (3, .int x3)]) C 4 rfl rfl (Nat.le_of_ble_eq_true rfl) rfl dX12_handles_107 ?_
      refine G_goto (tgt := 63) C rfl dX12_handles_110 ?_
      refine G_sub [1, 2, 3, 4, 0] rfl ?_
      exact hf63 _ _ _ _ _ h
set_option maxRecDepth 100000 in
set_option maxHeartbeats 4000000 in
theorem eX12_handles_63 (C : Cx E p s m args meth c cX12_handles 5 RX12) (hr : meth.sig.returnType = none) {σ0 : Sto} {r2 : Sto} {σ : Sto} {f7 : Int32 → Int32 → Int32 → Sto → Option Sto} {n : Nat} {x1 : Int32} {x2 : Int32} {x3 : Int32} {x4 : Int32} (hf7 : ∀ (x1 : Int32) (x2 : Int32) (x3 : Int32) (σ' : Sto), f7 x1 x2 x3 σ' = some r2 → G p l e (rmd 2 0 0) s m args below meth c E true (sZ σ0) ad0 (MQ below (QV E true σ0 r2 ad0) args s 0 0 (AE E)) 5 0 0 σ' 7 [(0, .ref 81), (1, .int x1), (2, .int x2), (3, .int x3)] []) (h : mX12_handles_63 f7 n x1 x2 x3 x4 σ = some r2) : G p l e (rmd 2 0 0) s m args below meth c E true (sZ σ0) ad0 (MQ below (QV E true σ0 r2 ad0) args s 0 0 (AE E)) 5 0 0 σ 63 [(0, .ref 81), (1, .int x1), (2, .int x2), (3, .int x3), (4, .int x4)] [] := by
  induction n generalizing x1 x2 x3 x4 σ with
  | zero => exact nomatch (show (none : Option Sto) = some r2 from h)
  | succ n ih => exact eX12_handles_63B C hr hf7 (fun z0 z1 z2 z3 σ9 h9 => ih h9) h
set_option maxRecDepth 100000 in
set_option maxHeartbeats 4000000 in
theorem eX12_handles_7B (C : Cx E p s m args meth c cX12_handles 5 RX12) (hr : meth.sig.returnType = none) {σ0 : Sto} {r2 : Sto} {σ : Sto} {f7 : Int32 → Int32 → Int32 → Sto → Option Sto} {x1 : Int32} {x2 : Int32} {x3 : Int32} (hf7 : ∀ (x1 : Int32) (x2 : Int32) (x3 : Int32) (σ' : Sto), f7 x1 x2 x3 σ' = some r2 → G p l e (rmd 2 0 0) s m args below meth c E true (sZ σ0) ad0 (MQ below (QV E true σ0 r2 ad0) args s 0 0 (AE E)) 5 0 0 σ' 7 [(0, .ref 81), (1, .int x1), (2, .int x2), (3, .int x3)] []) (h : mX12_handles_7B f7 x1 x2 x3 σ = some r2) : G p l e (rmd 2 0 0) s m args below meth c E true (sZ σ0) ad0 (MQ below (QV E true σ0 r2 ad0) args s 0 0 (AE E)) 5 0 0 σ 7 [(0, .ref 81), (1, .int x1), (2, .int x2), (3, .int x3)] [] := by
  unfold mX12_handles_7B at h
  refine G_iload_n C 3 rfl rfl dX12_handles_7 ?_
  refine G_aload_n C 0 rfl rfl dX12_handles_8 ?_
  refine G_getI C fl_X12_253_11 (Or.inl rfl) ko_81 dX12_handles_9 ?_
  refine G_icmp_ge (tgt := 137) C rfl dX12_handles_12 (fun hc2 => ?_) (fun hc2 => ?_)
  · replace h := (if_pos hc2).symm.trans h
    obtain rfl := Option.some.inj h
    exact G_vret C hr (Nat.le_of_ble_eq_true rfl) (Nat.le_of_ble_eq_true rfl) dX12_handles_137
  · replace h := (if_neg hc2).symm.trans h
    refine G_aload_n C 0 rfl rfl dX12_handles_15 ?_
    refine G_getF C fl_X12_56_11 rfl rfl fn_81_24 dX12_handles_16 ?_
    refine G_iload_n C 3 rfl rfl dX12_handles_19 ?_
    obtain ⟨hc3, h⟩ := ifn h
    refine G_iaload C ks_97 hc3 dX12_handles_20 ?_
    refine G_iconst C (v := 2) rfl dX12_handles_21 ?_
    refine G_icmp_lt (tgt := 131) C rfl dX12_handles_22 (fun hc4 => ?_) (fun hc4 => ?_)
    · replace h := (if_pos hc4).symm.trans h
      refine G_iinc (v := 1) (L' := [(3, .int (x3 + (1 : Int32))), (0, .ref 81), (1, .int x1), (2, .int x2)]) C 3 rfl rfl (Nat.le_of_ble_eq_true rfl) rfl dX12_handles_131 ?_
      refine G_goto (tgt := 7) C rfl dX12_handles_134 ?_
      refine G_sub [1, 2, 3, 0] rfl ?_
      exact hf7 _ _ _ _ h
    · replace h := (if_neg hc4).symm.trans h
      refine G_aload_n C 0 rfl rfl dX12_handles_25 ?_
      refine G_getF C fl_X12_56_11 rfl rfl fn_81_24 dX12_handles_26 ?_
      refine G_iload_n C 3 rfl rfl dX12_handles_29 ?_
      refine G_iaload C ks_97 hc3 dX12_handles_30 ?_
      refine G_iconst C (v := 4) rfl dX12_handles_31 ?_
      refine G_icmp_gt (tgt := 131) C rfl dX12_handles_32 (fun hc5 => ?_) (fun hc5 => ?_)
      · replace h := (if_pos hc5).symm.trans h
        refine G_iinc (v := 1) (L' := [(3, .int (x3 + (1 : Int32))), (0, .ref 81), (1, .int x1), (2, .int x2)]) C 3 rfl rfl (Nat.le_of_ble_eq_true rfl) rfl dX12_handles_131 ?_
        refine G_goto (tgt := 7) C rfl dX12_handles_134 ?_
        refine G_sub [1, 2, 3, 0] rfl ?_
        exact hf7 _ _ _ _ h
      · replace h := (if_neg hc5).symm.trans h
        refine G_aload_n C 0 rfl rfl dX12_handles_35 ?_
        refine G_getF C fl_X12_59_11 rfl rfl fn_81_25 dX12_handles_36 ?_
        refine G_iload_n C 3 rfl rfl dX12_handles_39 ?_
        refine G_iaload C ks_98 hc3 dX12_handles_40 ?_
        refine G_iload_n C 1 rfl rfl dX12_handles_41 ?_
        refine G_icmp_ne (tgt := 131) C rfl dX12_handles_42 (fun hc6 => ?_) (fun hc6 => ?_)
        · replace h := (if_neg hc6).symm.trans h
          refine G_iinc (v := 1) (L' := [(3, .int (x3 + (1 : Int32))), (0, .ref 81), (1, .int x1), (2, .int x2)]) C 3 rfl rfl (Nat.le_of_ble_eq_true rfl) rfl dX12_handles_131 ?_
          refine G_goto (tgt := 7) C rfl dX12_handles_134 ?_
          refine G_sub [1, 2, 3, 0] rfl ?_
          exact hf7 _ _ _ _ h
        · replace h := (if_pos hc6).symm.trans h
          refine G_aload_n C 0 rfl rfl dX12_handles_45 ?_
          refine G_iload_n C 3 rfl rfl dX12_handles_46 ?_
          refine G_iload_n C 2 rfl rfl dX12_handles_47 ?_
          obtain ⟨v7, hv7, h⟩ := bnd h
          refine G_callI (run_V C [.int x3, .int x2] [] (dX12_isKnown hv7) ml_X12_isKnown mv_X12_isKnown lk_X12_260 ⟨(Nat.le_of_ble_eq_true rfl), (Nat.le_of_ble_eq_true rfl)⟩ ⟨(Nat.le_of_ble_eq_true rfl), (Nat.le_of_ble_eq_true rfl)⟩ vq_11 rfl ko_81 rfl (Nat.le_of_ble_eq_true rfl) dX12_handles_48) ?_
          refine G_if_ne (tgt := 57) C rfl dX12_handles_51 (fun hc8 => ?_) (fun hc8 => ?_)
          · replace h := (if_neg hc8).symm.trans h
            refine G_aload_n C 0 rfl rfl dX12_handles_57 ?_
            refine G_getI C fl_X12_499_11 (Or.inl rfl) ko_81 dX12_handles_58 ?_
            refine G_istore (L' := [(4, .int (sI σ 81 98)), (0, .ref 81), (1, .int x1), (2, .int x2), (3, .int x3)]) C (Nat.le_of_ble_eq_true rfl) rfl dX12_handles_61 ?_
            refine G_sub [1, 2, 3, 4, 0] rfl ?_
            exact eX12_handles_63 C hr hf7 h
          · replace h := (if_pos hc8).symm.trans h
            refine G_goto (tgt := 131) C rfl dX12_handles_54 ?_
            refine G_iinc (v := 1) (L' := [(3, .int (x3 + (1 : Int32))), (0, .ref 81), (1, .int x1), (2, .int x2)]) C 3 rfl rfl (Nat.le_of_ble_eq_true rfl) rfl dX12_handles_131 ?_
            refine G_goto (tgt := 7) C rfl dX12_handles_134 ?_
            refine G_sub [1, 2, 3, 0] rfl ?_
            exact hf7 _ _ _ _ h
set_option maxRecDepth 100000 in
set_option maxHeartbeats 4000000 in
theorem eX12_handles_7 (C : Cx E p s m args meth c cX12_handles 5 RX12) (hr : meth.sig.returnType = none) {σ0 : Sto} {r2 : Sto} {σ : Sto} {n : Nat} {x1 : Int32} {x2 : Int32} {x3 : Int32} (h : mX12_handles_7 n x1 x2 x3 σ = some r2) : G p l e (rmd 2 0 0) s m args below meth c E true (sZ σ0) ad0 (MQ below (QV E true σ0 r2 ad0) args s 0 0 (AE E)) 5 0 0 σ 7 [(0, .ref 81), (1, .int x1), (2, .int x2), (3, .int x3)] [] := by
  induction n generalizing x1 x2 x3 σ with
  | zero => exact nomatch (show (none : Option Sto) = some r2 from h)
  | succ n ih => exact eX12_handles_7B C hr (fun z0 z1 z2 σ9 h9 => ih h9) h
set_option maxRecDepth 100000 in
set_option maxHeartbeats 4000000 in
theorem dX12_handles {σ : Sto} {p0 : Int32} {p1 : Int32} {r2 : Sto} (h : mX12_handles p0 p1 σ = some r2) : MM l yX12_handles cX12_handles 5 none 2 0 0 E true σ [.ref 81, .int p0, .int p1] (QV E true σ r2) := by
  unfold mX12_handles at h
  refine MM_of (by decide) (Nat.le_of_ble_eq_true rfl) rfl (fun p e s m args below meth c ad0 C hr hn => ?_)
  refine G_aload_n C 0 rfl rfl dX12_handles_0 ?_
  refine G_iconst C (v := 0) rfl dX12_handles_1 ?_
  obtain ⟨σ1, hs1, h⟩ := stp_elim h
  refine G_putI C fl_X12_499_11 fp_X12_11_98 (Or.inl rfl) (Or.inl rfl) ko_81 dX12_handles_2 ?_
  rw [← hs1]
  refine G_iconst C (v := 0) rfl dX12_handles_5 ?_
  refine G_istore_n (L' := [(3, .int (0 : Int32)), (0, .ref 81), (1, .int p0), (2, .int p1)]) C rfl (Nat.le_of_ble_eq_true rfl) rfl dX12_handles_6 ?_
  refine G_sub [1, 2, 3, 0] rfl ?_
  exact eX12_handles_7 C hr h
set_option maxRecDepth 100000 in
set_option maxHeartbeats 4000000 in
theorem dX12_behind {σ : Sto} {p0 : Int32} {r : Int32} (h : mX12_behind p0 σ = some r) : MM l yX12_behind cX12_behind 2 (some .int) 1 0 0 E true σ [.ref 81, .int p0] (QI E true σ r σ) := by
  unfold mX12_behind at h
  refine MM_of (by decide) (Nat.le_of_ble_eq_true rfl) rfl (fun p e s m args below meth c ad0 C hr hn => ?_)
  refine G_aload_n C 0 rfl rfl dX12_behind_0 ?_
  refine G_getF C fl_X12_56_11 rfl rfl fn_81_24 dX12_behind_1 ?_
  refine G_iload_n C 1 rfl rfl dX12_behind_4 ?_
  obtain ⟨hc1, h⟩ := ifn h
  refine G_iaload C ks_97 hc1 dX12_behind_5 ?_
  refine G_iconst C (v := 4) rfl dX12_behind_6 ?_
  refine G_icmp_ne (tgt := 19) C rfl dX12_behind_7 (fun hc2 => ?_) (fun hc2 => ?_)
  · replace h := (if_neg hc2).symm.trans h
    refine G_aload_n C 0 rfl rfl dX12_behind_19 ?_
    refine G_getF C fl_X12_65_11 rfl rfl fn_81_27 dX12_behind_20 ?_
    refine G_iload_n C 1 rfl rfl dX12_behind_23 ?_
    refine G_iaload C ks_100 hc1 dX12_behind_24 ?_
    obtain rfl := Option.some.inj h
    exact G_iret C hr (Nat.le_of_ble_eq_true rfl) (Nat.le_of_ble_eq_true rfl) dX12_behind_25
  · replace h := (if_pos hc2).symm.trans h
    refine G_aload_n C 0 rfl rfl dX12_behind_10 ?_
    refine G_getF C fl_X12_62_11 rfl rfl fn_81_26 dX12_behind_11 ?_
    refine G_iload_n C 1 rfl rfl dX12_behind_14 ?_
    refine G_iaload C ks_99 hc1 dX12_behind_15 ?_
    refine G_goto (tgt := 25) C rfl dX12_behind_16 ?_
    obtain rfl := Option.some.inj h
    exact G_iret C hr (Nat.le_of_ble_eq_true rfl) (Nat.le_of_ble_eq_true rfl) dX12_behind_25
set_option maxRecDepth 100000 in
set_option maxHeartbeats 4000000 in
theorem eX12_with_47B (C : Cx E p s m args meth c cX12_with 6 RX12) (hr : meth.sig.returnType = (some .int)) {σ0 : Sto} {r1 : Int32} {r2 : Sto} {σ : Sto} {f47 : Int32 → Int32 → Int32 → Sto → Option (Int32 × Sto)} {x2 : Int32} {x4 : Int32} {x5 : Int32} (hf47 : ∀ (x2 : Int32) (x4 : Int32) (x5 : Int32) (σ' : Sto), f47 x2 x4 x5 σ' = some (r1, r2) → G p l e (rmd 3 0 0) s m args below meth c E true (sZ σ0) ad0 (MQ below (QI E true σ0 r1 r2 ad0) args s 0 0 (AE E)) 6 0 0 σ' 47 [(0, .ref 81), (2, .int x2), (4, .int x4), (5, .int x5)] []) (h : mX12_with_47B f47 x2 x4 x5 σ = some (r1, r2)) : G p l e (rmd 3 0 0) s m args below meth c E true (sZ σ0) ad0 (MQ below (QI E true σ0 r1 r2 ad0) args s 0 0 (AE E)) 6 0 0 σ 47 [(0, .ref 81), (2, .int x2), (4, .int x4), (5, .int x5)] [] := by
  unfold mX12_with_47B at h
  refine G_iload C 3 rfl dX12_with_47 ?_
  refine G_aload_n C 0 rfl rfl dX12_with_49 ?_
  refine G_getI C fl_X12_499_11 (Or.inl rfl) ko_81 dX12_with_50 ?_
  refine G_icmp_ge (tgt := 91) C rfl dX12_with_53 (fun hc10 => ?_) (fun hc10 => ?_)
  · replace h := (if_pos hc10).symm.trans h
    refine G_iload C 2 rfl dX12_with_91 ?_
    obtain ⟨rfl, rfl⟩ := some2 h
    exact G_iret C hr (Nat.le_of_ble_eq_true rfl) (Nat.le_of_ble_eq_true rfl) dX12_with_93
  · replace h := (if_neg hc10).symm.trans h
    refine G_aload_n C 0 rfl rfl dX12_with_56 ?_
    refine G_getF C fl_X12_68_11 rfl rfl fn_81_28 dX12_with_57 ?_
    refine G_aload_n C 0 rfl rfl dX12_with_60 ?_
    refine G_getF C fl_X12_202_11 rfl rfl fn_81_99 dX12_with_61 ?_
    refine G_iload C 3 rfl dX12_with_64 ?_
    obtain ⟨hc11, h⟩ := ifn h
    refine G_iaload C ks_144 hc11 dX12_with_66 ?_
    obtain ⟨hc12, h⟩ := ifn h
    refine G_iaload C ks_101 hc12 dX12_with_67 ?_
    refine G_iload_n C 1 rfl rfl dX12_with_68 ?_
    refine G_icmp_gt (tgt := 85) C rfl dX12_with_69 (fun hc13 => ?_) (fun hc13 => ?_)
    · replace h := (if_pos hc13).symm.trans h
      refine G_iinc (v := 1) (L' := [(5, .int (x5 + (1 : Int32))), (0, .ref 81), (2, .int x2), (4, .int x4)]) C 3 rfl rfl (Nat.le_of_ble_eq_true rfl) rfl dX12_with_85 ?_
      refine G_goto (tgt := 47) C rfl dX12_with_88 ?_
      refine G_sub [1, 2, 3, 0] rfl ?_
      exact hf47 _ _ _ _ h
    · replace h := (if_neg hc13).symm.trans h
      refine G_aload_n C 0 rfl rfl dX12_with_72 ?_
      refine G_aload_n C 0 rfl rfl dX12_with_73 ?_
      refine G_getF C fl_X12_202_11 rfl rfl fn_81_99 dX12_with_74 ?_
      refine G_iload C 3 rfl dX12_with_77 ?_
      refine G_iaload C ks_144 hc11 dX12_with_79 ?_
      obtain ⟨v14, hv14, h⟩ := bnd h
      refine G_callI (run_V C [.int (sI σ 144 (x5).toNatClampNeg)] [] (dX12_behind hv14) ml_X12_behind mv_X12_behind lk_X12_505 ⟨(Nat.le_of_ble_eq_true rfl), (Nat.le_of_ble_eq_true rfl)⟩ ⟨(Nat.le_of_ble_eq_true rfl), (Nat.le_of_ble_eq_true rfl)⟩ vq_11 rfl ko_81 rfl (Nat.le_of_ble_eq_true rfl) dX12_with_80) ?_
      refine G_istore (L' := [(4, .int v14), (0, .ref 81), (2, .int x2), (5, .int x5)]) C (Nat.le_of_ble_eq_true rfl) rfl dX12_with_83 ?_
      refine G_iinc (v := 1) (L' := [(5, .int (x5 + (1 : Int32))), (4, .int v14), (0, .ref 81), (2, .int x2)]) C 3 rfl rfl (Nat.le_of_ble_eq_true rfl) rfl dX12_with_85 ?_
      refine G_goto (tgt := 47) C rfl dX12_with_88 ?_
      refine G_sub [2, 3, 1, 0] rfl ?_
      exact hf47 _ _ _ _ h
set_option maxRecDepth 100000 in
set_option maxHeartbeats 4000000 in
theorem eX12_with_47 (C : Cx E p s m args meth c cX12_with 6 RX12) (hr : meth.sig.returnType = (some .int)) {σ0 : Sto} {r1 : Int32} {r2 : Sto} {σ : Sto} {n : Nat} {x2 : Int32} {x4 : Int32} {x5 : Int32} (h : mX12_with_47 n x2 x4 x5 σ = some (r1, r2)) : G p l e (rmd 3 0 0) s m args below meth c E true (sZ σ0) ad0 (MQ below (QI E true σ0 r1 r2 ad0) args s 0 0 (AE E)) 6 0 0 σ 47 [(0, .ref 81), (2, .int x2), (4, .int x4), (5, .int x5)] [] := by
  induction n generalizing x2 x4 x5 σ with
  | zero => exact nomatch (show (none : Option (Int32 × Sto)) = some (r1, r2) from h)
  | succ n ih => exact eX12_with_47B C hr (fun z0 z1 z2 σ9 h9 => ih h9) h
set_option maxRecDepth 100000 in
set_option maxHeartbeats 4000000 in
theorem dX12_with {σ : Sto} {p0 : Int32} {p1 : Int32} {p2 : Int32} {r1 : Int32} {r2 : Sto} (h : mX12_with p0 p1 p2 σ = some (r1, r2)) : MM l yX12_with cX12_with 6 (some .int) 3 0 0 E true σ [.ref 81, .int p0, .int p1, .int p2] (QI E true σ r1 r2) := by
  unfold mX12_with at h
  refine MM_of (by decide) (Nat.le_of_ble_eq_true rfl) rfl (fun p e s m args below meth c ad0 C hr hn => ?_)
  refine G_aload_n C 0 rfl rfl dX12_with_0 ?_
  refine G_iconst C (v := 0) rfl dX12_with_1 ?_
  obtain ⟨σ1, hs1, h⟩ := stp_elim h
  refine G_putI C fl_X12_208_11 fp_X12_11_0 (Or.inl rfl) (Or.inl rfl) ko_81 dX12_with_2 ?_
  rw [← hs1]
  refine G_aload_n C 0 rfl rfl dX12_with_5 ?_
  refine G_iload_n C 1 rfl rfl dX12_with_6 ?_
  obtain ⟨v2, σ2, hv2, h⟩ := bd2_elim h
  refine G_callI (run_V C [.int p0] [] (dX12_isWork hv2) ml_X12_isWork mv_X12_isWork lk_X12_243 ⟨(Nat.le_of_ble_eq_true rfl), (Nat.le_of_ble_eq_true rfl)⟩ ⟨(Nat.le_of_ble_eq_true rfl), (Nat.le_of_ble_eq_true rfl)⟩ vq_11 rfl ko_81 rfl (Nat.le_of_ble_eq_true rfl) dX12_with_7) ?_
  refine G_if_eq (tgt := 33) C rfl dX12_with_10 (fun hc3 => ?_) (fun hc3 => ?_)
  · replace h := (if_pos hc3).symm.trans h
    refine G_iconst C (v := 0) rfl dX12_with_33 ?_
    obtain ⟨rfl, rfl⟩ := some2 h
    exact G_iret C hr (Nat.le_of_ble_eq_true rfl) (Nat.le_of_ble_eq_true rfl) dX12_with_34
  · replace h := (if_neg hc3).symm.trans h
    refine G_aload_n C 0 rfl rfl dX12_with_13 ?_
    refine G_iload_n C 2 rfl rfl dX12_with_14 ?_
    refine G_callI (run_S C [.int p1] [.ref 81] (dX12_isDay rfl) ml_X12_isDay ms_X12_isDay lk_X12_235 ⟨(Nat.le_of_ble_eq_true rfl), (Nat.le_of_ble_eq_true rfl)⟩ ⟨(Nat.le_of_ble_eq_true rfl), (Nat.le_of_ble_eq_true rfl)⟩ rfl (Nat.le_of_ble_eq_true rfl) dX12_with_15) ?_
    refine G_iconst C (v := 1) rfl dX12_with_18 ?_
    obtain ⟨v5, σ5, hv5, h⟩ := bd2_elim h
    refine G_callI (run_V C [.int (mX12_isDay p1 σ2), .int (1 : Int32)] [] (dX12_right hv5) ml_X12_right mv_X12_right lk_X12_214 ⟨(Nat.le_of_ble_eq_true rfl), (Nat.le_of_ble_eq_true rfl)⟩ ⟨(Nat.le_of_ble_eq_true rfl), (Nat.le_of_ble_eq_true rfl)⟩ vq_11 rfl ko_81 rfl (Nat.le_of_ble_eq_true rfl) dX12_with_19) ?_
    refine G_if_eq (tgt := 33) C rfl dX12_with_22 (fun hc6 => ?_) (fun hc6 => ?_)
    · replace h := (if_pos hc6).symm.trans h
      refine G_iconst C (v := 0) rfl dX12_with_33 ?_
      obtain ⟨rfl, rfl⟩ := some2 h
      exact G_iret C hr (Nat.le_of_ble_eq_true rfl) (Nat.le_of_ble_eq_true rfl) dX12_with_34
    · replace h := (if_neg hc6).symm.trans h
      refine G_aload_n C 0 rfl rfl dX12_with_25 ?_
      refine G_iload_n C 3 rfl rfl dX12_with_26 ?_
      obtain ⟨v7, σ7, hv7, h⟩ := bd2_elim h
      refine G_callI (run_V C [.int p2] [] (dX12_isEvening hv7) ml_X12_isEvening mv_X12_isEvening lk_X12_471 ⟨(Nat.le_of_ble_eq_true rfl), (Nat.le_of_ble_eq_true rfl)⟩ ⟨(Nat.le_of_ble_eq_true rfl), (Nat.le_of_ble_eq_true rfl)⟩ vq_11 rfl ko_81 rfl (Nat.le_of_ble_eq_true rfl) dX12_with_27) ?_
      refine G_if_ne (tgt := 35) C rfl dX12_with_30 (fun hc8 => ?_) (fun hc8 => ?_)
      · replace h := (if_neg hc8).symm.trans h
        refine G_aload_n C 0 rfl rfl dX12_with_35 ?_
        refine G_iload_n C 1 rfl rfl dX12_with_36 ?_
        refine G_iload_n C 3 rfl rfl dX12_with_37 ?_
        obtain ⟨σ9, hv9, h⟩ := bnd h
        refine G_callV (run_V C [.int p0, .int p2] [] (dX12_handles hv9) ml_X12_handles mv_X12_handles lk_X12_502 ⟨(Nat.le_of_ble_eq_true rfl), (Nat.le_of_ble_eq_true rfl)⟩ ⟨(Nat.le_of_ble_eq_true rfl), (Nat.le_of_ble_eq_true rfl)⟩ vq_11 rfl ko_81 rfl (Nat.le_of_ble_eq_true rfl) dX12_with_38) ?_
        refine G_iconst C (v := -1) rfl dX12_with_41 ?_
        refine G_istore (L' := [(4, .int (-1 : Int32)), (0, .ref 81), (1, .int p0), (2, .int p1), (3, .int p2)]) C (Nat.le_of_ble_eq_true rfl) rfl dX12_with_42 ?_
        refine G_iconst C (v := 0) rfl dX12_with_44 ?_
        refine G_istore (L' := [(5, .int (0 : Int32)), (4, .int (-1 : Int32)), (0, .ref 81), (1, .int p0), (2, .int p1), (3, .int p2)]) C (Nat.le_of_ble_eq_true rfl) rfl dX12_with_45 ?_
        refine G_sub [2, 4, 1, 0] rfl ?_
        exact eX12_with_47 C hr h
      · replace h := (if_pos hc8).symm.trans h
        refine G_iconst C (v := 0) rfl dX12_with_33 ?_
        obtain ⟨rfl, rfl⟩ := some2 h
        exact G_iret C hr (Nat.le_of_ble_eq_true rfl) (Nat.le_of_ble_eq_true rfl) dX12_with_34
set_option maxRecDepth 100000 in
set_option maxHeartbeats 4000000 in
theorem eX12_hidden_145 (C : Cx E p s m args meth c cX12_hidden 8 RX12) (hr : meth.sig.returnType = (some .int)) {σ0 : Sto} {r1 : Int32} {r2 : Sto} {σ : Sto} {x3 : Int32} {x6 : Int32} {y1 : Int32} (h : mX12_hidden_145 x3 x6 y1 σ = some (r1, r2)) : G p l e (rmd 3 0 0) s m args below meth c E true (sZ σ0) ad0 (MQ below (QI E true σ0 r1 r2 ad0) args s 0 0 (AE E)) 8 0 0 σ 145 [(0, .ref 81), (3, .int x3), (6, .int x6)] [.int y1, .ref 81] := by
  unfold mX12_hidden_145 at h
  refine G_iconst C (v := 1) rfl dX12_hidden_145 ?_
  obtain ⟨v13, σ13, hv13, h⟩ := bd2_elim h
  refine G_callI (run_V C [.int y1, .int (1 : Int32)] [] (dX12_right hv13) ml_X12_right mv_X12_right lk_X12_214 ⟨(Nat.le_of_ble_eq_true rfl), (Nat.le_of_ble_eq_true rfl)⟩ ⟨(Nat.le_of_ble_eq_true rfl), (Nat.le_of_ble_eq_true rfl)⟩ vq_11 rfl ko_81 rfl (Nat.le_of_ble_eq_true rfl) dX12_hidden_146) ?_
  refine G_if_ne (tgt := 154) C rfl dX12_hidden_149 (fun hc14 => ?_) (fun hc14 => ?_)
  · replace h := (if_neg hc14).symm.trans h
    refine G_iload_n C 1 rfl rfl dX12_hidden_154 ?_
    refine G_if_ne (tgt := 175) C rfl dX12_hidden_155 (fun hc15 => ?_) (fun hc15 => ?_)
    · replace h := (if_neg hc15).symm.trans h
      refine G_iload_n C 1 rfl rfl dX12_hidden_175 ?_
      refine G_iconst C (v := 1) rfl dX12_hidden_176 ?_
      refine G_icmp_ne (tgt := 195) C rfl dX12_hidden_177 (fun hc16 => ?_) (fun hc16 => ?_)
      · replace h := (if_neg hc16).symm.trans h
        refine G_iload_n C 1 rfl rfl dX12_hidden_195 ?_
        refine G_iconst C (v := 2) rfl dX12_hidden_196 ?_
        refine G_icmp_ne (tgt := 216) C rfl dX12_hidden_197 (fun hc17 => ?_) (fun hc17 => ?_)
        · replace h := (if_neg hc17).symm.trans h
          refine G_aload_n C 0 rfl rfl dX12_hidden_216 ?_
          refine G_getF C fl_X12_62_11 rfl rfl fn_81_26 dX12_hidden_217 ?_
          refine G_aload_n C 0 rfl rfl dX12_hidden_220 ?_
          refine G_getF C fl_X12_202_11 rfl rfl fn_81_99 dX12_hidden_221 ?_
          refine G_iload C 2 rfl dX12_hidden_224 ?_
          obtain ⟨hc18, h⟩ := ifn h
          refine G_iaload C ks_144 hc18 dX12_hidden_226 ?_
          obtain ⟨hc19, h⟩ := ifn h
          refine G_iaload C ks_99 hc19 dX12_hidden_227 ?_
          obtain ⟨rfl, rfl⟩ := some2 h
          exact G_iret C hr (Nat.le_of_ble_eq_true rfl) (Nat.le_of_ble_eq_true rfl) dX12_hidden_228
        · replace h := (if_pos hc17).symm.trans h
          refine G_aload_n C 0 rfl rfl dX12_hidden_200 ?_
          refine G_aload_n C 0 rfl rfl dX12_hidden_201 ?_
          refine G_getF C fl_X12_202_11 rfl rfl fn_81_99 dX12_hidden_202 ?_
          refine G_iload C 2 rfl dX12_hidden_205 ?_
          refine G_iconst C (v := 1) rfl dX12_hidden_207 ?_
          refine G_isub C dX12_hidden_208 ?_
          obtain ⟨hc20, h⟩ := ifn h
          refine G_iaload C ks_144 hc20 dX12_hidden_209 ?_
          obtain ⟨v21, hv21, h⟩ := bnd h
          refine G_callI (run_V C [.int (sI σ13 144 ((x6 - (1 : Int32))).toNatClampNeg)] [] (dX12_behind hv21) ml_X12_behind mv_X12_behind lk_X12_505 ⟨(Nat.le_of_ble_eq_true rfl), (Nat.le_of_ble_eq_true rfl)⟩ ⟨(Nat.le_of_ble_eq_true rfl), (Nat.le_of_ble_eq_true rfl)⟩ vq_11 rfl ko_81 rfl (Nat.le_of_ble_eq_true rfl) dX12_hidden_210) ?_
          refine G_goto (tgt := 228) C rfl dX12_hidden_213 ?_
          obtain ⟨rfl, rfl⟩ := some2 h
          exact G_iret C hr (Nat.le_of_ble_eq_true rfl) (Nat.le_of_ble_eq_true rfl) dX12_hidden_228
      · replace h := (if_pos hc16).symm.trans h
        refine G_aload_n C 0 rfl rfl dX12_hidden_180 ?_
        refine G_getF C fl_X12_68_11 rfl rfl fn_81_28 dX12_hidden_181 ?_
        refine G_aload_n C 0 rfl rfl dX12_hidden_184 ?_
        refine G_getF C fl_X12_202_11 rfl rfl fn_81_99 dX12_hidden_185 ?_
        refine G_iload C 2 rfl dX12_hidden_188 ?_
        obtain ⟨hc22, h⟩ := ifn h
        refine G_iaload C ks_144 hc22 dX12_hidden_190 ?_
        obtain ⟨hc23, h⟩ := ifn h
        refine G_iaload C ks_101 hc23 dX12_hidden_191 ?_
        refine G_goto (tgt := 228) C rfl dX12_hidden_192 ?_
        obtain ⟨rfl, rfl⟩ := some2 h
        exact G_iret C hr (Nat.le_of_ble_eq_true rfl) (Nat.le_of_ble_eq_true rfl) dX12_hidden_228
    · replace h := (if_pos hc15).symm.trans h
      refine G_aload_n C 0 rfl rfl dX12_hidden_158 ?_
      refine G_getF C fl_X12_68_11 rfl rfl fn_81_28 dX12_hidden_159 ?_
      refine G_aload_n C 0 rfl rfl dX12_hidden_162 ?_
      refine G_getF C fl_X12_202_11 rfl rfl fn_81_99 dX12_hidden_163 ?_
      refine G_iload C 2 rfl dX12_hidden_166 ?_
      refine G_iconst C (v := 1) rfl dX12_hidden_168 ?_
      refine G_isub C dX12_hidden_169 ?_
      obtain ⟨hc24, h⟩ := ifn h
      refine G_iaload C ks_144 hc24 dX12_hidden_170 ?_
      obtain ⟨hc25, h⟩ := ifn h
      refine G_iaload C ks_101 hc25 dX12_hidden_171 ?_
      refine G_goto (tgt := 228) C rfl dX12_hidden_172 ?_
      obtain ⟨rfl, rfl⟩ := some2 h
      exact G_iret C hr (Nat.le_of_ble_eq_true rfl) (Nat.le_of_ble_eq_true rfl) dX12_hidden_228
  · replace h := (if_pos hc14).symm.trans h
    refine G_iconst C (v := 0) rfl dX12_hidden_152 ?_
    obtain ⟨rfl, rfl⟩ := some2 h
    exact G_iret C hr (Nat.le_of_ble_eq_true rfl) (Nat.le_of_ble_eq_true rfl) dX12_hidden_153
set_option maxRecDepth 100000 in
set_option maxHeartbeats 4000000 in
theorem eX12_hidden_144 (C : Cx E p s m args meth c cX12_hidden 8 RX12) (hr : meth.sig.returnType = (some .int)) {σ0 : Sto} {r1 : Int32} {r2 : Sto} {σ : Sto} {x3 : Int32} {x6 : Int32} (h : mX12_hidden_144 x3 x6 σ = some (r1, r2)) : G p l e (rmd 3 0 0) s m args below meth c E true (sZ σ0) ad0 (MQ below (QI E true σ0 r1 r2 ad0) args s 0 0 (AE E)) 8 0 0 σ 144 [(0, .ref 81), (3, .int x3), (6, .int x6)] [.ref 81] := by
  unfold mX12_hidden_144 at h
  refine G_iconst C (v := 0) rfl dX12_hidden_144 ?_
  exact eX12_hidden_145 C hr h
set_option maxRecDepth 100000 in
set_option maxHeartbeats 4000000 in
theorem eX12_hidden_62B (C : Cx E p s m args meth c cX12_hidden 8 RX12) (hr : meth.sig.returnType = (some .int)) {σ0 : Sto} {r1 : Int32} {r2 : Sto} {σ : Sto} {f62 : Int32 → Int32 → Int32 → Int32 → Int32 → Sto → Option (Int32 × Sto)} {x2 : Int32} {x3 : Int32} {x5 : Int32} {x6 : Int32} {x7 : Int32} (hf62 : ∀ (x2 : Int32) (x3 : Int32) (x5 : Int32) (x6 : Int32) (x7 : Int32) (σ' : Sto), f62 x2 x3 x5 x6 x7 σ' = some (r1, r2) → G p l e (rmd 3 0 0) s m args below meth c E true (sZ σ0) ad0 (MQ below (QI E true σ0 r1 r2 ad0) args s 0 0 (AE E)) 8 0 0 σ' 62 [(0, .ref 81), (2, .int x2), (3, .int x3), (5, .int x5), (6, .int x6), (7, .int x7)] []) (h : mX12_hidden_62B f62 x2 x3 x5 x6 x7 σ = some (r1, r2)) : G p l e (rmd 3 0 0) s m args below meth c E true (sZ σ0) ad0 (MQ below (QI E true σ0 r1 r2 ad0) args s 0 0 (AE E)) 8 0 0 σ 62 [(0, .ref 81), (2, .int x2), (3, .int x3), (5, .int x5), (6, .int x6), (7, .int x7)] [] := by
  unfold mX12_hidden_62B at h
  refine G_iload C 5 rfl dX12_hidden_62 ?_
  refine G_aload_n C 0 rfl rfl dX12_hidden_64 ?_
  refine G_getI C fl_X12_499_11 (Or.inl rfl) ko_81 dX12_hidden_65 ?_
  refine G_icmp_ge (tgt := 121) C rfl dX12_hidden_68 (fun hc10 => ?_) (fun hc10 => ?_)
  · replace h := (if_pos hc10).symm.trans h
    refine G_iload_n C 1 rfl rfl dX12_hidden_121 ?_
    refine G_iconst C (v := -1) rfl dX12_hidden_122 ?_
    refine G_icmp_ne (tgt := 129) C rfl dX12_hidden_123 (fun hc11 => ?_) (fun hc11 => ?_)
    · replace h := (if_neg hc11).symm.trans h
      refine G_aload_n C 0 rfl rfl dX12_hidden_129 ?_
      refine G_iload_n C 1 rfl rfl dX12_hidden_130 ?_
      refine G_if_lt (tgt := 144) C rfl dX12_hidden_131 (fun hc12 => ?_) (fun hc12 => ?_)
      · replace h := (if_pos hc12).symm.trans h
        refine G_sub [0, 2, 4] rfl ?_
        exact eX12_hidden_144 C hr h
      · replace h := (if_neg hc12).symm.trans h
        refine G_iload C 4 rfl dX12_hidden_134 ?_
        refine G_iconst C (v := -1) rfl dX12_hidden_136 ?_
        refine G_icmp_eq (tgt := 144) C rfl dX12_hidden_137 (fun hc26 => ?_) (fun hc26 => ?_)
        · replace h := (if_pos hc26).symm.trans h
          refine G_sub [0, 2, 4] rfl ?_
          exact eX12_hidden_144 C hr h
        · replace h := (if_neg hc26).symm.trans h
          refine G_iconst C (v := 1) rfl dX12_hidden_140 ?_
          refine G_goto (tgt := 145) C rfl dX12_hidden_141 ?_
          refine G_sub [0, 2, 4] rfl ?_
          exact eX12_hidden_145 C hr h
    · replace h := (if_pos hc11).symm.trans h
      refine G_iload C 3 rfl dX12_hidden_126 ?_
      obtain ⟨rfl, rfl⟩ := some2 h
      exact G_iret C hr (Nat.le_of_ble_eq_true rfl) (Nat.le_of_ble_eq_true rfl) dX12_hidden_128
  · replace h := (if_neg hc10).symm.trans h
    refine G_aload_n C 0 rfl rfl dX12_hidden_71 ?_
    refine G_getF C fl_X12_62_11 rfl rfl fn_81_26 dX12_hidden_72 ?_
    refine G_aload_n C 0 rfl rfl dX12_hidden_75 ?_
    refine G_getF C fl_X12_202_11 rfl rfl fn_81_99 dX12_hidden_76 ?_
    refine G_iload C 5 rfl dX12_hidden_79 ?_
    obtain ⟨hc27, h⟩ := ifn h
    refine G_iaload C ks_144 hc27 dX12_hidden_81 ?_
    obtain ⟨hc28, h⟩ := ifn h
    refine G_iaload C ks_99 hc28 dX12_hidden_82 ?_
    refine G_aload_n C 0 rfl rfl dX12_hidden_83 ?_
    refine G_aload_n C 0 rfl rfl dX12_hidden_84 ?_
    refine G_getF C fl_X12_202_11 rfl rfl fn_81_99 dX12_hidden_85 ?_
    refine G_iload C 5 rfl dX12_hidden_88 ?_
    refine G_iconst C (v := 1) rfl dX12_hidden_90 ?_
    refine G_isub C dX12_hidden_91 ?_
    obtain ⟨hc29, h⟩ := ifn h
    refine G_iaload C ks_144 hc29 dX12_hidden_92 ?_
    obtain ⟨v30, hv30, h⟩ := bnd h
    refine G_callI (run_V C [.int (sI σ 144 ((x7 - (1 : Int32))).toNatClampNeg)] [.int (sI σ 99 ((sI σ 144 (x7).toNatClampNeg)).toNatClampNeg)] (dX12_behind hv30) ml_X12_behind mv_X12_behind lk_X12_505 ⟨(Nat.le_of_ble_eq_true rfl), (Nat.le_of_ble_eq_true rfl)⟩ ⟨(Nat.le_of_ble_eq_true rfl), (Nat.le_of_ble_eq_true rfl)⟩ vq_11 rfl ko_81 rfl (Nat.le_of_ble_eq_true rfl) dX12_hidden_93) ?_
    refine G_icmp_ne (tgt := 102) C rfl dX12_hidden_96 (fun hc31 => ?_) (fun hc31 => ?_)
    · replace h := (if_neg hc31).symm.trans h
      refine G_iload C 3 rfl dX12_hidden_102 ?_
      refine G_iload_n C 1 rfl rfl dX12_hidden_104 ?_
      refine G_icmp_ne (tgt := 112) C rfl dX12_hidden_105 (fun hc32 => ?_) (fun hc32 => ?_)
      · replace h := (if_neg hc32).symm.trans h
        refine G_iinc (v := 1) (L' := [(5, .int (x5 + (1 : Int32))), (0, .ref 81), (2, .int x2), (3, .int x3), (6, .int x6), (7, .int x7)]) C 3 rfl rfl (Nat.le_of_ble_eq_true rfl) rfl dX12_hidden_112 ?_
        refine G_iinc (v := 1) (L' := [(7, .int (x7 + (1 : Int32))), (5, .int (x5 + (1 : Int32))), (0, .ref 81), (2, .int x2), (3, .int x3), (6, .int x6)]) C 5 rfl rfl (Nat.le_of_ble_eq_true rfl) rfl dX12_hidden_115 ?_
        refine G_goto (tgt := 62) C rfl dX12_hidden_118 ?_
        refine G_sub [2, 3, 4, 1, 5, 0] rfl ?_
        exact hf62 _ _ _ _ _ _ h
      · replace h := (if_pos hc32).symm.trans h
        refine G_iload C 5 rfl dX12_hidden_108 ?_
        refine G_istore (L' := [(6, .int x7), (0, .ref 81), (2, .int x2), (3, .int x3), (5, .int x5), (7, .int x7)]) C (Nat.le_of_ble_eq_true rfl) rfl dX12_hidden_110 ?_
        refine G_iinc (v := 1) (L' := [(5, .int (x5 + (1 : Int32))), (6, .int x7), (0, .ref 81), (2, .int x2), (3, .int x3), (7, .int x7)]) C 4 rfl rfl (Nat.le_of_ble_eq_true rfl) rfl dX12_hidden_112 ?_
        refine G_iinc (v := 1) (L' := [(7, .int (x7 + (1 : Int32))), (5, .int (x5 + (1 : Int32))), (6, .int x7), (0, .ref 81), (2, .int x2), (3, .int x3)]) C 5 rfl rfl (Nat.le_of_ble_eq_true rfl) rfl dX12_hidden_115 ?_
        refine G_goto (tgt := 62) C rfl dX12_hidden_118 ?_
        refine G_sub [3, 4, 5, 1, 2, 0] rfl ?_
        exact hf62 _ _ _ _ _ _ h
    · replace h := (if_pos hc31).symm.trans h
      refine G_goto (tgt := 115) C rfl dX12_hidden_99 ?_
      refine G_iinc (v := 1) (L' := [(7, .int (x7 + (1 : Int32))), (0, .ref 81), (2, .int x2), (3, .int x3), (5, .int x5), (6, .int x6)]) C 5 rfl rfl (Nat.le_of_ble_eq_true rfl) rfl dX12_hidden_115 ?_
      refine G_goto (tgt := 62) C rfl dX12_hidden_118 ?_
      refine G_sub [1, 2, 3, 4, 5, 0] rfl ?_
      exact hf62 _ _ _ _ _ _ h
set_option maxRecDepth 100000 in
set_option maxHeartbeats 4000000 in
theorem eX12_hidden_62 (C : Cx E p s m args meth c cX12_hidden 8 RX12) (hr : meth.sig.returnType = (some .int)) {σ0 : Sto} {r1 : Int32} {r2 : Sto} {σ : Sto} {n : Nat} {x2 : Int32} {x3 : Int32} {x5 : Int32} {x6 : Int32} {x7 : Int32} (h : mX12_hidden_62 n x2 x3 x5 x6 x7 σ = some (r1, r2)) : G p l e (rmd 3 0 0) s m args below meth c E true (sZ σ0) ad0 (MQ below (QI E true σ0 r1 r2 ad0) args s 0 0 (AE E)) 8 0 0 σ 62 [(0, .ref 81), (2, .int x2), (3, .int x3), (5, .int x5), (6, .int x6), (7, .int x7)] [] := by
  induction n generalizing x2 x3 x5 x6 x7 σ with
  | zero => exact nomatch (show (none : Option (Int32 × Sto)) = some (r1, r2) from h)
  | succ n ih => exact eX12_hidden_62B C hr (fun z0 z1 z2 z3 z4 σ9 h9 => ih h9) h
set_option maxRecDepth 100000 in
set_option maxHeartbeats 4000000 in
theorem eX12_hidden_28 (C : Cx E p s m args meth c cX12_hidden 8 RX12) (hr : meth.sig.returnType = (some .int)) {σ0 : Sto} {r1 : Int32} {r2 : Sto} {σ : Sto} {x1 : Int32} {x2 : Int32} {x3 : Int32} {x4 : Int32} {y1 : Int32} (h : mX12_hidden_28 x1 x2 x3 x4 y1 σ = some (r1, r2)) : G p l e (rmd 3 0 0) s m args below meth c E true (sZ σ0) ad0 (MQ below (QI E true σ0 r1 r2 ad0) args s 0 0 (AE E)) 8 0 0 σ 28 [(0, .ref 81), (1, .int x1), (2, .int x2), (3, .int x3), (4, .int x4)] [.int y1, .ref 81] := by
  unfold mX12_hidden_28 at h
  refine G_iconst C (v := 1) rfl dX12_hidden_28 ?_
  obtain ⟨v5, σ5, hv5, h⟩ := bd2_elim h
  refine G_callI (run_V C [.int y1, .int (1 : Int32)] [] (dX12_right hv5) ml_X12_right mv_X12_right lk_X12_214 ⟨(Nat.le_of_ble_eq_true rfl), (Nat.le_of_ble_eq_true rfl)⟩ ⟨(Nat.le_of_ble_eq_true rfl), (Nat.le_of_ble_eq_true rfl)⟩ vq_11 rfl ko_81 rfl (Nat.le_of_ble_eq_true rfl) dX12_hidden_29) ?_
  refine G_if_eq (tgt := 44) C rfl dX12_hidden_32 (fun hc6 => ?_) (fun hc6 => ?_)
  · replace h := (if_pos hc6).symm.trans h
    refine G_iconst C (v := 0) rfl dX12_hidden_44 ?_
    obtain ⟨rfl, rfl⟩ := some2 h
    exact G_iret C hr (Nat.le_of_ble_eq_true rfl) (Nat.le_of_ble_eq_true rfl) dX12_hidden_45
  · replace h := (if_neg hc6).symm.trans h
    refine G_aload_n C 0 rfl rfl dX12_hidden_35 ?_
    refine G_iload C 4 rfl dX12_hidden_36 ?_
    obtain ⟨v7, σ7, hv7, h⟩ := bd2_elim h
    refine G_callI (run_V C [.int x4] [] (dX12_isEvening hv7) ml_X12_isEvening mv_X12_isEvening lk_X12_471 ⟨(Nat.le_of_ble_eq_true rfl), (Nat.le_of_ble_eq_true rfl)⟩ ⟨(Nat.le_of_ble_eq_true rfl), (Nat.le_of_ble_eq_true rfl)⟩ vq_11 rfl ko_81 rfl (Nat.le_of_ble_eq_true rfl) dX12_hidden_38) ?_
    refine G_if_ne (tgt := 46) C rfl dX12_hidden_41 (fun hc8 => ?_) (fun hc8 => ?_)
    · replace h := (if_neg hc8).symm.trans h
      refine G_aload_n C 0 rfl rfl dX12_hidden_46 ?_
      refine G_iload_n C 1 rfl rfl dX12_hidden_47 ?_
      refine G_iload C 4 rfl dX12_hidden_48 ?_
      obtain ⟨σ9, hv9, h⟩ := bnd h
      refine G_callV (run_V C [.int x1, .int x4] [] (dX12_handles hv9) ml_X12_handles mv_X12_handles lk_X12_502 ⟨(Nat.le_of_ble_eq_true rfl), (Nat.le_of_ble_eq_true rfl)⟩ ⟨(Nat.le_of_ble_eq_true rfl), (Nat.le_of_ble_eq_true rfl)⟩ vq_11 rfl ko_81 rfl (Nat.le_of_ble_eq_true rfl) dX12_hidden_50) ?_
      refine G_iconst C (v := 0) rfl dX12_hidden_53 ?_
      refine G_istore (L' := [(5, .int (0 : Int32)), (0, .ref 81), (1, .int x1), (2, .int x2), (3, .int x3), (4, .int x4)]) C (Nat.le_of_ble_eq_true rfl) rfl dX12_hidden_54 ?_
      refine G_iconst C (v := -1) rfl dX12_hidden_56 ?_
      refine G_istore (L' := [(6, .int (-1 : Int32)), (5, .int (0 : Int32)), (0, .ref 81), (1, .int x1), (2, .int x2), (3, .int x3), (4, .int x4)]) C (Nat.le_of_ble_eq_true rfl) rfl dX12_hidden_57 ?_
      refine G_iconst C (v := 1) rfl dX12_hidden_59 ?_
      refine G_istore (L' := [(7, .int (1 : Int32)), (6, .int (-1 : Int32)), (5, .int (0 : Int32)), (0, .ref 81), (1, .int x1), (2, .int x2), (3, .int x3), (4, .int x4)]) C (Nat.le_of_ble_eq_true rfl) rfl dX12_hidden_60 ?_
      refine G_sub [3, 5, 6, 2, 1, 0] rfl ?_
      exact eX12_hidden_62 C hr h
    · replace h := (if_pos hc8).symm.trans h
      refine G_iconst C (v := 0) rfl dX12_hidden_44 ?_
      obtain ⟨rfl, rfl⟩ := some2 h
      exact G_iret C hr (Nat.le_of_ble_eq_true rfl) (Nat.le_of_ble_eq_true rfl) dX12_hidden_45
set_option maxRecDepth 100000 in
set_option maxHeartbeats 4000000 in
theorem eX12_hidden_27 (C : Cx E p s m args meth c cX12_hidden 8 RX12) (hr : meth.sig.returnType = (some .int)) {σ0 : Sto} {r1 : Int32} {r2 : Sto} {σ : Sto} {x1 : Int32} {x2 : Int32} {x3 : Int32} {x4 : Int32} (h : mX12_hidden_27 x1 x2 x3 x4 σ = some (r1, r2)) : G p l e (rmd 3 0 0) s m args below meth c E true (sZ σ0) ad0 (MQ below (QI E true σ0 r1 r2 ad0) args s 0 0 (AE E)) 8 0 0 σ 27 [(0, .ref 81), (1, .int x1), (2, .int x2), (3, .int x3), (4, .int x4)] [.ref 81] := by
  unfold mX12_hidden_27 at h
  refine G_iconst C (v := 0) rfl dX12_hidden_27 ?_
  exact eX12_hidden_28 C hr h
set_option maxRecDepth 100000 in
set_option maxHeartbeats 4000000 in
theorem dX12_hidden {σ : Sto} {p0 : Int32} {p1 : Int32} {p2 : Int32} {p3 : Int32} {r1 : Int32} {r2 : Sto} (h : mX12_hidden p0 p1 p2 p3 σ = some (r1, r2)) : MM l yX12_hidden cX12_hidden 8 (some .int) 3 0 0 E true σ [.ref 81, .int p0, .int p1, .int p2, .int p3] (QI E true σ r1 r2) := by
  unfold mX12_hidden at h
  refine MM_of (by decide) (Nat.le_of_ble_eq_true rfl) rfl (fun p e s m args below meth c ad0 C hr hn => ?_)
  refine G_aload_n C 0 rfl rfl dX12_hidden_0 ?_
  refine G_iconst C (v := 0) rfl dX12_hidden_1 ?_
  obtain ⟨σ1, hs1, h⟩ := stp_elim h
  refine G_putI C fl_X12_208_11 fp_X12_11_0 (Or.inl rfl) (Or.inl rfl) ko_81 dX12_hidden_2 ?_
  rw [← hs1]
  refine G_aload_n C 0 rfl rfl dX12_hidden_5 ?_
  refine G_iload_n C 1 rfl rfl dX12_hidden_6 ?_
  obtain ⟨v2, σ2, hv2, h⟩ := bd2_elim h
  refine G_callI (run_V C [.int p0] [] (dX12_isWork hv2) ml_X12_isWork mv_X12_isWork lk_X12_243 ⟨(Nat.le_of_ble_eq_true rfl), (Nat.le_of_ble_eq_true rfl)⟩ ⟨(Nat.le_of_ble_eq_true rfl), (Nat.le_of_ble_eq_true rfl)⟩ vq_11 rfl ko_81 rfl (Nat.le_of_ble_eq_true rfl) dX12_hidden_7) ?_
  refine G_if_eq (tgt := 44) C rfl dX12_hidden_10 (fun hc3 => ?_) (fun hc3 => ?_)
  · replace h := (if_pos hc3).symm.trans h
    refine G_iconst C (v := 0) rfl dX12_hidden_44 ?_
    obtain ⟨rfl, rfl⟩ := some2 h
    exact G_iret C hr (Nat.le_of_ble_eq_true rfl) (Nat.le_of_ble_eq_true rfl) dX12_hidden_45
  · replace h := (if_neg hc3).symm.trans h
    refine G_aload_n C 0 rfl rfl dX12_hidden_13 ?_
    refine G_iload_n C 3 rfl rfl dX12_hidden_14 ?_
    refine G_if_lt (tgt := 27) C rfl dX12_hidden_15 (fun hc4 => ?_) (fun hc4 => ?_)
    · replace h := (if_pos hc4).symm.trans h
      exact eX12_hidden_27 C hr h
    · replace h := (if_neg hc4).symm.trans h
      refine G_iload_n C 3 rfl rfl dX12_hidden_18 ?_
      refine G_iconst C (v := 3) rfl dX12_hidden_19 ?_
      refine G_icmp_gt (tgt := 27) C rfl dX12_hidden_20 (fun hc33 => ?_) (fun hc33 => ?_)
      · replace h := (if_pos hc33).symm.trans h
        exact eX12_hidden_27 C hr h
      · replace h := (if_neg hc33).symm.trans h
        refine G_iconst C (v := 1) rfl dX12_hidden_23 ?_
        refine G_goto (tgt := 28) C rfl dX12_hidden_24 ?_
        exact eX12_hidden_28 C hr h
set_option maxRecDepth 100000 in
set_option maxHeartbeats 4000000 in
theorem eX12_attempt_241B (C : Cx E p s m args meth c cX12_attempt 6 RX12) (hr : meth.sig.returnType = (some .int)) {σ0 : Sto} {r1 : Int32} {r2 : Sto} {σ : Sto} {f135 : Int32 → Int32 → Sto → Option (Int32 × Sto)} {f241 : Int32 → Int32 → Int32 → Sto → Option (Int32 × Sto)} {x1 : Int32} {x4 : Int32} {x5 : Int32} (hf135 : ∀ (x1 : Int32) (x4 : Int32) (σ' : Sto), f135 x1 x4 σ' = some (r1, r2) → G p l e (rmd 9 0 0) s m args below meth c E true (sZ σ0) ad0 (MQ below (QI E true σ0 r1 r2 ad0) args s 0 0 (AE E)) 6 0 0 σ' 135 [(0, .ref 81), (1, .int x1), (4, .int x4)] []) (hf241 : ∀ (x1 : Int32) (x4 : Int32) (x5 : Int32) (σ' : Sto), f241 x1 x4 x5 σ' = some (r1, r2) → G p l e (rmd 9 0 0) s m args below meth c E true (sZ σ0) ad0 (MQ below (QI E true σ0 r1 r2 ad0) args s 0 0 (AE E)) 6 0 0 σ' 241 [(0, .ref 81), (1, .int x1), (4, .int x4), (5, .int x5)] []) (h : mX12_attempt_241B f135 f241 x1 x4 x5 σ = some (r1, r2)) : G p l e (rmd 9 0 0) s m args below meth c E true (sZ σ0) ad0 (MQ below (QI E true σ0 r1 r2 ad0) args s 0 0 (AE E)) 6 0 0 σ 241 [(0, .ref 81), (1, .int x1), (4, .int x4), (5, .int x5)] [] := by
  unfold mX12_attempt_241B at h
  refine G_iload C 3 rfl dX12_attempt_241 ?_
  refine G_bipush C (v := 30) rfl dX12_attempt_243 ?_
  refine G_icmp_ge (tgt := 272) C rfl dX12_attempt_245 (fun hc29 => ?_) (fun hc29 => ?_)
  · replace h := (if_pos hc29).symm.trans h
    refine G_iinc (v := 1) (L' := [(4, .int (x4 + (1 : Int32))), (0, .ref 81), (1, .int x1), (5, .int x5)]) C 2 rfl rfl (Nat.le_of_ble_eq_true rfl) rfl dX12_attempt_272 ?_
    refine G_goto (tgt := 135) C rfl dX12_attempt_275 ?_
    refine G_sub [1, 2, 0] rfl ?_
    exact hf135 _ _ _ h
  · replace h := (if_neg hc29).symm.trans h
    refine G_aload_n C 0 rfl rfl dX12_attempt_248 ?_
    refine G_getF C fl_X12_205_11 rfl rfl fn_81_100 dX12_attempt_249 ?_
    refine G_iload C 3 rfl dX12_attempt_252 ?_
    refine G_dup2 C rfl rfl dX12_attempt_254 ?_
    obtain ⟨hc30, h⟩ := ifn h
    refine G_laload C ks_145 hc30 dX12_attempt_255 ?_
    refine G_aload_n C 0 rfl rfl dX12_attempt_256 ?_
    refine G_getF C fl_X12_174_11 rfl rfl fn_81_89 dX12_attempt_257 ?_
    refine G_iload C 3 rfl dX12_attempt_260 ?_
    refine G_iaload C ks_135 hc30 dX12_attempt_262 ?_
    refine G_i2l C dX12_attempt_263 ?_
    refine G_lsub C dX12_attempt_264 ?_
    obtain ⟨σ31, hs31, h⟩ := stp_elim h
    refine G_lastore C ks_145 hc30 dX12_attempt_265 ?_
    rw [← hs31]
    refine G_iinc (v := 1) (L' := [(5, .int (x5 + (1 : Int32))), (0, .ref 81), (1, .int x1), (4, .int x4)]) C 3 rfl rfl (Nat.le_of_ble_eq_true rfl) rfl dX12_attempt_266 ?_
    refine G_goto (tgt := 241) C rfl dX12_attempt_269 ?_
    refine G_sub [1, 2, 3, 0] rfl ?_
    exact hf241 _ _ _ _ h
set_option maxRecDepth 100000 in
set_option maxHeartbeats 4000000 in
theorem eX12_attempt_241 (C : Cx E p s m args meth c cX12_attempt 6 RX12) (hr : meth.sig.returnType = (some .int)) {σ0 : Sto} {r1 : Int32} {r2 : Sto} {σ : Sto} {f135 : Int32 → Int32 → Sto → Option (Int32 × Sto)} {n : Nat} {x1 : Int32} {x4 : Int32} {x5 : Int32} (hf135 : ∀ (x1 : Int32) (x4 : Int32) (σ' : Sto), f135 x1 x4 σ' = some (r1, r2) → G p l e (rmd 9 0 0) s m args below meth c E true (sZ σ0) ad0 (MQ below (QI E true σ0 r1 r2 ad0) args s 0 0 (AE E)) 6 0 0 σ' 135 [(0, .ref 81), (1, .int x1), (4, .int x4)] []) (h : mX12_attempt_241 f135 n x1 x4 x5 σ = some (r1, r2)) : G p l e (rmd 9 0 0) s m args below meth c E true (sZ σ0) ad0 (MQ below (QI E true σ0 r1 r2 ad0) args s 0 0 (AE E)) 6 0 0 σ 241 [(0, .ref 81), (1, .int x1), (4, .int x4), (5, .int x5)] [] := by
  induction n generalizing x1 x4 x5 σ with
  | zero => exact nomatch (show (none : Option (Int32 × Sto)) = some (r1, r2) from h)
  | succ n ih => exact eX12_attempt_241B C hr hf135 (fun z0 z1 z2 σ9 h9 => ih h9) h
set_option maxRecDepth 100000 in
set_option maxHeartbeats 4000000 in
theorem eX12_attempt_196B (C : Cx E p s m args meth c cX12_attempt 6 RX12) (hr : meth.sig.returnType = (some .int)) {σ0 : Sto} {r1 : Int32} {r2 : Sto} {σ : Sto} {f135 : Int32 → Int32 → Sto → Option (Int32 × Sto)} {f196 : Int32 → Int32 → Int32 → Sto → Option (Int32 × Sto)} {x1 : Int32} {x4 : Int32} {x5 : Int32} (hf135 : ∀ (x1 : Int32) (x4 : Int32) (σ' : Sto), f135 x1 x4 σ' = some (r1, r2) → G p l e (rmd 9 0 0) s m args below meth c E true (sZ σ0) ad0 (MQ below (QI E true σ0 r1 r2 ad0) args s 0 0 (AE E)) 6 0 0 σ' 135 [(0, .ref 81), (1, .int x1), (4, .int x4)] []) (hf196 : ∀ (x1 : Int32) (x4 : Int32) (x5 : Int32) (σ' : Sto), f196 x1 x4 x5 σ' = some (r1, r2) → G p l e (rmd 9 0 0) s m args below meth c E true (sZ σ0) ad0 (MQ below (QI E true σ0 r1 r2 ad0) args s 0 0 (AE E)) 6 0 0 σ' 196 [(0, .ref 81), (1, .int x1), (4, .int x4), (5, .int x5)] []) (h : mX12_attempt_196B f135 f196 x1 x4 x5 σ = some (r1, r2)) : G p l e (rmd 9 0 0) s m args below meth c E true (sZ σ0) ad0 (MQ below (QI E true σ0 r1 r2 ad0) args s 0 0 (AE E)) 6 0 0 σ 196 [(0, .ref 81), (1, .int x1), (4, .int x4), (5, .int x5)] [] := by
  unfold mX12_attempt_196B at h
  refine G_iload C 3 rfl dX12_attempt_196 ?_
  refine G_bipush C (v := 30) rfl dX12_attempt_198 ?_
  refine G_icmp_ge (tgt := 227) C rfl dX12_attempt_200 (fun hc26 => ?_) (fun hc26 => ?_)
  · replace h := (if_pos hc26).symm.trans h
    refine G_aload_n C 0 rfl rfl dX12_attempt_227 ?_
    refine G_iconst C (v := 0) rfl dX12_attempt_228 ?_
    obtain ⟨σ27, hs27, h⟩ := stp_elim h
    refine G_putI C fl_X12_401_11 fp_X12_11_73 (Or.inl rfl) (Or.inr ⟨rfl, (by decide)⟩) ko_81 dX12_attempt_229 ?_
    rw [← hs27]
    refine G_aload_n C 0 rfl rfl dX12_attempt_232 ?_
    refine G_iload C 2 rfl dX12_attempt_233 ?_
    obtain ⟨σ28, hv28, h⟩ := bnd h
    refine G_callV (run_V C [.int x4] [] (dX12_sells hv28) ml_X12_sells mv_X12_sells lk_X12_477 ⟨(Nat.le_of_ble_eq_true rfl), (Nat.le_of_ble_eq_true rfl)⟩ ⟨(Nat.le_of_ble_eq_true rfl), (Nat.le_of_ble_eq_true rfl)⟩ vq_11 rfl ko_81 rfl (Nat.le_of_ble_eq_true rfl) dX12_attempt_235) ?_
    refine G_iconst C (v := 0) rfl dX12_attempt_238 ?_
    refine G_istore (L' := [(5, .int (0 : Int32)), (0, .ref 81), (1, .int x1), (4, .int x4)]) C (Nat.le_of_ble_eq_true rfl) rfl dX12_attempt_239 ?_
    refine G_sub [1, 2, 3, 0] rfl ?_
    exact eX12_attempt_241 C hr hf135 h
  · replace h := (if_neg hc26).symm.trans h
    refine G_aload_n C 0 rfl rfl dX12_attempt_203 ?_
    refine G_getF C fl_X12_205_11 rfl rfl fn_81_100 dX12_attempt_204 ?_
    refine G_iload C 3 rfl dX12_attempt_207 ?_
    refine G_dup2 C rfl rfl dX12_attempt_209 ?_
    obtain ⟨hc32, h⟩ := ifn h
    refine G_laload C ks_145 hc32 dX12_attempt_210 ?_
    refine G_aload_n C 0 rfl rfl dX12_attempt_211 ?_
    refine G_getF C fl_X12_174_11 rfl rfl fn_81_89 dX12_attempt_212 ?_
    refine G_iload C 3 rfl dX12_attempt_215 ?_
    refine G_iaload C ks_135 hc32 dX12_attempt_217 ?_
    refine G_i2l C dX12_attempt_218 ?_
    refine G_ladd C dX12_attempt_219 ?_
    obtain ⟨σ33, hs33, h⟩ := stp_elim h
    refine G_lastore C ks_145 hc32 dX12_attempt_220 ?_
    rw [← hs33]
    refine G_iinc (v := 1) (L' := [(5, .int (x5 + (1 : Int32))), (0, .ref 81), (1, .int x1), (4, .int x4)]) C 3 rfl rfl (Nat.le_of_ble_eq_true rfl) rfl dX12_attempt_221 ?_
    refine G_goto (tgt := 196) C rfl dX12_attempt_224 ?_
    refine G_sub [1, 2, 3, 0] rfl ?_
    exact hf196 _ _ _ _ h
set_option maxRecDepth 100000 in
set_option maxHeartbeats 4000000 in
theorem eX12_attempt_196 (C : Cx E p s m args meth c cX12_attempt 6 RX12) (hr : meth.sig.returnType = (some .int)) {σ0 : Sto} {r1 : Int32} {r2 : Sto} {σ : Sto} {f135 : Int32 → Int32 → Sto → Option (Int32 × Sto)} {n : Nat} {x1 : Int32} {x4 : Int32} {x5 : Int32} (hf135 : ∀ (x1 : Int32) (x4 : Int32) (σ' : Sto), f135 x1 x4 σ' = some (r1, r2) → G p l e (rmd 9 0 0) s m args below meth c E true (sZ σ0) ad0 (MQ below (QI E true σ0 r1 r2 ad0) args s 0 0 (AE E)) 6 0 0 σ' 135 [(0, .ref 81), (1, .int x1), (4, .int x4)] []) (h : mX12_attempt_196 f135 n x1 x4 x5 σ = some (r1, r2)) : G p l e (rmd 9 0 0) s m args below meth c E true (sZ σ0) ad0 (MQ below (QI E true σ0 r1 r2 ad0) args s 0 0 (AE E)) 6 0 0 σ 196 [(0, .ref 81), (1, .int x1), (4, .int x4), (5, .int x5)] [] := by
  induction n generalizing x1 x4 x5 σ with
  | zero => exact nomatch (show (none : Option (Int32 × Sto)) = some (r1, r2) from h)
  | succ n ih => exact eX12_attempt_196B C hr hf135 (fun z0 z1 z2 σ9 h9 => ih h9) h
set_option maxRecDepth 100000 in
set_option maxHeartbeats 4000000 in
theorem eX12_attempt_135B (C : Cx E p s m args meth c cX12_attempt 6 RX12) (hr : meth.sig.returnType = (some .int)) {σ0 : Sto} {r1 : Int32} {r2 : Sto} {σ : Sto} {f135 : Int32 → Int32 → Sto → Option (Int32 × Sto)} {x1 : Int32} {x4 : Int32} (hf135 : ∀ (x1 : Int32) (x4 : Int32) (σ' : Sto), f135 x1 x4 σ' = some (r1, r2) → G p l e (rmd 9 0 0) s m args below meth c E true (sZ σ0) ad0 (MQ below (QI E true σ0 r1 r2 ad0) args s 0 0 (AE E)) 6 0 0 σ' 135 [(0, .ref 81), (1, .int x1), (4, .int x4)] []) (h : mX12_attempt_135B f135 x1 x4 σ = some (r1, r2)) : G p l e (rmd 9 0 0) s m args below meth c E true (sZ σ0) ad0 (MQ below (QI E true σ0 r1 r2 ad0) args s 0 0 (AE E)) 6 0 0 σ 135 [(0, .ref 81), (1, .int x1), (4, .int x4)] [] := by
  unfold mX12_attempt_135B at h
  refine G_iload C 2 rfl dX12_attempt_135 ?_
  refine G_aload_n C 0 rfl rfl dX12_attempt_137 ?_
  refine G_getI C fl_X12_253_11 (Or.inl rfl) ko_81 dX12_attempt_138 ?_
  refine G_icmp_ge (tgt := 278) C rfl dX12_attempt_141 (fun hc18 => ?_) (fun hc18 => ?_)
  · replace h := (if_pos hc18).symm.trans h
    refine G_iconst C (v := 0) rfl dX12_attempt_278 ?_
    obtain ⟨rfl, rfl⟩ := some2 h
    exact G_iret C hr (Nat.le_of_ble_eq_true rfl) (Nat.le_of_ble_eq_true rfl) dX12_attempt_279
  · replace h := (if_neg hc18).symm.trans h
    refine G_aload_n C 0 rfl rfl dX12_attempt_144 ?_
    refine G_getF C fl_X12_56_11 rfl rfl fn_81_24 dX12_attempt_145 ?_
    refine G_iload C 2 rfl dX12_attempt_148 ?_
    obtain ⟨hc19, h⟩ := ifn h
    refine G_iaload C ks_97 hc19 dX12_attempt_150 ?_
    refine G_iconst C (v := 2) rfl dX12_attempt_151 ?_
    refine G_icmp_ne (tgt := 272) C rfl dX12_attempt_152 (fun hc20 => ?_) (fun hc20 => ?_)
    · replace h := (if_neg hc20).symm.trans h
      refine G_iinc (v := 1) (L' := [(4, .int (x4 + (1 : Int32))), (0, .ref 81), (1, .int x1)]) C 2 rfl rfl (Nat.le_of_ble_eq_true rfl) rfl dX12_attempt_272 ?_
      refine G_goto (tgt := 135) C rfl dX12_attempt_275 ?_
      refine G_sub [1, 2, 0] rfl ?_
      exact hf135 _ _ _ h
    · replace h := (if_pos hc20).symm.trans h
      refine G_aload_n C 0 rfl rfl dX12_attempt_155 ?_
      refine G_getF C fl_X12_74_11 rfl rfl fn_81_30 dX12_attempt_156 ?_
      refine G_iload C 2 rfl dX12_attempt_159 ?_
      refine G_iaload C ks_103 hc19 dX12_attempt_161 ?_
      refine G_iload_n C 1 rfl rfl dX12_attempt_162 ?_
      refine G_icmp_ne (tgt := 272) C rfl dX12_attempt_163 (fun hc21 => ?_) (fun hc21 => ?_)
      · replace h := (if_neg hc21).symm.trans h
        refine G_iinc (v := 1) (L' := [(4, .int (x4 + (1 : Int32))), (0, .ref 81), (1, .int x1)]) C 2 rfl rfl (Nat.le_of_ble_eq_true rfl) rfl dX12_attempt_272 ?_
        refine G_goto (tgt := 135) C rfl dX12_attempt_275 ?_
        refine G_sub [1, 2, 0] rfl ?_
        exact hf135 _ _ _ h
      · replace h := (if_pos hc21).symm.trans h
        refine G_aload_n C 0 rfl rfl dX12_attempt_166 ?_
        refine G_iload C 2 rfl dX12_attempt_167 ?_
        refine G_aload_n C 0 rfl rfl dX12_attempt_169 ?_
        refine G_getI C fl_X12_250_11 (Or.inl rfl) ko_81 dX12_attempt_170 ?_
        obtain ⟨v22, hv22, h⟩ := bnd h
        refine G_callI (run_V C [.int x4, .int (sI σ 81 1)] [] (dX12_isKnown hv22) ml_X12_isKnown mv_X12_isKnown lk_X12_260 ⟨(Nat.le_of_ble_eq_true rfl), (Nat.le_of_ble_eq_true rfl)⟩ ⟨(Nat.le_of_ble_eq_true rfl), (Nat.le_of_ble_eq_true rfl)⟩ vq_11 rfl ko_81 rfl (Nat.le_of_ble_eq_true rfl) dX12_attempt_173) ?_
        refine G_if_ne (tgt := 182) C rfl dX12_attempt_176 (fun hc23 => ?_) (fun hc23 => ?_)
        · replace h := (if_neg hc23).symm.trans h
          refine G_aload_n C 0 rfl rfl dX12_attempt_182 ?_
          refine G_iconst C (v := 1) rfl dX12_attempt_183 ?_
          obtain ⟨σ24, hs24, h⟩ := stp_elim h
          refine G_putI C fl_X12_401_11 fp_X12_11_73 (Or.inl rfl) (Or.inr ⟨rfl, (by decide)⟩) ko_81 dX12_attempt_184 ?_
          rw [← hs24]
          refine G_aload_n C 0 rfl rfl dX12_attempt_187 ?_
          refine G_iload C 2 rfl dX12_attempt_188 ?_
          obtain ⟨σ25, hv25, h⟩ := bnd h
          refine G_callV (run_V C [.int x4] [] (dX12_sells hv25) ml_X12_sells mv_X12_sells lk_X12_477 ⟨(Nat.le_of_ble_eq_true rfl), (Nat.le_of_ble_eq_true rfl)⟩ ⟨(Nat.le_of_ble_eq_true rfl), (Nat.le_of_ble_eq_true rfl)⟩ vq_11 rfl ko_81 rfl (Nat.le_of_ble_eq_true rfl) dX12_attempt_190) ?_
          refine G_iconst C (v := 0) rfl dX12_attempt_193 ?_
          refine G_istore (L' := [(5, .int (0 : Int32)), (0, .ref 81), (1, .int x1), (4, .int x4)]) C (Nat.le_of_ble_eq_true rfl) rfl dX12_attempt_194 ?_
          refine G_sub [1, 2, 3, 0] rfl ?_
          exact eX12_attempt_196 C hr hf135 h
        · replace h := (if_pos hc23).symm.trans h
          refine G_goto (tgt := 272) C rfl dX12_attempt_179 ?_
          refine G_iinc (v := 1) (L' := [(4, .int (x4 + (1 : Int32))), (0, .ref 81), (1, .int x1)]) C 2 rfl rfl (Nat.le_of_ble_eq_true rfl) rfl dX12_attempt_272 ?_
          refine G_goto (tgt := 135) C rfl dX12_attempt_275 ?_
          refine G_sub [1, 2, 0] rfl ?_
          exact hf135 _ _ _ h
set_option maxRecDepth 100000 in
set_option maxHeartbeats 4000000 in
theorem eX12_attempt_135 (C : Cx E p s m args meth c cX12_attempt 6 RX12) (hr : meth.sig.returnType = (some .int)) {σ0 : Sto} {r1 : Int32} {r2 : Sto} {σ : Sto} {n : Nat} {x1 : Int32} {x4 : Int32} (h : mX12_attempt_135 n x1 x4 σ = some (r1, r2)) : G p l e (rmd 9 0 0) s m args below meth c E true (sZ σ0) ad0 (MQ below (QI E true σ0 r1 r2 ad0) args s 0 0 (AE E)) 6 0 0 σ 135 [(0, .ref 81), (1, .int x1), (4, .int x4)] [] := by
  induction n generalizing x1 x4 σ with
  | zero => exact nomatch (show (none : Option (Int32 × Sto)) = some (r1, r2) from h)
  | succ n ih => exact eX12_attempt_135B C hr (fun z0 z1 σ9 h9 => ih h9) h
set_option maxRecDepth 100000 in
set_option maxHeartbeats 4000000 in
theorem eX12_attempt_111B (C : Cx E p s m args meth c cX12_attempt 6 RX12) (hr : meth.sig.returnType = (some .int)) {σ0 : Sto} {r1 : Int32} {r2 : Sto} {σ : Sto} {f111 : Int32 → Int32 → Sto → Option (Int32 × Sto)} {x1 : Int32} {x4 : Int32} (hf111 : ∀ (x1 : Int32) (x4 : Int32) (σ' : Sto), f111 x1 x4 σ' = some (r1, r2) → G p l e (rmd 9 0 0) s m args below meth c E true (sZ σ0) ad0 (MQ below (QI E true σ0 r1 r2 ad0) args s 0 0 (AE E)) 6 0 0 σ' 111 [(0, .ref 81), (1, .int x1), (4, .int x4)] []) (h : mX12_attempt_111B f111 x1 x4 σ = some (r1, r2)) : G p l e (rmd 9 0 0) s m args below meth c E true (sZ σ0) ad0 (MQ below (QI E true σ0 r1 r2 ad0) args s 0 0 (AE E)) 6 0 0 σ 111 [(0, .ref 81), (1, .int x1), (4, .int x4)] [] := by
  unfold mX12_attempt_111B at h
  refine G_iload C 2 rfl dX12_attempt_111 ?_
  refine G_bipush C (v := 30) rfl dX12_attempt_113 ?_
  refine G_icmp_ge (tgt := 132) C rfl dX12_attempt_115 (fun hc17 => ?_) (fun hc17 => ?_)
  · replace h := (if_pos hc17).symm.trans h
    refine G_iconst C (v := 0) rfl dX12_attempt_132 ?_
    refine G_istore (L' := [(4, .int (0 : Int32)), (0, .ref 81), (1, .int x1)]) C (Nat.le_of_ble_eq_true rfl) rfl dX12_attempt_133 ?_
    refine G_sub [1, 2, 0] rfl ?_
    exact eX12_attempt_135 C hr h
  · replace h := (if_neg hc17).symm.trans h
    refine G_aload_n C 0 rfl rfl dX12_attempt_118 ?_
    refine G_getF C fl_X12_205_11 rfl rfl fn_81_100 dX12_attempt_119 ?_
    refine G_iload C 2 rfl dX12_attempt_122 ?_
    refine G_lconst C (v := 0) rfl dX12_attempt_124 ?_
    obtain ⟨hc34, h⟩ := ifn h
    obtain ⟨σ35, hs35, h⟩ := stp_elim h
    refine G_lastore C ks_145 hc34 dX12_attempt_125 ?_
    rw [← hs35]
    refine G_iinc (v := 1) (L' := [(4, .int (x4 + (1 : Int32))), (0, .ref 81), (1, .int x1)]) C 2 rfl rfl (Nat.le_of_ble_eq_true rfl) rfl dX12_attempt_126 ?_
    refine G_goto (tgt := 111) C rfl dX12_attempt_129 ?_
    refine G_sub [1, 2, 0] rfl ?_
    exact hf111 _ _ _ h
set_option maxRecDepth 100000 in
set_option maxHeartbeats 4000000 in
theorem eX12_attempt_111 (C : Cx E p s m args meth c cX12_attempt 6 RX12) (hr : meth.sig.returnType = (some .int)) {σ0 : Sto} {r1 : Int32} {r2 : Sto} {σ : Sto} {n : Nat} {x1 : Int32} {x4 : Int32} (h : mX12_attempt_111 n x1 x4 σ = some (r1, r2)) : G p l e (rmd 9 0 0) s m args below meth c E true (sZ σ0) ad0 (MQ below (QI E true σ0 r1 r2 ad0) args s 0 0 (AE E)) 6 0 0 σ 111 [(0, .ref 81), (1, .int x1), (4, .int x4)] [] := by
  induction n generalizing x1 x4 σ with
  | zero => exact nomatch (show (none : Option (Int32 × Sto)) = some (r1, r2) from h)
  | succ n ih => exact eX12_attempt_111B C hr (fun z0 z1 σ9 h9 => ih h9) h
set_option maxRecDepth 100000 in
set_option maxHeartbeats 4000000 in
theorem eX12_attempt_31 (C : Cx E p s m args meth c cX12_attempt 6 RX12) (hr : meth.sig.returnType = (some .int)) {σ0 : Sto} {r1 : Int32} {r2 : Sto} {σ : Sto} {x1 : Int32} {x2 : Int32} {x3 : Int32} {y1 : Int32} (h : mX12_attempt_31 x1 x2 x3 y1 σ = some (r1, r2)) : G p l e (rmd 9 0 0) s m args below meth c E true (sZ σ0) ad0 (MQ below (QI E true σ0 r1 r2 ad0) args s 0 0 (AE E)) 6 0 0 σ 31 [(0, .ref 81), (1, .int x1), (2, .int x2), (3, .int x3)] [.int y1, .ref 81] := by
  unfold mX12_attempt_31 at h
  refine G_iconst C (v := 2) rfl dX12_attempt_31 ?_
  obtain ⟨v5, σ5, hv5, h⟩ := bd2_elim h
  refine G_callI (run_V C [.int y1, .int (2 : Int32)] [] (dX12_right hv5) ml_X12_right mv_X12_right lk_X12_214 ⟨(Nat.le_of_ble_eq_true rfl), (Nat.le_of_ble_eq_true rfl)⟩ ⟨(Nat.le_of_ble_eq_true rfl), (Nat.le_of_ble_eq_true rfl)⟩ vq_11 rfl ko_81 rfl (Nat.le_of_ble_eq_true rfl) dX12_attempt_32) ?_
  refine G_if_ne (tgt := 40) C rfl dX12_attempt_35 (fun hc6 => ?_) (fun hc6 => ?_)
  · replace h := (if_neg hc6).symm.trans h
    refine G_aload_n C 0 rfl rfl dX12_attempt_40 ?_
    refine G_iconst C (v := -1) rfl dX12_attempt_41 ?_
    obtain ⟨σ7, hs7, h⟩ := stp_elim h
    refine G_putI C fl_X12_101_11 fp_X12_11_41 (Or.inl rfl) (Or.inl rfl) ko_81 dX12_attempt_42 ?_
    rw [← hs7]
    refine G_aload_n C 0 rfl rfl dX12_attempt_45 ?_
    refine G_iconst C (v := 0) rfl dX12_attempt_46 ?_
    obtain ⟨σ8, hs8, h⟩ := stp_elim h
    refine G_putI C fl_X12_326_11 fp_X12_11_40 (Or.inl rfl) (Or.inl rfl) ko_81 dX12_attempt_47 ?_
    rw [← hs8]
    refine G_iload_n C 3 rfl rfl dX12_attempt_50 ?_
    refine G_callI (run_S C [.int x3] [] (dX12_isDay rfl) ml_X12_isDay ms_X12_isDay lk_X12_235 ⟨(Nat.le_of_ble_eq_true rfl), (Nat.le_of_ble_eq_true rfl)⟩ ⟨(Nat.le_of_ble_eq_true rfl), (Nat.le_of_ble_eq_true rfl)⟩ rfl (Nat.le_of_ble_eq_true rfl) dX12_attempt_51) ?_
    refine G_if_ne (tgt := 65) C rfl dX12_attempt_54 (fun hc10 => ?_) (fun hc10 => ?_)
    · replace h := (if_neg hc10).symm.trans h
      refine G_aload_n C 0 rfl rfl dX12_attempt_65 ?_
      refine G_bipush C (v := 12) rfl dX12_attempt_66 ?_
      refine G_iload_n C 2 rfl rfl dX12_attempt_68 ?_
      obtain ⟨σ11, hv11, h⟩ := bnd h
      refine G_callV (run_V C [.int (12 : Int32), .int x2] [] (dX12_reads hv11) ml_X12_reads mv_X12_reads lk_X12_394 ⟨(Nat.le_of_ble_eq_true rfl), (Nat.le_of_ble_eq_true rfl)⟩ ⟨(Nat.le_of_ble_eq_true rfl), (Nat.le_of_ble_eq_true rfl)⟩ vq_11 rfl ko_81 rfl (Nat.le_of_ble_eq_true rfl) dX12_attempt_69) ?_
      refine G_aload_n C 0 rfl rfl dX12_attempt_72 ?_
      refine G_callI (run_V C [] [] (dX12_isGood rfl) ml_X12_isGood mv_X12_isGood lk_X12_341 ⟨(Nat.le_of_ble_eq_true rfl), (Nat.le_of_ble_eq_true rfl)⟩ ⟨(Nat.le_of_ble_eq_true rfl), (Nat.le_of_ble_eq_true rfl)⟩ vq_11 rfl ko_81 rfl (Nat.le_of_ble_eq_true rfl) dX12_attempt_73) ?_
      refine G_if_ne (tgt := 84) C rfl dX12_attempt_76 (fun hc13 => ?_) (fun hc13 => ?_)
      · replace h := (if_neg hc13).symm.trans h
        refine G_aload_n C 0 rfl rfl dX12_attempt_84 ?_
        refine G_getF C fl_X12_105_11 rfl rfl fn_81_55 dX12_attempt_85 ?_
        refine G_bipush C (v := 12) rfl dX12_attempt_88 ?_
        refine G_iload_n C 1 rfl rfl dX12_attempt_90 ?_
        obtain ⟨σ14, hs14, h⟩ := stp_elim h
        refine G_iastore C ks_112 ⟨by decide, by decide⟩ dX12_attempt_91 ?_
        rw [← hs14]
        refine G_aload_n C 0 rfl rfl dX12_attempt_92 ?_
        refine G_getF C fl_X12_108_11 rfl rfl fn_81_56 dX12_attempt_93 ?_
        refine G_bipush C (v := 12) rfl dX12_attempt_96 ?_
        refine G_iload_n C 3 rfl rfl dX12_attempt_98 ?_
        obtain ⟨σ15, hs15, h⟩ := stp_elim h
        refine G_iastore C ks_113 ⟨by decide, by decide⟩ dX12_attempt_99 ?_
        rw [← hs15]
        refine G_aload_n C 0 rfl rfl dX12_attempt_100 ?_
        refine G_aload_n C 0 rfl rfl dX12_attempt_101 ?_
        refine G_getI C fl_X12_250_11 (Or.inl rfl) ko_81 dX12_attempt_102 ?_
        obtain ⟨σ16, hv16, h⟩ := bnd h
        refine G_callV (run_V C [.int (sI σ15 81 1)] [] (dX12_gathers hv16) ml_X12_gathers mv_X12_gathers lk_X12_474 ⟨(Nat.le_of_ble_eq_true rfl), (Nat.le_of_ble_eq_true rfl)⟩ ⟨(Nat.le_of_ble_eq_true rfl), (Nat.le_of_ble_eq_true rfl)⟩ vq_11 rfl ko_81 rfl (Nat.le_of_ble_eq_true rfl) dX12_attempt_105) ?_
        refine G_iconst C (v := 0) rfl dX12_attempt_108 ?_
        refine G_istore (L' := [(4, .int (0 : Int32)), (0, .ref 81), (1, .int x1), (2, .int x2), (3, .int x3)]) C (Nat.le_of_ble_eq_true rfl) rfl dX12_attempt_109 ?_
        refine G_sub [1, 2, 0] rfl ?_
        exact eX12_attempt_111 C hr h
      · replace h := (if_pos hc13).symm.trans h
        refine G_aload_n C 0 rfl rfl dX12_attempt_79 ?_
        refine G_getI C fl_X12_326_11 (Or.inl rfl) ko_81 dX12_attempt_80 ?_
        obtain ⟨rfl, rfl⟩ := some2 h
        exact G_iret C hr (Nat.le_of_ble_eq_true rfl) (Nat.le_of_ble_eq_true rfl) dX12_attempt_83
    · replace h := (if_pos hc10).symm.trans h
      refine G_aload_n C 0 rfl rfl dX12_attempt_57 ?_
      refine G_iconst C (v := 0) rfl dX12_attempt_58 ?_
      obtain ⟨σ36, hs36, h⟩ := stp_elim h
      refine G_putI C fl_X12_276_11 fp_X12_11_39 (Or.inl rfl) (Or.inl rfl) ko_81 dX12_attempt_59 ?_
      rw [← hs36]
      refine G_bipush C (v := 9) rfl dX12_attempt_62 ?_
      obtain ⟨rfl, rfl⟩ := some2 h
      exact G_iret C hr (Nat.le_of_ble_eq_true rfl) (Nat.le_of_ble_eq_true rfl) dX12_attempt_64
  · replace h := (if_pos hc6).symm.trans h
    refine G_iconst C (v := 0) rfl dX12_attempt_38 ?_
    obtain ⟨rfl, rfl⟩ := some2 h
    exact G_iret C hr (Nat.le_of_ble_eq_true rfl) (Nat.le_of_ble_eq_true rfl) dX12_attempt_39
set_option maxRecDepth 100000 in
set_option maxHeartbeats 4000000 in
theorem eX12_attempt_30 (C : Cx E p s m args meth c cX12_attempt 6 RX12) (hr : meth.sig.returnType = (some .int)) {σ0 : Sto} {r1 : Int32} {r2 : Sto} {σ : Sto} {x1 : Int32} {x2 : Int32} {x3 : Int32} (h : mX12_attempt_30 x1 x2 x3 σ = some (r1, r2)) : G p l e (rmd 9 0 0) s m args below meth c E true (sZ σ0) ad0 (MQ below (QI E true σ0 r1 r2 ad0) args s 0 0 (AE E)) 6 0 0 σ 30 [(0, .ref 81), (1, .int x1), (2, .int x2), (3, .int x3)] [.ref 81] := by
  unfold mX12_attempt_30 at h
  refine G_iconst C (v := 0) rfl dX12_attempt_30 ?_
  exact eX12_attempt_31 C hr h
set_option maxRecDepth 100000 in
set_option maxHeartbeats 4000000 in
theorem dX12_attempt {σ : Sto} {p0 : Int32} {p1 : Int32} {p2 : Int32} {r1 : Int32} {r2 : Sto} (h : mX12_attempt p0 p1 p2 σ = some (r1, r2)) : MM l yX12_attempt cX12_attempt 6 (some .int) 9 0 0 E true σ [.ref 81, .int p0, .int p1, .int p2] (QI E true σ r1 r2) := by
  unfold mX12_attempt at h
  refine MM_of (by decide) (Nat.le_of_ble_eq_true rfl) rfl (fun p e s m args below meth c ad0 C hr hn => ?_)
  refine G_aload_n C 0 rfl rfl dX12_attempt_0 ?_
  refine G_iconst C (v := 0) rfl dX12_attempt_1 ?_
  obtain ⟨σ1, hs1, h⟩ := stp_elim h
  refine G_putI C fl_X12_208_11 fp_X12_11_0 (Or.inl rfl) (Or.inl rfl) ko_81 dX12_attempt_2 ?_
  rw [← hs1]
  refine G_aload_n C 0 rfl rfl dX12_attempt_5 ?_
  refine G_iload_n C 1 rfl rfl dX12_attempt_6 ?_
  obtain ⟨v2, σ2, hv2, h⟩ := bd2_elim h
  refine G_callI (run_V C [.int p0] [] (dX12_isLand hv2) ml_X12_isLand mv_X12_isLand lk_X12_228 ⟨(Nat.le_of_ble_eq_true rfl), (Nat.le_of_ble_eq_true rfl)⟩ ⟨(Nat.le_of_ble_eq_true rfl), (Nat.le_of_ble_eq_true rfl)⟩ vq_11 rfl ko_81 rfl (Nat.le_of_ble_eq_true rfl) dX12_attempt_7) ?_
  refine G_if_eq (tgt := 38) C rfl dX12_attempt_10 (fun hc3 => ?_) (fun hc3 => ?_)
  · replace h := (if_pos hc3).symm.trans h
    refine G_iconst C (v := 0) rfl dX12_attempt_38 ?_
    obtain ⟨rfl, rfl⟩ := some2 h
    exact G_iret C hr (Nat.le_of_ble_eq_true rfl) (Nat.le_of_ble_eq_true rfl) dX12_attempt_39
  · replace h := (if_neg hc3).symm.trans h
    refine G_aload_n C 0 rfl rfl dX12_attempt_13 ?_
    refine G_iload_n C 2 rfl rfl dX12_attempt_14 ?_
    refine G_if_lt (tgt := 30) C rfl dX12_attempt_15 (fun hc4 => ?_) (fun hc4 => ?_)
    · replace h := (if_pos hc4).symm.trans h
      exact eX12_attempt_30 C hr h
    · replace h := (if_neg hc4).symm.trans h
      refine G_iload_n C 2 rfl rfl dX12_attempt_18 ?_
      refine G_aload_n C 0 rfl rfl dX12_attempt_19 ?_
      refine G_getI C fl_X12_276_11 (Or.inl rfl) ko_81 dX12_attempt_20 ?_
      refine G_icmp_gt (tgt := 30) C rfl dX12_attempt_23 (fun hc37 => ?_) (fun hc37 => ?_)
      · replace h := (if_pos hc37).symm.trans h
        exact eX12_attempt_30 C hr h
      · replace h := (if_neg hc37).symm.trans h
        refine G_iconst C (v := 1) rfl dX12_attempt_26 ?_
        refine G_goto (tgt := 31) C rfl dX12_attempt_27 ?_
        exact eX12_attempt_31 C hr h
set_option maxRecDepth 100000 in
set_option maxHeartbeats 4000000 in
theorem dX12_more {σ : Sto} {p0 : Int32} {r1 : Int64} {r2 : Sto} (h : mX12_more p0 σ = some (r1, r2)) : MM l yX12_more cX12_more 2 (some .long) 3 0 0 E true σ [.ref 81, .int p0] (QL E true σ r1 r2) := by
  unfold mX12_more at h
  refine MM_of (by decide) (Nat.le_of_ble_eq_true rfl) rfl (fun p e s m args below meth c ad0 C hr hn => ?_)
  refine G_aload_n C 0 rfl rfl dX12_more_0 ?_
  refine G_iconst C (v := 0) rfl dX12_more_1 ?_
  obtain ⟨σ1, hs1, h⟩ := stp_elim h
  refine G_putI C fl_X12_208_11 fp_X12_11_0 (Or.inl rfl) (Or.inl rfl) ko_81 dX12_more_2 ?_
  rw [← hs1]
  refine G_aload_n C 0 rfl rfl dX12_more_5 ?_
  refine G_iload_n C 1 rfl rfl dX12_more_6 ?_
  obtain ⟨v2, σ2, hv2, h⟩ := bd2_elim h
  refine G_callI (run_V C [.int p0] [] (dX12_isPerson hv2) ml_X12_isPerson mv_X12_isPerson lk_X12_239 ⟨(Nat.le_of_ble_eq_true rfl), (Nat.le_of_ble_eq_true rfl)⟩ ⟨(Nat.le_of_ble_eq_true rfl), (Nat.le_of_ble_eq_true rfl)⟩ vq_11 rfl ko_81 rfl (Nat.le_of_ble_eq_true rfl) dX12_more_7) ?_
  refine G_if_eq (tgt := 22) C rfl dX12_more_10 (fun hc3 => ?_) (fun hc3 => ?_)
  · replace h := (if_pos hc3).symm.trans h
    refine G_lconst C (v := 0) rfl dX12_more_22 ?_
    obtain ⟨rfl, rfl⟩ := some2 h
    exact G_lret C hr (Nat.le_of_ble_eq_true rfl) (Nat.le_of_ble_eq_true rfl) dX12_more_23
  · replace h := (if_neg hc3).symm.trans h
    refine G_aload_n C 0 rfl rfl dX12_more_13 ?_
    refine G_getF C fl_X12_205_11 rfl rfl fn_81_100 dX12_more_14 ?_
    refine G_iload_n C 1 rfl rfl dX12_more_17 ?_
    obtain ⟨hc4, h⟩ := ifn h
    refine G_laload C ks_145 hc4 dX12_more_18 ?_
    refine G_goto (tgt := 23) C rfl dX12_more_19 ?_
    obtain ⟨rfl, rfl⟩ := some2 h
    exact G_lret C hr (Nat.le_of_ble_eq_true rfl) (Nat.le_of_ble_eq_true rfl) dX12_more_23
set_option maxRecDepth 100000 in
set_option maxHeartbeats 4000000 in
theorem eX12_count_21 (C : Cx E p s m args meth c cX12_count 2 RX12) (hr : meth.sig.returnType = (some .int)) {σ0 : Sto} {r1 : Int32} {r2 : Sto} {σ : Sto} {x1 : Int32} {y1 : Int32} (h : mX12_count_21 x1 y1 σ = some (r1, r2)) : G p l e (rmd 2 0 0) s m args below meth c E true (sZ σ0) ad0 (MQ below (QI E true σ0 r1 r2 ad0) args s 0 0 (AE E)) 2 0 0 σ 21 [(0, .ref 81), (1, .int x1)] [.int y1, .ref 81] := by
  unfold mX12_count_21 at h
  refine G_iconst C (v := 1) rfl dX12_count_21 ?_
  obtain ⟨v3, σ3, hv3, h⟩ := bd2_elim h
  refine G_callI (run_V C [.int y1, .int (1 : Int32)] [] (dX12_right hv3) ml_X12_right mv_X12_right lk_X12_214 ⟨(Nat.le_of_ble_eq_true rfl), (Nat.le_of_ble_eq_true rfl)⟩ ⟨(Nat.le_of_ble_eq_true rfl), (Nat.le_of_ble_eq_true rfl)⟩ vq_11 rfl ko_81 rfl (Nat.le_of_ble_eq_true rfl) dX12_count_22) ?_
  refine G_if_ne (tgt := 30) C rfl dX12_count_25 (fun hc4 => ?_) (fun hc4 => ?_)
  · replace h := (if_neg hc4).symm.trans h
    refine G_iload_n C 1 rfl rfl dX12_count_30 ?_
    by_cases hc5 : x1 = (0 : Int32)
    · replace h := (if_pos hc5).symm.trans h
      refine G_tswIn (tgt := 76) C (0) 0 hc5 (by decide) (by decide) (by decide) rfl rfl dX12_count_31 ?_
      refine G_aload_n C 0 rfl rfl dX12_count_76 ?_
      refine G_getI C fl_X12_250_11 (Or.inl rfl) ko_81 dX12_count_77 ?_
      obtain ⟨rfl, rfl⟩ := some2 h
      exact G_iret C hr (Nat.le_of_ble_eq_true rfl) (Nat.le_of_ble_eq_true rfl) dX12_count_80
    replace h := (if_neg hc5).symm.trans h
    by_cases hc6 : x1 = (1 : Int32)
    · replace h := (if_pos hc6).symm.trans h
      refine G_tswIn (tgt := 81) C (1) 1 hc6 (by decide) (by decide) (by decide) rfl rfl dX12_count_31 ?_
      refine G_aload_n C 0 rfl rfl dX12_count_81 ?_
      refine G_getI C fl_X12_211_11 (Or.inl rfl) ko_81 dX12_count_82 ?_
      obtain ⟨rfl, rfl⟩ := some2 h
      exact G_iret C hr (Nat.le_of_ble_eq_true rfl) (Nat.le_of_ble_eq_true rfl) dX12_count_85
    replace h := (if_neg hc6).symm.trans h
    by_cases hc7 : x1 = (2 : Int32)
    · replace h := (if_pos hc7).symm.trans h
      refine G_tswIn (tgt := 86) C (2) 2 hc7 (by decide) (by decide) (by decide) rfl rfl dX12_count_31 ?_
      refine G_aload_n C 0 rfl rfl dX12_count_86 ?_
      refine G_getI C fl_X12_218_11 (Or.inl rfl) ko_81 dX12_count_87 ?_
      obtain ⟨rfl, rfl⟩ := some2 h
      exact G_iret C hr (Nat.le_of_ble_eq_true rfl) (Nat.le_of_ble_eq_true rfl) dX12_count_90
    replace h := (if_neg hc7).symm.trans h
    by_cases hc8 : x1 = (3 : Int32)
    · replace h := (if_pos hc8).symm.trans h
      refine G_tswIn (tgt := 91) C (3) 3 hc8 (by decide) (by decide) (by decide) rfl rfl dX12_count_31 ?_
      refine G_aload_n C 0 rfl rfl dX12_count_91 ?_
      refine G_getI C fl_X12_221_11 (Or.inl rfl) ko_81 dX12_count_92 ?_
      obtain ⟨rfl, rfl⟩ := some2 h
      exact G_iret C hr (Nat.le_of_ble_eq_true rfl) (Nat.le_of_ble_eq_true rfl) dX12_count_95
    replace h := (if_neg hc8).symm.trans h
    by_cases hc9 : x1 = (4 : Int32)
    · replace h := (if_pos hc9).symm.trans h
      refine G_tswIn (tgt := 96) C (4) 4 hc9 (by decide) (by decide) (by decide) rfl rfl dX12_count_31 ?_
      refine G_aload_n C 0 rfl rfl dX12_count_96 ?_
      refine G_getI C fl_X12_224_11 (Or.inl rfl) ko_81 dX12_count_97 ?_
      obtain ⟨rfl, rfl⟩ := some2 h
      exact G_iret C hr (Nat.le_of_ble_eq_true rfl) (Nat.le_of_ble_eq_true rfl) dX12_count_100
    replace h := (if_neg hc9).symm.trans h
    by_cases hc10 : x1 = (5 : Int32)
    · replace h := (if_pos hc10).symm.trans h
      refine G_tswIn (tgt := 101) C (5) 5 hc10 (by decide) (by decide) (by decide) rfl rfl dX12_count_31 ?_
      refine G_aload_n C 0 rfl rfl dX12_count_101 ?_
      refine G_getI C fl_X12_253_11 (Or.inl rfl) ko_81 dX12_count_102 ?_
      obtain ⟨rfl, rfl⟩ := some2 h
      exact G_iret C hr (Nat.le_of_ble_eq_true rfl) (Nat.le_of_ble_eq_true rfl) dX12_count_105
    replace h := (if_neg hc10).symm.trans h
    by_cases hc11 : x1 = (6 : Int32)
    · replace h := (if_pos hc11).symm.trans h
      refine G_tswIn (tgt := 106) C (6) 6 hc11 (by decide) (by decide) (by decide) rfl rfl dX12_count_31 ?_
      refine G_aload_n C 0 rfl rfl dX12_count_106 ?_
      refine G_getI C fl_X12_267_11 (Or.inl rfl) ko_81 dX12_count_107 ?_
      obtain ⟨rfl, rfl⟩ := some2 h
      exact G_iret C hr (Nat.le_of_ble_eq_true rfl) (Nat.le_of_ble_eq_true rfl) dX12_count_110
    replace h := (if_neg hc11).symm.trans h
    by_cases hc12 : x1 = (7 : Int32)
    · replace h := (if_pos hc12).symm.trans h
      refine G_tswIn (tgt := 111) C (7) 7 hc12 (by decide) (by decide) (by decide) rfl rfl dX12_count_31 ?_
      refine G_aload_n C 0 rfl rfl dX12_count_111 ?_
      refine G_getI C fl_X12_273_11 (Or.inl rfl) ko_81 dX12_count_112 ?_
      obtain ⟨rfl, rfl⟩ := some2 h
      exact G_iret C hr (Nat.le_of_ble_eq_true rfl) (Nat.le_of_ble_eq_true rfl) dX12_count_115
    replace h := (if_neg hc12).symm.trans h
    have ht13 : ∀ j : Nat, j < 8 → x1 ≠ Int32.ofInt (0 + (j : Int)) := by
      intro j hj
      rcases (show j = 0 ∨ j = 1 ∨ j = 2 ∨ j = 3 ∨ j = 4 ∨ j = 5 ∨ j = 6 ∨ j = 7 by omega) with rfl | rfl | rfl | rfl | rfl | rfl | rfl | rfl
      · exact hc5
      · exact hc6
      · exact hc7
      · exact hc8
      · exact hc9
      · exact hc10
      · exact hc11
      · exact hc12
    refine G_tswOut (tgt := 116) C 8 ht13 (by decide) (by decide) rfl dX12_count_31 ?_
    refine G_aload_n C 0 rfl rfl dX12_count_116 ?_
    refine G_getI C fl_X12_276_11 (Or.inl rfl) ko_81 dX12_count_117 ?_
    obtain ⟨rfl, rfl⟩ := some2 h
    exact G_iret C hr (Nat.le_of_ble_eq_true rfl) (Nat.le_of_ble_eq_true rfl) dX12_count_120
  · replace h := (if_pos hc4).symm.trans h
    refine G_iconst C (v := 0) rfl dX12_count_28 ?_
    obtain ⟨rfl, rfl⟩ := some2 h
    exact G_iret C hr (Nat.le_of_ble_eq_true rfl) (Nat.le_of_ble_eq_true rfl) dX12_count_29
set_option maxRecDepth 100000 in
set_option maxHeartbeats 4000000 in
theorem eX12_count_20 (C : Cx E p s m args meth c cX12_count 2 RX12) (hr : meth.sig.returnType = (some .int)) {σ0 : Sto} {r1 : Int32} {r2 : Sto} {σ : Sto} {x1 : Int32} (h : mX12_count_20 x1 σ = some (r1, r2)) : G p l e (rmd 2 0 0) s m args below meth c E true (sZ σ0) ad0 (MQ below (QI E true σ0 r1 r2 ad0) args s 0 0 (AE E)) 2 0 0 σ 20 [(0, .ref 81), (1, .int x1)] [.ref 81] := by
  unfold mX12_count_20 at h
  refine G_iconst C (v := 0) rfl dX12_count_20 ?_
  exact eX12_count_21 C hr h
set_option maxRecDepth 100000 in
set_option maxHeartbeats 4000000 in
theorem dX12_count {σ : Sto} {p0 : Int32} {r1 : Int32} {r2 : Sto} (h : mX12_count p0 σ = some (r1, r2)) : MM l yX12_count cX12_count 2 (some .int) 2 0 0 E true σ [.ref 81, .int p0] (QI E true σ r1 r2) := by
  unfold mX12_count at h
  refine MM_of (by decide) (Nat.le_of_ble_eq_true rfl) rfl (fun p e s m args below meth c ad0 C hr hn => ?_)
  refine G_aload_n C 0 rfl rfl dX12_count_0 ?_
  refine G_iconst C (v := 0) rfl dX12_count_1 ?_
  obtain ⟨σ1, hs1, h⟩ := stp_elim h
  refine G_putI C fl_X12_208_11 fp_X12_11_0 (Or.inl rfl) (Or.inl rfl) ko_81 dX12_count_2 ?_
  rw [← hs1]
  refine G_aload_n C 0 rfl rfl dX12_count_5 ?_
  refine G_iload_n C 1 rfl rfl dX12_count_6 ?_
  refine G_if_lt (tgt := 20) C rfl dX12_count_7 (fun hc2 => ?_) (fun hc2 => ?_)
  · replace h := (if_pos hc2).symm.trans h
    exact eX12_count_20 C hr h
  · replace h := (if_neg hc2).symm.trans h
    refine G_iload_n C 1 rfl rfl dX12_count_10 ?_
    refine G_bipush C (v := 8) rfl dX12_count_11 ?_
    refine G_icmp_gt (tgt := 20) C rfl dX12_count_13 (fun hc14 => ?_) (fun hc14 => ?_)
    · replace h := (if_pos hc14).symm.trans h
      exact eX12_count_20 C hr h
    · replace h := (if_neg hc14).symm.trans h
      refine G_iconst C (v := 1) rfl dX12_count_16 ?_
      refine G_goto (tgt := 21) C rfl dX12_count_17 ?_
      exact eX12_count_21 C hr h
end
