def fLaw_1640 (N : Nat) (xL : Nat) (xS : Nat → Int32) (K18 : xW → Int32 → Option Int32) (w : xW) (x3 : Int32) : Option Int32 :=
  K18 w (x3 + 6)
def fLaw_18b (N : Nat) (xL : Nat) (xS : Nat → Int32) (K18 : xW → Int32 → Option Int32) (w : xW) (x3 : Int32) : Option Int32 :=
  if ((nI xL) - 6) < x3 then
    some 1
  else
  if ibd x3 xL = true then
  if ((xS x3.toNatClampNeg) &&& 63) = 0 then
    if ibd (x3 + 1) xL = true then
    if ibd (x3 + 2) xL = true then
    (fX7_tides w (xS (x3 + 1).toNatClampNeg) (xS (x3 + 2).toNatClampNeg)).bind fun z4 =>
    (fX8_tides z4.1 (xS (x3 + 1).toNatClampNeg) (xS (x3 + 2).toNatClampNeg)).bind fun z6 =>
    if z4.2 = z6.2 then
      fLaw_1640 N xL xS K18 z6.1 x3
    else
    some 0
    else none
    else none
  else
  if ((xS x3.toNatClampNeg) &&& 63) = 1 then
    if ibd (x3 + 1) xL = true then
    if ibd (x3 + 2) xL = true then
    (fX7_sets w (xS (x3 + 1).toNatClampNeg) (xS (x3 + 2).toNatClampNeg)).bind fun z11 =>
    (fX8_sets z11.1 (xS (x3 + 1).toNatClampNeg) (xS (x3 + 2).toNatClampNeg)).bind fun z13 =>
    if z11.2 = z13.2 then
      fLaw_1640 N xL xS K18 z13.1 x3
    else
    some 0
    else none
    else none
  else
  if ((xS x3.toNatClampNeg) &&& 63) = 2 then
    if ibd (x3 + 1) xL = true then
    if ibd (x3 + 2) xL = true then
    (fX7_wind w (xS (x3 + 1).toNatClampNeg) (xS (x3 + 2).toNatClampNeg)).bind fun z18 =>
    (fX8_wind z18.1 (xS (x3 + 1).toNatClampNeg) (xS (x3 + 2).toNatClampNeg)).bind fun z20 =>
    if z18.2 = z20.2 then
      fLaw_1640 N xL xS K18 z20.1 x3
    else
    some 0
    else none
    else none
  else
  if ((xS x3.toNatClampNeg) &&& 63) = 3 then
    if ibd (x3 + 1) xL = true then
    if ibd (x3 + 2) xL = true then
    (fX7_tide w (xS (x3 + 1).toNatClampNeg) (xS (x3 + 2).toNatClampNeg)).bind fun z25 =>
    (fX8_tide z25.1 (xS (x3 + 1).toNatClampNeg) (xS (x3 + 2).toNatClampNeg)).bind fun z27 =>
    if z25.2 = z27.2 then
      fLaw_1640 N xL xS K18 z27.1 x3
    else
    some 0
    else none
    else none
  else
  if ((xS x3.toNatClampNeg) &&& 63) = 4 then
    if ibd (x3 + 1) xL = true then
    (fX7_turned N w (xS (x3 + 1).toNatClampNeg)).bind fun z31 =>
    (fX8_turned N z31.1 (xS (x3 + 1).toNatClampNeg)).bind fun z33 =>
    if z31.2 = z33.2 then
      fLaw_1640 N xL xS K18 z33.1 x3
    else
    some 0
    else none
  else
  if ((xS x3.toNatClampNeg) &&& 63) = 5 then
    if ibd (x3 + 1) xL = true then
    (fX7_between N w (xS (x3 + 1).toNatClampNeg)).bind fun z37 =>
    (fX8_between N z37.1 (xS (x3 + 1).toNatClampNeg)).bind fun z39 =>
    if z37.2 = z39.2 then
      fLaw_1640 N xL xS K18 z39.1 x3
    else
    some 0
    else none
  else
  if ((xS x3.toNatClampNeg) &&& 63) = 6 then
    if ibd (x3 + 1) xL = true then
    if ibd (x3 + 2) xL = true then
    (fX7_looks N w (xS (x3 + 1).toNatClampNeg) (xS (x3 + 2).toNatClampNeg)).bind fun z44 =>
    (fX8_looks N z44.1 (xS (x3 + 1).toNatClampNeg) (xS (x3 + 2).toNatClampNeg)).bind fun z46 =>
    if z44.2 = z46.2 then
      fLaw_1640 N xL xS K18 z46.1 x3
    else
    some 0
    else none
    else none
  else
  if ((xS x3.toNatClampNeg) &&& 63) = 7 then
    if ibd (x3 + 1) xL = true then
    if ibd (x3 + 2) xL = true then
    (fX7_front N w (xS (x3 + 1).toNatClampNeg) (xS (x3 + 2).toNatClampNeg)).bind fun z51 =>
    (fX8_front N z51.1 (xS (x3 + 1).toNatClampNeg) (xS (x3 + 2).toNatClampNeg)).bind fun z53 =>
    if z51.2 = z53.2 then
      fLaw_1640 N xL xS K18 z53.1 x3
    else
    some 0
    else none
    else none
  else
  if ((xS x3.toNatClampNeg) &&& 63) = 8 then
    if ibd (x3 + 1) xL = true then
    if ibd (x3 + 2) xL = true then
    if ibd (x3 + 3) xL = true then
    (fX7_when N w (xS (x3 + 1).toNatClampNeg) (xS (x3 + 2).toNatClampNeg) (xS (x3 + 3).toNatClampNeg)).bind fun z59 =>
    (fX8_when N z59.1 (xS (x3 + 1).toNatClampNeg) (xS (x3 + 2).toNatClampNeg) (xS (x3 + 3).toNatClampNeg)).bind fun z61 =>
    if z59.2 = z61.2 then
      fLaw_1640 N xL xS K18 z61.1 x3
    else
    some 0
    else none
    else none
    else none
  else
  if ((xS x3.toNatClampNeg) &&& 63) = 9 then
    if ibd (x3 + 1) xL = true then
    if ibd (x3 + 2) xL = true then
    (fX7_house w (xS (x3 + 1).toNatClampNeg) (xS (x3 + 2).toNatClampNeg)).bind fun z66 =>
    (fX8_house z66.1 (xS (x3 + 1).toNatClampNeg) (xS (x3 + 2).toNatClampNeg)).bind fun z68 =>
    if z66.2 = z68.2 then
      fLaw_1640 N xL xS K18 z68.1 x3
    else
    some 0
    else none
    else none
  else
  if ((xS x3.toNatClampNeg) &&& 63) = 10 then
    if ibd (x3 + 1) xL = true then
    if ibd (x3 + 2) xL = true then
    (fX7_houseOf w (xS (x3 + 1).toNatClampNeg) (xS (x3 + 2).toNatClampNeg)).bind fun z73 =>
    (fX8_houseOf z73.1 (xS (x3 + 1).toNatClampNeg) (xS (x3 + 2).toNatClampNeg)).bind fun z75 =>
    if z73.2 = z75.2 then
      fLaw_1640 N xL xS K18 z75.1 x3
    else
    some 0
    else none
    else none
  else
  if ((xS x3.toNatClampNeg) &&& 63) = 11 then
    if ibd (x3 + 1) xL = true then
    if ibd (x3 + 2) xL = true then
    (fX7_turn w (xS (x3 + 1).toNatClampNeg) (xS (x3 + 2).toNatClampNeg)).bind fun z80 =>
    (fX8_turn z80.1 (xS (x3 + 1).toNatClampNeg) (xS (x3 + 2).toNatClampNeg)).bind fun z82 =>
    if z80.2 = z82.2 then
      fLaw_1640 N xL xS K18 z82.1 x3
    else
    some 0
    else none
    else none
  else
  if ((xS x3.toNatClampNeg) &&& 63) = 12 then
    if ibd (x3 + 1) xL = true then
    if ibd (x3 + 2) xL = true then
    (fX7_as N w (xS (x3 + 1).toNatClampNeg) (xS (x3 + 2).toNatClampNeg)).bind fun z87 =>
    (fX8_as N z87.1 (xS (x3 + 1).toNatClampNeg) (xS (x3 + 2).toNatClampNeg)).bind fun z89 =>
    if z87.2 = z89.2 then
      fLaw_1640 N xL xS K18 z89.1 x3
    else
    some 0
    else none
    else none
  else
  if ((xS x3.toNatClampNeg) &&& 63) = 13 then
    if ibd (x3 + 1) xL = true then
    if ibd (x3 + 2) xL = true then
    (fX7_gain N w (xS (x3 + 1).toNatClampNeg) (xS (x3 + 2).toNatClampNeg)).bind fun z94 =>
    (fX8_gain N z94.1 (xS (x3 + 1).toNatClampNeg) (xS (x3 + 2).toNatClampNeg)).bind fun z96 =>
    if z94.2 = z96.2 then
      fLaw_1640 N xL xS K18 z96.1 x3
    else
    some 0
    else none
    else none
  else
  if ((xS x3.toNatClampNeg) &&& 63) = 14 then
    if ibd (x3 + 1) xL = true then
    if ibd (x3 + 2) xL = true then
    if ibd (x3 + 3) xL = true then
    (fX7_sum N w (xS (x3 + 1).toNatClampNeg) (xS (x3 + 2).toNatClampNeg) (xS (x3 + 3).toNatClampNeg)).bind fun z102 =>
    (fX8_sum N z102.1 (xS (x3 + 1).toNatClampNeg) (xS (x3 + 2).toNatClampNeg) (xS (x3 + 3).toNatClampNeg)).bind fun z104 =>
    if z102.2 = z104.2 then
      fLaw_1640 N xL xS K18 z104.1 x3
    else
    some 0
    else none
    else none
    else none
  else
  if ((xS x3.toNatClampNeg) &&& 63) = 15 then
    if ibd (x3 + 1) xL = true then
    if ibd (x3 + 2) xL = true then
    if ibd (x3 + 3) xL = true then
    (fX7_best N w (xS (x3 + 1).toNatClampNeg) (xS (x3 + 2).toNatClampNeg) (xS (x3 + 3).toNatClampNeg)).bind fun z110 =>
    (fX8_best N z110.1 (xS (x3 + 1).toNatClampNeg) (xS (x3 + 2).toNatClampNeg) (xS (x3 + 3).toNatClampNeg)).bind fun z112 =>
    if z110.2 = z112.2 then
      fLaw_1640 N xL xS K18 z112.1 x3
    else
    some 0
    else none
    else none
    else none
  else
  if ((xS x3.toNatClampNeg) &&& 63) = 16 then
    if ibd (x3 + 1) xL = true then
    if ibd (x3 + 2) xL = true then
    (fX7_sunniest N w (xS (x3 + 1).toNatClampNeg) (xS (x3 + 2).toNatClampNeg)).bind fun z117 =>
    (fX8_sunniest N z117.1 (xS (x3 + 1).toNatClampNeg) (xS (x3 + 2).toNatClampNeg)).bind fun z119 =>
    if z117.2 = z119.2 then
      fLaw_1640 N xL xS K18 z119.1 x3
    else
    some 0
    else none
    else none
  else
  if ((xS x3.toNatClampNeg) &&& 63) = 17 then
    if ibd (x3 + 1) xL = true then
    if ibd (x3 + 2) xL = true then
    if ibd (x3 + 3) xL = true then
    if ibd (x3 + 4) xL = true then
    (fX7_days N w (xS (x3 + 1).toNatClampNeg) (xS (x3 + 2).toNatClampNeg) (xS (x3 + 3).toNatClampNeg) (xS (x3 + 4).toNatClampNeg)).bind fun z126 =>
    (fX8_days N z126.1 (xS (x3 + 1).toNatClampNeg) (xS (x3 + 2).toNatClampNeg) (xS (x3 + 3).toNatClampNeg) (xS (x3 + 4).toNatClampNeg)).bind fun z128 =>
    if z126.2 = z128.2 then
      fLaw_1640 N xL xS K18 z128.1 x3
    else
    some 0
    else none
    else none
    else none
    else none
  else
  if ((xS x3.toNatClampNeg) &&& 63) = 18 then
    if ibd (x3 + 1) xL = true then
    if ibd (x3 + 2) xL = true then
    (fX7_exchange N w (xS (x3 + 1).toNatClampNeg) (xS (x3 + 2).toNatClampNeg)).bind fun z133 =>
    (fX8_exchange N z133.1 (xS (x3 + 1).toNatClampNeg) (xS (x3 + 2).toNatClampNeg)).bind fun z135 =>
    if z133.2 = z135.2 then
      fLaw_1640 N xL xS K18 z135.1 x3
    else
    some 0
    else none
    else none
  else
  if ((xS x3.toNatClampNeg) &&& 63) = 19 then
    if ibd (x3 + 1) xL = true then
    if ibd (x3 + 2) xL = true then
    if ibd (x3 + 3) xL = true then
    (fX7_ship w (xS (x3 + 1).toNatClampNeg) (xS (x3 + 2).toNatClampNeg) (xS (x3 + 3).toNatClampNeg)).bind fun z141 =>
    (fX8_ship z141.1 (xS (x3 + 1).toNatClampNeg) (xS (x3 + 2).toNatClampNeg) (xS (x3 + 3).toNatClampNeg)).bind fun z143 =>
    if z141.2 = z143.2 then
      fLaw_1640 N xL xS K18 z143.1 x3
    else
    some 0
    else none
    else none
    else none
  else
  if ((xS x3.toNatClampNeg) &&& 63) = 20 then
    if ibd (x3 + 1) xL = true then
    if ibd (x3 + 2) xL = true then
    (fX7_shipOf w (xS (x3 + 1).toNatClampNeg) (xS (x3 + 2).toNatClampNeg)).bind fun z148 =>
    (fX8_shipOf z148.1 (xS (x3 + 1).toNatClampNeg) (xS (x3 + 2).toNatClampNeg)).bind fun z150 =>
    if z148.2 = z150.2 then
      fLaw_1640 N xL xS K18 z150.1 x3
    else
    some 0
    else none
    else none
  else
  if ((xS x3.toNatClampNeg) &&& 63) = 21 then
    if ibd (x3 + 1) xL = true then
    if ibd (x3 + 2) xL = true then
    (fX7_quay w (xS (x3 + 1).toNatClampNeg) (xS (x3 + 2).toNatClampNeg)).bind fun z155 =>
    (fX8_quay z155.1 (xS (x3 + 1).toNatClampNeg) (xS (x3 + 2).toNatClampNeg)).bind fun z157 =>
    if z155.2 = z157.2 then
      fLaw_1640 N xL xS K18 z157.1 x3
    else
    some 0
    else none
    else none
  else
  if ((xS x3.toNatClampNeg) &&& 63) = 22 then
    (fX8_clear ((fX7_clear w).1)).bind fun z160 =>
    if ((fX7_clear w).2) = z160.2 then
      fLaw_1640 N xL xS K18 z160.1 x3
    else
    some 0
  else
  if ((xS x3.toNatClampNeg) &&& 63) = 23 then
    if ibd (x3 + 1) xL = true then
    if ibd (x3 + 2) xL = true then
    if ibd (x3 + 3) xL = true then
    (fX7_lies N w (xS (x3 + 1).toNatClampNeg) (xS (x3 + 2).toNatClampNeg) (xS (x3 + 3).toNatClampNeg)).bind fun z166 =>
    (fX8_lies N z166.1 (xS (x3 + 1).toNatClampNeg) (xS (x3 + 2).toNatClampNeg) (xS (x3 + 3).toNatClampNeg)).bind fun z168 =>
    if z166.2 = z168.2 then
      fLaw_1640 N xL xS K18 z168.1 x3
    else
    some 0
    else none
    else none
    else none
  else
  if ((xS x3.toNatClampNeg) &&& 63) = 24 then
    if ibd (x3 + 1) xL = true then
    if ibd (x3 + 2) xL = true then
    (fX7_entry N w (xS (x3 + 1).toNatClampNeg) (xS (x3 + 2).toNatClampNeg)).bind fun z173 =>
    (fX8_entry N z173.1 (xS (x3 + 1).toNatClampNeg) (xS (x3 + 2).toNatClampNeg)).bind fun z175 =>
    if z173.2 = z175.2 then
      fLaw_1640 N xL xS K18 z175.1 x3
    else
    some 0
    else none
    else none
  else
  if ((xS x3.toNatClampNeg) &&& 63) = 25 then
    if ibd (x3 + 1) xL = true then
    (fX7_order N w (xS (x3 + 1).toNatClampNeg)).bind fun z179 =>
    (fX8_order N z179.1 (xS (x3 + 1).toNatClampNeg)).bind fun z181 =>
    if z179.2 = z181.2 then
      fLaw_1640 N xL xS K18 z181.1 x3
    else
    some 0
    else none
  else
  if ((xS x3.toNatClampNeg) &&& 63) = 26 then
    if ibd (x3 + 1) xL = true then
    if ibd (x3 + 2) xL = true then
    (fX7_waits N w (xS (x3 + 1).toNatClampNeg) (xS (x3 + 2).toNatClampNeg)).bind fun z186 =>
    (fX8_waits N z186.1 (xS (x3 + 1).toNatClampNeg) (xS (x3 + 2).toNatClampNeg)).bind fun z188 =>
    if z186.2 = z188.2 then
      fLaw_1640 N xL xS K18 z188.1 x3
    else
    some 0
    else none
    else none
  else
  if ((xS x3.toNatClampNeg) &&& 63) = 27 then
    if ibd (x3 + 1) xL = true then
    (fX7_fast N w (xS (x3 + 1).toNatClampNeg)).bind fun z192 =>
    (fX8_fast N z192.1 (xS (x3 + 1).toNatClampNeg)).bind fun z194 =>
    if z192.2 = z194.2 then
      fLaw_1640 N xL xS K18 z194.1 x3
    else
    some 0
    else none
  else
  if ((xS x3.toNatClampNeg) &&& 63) = 28 then
    if ibd (x3 + 1) xL = true then
    if ibd (x3 + 2) xL = true then
    (fX7_off N w (xS (x3 + 1).toNatClampNeg) (xS (x3 + 2).toNatClampNeg)).bind fun z199 =>
    (fX8_off N z199.1 (xS (x3 + 1).toNatClampNeg) (xS (x3 + 2).toNatClampNeg)).bind fun z201 =>
    if z199.2 = z201.2 then
      fLaw_1640 N xL xS K18 z201.1 x3
    else
    some 0
    else none
    else none
  else
  if ((xS x3.toNatClampNeg) &&& 63) = 29 then
    if ibd (x3 + 1) xL = true then
    if ibd (x3 + 2) xL = true then
    (fX7_feed N w (xS (x3 + 1).toNatClampNeg) (xS (x3 + 2).toNatClampNeg)).bind fun z206 =>
    (fX8_feed N z206.1 (xS (x3 + 1).toNatClampNeg) (xS (x3 + 2).toNatClampNeg)).bind fun z208 =>
    if z206.2 = z208.2 then
      fLaw_1640 N xL xS K18 z208.1 x3
    else
    some 0
    else none
    else none
  else
  if ((xS x3.toNatClampNeg) &&& 63) = 30 then
    if ((fX7_wipe w).2) = ((fX8_wipe ((fX7_wipe w).1)).2) then
      fLaw_1640 N xL xS K18 ((fX8_wipe ((fX7_wipe w).1)).1) x3
    else
    some 0
  else
  if ((xS x3.toNatClampNeg) &&& 63) = 31 then
    (fX7_island N w).bind fun z212 =>
    (fX8_island N z212.1).bind fun z214 =>
    if z212.2 = z214.2 then
      fLaw_1640 N xL xS K18 z214.1 x3
    else
    some 0
  else
  if ((xS x3.toNatClampNeg) &&& 63) = 32 then
    if ibd (x3 + 1) xL = true then
    if ibd (x3 + 2) xL = true then
    if ibd (x3 + 3) xL = true then
    (fX7_sheet N w (xS (x3 + 1).toNatClampNeg) (xS (x3 + 2).toNatClampNeg) (xS (x3 + 3).toNatClampNeg)).bind fun z220 =>
    (fX8_sheet N z220.1 (xS (x3 + 1).toNatClampNeg) (xS (x3 + 2).toNatClampNeg) (xS (x3 + 3).toNatClampNeg)).bind fun z222 =>
    if z220.2 = z222.2 then
      fLaw_1640 N xL xS K18 z222.1 x3
    else
    some 0
    else none
    else none
    else none
  else
  if ((xS x3.toNatClampNeg) &&& 63) = 33 then
    if ibd (x3 + 1) xL = true then
    if ibd (x3 + 2) xL = true then
    if ibd (x3 + 3) xL = true then
    if ibd (x3 + 4) xL = true then
    (fX7_write w (xS (x3 + 1).toNatClampNeg) (xS (x3 + 2).toNatClampNeg) ((((xS (x3 + 3).toNatClampNeg : Int32).toInt64) <<< ((32 : Int32).toInt64 &&& 63)) ||| (((xS (x3 + 4).toNatClampNeg : Int32).toInt64) &&& 4294967295))).bind fun z229 =>
    (fX8_write z229.1 (xS (x3 + 1).toNatClampNeg) (xS (x3 + 2).toNatClampNeg) ((((xS (x3 + 3).toNatClampNeg : Int32).toInt64) <<< ((32 : Int32).toInt64 &&& 63)) ||| (((xS (x3 + 4).toNatClampNeg : Int32).toInt64) &&& 4294967295))).bind fun z231 =>
    if (lg_cmp z229.2 z231.2) = 0 then
      fLaw_1640 N xL xS K18 z231.1 x3
    else
    some 0
    else none
    else none
    else none
    else none
  else
  if ((xS x3.toNatClampNeg) &&& 63) = 34 then
    if ibd (x3 + 1) xL = true then
    if ibd (x3 + 2) xL = true then
    if ibd (x3 + 3) xL = true then
    if ibd (x3 + 4) xL = true then
    if ibd (x3 + 5) xL = true then
    (fX7_copy w (xS (x3 + 1).toNatClampNeg) (xS (x3 + 2).toNatClampNeg) (xS (x3 + 3).toNatClampNeg) (xS (x3 + 4).toNatClampNeg) (xS (x3 + 5).toNatClampNeg)).bind fun z239 =>
    (fX8_copy N z239.1 (xS (x3 + 1).toNatClampNeg) (xS (x3 + 2).toNatClampNeg) (xS (x3 + 3).toNatClampNeg) (xS (x3 + 4).toNatClampNeg) (xS (x3 + 5).toNatClampNeg)).bind fun z241 =>
    if z239.2 = z241.2 then
      fLaw_1640 N xL xS K18 z241.1 x3
    else
    some 0
    else none
    else none
    else none
    else none
    else none
  else
  if ((xS x3.toNatClampNeg) &&& 63) = 35 then
    if ibd (x3 + 1) xL = true then
    (fX7_lays N w (xS (x3 + 1).toNatClampNeg)).bind fun z245 =>
    (fX8_lays N z245.1 (xS (x3 + 1).toNatClampNeg)).bind fun z247 =>
    if z245.2 = z247.2 then
      fLaw_1640 N xL xS K18 z247.1 x3
    else
    some 0
    else none
  else
  if ((xS x3.toNatClampNeg) &&& 63) = 36 then
    if ibd (x3 + 1) xL = true then
    if ibd (x3 + 2) xL = true then
    if ibd (x3 + 3) xL = true then
    if ibd (x3 + 4) xL = true then
    (fX7_calendar N w (xS (x3 + 1).toNatClampNeg) (xS (x3 + 2).toNatClampNeg) (xS (x3 + 3).toNatClampNeg) (xS (x3 + 4).toNatClampNeg)).bind fun z254 =>
    (fX8_calendar N z254.1 (xS (x3 + 1).toNatClampNeg) (xS (x3 + 2).toNatClampNeg) (xS (x3 + 3).toNatClampNeg) (xS (x3 + 4).toNatClampNeg)).bind fun z256 =>
    if z254.2 = z256.2 then
      fLaw_1640 N xL xS K18 z256.1 x3
    else
    some 0
    else none
    else none
    else none
    else none
  else
  if ((xS x3.toNatClampNeg) &&& 63) = 37 then
    if ibd (x3 + 1) xL = true then
    if ibd (x3 + 2) xL = true then
    if ibd (x3 + 3) xL = true then
    if ibd (x3 + 4) xL = true then
    (fX7_read N w (xS (x3 + 1).toNatClampNeg) (xS (x3 + 2).toNatClampNeg) (xS (x3 + 3).toNatClampNeg) (xS (x3 + 4).toNatClampNeg)).bind fun z263 =>
    (fX8_read N z263.1 (xS (x3 + 1).toNatClampNeg) (xS (x3 + 2).toNatClampNeg) (xS (x3 + 3).toNatClampNeg) (xS (x3 + 4).toNatClampNeg)).bind fun z265 =>
    if z263.2 = z265.2 then
      fLaw_1640 N xL xS K18 z265.1 x3
    else
    some 0
    else none
    else none
    else none
    else none
  else
  if ((xS x3.toNatClampNeg) &&& 63) = 38 then
    (fX8_image N ((fX7_image w).1)).bind fun z268 =>
    if ((fX7_image w).2) = z268.2 then
      fLaw_1640 N xL xS K18 z268.1 x3
    else
    some 0
  else
  if ((xS x3.toNatClampNeg) &&& 63) = 39 then
    (fX7_undo w).bind fun z271 =>
    (fX8_undo N z271.1).bind fun z273 =>
    if z271.2 = z273.2 then
      fLaw_1640 N xL xS K18 z273.1 x3
    else
    some 0
  else
  if ((xS x3.toNatClampNeg) &&& 63) = 40 then
    if ((fX7_tear w).2) = ((fX8_tear ((fX7_tear w).1)).2) then
      fLaw_1640 N xL xS K18 ((fX8_tear ((fX7_tear w).1)).1) x3
    else
    some 0
  else
  if ((xS x3.toNatClampNeg) &&& 63) = 41 then
    if ibd (x3 + 1) xL = true then
    (fX7_count w (xS (x3 + 1).toNatClampNeg)).bind fun z278 =>
    (fX8_count z278.1 (xS (x3 + 1).toNatClampNeg)).bind fun z280 =>
    if z278.2 = z280.2 then
      fLaw_1640 N xL xS K18 z280.1 x3
    else
    some 0
    else none
  else
  if ((xS x3.toNatClampNeg) &&& 63) = 42 then
    if ibd (x3 + 1) xL = true then
    (fX7_status N w (xS (x3 + 1).toNatClampNeg)).bind fun z284 =>
    (fX8_status z284.1 (xS (x3 + 1).toNatClampNeg)).bind fun z286 =>
    if z284.2 = z286.2 then
      fLaw_1640 N xL xS K18 z286.1 x3
    else
    some 0
    else none
  else
  fLaw_1640 N xL xS K18 w x3
  else none
def fLaw_18 (N : Nat) (xL : Nat) (xS : Nat → Int32) : Nat → xW → Int32 → Option Int32
  | 0, _, _ => none
  | n + 1, w, x3 => fLaw_18b N xL xS (fLaw_18 N xL xS n) w x3
set_option maxRecDepth 100000 in
set_option maxHeartbeats 4000000 in
theorem bLaw_1640 {Γ : xΓ} (C : xOK Γ cL_law RL 20) (hL : xn Γ = 4) {N : Nat} {bS xL : Nat} {xS : Nat → Int32} {K18 : xW → Int32 → Option Int32} {w : xW} {x3 : Int32}  (E : xLaw Γ bS xL xS) (hK18 : ∀ (w : xW) (x3 : Int32), K18 w x3 = some 1 → xG Γ w 18 [(0, .ref bS), (1, .ref (xad Γ 0)), (2, .ref (xad Γ 55)), (3, .int x3)] []) (h : fLaw_1640 N xL xS K18 w x3 = some 1) : xG Γ w 1640 [(0, .ref bS), (1, .ref (xad Γ 0)), (2, .ref (xad Γ 55)), (3, .int x3)] [] := by
  unfold fLaw_1640 at h
  refine xr_iinc C 1640 6 (by decide +kernel) rfl dL_law_1640 (xnb hL rfl) ?_
  refine xr_goto C 1643 18 dL_law_1643 rfl ?_
  exact xG.sub (hK18 _ _ h) ⟨rfl, rfl, rfl, rfl, trivial⟩
set_option maxRecDepth 100000 in
set_option maxHeartbeats 4000000 in
theorem bLaw_18b {Γ : xΓ} (C : xOK Γ cL_law RL 20) (hL : xn Γ = 4) {N : Nat} {bS xL : Nat} {xS : Nat → Int32} {K18 : xW → Int32 → Option Int32} {w : xW} {x3 : Int32}  (E : xLaw Γ bS xL xS) (hK18 : ∀ (w : xW) (x3 : Int32), K18 w x3 = some 1 → xG Γ w 18 [(0, .ref bS), (1, .ref (xad Γ 0)), (2, .ref (xad Γ 55)), (3, .int x3)] []) (h : fLaw_18b N xL xS K18 w x3 = some 1) : xG Γ w 18 [(0, .ref bS), (1, .ref (xad Γ 0)), (2, .ref (xad Γ 55)), (3, .int x3)] [] := by
  unfold fLaw_18b at h
  refine xr_iload_n C 18 rfl dL_law_18 ?_
  refine xr_aload_n C 19 rfl dL_law_19 ?_
  refine xr_slen C E 20 dL_law_20 ?_
  refine xr_bipush C 21 6 (by decide +kernel) dL_law_21 ?_
  refine xr_isub C 23 dL_law_23 ?_
  refine xr_icmp_gt C 24 1646 dL_law_24 rfl (fun q => ?_) (fun q => ?_)
  · have h := g_it h q
    refine xr_iconst C 1646 1 (by decide +kernel) dL_law_1646 ?_
    exact xr_law1 C 1647 E dL_law_1647
  · have h := g_if h q
    refine xr_aload_n C 27 rfl dL_law_27 ?_
    refine xr_iload_n C 28 rfl dL_law_28 ?_
    obtain ⟨q1, h⟩ := g_ib h
    refine xr_sld C E 29 x3.toNatClampNeg rfl dL_law_29 (ibd_in q1) ?_
    refine xr_bipush C 30 63 (by decide +kernel) dL_law_30 ?_
    refine xr_iand C 32 dL_law_32 ?_
    by_cases q8 : ((xS x3.toNatClampNeg) &&& 63) = 0
    · have h := g_it h q8
      refine xr_tabIn (off := 187) C 33 220 0 q8 dL_law_33 (by decide +kernel) (by decide +kernel) (by decide +kernel) rfl ?_
      refine xr_aload_n C 220 rfl dL_law_220 ?_
      refine xr_aload_n C 221 rfl dL_law_221 ?_
      refine xr_iload_n C 222 rfl dL_law_222 ?_
      refine xr_iconst C 223 1 (by decide +kernel) dL_law_223 ?_
      refine xr_iadd C 224 dL_law_224 ?_
      obtain ⟨q2, h⟩ := g_ib h
      refine xr_sld C E 225 (x3 + 1).toNatClampNeg rfl dL_law_225 (ibd_in q2) ?_
      refine xr_aload_n C 226 rfl dL_law_226 ?_
      refine xr_iload_n C 227 rfl dL_law_227 ?_
      refine xr_iconst C 228 2 (by decide +kernel) dL_law_228 ?_
      refine xr_iadd C 229 dL_law_229 ?_
      obtain ⟨q3, h⟩ := g_ib h
      refine xr_sld C E 230 (x3 + 2).toNatClampNeg rfl dL_law_230 (ibd_in q3) ?_
      obtain ⟨z4, q5, h⟩ := g_bind h
      refine xr_callV C 231 (mX7_tides q5) v_X7_tides ml_L_13 (Nat.le_of_ble_eq_true rfl) (Nat.le_of_ble_eq_true rfl) (xrecv C rfl rfl) rfl rfl (Nat.le_of_ble_eq_true rfl) rfl dL_law_231 ?_
      refine xr_aload_n C 234 rfl dL_law_234 ?_
      refine xr_aload_n C 235 rfl dL_law_235 ?_
      refine xr_iload_n C 236 rfl dL_law_236 ?_
      refine xr_iconst C 237 1 (by decide +kernel) dL_law_237 ?_
      refine xr_iadd C 238 dL_law_238 ?_
      refine xr_sld C E 239 (x3 + 1).toNatClampNeg rfl dL_law_239 (ibd_in q2) ?_
      refine xr_aload_n C 240 rfl dL_law_240 ?_
      refine xr_iload_n C 241 rfl dL_law_241 ?_
      refine xr_iconst C 242 2 (by decide +kernel) dL_law_242 ?_
      refine xr_iadd C 243 dL_law_243 ?_
      refine xr_sld C E 244 (x3 + 2).toNatClampNeg rfl dL_law_244 (ibd_in q3) ?_
      obtain ⟨z6, q7, h⟩ := g_bind h
      refine xr_callV C 245 (mX8_tides q7) v_X8_tides ml_L_17 (Nat.le_of_ble_eq_true rfl) (Nat.le_of_ble_eq_true rfl) (xrecv C rfl rfl) rfl rfl (Nat.le_of_ble_eq_true rfl) rfl dL_law_245 ?_
      refine xr_icmp_eq C 248 1640 dL_law_248 rfl (fun q => ?_) (fun q => ?_)
      · have h := g_it h q
        exact xG.sub (bLaw_1640 C hL E hK18 h) ⟨rfl, rfl, rfl, rfl, trivial⟩
      · have h := g_if h q
        refine xr_iconst C 251 0 (by decide +kernel) dL_law_251 ?_
        exact absurd (Option.some.inj h) (by decide +kernel)
    have h := g_if h q8
    by_cases q15 : ((xS x3.toNatClampNeg) &&& 63) = 1
    · have h := g_it h q15
      refine xr_tabIn (off := 220) C 33 253 1 q15 dL_law_33 (by decide +kernel) (by decide +kernel) (by decide +kernel) rfl ?_
      refine xr_aload_n C 253 rfl dL_law_253 ?_
      refine xr_aload_n C 254 rfl dL_law_254 ?_
      refine xr_iload_n C 255 rfl dL_law_255 ?_
      refine xr_iconst C 256 1 (by decide +kernel) dL_law_256 ?_
      refine xr_iadd C 257 dL_law_257 ?_
      obtain ⟨q9, h⟩ := g_ib h
      refine xr_sld C E 258 (x3 + 1).toNatClampNeg rfl dL_law_258 (ibd_in q9) ?_
      refine xr_aload_n C 259 rfl dL_law_259 ?_
      refine xr_iload_n C 260 rfl dL_law_260 ?_
      refine xr_iconst C 261 2 (by decide +kernel) dL_law_261 ?_
      refine xr_iadd C 262 dL_law_262 ?_
      obtain ⟨q10, h⟩ := g_ib h
      refine xr_sld C E 263 (x3 + 2).toNatClampNeg rfl dL_law_263 (ibd_in q10) ?_
      obtain ⟨z11, q12, h⟩ := g_bind h
      refine xr_callV C 264 (mX7_sets q12) v_X7_sets ml_L_18 (Nat.le_of_ble_eq_true rfl) (Nat.le_of_ble_eq_true rfl) (xrecv C rfl rfl) rfl rfl (Nat.le_of_ble_eq_true rfl) rfl dL_law_264 ?_
      refine xr_aload_n C 267 rfl dL_law_267 ?_
      refine xr_aload_n C 268 rfl dL_law_268 ?_
      refine xr_iload_n C 269 rfl dL_law_269 ?_
      refine xr_iconst C 270 1 (by decide +kernel) dL_law_270 ?_
      refine xr_iadd C 271 dL_law_271 ?_
      refine xr_sld C E 272 (x3 + 1).toNatClampNeg rfl dL_law_272 (ibd_in q9) ?_
      refine xr_aload_n C 273 rfl dL_law_273 ?_
      refine xr_iload_n C 274 rfl dL_law_274 ?_
      refine xr_iconst C 275 2 (by decide +kernel) dL_law_275 ?_
      refine xr_iadd C 276 dL_law_276 ?_
      refine xr_sld C E 277 (x3 + 2).toNatClampNeg rfl dL_law_277 (ibd_in q10) ?_
      obtain ⟨z13, q14, h⟩ := g_bind h
      refine xr_callV C 278 (mX8_sets q14) v_X8_sets ml_L_21 (Nat.le_of_ble_eq_true rfl) (Nat.le_of_ble_eq_true rfl) (xrecv C rfl rfl) rfl rfl (Nat.le_of_ble_eq_true rfl) rfl dL_law_278 ?_
      refine xr_icmp_eq C 281 1640 dL_law_281 rfl (fun q => ?_) (fun q => ?_)
      · have h := g_it h q
        exact xG.sub (bLaw_1640 C hL E hK18 h) ⟨rfl, rfl, rfl, rfl, trivial⟩
      · have h := g_if h q
        refine xr_iconst C 284 0 (by decide +kernel) dL_law_284 ?_
        exact absurd (Option.some.inj h) (by decide +kernel)
    have h := g_if h q15
    by_cases q22 : ((xS x3.toNatClampNeg) &&& 63) = 2
    · have h := g_it h q22
      refine xr_tabIn (off := 253) C 33 286 2 q22 dL_law_33 (by decide +kernel) (by decide +kernel) (by decide +kernel) rfl ?_
      refine xr_aload_n C 286 rfl dL_law_286 ?_
      refine xr_aload_n C 287 rfl dL_law_287 ?_
      refine xr_iload_n C 288 rfl dL_law_288 ?_
      refine xr_iconst C 289 1 (by decide +kernel) dL_law_289 ?_
      refine xr_iadd C 290 dL_law_290 ?_
      obtain ⟨q16, h⟩ := g_ib h
      refine xr_sld C E 291 (x3 + 1).toNatClampNeg rfl dL_law_291 (ibd_in q16) ?_
      refine xr_aload_n C 292 rfl dL_law_292 ?_
      refine xr_iload_n C 293 rfl dL_law_293 ?_
      refine xr_iconst C 294 2 (by decide +kernel) dL_law_294 ?_
      refine xr_iadd C 295 dL_law_295 ?_
      obtain ⟨q17, h⟩ := g_ib h
      refine xr_sld C E 296 (x3 + 2).toNatClampNeg rfl dL_law_296 (ibd_in q17) ?_
      obtain ⟨z18, q19, h⟩ := g_bind h
      refine xr_callV C 297 (mX7_wind q19) v_X7_wind ml_L_22 (Nat.le_of_ble_eq_true rfl) (Nat.le_of_ble_eq_true rfl) (xrecv C rfl rfl) rfl rfl (Nat.le_of_ble_eq_true rfl) rfl dL_law_297 ?_
      refine xr_aload_n C 300 rfl dL_law_300 ?_
      refine xr_aload_n C 301 rfl dL_law_301 ?_
      refine xr_iload_n C 302 rfl dL_law_302 ?_
      refine xr_iconst C 303 1 (by decide +kernel) dL_law_303 ?_
      refine xr_iadd C 304 dL_law_304 ?_
      refine xr_sld C E 305 (x3 + 1).toNatClampNeg rfl dL_law_305 (ibd_in q16) ?_
      refine xr_aload_n C 306 rfl dL_law_306 ?_
      refine xr_iload_n C 307 rfl dL_law_307 ?_
      refine xr_iconst C 308 2 (by decide +kernel) dL_law_308 ?_
      refine xr_iadd C 309 dL_law_309 ?_
      refine xr_sld C E 310 (x3 + 2).toNatClampNeg rfl dL_law_310 (ibd_in q17) ?_
      obtain ⟨z20, q21, h⟩ := g_bind h
      refine xr_callV C 311 (mX8_wind q21) v_X8_wind ml_L_25 (Nat.le_of_ble_eq_true rfl) (Nat.le_of_ble_eq_true rfl) (xrecv C rfl rfl) rfl rfl (Nat.le_of_ble_eq_true rfl) rfl dL_law_311 ?_
      refine xr_icmp_eq C 314 1640 dL_law_314 rfl (fun q => ?_) (fun q => ?_)
      · have h := g_it h q
        exact xG.sub (bLaw_1640 C hL E hK18 h) ⟨rfl, rfl, rfl, rfl, trivial⟩
      · have h := g_if h q
        refine xr_iconst C 317 0 (by decide +kernel) dL_law_317 ?_
        exact absurd (Option.some.inj h) (by decide +kernel)
    have h := g_if h q22
    by_cases q29 : ((xS x3.toNatClampNeg) &&& 63) = 3
    · have h := g_it h q29
      refine xr_tabIn (off := 286) C 33 319 3 q29 dL_law_33 (by decide +kernel) (by decide +kernel) (by decide +kernel) rfl ?_
      refine xr_aload_n C 319 rfl dL_law_319 ?_
      refine xr_aload_n C 320 rfl dL_law_320 ?_
      refine xr_iload_n C 321 rfl dL_law_321 ?_
      refine xr_iconst C 322 1 (by decide +kernel) dL_law_322 ?_
      refine xr_iadd C 323 dL_law_323 ?_
      obtain ⟨q23, h⟩ := g_ib h
      refine xr_sld C E 324 (x3 + 1).toNatClampNeg rfl dL_law_324 (ibd_in q23) ?_
      refine xr_aload_n C 325 rfl dL_law_325 ?_
      refine xr_iload_n C 326 rfl dL_law_326 ?_
      refine xr_iconst C 327 2 (by decide +kernel) dL_law_327 ?_
      refine xr_iadd C 328 dL_law_328 ?_
      obtain ⟨q24, h⟩ := g_ib h
      refine xr_sld C E 329 (x3 + 2).toNatClampNeg rfl dL_law_329 (ibd_in q24) ?_
      obtain ⟨z25, q26, h⟩ := g_bind h
      refine xr_callV C 330 (mX7_tide q26) v_X7_tide ml_L_26 (Nat.le_of_ble_eq_true rfl) (Nat.le_of_ble_eq_true rfl) (xrecv C rfl rfl) rfl rfl (Nat.le_of_ble_eq_true rfl) rfl dL_law_330 ?_
      refine xr_aload_n C 333 rfl dL_law_333 ?_
      refine xr_aload_n C 334 rfl dL_law_334 ?_
      refine xr_iload_n C 335 rfl dL_law_335 ?_
      refine xr_iconst C 336 1 (by decide +kernel) dL_law_336 ?_
      refine xr_iadd C 337 dL_law_337 ?_
      refine xr_sld C E 338 (x3 + 1).toNatClampNeg rfl dL_law_338 (ibd_in q23) ?_
      refine xr_aload_n C 339 rfl dL_law_339 ?_
      refine xr_iload_n C 340 rfl dL_law_340 ?_
      refine xr_iconst C 341 2 (by decide +kernel) dL_law_341 ?_
      refine xr_iadd C 342 dL_law_342 ?_
      refine xr_sld C E 343 (x3 + 2).toNatClampNeg rfl dL_law_343 (ibd_in q24) ?_
      obtain ⟨z27, q28, h⟩ := g_bind h
      refine xr_callV C 344 (mX8_tide q28) v_X8_tide ml_L_29 (Nat.le_of_ble_eq_true rfl) (Nat.le_of_ble_eq_true rfl) (xrecv C rfl rfl) rfl rfl (Nat.le_of_ble_eq_true rfl) rfl dL_law_344 ?_
      refine xr_icmp_eq C 347 1640 dL_law_347 rfl (fun q => ?_) (fun q => ?_)
      · have h := g_it h q
        exact xG.sub (bLaw_1640 C hL E hK18 h) ⟨rfl, rfl, rfl, rfl, trivial⟩
      · have h := g_if h q
        refine xr_iconst C 350 0 (by decide +kernel) dL_law_350 ?_
        exact absurd (Option.some.inj h) (by decide +kernel)
    have h := g_if h q29
    by_cases q35 : ((xS x3.toNatClampNeg) &&& 63) = 4
    · have h := g_it h q35
      refine xr_tabIn (off := 319) C 33 352 4 q35 dL_law_33 (by decide +kernel) (by decide +kernel) (by decide +kernel) rfl ?_
      refine xr_aload_n C 352 rfl dL_law_352 ?_
      refine xr_aload_n C 353 rfl dL_law_353 ?_
      refine xr_iload_n C 354 rfl dL_law_354 ?_
      refine xr_iconst C 355 1 (by decide +kernel) dL_law_355 ?_
      refine xr_iadd C 356 dL_law_356 ?_
      obtain ⟨q30, h⟩ := g_ib h
      refine xr_sld C E 357 (x3 + 1).toNatClampNeg rfl dL_law_357 (ibd_in q30) ?_
      obtain ⟨z31, q32, h⟩ := g_bind h
      refine xr_callV C 358 (mX7_turned q32) v_X7_turned ml_L_30 (Nat.le_of_ble_eq_true rfl) (Nat.le_of_ble_eq_true rfl) (xrecv C rfl rfl) rfl rfl (Nat.le_of_ble_eq_true rfl) rfl dL_law_358 ?_
      refine xr_aload_n C 361 rfl dL_law_361 ?_
      refine xr_aload_n C 362 rfl dL_law_362 ?_
      refine xr_iload_n C 363 rfl dL_law_363 ?_
      refine xr_iconst C 364 1 (by decide +kernel) dL_law_364 ?_
      refine xr_iadd C 365 dL_law_365 ?_
      refine xr_sld C E 366 (x3 + 1).toNatClampNeg rfl dL_law_366 (ibd_in q30) ?_
      obtain ⟨z33, q34, h⟩ := g_bind h
      refine xr_callV C 367 (mX8_turned q34) v_X8_turned ml_L_34 (Nat.le_of_ble_eq_true rfl) (Nat.le_of_ble_eq_true rfl) (xrecv C rfl rfl) rfl rfl (Nat.le_of_ble_eq_true rfl) rfl dL_law_367 ?_
      refine xr_icmp_eq C 370 1640 dL_law_370 rfl (fun q => ?_) (fun q => ?_)
      · have h := g_it h q
        exact xG.sub (bLaw_1640 C hL E hK18 h) ⟨rfl, rfl, rfl, rfl, trivial⟩
      · have h := g_if h q
        refine xr_iconst C 373 0 (by decide +kernel) dL_law_373 ?_
        exact absurd (Option.some.inj h) (by decide +kernel)
    have h := g_if h q35
    by_cases q41 : ((xS x3.toNatClampNeg) &&& 63) = 5
    · have h := g_it h q41
      refine xr_tabIn (off := 342) C 33 375 5 q41 dL_law_33 (by decide +kernel) (by decide +kernel) (by decide +kernel) rfl ?_
      refine xr_aload_n C 375 rfl dL_law_375 ?_
      refine xr_aload_n C 376 rfl dL_law_376 ?_
      refine xr_iload_n C 377 rfl dL_law_377 ?_
      refine xr_iconst C 378 1 (by decide +kernel) dL_law_378 ?_
      refine xr_iadd C 379 dL_law_379 ?_
      obtain ⟨q36, h⟩ := g_ib h
      refine xr_sld C E 380 (x3 + 1).toNatClampNeg rfl dL_law_380 (ibd_in q36) ?_
      obtain ⟨z37, q38, h⟩ := g_bind h
      refine xr_callV C 381 (mX7_between q38) v_X7_between ml_L_35 (Nat.le_of_ble_eq_true rfl) (Nat.le_of_ble_eq_true rfl) (xrecv C rfl rfl) rfl rfl (Nat.le_of_ble_eq_true rfl) rfl dL_law_381 ?_
      refine xr_aload_n C 384 rfl dL_law_384 ?_
      refine xr_aload_n C 385 rfl dL_law_385 ?_
      refine xr_iload_n C 386 rfl dL_law_386 ?_
      refine xr_iconst C 387 1 (by decide +kernel) dL_law_387 ?_
      refine xr_iadd C 388 dL_law_388 ?_
      refine xr_sld C E 389 (x3 + 1).toNatClampNeg rfl dL_law_389 (ibd_in q36) ?_
      obtain ⟨z39, q40, h⟩ := g_bind h
      refine xr_callV C 390 (mX8_between q40) v_X8_between ml_L_38 (Nat.le_of_ble_eq_true rfl) (Nat.le_of_ble_eq_true rfl) (xrecv C rfl rfl) rfl rfl (Nat.le_of_ble_eq_true rfl) rfl dL_law_390 ?_
      refine xr_icmp_eq C 393 1640 dL_law_393 rfl (fun q => ?_) (fun q => ?_)
      · have h := g_it h q
        exact xG.sub (bLaw_1640 C hL E hK18 h) ⟨rfl, rfl, rfl, rfl, trivial⟩
      · have h := g_if h q
        refine xr_iconst C 396 0 (by decide +kernel) dL_law_396 ?_
        exact absurd (Option.some.inj h) (by decide +kernel)
    have h := g_if h q41
    by_cases q48 : ((xS x3.toNatClampNeg) &&& 63) = 6
    · have h := g_it h q48
      refine xr_tabIn (off := 365) C 33 398 6 q48 dL_law_33 (by decide +kernel) (by decide +kernel) (by decide +kernel) rfl ?_
      refine xr_aload_n C 398 rfl dL_law_398 ?_
      refine xr_aload_n C 399 rfl dL_law_399 ?_
      refine xr_iload_n C 400 rfl dL_law_400 ?_
      refine xr_iconst C 401 1 (by decide +kernel) dL_law_401 ?_
      refine xr_iadd C 402 dL_law_402 ?_
      obtain ⟨q42, h⟩ := g_ib h
      refine xr_sld C E 403 (x3 + 1).toNatClampNeg rfl dL_law_403 (ibd_in q42) ?_
      refine xr_aload_n C 404 rfl dL_law_404 ?_
      refine xr_iload_n C 405 rfl dL_law_405 ?_
      refine xr_iconst C 406 2 (by decide +kernel) dL_law_406 ?_
      refine xr_iadd C 407 dL_law_407 ?_
      obtain ⟨q43, h⟩ := g_ib h
      refine xr_sld C E 408 (x3 + 2).toNatClampNeg rfl dL_law_408 (ibd_in q43) ?_
      obtain ⟨z44, q45, h⟩ := g_bind h
      refine xr_callV C 409 (mX7_looks q45) v_X7_looks ml_L_39 (Nat.le_of_ble_eq_true rfl) (Nat.le_of_ble_eq_true rfl) (xrecv C rfl rfl) rfl rfl (Nat.le_of_ble_eq_true rfl) rfl dL_law_409 ?_
      refine xr_aload_n C 412 rfl dL_law_412 ?_
      refine xr_aload_n C 413 rfl dL_law_413 ?_
      refine xr_iload_n C 414 rfl dL_law_414 ?_
      refine xr_iconst C 415 1 (by decide +kernel) dL_law_415 ?_
      refine xr_iadd C 416 dL_law_416 ?_
      refine xr_sld C E 417 (x3 + 1).toNatClampNeg rfl dL_law_417 (ibd_in q42) ?_
      refine xr_aload_n C 418 rfl dL_law_418 ?_
      refine xr_iload_n C 419 rfl dL_law_419 ?_
      refine xr_iconst C 420 2 (by decide +kernel) dL_law_420 ?_
      refine xr_iadd C 421 dL_law_421 ?_
      refine xr_sld C E 422 (x3 + 2).toNatClampNeg rfl dL_law_422 (ibd_in q43) ?_
      obtain ⟨z46, q47, h⟩ := g_bind h
      refine xr_callV C 423 (mX8_looks q47) v_X8_looks ml_L_42 (Nat.le_of_ble_eq_true rfl) (Nat.le_of_ble_eq_true rfl) (xrecv C rfl rfl) rfl rfl (Nat.le_of_ble_eq_true rfl) rfl dL_law_423 ?_
      refine xr_icmp_eq C 426 1640 dL_law_426 rfl (fun q => ?_) (fun q => ?_)
      · have h := g_it h q
        exact xG.sub (bLaw_1640 C hL E hK18 h) ⟨rfl, rfl, rfl, rfl, trivial⟩
      · have h := g_if h q
        refine xr_iconst C 429 0 (by decide +kernel) dL_law_429 ?_
        exact absurd (Option.some.inj h) (by decide +kernel)
    have h := g_if h q48
    by_cases q55 : ((xS x3.toNatClampNeg) &&& 63) = 7
    · have h := g_it h q55
      refine xr_tabIn (off := 398) C 33 431 7 q55 dL_law_33 (by decide +kernel) (by decide +kernel) (by decide +kernel) rfl ?_
      refine xr_aload_n C 431 rfl dL_law_431 ?_
      refine xr_aload_n C 432 rfl dL_law_432 ?_
      refine xr_iload_n C 433 rfl dL_law_433 ?_
      refine xr_iconst C 434 1 (by decide +kernel) dL_law_434 ?_
      refine xr_iadd C 435 dL_law_435 ?_
      obtain ⟨q49, h⟩ := g_ib h
      refine xr_sld C E 436 (x3 + 1).toNatClampNeg rfl dL_law_436 (ibd_in q49) ?_
      refine xr_aload_n C 437 rfl dL_law_437 ?_
      refine xr_iload_n C 438 rfl dL_law_438 ?_
      refine xr_iconst C 439 2 (by decide +kernel) dL_law_439 ?_
      refine xr_iadd C 440 dL_law_440 ?_
      obtain ⟨q50, h⟩ := g_ib h
      refine xr_sld C E 441 (x3 + 2).toNatClampNeg rfl dL_law_441 (ibd_in q50) ?_
      obtain ⟨z51, q52, h⟩ := g_bind h
      refine xr_callV C 442 (mX7_front q52) v_X7_front ml_L_43 (Nat.le_of_ble_eq_true rfl) (Nat.le_of_ble_eq_true rfl) (xrecv C rfl rfl) rfl rfl (Nat.le_of_ble_eq_true rfl) rfl dL_law_442 ?_
      refine xr_aload_n C 445 rfl dL_law_445 ?_
      refine xr_aload_n C 446 rfl dL_law_446 ?_
      refine xr_iload_n C 447 rfl dL_law_447 ?_
      refine xr_iconst C 448 1 (by decide +kernel) dL_law_448 ?_
      refine xr_iadd C 449 dL_law_449 ?_
      refine xr_sld C E 450 (x3 + 1).toNatClampNeg rfl dL_law_450 (ibd_in q49) ?_
      refine xr_aload_n C 451 rfl dL_law_451 ?_
      refine xr_iload_n C 452 rfl dL_law_452 ?_
      refine xr_iconst C 453 2 (by decide +kernel) dL_law_453 ?_
      refine xr_iadd C 454 dL_law_454 ?_
      refine xr_sld C E 455 (x3 + 2).toNatClampNeg rfl dL_law_455 (ibd_in q50) ?_
      obtain ⟨z53, q54, h⟩ := g_bind h
      refine xr_callV C 456 (mX8_front q54) v_X8_front ml_L_46 (Nat.le_of_ble_eq_true rfl) (Nat.le_of_ble_eq_true rfl) (xrecv C rfl rfl) rfl rfl (Nat.le_of_ble_eq_true rfl) rfl dL_law_456 ?_
      refine xr_icmp_eq C 459 1640 dL_law_459 rfl (fun q => ?_) (fun q => ?_)
      · have h := g_it h q
        exact xG.sub (bLaw_1640 C hL E hK18 h) ⟨rfl, rfl, rfl, rfl, trivial⟩
      · have h := g_if h q
        refine xr_iconst C 462 0 (by decide +kernel) dL_law_462 ?_
        exact absurd (Option.some.inj h) (by decide +kernel)
    have h := g_if h q55
    by_cases q63 : ((xS x3.toNatClampNeg) &&& 63) = 8
    · have h := g_it h q63
      refine xr_tabIn (off := 431) C 33 464 8 q63 dL_law_33 (by decide +kernel) (by decide +kernel) (by decide +kernel) rfl ?_
      refine xr_aload_n C 464 rfl dL_law_464 ?_
      refine xr_aload_n C 465 rfl dL_law_465 ?_
      refine xr_iload_n C 466 rfl dL_law_466 ?_
      refine xr_iconst C 467 1 (by decide +kernel) dL_law_467 ?_
      refine xr_iadd C 468 dL_law_468 ?_
      obtain ⟨q56, h⟩ := g_ib h
      refine xr_sld C E 469 (x3 + 1).toNatClampNeg rfl dL_law_469 (ibd_in q56) ?_
      refine xr_aload_n C 470 rfl dL_law_470 ?_
      refine xr_iload_n C 471 rfl dL_law_471 ?_
      refine xr_iconst C 472 2 (by decide +kernel) dL_law_472 ?_
      refine xr_iadd C 473 dL_law_473 ?_
      obtain ⟨q57, h⟩ := g_ib h
      refine xr_sld C E 474 (x3 + 2).toNatClampNeg rfl dL_law_474 (ibd_in q57) ?_
      refine xr_aload_n C 475 rfl dL_law_475 ?_
      refine xr_iload_n C 476 rfl dL_law_476 ?_
      refine xr_iconst C 477 3 (by decide +kernel) dL_law_477 ?_
      refine xr_iadd C 478 dL_law_478 ?_
      obtain ⟨q58, h⟩ := g_ib h
      refine xr_sld C E 479 (x3 + 3).toNatClampNeg rfl dL_law_479 (ibd_in q58) ?_
      obtain ⟨z59, q60, h⟩ := g_bind h
      refine xr_callV C 480 (mX7_when q60) v_X7_when ml_L_47 (Nat.le_of_ble_eq_true rfl) (Nat.le_of_ble_eq_true rfl) (xrecv C rfl rfl) rfl rfl (Nat.le_of_ble_eq_true rfl) rfl dL_law_480 ?_
      refine xr_aload_n C 483 rfl dL_law_483 ?_
      refine xr_aload_n C 484 rfl dL_law_484 ?_
      refine xr_iload_n C 485 rfl dL_law_485 ?_
      refine xr_iconst C 486 1 (by decide +kernel) dL_law_486 ?_
      refine xr_iadd C 487 dL_law_487 ?_
      refine xr_sld C E 488 (x3 + 1).toNatClampNeg rfl dL_law_488 (ibd_in q56) ?_
      refine xr_aload_n C 489 rfl dL_law_489 ?_
      refine xr_iload_n C 490 rfl dL_law_490 ?_
      refine xr_iconst C 491 2 (by decide +kernel) dL_law_491 ?_
      refine xr_iadd C 492 dL_law_492 ?_
      refine xr_sld C E 493 (x3 + 2).toNatClampNeg rfl dL_law_493 (ibd_in q57) ?_
      refine xr_aload_n C 494 rfl dL_law_494 ?_
      refine xr_iload_n C 495 rfl dL_law_495 ?_
      refine xr_iconst C 496 3 (by decide +kernel) dL_law_496 ?_
      refine xr_iadd C 497 dL_law_497 ?_
      refine xr_sld C E 498 (x3 + 3).toNatClampNeg rfl dL_law_498 (ibd_in q58) ?_
      obtain ⟨z61, q62, h⟩ := g_bind h
      refine xr_callV C 499 (mX8_when q62) v_X8_when ml_L_51 (Nat.le_of_ble_eq_true rfl) (Nat.le_of_ble_eq_true rfl) (xrecv C rfl rfl) rfl rfl (Nat.le_of_ble_eq_true rfl) rfl dL_law_499 ?_
      refine xr_icmp_eq C 502 1640 dL_law_502 rfl (fun q => ?_) (fun q => ?_)
      · have h := g_it h q
        exact xG.sub (bLaw_1640 C hL E hK18 h) ⟨rfl, rfl, rfl, rfl, trivial⟩
      · have h := g_if h q
        refine xr_iconst C 505 0 (by decide +kernel) dL_law_505 ?_
        exact absurd (Option.some.inj h) (by decide +kernel)
    have h := g_if h q63
    by_cases q70 : ((xS x3.toNatClampNeg) &&& 63) = 9
    · have h := g_it h q70
      refine xr_tabIn (off := 474) C 33 507 9 q70 dL_law_33 (by decide +kernel) (by decide +kernel) (by decide +kernel) rfl ?_
      refine xr_aload_n C 507 rfl dL_law_507 ?_
      refine xr_aload_n C 508 rfl dL_law_508 ?_
      refine xr_iload_n C 509 rfl dL_law_509 ?_
      refine xr_iconst C 510 1 (by decide +kernel) dL_law_510 ?_
      refine xr_iadd C 511 dL_law_511 ?_
      obtain ⟨q64, h⟩ := g_ib h
      refine xr_sld C E 512 (x3 + 1).toNatClampNeg rfl dL_law_512 (ibd_in q64) ?_
      refine xr_aload_n C 513 rfl dL_law_513 ?_
      refine xr_iload_n C 514 rfl dL_law_514 ?_
      refine xr_iconst C 515 2 (by decide +kernel) dL_law_515 ?_
      refine xr_iadd C 516 dL_law_516 ?_
      obtain ⟨q65, h⟩ := g_ib h
      refine xr_sld C E 517 (x3 + 2).toNatClampNeg rfl dL_law_517 (ibd_in q65) ?_
      obtain ⟨z66, q67, h⟩ := g_bind h
      refine xr_callV C 518 (mX7_house q67) v_X7_house ml_L_52 (Nat.le_of_ble_eq_true rfl) (Nat.le_of_ble_eq_true rfl) (xrecv C rfl rfl) rfl rfl (Nat.le_of_ble_eq_true rfl) rfl dL_law_518 ?_
      refine xr_aload_n C 521 rfl dL_law_521 ?_
      refine xr_aload_n C 522 rfl dL_law_522 ?_
      refine xr_iload_n C 523 rfl dL_law_523 ?_
      refine xr_iconst C 524 1 (by decide +kernel) dL_law_524 ?_
      refine xr_iadd C 525 dL_law_525 ?_
      refine xr_sld C E 526 (x3 + 1).toNatClampNeg rfl dL_law_526 (ibd_in q64) ?_
      refine xr_aload_n C 527 rfl dL_law_527 ?_
      refine xr_iload_n C 528 rfl dL_law_528 ?_
      refine xr_iconst C 529 2 (by decide +kernel) dL_law_529 ?_
      refine xr_iadd C 530 dL_law_530 ?_
      refine xr_sld C E 531 (x3 + 2).toNatClampNeg rfl dL_law_531 (ibd_in q65) ?_
      obtain ⟨z68, q69, h⟩ := g_bind h
      refine xr_callV C 532 (mX8_house q69) v_X8_house ml_L_55 (Nat.le_of_ble_eq_true rfl) (Nat.le_of_ble_eq_true rfl) (xrecv C rfl rfl) rfl rfl (Nat.le_of_ble_eq_true rfl) rfl dL_law_532 ?_
      refine xr_icmp_eq C 535 1640 dL_law_535 rfl (fun q => ?_) (fun q => ?_)
      · have h := g_it h q
        exact xG.sub (bLaw_1640 C hL E hK18 h) ⟨rfl, rfl, rfl, rfl, trivial⟩
      · have h := g_if h q
        refine xr_iconst C 538 0 (by decide +kernel) dL_law_538 ?_
        exact absurd (Option.some.inj h) (by decide +kernel)
    have h := g_if h q70
    by_cases q77 : ((xS x3.toNatClampNeg) &&& 63) = 10
    · have h := g_it h q77
      refine xr_tabIn (off := 507) C 33 540 10 q77 dL_law_33 (by decide +kernel) (by decide +kernel) (by decide +kernel) rfl ?_
      refine xr_aload_n C 540 rfl dL_law_540 ?_
      refine xr_aload_n C 541 rfl dL_law_541 ?_
      refine xr_iload_n C 542 rfl dL_law_542 ?_
      refine xr_iconst C 543 1 (by decide +kernel) dL_law_543 ?_
      refine xr_iadd C 544 dL_law_544 ?_
      obtain ⟨q71, h⟩ := g_ib h
      refine xr_sld C E 545 (x3 + 1).toNatClampNeg rfl dL_law_545 (ibd_in q71) ?_
      refine xr_aload_n C 546 rfl dL_law_546 ?_
      refine xr_iload_n C 547 rfl dL_law_547 ?_
      refine xr_iconst C 548 2 (by decide +kernel) dL_law_548 ?_
      refine xr_iadd C 549 dL_law_549 ?_
      obtain ⟨q72, h⟩ := g_ib h
      refine xr_sld C E 550 (x3 + 2).toNatClampNeg rfl dL_law_550 (ibd_in q72) ?_
      obtain ⟨z73, q74, h⟩ := g_bind h
      refine xr_callV C 551 (mX7_houseOf q74) v_X7_houseOf ml_L_56 (Nat.le_of_ble_eq_true rfl) (Nat.le_of_ble_eq_true rfl) (xrecv C rfl rfl) rfl rfl (Nat.le_of_ble_eq_true rfl) rfl dL_law_551 ?_
      refine xr_aload_n C 554 rfl dL_law_554 ?_
      refine xr_aload_n C 555 rfl dL_law_555 ?_
      refine xr_iload_n C 556 rfl dL_law_556 ?_
      refine xr_iconst C 557 1 (by decide +kernel) dL_law_557 ?_
      refine xr_iadd C 558 dL_law_558 ?_
      refine xr_sld C E 559 (x3 + 1).toNatClampNeg rfl dL_law_559 (ibd_in q71) ?_
      refine xr_aload_n C 560 rfl dL_law_560 ?_
      refine xr_iload_n C 561 rfl dL_law_561 ?_
      refine xr_iconst C 562 2 (by decide +kernel) dL_law_562 ?_
      refine xr_iadd C 563 dL_law_563 ?_
      refine xr_sld C E 564 (x3 + 2).toNatClampNeg rfl dL_law_564 (ibd_in q72) ?_
      obtain ⟨z75, q76, h⟩ := g_bind h
      refine xr_callV C 565 (mX8_houseOf q76) v_X8_houseOf ml_L_59 (Nat.le_of_ble_eq_true rfl) (Nat.le_of_ble_eq_true rfl) (xrecv C rfl rfl) rfl rfl (Nat.le_of_ble_eq_true rfl) rfl dL_law_565 ?_
      refine xr_icmp_eq C 568 1640 dL_law_568 rfl (fun q => ?_) (fun q => ?_)
      · have h := g_it h q
        exact xG.sub (bLaw_1640 C hL E hK18 h) ⟨rfl, rfl, rfl, rfl, trivial⟩
      · have h := g_if h q
        refine xr_iconst C 571 0 (by decide +kernel) dL_law_571 ?_
        exact absurd (Option.some.inj h) (by decide +kernel)
    have h := g_if h q77
    by_cases q84 : ((xS x3.toNatClampNeg) &&& 63) = 11
    · have h := g_it h q84
      refine xr_tabIn (off := 540) C 33 573 11 q84 dL_law_33 (by decide +kernel) (by decide +kernel) (by decide +kernel) rfl ?_
      refine xr_aload_n C 573 rfl dL_law_573 ?_
      refine xr_aload_n C 574 rfl dL_law_574 ?_
      refine xr_iload_n C 575 rfl dL_law_575 ?_
      refine xr_iconst C 576 1 (by decide +kernel) dL_law_576 ?_
      refine xr_iadd C 577 dL_law_577 ?_
      obtain ⟨q78, h⟩ := g_ib h
      refine xr_sld C E 578 (x3 + 1).toNatClampNeg rfl dL_law_578 (ibd_in q78) ?_
      refine xr_aload_n C 579 rfl dL_law_579 ?_
      refine xr_iload_n C 580 rfl dL_law_580 ?_
      refine xr_iconst C 581 2 (by decide +kernel) dL_law_581 ?_
      refine xr_iadd C 582 dL_law_582 ?_
      obtain ⟨q79, h⟩ := g_ib h
      refine xr_sld C E 583 (x3 + 2).toNatClampNeg rfl dL_law_583 (ibd_in q79) ?_
      obtain ⟨z80, q81, h⟩ := g_bind h
      refine xr_callV C 584 (mX7_turn q81) v_X7_turn ml_L_60 (Nat.le_of_ble_eq_true rfl) (Nat.le_of_ble_eq_true rfl) (xrecv C rfl rfl) rfl rfl (Nat.le_of_ble_eq_true rfl) rfl dL_law_584 ?_
      refine xr_aload_n C 587 rfl dL_law_587 ?_
      refine xr_aload_n C 588 rfl dL_law_588 ?_
      refine xr_iload_n C 589 rfl dL_law_589 ?_
      refine xr_iconst C 590 1 (by decide +kernel) dL_law_590 ?_
      refine xr_iadd C 591 dL_law_591 ?_
      refine xr_sld C E 592 (x3 + 1).toNatClampNeg rfl dL_law_592 (ibd_in q78) ?_
      refine xr_aload_n C 593 rfl dL_law_593 ?_
      refine xr_iload_n C 594 rfl dL_law_594 ?_
      refine xr_iconst C 595 2 (by decide +kernel) dL_law_595 ?_
      refine xr_iadd C 596 dL_law_596 ?_
      refine xr_sld C E 597 (x3 + 2).toNatClampNeg rfl dL_law_597 (ibd_in q79) ?_
      obtain ⟨z82, q83, h⟩ := g_bind h
      refine xr_callV C 598 (mX8_turn q83) v_X8_turn ml_L_63 (Nat.le_of_ble_eq_true rfl) (Nat.le_of_ble_eq_true rfl) (xrecv C rfl rfl) rfl rfl (Nat.le_of_ble_eq_true rfl) rfl dL_law_598 ?_
      refine xr_icmp_eq C 601 1640 dL_law_601 rfl (fun q => ?_) (fun q => ?_)
      · have h := g_it h q
        exact xG.sub (bLaw_1640 C hL E hK18 h) ⟨rfl, rfl, rfl, rfl, trivial⟩
      · have h := g_if h q
        refine xr_iconst C 604 0 (by decide +kernel) dL_law_604 ?_
        exact absurd (Option.some.inj h) (by decide +kernel)
    have h := g_if h q84
    by_cases q91 : ((xS x3.toNatClampNeg) &&& 63) = 12
    · have h := g_it h q91
      refine xr_tabIn (off := 573) C 33 606 12 q91 dL_law_33 (by decide +kernel) (by decide +kernel) (by decide +kernel) rfl ?_
      refine xr_aload_n C 606 rfl dL_law_606 ?_
      refine xr_aload_n C 607 rfl dL_law_607 ?_
      refine xr_iload_n C 608 rfl dL_law_608 ?_
      refine xr_iconst C 609 1 (by decide +kernel) dL_law_609 ?_
      refine xr_iadd C 610 dL_law_610 ?_
      obtain ⟨q85, h⟩ := g_ib h
      refine xr_sld C E 611 (x3 + 1).toNatClampNeg rfl dL_law_611 (ibd_in q85) ?_
      refine xr_aload_n C 612 rfl dL_law_612 ?_
      refine xr_iload_n C 613 rfl dL_law_613 ?_
      refine xr_iconst C 614 2 (by decide +kernel) dL_law_614 ?_
      refine xr_iadd C 615 dL_law_615 ?_
      obtain ⟨q86, h⟩ := g_ib h
      refine xr_sld C E 616 (x3 + 2).toNatClampNeg rfl dL_law_616 (ibd_in q86) ?_
      obtain ⟨z87, q88, h⟩ := g_bind h
      refine xr_callV C 617 (mX7_as q88) v_X7_as ml_L_64 (Nat.le_of_ble_eq_true rfl) (Nat.le_of_ble_eq_true rfl) (xrecv C rfl rfl) rfl rfl (Nat.le_of_ble_eq_true rfl) rfl dL_law_617 ?_
      refine xr_aload_n C 620 rfl dL_law_620 ?_
      refine xr_aload_n C 621 rfl dL_law_621 ?_
      refine xr_iload_n C 622 rfl dL_law_622 ?_
      refine xr_iconst C 623 1 (by decide +kernel) dL_law_623 ?_
      refine xr_iadd C 624 dL_law_624 ?_
      refine xr_sld C E 625 (x3 + 1).toNatClampNeg rfl dL_law_625 (ibd_in q85) ?_
      refine xr_aload_n C 626 rfl dL_law_626 ?_
      refine xr_iload_n C 627 rfl dL_law_627 ?_
      refine xr_iconst C 628 2 (by decide +kernel) dL_law_628 ?_
      refine xr_iadd C 629 dL_law_629 ?_
      refine xr_sld C E 630 (x3 + 2).toNatClampNeg rfl dL_law_630 (ibd_in q86) ?_
      obtain ⟨z89, q90, h⟩ := g_bind h
      refine xr_callV C 631 (mX8_as q90) v_X8_as ml_L_67 (Nat.le_of_ble_eq_true rfl) (Nat.le_of_ble_eq_true rfl) (xrecv C rfl rfl) rfl rfl (Nat.le_of_ble_eq_true rfl) rfl dL_law_631 ?_
      refine xr_icmp_eq C 634 1640 dL_law_634 rfl (fun q => ?_) (fun q => ?_)
      · have h := g_it h q
        exact xG.sub (bLaw_1640 C hL E hK18 h) ⟨rfl, rfl, rfl, rfl, trivial⟩
      · have h := g_if h q
        refine xr_iconst C 637 0 (by decide +kernel) dL_law_637 ?_
        exact absurd (Option.some.inj h) (by decide +kernel)
    have h := g_if h q91
    by_cases q98 : ((xS x3.toNatClampNeg) &&& 63) = 13
    · have h := g_it h q98
      refine xr_tabIn (off := 606) C 33 639 13 q98 dL_law_33 (by decide +kernel) (by decide +kernel) (by decide +kernel) rfl ?_
      refine xr_aload_n C 639 rfl dL_law_639 ?_
      refine xr_aload_n C 640 rfl dL_law_640 ?_
      refine xr_iload_n C 641 rfl dL_law_641 ?_
      refine xr_iconst C 642 1 (by decide +kernel) dL_law_642 ?_
      refine xr_iadd C 643 dL_law_643 ?_
      obtain ⟨q92, h⟩ := g_ib h
      refine xr_sld C E 644 (x3 + 1).toNatClampNeg rfl dL_law_644 (ibd_in q92) ?_
      refine xr_aload_n C 645 rfl dL_law_645 ?_
      refine xr_iload_n C 646 rfl dL_law_646 ?_
      refine xr_iconst C 647 2 (by decide +kernel) dL_law_647 ?_
      refine xr_iadd C 648 dL_law_648 ?_
      obtain ⟨q93, h⟩ := g_ib h
      refine xr_sld C E 649 (x3 + 2).toNatClampNeg rfl dL_law_649 (ibd_in q93) ?_
      obtain ⟨z94, q95, h⟩ := g_bind h
      refine xr_callV C 650 (mX7_gain q95) v_X7_gain ml_L_68 (Nat.le_of_ble_eq_true rfl) (Nat.le_of_ble_eq_true rfl) (xrecv C rfl rfl) rfl rfl (Nat.le_of_ble_eq_true rfl) rfl dL_law_650 ?_
      refine xr_aload_n C 653 rfl dL_law_653 ?_
      refine xr_aload_n C 654 rfl dL_law_654 ?_
      refine xr_iload_n C 655 rfl dL_law_655 ?_
      refine xr_iconst C 656 1 (by decide +kernel) dL_law_656 ?_
      refine xr_iadd C 657 dL_law_657 ?_
      refine xr_sld C E 658 (x3 + 1).toNatClampNeg rfl dL_law_658 (ibd_in q92) ?_
      refine xr_aload_n C 659 rfl dL_law_659 ?_
      refine xr_iload_n C 660 rfl dL_law_660 ?_
      refine xr_iconst C 661 2 (by decide +kernel) dL_law_661 ?_
      refine xr_iadd C 662 dL_law_662 ?_
      refine xr_sld C E 663 (x3 + 2).toNatClampNeg rfl dL_law_663 (ibd_in q93) ?_
      obtain ⟨z96, q97, h⟩ := g_bind h
      refine xr_callV C 664 (mX8_gain q97) v_X8_gain ml_L_71 (Nat.le_of_ble_eq_true rfl) (Nat.le_of_ble_eq_true rfl) (xrecv C rfl rfl) rfl rfl (Nat.le_of_ble_eq_true rfl) rfl dL_law_664 ?_
      refine xr_icmp_eq C 667 1640 dL_law_667 rfl (fun q => ?_) (fun q => ?_)
      · have h := g_it h q
        exact xG.sub (bLaw_1640 C hL E hK18 h) ⟨rfl, rfl, rfl, rfl, trivial⟩
      · have h := g_if h q
        refine xr_iconst C 670 0 (by decide +kernel) dL_law_670 ?_
        exact absurd (Option.some.inj h) (by decide +kernel)
    have h := g_if h q98
    by_cases q106 : ((xS x3.toNatClampNeg) &&& 63) = 14
    · have h := g_it h q106
      refine xr_tabIn (off := 639) C 33 672 14 q106 dL_law_33 (by decide +kernel) (by decide +kernel) (by decide +kernel) rfl ?_
      refine xr_aload_n C 672 rfl dL_law_672 ?_
      refine xr_aload_n C 673 rfl dL_law_673 ?_
      refine xr_iload_n C 674 rfl dL_law_674 ?_
      refine xr_iconst C 675 1 (by decide +kernel) dL_law_675 ?_
      refine xr_iadd C 676 dL_law_676 ?_
      obtain ⟨q99, h⟩ := g_ib h
      refine xr_sld C E 677 (x3 + 1).toNatClampNeg rfl dL_law_677 (ibd_in q99) ?_
      refine xr_aload_n C 678 rfl dL_law_678 ?_
      refine xr_iload_n C 679 rfl dL_law_679 ?_
      refine xr_iconst C 680 2 (by decide +kernel) dL_law_680 ?_
      refine xr_iadd C 681 dL_law_681 ?_
      obtain ⟨q100, h⟩ := g_ib h
      refine xr_sld C E 682 (x3 + 2).toNatClampNeg rfl dL_law_682 (ibd_in q100) ?_
      refine xr_aload_n C 683 rfl dL_law_683 ?_
      refine xr_iload_n C 684 rfl dL_law_684 ?_
      refine xr_iconst C 685 3 (by decide +kernel) dL_law_685 ?_
      refine xr_iadd C 686 dL_law_686 ?_
      obtain ⟨q101, h⟩ := g_ib h
      refine xr_sld C E 687 (x3 + 3).toNatClampNeg rfl dL_law_687 (ibd_in q101) ?_
      obtain ⟨z102, q103, h⟩ := g_bind h
      refine xr_callV C 688 (mX7_sum q103) v_X7_sum ml_L_72 (Nat.le_of_ble_eq_true rfl) (Nat.le_of_ble_eq_true rfl) (xrecv C rfl rfl) rfl rfl (Nat.le_of_ble_eq_true rfl) rfl dL_law_688 ?_
      refine xr_aload_n C 691 rfl dL_law_691 ?_
      refine xr_aload_n C 692 rfl dL_law_692 ?_
      refine xr_iload_n C 693 rfl dL_law_693 ?_
      refine xr_iconst C 694 1 (by decide +kernel) dL_law_694 ?_
      refine xr_iadd C 695 dL_law_695 ?_
      refine xr_sld C E 696 (x3 + 1).toNatClampNeg rfl dL_law_696 (ibd_in q99) ?_
      refine xr_aload_n C 697 rfl dL_law_697 ?_
      refine xr_iload_n C 698 rfl dL_law_698 ?_
      refine xr_iconst C 699 2 (by decide +kernel) dL_law_699 ?_
      refine xr_iadd C 700 dL_law_700 ?_
      refine xr_sld C E 701 (x3 + 2).toNatClampNeg rfl dL_law_701 (ibd_in q100) ?_
      refine xr_aload_n C 702 rfl dL_law_702 ?_
      refine xr_iload_n C 703 rfl dL_law_703 ?_
      refine xr_iconst C 704 3 (by decide +kernel) dL_law_704 ?_
      refine xr_iadd C 705 dL_law_705 ?_
      refine xr_sld C E 706 (x3 + 3).toNatClampNeg rfl dL_law_706 (ibd_in q101) ?_
      obtain ⟨z104, q105, h⟩ := g_bind h
      refine xr_callV C 707 (mX8_sum q105) v_X8_sum ml_L_75 (Nat.le_of_ble_eq_true rfl) (Nat.le_of_ble_eq_true rfl) (xrecv C rfl rfl) rfl rfl (Nat.le_of_ble_eq_true rfl) rfl dL_law_707 ?_
      refine xr_icmp_eq C 710 1640 dL_law_710 rfl (fun q => ?_) (fun q => ?_)
      · have h := g_it h q
        exact xG.sub (bLaw_1640 C hL E hK18 h) ⟨rfl, rfl, rfl, rfl, trivial⟩
      · have h := g_if h q
        refine xr_iconst C 713 0 (by decide +kernel) dL_law_713 ?_
        exact absurd (Option.some.inj h) (by decide +kernel)
    have h := g_if h q106
    by_cases q114 : ((xS x3.toNatClampNeg) &&& 63) = 15
    · have h := g_it h q114
      refine xr_tabIn (off := 682) C 33 715 15 q114 dL_law_33 (by decide +kernel) (by decide +kernel) (by decide +kernel) rfl ?_
      refine xr_aload_n C 715 rfl dL_law_715 ?_
      refine xr_aload_n C 716 rfl dL_law_716 ?_
      refine xr_iload_n C 717 rfl dL_law_717 ?_
      refine xr_iconst C 718 1 (by decide +kernel) dL_law_718 ?_
      refine xr_iadd C 719 dL_law_719 ?_
      obtain ⟨q107, h⟩ := g_ib h
      refine xr_sld C E 720 (x3 + 1).toNatClampNeg rfl dL_law_720 (ibd_in q107) ?_
      refine xr_aload_n C 721 rfl dL_law_721 ?_
      refine xr_iload_n C 722 rfl dL_law_722 ?_
      refine xr_iconst C 723 2 (by decide +kernel) dL_law_723 ?_
      refine xr_iadd C 724 dL_law_724 ?_
      obtain ⟨q108, h⟩ := g_ib h
      refine xr_sld C E 725 (x3 + 2).toNatClampNeg rfl dL_law_725 (ibd_in q108) ?_
      refine xr_aload_n C 726 rfl dL_law_726 ?_
      refine xr_iload_n C 727 rfl dL_law_727 ?_
      refine xr_iconst C 728 3 (by decide +kernel) dL_law_728 ?_
      refine xr_iadd C 729 dL_law_729 ?_
      obtain ⟨q109, h⟩ := g_ib h
      refine xr_sld C E 730 (x3 + 3).toNatClampNeg rfl dL_law_730 (ibd_in q109) ?_
      obtain ⟨z110, q111, h⟩ := g_bind h
      refine xr_callV C 731 (mX7_best q111) v_X7_best ml_L_76 (Nat.le_of_ble_eq_true rfl) (Nat.le_of_ble_eq_true rfl) (xrecv C rfl rfl) rfl rfl (Nat.le_of_ble_eq_true rfl) rfl dL_law_731 ?_
      refine xr_aload_n C 734 rfl dL_law_734 ?_
      refine xr_aload_n C 735 rfl dL_law_735 ?_
      refine xr_iload_n C 736 rfl dL_law_736 ?_
      refine xr_iconst C 737 1 (by decide +kernel) dL_law_737 ?_
      refine xr_iadd C 738 dL_law_738 ?_
      refine xr_sld C E 739 (x3 + 1).toNatClampNeg rfl dL_law_739 (ibd_in q107) ?_
      refine xr_aload_n C 740 rfl dL_law_740 ?_
      refine xr_iload_n C 741 rfl dL_law_741 ?_
      refine xr_iconst C 742 2 (by decide +kernel) dL_law_742 ?_
      refine xr_iadd C 743 dL_law_743 ?_
      refine xr_sld C E 744 (x3 + 2).toNatClampNeg rfl dL_law_744 (ibd_in q108) ?_
      refine xr_aload_n C 745 rfl dL_law_745 ?_
      refine xr_iload_n C 746 rfl dL_law_746 ?_
      refine xr_iconst C 747 3 (by decide +kernel) dL_law_747 ?_
      refine xr_iadd C 748 dL_law_748 ?_
      refine xr_sld C E 749 (x3 + 3).toNatClampNeg rfl dL_law_749 (ibd_in q109) ?_
      obtain ⟨z112, q113, h⟩ := g_bind h
      refine xr_callV C 750 (mX8_best q113) v_X8_best ml_L_79 (Nat.le_of_ble_eq_true rfl) (Nat.le_of_ble_eq_true rfl) (xrecv C rfl rfl) rfl rfl (Nat.le_of_ble_eq_true rfl) rfl dL_law_750 ?_
      refine xr_icmp_eq C 753 1640 dL_law_753 rfl (fun q => ?_) (fun q => ?_)
      · have h := g_it h q
        exact xG.sub (bLaw_1640 C hL E hK18 h) ⟨rfl, rfl, rfl, rfl, trivial⟩
      · have h := g_if h q
        refine xr_iconst C 756 0 (by decide +kernel) dL_law_756 ?_
        exact absurd (Option.some.inj h) (by decide +kernel)
    have h := g_if h q114
    by_cases q121 : ((xS x3.toNatClampNeg) &&& 63) = 16
    · have h := g_it h q121
      refine xr_tabIn (off := 725) C 33 758 16 q121 dL_law_33 (by decide +kernel) (by decide +kernel) (by decide +kernel) rfl ?_
      refine xr_aload_n C 758 rfl dL_law_758 ?_
      refine xr_aload_n C 759 rfl dL_law_759 ?_
      refine xr_iload_n C 760 rfl dL_law_760 ?_
      refine xr_iconst C 761 1 (by decide +kernel) dL_law_761 ?_
      refine xr_iadd C 762 dL_law_762 ?_
      obtain ⟨q115, h⟩ := g_ib h
      refine xr_sld C E 763 (x3 + 1).toNatClampNeg rfl dL_law_763 (ibd_in q115) ?_
      refine xr_aload_n C 764 rfl dL_law_764 ?_
      refine xr_iload_n C 765 rfl dL_law_765 ?_
      refine xr_iconst C 766 2 (by decide +kernel) dL_law_766 ?_
      refine xr_iadd C 767 dL_law_767 ?_
      obtain ⟨q116, h⟩ := g_ib h
      refine xr_sld C E 768 (x3 + 2).toNatClampNeg rfl dL_law_768 (ibd_in q116) ?_
      obtain ⟨z117, q118, h⟩ := g_bind h
      refine xr_callV C 769 (mX7_sunniest q118) v_X7_sunniest ml_L_80 (Nat.le_of_ble_eq_true rfl) (Nat.le_of_ble_eq_true rfl) (xrecv C rfl rfl) rfl rfl (Nat.le_of_ble_eq_true rfl) rfl dL_law_769 ?_
      refine xr_aload_n C 772 rfl dL_law_772 ?_
      refine xr_aload_n C 773 rfl dL_law_773 ?_
      refine xr_iload_n C 774 rfl dL_law_774 ?_
      refine xr_iconst C 775 1 (by decide +kernel) dL_law_775 ?_
      refine xr_iadd C 776 dL_law_776 ?_
      refine xr_sld C E 777 (x3 + 1).toNatClampNeg rfl dL_law_777 (ibd_in q115) ?_
      refine xr_aload_n C 778 rfl dL_law_778 ?_
      refine xr_iload_n C 779 rfl dL_law_779 ?_
      refine xr_iconst C 780 2 (by decide +kernel) dL_law_780 ?_
      refine xr_iadd C 781 dL_law_781 ?_
      refine xr_sld C E 782 (x3 + 2).toNatClampNeg rfl dL_law_782 (ibd_in q116) ?_
      obtain ⟨z119, q120, h⟩ := g_bind h
      refine xr_callV C 783 (mX8_sunniest q120) v_X8_sunniest ml_L_83 (Nat.le_of_ble_eq_true rfl) (Nat.le_of_ble_eq_true rfl) (xrecv C rfl rfl) rfl rfl (Nat.le_of_ble_eq_true rfl) rfl dL_law_783 ?_
      refine xr_icmp_eq C 786 1640 dL_law_786 rfl (fun q => ?_) (fun q => ?_)
      · have h := g_it h q
        exact xG.sub (bLaw_1640 C hL E hK18 h) ⟨rfl, rfl, rfl, rfl, trivial⟩
      · have h := g_if h q
        refine xr_iconst C 789 0 (by decide +kernel) dL_law_789 ?_
        exact absurd (Option.some.inj h) (by decide +kernel)
    have h := g_if h q121
    by_cases q130 : ((xS x3.toNatClampNeg) &&& 63) = 17
    · have h := g_it h q130
      refine xr_tabIn (off := 758) C 33 791 17 q130 dL_law_33 (by decide +kernel) (by decide +kernel) (by decide +kernel) rfl ?_
      refine xr_aload_n C 791 rfl dL_law_791 ?_
      refine xr_aload_n C 792 rfl dL_law_792 ?_
      refine xr_iload_n C 793 rfl dL_law_793 ?_
      refine xr_iconst C 794 1 (by decide +kernel) dL_law_794 ?_
      refine xr_iadd C 795 dL_law_795 ?_
      obtain ⟨q122, h⟩ := g_ib h
      refine xr_sld C E 796 (x3 + 1).toNatClampNeg rfl dL_law_796 (ibd_in q122) ?_
      refine xr_aload_n C 797 rfl dL_law_797 ?_
      refine xr_iload_n C 798 rfl dL_law_798 ?_
      refine xr_iconst C 799 2 (by decide +kernel) dL_law_799 ?_
      refine xr_iadd C 800 dL_law_800 ?_
      obtain ⟨q123, h⟩ := g_ib h
      refine xr_sld C E 801 (x3 + 2).toNatClampNeg rfl dL_law_801 (ibd_in q123) ?_
      refine xr_aload_n C 802 rfl dL_law_802 ?_
      refine xr_iload_n C 803 rfl dL_law_803 ?_
      refine xr_iconst C 804 3 (by decide +kernel) dL_law_804 ?_
      refine xr_iadd C 805 dL_law_805 ?_
      obtain ⟨q124, h⟩ := g_ib h
      refine xr_sld C E 806 (x3 + 3).toNatClampNeg rfl dL_law_806 (ibd_in q124) ?_
      refine xr_aload_n C 807 rfl dL_law_807 ?_
      refine xr_iload_n C 808 rfl dL_law_808 ?_
      refine xr_iconst C 809 4 (by decide +kernel) dL_law_809 ?_
      refine xr_iadd C 810 dL_law_810 ?_
      obtain ⟨q125, h⟩ := g_ib h
      refine xr_sld C E 811 (x3 + 4).toNatClampNeg rfl dL_law_811 (ibd_in q125) ?_
      obtain ⟨z126, q127, h⟩ := g_bind h
      refine xr_callV C 812 (mX7_days q127) v_X7_days ml_L_84 (Nat.le_of_ble_eq_true rfl) (Nat.le_of_ble_eq_true rfl) (xrecv C rfl rfl) rfl rfl (Nat.le_of_ble_eq_true rfl) rfl dL_law_812 ?_
      refine xr_aload_n C 815 rfl dL_law_815 ?_
      refine xr_aload_n C 816 rfl dL_law_816 ?_
      refine xr_iload_n C 817 rfl dL_law_817 ?_
      refine xr_iconst C 818 1 (by decide +kernel) dL_law_818 ?_
      refine xr_iadd C 819 dL_law_819 ?_
      refine xr_sld C E 820 (x3 + 1).toNatClampNeg rfl dL_law_820 (ibd_in q122) ?_
      refine xr_aload_n C 821 rfl dL_law_821 ?_
      refine xr_iload_n C 822 rfl dL_law_822 ?_
      refine xr_iconst C 823 2 (by decide +kernel) dL_law_823 ?_
      refine xr_iadd C 824 dL_law_824 ?_
      refine xr_sld C E 825 (x3 + 2).toNatClampNeg rfl dL_law_825 (ibd_in q123) ?_
      refine xr_aload_n C 826 rfl dL_law_826 ?_
      refine xr_iload_n C 827 rfl dL_law_827 ?_
      refine xr_iconst C 828 3 (by decide +kernel) dL_law_828 ?_
      refine xr_iadd C 829 dL_law_829 ?_
      refine xr_sld C E 830 (x3 + 3).toNatClampNeg rfl dL_law_830 (ibd_in q124) ?_
      refine xr_aload_n C 831 rfl dL_law_831 ?_
      refine xr_iload_n C 832 rfl dL_law_832 ?_
      refine xr_iconst C 833 4 (by decide +kernel) dL_law_833 ?_
      refine xr_iadd C 834 dL_law_834 ?_
      refine xr_sld C E 835 (x3 + 4).toNatClampNeg rfl dL_law_835 (ibd_in q125) ?_
      obtain ⟨z128, q129, h⟩ := g_bind h
      refine xr_callV C 836 (mX8_days q129) v_X8_days ml_L_88 (Nat.le_of_ble_eq_true rfl) (Nat.le_of_ble_eq_true rfl) (xrecv C rfl rfl) rfl rfl (Nat.le_of_ble_eq_true rfl) rfl dL_law_836 ?_
      refine xr_icmp_eq C 839 1640 dL_law_839 rfl (fun q => ?_) (fun q => ?_)
      · have h := g_it h q
        exact xG.sub (bLaw_1640 C hL E hK18 h) ⟨rfl, rfl, rfl, rfl, trivial⟩
      · have h := g_if h q
        refine xr_iconst C 842 0 (by decide +kernel) dL_law_842 ?_
        exact absurd (Option.some.inj h) (by decide +kernel)
    have h := g_if h q130
    by_cases q137 : ((xS x3.toNatClampNeg) &&& 63) = 18
    · have h := g_it h q137
      refine xr_tabIn (off := 811) C 33 844 18 q137 dL_law_33 (by decide +kernel) (by decide +kernel) (by decide +kernel) rfl ?_
      refine xr_aload_n C 844 rfl dL_law_844 ?_
      refine xr_aload_n C 845 rfl dL_law_845 ?_
      refine xr_iload_n C 846 rfl dL_law_846 ?_
      refine xr_iconst C 847 1 (by decide +kernel) dL_law_847 ?_
      refine xr_iadd C 848 dL_law_848 ?_
      obtain ⟨q131, h⟩ := g_ib h
      refine xr_sld C E 849 (x3 + 1).toNatClampNeg rfl dL_law_849 (ibd_in q131) ?_
      refine xr_aload_n C 850 rfl dL_law_850 ?_
      refine xr_iload_n C 851 rfl dL_law_851 ?_
      refine xr_iconst C 852 2 (by decide +kernel) dL_law_852 ?_
      refine xr_iadd C 853 dL_law_853 ?_
      obtain ⟨q132, h⟩ := g_ib h
      refine xr_sld C E 854 (x3 + 2).toNatClampNeg rfl dL_law_854 (ibd_in q132) ?_
      obtain ⟨z133, q134, h⟩ := g_bind h
      refine xr_callV C 855 (mX7_exchange q134) v_X7_exchange ml_L_89 (Nat.le_of_ble_eq_true rfl) (Nat.le_of_ble_eq_true rfl) (xrecv C rfl rfl) rfl rfl (Nat.le_of_ble_eq_true rfl) rfl dL_law_855 ?_
      refine xr_aload_n C 858 rfl dL_law_858 ?_
      refine xr_aload_n C 859 rfl dL_law_859 ?_
      refine xr_iload_n C 860 rfl dL_law_860 ?_
      refine xr_iconst C 861 1 (by decide +kernel) dL_law_861 ?_
      refine xr_iadd C 862 dL_law_862 ?_
      refine xr_sld C E 863 (x3 + 1).toNatClampNeg rfl dL_law_863 (ibd_in q131) ?_
      refine xr_aload_n C 864 rfl dL_law_864 ?_
      refine xr_iload_n C 865 rfl dL_law_865 ?_
      refine xr_iconst C 866 2 (by decide +kernel) dL_law_866 ?_
      refine xr_iadd C 867 dL_law_867 ?_
      refine xr_sld C E 868 (x3 + 2).toNatClampNeg rfl dL_law_868 (ibd_in q132) ?_
      obtain ⟨z135, q136, h⟩ := g_bind h
      refine xr_callV C 869 (mX8_exchange q136) v_X8_exchange ml_L_92 (Nat.le_of_ble_eq_true rfl) (Nat.le_of_ble_eq_true rfl) (xrecv C rfl rfl) rfl rfl (Nat.le_of_ble_eq_true rfl) rfl dL_law_869 ?_
      refine xr_icmp_eq C 872 1640 dL_law_872 rfl (fun q => ?_) (fun q => ?_)
      · have h := g_it h q
        exact xG.sub (bLaw_1640 C hL E hK18 h) ⟨rfl, rfl, rfl, rfl, trivial⟩
      · have h := g_if h q
        refine xr_iconst C 875 0 (by decide +kernel) dL_law_875 ?_
        exact absurd (Option.some.inj h) (by decide +kernel)
    have h := g_if h q137
    by_cases q145 : ((xS x3.toNatClampNeg) &&& 63) = 19
    · have h := g_it h q145
      refine xr_tabIn (off := 844) C 33 877 19 q145 dL_law_33 (by decide +kernel) (by decide +kernel) (by decide +kernel) rfl ?_
      refine xr_aload_n C 877 rfl dL_law_877 ?_
      refine xr_aload_n C 878 rfl dL_law_878 ?_
      refine xr_iload_n C 879 rfl dL_law_879 ?_
      refine xr_iconst C 880 1 (by decide +kernel) dL_law_880 ?_
      refine xr_iadd C 881 dL_law_881 ?_
      obtain ⟨q138, h⟩ := g_ib h
      refine xr_sld C E 882 (x3 + 1).toNatClampNeg rfl dL_law_882 (ibd_in q138) ?_
      refine xr_aload_n C 883 rfl dL_law_883 ?_
      refine xr_iload_n C 884 rfl dL_law_884 ?_
      refine xr_iconst C 885 2 (by decide +kernel) dL_law_885 ?_
      refine xr_iadd C 886 dL_law_886 ?_
      obtain ⟨q139, h⟩ := g_ib h
      refine xr_sld C E 887 (x3 + 2).toNatClampNeg rfl dL_law_887 (ibd_in q139) ?_
      refine xr_aload_n C 888 rfl dL_law_888 ?_
      refine xr_iload_n C 889 rfl dL_law_889 ?_
      refine xr_iconst C 890 3 (by decide +kernel) dL_law_890 ?_
      refine xr_iadd C 891 dL_law_891 ?_
      obtain ⟨q140, h⟩ := g_ib h
      refine xr_sld C E 892 (x3 + 3).toNatClampNeg rfl dL_law_892 (ibd_in q140) ?_
      obtain ⟨z141, q142, h⟩ := g_bind h
      refine xr_callV C 893 (mX7_ship q142) v_X7_ship ml_L_93 (Nat.le_of_ble_eq_true rfl) (Nat.le_of_ble_eq_true rfl) (xrecv C rfl rfl) rfl rfl (Nat.le_of_ble_eq_true rfl) rfl dL_law_893 ?_
      refine xr_aload_n C 896 rfl dL_law_896 ?_
      refine xr_aload_n C 897 rfl dL_law_897 ?_
      refine xr_iload_n C 898 rfl dL_law_898 ?_
      refine xr_iconst C 899 1 (by decide +kernel) dL_law_899 ?_
      refine xr_iadd C 900 dL_law_900 ?_
      refine xr_sld C E 901 (x3 + 1).toNatClampNeg rfl dL_law_901 (ibd_in q138) ?_
      refine xr_aload_n C 902 rfl dL_law_902 ?_
      refine xr_iload_n C 903 rfl dL_law_903 ?_
      refine xr_iconst C 904 2 (by decide +kernel) dL_law_904 ?_
      refine xr_iadd C 905 dL_law_905 ?_
      refine xr_sld C E 906 (x3 + 2).toNatClampNeg rfl dL_law_906 (ibd_in q139) ?_
      refine xr_aload_n C 907 rfl dL_law_907 ?_
      refine xr_iload_n C 908 rfl dL_law_908 ?_
      refine xr_iconst C 909 3 (by decide +kernel) dL_law_909 ?_
      refine xr_iadd C 910 dL_law_910 ?_
      refine xr_sld C E 911 (x3 + 3).toNatClampNeg rfl dL_law_911 (ibd_in q140) ?_
      obtain ⟨z143, q144, h⟩ := g_bind h
      refine xr_callV C 912 (mX8_ship q144) v_X8_ship ml_L_96 (Nat.le_of_ble_eq_true rfl) (Nat.le_of_ble_eq_true rfl) (xrecv C rfl rfl) rfl rfl (Nat.le_of_ble_eq_true rfl) rfl dL_law_912 ?_
      refine xr_icmp_eq C 915 1640 dL_law_915 rfl (fun q => ?_) (fun q => ?_)
      · have h := g_it h q
        exact xG.sub (bLaw_1640 C hL E hK18 h) ⟨rfl, rfl, rfl, rfl, trivial⟩
      · have h := g_if h q
        refine xr_iconst C 918 0 (by decide +kernel) dL_law_918 ?_
        exact absurd (Option.some.inj h) (by decide +kernel)
    have h := g_if h q145
    by_cases q152 : ((xS x3.toNatClampNeg) &&& 63) = 20
    · have h := g_it h q152
      refine xr_tabIn (off := 887) C 33 920 20 q152 dL_law_33 (by decide +kernel) (by decide +kernel) (by decide +kernel) rfl ?_
      refine xr_aload_n C 920 rfl dL_law_920 ?_
      refine xr_aload_n C 921 rfl dL_law_921 ?_
      refine xr_iload_n C 922 rfl dL_law_922 ?_
      refine xr_iconst C 923 1 (by decide +kernel) dL_law_923 ?_
      refine xr_iadd C 924 dL_law_924 ?_
      obtain ⟨q146, h⟩ := g_ib h
      refine xr_sld C E 925 (x3 + 1).toNatClampNeg rfl dL_law_925 (ibd_in q146) ?_
      refine xr_aload_n C 926 rfl dL_law_926 ?_
      refine xr_iload_n C 927 rfl dL_law_927 ?_
      refine xr_iconst C 928 2 (by decide +kernel) dL_law_928 ?_
      refine xr_iadd C 929 dL_law_929 ?_
      obtain ⟨q147, h⟩ := g_ib h
      refine xr_sld C E 930 (x3 + 2).toNatClampNeg rfl dL_law_930 (ibd_in q147) ?_
      obtain ⟨z148, q149, h⟩ := g_bind h
      refine xr_callV C 931 (mX7_shipOf q149) v_X7_shipOf ml_L_97 (Nat.le_of_ble_eq_true rfl) (Nat.le_of_ble_eq_true rfl) (xrecv C rfl rfl) rfl rfl (Nat.le_of_ble_eq_true rfl) rfl dL_law_931 ?_
      refine xr_aload_n C 934 rfl dL_law_934 ?_
      refine xr_aload_n C 935 rfl dL_law_935 ?_
      refine xr_iload_n C 936 rfl dL_law_936 ?_
      refine xr_iconst C 937 1 (by decide +kernel) dL_law_937 ?_
      refine xr_iadd C 938 dL_law_938 ?_
      refine xr_sld C E 939 (x3 + 1).toNatClampNeg rfl dL_law_939 (ibd_in q146) ?_
      refine xr_aload_n C 940 rfl dL_law_940 ?_
      refine xr_iload_n C 941 rfl dL_law_941 ?_
      refine xr_iconst C 942 2 (by decide +kernel) dL_law_942 ?_
      refine xr_iadd C 943 dL_law_943 ?_
      refine xr_sld C E 944 (x3 + 2).toNatClampNeg rfl dL_law_944 (ibd_in q147) ?_
      obtain ⟨z150, q151, h⟩ := g_bind h
      refine xr_callV C 945 (mX8_shipOf q151) v_X8_shipOf ml_L_100 (Nat.le_of_ble_eq_true rfl) (Nat.le_of_ble_eq_true rfl) (xrecv C rfl rfl) rfl rfl (Nat.le_of_ble_eq_true rfl) rfl dL_law_945 ?_
      refine xr_icmp_eq C 948 1640 dL_law_948 rfl (fun q => ?_) (fun q => ?_)
      · have h := g_it h q
        exact xG.sub (bLaw_1640 C hL E hK18 h) ⟨rfl, rfl, rfl, rfl, trivial⟩
      · have h := g_if h q
        refine xr_iconst C 951 0 (by decide +kernel) dL_law_951 ?_
        exact absurd (Option.some.inj h) (by decide +kernel)
    have h := g_if h q152
    by_cases q159 : ((xS x3.toNatClampNeg) &&& 63) = 21
    · have h := g_it h q159
      refine xr_tabIn (off := 920) C 33 953 21 q159 dL_law_33 (by decide +kernel) (by decide +kernel) (by decide +kernel) rfl ?_
      refine xr_aload_n C 953 rfl dL_law_953 ?_
      refine xr_aload_n C 954 rfl dL_law_954 ?_
      refine xr_iload_n C 955 rfl dL_law_955 ?_
      refine xr_iconst C 956 1 (by decide +kernel) dL_law_956 ?_
      refine xr_iadd C 957 dL_law_957 ?_
      obtain ⟨q153, h⟩ := g_ib h
      refine xr_sld C E 958 (x3 + 1).toNatClampNeg rfl dL_law_958 (ibd_in q153) ?_
      refine xr_aload_n C 959 rfl dL_law_959 ?_
      refine xr_iload_n C 960 rfl dL_law_960 ?_
      refine xr_iconst C 961 2 (by decide +kernel) dL_law_961 ?_
      refine xr_iadd C 962 dL_law_962 ?_
      obtain ⟨q154, h⟩ := g_ib h
      refine xr_sld C E 963 (x3 + 2).toNatClampNeg rfl dL_law_963 (ibd_in q154) ?_
      obtain ⟨z155, q156, h⟩ := g_bind h
      refine xr_callV C 964 (mX7_quay q156) v_X7_quay ml_L_101 (Nat.le_of_ble_eq_true rfl) (Nat.le_of_ble_eq_true rfl) (xrecv C rfl rfl) rfl rfl (Nat.le_of_ble_eq_true rfl) rfl dL_law_964 ?_
      refine xr_aload_n C 967 rfl dL_law_967 ?_
      refine xr_aload_n C 968 rfl dL_law_968 ?_
      refine xr_iload_n C 969 rfl dL_law_969 ?_
      refine xr_iconst C 970 1 (by decide +kernel) dL_law_970 ?_
      refine xr_iadd C 971 dL_law_971 ?_
      refine xr_sld C E 972 (x3 + 1).toNatClampNeg rfl dL_law_972 (ibd_in q153) ?_
      refine xr_aload_n C 973 rfl dL_law_973 ?_
      refine xr_iload_n C 974 rfl dL_law_974 ?_
      refine xr_iconst C 975 2 (by decide +kernel) dL_law_975 ?_
      refine xr_iadd C 976 dL_law_976 ?_
      refine xr_sld C E 977 (x3 + 2).toNatClampNeg rfl dL_law_977 (ibd_in q154) ?_
      obtain ⟨z157, q158, h⟩ := g_bind h
      refine xr_callV C 978 (mX8_quay q158) v_X8_quay ml_L_104 (Nat.le_of_ble_eq_true rfl) (Nat.le_of_ble_eq_true rfl) (xrecv C rfl rfl) rfl rfl (Nat.le_of_ble_eq_true rfl) rfl dL_law_978 ?_
      refine xr_icmp_eq C 981 1640 dL_law_981 rfl (fun q => ?_) (fun q => ?_)
      · have h := g_it h q
        exact xG.sub (bLaw_1640 C hL E hK18 h) ⟨rfl, rfl, rfl, rfl, trivial⟩
      · have h := g_if h q
        refine xr_iconst C 984 0 (by decide +kernel) dL_law_984 ?_
        exact absurd (Option.some.inj h) (by decide +kernel)
    have h := g_if h q159
    by_cases q162 : ((xS x3.toNatClampNeg) &&& 63) = 22
    · have h := g_it h q162
      refine xr_tabIn (off := 953) C 33 986 22 q162 dL_law_33 (by decide +kernel) (by decide +kernel) (by decide +kernel) rfl ?_
      refine xr_aload_n C 986 rfl dL_law_986 ?_
      refine xr_callV C 987 (mX7_clear rfl) v_X7_clear ml_L_105 (Nat.le_of_ble_eq_true rfl) (Nat.le_of_ble_eq_true rfl) (xrecv C rfl rfl) rfl rfl (Nat.le_of_ble_eq_true rfl) rfl dL_law_987 ?_
      refine xr_aload_n C 990 rfl dL_law_990 ?_
      obtain ⟨z160, q161, h⟩ := g_bind h
      refine xr_callV C 991 (mX8_clear q161) v_X8_clear ml_L_109 (Nat.le_of_ble_eq_true rfl) (Nat.le_of_ble_eq_true rfl) (xrecv C rfl rfl) rfl rfl (Nat.le_of_ble_eq_true rfl) rfl dL_law_991 ?_
      refine xr_icmp_eq C 994 1640 dL_law_994 rfl (fun q => ?_) (fun q => ?_)
      · have h := g_it h q
        exact xG.sub (bLaw_1640 C hL E hK18 h) ⟨rfl, rfl, rfl, rfl, trivial⟩
      · have h := g_if h q
        refine xr_iconst C 997 0 (by decide +kernel) dL_law_997 ?_
        exact absurd (Option.some.inj h) (by decide +kernel)
    have h := g_if h q162
    by_cases q170 : ((xS x3.toNatClampNeg) &&& 63) = 23
    · have h := g_it h q170
      refine xr_tabIn (off := 966) C 33 999 23 q170 dL_law_33 (by decide +kernel) (by decide +kernel) (by decide +kernel) rfl ?_
      refine xr_aload_n C 999 rfl dL_law_999 ?_
      refine xr_aload_n C 1000 rfl dL_law_1000 ?_
      refine xr_iload_n C 1001 rfl dL_law_1001 ?_
      refine xr_iconst C 1002 1 (by decide +kernel) dL_law_1002 ?_
      refine xr_iadd C 1003 dL_law_1003 ?_
      obtain ⟨q163, h⟩ := g_ib h
      refine xr_sld C E 1004 (x3 + 1).toNatClampNeg rfl dL_law_1004 (ibd_in q163) ?_
      refine xr_aload_n C 1005 rfl dL_law_1005 ?_
      refine xr_iload_n C 1006 rfl dL_law_1006 ?_
      refine xr_iconst C 1007 2 (by decide +kernel) dL_law_1007 ?_
      refine xr_iadd C 1008 dL_law_1008 ?_
      obtain ⟨q164, h⟩ := g_ib h
      refine xr_sld C E 1009 (x3 + 2).toNatClampNeg rfl dL_law_1009 (ibd_in q164) ?_
      refine xr_aload_n C 1010 rfl dL_law_1010 ?_
      refine xr_iload_n C 1011 rfl dL_law_1011 ?_
      refine xr_iconst C 1012 3 (by decide +kernel) dL_law_1012 ?_
      refine xr_iadd C 1013 dL_law_1013 ?_
      obtain ⟨q165, h⟩ := g_ib h
      refine xr_sld C E 1014 (x3 + 3).toNatClampNeg rfl dL_law_1014 (ibd_in q165) ?_
      obtain ⟨z166, q167, h⟩ := g_bind h
      refine xr_callV C 1015 (mX7_lies q167) v_X7_lies ml_L_110 (Nat.le_of_ble_eq_true rfl) (Nat.le_of_ble_eq_true rfl) (xrecv C rfl rfl) rfl rfl (Nat.le_of_ble_eq_true rfl) rfl dL_law_1015 ?_
      refine xr_aload_n C 1018 rfl dL_law_1018 ?_
      refine xr_aload_n C 1019 rfl dL_law_1019 ?_
      refine xr_iload_n C 1020 rfl dL_law_1020 ?_
      refine xr_iconst C 1021 1 (by decide +kernel) dL_law_1021 ?_
      refine xr_iadd C 1022 dL_law_1022 ?_
      refine xr_sld C E 1023 (x3 + 1).toNatClampNeg rfl dL_law_1023 (ibd_in q163) ?_
      refine xr_aload_n C 1024 rfl dL_law_1024 ?_
      refine xr_iload_n C 1025 rfl dL_law_1025 ?_
      refine xr_iconst C 1026 2 (by decide +kernel) dL_law_1026 ?_
      refine xr_iadd C 1027 dL_law_1027 ?_
      refine xr_sld C E 1028 (x3 + 2).toNatClampNeg rfl dL_law_1028 (ibd_in q164) ?_
      refine xr_aload_n C 1029 rfl dL_law_1029 ?_
      refine xr_iload_n C 1030 rfl dL_law_1030 ?_
      refine xr_iconst C 1031 3 (by decide +kernel) dL_law_1031 ?_
      refine xr_iadd C 1032 dL_law_1032 ?_
      refine xr_sld C E 1033 (x3 + 3).toNatClampNeg rfl dL_law_1033 (ibd_in q165) ?_
      obtain ⟨z168, q169, h⟩ := g_bind h
      refine xr_callV C 1034 (mX8_lies q169) v_X8_lies ml_L_113 (Nat.le_of_ble_eq_true rfl) (Nat.le_of_ble_eq_true rfl) (xrecv C rfl rfl) rfl rfl (Nat.le_of_ble_eq_true rfl) rfl dL_law_1034 ?_
      refine xr_icmp_eq C 1037 1640 dL_law_1037 rfl (fun q => ?_) (fun q => ?_)
      · have h := g_it h q
        exact xG.sub (bLaw_1640 C hL E hK18 h) ⟨rfl, rfl, rfl, rfl, trivial⟩
      · have h := g_if h q
        refine xr_iconst C 1040 0 (by decide +kernel) dL_law_1040 ?_
        exact absurd (Option.some.inj h) (by decide +kernel)
    have h := g_if h q170
    by_cases q177 : ((xS x3.toNatClampNeg) &&& 63) = 24
    · have h := g_it h q177
      refine xr_tabIn (off := 1009) C 33 1042 24 q177 dL_law_33 (by decide +kernel) (by decide +kernel) (by decide +kernel) rfl ?_
      refine xr_aload_n C 1042 rfl dL_law_1042 ?_
      refine xr_aload_n C 1043 rfl dL_law_1043 ?_
      refine xr_iload_n C 1044 rfl dL_law_1044 ?_
      refine xr_iconst C 1045 1 (by decide +kernel) dL_law_1045 ?_
      refine xr_iadd C 1046 dL_law_1046 ?_
      obtain ⟨q171, h⟩ := g_ib h
      refine xr_sld C E 1047 (x3 + 1).toNatClampNeg rfl dL_law_1047 (ibd_in q171) ?_
      refine xr_aload_n C 1048 rfl dL_law_1048 ?_
      refine xr_iload_n C 1049 rfl dL_law_1049 ?_
      refine xr_iconst C 1050 2 (by decide +kernel) dL_law_1050 ?_
      refine xr_iadd C 1051 dL_law_1051 ?_
      obtain ⟨q172, h⟩ := g_ib h
      refine xr_sld C E 1052 (x3 + 2).toNatClampNeg rfl dL_law_1052 (ibd_in q172) ?_
      obtain ⟨z173, q174, h⟩ := g_bind h
      refine xr_callV C 1053 (mX7_entry q174) v_X7_entry ml_L_114 (Nat.le_of_ble_eq_true rfl) (Nat.le_of_ble_eq_true rfl) (xrecv C rfl rfl) rfl rfl (Nat.le_of_ble_eq_true rfl) rfl dL_law_1053 ?_
      refine xr_aload_n C 1056 rfl dL_law_1056 ?_
      refine xr_aload_n C 1057 rfl dL_law_1057 ?_
      refine xr_iload_n C 1058 rfl dL_law_1058 ?_
      refine xr_iconst C 1059 1 (by decide +kernel) dL_law_1059 ?_
      refine xr_iadd C 1060 dL_law_1060 ?_
      refine xr_sld C E 1061 (x3 + 1).toNatClampNeg rfl dL_law_1061 (ibd_in q171) ?_
      refine xr_aload_n C 1062 rfl dL_law_1062 ?_
      refine xr_iload_n C 1063 rfl dL_law_1063 ?_
      refine xr_iconst C 1064 2 (by decide +kernel) dL_law_1064 ?_
      refine xr_iadd C 1065 dL_law_1065 ?_
      refine xr_sld C E 1066 (x3 + 2).toNatClampNeg rfl dL_law_1066 (ibd_in q172) ?_
      obtain ⟨z175, q176, h⟩ := g_bind h
      refine xr_callV C 1067 (mX8_entry q176) v_X8_entry ml_L_117 (Nat.le_of_ble_eq_true rfl) (Nat.le_of_ble_eq_true rfl) (xrecv C rfl rfl) rfl rfl (Nat.le_of_ble_eq_true rfl) rfl dL_law_1067 ?_
      refine xr_icmp_eq C 1070 1640 dL_law_1070 rfl (fun q => ?_) (fun q => ?_)
      · have h := g_it h q
        exact xG.sub (bLaw_1640 C hL E hK18 h) ⟨rfl, rfl, rfl, rfl, trivial⟩
      · have h := g_if h q
        refine xr_iconst C 1073 0 (by decide +kernel) dL_law_1073 ?_
        exact absurd (Option.some.inj h) (by decide +kernel)
    have h := g_if h q177
    by_cases q183 : ((xS x3.toNatClampNeg) &&& 63) = 25
    · have h := g_it h q183
      refine xr_tabIn (off := 1042) C 33 1075 25 q183 dL_law_33 (by decide +kernel) (by decide +kernel) (by decide +kernel) rfl ?_
      refine xr_aload_n C 1075 rfl dL_law_1075 ?_
      refine xr_aload_n C 1076 rfl dL_law_1076 ?_
      refine xr_iload_n C 1077 rfl dL_law_1077 ?_
      refine xr_iconst C 1078 1 (by decide +kernel) dL_law_1078 ?_
      refine xr_iadd C 1079 dL_law_1079 ?_
      obtain ⟨q178, h⟩ := g_ib h
      refine xr_sld C E 1080 (x3 + 1).toNatClampNeg rfl dL_law_1080 (ibd_in q178) ?_
      obtain ⟨z179, q180, h⟩ := g_bind h
      refine xr_callV C 1081 (mX7_order q180) v_X7_order ml_L_118 (Nat.le_of_ble_eq_true rfl) (Nat.le_of_ble_eq_true rfl) (xrecv C rfl rfl) rfl rfl (Nat.le_of_ble_eq_true rfl) rfl dL_law_1081 ?_
      refine xr_aload_n C 1084 rfl dL_law_1084 ?_
      refine xr_aload_n C 1085 rfl dL_law_1085 ?_
      refine xr_iload_n C 1086 rfl dL_law_1086 ?_
      refine xr_iconst C 1087 1 (by decide +kernel) dL_law_1087 ?_
      refine xr_iadd C 1088 dL_law_1088 ?_
      refine xr_sld C E 1089 (x3 + 1).toNatClampNeg rfl dL_law_1089 (ibd_in q178) ?_
      obtain ⟨z181, q182, h⟩ := g_bind h
      refine xr_callV C 1090 (mX8_order q182) v_X8_order ml_L_121 (Nat.le_of_ble_eq_true rfl) (Nat.le_of_ble_eq_true rfl) (xrecv C rfl rfl) rfl rfl (Nat.le_of_ble_eq_true rfl) rfl dL_law_1090 ?_
      refine xr_icmp_eq C 1093 1640 dL_law_1093 rfl (fun q => ?_) (fun q => ?_)
      · have h := g_it h q
        exact xG.sub (bLaw_1640 C hL E hK18 h) ⟨rfl, rfl, rfl, rfl, trivial⟩
      · have h := g_if h q
        refine xr_iconst C 1096 0 (by decide +kernel) dL_law_1096 ?_
        exact absurd (Option.some.inj h) (by decide +kernel)
    have h := g_if h q183
    by_cases q190 : ((xS x3.toNatClampNeg) &&& 63) = 26
    · have h := g_it h q190
      refine xr_tabIn (off := 1065) C 33 1098 26 q190 dL_law_33 (by decide +kernel) (by decide +kernel) (by decide +kernel) rfl ?_
      refine xr_aload_n C 1098 rfl dL_law_1098 ?_
      refine xr_aload_n C 1099 rfl dL_law_1099 ?_
      refine xr_iload_n C 1100 rfl dL_law_1100 ?_
      refine xr_iconst C 1101 1 (by decide +kernel) dL_law_1101 ?_
      refine xr_iadd C 1102 dL_law_1102 ?_
      obtain ⟨q184, h⟩ := g_ib h
      refine xr_sld C E 1103 (x3 + 1).toNatClampNeg rfl dL_law_1103 (ibd_in q184) ?_
      refine xr_aload_n C 1104 rfl dL_law_1104 ?_
      refine xr_iload_n C 1105 rfl dL_law_1105 ?_
      refine xr_iconst C 1106 2 (by decide +kernel) dL_law_1106 ?_
      refine xr_iadd C 1107 dL_law_1107 ?_
      obtain ⟨q185, h⟩ := g_ib h
      refine xr_sld C E 1108 (x3 + 2).toNatClampNeg rfl dL_law_1108 (ibd_in q185) ?_
      obtain ⟨z186, q187, h⟩ := g_bind h
      refine xr_callV C 1109 (mX7_waits q187) v_X7_waits ml_L_122 (Nat.le_of_ble_eq_true rfl) (Nat.le_of_ble_eq_true rfl) (xrecv C rfl rfl) rfl rfl (Nat.le_of_ble_eq_true rfl) rfl dL_law_1109 ?_
      refine xr_aload_n C 1112 rfl dL_law_1112 ?_
      refine xr_aload_n C 1113 rfl dL_law_1113 ?_
      refine xr_iload_n C 1114 rfl dL_law_1114 ?_
      refine xr_iconst C 1115 1 (by decide +kernel) dL_law_1115 ?_
      refine xr_iadd C 1116 dL_law_1116 ?_
      refine xr_sld C E 1117 (x3 + 1).toNatClampNeg rfl dL_law_1117 (ibd_in q184) ?_
      refine xr_aload_n C 1118 rfl dL_law_1118 ?_
      refine xr_iload_n C 1119 rfl dL_law_1119 ?_
      refine xr_iconst C 1120 2 (by decide +kernel) dL_law_1120 ?_
      refine xr_iadd C 1121 dL_law_1121 ?_
      refine xr_sld C E 1122 (x3 + 2).toNatClampNeg rfl dL_law_1122 (ibd_in q185) ?_
      obtain ⟨z188, q189, h⟩ := g_bind h
      refine xr_callV C 1123 (mX8_waits q189) v_X8_waits ml_L_125 (Nat.le_of_ble_eq_true rfl) (Nat.le_of_ble_eq_true rfl) (xrecv C rfl rfl) rfl rfl (Nat.le_of_ble_eq_true rfl) rfl dL_law_1123 ?_
      refine xr_icmp_eq C 1126 1640 dL_law_1126 rfl (fun q => ?_) (fun q => ?_)
      · have h := g_it h q
        exact xG.sub (bLaw_1640 C hL E hK18 h) ⟨rfl, rfl, rfl, rfl, trivial⟩
      · have h := g_if h q
        refine xr_iconst C 1129 0 (by decide +kernel) dL_law_1129 ?_
        exact absurd (Option.some.inj h) (by decide +kernel)
    have h := g_if h q190
    by_cases q196 : ((xS x3.toNatClampNeg) &&& 63) = 27
    · have h := g_it h q196
      refine xr_tabIn (off := 1098) C 33 1131 27 q196 dL_law_33 (by decide +kernel) (by decide +kernel) (by decide +kernel) rfl ?_
      refine xr_aload_n C 1131 rfl dL_law_1131 ?_
      refine xr_aload_n C 1132 rfl dL_law_1132 ?_
      refine xr_iload_n C 1133 rfl dL_law_1133 ?_
      refine xr_iconst C 1134 1 (by decide +kernel) dL_law_1134 ?_
      refine xr_iadd C 1135 dL_law_1135 ?_
      obtain ⟨q191, h⟩ := g_ib h
      refine xr_sld C E 1136 (x3 + 1).toNatClampNeg rfl dL_law_1136 (ibd_in q191) ?_
      obtain ⟨z192, q193, h⟩ := g_bind h
      refine xr_callV C 1137 (mX7_fast q193) v_X7_fast ml_L_126 (Nat.le_of_ble_eq_true rfl) (Nat.le_of_ble_eq_true rfl) (xrecv C rfl rfl) rfl rfl (Nat.le_of_ble_eq_true rfl) rfl dL_law_1137 ?_
      refine xr_aload_n C 1140 rfl dL_law_1140 ?_
      refine xr_aload_n C 1141 rfl dL_law_1141 ?_
      refine xr_iload_n C 1142 rfl dL_law_1142 ?_
      refine xr_iconst C 1143 1 (by decide +kernel) dL_law_1143 ?_
      refine xr_iadd C 1144 dL_law_1144 ?_
      refine xr_sld C E 1145 (x3 + 1).toNatClampNeg rfl dL_law_1145 (ibd_in q191) ?_
      obtain ⟨z194, q195, h⟩ := g_bind h
      refine xr_callV C 1146 (mX8_fast q195) v_X8_fast ml_L_129 (Nat.le_of_ble_eq_true rfl) (Nat.le_of_ble_eq_true rfl) (xrecv C rfl rfl) rfl rfl (Nat.le_of_ble_eq_true rfl) rfl dL_law_1146 ?_
      refine xr_icmp_eq C 1149 1640 dL_law_1149 rfl (fun q => ?_) (fun q => ?_)
      · have h := g_it h q
        exact xG.sub (bLaw_1640 C hL E hK18 h) ⟨rfl, rfl, rfl, rfl, trivial⟩
      · have h := g_if h q
        refine xr_iconst C 1152 0 (by decide +kernel) dL_law_1152 ?_
        exact absurd (Option.some.inj h) (by decide +kernel)
    have h := g_if h q196
    by_cases q203 : ((xS x3.toNatClampNeg) &&& 63) = 28
    · have h := g_it h q203
      refine xr_tabIn (off := 1121) C 33 1154 28 q203 dL_law_33 (by decide +kernel) (by decide +kernel) (by decide +kernel) rfl ?_
      refine xr_aload_n C 1154 rfl dL_law_1154 ?_
      refine xr_aload_n C 1155 rfl dL_law_1155 ?_
      refine xr_iload_n C 1156 rfl dL_law_1156 ?_
      refine xr_iconst C 1157 1 (by decide +kernel) dL_law_1157 ?_
      refine xr_iadd C 1158 dL_law_1158 ?_
      obtain ⟨q197, h⟩ := g_ib h
      refine xr_sld C E 1159 (x3 + 1).toNatClampNeg rfl dL_law_1159 (ibd_in q197) ?_
      refine xr_aload_n C 1160 rfl dL_law_1160 ?_
      refine xr_iload_n C 1161 rfl dL_law_1161 ?_
      refine xr_iconst C 1162 2 (by decide +kernel) dL_law_1162 ?_
      refine xr_iadd C 1163 dL_law_1163 ?_
      obtain ⟨q198, h⟩ := g_ib h
      refine xr_sld C E 1164 (x3 + 2).toNatClampNeg rfl dL_law_1164 (ibd_in q198) ?_
      obtain ⟨z199, q200, h⟩ := g_bind h
      refine xr_callV C 1165 (mX7_off q200) v_X7_off ml_L_130 (Nat.le_of_ble_eq_true rfl) (Nat.le_of_ble_eq_true rfl) (xrecv C rfl rfl) rfl rfl (Nat.le_of_ble_eq_true rfl) rfl dL_law_1165 ?_
      refine xr_aload_n C 1168 rfl dL_law_1168 ?_
      refine xr_aload_n C 1169 rfl dL_law_1169 ?_
      refine xr_iload_n C 1170 rfl dL_law_1170 ?_
      refine xr_iconst C 1171 1 (by decide +kernel) dL_law_1171 ?_
      refine xr_iadd C 1172 dL_law_1172 ?_
      refine xr_sld C E 1173 (x3 + 1).toNatClampNeg rfl dL_law_1173 (ibd_in q197) ?_
      refine xr_aload_n C 1174 rfl dL_law_1174 ?_
      refine xr_iload_n C 1175 rfl dL_law_1175 ?_
      refine xr_iconst C 1176 2 (by decide +kernel) dL_law_1176 ?_
      refine xr_iadd C 1177 dL_law_1177 ?_
      refine xr_sld C E 1178 (x3 + 2).toNatClampNeg rfl dL_law_1178 (ibd_in q198) ?_
      obtain ⟨z201, q202, h⟩ := g_bind h
      refine xr_callV C 1179 (mX8_off q202) v_X8_off ml_L_133 (Nat.le_of_ble_eq_true rfl) (Nat.le_of_ble_eq_true rfl) (xrecv C rfl rfl) rfl rfl (Nat.le_of_ble_eq_true rfl) rfl dL_law_1179 ?_
      refine xr_icmp_eq C 1182 1640 dL_law_1182 rfl (fun q => ?_) (fun q => ?_)
      · have h := g_it h q
        exact xG.sub (bLaw_1640 C hL E hK18 h) ⟨rfl, rfl, rfl, rfl, trivial⟩
      · have h := g_if h q
        refine xr_iconst C 1185 0 (by decide +kernel) dL_law_1185 ?_
        exact absurd (Option.some.inj h) (by decide +kernel)
    have h := g_if h q203
    by_cases q210 : ((xS x3.toNatClampNeg) &&& 63) = 29
    · have h := g_it h q210
      refine xr_tabIn (off := 1154) C 33 1187 29 q210 dL_law_33 (by decide +kernel) (by decide +kernel) (by decide +kernel) rfl ?_
      refine xr_aload_n C 1187 rfl dL_law_1187 ?_
      refine xr_aload_n C 1188 rfl dL_law_1188 ?_
      refine xr_iload_n C 1189 rfl dL_law_1189 ?_
      refine xr_iconst C 1190 1 (by decide +kernel) dL_law_1190 ?_
      refine xr_iadd C 1191 dL_law_1191 ?_
      obtain ⟨q204, h⟩ := g_ib h
      refine xr_sld C E 1192 (x3 + 1).toNatClampNeg rfl dL_law_1192 (ibd_in q204) ?_
      refine xr_aload_n C 1193 rfl dL_law_1193 ?_
      refine xr_iload_n C 1194 rfl dL_law_1194 ?_
      refine xr_iconst C 1195 2 (by decide +kernel) dL_law_1195 ?_
      refine xr_iadd C 1196 dL_law_1196 ?_
      obtain ⟨q205, h⟩ := g_ib h
      refine xr_sld C E 1197 (x3 + 2).toNatClampNeg rfl dL_law_1197 (ibd_in q205) ?_
      obtain ⟨z206, q207, h⟩ := g_bind h
      refine xr_callV C 1198 (mX7_feed q207) v_X7_feed ml_L_134 (Nat.le_of_ble_eq_true rfl) (Nat.le_of_ble_eq_true rfl) (xrecv C rfl rfl) rfl rfl (Nat.le_of_ble_eq_true rfl) rfl dL_law_1198 ?_
      refine xr_aload_n C 1201 rfl dL_law_1201 ?_
      refine xr_aload_n C 1202 rfl dL_law_1202 ?_
      refine xr_iload_n C 1203 rfl dL_law_1203 ?_
      refine xr_iconst C 1204 1 (by decide +kernel) dL_law_1204 ?_
      refine xr_iadd C 1205 dL_law_1205 ?_
      refine xr_sld C E 1206 (x3 + 1).toNatClampNeg rfl dL_law_1206 (ibd_in q204) ?_
      refine xr_aload_n C 1207 rfl dL_law_1207 ?_
      refine xr_iload_n C 1208 rfl dL_law_1208 ?_
      refine xr_iconst C 1209 2 (by decide +kernel) dL_law_1209 ?_
      refine xr_iadd C 1210 dL_law_1210 ?_
      refine xr_sld C E 1211 (x3 + 2).toNatClampNeg rfl dL_law_1211 (ibd_in q205) ?_
      obtain ⟨z208, q209, h⟩ := g_bind h
      refine xr_callV C 1212 (mX8_feed q209) v_X8_feed ml_L_137 (Nat.le_of_ble_eq_true rfl) (Nat.le_of_ble_eq_true rfl) (xrecv C rfl rfl) rfl rfl (Nat.le_of_ble_eq_true rfl) rfl dL_law_1212 ?_
      refine xr_icmp_eq C 1215 1640 dL_law_1215 rfl (fun q => ?_) (fun q => ?_)
      · have h := g_it h q
        exact xG.sub (bLaw_1640 C hL E hK18 h) ⟨rfl, rfl, rfl, rfl, trivial⟩
      · have h := g_if h q
        refine xr_iconst C 1218 0 (by decide +kernel) dL_law_1218 ?_
        exact absurd (Option.some.inj h) (by decide +kernel)
    have h := g_if h q210
    by_cases q211 : ((xS x3.toNatClampNeg) &&& 63) = 30
    · have h := g_it h q211
      refine xr_tabIn (off := 1187) C 33 1220 30 q211 dL_law_33 (by decide +kernel) (by decide +kernel) (by decide +kernel) rfl ?_
      refine xr_aload_n C 1220 rfl dL_law_1220 ?_
      refine xr_callV C 1221 (mX7_wipe rfl) v_X7_wipe ml_L_138 (Nat.le_of_ble_eq_true rfl) (Nat.le_of_ble_eq_true rfl) (xrecv C rfl rfl) rfl rfl (Nat.le_of_ble_eq_true rfl) rfl dL_law_1221 ?_
      refine xr_aload_n C 1224 rfl dL_law_1224 ?_
      refine xr_callV C 1225 (mX8_wipe rfl) v_X8_wipe ml_L_141 (Nat.le_of_ble_eq_true rfl) (Nat.le_of_ble_eq_true rfl) (xrecv C rfl rfl) rfl rfl (Nat.le_of_ble_eq_true rfl) rfl dL_law_1225 ?_
      refine xr_icmp_eq C 1228 1640 dL_law_1228 rfl (fun q => ?_) (fun q => ?_)
      · have h := g_it h q
        exact xG.sub (bLaw_1640 C hL E hK18 h) ⟨rfl, rfl, rfl, rfl, trivial⟩
      · have h := g_if h q
        refine xr_iconst C 1231 0 (by decide +kernel) dL_law_1231 ?_
        exact absurd (Option.some.inj h) (by decide +kernel)
    have h := g_if h q211
    by_cases q216 : ((xS x3.toNatClampNeg) &&& 63) = 31
    · have h := g_it h q216
      refine xr_tabIn (off := 1200) C 33 1233 31 q216 dL_law_33 (by decide +kernel) (by decide +kernel) (by decide +kernel) rfl ?_
      refine xr_aload_n C 1233 rfl dL_law_1233 ?_
      obtain ⟨z212, q213, h⟩ := g_bind h
      refine xr_callV C 1234 (mX7_island q213) v_X7_island ml_L_142 (Nat.le_of_ble_eq_true rfl) (Nat.le_of_ble_eq_true rfl) (xrecv C rfl rfl) rfl rfl (Nat.le_of_ble_eq_true rfl) rfl dL_law_1234 ?_
      refine xr_aload_n C 1237 rfl dL_law_1237 ?_
      obtain ⟨z214, q215, h⟩ := g_bind h
      refine xr_callV C 1238 (mX8_island q215) v_X8_island ml_L_145 (Nat.le_of_ble_eq_true rfl) (Nat.le_of_ble_eq_true rfl) (xrecv C rfl rfl) rfl rfl (Nat.le_of_ble_eq_true rfl) rfl dL_law_1238 ?_
      refine xr_icmp_eq C 1241 1640 dL_law_1241 rfl (fun q => ?_) (fun q => ?_)
      · have h := g_it h q
        exact xG.sub (bLaw_1640 C hL E hK18 h) ⟨rfl, rfl, rfl, rfl, trivial⟩
      · have h := g_if h q
        refine xr_iconst C 1244 0 (by decide +kernel) dL_law_1244 ?_
        exact absurd (Option.some.inj h) (by decide +kernel)
    have h := g_if h q216
    by_cases q224 : ((xS x3.toNatClampNeg) &&& 63) = 32
    · have h := g_it h q224
      refine xr_tabIn (off := 1213) C 33 1246 32 q224 dL_law_33 (by decide +kernel) (by decide +kernel) (by decide +kernel) rfl ?_
      refine xr_aload_n C 1246 rfl dL_law_1246 ?_
      refine xr_aload_n C 1247 rfl dL_law_1247 ?_
      refine xr_iload_n C 1248 rfl dL_law_1248 ?_
      refine xr_iconst C 1249 1 (by decide +kernel) dL_law_1249 ?_
      refine xr_iadd C 1250 dL_law_1250 ?_
      obtain ⟨q217, h⟩ := g_ib h
      refine xr_sld C E 1251 (x3 + 1).toNatClampNeg rfl dL_law_1251 (ibd_in q217) ?_
      refine xr_aload_n C 1252 rfl dL_law_1252 ?_
      refine xr_iload_n C 1253 rfl dL_law_1253 ?_
      refine xr_iconst C 1254 2 (by decide +kernel) dL_law_1254 ?_
      refine xr_iadd C 1255 dL_law_1255 ?_
      obtain ⟨q218, h⟩ := g_ib h
      refine xr_sld C E 1256 (x3 + 2).toNatClampNeg rfl dL_law_1256 (ibd_in q218) ?_
      refine xr_aload_n C 1257 rfl dL_law_1257 ?_
      refine xr_iload_n C 1258 rfl dL_law_1258 ?_
      refine xr_iconst C 1259 3 (by decide +kernel) dL_law_1259 ?_
      refine xr_iadd C 1260 dL_law_1260 ?_
      obtain ⟨q219, h⟩ := g_ib h
      refine xr_sld C E 1261 (x3 + 3).toNatClampNeg rfl dL_law_1261 (ibd_in q219) ?_
      obtain ⟨z220, q221, h⟩ := g_bind h
      refine xr_callV C 1262 (mX7_sheet q221) v_X7_sheet ml_L_146 (Nat.le_of_ble_eq_true rfl) (Nat.le_of_ble_eq_true rfl) (xrecv C rfl rfl) rfl rfl (Nat.le_of_ble_eq_true rfl) rfl dL_law_1262 ?_
      refine xr_aload_n C 1265 rfl dL_law_1265 ?_
      refine xr_aload_n C 1266 rfl dL_law_1266 ?_
      refine xr_iload_n C 1267 rfl dL_law_1267 ?_
      refine xr_iconst C 1268 1 (by decide +kernel) dL_law_1268 ?_
      refine xr_iadd C 1269 dL_law_1269 ?_
      refine xr_sld C E 1270 (x3 + 1).toNatClampNeg rfl dL_law_1270 (ibd_in q217) ?_
      refine xr_aload_n C 1271 rfl dL_law_1271 ?_
      refine xr_iload_n C 1272 rfl dL_law_1272 ?_
      refine xr_iconst C 1273 2 (by decide +kernel) dL_law_1273 ?_
      refine xr_iadd C 1274 dL_law_1274 ?_
      refine xr_sld C E 1275 (x3 + 2).toNatClampNeg rfl dL_law_1275 (ibd_in q218) ?_
      refine xr_aload_n C 1276 rfl dL_law_1276 ?_
      refine xr_iload_n C 1277 rfl dL_law_1277 ?_
      refine xr_iconst C 1278 3 (by decide +kernel) dL_law_1278 ?_
      refine xr_iadd C 1279 dL_law_1279 ?_
      refine xr_sld C E 1280 (x3 + 3).toNatClampNeg rfl dL_law_1280 (ibd_in q219) ?_
      obtain ⟨z222, q223, h⟩ := g_bind h
      refine xr_callV C 1281 (mX8_sheet q223) v_X8_sheet ml_L_149 (Nat.le_of_ble_eq_true rfl) (Nat.le_of_ble_eq_true rfl) (xrecv C rfl rfl) rfl rfl (Nat.le_of_ble_eq_true rfl) rfl dL_law_1281 ?_
      refine xr_icmp_eq C 1284 1640 dL_law_1284 rfl (fun q => ?_) (fun q => ?_)
      · have h := g_it h q
        exact xG.sub (bLaw_1640 C hL E hK18 h) ⟨rfl, rfl, rfl, rfl, trivial⟩
      · have h := g_if h q
        refine xr_iconst C 1287 0 (by decide +kernel) dL_law_1287 ?_
        exact absurd (Option.some.inj h) (by decide +kernel)
    have h := g_if h q224
    by_cases q233 : ((xS x3.toNatClampNeg) &&& 63) = 33
    · have h := g_it h q233
      refine xr_tabIn (off := 1256) C 33 1289 33 q233 dL_law_33 (by decide +kernel) (by decide +kernel) (by decide +kernel) rfl ?_
      refine xr_aload_n C 1289 rfl dL_law_1289 ?_
      refine xr_aload_n C 1290 rfl dL_law_1290 ?_
      refine xr_iload_n C 1291 rfl dL_law_1291 ?_
      refine xr_iconst C 1292 1 (by decide +kernel) dL_law_1292 ?_
      refine xr_iadd C 1293 dL_law_1293 ?_
      obtain ⟨q225, h⟩ := g_ib h
      refine xr_sld C E 1294 (x3 + 1).toNatClampNeg rfl dL_law_1294 (ibd_in q225) ?_
      refine xr_aload_n C 1295 rfl dL_law_1295 ?_
      refine xr_iload_n C 1296 rfl dL_law_1296 ?_
      refine xr_iconst C 1297 2 (by decide +kernel) dL_law_1297 ?_
      refine xr_iadd C 1298 dL_law_1298 ?_
      obtain ⟨q226, h⟩ := g_ib h
      refine xr_sld C E 1299 (x3 + 2).toNatClampNeg rfl dL_law_1299 (ibd_in q226) ?_
      refine xr_aload_n C 1300 rfl dL_law_1300 ?_
      refine xr_iload_n C 1301 rfl dL_law_1301 ?_
      refine xr_iconst C 1302 3 (by decide +kernel) dL_law_1302 ?_
      refine xr_iadd C 1303 dL_law_1303 ?_
      obtain ⟨q227, h⟩ := g_ib h
      refine xr_sld C E 1304 (x3 + 3).toNatClampNeg rfl dL_law_1304 (ibd_in q227) ?_
      refine xr_i2l C 1305 dL_law_1305 ?_
      refine xr_bipush C 1306 32 (by decide +kernel) dL_law_1306 ?_
      refine xr_lshl C 1308 dL_law_1308 ?_
      refine xr_aload_n C 1309 rfl dL_law_1309 ?_
      refine xr_iload_n C 1310 rfl dL_law_1310 ?_
      refine xr_iconst C 1311 4 (by decide +kernel) dL_law_1311 ?_
      refine xr_iadd C 1312 dL_law_1312 ?_
      obtain ⟨q228, h⟩ := g_ib h
      refine xr_sld C E 1313 (x3 + 4).toNatClampNeg rfl dL_law_1313 (ibd_in q228) ?_
      refine xr_i2l C 1314 dL_law_1314 ?_
      refine xr_ldc2 C 1315 k_L_150 dL_law_1315 ?_
      refine xr_land C 1318 dL_law_1318 ?_
      refine xr_lor C 1319 dL_law_1319 ?_
      obtain ⟨z229, q230, h⟩ := g_bind h
      refine xr_callV C 1320 (mX7_write q230) v_X7_write ml_L_152 (Nat.le_of_ble_eq_true rfl) (Nat.le_of_ble_eq_true rfl) (xrecv C rfl rfl) rfl rfl (Nat.le_of_ble_eq_true rfl) rfl dL_law_1320 ?_
      refine xr_aload_n C 1323 rfl dL_law_1323 ?_
      refine xr_aload_n C 1324 rfl dL_law_1324 ?_
      refine xr_iload_n C 1325 rfl dL_law_1325 ?_
      refine xr_iconst C 1326 1 (by decide +kernel) dL_law_1326 ?_
      refine xr_iadd C 1327 dL_law_1327 ?_
      refine xr_sld C E 1328 (x3 + 1).toNatClampNeg rfl dL_law_1328 (ibd_in q225) ?_
      refine xr_aload_n C 1329 rfl dL_law_1329 ?_
      refine xr_iload_n C 1330 rfl dL_law_1330 ?_
      refine xr_iconst C 1331 2 (by decide +kernel) dL_law_1331 ?_
      refine xr_iadd C 1332 dL_law_1332 ?_
      refine xr_sld C E 1333 (x3 + 2).toNatClampNeg rfl dL_law_1333 (ibd_in q226) ?_
      refine xr_aload_n C 1334 rfl dL_law_1334 ?_
      refine xr_iload_n C 1335 rfl dL_law_1335 ?_
      refine xr_iconst C 1336 3 (by decide +kernel) dL_law_1336 ?_
      refine xr_iadd C 1337 dL_law_1337 ?_
      refine xr_sld C E 1338 (x3 + 3).toNatClampNeg rfl dL_law_1338 (ibd_in q227) ?_
      refine xr_i2l C 1339 dL_law_1339 ?_
      refine xr_bipush C 1340 32 (by decide +kernel) dL_law_1340 ?_
      refine xr_lshl C 1342 dL_law_1342 ?_
      refine xr_aload_n C 1343 rfl dL_law_1343 ?_
      refine xr_iload_n C 1344 rfl dL_law_1344 ?_
      refine xr_iconst C 1345 4 (by decide +kernel) dL_law_1345 ?_
      refine xr_iadd C 1346 dL_law_1346 ?_
      refine xr_sld C E 1347 (x3 + 4).toNatClampNeg rfl dL_law_1347 (ibd_in q228) ?_
      refine xr_i2l C 1348 dL_law_1348 ?_
      refine xr_ldc2 C 1349 k_L_150 dL_law_1349 ?_
      refine xr_land C 1352 dL_law_1352 ?_
      refine xr_lor C 1353 dL_law_1353 ?_
      obtain ⟨z231, q232, h⟩ := g_bind h
      refine xr_callV C 1354 (mX8_write q232) v_X8_write ml_L_156 (Nat.le_of_ble_eq_true rfl) (Nat.le_of_ble_eq_true rfl) (xrecv C rfl rfl) rfl rfl (Nat.le_of_ble_eq_true rfl) rfl dL_law_1354 ?_
      refine xr_lcmp C 1357 dL_law_1357 ?_
      refine xr_if_eq C 1358 1640 dL_law_1358 rfl (fun q => ?_) (fun q => ?_)
      · have h := g_it h q
        exact xG.sub (bLaw_1640 C hL E hK18 h) ⟨rfl, rfl, rfl, rfl, trivial⟩
      · have h := g_if h q
        refine xr_iconst C 1361 0 (by decide +kernel) dL_law_1361 ?_
        exact absurd (Option.some.inj h) (by decide +kernel)
    have h := g_if h q233
    by_cases q243 : ((xS x3.toNatClampNeg) &&& 63) = 34
    · have h := g_it h q243
      refine xr_tabIn (off := 1330) C 33 1363 34 q243 dL_law_33 (by decide +kernel) (by decide +kernel) (by decide +kernel) rfl ?_
      refine xr_aload_n C 1363 rfl dL_law_1363 ?_
      refine xr_aload_n C 1364 rfl dL_law_1364 ?_
      refine xr_iload_n C 1365 rfl dL_law_1365 ?_
      refine xr_iconst C 1366 1 (by decide +kernel) dL_law_1366 ?_
      refine xr_iadd C 1367 dL_law_1367 ?_
      obtain ⟨q234, h⟩ := g_ib h
      refine xr_sld C E 1368 (x3 + 1).toNatClampNeg rfl dL_law_1368 (ibd_in q234) ?_
      refine xr_aload_n C 1369 rfl dL_law_1369 ?_
      refine xr_iload_n C 1370 rfl dL_law_1370 ?_
      refine xr_iconst C 1371 2 (by decide +kernel) dL_law_1371 ?_
      refine xr_iadd C 1372 dL_law_1372 ?_
      obtain ⟨q235, h⟩ := g_ib h
      refine xr_sld C E 1373 (x3 + 2).toNatClampNeg rfl dL_law_1373 (ibd_in q235) ?_
      refine xr_aload_n C 1374 rfl dL_law_1374 ?_
      refine xr_iload_n C 1375 rfl dL_law_1375 ?_
      refine xr_iconst C 1376 3 (by decide +kernel) dL_law_1376 ?_
      refine xr_iadd C 1377 dL_law_1377 ?_
      obtain ⟨q236, h⟩ := g_ib h
      refine xr_sld C E 1378 (x3 + 3).toNatClampNeg rfl dL_law_1378 (ibd_in q236) ?_
      refine xr_aload_n C 1379 rfl dL_law_1379 ?_
      refine xr_iload_n C 1380 rfl dL_law_1380 ?_
      refine xr_iconst C 1381 4 (by decide +kernel) dL_law_1381 ?_
      refine xr_iadd C 1382 dL_law_1382 ?_
      obtain ⟨q237, h⟩ := g_ib h
      refine xr_sld C E 1383 (x3 + 4).toNatClampNeg rfl dL_law_1383 (ibd_in q237) ?_
      refine xr_aload_n C 1384 rfl dL_law_1384 ?_
      refine xr_iload_n C 1385 rfl dL_law_1385 ?_
      refine xr_iconst C 1386 5 (by decide +kernel) dL_law_1386 ?_
      refine xr_iadd C 1387 dL_law_1387 ?_
      obtain ⟨q238, h⟩ := g_ib h
      refine xr_sld C E 1388 (x3 + 5).toNatClampNeg rfl dL_law_1388 (ibd_in q238) ?_
      obtain ⟨z239, q240, h⟩ := g_bind h
      refine xr_callV C 1389 (mX7_copy q240) v_X7_copy ml_L_157 (Nat.le_of_ble_eq_true rfl) (Nat.le_of_ble_eq_true rfl) (xrecv C rfl rfl) rfl rfl (Nat.le_of_ble_eq_true rfl) rfl dL_law_1389 ?_
      refine xr_aload_n C 1392 rfl dL_law_1392 ?_
      refine xr_aload_n C 1393 rfl dL_law_1393 ?_
      refine xr_iload_n C 1394 rfl dL_law_1394 ?_
      refine xr_iconst C 1395 1 (by decide +kernel) dL_law_1395 ?_
      refine xr_iadd C 1396 dL_law_1396 ?_
      refine xr_sld C E 1397 (x3 + 1).toNatClampNeg rfl dL_law_1397 (ibd_in q234) ?_
      refine xr_aload_n C 1398 rfl dL_law_1398 ?_
      refine xr_iload_n C 1399 rfl dL_law_1399 ?_
      refine xr_iconst C 1400 2 (by decide +kernel) dL_law_1400 ?_
      refine xr_iadd C 1401 dL_law_1401 ?_
      refine xr_sld C E 1402 (x3 + 2).toNatClampNeg rfl dL_law_1402 (ibd_in q235) ?_
      refine xr_aload_n C 1403 rfl dL_law_1403 ?_
      refine xr_iload_n C 1404 rfl dL_law_1404 ?_
      refine xr_iconst C 1405 3 (by decide +kernel) dL_law_1405 ?_
      refine xr_iadd C 1406 dL_law_1406 ?_
      refine xr_sld C E 1407 (x3 + 3).toNatClampNeg rfl dL_law_1407 (ibd_in q236) ?_
      refine xr_aload_n C 1408 rfl dL_law_1408 ?_
      refine xr_iload_n C 1409 rfl dL_law_1409 ?_
      refine xr_iconst C 1410 4 (by decide +kernel) dL_law_1410 ?_
      refine xr_iadd C 1411 dL_law_1411 ?_
      refine xr_sld C E 1412 (x3 + 4).toNatClampNeg rfl dL_law_1412 (ibd_in q237) ?_
      refine xr_aload_n C 1413 rfl dL_law_1413 ?_
      refine xr_iload_n C 1414 rfl dL_law_1414 ?_
      refine xr_iconst C 1415 5 (by decide +kernel) dL_law_1415 ?_
      refine xr_iadd C 1416 dL_law_1416 ?_
      refine xr_sld C E 1417 (x3 + 5).toNatClampNeg rfl dL_law_1417 (ibd_in q238) ?_
      obtain ⟨z241, q242, h⟩ := g_bind h
      refine xr_callV C 1418 (mX8_copy q242) v_X8_copy ml_L_161 (Nat.le_of_ble_eq_true rfl) (Nat.le_of_ble_eq_true rfl) (xrecv C rfl rfl) rfl rfl (Nat.le_of_ble_eq_true rfl) rfl dL_law_1418 ?_
      refine xr_icmp_eq C 1421 1640 dL_law_1421 rfl (fun q => ?_) (fun q => ?_)
      · have h := g_it h q
        exact xG.sub (bLaw_1640 C hL E hK18 h) ⟨rfl, rfl, rfl, rfl, trivial⟩
      · have h := g_if h q
        refine xr_iconst C 1424 0 (by decide +kernel) dL_law_1424 ?_
        exact absurd (Option.some.inj h) (by decide +kernel)
    have h := g_if h q243
    by_cases q249 : ((xS x3.toNatClampNeg) &&& 63) = 35
    · have h := g_it h q249
      refine xr_tabIn (off := 1393) C 33 1426 35 q249 dL_law_33 (by decide +kernel) (by decide +kernel) (by decide +kernel) rfl ?_
      refine xr_aload_n C 1426 rfl dL_law_1426 ?_
      refine xr_aload_n C 1427 rfl dL_law_1427 ?_
      refine xr_iload_n C 1428 rfl dL_law_1428 ?_
      refine xr_iconst C 1429 1 (by decide +kernel) dL_law_1429 ?_
      refine xr_iadd C 1430 dL_law_1430 ?_
      obtain ⟨q244, h⟩ := g_ib h
      refine xr_sld C E 1431 (x3 + 1).toNatClampNeg rfl dL_law_1431 (ibd_in q244) ?_
      obtain ⟨z245, q246, h⟩ := g_bind h
      refine xr_callV C 1432 (mX7_lays q246) v_X7_lays ml_L_162 (Nat.le_of_ble_eq_true rfl) (Nat.le_of_ble_eq_true rfl) (xrecv C rfl rfl) rfl rfl (Nat.le_of_ble_eq_true rfl) rfl dL_law_1432 ?_
      refine xr_aload_n C 1435 rfl dL_law_1435 ?_
      refine xr_aload_n C 1436 rfl dL_law_1436 ?_
      refine xr_iload_n C 1437 rfl dL_law_1437 ?_
      refine xr_iconst C 1438 1 (by decide +kernel) dL_law_1438 ?_
      refine xr_iadd C 1439 dL_law_1439 ?_
      refine xr_sld C E 1440 (x3 + 1).toNatClampNeg rfl dL_law_1440 (ibd_in q244) ?_
      obtain ⟨z247, q248, h⟩ := g_bind h
      refine xr_callV C 1441 (mX8_lays q248) v_X8_lays ml_L_165 (Nat.le_of_ble_eq_true rfl) (Nat.le_of_ble_eq_true rfl) (xrecv C rfl rfl) rfl rfl (Nat.le_of_ble_eq_true rfl) rfl dL_law_1441 ?_
      refine xr_icmp_eq C 1444 1640 dL_law_1444 rfl (fun q => ?_) (fun q => ?_)
      · have h := g_it h q
        exact xG.sub (bLaw_1640 C hL E hK18 h) ⟨rfl, rfl, rfl, rfl, trivial⟩
      · have h := g_if h q
        refine xr_iconst C 1447 0 (by decide +kernel) dL_law_1447 ?_
        exact absurd (Option.some.inj h) (by decide +kernel)
    have h := g_if h q249
    by_cases q258 : ((xS x3.toNatClampNeg) &&& 63) = 36
    · have h := g_it h q258
      refine xr_tabIn (off := 1416) C 33 1449 36 q258 dL_law_33 (by decide +kernel) (by decide +kernel) (by decide +kernel) rfl ?_
      refine xr_aload_n C 1449 rfl dL_law_1449 ?_
      refine xr_aload_n C 1450 rfl dL_law_1450 ?_
      refine xr_iload_n C 1451 rfl dL_law_1451 ?_
      refine xr_iconst C 1452 1 (by decide +kernel) dL_law_1452 ?_
      refine xr_iadd C 1453 dL_law_1453 ?_
      obtain ⟨q250, h⟩ := g_ib h
      refine xr_sld C E 1454 (x3 + 1).toNatClampNeg rfl dL_law_1454 (ibd_in q250) ?_
      refine xr_aload_n C 1455 rfl dL_law_1455 ?_
      refine xr_iload_n C 1456 rfl dL_law_1456 ?_
      refine xr_iconst C 1457 2 (by decide +kernel) dL_law_1457 ?_
      refine xr_iadd C 1458 dL_law_1458 ?_
      obtain ⟨q251, h⟩ := g_ib h
      refine xr_sld C E 1459 (x3 + 2).toNatClampNeg rfl dL_law_1459 (ibd_in q251) ?_
      refine xr_aload_n C 1460 rfl dL_law_1460 ?_
      refine xr_iload_n C 1461 rfl dL_law_1461 ?_
      refine xr_iconst C 1462 3 (by decide +kernel) dL_law_1462 ?_
      refine xr_iadd C 1463 dL_law_1463 ?_
      obtain ⟨q252, h⟩ := g_ib h
      refine xr_sld C E 1464 (x3 + 3).toNatClampNeg rfl dL_law_1464 (ibd_in q252) ?_
      refine xr_aload_n C 1465 rfl dL_law_1465 ?_
      refine xr_iload_n C 1466 rfl dL_law_1466 ?_
      refine xr_iconst C 1467 4 (by decide +kernel) dL_law_1467 ?_
      refine xr_iadd C 1468 dL_law_1468 ?_
      obtain ⟨q253, h⟩ := g_ib h
      refine xr_sld C E 1469 (x3 + 4).toNatClampNeg rfl dL_law_1469 (ibd_in q253) ?_
      obtain ⟨z254, q255, h⟩ := g_bind h
      refine xr_callV C 1470 (mX7_calendar q255) v_X7_calendar ml_L_166 (Nat.le_of_ble_eq_true rfl) (Nat.le_of_ble_eq_true rfl) (xrecv C rfl rfl) rfl rfl (Nat.le_of_ble_eq_true rfl) rfl dL_law_1470 ?_
      refine xr_aload_n C 1473 rfl dL_law_1473 ?_
      refine xr_aload_n C 1474 rfl dL_law_1474 ?_
      refine xr_iload_n C 1475 rfl dL_law_1475 ?_
      refine xr_iconst C 1476 1 (by decide +kernel) dL_law_1476 ?_
      refine xr_iadd C 1477 dL_law_1477 ?_
      refine xr_sld C E 1478 (x3 + 1).toNatClampNeg rfl dL_law_1478 (ibd_in q250) ?_
      refine xr_aload_n C 1479 rfl dL_law_1479 ?_
      refine xr_iload_n C 1480 rfl dL_law_1480 ?_
      refine xr_iconst C 1481 2 (by decide +kernel) dL_law_1481 ?_
      refine xr_iadd C 1482 dL_law_1482 ?_
      refine xr_sld C E 1483 (x3 + 2).toNatClampNeg rfl dL_law_1483 (ibd_in q251) ?_
      refine xr_aload_n C 1484 rfl dL_law_1484 ?_
      refine xr_iload_n C 1485 rfl dL_law_1485 ?_
      refine xr_iconst C 1486 3 (by decide +kernel) dL_law_1486 ?_
      refine xr_iadd C 1487 dL_law_1487 ?_
      refine xr_sld C E 1488 (x3 + 3).toNatClampNeg rfl dL_law_1488 (ibd_in q252) ?_
      refine xr_aload_n C 1489 rfl dL_law_1489 ?_
      refine xr_iload_n C 1490 rfl dL_law_1490 ?_
      refine xr_iconst C 1491 4 (by decide +kernel) dL_law_1491 ?_
      refine xr_iadd C 1492 dL_law_1492 ?_
      refine xr_sld C E 1493 (x3 + 4).toNatClampNeg rfl dL_law_1493 (ibd_in q253) ?_
      obtain ⟨z256, q257, h⟩ := g_bind h
      refine xr_callV C 1494 (mX8_calendar q257) v_X8_calendar ml_L_169 (Nat.le_of_ble_eq_true rfl) (Nat.le_of_ble_eq_true rfl) (xrecv C rfl rfl) rfl rfl (Nat.le_of_ble_eq_true rfl) rfl dL_law_1494 ?_
      refine xr_icmp_eq C 1497 1640 dL_law_1497 rfl (fun q => ?_) (fun q => ?_)
      · have h := g_it h q
        exact xG.sub (bLaw_1640 C hL E hK18 h) ⟨rfl, rfl, rfl, rfl, trivial⟩
      · have h := g_if h q
        refine xr_iconst C 1500 0 (by decide +kernel) dL_law_1500 ?_
        exact absurd (Option.some.inj h) (by decide +kernel)
    have h := g_if h q258
    by_cases q267 : ((xS x3.toNatClampNeg) &&& 63) = 37
    · have h := g_it h q267
      refine xr_tabIn (off := 1469) C 33 1502 37 q267 dL_law_33 (by decide +kernel) (by decide +kernel) (by decide +kernel) rfl ?_
      refine xr_aload_n C 1502 rfl dL_law_1502 ?_
      refine xr_aload_n C 1503 rfl dL_law_1503 ?_
      refine xr_iload_n C 1504 rfl dL_law_1504 ?_
      refine xr_iconst C 1505 1 (by decide +kernel) dL_law_1505 ?_
      refine xr_iadd C 1506 dL_law_1506 ?_
      obtain ⟨q259, h⟩ := g_ib h
      refine xr_sld C E 1507 (x3 + 1).toNatClampNeg rfl dL_law_1507 (ibd_in q259) ?_
      refine xr_aload_n C 1508 rfl dL_law_1508 ?_
      refine xr_iload_n C 1509 rfl dL_law_1509 ?_
      refine xr_iconst C 1510 2 (by decide +kernel) dL_law_1510 ?_
      refine xr_iadd C 1511 dL_law_1511 ?_
      obtain ⟨q260, h⟩ := g_ib h
      refine xr_sld C E 1512 (x3 + 2).toNatClampNeg rfl dL_law_1512 (ibd_in q260) ?_
      refine xr_aload_n C 1513 rfl dL_law_1513 ?_
      refine xr_iload_n C 1514 rfl dL_law_1514 ?_
      refine xr_iconst C 1515 3 (by decide +kernel) dL_law_1515 ?_
      refine xr_iadd C 1516 dL_law_1516 ?_
      obtain ⟨q261, h⟩ := g_ib h
      refine xr_sld C E 1517 (x3 + 3).toNatClampNeg rfl dL_law_1517 (ibd_in q261) ?_
      refine xr_aload_n C 1518 rfl dL_law_1518 ?_
      refine xr_iload_n C 1519 rfl dL_law_1519 ?_
      refine xr_iconst C 1520 4 (by decide +kernel) dL_law_1520 ?_
      refine xr_iadd C 1521 dL_law_1521 ?_
      obtain ⟨q262, h⟩ := g_ib h
      refine xr_sld C E 1522 (x3 + 4).toNatClampNeg rfl dL_law_1522 (ibd_in q262) ?_
      obtain ⟨z263, q264, h⟩ := g_bind h
      refine xr_callV C 1523 (mX7_read q264) v_X7_read ml_L_170 (Nat.le_of_ble_eq_true rfl) (Nat.le_of_ble_eq_true rfl) (xrecv C rfl rfl) rfl rfl (Nat.le_of_ble_eq_true rfl) rfl dL_law_1523 ?_
      refine xr_aload_n C 1526 rfl dL_law_1526 ?_
      refine xr_aload_n C 1527 rfl dL_law_1527 ?_
      refine xr_iload_n C 1528 rfl dL_law_1528 ?_
      refine xr_iconst C 1529 1 (by decide +kernel) dL_law_1529 ?_
      refine xr_iadd C 1530 dL_law_1530 ?_
      refine xr_sld C E 1531 (x3 + 1).toNatClampNeg rfl dL_law_1531 (ibd_in q259) ?_
      refine xr_aload_n C 1532 rfl dL_law_1532 ?_
      refine xr_iload_n C 1533 rfl dL_law_1533 ?_
      refine xr_iconst C 1534 2 (by decide +kernel) dL_law_1534 ?_
      refine xr_iadd C 1535 dL_law_1535 ?_
      refine xr_sld C E 1536 (x3 + 2).toNatClampNeg rfl dL_law_1536 (ibd_in q260) ?_
      refine xr_aload_n C 1537 rfl dL_law_1537 ?_
      refine xr_iload_n C 1538 rfl dL_law_1538 ?_
      refine xr_iconst C 1539 3 (by decide +kernel) dL_law_1539 ?_
      refine xr_iadd C 1540 dL_law_1540 ?_
      refine xr_sld C E 1541 (x3 + 3).toNatClampNeg rfl dL_law_1541 (ibd_in q261) ?_
      refine xr_aload_n C 1542 rfl dL_law_1542 ?_
      refine xr_iload_n C 1543 rfl dL_law_1543 ?_
      refine xr_iconst C 1544 4 (by decide +kernel) dL_law_1544 ?_
      refine xr_iadd C 1545 dL_law_1545 ?_
      refine xr_sld C E 1546 (x3 + 4).toNatClampNeg rfl dL_law_1546 (ibd_in q262) ?_
      obtain ⟨z265, q266, h⟩ := g_bind h
      refine xr_callV C 1547 (mX8_read q266) v_X8_read ml_L_173 (Nat.le_of_ble_eq_true rfl) (Nat.le_of_ble_eq_true rfl) (xrecv C rfl rfl) rfl rfl (Nat.le_of_ble_eq_true rfl) rfl dL_law_1547 ?_
      refine xr_icmp_eq C 1550 1640 dL_law_1550 rfl (fun q => ?_) (fun q => ?_)
      · have h := g_it h q
        exact xG.sub (bLaw_1640 C hL E hK18 h) ⟨rfl, rfl, rfl, rfl, trivial⟩
      · have h := g_if h q
        refine xr_iconst C 1553 0 (by decide +kernel) dL_law_1553 ?_
        exact absurd (Option.some.inj h) (by decide +kernel)
    have h := g_if h q267
    by_cases q270 : ((xS x3.toNatClampNeg) &&& 63) = 38
    · have h := g_it h q270
      refine xr_tabIn (off := 1522) C 33 1555 38 q270 dL_law_33 (by decide +kernel) (by decide +kernel) (by decide +kernel) rfl ?_
      refine xr_aload_n C 1555 rfl dL_law_1555 ?_
      refine xr_callV C 1556 (mX7_image rfl) v_X7_image ml_L_174 (Nat.le_of_ble_eq_true rfl) (Nat.le_of_ble_eq_true rfl) (xrecv C rfl rfl) rfl rfl (Nat.le_of_ble_eq_true rfl) rfl dL_law_1556 ?_
      refine xr_aload_n C 1559 rfl dL_law_1559 ?_
      obtain ⟨z268, q269, h⟩ := g_bind h
      refine xr_callV C 1560 (mX8_image q269) v_X8_image ml_L_177 (Nat.le_of_ble_eq_true rfl) (Nat.le_of_ble_eq_true rfl) (xrecv C rfl rfl) rfl rfl (Nat.le_of_ble_eq_true rfl) rfl dL_law_1560 ?_
      refine xr_icmp_eq C 1563 1640 dL_law_1563 rfl (fun q => ?_) (fun q => ?_)
      · have h := g_it h q
        exact xG.sub (bLaw_1640 C hL E hK18 h) ⟨rfl, rfl, rfl, rfl, trivial⟩
      · have h := g_if h q
        refine xr_iconst C 1566 0 (by decide +kernel) dL_law_1566 ?_
        exact absurd (Option.some.inj h) (by decide +kernel)
    have h := g_if h q270
    by_cases q275 : ((xS x3.toNatClampNeg) &&& 63) = 39
    · have h := g_it h q275
      refine xr_tabIn (off := 1535) C 33 1568 39 q275 dL_law_33 (by decide +kernel) (by decide +kernel) (by decide +kernel) rfl ?_
      refine xr_aload_n C 1568 rfl dL_law_1568 ?_
      obtain ⟨z271, q272, h⟩ := g_bind h
      refine xr_callV C 1569 (mX7_undo q272) v_X7_undo ml_L_178 (Nat.le_of_ble_eq_true rfl) (Nat.le_of_ble_eq_true rfl) (xrecv C rfl rfl) rfl rfl (Nat.le_of_ble_eq_true rfl) rfl dL_law_1569 ?_
      refine xr_aload_n C 1572 rfl dL_law_1572 ?_
      obtain ⟨z273, q274, h⟩ := g_bind h
      refine xr_callV C 1573 (mX8_undo q274) v_X8_undo ml_L_181 (Nat.le_of_ble_eq_true rfl) (Nat.le_of_ble_eq_true rfl) (xrecv C rfl rfl) rfl rfl (Nat.le_of_ble_eq_true rfl) rfl dL_law_1573 ?_
      refine xr_icmp_eq C 1576 1640 dL_law_1576 rfl (fun q => ?_) (fun q => ?_)
      · have h := g_it h q
        exact xG.sub (bLaw_1640 C hL E hK18 h) ⟨rfl, rfl, rfl, rfl, trivial⟩
      · have h := g_if h q
        refine xr_iconst C 1579 0 (by decide +kernel) dL_law_1579 ?_
        exact absurd (Option.some.inj h) (by decide +kernel)
    have h := g_if h q275
    by_cases q276 : ((xS x3.toNatClampNeg) &&& 63) = 40
    · have h := g_it h q276
      refine xr_tabIn (off := 1548) C 33 1581 40 q276 dL_law_33 (by decide +kernel) (by decide +kernel) (by decide +kernel) rfl ?_
      refine xr_aload_n C 1581 rfl dL_law_1581 ?_
      refine xr_callV C 1582 (mX7_tear rfl) v_X7_tear ml_L_182 (Nat.le_of_ble_eq_true rfl) (Nat.le_of_ble_eq_true rfl) (xrecv C rfl rfl) rfl rfl (Nat.le_of_ble_eq_true rfl) rfl dL_law_1582 ?_
      refine xr_aload_n C 1585 rfl dL_law_1585 ?_
      refine xr_callV C 1586 (mX8_tear rfl) v_X8_tear ml_L_185 (Nat.le_of_ble_eq_true rfl) (Nat.le_of_ble_eq_true rfl) (xrecv C rfl rfl) rfl rfl (Nat.le_of_ble_eq_true rfl) rfl dL_law_1586 ?_
      refine xr_icmp_eq C 1589 1640 dL_law_1589 rfl (fun q => ?_) (fun q => ?_)
      · have h := g_it h q
        exact xG.sub (bLaw_1640 C hL E hK18 h) ⟨rfl, rfl, rfl, rfl, trivial⟩
      · have h := g_if h q
        refine xr_iconst C 1592 0 (by decide +kernel) dL_law_1592 ?_
        exact absurd (Option.some.inj h) (by decide +kernel)
    have h := g_if h q276
    by_cases q282 : ((xS x3.toNatClampNeg) &&& 63) = 41
    · have h := g_it h q282
      refine xr_tabIn (off := 1561) C 33 1594 41 q282 dL_law_33 (by decide +kernel) (by decide +kernel) (by decide +kernel) rfl ?_
      refine xr_aload_n C 1594 rfl dL_law_1594 ?_
      refine xr_aload_n C 1595 rfl dL_law_1595 ?_
      refine xr_iload_n C 1596 rfl dL_law_1596 ?_
      refine xr_iconst C 1597 1 (by decide +kernel) dL_law_1597 ?_
      refine xr_iadd C 1598 dL_law_1598 ?_
      obtain ⟨q277, h⟩ := g_ib h
      refine xr_sld C E 1599 (x3 + 1).toNatClampNeg rfl dL_law_1599 (ibd_in q277) ?_
      obtain ⟨z278, q279, h⟩ := g_bind h
      refine xr_callV C 1600 (mX7_count q279) v_X7_count ml_L_186 (Nat.le_of_ble_eq_true rfl) (Nat.le_of_ble_eq_true rfl) (xrecv C rfl rfl) rfl rfl (Nat.le_of_ble_eq_true rfl) rfl dL_law_1600 ?_
      refine xr_aload_n C 1603 rfl dL_law_1603 ?_
      refine xr_aload_n C 1604 rfl dL_law_1604 ?_
      refine xr_iload_n C 1605 rfl dL_law_1605 ?_
      refine xr_iconst C 1606 1 (by decide +kernel) dL_law_1606 ?_
      refine xr_iadd C 1607 dL_law_1607 ?_
      refine xr_sld C E 1608 (x3 + 1).toNatClampNeg rfl dL_law_1608 (ibd_in q277) ?_
      obtain ⟨z280, q281, h⟩ := g_bind h
      refine xr_callV C 1609 (mX8_count q281) v_X8_count ml_L_189 (Nat.le_of_ble_eq_true rfl) (Nat.le_of_ble_eq_true rfl) (xrecv C rfl rfl) rfl rfl (Nat.le_of_ble_eq_true rfl) rfl dL_law_1609 ?_
      refine xr_icmp_eq C 1612 1640 dL_law_1612 rfl (fun q => ?_) (fun q => ?_)
      · have h := g_it h q
        exact xG.sub (bLaw_1640 C hL E hK18 h) ⟨rfl, rfl, rfl, rfl, trivial⟩
      · have h := g_if h q
        refine xr_iconst C 1615 0 (by decide +kernel) dL_law_1615 ?_
        exact absurd (Option.some.inj h) (by decide +kernel)
    have h := g_if h q282
    by_cases q288 : ((xS x3.toNatClampNeg) &&& 63) = 42
    · have h := g_it h q288
      refine xr_tabIn (off := 1584) C 33 1617 42 q288 dL_law_33 (by decide +kernel) (by decide +kernel) (by decide +kernel) rfl ?_
      refine xr_aload_n C 1617 rfl dL_law_1617 ?_
      refine xr_aload_n C 1618 rfl dL_law_1618 ?_
      refine xr_iload_n C 1619 rfl dL_law_1619 ?_
      refine xr_iconst C 1620 1 (by decide +kernel) dL_law_1620 ?_
      refine xr_iadd C 1621 dL_law_1621 ?_
      obtain ⟨q283, h⟩ := g_ib h
      refine xr_sld C E 1622 (x3 + 1).toNatClampNeg rfl dL_law_1622 (ibd_in q283) ?_
      obtain ⟨z284, q285, h⟩ := g_bind h
      refine xr_callV C 1623 (mX7_status q285) v_X7_status ml_L_190 (Nat.le_of_ble_eq_true rfl) (Nat.le_of_ble_eq_true rfl) (xrecv C rfl rfl) rfl rfl (Nat.le_of_ble_eq_true rfl) rfl dL_law_1623 ?_
      refine xr_aload_n C 1626 rfl dL_law_1626 ?_
      refine xr_aload_n C 1627 rfl dL_law_1627 ?_
      refine xr_iload_n C 1628 rfl dL_law_1628 ?_
      refine xr_iconst C 1629 1 (by decide +kernel) dL_law_1629 ?_
      refine xr_iadd C 1630 dL_law_1630 ?_
      refine xr_sld C E 1631 (x3 + 1).toNatClampNeg rfl dL_law_1631 (ibd_in q283) ?_
      obtain ⟨z286, q287, h⟩ := g_bind h
      refine xr_callV C 1632 (mX8_status q287) v_X8_status ml_L_193 (Nat.le_of_ble_eq_true rfl) (Nat.le_of_ble_eq_true rfl) (xrecv C rfl rfl) rfl rfl (Nat.le_of_ble_eq_true rfl) rfl dL_law_1632 ?_
      refine xr_icmp_eq C 1635 1640 dL_law_1635 rfl (fun q => ?_) (fun q => ?_)
      · have h := g_it h q
        exact xG.sub (bLaw_1640 C hL E hK18 h) ⟨rfl, rfl, rfl, rfl, trivial⟩
      · have h := g_if h q
        refine xr_iconst C 1638 0 (by decide +kernel) dL_law_1638 ?_
        exact absurd (Option.some.inj h) (by decide +kernel)
    have h := g_if h q288
    have eq8 := xneI (z := 0) q8 (by decide +kernel)
    have eq15 := xneI (z := 1) q15 (by decide +kernel)
    have eq22 := xneI (z := 2) q22 (by decide +kernel)
    have eq29 := xneI (z := 3) q29 (by decide +kernel)
    have eq35 := xneI (z := 4) q35 (by decide +kernel)
    have eq41 := xneI (z := 5) q41 (by decide +kernel)
    have eq48 := xneI (z := 6) q48 (by decide +kernel)
    have eq55 := xneI (z := 7) q55 (by decide +kernel)
    have eq63 := xneI (z := 8) q63 (by decide +kernel)
    have eq70 := xneI (z := 9) q70 (by decide +kernel)
    have eq77 := xneI (z := 10) q77 (by decide +kernel)
    have eq84 := xneI (z := 11) q84 (by decide +kernel)
    have eq91 := xneI (z := 12) q91 (by decide +kernel)
    have eq98 := xneI (z := 13) q98 (by decide +kernel)
    have eq106 := xneI (z := 14) q106 (by decide +kernel)
    have eq114 := xneI (z := 15) q114 (by decide +kernel)
    have eq121 := xneI (z := 16) q121 (by decide +kernel)
    have eq130 := xneI (z := 17) q130 (by decide +kernel)
    have eq137 := xneI (z := 18) q137 (by decide +kernel)
    have eq145 := xneI (z := 19) q145 (by decide +kernel)
    have eq152 := xneI (z := 20) q152 (by decide +kernel)
    have eq159 := xneI (z := 21) q159 (by decide +kernel)
    have eq162 := xneI (z := 22) q162 (by decide +kernel)
    have eq170 := xneI (z := 23) q170 (by decide +kernel)
    have eq177 := xneI (z := 24) q177 (by decide +kernel)
    have eq183 := xneI (z := 25) q183 (by decide +kernel)
    have eq190 := xneI (z := 26) q190 (by decide +kernel)
    have eq196 := xneI (z := 27) q196 (by decide +kernel)
    have eq203 := xneI (z := 28) q203 (by decide +kernel)
    have eq210 := xneI (z := 29) q210 (by decide +kernel)
    have eq211 := xneI (z := 30) q211 (by decide +kernel)
    have eq216 := xneI (z := 31) q216 (by decide +kernel)
    have eq224 := xneI (z := 32) q224 (by decide +kernel)
    have eq233 := xneI (z := 33) q233 (by decide +kernel)
    have eq243 := xneI (z := 34) q243 (by decide +kernel)
    have eq249 := xneI (z := 35) q249 (by decide +kernel)
    have eq258 := xneI (z := 36) q258 (by decide +kernel)
    have eq267 := xneI (z := 37) q267 (by decide +kernel)
    have eq270 := xneI (z := 38) q270 (by decide +kernel)
    have eq275 := xneI (z := 39) q275 (by decide +kernel)
    have eq276 := xneI (z := 40) q276 (by decide +kernel)
    have eq282 := xneI (z := 41) q282 (by decide +kernel)
    have eq288 := xneI (z := 42) q288 (by decide +kernel)
    refine xr_tabOut C 33 1640 dL_law_33 (by omega) rfl ?_
    exact xG.sub (bLaw_1640 C hL E hK18 h) ⟨rfl, rfl, rfl, rfl, trivial⟩
set_option maxRecDepth 100000 in
set_option maxHeartbeats 4000000 in
theorem bLaw_18 {Γ : xΓ} (C : xOK Γ cL_law RL 20) (hL : xn Γ = 4) {N : Nat} {bS xL : Nat} {xS : Nat → Int32}  (E : xLaw Γ bS xL xS) : ∀ (n : Nat) (w : xW) (x3 : Int32), fLaw_18 N xL xS n w x3 = some 1 → xG Γ w 18 [(0, .ref bS), (1, .ref (xad Γ 0)), (2, .ref (xad Γ 55)), (3, .int x3)] []
  | 0, _, _, h => by cases h
  | n + 1, w, x3, h => bLaw_18b C hL E (bLaw_18 C hL E n) h
