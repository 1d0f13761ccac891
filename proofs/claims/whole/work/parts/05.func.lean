/-! the shallow functions: every method as a function of its arguments and the memory -/
def sLen (w : Nat) : Int32 := Int32.ofNat (gSl.getD w 0)
def sChr (w j : Nat) : Int32 := (gSb.getD w []).getD j 0
theorem kB_m5 : (Int8.ofInt (-5)).toInt32 = (-5) := by decide
theorem kB_m4 : (Int8.ofInt (-4)).toInt32 = (-4) := by decide
theorem kB_m3 : (Int8.ofInt (-3)).toInt32 = (-3) := by decide
theorem kB_m2 : (Int8.ofInt (-2)).toInt32 = (-2) := by decide
theorem kB_6 : (Int8.ofInt 6).toInt32 = 6 := by decide
theorem kB_8 : (Int8.ofInt 8).toInt32 = 8 := by decide
theorem kB_9 : (Int8.ofInt 9).toInt32 = 9 := by decide
theorem kB_10 : (Int8.ofInt 10).toInt32 = 10 := by decide
theorem kB_12 : (Int8.ofInt 12).toInt32 = 12 := by decide
theorem kB_16 : (Int8.ofInt 16).toInt32 = 16 := by decide
theorem kB_24 : (Int8.ofInt 24).toInt32 = 24 := by decide
theorem kB_32 : (Int8.ofInt 32).toInt32 = 32 := by decide
theorem kB_48 : (Int8.ofInt 48).toInt32 = 48 := by decide
theorem kB_57 : (Int8.ofInt 57).toInt32 = 57 := by decide
theorem kB_59 : (Int8.ofInt 59).toInt32 = 59 := by decide
theorem kB_63 : (Int8.ofInt 63).toInt32 = 63 := by decide
theorem kB_97 : (Int8.ofInt 97).toInt32 = 97 := by decide
theorem kB_100 : (Int8.ofInt 100).toInt32 = 100 := by decide
theorem kB_122 : (Int8.ofInt 122).toInt32 = 122 := by decide
theorem kI_m1 : Int32.ofInt (-1) = (-1) := by decide
theorem kI_0 : Int32.ofInt 0 = 0 := by decide
theorem kI_1 : Int32.ofInt 1 = 1 := by decide
theorem kI_2 : Int32.ofInt 2 = 2 := by decide
theorem kI_3 : Int32.ofInt 3 = 3 := by decide
theorem kI_4 : Int32.ofInt 4 = 4 := by decide
theorem kI_5 : Int32.ofInt 5 = 5 := by decide
theorem kL_0 : Int64.ofNat ((0 : Fin 2) : Nat) = 0 := by decide
theorem kL_1 : Int64.ofNat ((1 : Fin 2) : Nat) = 1 := by decide
theorem kS_160 : (Int16.ofInt 160).toInt32 = 160 := by decide
theorem kS_255 : (Int16.ofInt 255).toInt32 = 255 := by decide
theorem kS_999 : (Int16.ofInt 999).toInt32 = 999 := by decide
theorem kS_1000 : (Int16.ofInt 1000).toInt32 = 1000 := by decide
theorem kS_1024 : (Int16.ofInt 1024).toInt32 = 1024 := by decide
theorem kS_9999 : (Int16.ofInt 9999).toInt32 = 9999 := by decide
def sX2_knowsLand_b17 (t0 : Int32) (m : pMem) : (Option Int32) :=
  some (vp_nar .boolean t0)
def sX2_knowsLand_b16 (m : pMem) : (Option Int32) :=
  sX2_knowsLand_b17  0 m
def sX2_knowsLand (a1 : Int32) (m : pMem) : (Option Int32) :=
  if a1 < 0 then
    sX2_knowsLand_b16  m
  else
    if (m.1 3 6) ≤ a1 then
      sX2_knowsLand_b16  m
    else
      sX2_knowsLand_b17  1 m
def sX8_isDay_b16 (t0 : Int32) (m : pMem) : (Option Int32) :=
  some (vp_nar .boolean t0)
def sX8_isDay_b15 (m : pMem) : (Option Int32) :=
  sX8_isDay_b16  0 m
def sX8_isDay (a1 : Int32) (m : pMem) : (Option Int32) :=
  if a1 < 0 then
    sX8_isDay_b15  m
  else
    if (999 : Int32) < a1 then
      sX8_isDay_b15  m
    else
      sX8_isDay_b16  1 m
def sX2_changesBy_b26 (l2 : Int32) (m : pMem) : (Option Int32) :=
  some l2
def sX2_changesBy_b2 (k2 : Int32 → Int32 → pMem → (Option Int32)) (l1 : Int32) (l2 : Int32) (m : pMem) : (Option Int32) :=
  if (m.1 3 12) ≤ l2 then
    sX2_changesBy_b26  l2 m
  else
    if oob l2 12 then none else
    if l1 < (m.1 25 l2.toNatClampNeg) then
      sX2_changesBy_b26  l2 m
    else
      k2 l1 (l2 + 1) m
def sX2_changesBy_l2 (n : Nat) : Int32 → Int32 → pMem → (Option Int32) := fixN (fun _ _ _ => none) (sX2_changesBy_b2) n
def sX2_changesBy (a1 : Int32) (m : pMem) : (Option Int32) :=
  sX2_changesBy_l2  5000 a1 0 m
def sX8_isIn_b13 (t0 : Int32) (m : pMem) : (Option Int32) :=
  some (vp_nar .boolean t0)
def sX8_isIn (a1 : Int32) (a2 : Int32) (m : pMem) : (Option Int32) :=
  if ((a1 >>> (a2 &&& 31)) &&& (1 : Int32)) = 0 then
    sX8_isIn_b13  0 m
  else
    sX8_isIn_b13  1 m
def sX2_ownerOf_b2 (k2 : Int32 → Int32 → Int32 → pMem → (Option Int32)) (l1 : Int32) (l2 : Int32) (l3 : Int32) (m : pMem) : (Option Int32) :=
  if (m.1 3 6) ≤ l3 then
    some (-1 : Int32)
  else
    if oob l2 13 then none else
    if oob l3 10 then none else
    cbR (sX8_isIn (m.1 (30 + l2.toNatClampNeg) l3.toNatClampNeg) l1 m) fun r4 =>
    if r4 = 0 then
      k2 l1 l2 (l3 + 1) m
    else
      some l3
def sX2_ownerOf_l2 (n : Nat) : Int32 → Int32 → Int32 → pMem → (Option Int32) := fixN (fun _ _ _ _ => none) (sX2_ownerOf_b2) n
def sX2_ownerOf (a1 : Int32) (a2 : Int32) (m : pMem) : (Option Int32) :=
  sX2_ownerOf_l2  5000 a1 a2 0 m
def sJ7_fill_53178_b5 (k5 : Nat → Nat → Int32 → Int32 → Int32 → pMem → gO) (l0 : Nat) (nl0 : Nat) (l1 : Int32) (l2 : Int32) (l3 : Int32) (m : pMem) : gO :=
  if l3 ≤ l2 then
    some (0, m)
  else
    if oob l2 nl0 then none else
    bnd (st1 m l0 l2.toNatClampNeg l1) fun m4 =>
    k5 l0 nl0 l1 (l2 + 1) l3 m4
def sJ7_fill_53178_l5 (n : Nat) : Nat → Nat → Int32 → Int32 → Int32 → pMem → gO := fixN (fun _ _ _ _ _ _ => none) (sJ7_fill_53178_b5) n
def sJ7_fill_53178 (a1 : Nat) (na1 : Nat) (a2 : Int32) (m : pMem) : gO :=
  bnd (Int32.ofNat na1) fun x1 =>
  sJ7_fill_53178_l5  5000 a1 na1 a2 0 x1 m
def sX2_sumOf_b30 (k5 : Nat → Int32 → Int32 → Int32 → pMem → (Option Int32)) (l1 : Nat) (l2 : Int32) (l3 : Int32) (l4 : Int32) (m : pMem) : (Option Int32) :=
  k5 l1 l2 l3 (l4 + 1) m
def sX2_sumOf_b5 (k5 : Nat → Int32 → Int32 → Int32 → pMem → (Option Int32)) (l1 : Nat) (l2 : Int32) (l3 : Int32) (l4 : Int32) (m : pMem) : (Option Int32) :=
  if (m.1 3 2) ≤ l4 then
    some l3
  else
    if ((l2 >>> (l4 &&& 31)) &&& (1 : Int32)) = 0 then
      sX2_sumOf_b30 k5 l1 l2 l3 l4 m
    else
      if oob l4 8 then none else
      bnd (l3 + (m.1 l1 l4.toNatClampNeg)) fun x4 =>
      sX2_sumOf_b30 k5 l1 l2 x4 l4 m
def sX2_sumOf_l5 (n : Nat) : Nat → Int32 → Int32 → Int32 → pMem → (Option Int32) := fixN (fun _ _ _ _ _ => none) (sX2_sumOf_b5) n
def sX2_sumOf (a1 : Nat) (a2 : Int32) (m : pMem) : (Option Int32) :=
  sX2_sumOf_l5  5000 a1 a2 0 0 m
def sX1_key_b65 (m : pMem) : (Option Int32) :=
  some (1 : Int32)
def sX1_key (a1 : Int32) (a2 : Int32) (a3 : Int32) (m : pMem) : (Option Int32) :=
  if ¬ a3 = 0 then
    if oob a2 12 then none else
    if oob a2 12 then none else
    bnd ((m.1 106 a2.toNatClampNeg) ||| (m.1 107 a2.toNatClampNeg)) fun x4 =>
    if a3 = 2 then
      sX1_key_b65  m
    else
      cbR (sX2_sumOf 20 x4 m) fun r6 =>
      if ¬ r6 = 0 then
        cbR (sX2_sumOf 20 a1 m) fun r9 =>
        some r9
      else
        sX1_key_b65  m
  else
    cbR (sX2_sumOf 19 a1 m) fun r11 =>
    some r11
def sX1_partOfFirst_b53 (t0 : Int32) (m : pMem) : (Option Int32) :=
  some t0
def sX1_partOfFirst (a1 : Int32) (a2 : Int32) (a3 : Int32) (m : pMem) : (Option Int32) :=
  if oob a2 12 then none else
  cbR (sX1_key (m.1 106 a2.toNatClampNeg) a2 a3 m) fun r2 =>
  if oob a2 12 then none else
  cbR (sX1_key (m.1 107 a2.toNatClampNeg) a2 a3 m) fun r5 =>
  bnd (r2 + r5) fun x7 =>
  if 0 < x7 then
    if x7 = 0 then none else
    sX1_partOfFirst_b53  ((a1 * r2) / x7) m
  else
    sX1_partOfFirst_b53  0 m
def sX1_divideAt_b185 (m : pMem) : gO :=
  some (0, m)
def sX1_divideAt (a1 : Int32) (a2 : Int32) (m : pMem) : gO :=
  if oob a1 12 then none else
  bnd (m.1 26 a1.toNatClampNeg) fun x2 =>
  if oob a1 12 then none else
  bnd (m.1 27 a1.toNatClampNeg) fun x4 =>
  if oob a1 12 then none else
  bnd (m.1 28 a1.toNatClampNeg) fun x6 =>
  if oob a1 12 then none else
  if (m.1 24 a1.toNatClampNeg) = 0 then
    if oob x2 10 then none else
    cbR (sX1_partOfFirst (m.1 18 x2.toNatClampNeg) a1 a2 m) fun r10 =>
    if oob x6 10 then none else
    bnd (st1 m 18 x6.toNatClampNeg r10) fun m13 =>
    if oob x2 10 then none else
    if oob x6 10 then none else
    if oob x2 10 then none else
    bnd (st1 m13 18 x2.toNatClampNeg ((m13.1 18 x2.toNatClampNeg) - (m13.1 18 x6.toNatClampNeg))) fun m17 =>
    sX1_divideAt_b185  m17
  else if (m.1 24 a1.toNatClampNeg) = 1 then
    if oob x2 10 then none else
    cbR (sX1_partOfFirst (m.1 18 x2.toNatClampNeg) a1 a2 m) fun r20 =>
    if oob x6 10 then none else
    bnd (st1 m 18 x6.toNatClampNeg r20) fun m23 =>
    if oob x2 10 then none else
    if oob x6 10 then none else
    if oob (x6 + (1 : Int32)) 10 then none else
    bnd (st1 m23 18 ((x6 + (1 : Int32)).toNatClampNeg) ((m23.1 18 x2.toNatClampNeg) - (m23.1 18 x6.toNatClampNeg))) fun m27 =>
    if oob x2 10 then none else
    bnd (st1 m27 18 x2.toNatClampNeg 0) fun m29 =>
    sX1_divideAt_b185  m29
  else if (m.1 24 a1.toNatClampNeg) = 2 then
    if oob x2 10 then none else
    if oob x4 10 then none else
    if oob x2 10 then none else
    bnd (st1 m 18 x2.toNatClampNeg ((m.1 18 x2.toNatClampNeg) + (m.1 18 x4.toNatClampNeg))) fun m34 =>
    if oob x4 10 then none else
    bnd (st1 m34 18 x4.toNatClampNeg 0) fun m36 =>
    sX1_divideAt_b185  m36
  else 
    sX1_divideAt_b185  m
def sX1_divide_b18 (k18 : Int32 → Int32 → Int32 → pMem → gO) (l4 : Int32) (l5 : Int32) (l6 : Int32) (m : pMem) : gO :=
  if l4 ≤ l6 then
    some (0, m)
  else
    cbE (sX1_divideAt l6 l5 m) fun _ m9 =>
    k18 l4 l5 (l6 + 1) m9
def sX1_divide_l18 (n : Nat) : Int32 → Int32 → Int32 → pMem → gO := fixN (fun _ _ _ _ => none) (sX1_divide_b18) n
def sX1_divide (a1 : Int32) (a2 : Int32) (a3 : Int32) (a4 : Int32) (a5 : Int32) (m : pMem) : gO :=
  cbE (sJ7_fill_53178 18 10 0 m) fun _ m3 =>
  if oob a1 10 then none else
  bnd (st1 m3 18 a1.toNatClampNeg a2) fun m5 =>
  sX1_divide_l18  5000 a4 a5 a3 m5
def sX1_owedBy_b61 (t0 : Int32) (m : pMem) : gO :=
  some (t0, m)
def sX1_owedBy (a1 : Int32) (a2 : Int32) (a3 : Int32) (a4 : Int32) (m : pMem) : gO :=
  if oob a1 8 then none else
  if (m.1 14 a1.toNatClampNeg) ≤ a3 then
    cbR (sX2_changesBy a3 m) fun r3 =>
    if oob a1 8 then none else
    if (m.1 13 a1.toNatClampNeg) = (-1) then
      if oob a1 8 then none else
      if oob a1 8 then none else
      if oob a1 8 then none else
      cbR (sX2_changesBy (m.1 14 a1.toNatClampNeg) m) fun r10 =>
      cbE (sX1_divide (m.1 11 a1.toNatClampNeg) (m.1 12 a1.toNatClampNeg) r10 r3 a4 m) fun _ m14 =>
      if oob a2 10 then none else
      some (m14.1 18 a2.toNatClampNeg, m14)
    else
      if oob a1 8 then none else
      cbR (sX2_ownerOf (m.1 13 a1.toNatClampNeg) r3 m) fun r17 =>
      if ¬ r17 = a2 then
        sX1_owedBy_b61  0 m
      else
        if oob a1 8 then none else
        sX1_owedBy_b61  (m.1 12 a1.toNatClampNeg) m
  else
    some (0, m)
def sX1_ownerAbroadBehind_b109 (t0 : Int32) (m : pMem) : (Option Int32) :=
  some t0
def sX1_ownerAbroadBehind_b94 (t0 : Int32) (m : pMem) : (Option Int32) :=
  some t0
def sX1_ownerAbroadBehind_b45 (l1 : Int32) (l2 : Int32) (l3 : Int32) (l4 : Int32) (l5 : Int32) (m : pMem) : (Option Int32) :=
  if oob l1 12 then none else
  cbR (sX1_key (m.1 106 l1.toNatClampNeg) l1 l2 m) fun r10 =>
  if oob l1 12 then none else
  cbR (sX1_key (m.1 107 l1.toNatClampNeg) l1 l2 m) fun r13 =>
  bnd (r10 - r13) fun x15 =>
  if ¬ l5 = 0 then
    if x15 < 0 then
      sX1_ownerAbroadBehind_b109  (l4 + (1 : Int32)) m
    else
      sX1_ownerAbroadBehind_b109  l4 m
  else
    if x15 ≤ 0 then
      sX1_ownerAbroadBehind_b94  l3 m
    else
      sX1_ownerAbroadBehind_b94  l4 m
def sX1_ownerAbroadBehind (a1 : Int32) (a2 : Int32) (m : pMem) : (Option Int32) :=
  if oob a1 12 then none else
  bnd (m.1 26 a1.toNatClampNeg) fun x2 =>
  if oob a1 12 then none else
  bnd (m.1 28 a1.toNatClampNeg) fun x4 =>
  if oob a1 12 then none else
  bnd (m.1 24 a1.toNatClampNeg) fun x6 =>
  if x6 = 0 then
    sX1_ownerAbroadBehind_b45  a1 a2 x2 x4 x6 m
  else
    if x6 = 1 then
      sX1_ownerAbroadBehind_b45  a1 a2 x2 x4 x6 m
    else
      some x2
def sX1_ownerAbroad_b75 (k5 : Int32 → Int32 → Int32 → Int32 → pMem → (Option Int32)) (l1 : Int32) (l2 : Int32) (l3 : Int32) (l4 : Int32) (m : pMem) : (Option Int32) :=
  k5 l1 l2 l3 (l4 + 1) m
def sX1_ownerAbroad_b53 (k5 : Int32 → Int32 → Int32 → Int32 → pMem → (Option Int32)) (l1 : Int32) (l2 : Int32) (l3 : Int32) (l4 : Int32) (m : pMem) : (Option Int32) :=
  if oob l4 12 then none else
  if ¬ (m.1 26 l4.toNatClampNeg) = l3 then
    sX1_ownerAbroad_b75 k5 l1 l2 l3 l4 m
  else
    cbR (sX1_ownerAbroadBehind l4 l2 m) fun r10 =>
    sX1_ownerAbroad_b75 k5 l1 l2 r10 l4 m
def sX1_ownerAbroad_b5 (k5 : Int32 → Int32 → Int32 → Int32 → pMem → (Option Int32)) (l1 : Int32) (l2 : Int32) (l3 : Int32) (l4 : Int32) (m : pMem) : (Option Int32) :=
  if l1 ≤ l4 then
    some l3
  else
    if oob l4 12 then none else
    if ¬ (m.1 24 l4.toNatClampNeg) = 2 then
      sX1_ownerAbroad_b53 k5 l1 l2 l3 l4 m
    else
      if oob l4 12 then none else
      if ¬ (m.1 27 l4.toNatClampNeg) = l3 then
        sX1_ownerAbroad_b53 k5 l1 l2 l3 l4 m
      else
        if oob l4 12 then none else
        bnd (m.1 26 l4.toNatClampNeg) fun x7 =>
        sX1_ownerAbroad_b75 k5 l1 l2 x7 l4 m
def sX1_ownerAbroad_l5 (n : Nat) : Int32 → Int32 → Int32 → Int32 → pMem → (Option Int32) := fixN (fun _ _ _ _ _ => none) (sX1_ownerAbroad_b5) n
def sX1_ownerAbroad (a1 : Int32) (a2 : Int32) (m : pMem) : (Option Int32) :=
  sX1_ownerAbroad_l5  5000 a1 a2 0 0 m
def sX1_ownedBy_b43 (t0 : Int32) (m : pMem) : gO :=
  some (t0, m)
def sX1_ownedBy_b71 (t0 : Int32) (m : pMem) : gO :=
  some (t0, m)
def sX1_ownedBy (a1 : Int32) (a2 : Int32) (a3 : Int32) (a4 : Int32) (m : pMem) : gO :=
  cbR (sX2_changesBy a3 m) fun r1 =>
  if oob a1 8 then none else
  if ¬ (m.1 15 a1.toNatClampNeg) = 0 then
    if oob a1 8 then none else
    if ¬ (m.1 15 a1.toNatClampNeg) = 2 then
      if oob a1 8 then none else
      cbE (sX1_divide 0 (m.1 16 a1.toNatClampNeg) 0 r1 a4 m) fun _ m10 =>
      if oob a2 10 then none else
      some (m10.1 18 a2.toNatClampNeg, m10)
    else
      cbR (sX1_ownerAbroad r1 a4 m) fun r12 =>
      if ¬ r12 = a2 then
        sX1_ownedBy_b71  0 m
      else
        sX1_ownedBy_b71  1 m
  else
    if oob a1 8 then none else
    cbR (sX2_ownerOf (m.1 17 a1.toNatClampNeg) r1 m) fun r16 =>
    if ¬ r16 = a2 then
      sX1_ownedBy_b43  0 m
    else
      sX1_ownedBy_b43  1 m
def sX1_burdenOf_b71 (k38 : Int32 → Int32 → Int32 → Int32 → Int32 → pMem → gO) (l1 : Int32) (l2 : Int32) (l3 : Int32) (l4 : Int32) (l5 : Int32) (m : pMem) : gO :=
  k38 l1 l2 l3 l4 (l5 + 1) m
def sX1_burdenOf_b38 (k38 : Int32 → Int32 → Int32 → Int32 → Int32 → pMem → gO) (l1 : Int32) (l2 : Int32) (l3 : Int32) (l4 : Int32) (l5 : Int32) (m : pMem) : gO :=
  if (m.1 2 10) ≤ l5 then
    some (l4, m)
  else
    if oob l5 8 then none else
    if (m.1 15 l5.toNatClampNeg) = 0 then
      sX1_burdenOf_b71 k38 l1 l2 l3 l4 l5 m
    else
      cbE (sX1_ownedBy l5 l1 l2 l3 m) fun r9 m11 =>
      bnd (l4 - r9) fun x12 =>
      sX1_burdenOf_b71 k38 l1 l2 l3 x12 l5 m11
def sX1_burdenOf_l38 (n : Nat) : Int32 → Int32 → Int32 → Int32 → Int32 → pMem → gO := fixN (fun _ _ _ _ _ _ => none) (sX1_burdenOf_b38) n
def sX1_burdenOf_b6 (k6 : Int32 → Int32 → Int32 → Int32 → Int32 → pMem → gO) (l1 : Int32) (l2 : Int32) (l3 : Int32) (l4 : Int32) (l5 : Int32) (m : pMem) : gO :=
  if (m.1 2 5) ≤ l5 then
    sX1_burdenOf_l38  5000 l1 l2 l3 l4 0 m
  else
    cbE (sX1_owedBy l5 l1 l2 l3 m) fun r2 m4 =>
    bnd (l4 + r2) fun x5 =>
    k6 l1 l2 l3 x5 (l5 + 1) m4
def sX1_burdenOf_l6 (n : Nat) : Int32 → Int32 → Int32 → Int32 → Int32 → pMem → gO := fixN (fun _ _ _ _ _ _ => none) (sX1_burdenOf_b6) n
def sX1_burdenOf (a1 : Int32) (a2 : Int32) (a3 : Int32) (m : pMem) : gO :=
  sX1_burdenOf_l6  5000 a1 a2 a3 0 0 m
def sX8_best_b62 (k29 : Int32 → Int32 → Int32 → Int32 → pMem → gO) (l1 : Int32) (l2 : Int32) (l3 : Int32) (l4 : Int32) (m : pMem) : gO :=
  k29 l1 l2 l3 (l4 + 1) m
def sX8_best_b29 (k29 : Int32 → Int32 → Int32 → Int32 → pMem → gO) (l1 : Int32) (l2 : Int32) (l3 : Int32) (l4 : Int32) (m : pMem) : gO :=
  if (2 : Int32) < l4 then
    some (l3, m)
  else
    cbE (sX1_burdenOf l1 l2 l4 m) fun r8 m10 =>
    cbE (sX1_burdenOf l1 l2 l3 m10) fun r11 m13 =>
    if r11 ≤ r8 then
      sX8_best_b62 k29 l1 l2 l3 l4 m13
    else
      sX8_best_b62 k29 l1 l2 l4 l4 m13
def sX8_best_l29 (n : Nat) : Int32 → Int32 → Int32 → Int32 → pMem → gO := fixN (fun _ _ _ _ _ => none) (sX8_best_b29) n
def sX8_best (a1 : Int32) (a2 : Int32) (m : pMem) : gO :=
  cbR (sX2_knowsLand a1 m) fun r1 =>
  if ¬ r1 = 0 then
    cbR (sX8_isDay a2 m) fun r4 =>
    if ¬ r4 = 0 then
      sX8_best_l29  5000 a1 a2 0 1 m
    else
      some ((-3), m)
  else
    some ((-2), m)
def sX3_knowsPact_b17 (t0 : Int32) (m : pMem) : (Option Int32) :=
  some (vp_nar .boolean t0)
def sX3_knowsPact_b16 (m : pMem) : (Option Int32) :=
  sX3_knowsPact_b17  0 m
def sX3_knowsPact (a1 : Int32) (m : pMem) : (Option Int32) :=
  if a1 < 0 then
    sX3_knowsPact_b16  m
  else
    if (m.1 4 8) ≤ a1 then
      sX3_knowsPact_b16  m
    else
      sX3_knowsPact_b17  1 m
def sX7_latest_b130 (t0 : Int32) (m : pMem) : (Option Int32) :=
  some t0
def sX7_latest_b102 (k6 : Int32 → Int32 → Int32 → Int32 → Int32 → Int32 → Int32 → pMem → (Option Int32)) (l1 : Int32) (l2 : Int32) (l3 : Int32) (l4 : Int32) (l5 : Int32) (l6 : Int32) (l7 : Int32) (m : pMem) : (Option Int32) :=
  k6 l1 l2 l3 l4 l5 l6 (l7 + 1) m
def sX7_latest_b98 (k6 : Int32 → Int32 → Int32 → Int32 → Int32 → Int32 → Int32 → pMem → (Option Int32)) (l1 : Int32) (l2 : Int32) (l3 : Int32) (l4 : Int32) (l5 : Int32) (l7 : Int32) (m : pMem) : (Option Int32) :=
  sX7_latest_b102 k6 l1 l2 l3 l4 l5 l7 l7 m
def sX7_latest_b6 (k6 : Int32 → Int32 → Int32 → Int32 → Int32 → Int32 → Int32 → pMem → (Option Int32)) (l1 : Int32) (l2 : Int32) (l3 : Int32) (l4 : Int32) (l5 : Int32) (l6 : Int32) (l7 : Int32) (m : pMem) : (Option Int32) :=
  if (m.1 8 5) ≤ l7 then
    if 0 ≤ l6 then
      if oob l6 24 then none else
      if (m.1 62 l6.toNatClampNeg) = 0 then
        sX7_latest_b130  0 m
      else
        sX7_latest_b130  1 m
    else
      some (-1 : Int32)
  else
    if oob l7 24 then none else
    if ¬ (m.1 59 l7.toNatClampNeg) = l1 then
      sX7_latest_b102 k6 l1 l2 l3 l4 l5 l6 l7 m
    else
      if oob l7 24 then none else
      if ¬ (m.1 60 l7.toNatClampNeg) = l2 then
        sX7_latest_b102 k6 l1 l2 l3 l4 l5 l6 l7 m
      else
        if oob l7 24 then none else
        if (m.1 61 l7.toNatClampNeg) = l3 then
          if oob l7 24 then none else
          if l4 < (m.1 63 l7.toNatClampNeg) then
            sX7_latest_b102 k6 l1 l2 l3 l4 l5 l6 l7 m
          else
            if ((l5 >>> (l7 &&& 31)) &&& (1 : Int32)) = 0 then
              if l6 < 0 then
                sX7_latest_b98 k6 l1 l2 l3 l4 l5 l7 m
              else
                if oob l7 24 then none else
                if oob l6 24 then none else
                if (m.1 63 l7.toNatClampNeg) < (m.1 63 l6.toNatClampNeg) then
                  sX7_latest_b102 k6 l1 l2 l3 l4 l5 l6 l7 m
                else
                  sX7_latest_b98 k6 l1 l2 l3 l4 l5 l7 m
            else
              sX7_latest_b102 k6 l1 l2 l3 l4 l5 l6 l7 m
        else
          sX7_latest_b102 k6 l1 l2 l3 l4 l5 l6 l7 m
def sX7_latest_l6 (n : Nat) : Int32 → Int32 → Int32 → Int32 → Int32 → Int32 → Int32 → pMem → (Option Int32) := fixN (fun _ _ _ _ _ _ _ _ => none) (sX7_latest_b6) n
def sX7_latest (a1 : Int32) (a2 : Int32) (a3 : Int32) (a4 : Int32) (a5 : Int32) (m : pMem) : (Option Int32) :=
  bnd ((-1)) fun x1 =>
  sX7_latest_l6  5000 a1 a2 a3 a4 a5 x1 0 m
def sX7_firstYes_b92 (k8 : Int32 → Int32 → Int32 → Int32 → Int32 → pMem → (Option Int32)) (l1 : Int32) (l2 : Int32) (l3 : Int32) (l4 : Int32) (l5 : Int32) (m : pMem) : (Option Int32) :=
  k8 l1 l2 l3 l4 (l5 + 1) m
def sX7_firstYes_b8 (k8 : Int32 → Int32 → Int32 → Int32 → Int32 → pMem → (Option Int32)) (l1 : Int32) (l2 : Int32) (l3 : Int32) (l4 : Int32) (l5 : Int32) (m : pMem) : (Option Int32) :=
  if (m.1 8 5) ≤ l5 then
    some l4
  else
    if oob l5 24 then none else
    if ¬ (m.1 59 l5.toNatClampNeg) = l1 then
      sX7_firstYes_b92 k8 l1 l2 l3 l4 l5 m
    else
      if oob l5 24 then none else
      if ¬ (m.1 60 l5.toNatClampNeg) = l2 then
        sX7_firstYes_b92 k8 l1 l2 l3 l4 l5 m
      else
        if oob l5 24 then none else
        if ¬ (m.1 61 l5.toNatClampNeg) = 0 then
          sX7_firstYes_b92 k8 l1 l2 l3 l4 l5 m
        else
          if oob l5 24 then none else
          if ¬ (m.1 62 l5.toNatClampNeg) = 0 then
            if ¬ ((l3 >>> (l5 &&& 31)) &&& (1 : Int32)) = 0 then
              sX7_firstYes_b92 k8 l1 l2 l3 l4 l5 m
            else
              if oob l5 24 then none else
              if l4 ≤ (m.1 63 l5.toNatClampNeg) then
                sX7_firstYes_b92 k8 l1 l2 l3 l4 l5 m
              else
                if oob l5 24 then none else
                bnd (m.1 63 l5.toNatClampNeg) fun x14 =>
                sX7_firstYes_b92 k8 l1 l2 l3 x14 l5 m
          else
            sX7_firstYes_b92 k8 l1 l2 l3 l4 l5 m
def sX7_firstYes_l8 (n : Nat) : Int32 → Int32 → Int32 → Int32 → Int32 → pMem → (Option Int32) := fixN (fun _ _ _ _ _ _ => none) (sX7_firstYes_b8) n
def sX7_firstYes (a1 : Int32) (a2 : Int32) (a3 : Int32) (m : pMem) : (Option Int32) :=
  sX7_firstYes_l8  5000 a1 a2 a3 1000 0 m
def sX3_isHeld_b73 (t0 : Int32) (m : pMem) : (Option Int32) :=
  some (vp_nar .boolean t0)
def sX3_isHeld_b162 (t0 : Int32) (m : pMem) : (Option Int32) :=
  some (vp_nar .boolean t0)
def sX3_isHeld_b161 (m : pMem) : (Option Int32) :=
  sX3_isHeld_b162  0 m
def sX3_isHeld_b21 (m : pMem) : (Option Int32) :=
  some (1 : Int32)
def sX3_isHeld_b157 (m : pMem) : (Option Int32) :=
  sX3_isHeld_b162  1 m
def sX3_isHeld (a1 : Int32) (a2 : Int32) (a3 : Int32) (a4 : Int32) (m : pMem) : (Option Int32) :=
  if oob a1 12 then none else
  if a2 = (m.1 45 a1.toNatClampNeg) then
    sX3_isHeld_b21  m
  else
    cbR (sX8_isIn (m.1 4 11) a2 m) fun r3 =>
    if r3 = 0 then
      cbR (sX8_isIn (m.1 4 10) a2 m) fun r6 =>
      if ¬ r6 = 0 then
        cbR (sX7_latest a1 a2 0 a3 a4 m) fun r9 =>
        if ¬ (m.1 53 ((0 : Int32).toNatClampNeg)) = 0 then
          if r9 = 1 then
            cbR (sX7_firstYes a1 a2 a4 m) fun r13 =>
            if oob a2 10 then none else
            if (r13 - (m.1 22 a2.toNatClampNeg)) ≤ (m.1 53 ((2 : Int32).toNatClampNeg)) then
              cbR (sX7_latest a1 a2 1 a3 a4 m) fun r17 =>
              if r17 = 1 then
                sX3_isHeld_b157  m
              else
                if ¬ r17 = (-1) then
                  sX3_isHeld_b161  m
                else
                  if ¬ (m.1 53 ((1 : Int32).toNatClampNeg)) = 1 then
                    sX3_isHeld_b161  m
                  else
                    sX3_isHeld_b157  m
            else
              some (0 : Int32)
          else
            some (0 : Int32)
        else
          if r9 = 0 then
            sX3_isHeld_b73  0 m
          else
            sX3_isHeld_b73  1 m
      else
        some (0 : Int32)
    else
      sX3_isHeld_b21  m
def sX3_handOn_b144 (m : pMem) : gO :=
  some (0, m)
def sX3_handOn_b69 (l2 : Int32) (t0 : Int32) (t1 : Int32) (m : pMem) : gO :=
  if oob l2 12 then none else
  bnd (st1 m 4 10 (t1 ||| (t0 <<< ((m.1 28 l2.toNatClampNeg) &&& 31)))) fun m21 =>
  sX3_handOn_b144  m21
def sX3_handOn_b33 (l1 : Int32) (l2 : Int32) (l3 : Int32) (l4 : Int32) (l5 : Int32) (m : pMem) : gO :=
  if oob l2 12 then none else
  cbR (sX3_isHeld l1 (m.1 26 l2.toNatClampNeg) l5 l3 m) fun r16 =>
  if ¬ r16 = 0 then
    if ¬ l4 = 0 then
      sX3_handOn_b69  l2 3 (m.1 4 10) m
    else
      sX3_handOn_b69  l2 1 (m.1 4 10) m
  else
    some (0, m)
def sX3_handOn (a1 : Int32) (a2 : Int32) (a3 : Int32) (m : pMem) : gO :=
  if oob a2 12 then none else
  bnd (m.1 24 a2.toNatClampNeg) fun x2 =>
  if oob a2 12 then none else
  bnd (m.1 25 a2.toNatClampNeg) fun x4 =>
  if x2 = 0 then
    sX3_handOn_b33  a1 a2 a3 x2 x4 m
  else
    if ¬ x2 = 1 then
      if ¬ x2 = 2 then
        sX3_handOn_b144  m
      else
        if ¬ (m.1 53 ((0 : Int32).toNatClampNeg)) = 0 then
          sX3_handOn_b144  m
        else
          if oob a2 12 then none else
          cbR (sX3_isHeld a1 (m.1 27 a2.toNatClampNeg) x4 a3 m) fun r10 =>
          if r10 = 0 then
            sX3_handOn_b144  m
          else
            if oob a2 12 then none else
            bnd (st1 m 4 11 ((m.1 4 11) ||| ((1 : Int32) <<< ((m.1 26 a2.toNatClampNeg) &&& 31)))) fun m14 =>
            sX3_handOn_b144  m14
    else
      sX3_handOn_b33  a1 a2 a3 x2 x4 m
def sX2_isThere_b26 (t0 : Int32) (m : pMem) : (Option Int32) :=
  some (vp_nar .boolean t0)
def sX2_isThere_b25 (m : pMem) : (Option Int32) :=
  sX2_isThere_b26  0 m
def sX2_isThere (a1 : Int32) (a2 : Int32) (m : pMem) : (Option Int32) :=
  cbR (sX2_knowsLand a1 m) fun r1 =>
  if r1 = 0 then
    sX2_isThere_b25  m
  else
    if oob a2 13 then none else
    cbR (sX8_isIn (m.1 43 a2.toNatClampNeg) a1 m) fun r5 =>
    if r5 = 0 then
      sX2_isThere_b25  m
    else
      sX2_isThere_b26  1 m
def sX3_boundByTrade_b109 (k62 : Int32 → Int32 → Int32 → Int32 → Int32 → Int32 → pMem → gO) (l1 : Int32) (l2 : Int32) (l3 : Int32) (l4 : Int32) (l5 : Int32) (l6 : Int32) (m : pMem) : gO :=
  k62 l1 l2 l3 l4 l5 (l6 + 1) m
def sX3_boundByTrade_b62 (k62 : Int32 → Int32 → Int32 → Int32 → Int32 → Int32 → pMem → gO) (l1 : Int32) (l2 : Int32) (l3 : Int32) (l4 : Int32) (l5 : Int32) (l6 : Int32) (m : pMem) : gO :=
  if (m.1 3 6) ≤ l6 then
    some (l5, m)
  else
    cbR (sX2_isThere l6 l4 m) fun r13 =>
    if r13 = 0 then
      sX3_boundByTrade_b109 k62 l1 l2 l3 l4 l5 l6 m
    else
      cbR (sX3_isHeld l1 l6 l2 l3 m) fun r16 =>
      if r16 = 0 then
        sX3_boundByTrade_b109 k62 l1 l2 l3 l4 l5 l6 m
      else
        bnd (l5 ||| ((1 : Int32) <<< (l6 &&& 31))) fun x19 =>
        sX3_boundByTrade_b109 k62 l1 l2 l3 l4 x19 l6 m
def sX3_boundByTrade_l62 (n : Nat) : Int32 → Int32 → Int32 → Int32 → Int32 → Int32 → pMem → gO := fixN (fun _ _ _ _ _ _ _ => none) (sX3_boundByTrade_b62) n
def sX3_boundByTrade_b35 (k35 : Int32 → Int32 → Int32 → Int32 → Int32 → pMem → gO) (l1 : Int32) (l2 : Int32) (l3 : Int32) (l4 : Int32) (l5 : Int32) (m : pMem) : gO :=
  if l4 ≤ l5 then
    sX3_boundByTrade_l62  5000 l1 l2 l3 l4 0 0 m
  else
    cbE (sX3_handOn l1 l5 l3 m) fun _ m11 =>
    k35 l1 l2 l3 l4 (l5 + 1) m11
def sX3_boundByTrade_l35 (n : Nat) : Int32 → Int32 → Int32 → Int32 → Int32 → pMem → gO := fixN (fun _ _ _ _ _ _ => none) (sX3_boundByTrade_b35) n
def sX3_boundByTrade (a1 : Int32) (a2 : Int32) (a3 : Int32) (m : pMem) : gO :=
  cbR (sX2_changesBy a2 m) fun r1 =>
  bnd (st1 m 4 10 0) fun m3 =>
  bnd (st1 m3 4 11 0) fun m4 =>
  if oob a1 12 then none else
  cbR (sX2_changesBy (m4.1 47 a1.toNatClampNeg) m4) fun r6 =>
  sX3_boundByTrade_l35  5000 a1 a2 a3 r1 r6 m4
def sX2_saidSame_b29 (k2 : Int32 → Int32 → Int32 → pMem → (Option Int32)) (l1 : Int32) (l2 : Int32) (l3 : Int32) (m : pMem) : (Option Int32) :=
  k2 l1 l2 (l3 + 1) m
def sX2_saidSame_b2 (k2 : Int32 → Int32 → Int32 → pMem → (Option Int32)) (l1 : Int32) (l2 : Int32) (l3 : Int32) (m : pMem) : (Option Int32) :=
  if l2 ≤ l3 then
    some (0 : Int32)
  else
    if oob l3 12 then none else
    if ¬ (m.1 24 l3.toNatClampNeg) = 4 then
      sX2_saidSame_b29 k2 l1 l2 l3 m
    else
      if oob l3 12 then none else
      if ¬ (m.1 26 l3.toNatClampNeg) = l1 then
        sX2_saidSame_b29 k2 l1 l2 l3 m
      else
        some (1 : Int32)
def sX2_saidSame_l2 (n : Nat) : Int32 → Int32 → Int32 → pMem → (Option Int32) := fixN (fun _ _ _ _ => none) (sX2_saidSame_b2) n
def sX2_saidSame (a1 : Int32) (a2 : Int32) (m : pMem) : (Option Int32) :=
  sX2_saidSame_l2  5000 a1 a2 0 m
def sX6_latest_b77 (k6 : Int32 → Int32 → Int32 → Int32 → Int32 → pMem → (Option Int32)) (l1 : Int32) (l2 : Int32) (l3 : Int32) (l4 : Int32) (l5 : Int32) (m : pMem) : (Option Int32) :=
  k6 l1 l2 l3 l4 (l5 + 1) m
def sX6_latest_b73 (k6 : Int32 → Int32 → Int32 → Int32 → Int32 → pMem → (Option Int32)) (l1 : Int32) (l2 : Int32) (l3 : Int32) (l5 : Int32) (m : pMem) : (Option Int32) :=
  sX6_latest_b77 k6 l1 l2 l3 l5 l5 m
def sX6_latest_b6 (k6 : Int32 → Int32 → Int32 → Int32 → Int32 → pMem → (Option Int32)) (l1 : Int32) (l2 : Int32) (l3 : Int32) (l4 : Int32) (l5 : Int32) (m : pMem) : (Option Int32) :=
  if (m.1 7 4) ≤ l5 then
    some l4
  else
    if oob l5 24 then none else
    if ¬ (m.1 55 l5.toNatClampNeg) = l1 then
      sX6_latest_b77 k6 l1 l2 l3 l4 l5 m
    else
      if oob l5 24 then none else
      if ¬ (m.1 56 l5.toNatClampNeg) = l2 then
        sX6_latest_b77 k6 l1 l2 l3 l4 l5 m
      else
        if oob l5 24 then none else
        if (m.1 58 l5.toNatClampNeg) ≤ l3 then
          if l4 < 0 then
            sX6_latest_b73 k6 l1 l2 l3 l5 m
          else
            if oob l5 24 then none else
            if oob l4 24 then none else
            if (m.1 58 l5.toNatClampNeg) < (m.1 58 l4.toNatClampNeg) then
              sX6_latest_b77 k6 l1 l2 l3 l4 l5 m
            else
              sX6_latest_b73 k6 l1 l2 l3 l5 m
        else
          sX6_latest_b77 k6 l1 l2 l3 l4 l5 m
def sX6_latest_l6 (n : Nat) : Int32 → Int32 → Int32 → Int32 → Int32 → pMem → (Option Int32) := fixN (fun _ _ _ _ _ _ => none) (sX6_latest_b6) n
def sX6_latest (a1 : Int32) (a2 : Int32) (a3 : Int32) (m : pMem) : (Option Int32) :=
  bnd ((-1)) fun x1 =>
  sX6_latest_l6  5000 a1 a2 a3 x1 0 m
def sX6_moreYesThanNo_b45 (k5 : Int32 → Int32 → Int32 → Int32 → pMem → (Option Int32)) (l1 : Int32) (l2 : Int32) (l3 : Int32) (l4 : Int32) (m : pMem) : (Option Int32) :=
  k5 l1 l2 l3 (l4 + 1) m
def sX6_moreYesThanNo_b43 (k5 : Int32 → Int32 → Int32 → Int32 → pMem → (Option Int32)) (l1 : Int32) (l2 : Int32) (l4 : Int32) (t0 : Int32) (t1 : Int32) (m : pMem) : (Option Int32) :=
  bnd (t1 + t0) fun x8 =>
  sX6_moreYesThanNo_b45 k5 l1 l2 x8 l4 m
def sX6_moreYesThanNo_b60 (t0 : Int32) (m : pMem) : (Option Int32) :=
  some (vp_nar .boolean t0)
def sX6_moreYesThanNo_b5 (k5 : Int32 → Int32 → Int32 → Int32 → pMem → (Option Int32)) (l1 : Int32) (l2 : Int32) (l3 : Int32) (l4 : Int32) (m : pMem) : (Option Int32) :=
  if (6 : Int32) ≤ l4 then
    if l3 ≤ 0 then
      sX6_moreYesThanNo_b60  0 m
    else
      sX6_moreYesThanNo_b60  1 m
  else
    cbR (sX6_latest l4 l1 l2 m) fun r3 =>
    if r3 < 0 then
      sX6_moreYesThanNo_b45 k5 l1 l2 l3 l4 m
    else
      if oob r3 24 then none else
      if (m.1 57 r3.toNatClampNeg) = 0 then
        sX6_moreYesThanNo_b43 k5 l1 l2 l4 (-1) l3 m
      else
        sX6_moreYesThanNo_b43 k5 l1 l2 l4 1 l3 m
def sX6_moreYesThanNo_l5 (n : Nat) : Int32 → Int32 → Int32 → Int32 → pMem → (Option Int32) := fixN (fun _ _ _ _ _ => none) (sX6_moreYesThanNo_b5) n
def sX6_moreYesThanNo (a1 : Int32) (a2 : Int32) (m : pMem) : (Option Int32) :=
  sX6_moreYesThanNo_l5  5000 a1 a2 0 0 m
def sX3_boundByRank_b88 (k3 : Int32 → Int32 → Int32 → Int32 → pMem → (Option Int32)) (l1 : Int32) (l2 : Int32) (l3 : Int32) (l4 : Int32) (m : pMem) : (Option Int32) :=
  k3 l1 l2 l3 (l4 + 1) m
def sX3_boundByRank_b52 (k3 : Int32 → Int32 → Int32 → Int32 → pMem → (Option Int32)) (l1 : Int32) (l2 : Int32) (l3 : Int32) (l4 : Int32) (t0 : Int32) (m : pMem) : (Option Int32) :=
  if t0 = 0 then
    sX3_boundByRank_b88 k3 l1 l2 l3 l4 m
  else
    cbR (sX2_saidSame l4 l3 m) fun r10 =>
    if r10 = 0 then
      sX3_boundByRank_b88 k3 l1 l2 l3 l4 m
    else
      cbR (sX6_moreYesThanNo l4 l2 m) fun r13 =>
      if r13 = 0 then
        sX3_boundByRank_b88 k3 l1 l2 l3 l4 m
      else
        some l4
def sX3_boundByRank_b51 (k3 : Int32 → Int32 → Int32 → Int32 → pMem → (Option Int32)) (l1 : Int32) (l2 : Int32) (l3 : Int32) (l4 : Int32) (m : pMem) : (Option Int32) :=
  sX3_boundByRank_b52 k3 l1 l2 l3 l4 0 m
def sX3_boundByRank_b3 (k3 : Int32 → Int32 → Int32 → Int32 → pMem → (Option Int32)) (l1 : Int32) (l2 : Int32) (l3 : Int32) (l4 : Int32) (m : pMem) : (Option Int32) :=
  if (m.1 3 6) ≤ l4 then
    if oob l1 12 then none else
    some (m.1 45 l1.toNatClampNeg)
  else
    if oob l4 10 then none else
    if oob l1 12 then none else
    if ¬ (m.1 21 l4.toNatClampNeg) = (m.1 45 l1.toNatClampNeg) then
      sX3_boundByRank_b51 k3 l1 l2 l3 l4 m
    else
      cbR (sX2_isThere l4 l3 m) fun r6 =>
      if r6 = 0 then
        sX3_boundByRank_b51 k3 l1 l2 l3 l4 m
      else
        sX3_boundByRank_b52 k3 l1 l2 l3 l4 1 m
def sX3_boundByRank_l3 (n : Nat) : Int32 → Int32 → Int32 → Int32 → pMem → (Option Int32) := fixN (fun _ _ _ _ _ => none) (sX3_boundByRank_b3) n
def sX3_boundByRank (a1 : Int32) (a2 : Int32) (a3 : Int32) (m : pMem) : (Option Int32) :=
  sX3_boundByRank_l3  5000 a1 a2 a3 0 m
def sX3_boundOn_b100 (t0 : Int32) (m : pMem) : gO :=
  some (t0, m)
def sX3_boundOn_b76 (l4 : Int32) (t0 : Int32) (m : pMem) : gO :=
  cbR (sX2_isThere t0 l4 m) fun r17 =>
  if r17 = 0 then
    sX3_boundOn_b100  0 m
  else
    sX3_boundOn_b100  ((1 : Int32) <<< (t0 &&& 31)) m
def sX3_boundOn (a1 : Int32) (a2 : Int32) (a3 : Int32) (m : pMem) : gO :=
  if oob a1 12 then none else
  if (m.1 47 a1.toNatClampNeg) ≤ a2 then
    if oob a1 12 then none else
    if ¬ (m.1 44 a1.toNatClampNeg) = 2 then
      cbR (sX2_changesBy a2 m) fun r5 =>
      if oob a1 12 then none else
      if ¬ (m.1 44 a1.toNatClampNeg) = 1 then
        if oob a1 12 then none else
        cbR (sX2_ownerOf (m.1 46 a1.toNatClampNeg) r5 m) fun r10 =>
        sX3_boundOn_b76  r5 r10 m
      else
        cbR (sX3_boundByRank a1 a2 r5 m) fun r12 =>
        sX3_boundOn_b76  r5 r12 m
    else
      cbE (sX3_boundByTrade a1 a2 a3 m) fun r14 m16 =>
      some (r14, m16)
  else
    some (0, m)
def sX8_bound (a1 : Int32) (a2 : Int32) (m : pMem) : gO :=
  cbR (sX3_knowsPact a1 m) fun r1 =>
  if ¬ r1 = 0 then
    cbR (sX8_isDay a2 m) fun r4 =>
    if ¬ r4 = 0 then
      cbE (sX3_boundOn a1 a2 0 m) fun r7 m9 =>
      some (r7, m9)
    else
      some ((-3), m)
  else
    some ((-2), m)
def sX8_burden_b30 (m : pMem) : gO :=
  some ((-3), m)
def sX8_burden (a1 : Int32) (a2 : Int32) (a3 : Int32) (m : pMem) : gO :=
  cbR (sX2_knowsLand a1 m) fun r1 =>
  if ¬ r1 = 0 then
    cbR (sX8_isDay a2 m) fun r4 =>
    if r4 = 0 then
      sX8_burden_b30  m
    else
      if a3 < 0 then
        sX8_burden_b30  m
      else
        if a3 ≤ 2 then
          cbE (sX1_burdenOf a1 a2 a3 m) fun r9 m11 =>
          some ((100000 : Int32) + r9, m11)
        else
          sX8_burden_b30  m
  else
    some ((-2), m)
def sX2_latestDay_b22 (t0 : Int32) (m : pMem) : (Option Int32) :=
  some t0
def sX2_latestDay (m : pMem) : (Option Int32) :=
  if ¬ (m.1 3 12) = 0 then
    if oob ((m.1 3 12) - (1 : Int32)) 12 then none else
    sX2_latestDay_b22  (m.1 25 (((m.1 3 12) - (1 : Int32)).toNatClampNeg)) m
  else
    sX2_latestDay_b22  0 m
def sX8_mayChangeOn_b45 (t0 : Int32) (m : pMem) : (Option Int32) :=
  some (vp_nar .boolean t0)
def sX8_mayChangeOn_b44 (m : pMem) : (Option Int32) :=
  sX8_mayChangeOn_b45  0 m
def sX8_mayChangeOn (a1 : Int32) (m : pMem) : (Option Int32) :=
  cbR (sX8_isDay a1 m) fun r1 =>
  if r1 = 0 then
    sX8_mayChangeOn_b44  m
  else
    cbR (sX2_latestDay m) fun r4 =>
    if a1 < r4 then
      sX8_mayChangeOn_b44  m
    else
      if a1 ≤ (m.1 4 9) then
        sX8_mayChangeOn_b44  m
      else
        if a1 ≤ (m.1 2 6) then
          sX8_mayChangeOn_b44  m
        else
          sX8_mayChangeOn_b45  1 m
def sX2_isSomeNotAll_b34 (t0 : Int32) (m : pMem) : (Option Int32) :=
  some (vp_nar .boolean t0)
def sX2_isSomeNotAll_b33 (m : pMem) : (Option Int32) :=
  sX2_isSomeNotAll_b34  0 m
def sX2_isSomeNotAll (a1 : Int32) (a2 : Int32) (m : pMem) : (Option Int32) :=
  if oob (m.1 3 12) 13 then none else
  if oob a2 10 then none else
  bnd (m.1 (30 + (m.1 3 12).toNatClampNeg) a2.toNatClampNeg) fun x3 =>
  if a1 = 0 then
    sX2_isSomeNotAll_b33  m
  else
    if a1 = x3 then
      sX2_isSomeNotAll_b33  m
    else
      if ¬ (a1 &&& (x3 ^^^ (-1 : Int32))) = 0 then
        sX2_isSomeNotAll_b33  m
      else
        sX2_isSomeNotAll_b34  1 m
def sX8_landsThatCome_b18 (t0 : Int32) (m : pMem) : (Option Int32) :=
  some t0
def sX8_landsThatCome (a1 : Int32) (m : pMem) : (Option Int32) :=
  if ¬ a1 = 1 then
    if ¬ a1 = 0 then
      sX8_landsThatCome_b18  0 m
    else
      sX8_landsThatCome_b18  1 m
  else
    sX8_landsThatCome_b18  2 m
def sX0_mark (a1 : Int32) (m : pMem) : gO :=
  if oob (a1 >>> ((6 : Int32) &&& 31)) 16 then none else
  if oob (a1 >>> ((6 : Int32) &&& 31)) 16 then none else
  bnd (st2 m 10 ((a1 >>> ((6 : Int32) &&& 31)).toNatClampNeg) ((m.2 10 ((a1 >>> ((6 : Int32) &&& 31)).toNatClampNeg)) ||| ((1 : Int64) <<< ((a1 &&& (63 : Int32)).toInt64 &&& 63)))) fun m3 =>
  some (0, m3)
def sX2_comesOutOf (a1 : Int32) (m : pMem) : gO :=
  if oob (m.1 3 6) 10 then none else
  bnd (st1 m 21 ((m.1 3 6).toNatClampNeg) a1) fun m2 =>
  cbR (sX2_latestDay m2) fun r3 =>
  if oob (m2.1 3 6) 10 then none else
  bnd (st1 m2 22 ((m2.1 3 6).toNatClampNeg) r3) fun m6 =>
  if oob (m6.1 3 6) 10 then none else
  bnd (st1 m6 23 ((m6.1 3 6).toNatClampNeg) (-1)) fun m8 =>
  if oob (m8.1 3 12) 13 then none else
  if oob (m8.1 3 12) 13 then none else
  bnd (st1 m8 43 ((m8.1 3 12).toNatClampNeg) ((m8.1 43 ((m8.1 3 12).toNatClampNeg)) ||| ((1 : Int32) <<< ((m8.1 3 6) &&& 31)))) fun m11 =>
  bnd (st1 m11 3 6 ((m11.1 3 6) + (1 : Int32))) fun m12 =>
  some (0, m12)
def sX2_moveGrounds (a1 : Int32) (a2 : Int32) (a3 : Int32) (m : pMem) : gO :=
  if oob (m.1 3 12) 13 then none else
  if oob a1 10 then none else
  if oob a1 10 then none else
  bnd (st1 m (30 + (m.1 3 12).toNatClampNeg) a1.toNatClampNeg ((m.1 (30 + (m.1 3 12).toNatClampNeg) a1.toNatClampNeg) &&& (a3 ^^^ (-1 : Int32)))) fun m4 =>
  if oob a2 10 then none else
  if oob a2 10 then none else
  bnd (st1 m4 (30 + (m.1 3 12).toNatClampNeg) a2.toNatClampNeg ((m4.1 (30 + (m.1 3 12).toNatClampNeg) a2.toNatClampNeg) ||| a3)) fun m7 =>
  some (0, m7)
def sX2_partOff (a1 : Int32) (a2 : Int32) (m : pMem) : gO :=
  bnd (m.1 3 6) fun x1 =>
  cbE (sX2_comesOutOf a1 m) fun _ m4 =>
  cbE (sX2_moveGrounds a1 x1 a2 m4) fun _ m7 =>
  some (0, m7)
def sX2_ends (a1 : Int32) (m : pMem) : gO :=
  if oob (m.1 3 12) 13 then none else
  if oob (m.1 3 12) 13 then none else
  bnd (st1 m 43 ((m.1 3 12).toNatClampNeg) ((m.1 43 ((m.1 3 12).toNatClampNeg)) &&& (((1 : Int32) <<< (a1 &&& 31)) ^^^ (-1 : Int32)))) fun m3 =>
  if oob a1 10 then none else
  bnd (st1 m3 23 a1.toNatClampNeg ((m3.1 3 12) - (1 : Int32))) fun m5 =>
  some (0, m5)
def sX2_fallApart (a1 : Int32) (a2 : Int32) (m : pMem) : gO :=
  cbE (sX2_partOff a1 a2 m) fun _ m3 =>
  if oob (m3.1 3 12) 13 then none else
  if oob a1 10 then none else
  cbE (sX2_partOff a1 (m3.1 (30 + (m3.1 3 12).toNatClampNeg) a1.toNatClampNeg) m3) fun _ m8 =>
  cbE (sX2_ends a1 m8) fun _ m11 =>
  some (0, m11)
def sX2_join (a1 : Int32) (a2 : Int32) (m : pMem) : gO :=
  if oob (m.1 3 12) 13 then none else
  if oob a2 10 then none else
  cbE (sX2_moveGrounds a2 a1 (m.1 (30 + (m.1 3 12).toNatClampNeg) a2.toNatClampNeg) m) fun _ m5 =>
  cbE (sX2_ends a2 m5) fun _ m8 =>
  some (0, m8)
def sX2_addChange_b197 (t0 : Int32) (m : pMem) : gO :=
  some (t0, m)
def sX2_addChange_b191 (l7 : Int32) (m : pMem) : gO :=
  sX2_addChange_b197  l7 m
def sX2_addChange_b182 (l1 : Int32) (l3 : Int32) (l7 : Int32) (m : pMem) : gO :=
  if l1 = 0 then
    sX2_addChange_b191  l7 m
  else
    if ¬ l1 = 1 then
      sX2_addChange_b197  l3 m
    else
      sX2_addChange_b191  l7 m
def sX2_addChange_b168 (l1 : Int32) (l3 : Int32) (l4 : Int32) (l5 : Int32) (l7 : Int32) (m : pMem) : gO :=
  if ¬ l1 = 3 then
    sX2_addChange_b182  l1 l3 l7 m
  else
    cbE (sX2_moveGrounds l3 l4 l5 m) fun _ m42 =>
    sX2_addChange_b182  l1 l3 l7 m42
def sX2_addChange_b156 (l1 : Int32) (l3 : Int32) (l4 : Int32) (l5 : Int32) (l7 : Int32) (m : pMem) : gO :=
  if ¬ l1 = 2 then
    sX2_addChange_b168  l1 l3 l4 l5 l7 m
  else
    cbE (sX2_join l3 l4 m) fun _ m38 =>
    sX2_addChange_b168  l1 l3 l4 l5 l7 m38
def sX2_addChange_b144 (l1 : Int32) (l3 : Int32) (l4 : Int32) (l5 : Int32) (l7 : Int32) (m : pMem) : gO :=
  if ¬ l1 = 1 then
    sX2_addChange_b156  l1 l3 l4 l5 l7 m
  else
    cbE (sX2_fallApart l3 l5 m) fun _ m34 =>
    sX2_addChange_b156  l1 l3 l4 l5 l7 m34
def sX2_addChange (a1 : Int32) (a2 : Int32) (a3 : Int32) (a4 : Int32) (a5 : Int32) (m : pMem) : gO :=
  bnd (m.1 3 12) fun x1 =>
  bnd (m.1 3 6) fun x2 =>
  if oob x1 12 then none else
  bnd (st1 m 24 x1.toNatClampNeg a1) fun m4 =>
  if oob x1 12 then none else
  bnd (st1 m4 25 x1.toNatClampNeg a2) fun m6 =>
  if oob x1 12 then none else
  bnd (st1 m6 26 x1.toNatClampNeg a3) fun m8 =>
  if oob x1 12 then none else
  bnd (st1 m8 27 x1.toNatClampNeg a4) fun m10 =>
  if oob x1 12 then none else
  bnd (st1 m10 28 x1.toNatClampNeg x2) fun m12 =>
  if oob x1 12 then none else
  bnd (st1 m12 106 x1.toNatClampNeg a5) fun m14 =>
  if oob x1 13 then none else
  if oob a3 10 then none else
  if oob x1 12 then none else
  bnd (st1 m14 107 x1.toNatClampNeg ((m14.1 (30 + x1.toNatClampNeg) a3.toNatClampNeg) &&& (a5 ^^^ (-1 : Int32)))) fun m18 =>
  if oob x1 13 then none else
  if oob (x1 + (1 : Int32)) 13 then none else
  if ¬ ((0 : Int32).toNatClampNeg + (10 : Int32).toNatClampNeg ≤ 10 ∧ (0 : Int32).toNatClampNeg + (10 : Int32).toNatClampNeg ≤ 10) then none else
  bnd (up1 m18 (30 + (x1 + (1 : Int32)).toNatClampNeg) (va_cpy (m18.1 (30 + x1.toNatClampNeg)) (m18.1 (30 + (x1 + (1 : Int32)).toNatClampNeg)) (0 : Int32).toNatClampNeg (0 : Int32).toNatClampNeg (10 : Int32).toNatClampNeg)) fun m21 =>
  if oob x1 13 then none else
  if oob (x1 + (1 : Int32)) 13 then none else
  bnd (st1 m21 43 ((x1 + (1 : Int32)).toNatClampNeg) (m21.1 43 x1.toNatClampNeg)) fun m25 =>
  bnd (st1 m25 3 12 ((m25.1 3 12) + (1 : Int32))) fun m26 =>
  if ¬ a1 = 0 then
    sX2_addChange_b144  a1 a3 a4 a5 x2 m26
  else
    cbE (sX2_partOff a3 a5 m26) fun _ m30 =>
    sX2_addChange_b144  a1 a3 a4 a5 x2 m30
def sX8_change_b17 (m : pMem) : gO :=
  some ((-3), m)
def sX8_change_b170 (m : pMem) : gO :=
  some ((-5), m)
def sX8_change_b146 (l1 : Int32) (l2 : Int32) (l3 : Int32) (l4 : Int32) (l5 : Int32) (l6 : Int32) (m : pMem) : gO :=
  if (12 : Int32) ≤ l6 then
    sX8_change_b170  m
  else
    cbR (sX8_landsThatCome l1 m) fun r28 =>
    if ((m.1 3 6) + r28) ≤ 10 then
      cbE (sX0_mark l2 m) fun _ m33 =>
      cbE (sX2_addChange l1 l2 l3 l4 l5 m33) fun r34 m36 =>
      some (r34, m36)
    else
      sX8_change_b170  m
def sX8_change_b125 (l1 : Int32) (l2 : Int32) (l3 : Int32) (l4 : Int32) (l5 : Int32) (l6 : Int32) (m : pMem) : gO :=
  if ¬ l1 = 4 then
    sX8_change_b146  l1 l2 l3 l4 l5 l6 m
  else
    if oob l3 10 then none else
    if ¬ (m.1 21 l3.toNatClampNeg) = (-1) then
      sX8_change_b146  l1 l2 l3 l4 l5 l6 m
    else
      some ((-4), m)
def sX8_change_b109 (l1 : Int32) (l2 : Int32) (l3 : Int32) (l4 : Int32) (l5 : Int32) (l6 : Int32) (m : pMem) : gO :=
  cbR (sX2_isSomeNotAll l5 l3 m) fun r21 =>
  if ¬ r21 = 0 then
    sX8_change_b125  l1 l2 l3 l4 l5 l6 m
  else
    some ((-4), m)
def sX8_change_b95 (l1 : Int32) (l2 : Int32) (l3 : Int32) (l4 : Int32) (l5 : Int32) (l6 : Int32) (m : pMem) : gO :=
  if l1 = 0 then
    sX8_change_b109  l1 l2 l3 l4 l5 l6 m
  else
    if l1 = 1 then
      sX8_change_b109  l1 l2 l3 l4 l5 l6 m
    else
      if ¬ l1 = 3 then
        sX8_change_b125  l1 l2 l3 l4 l5 l6 m
      else
        sX8_change_b109  l1 l2 l3 l4 l5 l6 m
def sX8_change_b81 (l1 : Int32) (l2 : Int32) (l3 : Int32) (l4 : Int32) (l5 : Int32) (l6 : Int32) (l7 : Int32) (m : pMem) : gO :=
  if l7 = 0 then
    sX8_change_b95  l1 l2 l3 l4 l5 l6 m
  else
    if ¬ l3 = l4 then
      sX8_change_b95  l1 l2 l3 l4 l5 l6 m
    else
      some ((-4), m)
def sX8_change_b78 (m : pMem) : gO :=
  some ((-2), m)
def sX8_change_b44 (l1 : Int32) (l2 : Int32) (l3 : Int32) (l4 : Int32) (l5 : Int32) (l6 : Int32) (t0 : Int32) (m : pMem) : gO :=
  cbR (sX2_isThere l3 l6 m) fun r9 =>
  if r9 = 0 then
    sX8_change_b78  m
  else
    if t0 = 0 then
      sX8_change_b81  l1 l2 l3 l4 l5 l6 t0 m
    else
      cbR (sX2_isThere l4 l6 m) fun r13 =>
      if ¬ r13 = 0 then
        sX8_change_b81  l1 l2 l3 l4 l5 l6 t0 m
      else
        sX8_change_b78  m
def sX8_change_b39 (l1 : Int32) (l2 : Int32) (l3 : Int32) (l4 : Int32) (l5 : Int32) (l6 : Int32) (m : pMem) : gO :=
  sX8_change_b44  l1 l2 l3 l4 l5 l6 1 m
def sX8_change (a1 : Int32) (a2 : Int32) (a3 : Int32) (a4 : Int32) (a5 : Int32) (m : pMem) : gO :=
  if a1 < 0 then
    sX8_change_b17  m
  else
    if (4 : Int32) < a1 then
      sX8_change_b17  m
    else
      cbR (sX8_mayChangeOn a2 m) fun r3 =>
      if ¬ r3 = 0 then
        bnd (m.1 3 12) fun x6 =>
        if a1 = 2 then
          sX8_change_b39  a1 a2 a3 a4 a5 x6 m
        else
          if ¬ a1 = 3 then
            sX8_change_b44  a1 a2 a3 a4 a5 x6 0 m
          else
            sX8_change_b39  a1 a2 a3 a4 a5 x6 m
      else
        sX8_change_b17  m
def sX8_count (a1 : Int32) (m : pMem) : (Option Int32) :=
  if a1 = 0 then
    some (m.1 3 2)
  else if a1 = 1 then
    some (m.1 3 6)
  else if a1 = 2 then
    some (m.1 3 12)
  else if a1 = 3 then
    some (m.1 6 1)
  else if a1 = 4 then
    some (m.1 4 8)
  else if a1 = 5 then
    some (m.1 8 5)
  else if a1 = 6 then
    some (m.1 7 4)
  else if a1 = 7 then
    some (m.1 2 5)
  else if a1 = 8 then
    some (m.1 2 10)
  else if a1 = 9 then
    some (m.1 5 3)
  else 
    some (-3 : Int32)
def sX2_knowsGround_b17 (t0 : Int32) (m : pMem) : (Option Int32) :=
  some (vp_nar .boolean t0)
def sX2_knowsGround_b16 (m : pMem) : (Option Int32) :=
  sX2_knowsGround_b17  0 m
def sX2_knowsGround (a1 : Int32) (m : pMem) : (Option Int32) :=
  if a1 < 0 then
    sX2_knowsGround_b16  m
  else
    if (m.1 3 2) ≤ a1 then
      sX2_knowsGround_b16  m
    else
      sX2_knowsGround_b17  1 m
def sX1_addDebt (a1 : Int32) (a2 : Int32) (a3 : Int32) (a4 : Int32) (m : pMem) : gO :=
  bnd (m.1 2 5) fun x1 =>
  if oob x1 8 then none else
  bnd (st1 m 11 x1.toNatClampNeg a1) fun m3 =>
  if oob x1 8 then none else
  bnd (st1 m3 12 x1.toNatClampNeg a2) fun m5 =>
  if oob x1 8 then none else
  bnd (st1 m5 13 x1.toNatClampNeg a3) fun m7 =>
  if oob x1 8 then none else
  bnd (st1 m7 14 x1.toNatClampNeg a4) fun m9 =>
  bnd (st1 m9 2 6 (if (m9.1 2 6) < a4 then a4 else (m9.1 2 6))) fun m10 =>
  bnd (st1 m10 2 5 ((m10.1 2 5) + (1 : Int32))) fun m11 =>
  some (x1, m11)
def sX8_debt_b105 (l1 : Int32) (l2 : Int32) (l3 : Int32) (l4 : Int32) (m : pMem) : gO :=
  if (m.1 2 5) < 8 then
    cbE (sX1_addDebt l1 l2 l3 l4 m) fun r23 m25 =>
    some (r23, m25)
  else
    some ((-5), m)
def sX8_debt_b53 (m : pMem) : gO :=
  some ((-3), m)
def sX8_debt_b33 (l1 : Int32) (l2 : Int32) (l3 : Int32) (l4 : Int32) (m : pMem) : gO :=
  if l2 < 1 then
    sX8_debt_b53  m
  else
    if (9999 : Int32) < l2 then
      sX8_debt_b53  m
    else
      cbR (sX8_isDay l4 m) fun r10 =>
      if ¬ r10 = 0 then
        cbR (sX2_changesBy l4 m) fun r13 =>
        cbR (sX2_isThere l1 r13 m) fun r15 =>
        if ¬ r15 = 0 then
          if l3 = (-1) then
            sX8_debt_b105  l1 l2 l3 l4 m
          else
            cbR (sX2_ownerOf l3 r13 m) fun r19 =>
            if r19 = l1 then
              sX8_debt_b105  l1 l2 l3 l4 m
            else
              some ((-4), m)
        else
          some ((-4), m)
      else
        sX8_debt_b53  m
def sX8_debt (a1 : Int32) (a2 : Int32) (a3 : Int32) (a4 : Int32) (m : pMem) : gO :=
  cbR (sX2_knowsLand a1 m) fun r1 =>
  if ¬ r1 = 0 then
    if a3 = (-1) then
      sX8_debt_b33  a1 a2 a3 a4 m
    else
      cbR (sX2_knowsGround a3 m) fun r5 =>
      if ¬ r5 = 0 then
        sX8_debt_b33  a1 a2 a3 a4 m
      else
        some ((-2), m)
  else
    some ((-2), m)
def sX5_empty (m : pMem) : gO :=
  bnd (m.1 6 1) fun x1 =>
  bnd (st1 m 6 1 0) fun m2 =>
  some (x1, m2)
def sX8_erase (m : pMem) : gO :=
  cbE (sX5_empty m) fun r1 m3 =>
  some (r1, m3)
def sX5_isLetter_b17 (t0 : Int32) (m : pMem) : (Option Int32) :=
  some (vp_nar .boolean t0)
def sX5_isLetter_b16 (m : pMem) : (Option Int32) :=
  sX5_isLetter_b17  0 m
def sX5_isLetter (a1 : Int32) (m : pMem) : (Option Int32) :=
  if a1 < 97 then
    sX5_isLetter_b16  m
  else
    if (122 : Int32) < a1 then
      sX5_isLetter_b16  m
    else
      sX5_isLetter_b17  1 m
def sX5_isDigit_b17 (t0 : Int32) (m : pMem) : (Option Int32) :=
  some (vp_nar .boolean t0)
def sX5_isDigit_b16 (m : pMem) : (Option Int32) :=
  sX5_isDigit_b17  0 m
def sX5_isDigit (a1 : Int32) (m : pMem) : (Option Int32) :=
  if a1 < 48 then
    sX5_isDigit_b16  m
  else
    if (57 : Int32) < a1 then
      sX5_isDigit_b16  m
    else
      sX5_isDigit_b17  1 m
def sX5_nextToken_b176 (m : pMem) : gO :=
  some (0, m)
def sX5_nextToken_b144 (m : pMem) : gO :=
  if ¬ (m.1 6 4) = (m.1 6 3) then
    sX5_nextToken_b176  m
  else
    if (m.1 6 1) ≤ (m.1 6 4) then
      sX5_nextToken_b176  m
    else
      bnd (st1 m 6 4 ((m.1 6 4) + (1 : Int32))) fun m22 =>
      sX5_nextToken_b176  m22
def sX5_nextToken_b105 (k105 : pMem → gO) (m : pMem) : gO :=
  if (m.1 6 1) ≤ (m.1 6 4) then
    sX5_nextToken_b144  m
  else
    if oob (m.1 6 4) 160 then none else
    cbR (sX5_isDigit (m.1 52 ((m.1 6 4).toNatClampNeg)) m) fun r16 =>
    if r16 = 0 then
      sX5_nextToken_b144  m
    else
      bnd (st1 m 6 4 ((m.1 6 4) + (1 : Int32))) fun m19 =>
      k105 m19
def sX5_nextToken_l105 (n : Nat) : pMem → gO := fixN (fun _ => none) (sX5_nextToken_b105) n
def sX5_nextToken_b93 (m : pMem) : gO :=
  if (m.1 6 4) ≤ (m.1 6 3) then
    sX5_nextToken_l105  5000 m
  else
    some (0, m)
def sX5_nextToken_b54 (k54 : pMem → gO) (m : pMem) : gO :=
  if (m.1 6 1) ≤ (m.1 6 4) then
    sX5_nextToken_b93  m
  else
    if oob (m.1 6 4) 160 then none else
    cbR (sX5_isLetter (m.1 52 ((m.1 6 4).toNatClampNeg)) m) fun r9 =>
    if r9 = 0 then
      sX5_nextToken_b93  m
    else
      bnd (st1 m 6 4 ((m.1 6 4) + (1 : Int32))) fun m12 =>
      k54 m12
def sX5_nextToken_l54 (n : Nat) : pMem → gO := fixN (fun _ => none) (sX5_nextToken_b54) n
def sX5_nextToken_b46 (m : pMem) : gO :=
  bnd (st1 m 6 4 (m.1 6 3)) fun m6 =>
  sX5_nextToken_l54  5000 m6
def sX5_nextToken_b8 (k8 : pMem → gO) (m : pMem) : gO :=
  if (m.1 6 1) ≤ (m.1 6 3) then
    sX5_nextToken_b46  m
  else
    if oob (m.1 6 3) 160 then none else
    if ¬ (m.1 52 ((m.1 6 3).toNatClampNeg)) = 32 then
      sX5_nextToken_b46  m
    else
      bnd (st1 m 6 3 ((m.1 6 3) + (1 : Int32))) fun m5 =>
      k8 m5
def sX5_nextToken_l8 (n : Nat) : pMem → gO := fixN (fun _ => none) (sX5_nextToken_b8) n
def sX5_nextToken (m : pMem) : gO :=
  bnd (st1 m 6 3 (m.1 6 4)) fun m1 =>
  sX5_nextToken_l8  5000 m1
def sX5_isWord_b20 (k20 : Nat → Int32 → pMem → (Option Int32)) (l1 : Nat) (l2 : Int32) (m : pMem) : (Option Int32) :=
  if (sLen l1) ≤ l2 then
    some (1 : Int32)
  else
    if oob ((m.1 6 3) + l2) 160 then none else
    if oob l2 (gSl.getD l1 0) then none else
    if (m.1 52 (((m.1 6 3) + l2).toNatClampNeg)) = (sChr l1 l2.toNatClampNeg) then
      k20 l1 (l2 + 1) m
    else
      some (0 : Int32)
def sX5_isWord_l20 (n : Nat) : Nat → Int32 → pMem → (Option Int32) := fixN (fun _ _ _ => none) (sX5_isWord_b20) n
def sX5_isWord (a1 : Nat) (m : pMem) : (Option Int32) :=
  if ((m.1 6 4) - (m.1 6 3)) = (sLen a1) then
    sX5_isWord_l20  5000 a1 0 m
  else
    some (0 : Int32)
def sX5_put (a1 : Int32) (a2 : Int32) (m : pMem) : gO :=
  if oob a1 5 then none else
  bnd (st1 m 54 a1.toNatClampNeg a2) fun m2 =>
  some (1, m2)
def sX5_readSilence (m : pMem) : gO :=
  cbE (sX5_nextToken m) fun _ m3 =>
  cbR (sX5_isWord 3 m3) fun r4 =>
  if r4 = 0 then
    cbR (sX5_isWord 4 m3) fun r7 =>
    if r7 = 0 then
      some (0, m3)
    else
      cbE (sX5_put 1 1 m3) fun r10 m12 =>
      some (vp_nar .boolean r10, m12)
  else
    cbE (sX5_put 1 0 m3) fun r13 m15 =>
    some (vp_nar .boolean r13, m15)
def sX5_readNumber_b43 (m : pMem) : gO :=
  some (0, m)
def sX5_readNumber_b52 (k52 : Int32 → Int32 → pMem → gO) (l1 : Int32) (l2 : Int32) (m : pMem) : gO :=
  if (m.1 6 4) ≤ l2 then
    cbE (sX5_put 2 l1 m) fun r12 m14 =>
    some (vp_nar .boolean r12, m14)
  else
    if oob l2 160 then none else
    bnd (((l1 * (10 : Int32)) + (m.1 52 l2.toNatClampNeg)) - (48 : Int32)) fun x16 =>
    k52 x16 (l2 + 1) m
def sX5_readNumber_l52 (n : Nat) : Int32 → Int32 → pMem → gO := fixN (fun _ _ _ => none) (sX5_readNumber_b52) n
def sX5_readNumber (m : pMem) : gO :=
  cbE (sX5_nextToken m) fun _ m3 =>
  if (m3.1 6 4) ≤ (m3.1 6 3) then
    sX5_readNumber_b43  m3
  else
    if (3 : Int32) < ((m3.1 6 4) - (m3.1 6 3)) then
      sX5_readNumber_b43  m3
    else
      if oob (m3.1 6 3) 160 then none else
      cbR (sX5_isDigit (m3.1 52 ((m3.1 6 3).toNatClampNeg)) m3) fun r7 =>
      if ¬ r7 = 0 then
        bnd (m3.1 6 3) fun x10 =>
        sX5_readNumber_l52  5000 0 x10 m3
      else
        sX5_readNumber_b43  m3
def sX5_readChoice (a1 : Int32) (a2 : Nat) (a3 : Nat) (a4 : Nat) (m : pMem) : gO :=
  cbE (sX5_nextToken m) fun _ m3 =>
  cbR (sX5_isWord a2 m3) fun r4 =>
  if r4 = 0 then
    cbR (sX5_isWord a3 m3) fun r7 =>
    if r7 = 0 then
      cbR (sX5_isWord a4 m3) fun r10 =>
      if r10 = 0 then
        some (0, m3)
      else
        cbE (sX5_put a1 2 m3) fun r13 m15 =>
        some (vp_nar .boolean r13, m15)
    else
      cbE (sX5_put a1 1 m3) fun r16 m18 =>
      some (vp_nar .boolean r16, m18)
  else
    cbE (sX5_put a1 0 m3) fun r19 m21 =>
    some (vp_nar .boolean r19, m21)
def sX5_readLine (m : pMem) : gO :=
  cbE (sX5_nextToken m) fun _ m3 =>
  cbR (sX5_isWord 0 m3) fun r4 =>
  if r4 = 0 then
    cbR (sX5_isWord 1 m3) fun r7 =>
    if r7 = 0 then
      cbR (sX5_isWord 2 m3) fun r10 =>
      if r10 = 0 then
        cbR (sX5_isWord 5 m3) fun r13 =>
        if r13 = 0 then
          cbR (sX5_isWord 6 m3) fun r16 =>
          if r16 = 0 then
            cbR (sX5_isWord 10 m3) fun r19 =>
            if r19 = 0 then
              some (0, m3)
            else
              cbE (sX5_readChoice 4 11 12 13 m3) fun r22 m24 =>
              some (vp_nar .boolean r22, m24)
          else
            cbE (sX5_readChoice 3 7 8 9 m3) fun r25 m27 =>
            some (vp_nar .boolean r25, m27)
        else
          cbE (sX5_readNumber m3) fun r28 m30 =>
          some (vp_nar .boolean r28, m30)
      else
        cbE (sX5_readSilence m3) fun r31 m33 =>
        some (vp_nar .boolean r31, m33)
    else
      cbE (sX5_put 0 1 m3) fun r34 m36 =>
      some (vp_nar .boolean r34, m36)
  else
    cbE (sX5_put 0 0 m3) fun r37 m39 =>
    some (vp_nar .boolean r37, m39)
def sX5_firstFault_b23 (k23 : Int32 → pMem → gO) (l1 : Int32) (m : pMem) : gO :=
  if (8 : Int32) < l1 then
    some (m.1 6 3, m)
  else
    cbE (sX5_readLine m) fun r7 m9 =>
    if ¬ r7 = 0 then
      bnd (st1 m9 6 5 l1) fun m11 =>
      cbE (sX5_nextToken m11) fun _ m14 =>
      if (m14.1 6 3) < (m14.1 6 1) then
        if oob (m14.1 6 3) 160 then none else
        if (m14.1 52 ((m14.1 6 3).toNatClampNeg)) = 59 then
          k23 (l1 + 1) m14
        else
          some (m14.1 6 3, m14)
      else
        some ((-1), m14)
    else
      some (m9.1 6 3, m9)
def sX5_firstFault_l23 (n : Nat) : Int32 → pMem → gO := fixN (fun _ _ => none) (sX5_firstFault_b23) n
def sX5_firstFault (m : pMem) : gO :=
  cbE (sJ7_fill_53178 54 5 0 m) fun _ m3 =>
  bnd (st1 m3 54 ((2 : Int32).toNatClampNeg) 100) fun m4 =>
  bnd (st1 m4 6 4 0) fun m5 =>
  sX5_firstFault_l23  5000 1 m5
def sX8_fault (m : pMem) : gO :=
  cbE (sX5_firstFault m) fun r1 m3 =>
  some (r1, m3)
def sX8_from (a1 : Int32) (a2 : Int32) (m : pMem) : (Option Int32) :=
  cbR (sX2_knowsLand a1 m) fun r1 =>
  if ¬ r1 = 0 then
    if ¬ a2 = 0 then
      if ¬ a2 = 1 then
        some (-3 : Int32)
      else
        if oob a1 10 then none else
        some (m.1 22 a1.toNatClampNeg)
    else
      if oob a1 10 then none else
      some (m.1 21 a1.toNatClampNeg)
  else
    some (-2 : Int32)
def sX2_addGround (a1 : Int32) (a2 : Int32) (m : pMem) : gO :=
  bnd (m.1 3 2) fun x1 =>
  if oob x1 8 then none else
  bnd (st1 m 19 x1.toNatClampNeg a1) fun m3 =>
  if oob x1 8 then none else
  bnd (st1 m3 20 x1.toNatClampNeg a2) fun m5 =>
  bnd (st1 m5 (30 + (0 : Int32).toNatClampNeg) ((0 : Int32).toNatClampNeg) ((m5.1 (30 + (0 : Int32).toNatClampNeg) ((0 : Int32).toNatClampNeg)) ||| ((1 : Int32) <<< (x1 &&& 31)))) fun m6 =>
  bnd (st1 m6 3 2 ((m6.1 3 2) + (1 : Int32))) fun m7 =>
  some (x1, m7)
def sX8_ground_b23 (m : pMem) : gO :=
  some ((-3), m)
def sX8_ground (a1 : Int32) (a2 : Int32) (m : pMem) : gO :=
  if a1 < 1 then
    sX8_ground_b23  m
  else
    if (999 : Int32) < a1 then
      sX8_ground_b23  m
    else
      if a2 < 0 then
        sX8_ground_b23  m
      else
        if a2 ≤ 999 then
          if (m.1 3 12) ≤ 0 then
            if (m.1 3 2) < 8 then
              cbE (sX2_addGround a1 a2 m) fun r7 m9 =>
              some (r7, m9)
            else
              some ((-5), m)
          else
            some ((-4), m)
        else
          sX8_ground_b23  m
def sJ6_bitCount_0f7a4 (a1 : Int32) (m : pMem) : (Option Int32) :=
  bnd (a1 - (((a1.toUInt32 >>> ((1 : Int32).toUInt32 &&& Int32.toUInt32 31)).toInt32) &&& (1431655765 : Int32))) fun x1 =>
  bnd ((x1 &&& (858993459 : Int32)) + (((x1.toUInt32 >>> ((2 : Int32).toUInt32 &&& Int32.toUInt32 31)).toInt32) &&& (858993459 : Int32))) fun x2 =>
  bnd ((x2 + ((x2.toUInt32 >>> ((4 : Int32).toUInt32 &&& Int32.toUInt32 31)).toInt32)) &&& (252645135 : Int32)) fun x3 =>
  bnd (x3 + ((x3.toUInt32 >>> ((8 : Int32).toUInt32 &&& Int32.toUInt32 31)).toInt32)) fun x4 =>
  bnd (x4 + ((x4.toUInt32 >>> ((16 : Int32).toUInt32 &&& Int32.toUInt32 31)).toInt32)) fun x5 =>
  some (x5 &&& (63 : Int32))
def sX3_turnsOn_b4 (k4 : Int32 → Int32 → Int32 → pMem → gO) (l1 : Int32) (l2 : Int32) (l3 : Int32) (m : pMem) : gO :=
  if (m.1 4 8) ≤ l3 then
    some (l2, m)
  else
    cbE (sX3_boundOn l3 l1 0 m) fun r2 m4 =>
    cbE (sX3_boundOn l3 (l1 - (1 : Int32)) 0 m4) fun r5 m7 =>
    cbR (sJ6_bitCount_0f7a4 (r2 ^^^ r5) m7) fun r8 =>
    bnd (l2 + r8) fun x10 =>
    k4 l1 x10 (l3 + 1) m7
def sX3_turnsOn_l4 (n : Nat) : Int32 → Int32 → Int32 → pMem → gO := fixN (fun _ _ _ _ => none) (sX3_turnsOn_b4) n
def sX3_turnsOn (a1 : Int32) (m : pMem) : gO :=
  sX3_turnsOn_l4  5000 a1 0 0 m
def sX0_isMarked_b26 (t0 : Int32) (m : pMem) : (Option Int32) :=
  some (vp_nar .boolean t0)
def sX0_isMarked (a1 : Int32) (m : pMem) : (Option Int32) :=
  if oob (a1 >>> ((6 : Int32) &&& 31)) 16 then none else
  if (lg_cmp (((m.2 10 ((a1 >>> ((6 : Int32) &&& 31)).toNatClampNeg)) >>> ((a1 &&& (63 : Int32)).toInt64 &&& 63)) &&& (1 : Int64)) 0) = 0 then
    sX0_isMarked_b26  0 m
  else
    sX0_isMarked_b26  1 m
def sX3_turnsSinceAhead_b4 (k4 : Int32 → Int32 → Int32 → pMem → gO) (l1 : Int32) (l2 : Int32) (l3 : Int32) (m : pMem) : gO :=
  if (m.1 4 8) ≤ l3 then
    some (l2, m)
  else
    cbE (sX3_boundOn l3 l1 0 m) fun r2 m4 =>
    if oob l3 12 then none else
    cbR (sJ6_bitCount_0f7a4 (r2 ^^^ (m4.1 48 l3.toNatClampNeg)) m4) fun r6 =>
    bnd (l2 + r6) fun x8 =>
    if oob l3 12 then none else
    bnd (st1 m4 48 l3.toNatClampNeg r2) fun m10 =>
    k4 l1 x8 (l3 + 1) m10
def sX3_turnsSinceAhead_l4 (n : Nat) : Int32 → Int32 → Int32 → pMem → gO := fixN (fun _ _ _ _ => none) (sX3_turnsSinceAhead_b4) n
def sX3_turnsSinceAhead (a1 : Int32) (m : pMem) : gO :=
  sX3_turnsSinceAhead_l4  5000 a1 0 0 m
def sX3_dayOfMostTurns_b77 (k37 : Int32 → Int32 → Int32 → Int32 → pMem → gO) (l1 : Int32) (l3 : Int32) (l4 : Int32) (l5 : Int32) (m : pMem) : gO :=
  k37 l1 l3 l4 (l5 + 1) m
def sX3_dayOfMostTurns_b37 (k37 : Int32 → Int32 → Int32 → Int32 → pMem → gO) (l1 : Int32) (l3 : Int32) (l4 : Int32) (l5 : Int32) (m : pMem) : gO :=
  if l1 < l5 then
    some (l3, m)
  else
    cbR (sX0_isMarked l5 m) fun r8 =>
    if ¬ r8 = 0 then
      cbE (sX3_turnsSinceAhead l5 m) fun r11 m13 =>
      if r11 ≤ l4 then
        sX3_dayOfMostTurns_b77 k37 l1 l3 l4 l5 m13
      else
        sX3_dayOfMostTurns_b77 k37 l1 l5 r11 l5 m13
    else
      sX3_dayOfMostTurns_b77 k37 l1 l3 l4 l5 m
def sX3_dayOfMostTurns_l37 (n : Nat) : Int32 → Int32 → Int32 → Int32 → pMem → gO := fixN (fun _ _ _ _ _ => none) (sX3_dayOfMostTurns_b37) n
def sX3_dayOfMostTurns_b2 (k2 : Int32 → Int32 → pMem → gO) (l1 : Int32) (l3 : Int32) (m : pMem) : gO :=
  if (m.1 4 8) ≤ l3 then
    sX3_dayOfMostTurns_l37  5000 l1 1 0 1 m
  else
    cbE (sX3_boundOn l3 0 0 m) fun r2 m4 =>
    if oob l3 12 then none else
    bnd (st1 m4 48 l3.toNatClampNeg r2) fun m6 =>
    k2 l1 (l3 + 1) m6
def sX3_dayOfMostTurns_l2 (n : Nat) : Int32 → Int32 → pMem → gO := fixN (fun _ _ _ => none) (sX3_dayOfMostTurns_b2) n
def sX3_dayOfMostTurns (a1 : Int32) (m : pMem) : gO :=
  sX3_dayOfMostTurns_l2  5000 a1 0 m
def sX8_hangs_b51 (t0 : Int32) (m : pMem) : gO :=
  some (t0, m)
def sX8_hangs_b21 (m : pMem) : gO :=
  some ((-3), m)
def sX8_hangs (a1 : Int32) (a2 : Int32) (m : pMem) : gO :=
  if a1 < 1 then
    sX8_hangs_b21  m
  else
    if (999 : Int32) < a1 then
      sX8_hangs_b21  m
    else
      if a2 < 0 then
        sX8_hangs_b21  m
      else
        if a2 ≤ 1 then
          if ¬ a2 = 0 then
            cbE (sX3_dayOfMostTurns a1 m) fun r6 m8 =>
            sX8_hangs_b51  r6 m8
          else
            cbE (sX3_turnsOn a1 m) fun r9 m11 =>
            sX8_hangs_b51  r9 m11
        else
          sX8_hangs_b21  m
def sX8_has (a1 : Int32) (a2 : Int32) (m : pMem) : (Option Int32) :=
  cbR (sX2_knowsLand a1 m) fun r1 =>
  if ¬ r1 = 0 then
    cbR (sX8_isDay a2 m) fun r4 =>
    if ¬ r4 = 0 then
      cbR (sX2_changesBy a2 m) fun r7 =>
      if oob r7 13 then none else
      if oob a1 10 then none else
      some (m.1 (30 + r7.toNatClampNeg) a1.toNatClampNeg)
    else
      some (-3 : Int32)
  else
    some (-2 : Int32)
def sX2_nextHeir_b75 (t0 : Int32) (m : pMem) : (Option Int32) :=
  some t0
def sX2_nextHeir (a1 : Int32) (m : pMem) : (Option Int32) :=
  if oob a1 10 then none else
  bnd (m.1 23 a1.toNatClampNeg) fun x2 =>
  if 0 ≤ x2 then
    if oob x2 12 then none else
    if ¬ (m.1 24 x2.toNatClampNeg) = 2 then
      if oob x2 12 then none else
      bnd (m.1 28 x2.toNatClampNeg) fun x7 =>
      if oob x2 12 then none else
      cbR (sX2_sumOf 19 (m.1 106 x2.toNatClampNeg) m) fun r9 =>
      if oob x2 12 then none else
      cbR (sX2_sumOf 19 (m.1 107 x2.toNatClampNeg) m) fun r12 =>
      if r9 < r12 then
        sX2_nextHeir_b75  (x7 + (1 : Int32)) m
      else
        sX2_nextHeir_b75  x7 m
    else
      if oob x2 12 then none else
      some (m.1 26 x2.toNatClampNeg)
  else
    some a1
def sX2_heirOf_b58 (l4 : Int32) (m : pMem) : (Option Int32) :=
  some l4
def sX2_heirOf_b24 (k24 : Int32 → Int32 → Int32 → pMem → (Option Int32)) (l3 : Int32) (l4 : Int32) (l5 : Int32) (m : pMem) : (Option Int32) :=
  if l3 ≤ l5 then
    sX2_heirOf_b58  l4 m
  else
    if oob l3 13 then none else
    cbR (sX8_isIn (m.1 43 l3.toNatClampNeg) l4 m) fun r7 =>
    if ¬ r7 = 0 then
      sX2_heirOf_b58  l4 m
    else
      cbR (sX2_nextHeir l4 m) fun r10 =>
      k24 l3 r10 (l5 + 1) m
def sX2_heirOf_l24 (n : Nat) : Int32 → Int32 → Int32 → pMem → (Option Int32) := fixN (fun _ _ _ _ => none) (sX2_heirOf_b24) n
def sX2_heirOf (a1 : Int32) (a2 : Int32) (m : pMem) : (Option Int32) :=
  if oob a1 10 then none else
  if (m.1 22 a1.toNatClampNeg) ≤ a2 then
    cbR (sX2_changesBy a2 m) fun r3 =>
    sX2_heirOf_l24  5000 r3 a1 0 m
  else
    some (-1 : Int32)
def sX8_heir (a1 : Int32) (a2 : Int32) (m : pMem) : (Option Int32) :=
  cbR (sX2_knowsLand a1 m) fun r1 =>
  if ¬ r1 = 0 then
    cbR (sX8_isDay a2 m) fun r4 =>
    if ¬ r4 = 0 then
      cbR (sX2_heirOf a1 a2 m) fun r7 =>
      some r7
    else
      some (-3 : Int32)
  else
    some (-2 : Int32)
def sX8_isThird_b15 (t0 : Int32) (m : pMem) : (Option Int32) :=
  some (vp_nar .boolean t0)
def sX8_isThird_b14 (m : pMem) : (Option Int32) :=
  sX8_isThird_b15  0 m
def sX8_isThird (a1 : Int32) (m : pMem) : (Option Int32) :=
  if a1 < 0 then
    sX8_isThird_b14  m
  else
    if (6 : Int32) ≤ a1 then
      sX8_isThird_b14  m
    else
      sX8_isThird_b15  1 m
def sX8_lands (a1 : Int32) (m : pMem) : (Option Int32) :=
  cbR (sX8_isDay a1 m) fun r1 =>
  if ¬ r1 = 0 then
    cbR (sX2_changesBy a1 m) fun r4 =>
    if oob r4 13 then none else
    some (m.1 43 r4.toNatClampNeg)
  else
    some (-3 : Int32)
def sX1_knowsDebt_b17 (t0 : Int32) (m : pMem) : (Option Int32) :=
  some (vp_nar .boolean t0)
def sX1_knowsDebt_b16 (m : pMem) : (Option Int32) :=
  sX1_knowsDebt_b17  0 m
def sX1_knowsDebt (a1 : Int32) (m : pMem) : (Option Int32) :=
  if a1 < 0 then
    sX1_knowsDebt_b16  m
  else
    if (m.1 2 5) ≤ a1 then
      sX1_knowsDebt_b16  m
    else
      sX1_knowsDebt_b17  1 m
def sX8_owes_b22 (m : pMem) : gO :=
  some ((-2), m)
def sX8_owes (a1 : Int32) (a2 : Int32) (a3 : Int32) (m : pMem) : gO :=
  cbR (sX1_knowsDebt a1 m) fun r1 =>
  if r1 = 0 then
    sX8_owes_b22  m
  else
    cbR (sX2_knowsLand a2 m) fun r4 =>
    if ¬ r4 = 0 then
      cbR (sX8_isDay a3 m) fun r7 =>
      if ¬ r7 = 0 then
        cbE (sX1_owedBy a1 a2 a3 (m.1 53 ((3 : Int32).toNatClampNeg)) m) fun r10 m12 =>
        some (r10, m12)
      else
        some ((-3), m)
    else
      sX8_owes_b22  m
def sX1_knowsThing_b17 (t0 : Int32) (m : pMem) : (Option Int32) :=
  some (vp_nar .boolean t0)
def sX1_knowsThing_b16 (m : pMem) : (Option Int32) :=
  sX1_knowsThing_b17  0 m
def sX1_knowsThing (a1 : Int32) (m : pMem) : (Option Int32) :=
  if a1 < 0 then
    sX1_knowsThing_b16  m
  else
    if (m.1 2 10) ≤ a1 then
      sX1_knowsThing_b16  m
    else
      sX1_knowsThing_b17  1 m
def sX8_owns_b22 (m : pMem) : gO :=
  some ((-2), m)
def sX8_owns (a1 : Int32) (a2 : Int32) (a3 : Int32) (m : pMem) : gO :=
  cbR (sX1_knowsThing a1 m) fun r1 =>
  if r1 = 0 then
    sX8_owns_b22  m
  else
    cbR (sX2_knowsLand a2 m) fun r4 =>
    if ¬ r4 = 0 then
      cbR (sX8_isDay a3 m) fun r7 =>
      if ¬ r7 = 0 then
        cbE (sX1_ownedBy a1 a2 a3 (m.1 53 ((3 : Int32).toNatClampNeg)) m) fun r10 m12 =>
        some (r10, m12)
      else
        some ((-3), m)
    else
      sX8_owns_b22  m
def sX3_addPact (a1 : Int32) (a2 : Int32) (a3 : Int32) (a4 : Int32) (m : pMem) : gO :=
  bnd (m.1 4 8) fun x1 =>
  if oob x1 12 then none else
  bnd (st1 m 44 x1.toNatClampNeg a1) fun m3 =>
  if oob x1 12 then none else
  bnd (st1 m3 45 x1.toNatClampNeg a2) fun m5 =>
  if oob x1 12 then none else
  bnd (st1 m5 46 x1.toNatClampNeg a3) fun m7 =>
  if oob x1 12 then none else
  bnd (st1 m7 47 x1.toNatClampNeg a4) fun m9 =>
  bnd (st1 m9 4 9 (if (m9.1 4 9) < a4 then a4 else (m9.1 4 9))) fun m10 =>
  bnd (st1 m10 4 8 ((m10.1 4 8) + (1 : Int32))) fun m11 =>
  some (x1, m11)
def sX8_pact_b57 (m : pMem) : gO :=
  some ((-3), m)
def sX8_pact_b149 (l5 : Int32) (t0 : Int32) (t1 : Int32) (t2 : Int32) (m : pMem) : gO :=
  cbE (sX3_addPact t2 t1 t0 l5 m) fun r30 m32 =>
  some (r30, m32)
def sX8_pact_b109 (l1 : Int32) (l2 : Int32) (l4 : Int32) (l5 : Int32) (m : pMem) : gO :=
  if (m.1 4 8) < 12 then
    cbE (sX0_mark l5 m) fun _ m28 =>
    if ¬ l1 = 0 then
      sX8_pact_b149  l5 (-1) l2 l1 m28
    else
      sX8_pact_b149  l5 l4 l2 l1 m28
  else
    some ((-5), m)
def sX8_pact_b40 (l1 : Int32) (l2 : Int32) (l4 : Int32) (l5 : Int32) (m : pMem) : gO :=
  if l1 < 0 then
    sX8_pact_b57  m
  else
    if (2 : Int32) < l1 then
      sX8_pact_b57  m
    else
      cbR (sX8_isDay l5 m) fun r13 =>
      if ¬ r13 = 0 then
        cbR (sX2_changesBy l5 m) fun r16 =>
        cbR (sX2_isThere l2 r16 m) fun r18 =>
        if ¬ r18 = 0 then
          if ¬ l1 = 0 then
            sX8_pact_b109  l1 l2 l4 l5 m
          else
            cbR (sX2_ownerOf l4 r16 m) fun r22 =>
            if r22 = l2 then
              sX8_pact_b109  l1 l2 l4 l5 m
            else
              some ((-4), m)
        else
          some ((-4), m)
      else
        sX8_pact_b57  m
def sX8_pact_b18 (m : pMem) : gO :=
  some ((-2), m)
def sX8_pact (a1 : Int32) (a2 : Int32) (a3 : Int32) (a4 : Int32) (a5 : Int32) (m : pMem) : gO :=
  cbR (sX2_knowsLand a2 m) fun r1 =>
  if r1 = 0 then
    sX8_pact_b18  m
  else
    cbR (sX8_isThird a3 m) fun r4 =>
    if ¬ r4 = 0 then
      if ¬ a1 = 0 then
        sX8_pact_b40  a1 a2 a4 a5 m
      else
        cbR (sX2_knowsGround a4 m) fun r8 =>
        if ¬ r8 = 0 then
          sX8_pact_b40  a1 a2 a4 a5 m
        else
          some ((-2), m)
    else
      sX8_pact_b18  m
def sX4_knowsPensioner_b17 (t0 : Int32) (m : pMem) : (Option Int32) :=
  some (vp_nar .boolean t0)
def sX4_knowsPensioner_b16 (m : pMem) : (Option Int32) :=
  sX4_knowsPensioner_b17  0 m
def sX4_knowsPensioner (a1 : Int32) (m : pMem) : (Option Int32) :=
  if a1 < 0 then
    sX4_knowsPensioner_b16  m
  else
    if (m.1 5 3) ≤ a1 then
      sX4_knowsPensioner_b16  m
    else
      sX4_knowsPensioner_b17  1 m
def sX8_paid_b82 (l2 : Int32) (t0 : Int32) (m : pMem) : (Option Int32) :=
  cbR (sX2_changesBy l2 m) fun r15 =>
  cbR (sX2_ownerOf t0 r15 m) fun r17 =>
  some r17
def sX8_paid (a1 : Int32) (a2 : Int32) (m : pMem) : (Option Int32) :=
  cbR (sX4_knowsPensioner a1 m) fun r1 =>
  if ¬ r1 = 0 then
    cbR (sX8_isDay a2 m) fun r4 =>
    if ¬ r4 = 0 then
      bnd (m.1 53 ((4 : Int32).toNatClampNeg)) fun x7 =>
      if ¬ x7 = 0 then
        if ¬ x7 = 1 then
          if oob a1 12 then none else
          sX8_paid_b82  a2 (m.1 50 a1.toNatClampNeg) m
        else
          if oob a1 12 then none else
          sX8_paid_b82  a2 (m.1 51 a1.toNatClampNeg) m
      else
        if oob a1 12 then none else
        cbR (sX2_heirOf (m.1 49 a1.toNatClampNeg) a2 m) fun r13 =>
        some r13
    else
      some (-3 : Int32)
  else
    some (-2 : Int32)
def sX8_rule_b9 (m : pMem) : (Option Int32) :=
  some (-3 : Int32)
def sX8_rule (a1 : Int32) (m : pMem) : (Option Int32) :=
  if a1 < 0 then
    sX8_rule_b9  m
  else
    if a1 < 5 then
      if oob a1 5 then none else
      some (m.1 53 a1.toNatClampNeg)
    else
      sX8_rule_b9  m
def sX5_takeAsRules (m : pMem) : gO :=
  if ¬ ((0 : Int32).toNatClampNeg + (5 : Int32).toNatClampNeg ≤ 5 ∧ (0 : Int32).toNatClampNeg + (5 : Int32).toNatClampNeg ≤ 5) then none else
  bnd (up1 m 53 (va_cpy (m.1 54) (m.1 53) (0 : Int32).toNatClampNeg (0 : Int32).toNatClampNeg (5 : Int32).toNatClampNeg)) fun m1 =>
  cbE (sX5_empty m1) fun r3 m5 =>
  some (m5.1 6 5, m5)
def sX8_rules (m : pMem) : gO :=
  cbE (sX5_firstFault m) fun r1 m3 =>
  if r1 = (-1) then
    cbE (sX5_takeAsRules m3) fun r5 m7 =>
    some (r5, m7)
  else
    some ((-4), m3)
def sX4_addPensioner (a1 : Int32) (a2 : Int32) (a3 : Int32) (m : pMem) : gO :=
  bnd (m.1 5 3) fun x1 =>
  if oob x1 12 then none else
  bnd (st1 m 49 x1.toNatClampNeg a1) fun m3 =>
  if oob x1 12 then none else
  bnd (st1 m3 50 x1.toNatClampNeg a2) fun m5 =>
  if oob x1 12 then none else
  bnd (st1 m5 51 x1.toNatClampNeg a3) fun m7 =>
  bnd (st1 m7 5 3 ((m7.1 5 3) + (1 : Int32))) fun m8 =>
  some (x1, m8)
def sX8_served_b33 (m : pMem) : gO :=
  some ((-2), m)
def sX8_served (a1 : Int32) (a2 : Int32) (a3 : Int32) (m : pMem) : gO :=
  cbR (sX2_knowsLand a1 m) fun r1 =>
  if r1 = 0 then
    sX8_served_b33  m
  else
    cbR (sX2_knowsGround a2 m) fun r4 =>
    if r4 = 0 then
      sX8_served_b33  m
    else
      cbR (sX2_knowsGround a3 m) fun r7 =>
      if ¬ r7 = 0 then
        if (m.1 5 3) < 12 then
          cbE (sX4_addPensioner a1 a2 a3 m) fun r11 m13 =>
          some (r11, m13)
        else
          some ((-5), m)
      else
        sX8_served_b33  m
def sX8_since_b64 (k27 : Int32 → Int32 → Int32 → pMem → gO) (l1 : Int32) (l2 : Int32) (l3 : Int32) (m : pMem) : gO :=
  k27 l1 l2 (l3 + 1) m
def sX8_since_b27 (k27 : Int32 → Int32 → Int32 → pMem → gO) (l1 : Int32) (l2 : Int32) (l3 : Int32) (m : pMem) : gO :=
  if (999 : Int32) < l3 then
    some ((-1), m)
  else
    cbR (sX0_isMarked l3 m) fun r8 =>
    if r8 = 0 then
      sX8_since_b64 k27 l1 l2 l3 m
    else
      cbE (sX3_boundOn l1 l3 0 m) fun r11 m13 =>
      cbR (sX8_isIn r11 l2 m13) fun r14 =>
      if r14 = 0 then
        sX8_since_b64 k27 l1 l2 l3 m13
      else
        some (l3, m13)
def sX8_since_l27 (n : Nat) : Int32 → Int32 → Int32 → pMem → gO := fixN (fun _ _ _ _ => none) (sX8_since_b27) n
def sX8_since_b22 (m : pMem) : gO :=
  some ((-2), m)
def sX8_since (a1 : Int32) (a2 : Int32) (m : pMem) : gO :=
  cbR (sX3_knowsPact a1 m) fun r1 =>
  if r1 = 0 then
    sX8_since_b22  m
  else
    cbR (sX2_knowsLand a2 m) fun r4 =>
    if ¬ r4 = 0 then
      sX8_since_l27  5000 a1 a2 0 m
    else
      sX8_since_b22  m
def sX1_addThing (a1 : Int32) (a2 : Int32) (a3 : Int32) (m : pMem) : gO :=
  bnd (m.1 2 10) fun x1 =>
  if oob x1 8 then none else
  bnd (st1 m 15 x1.toNatClampNeg a1) fun m3 =>
  if oob x1 8 then none else
  bnd (st1 m3 16 x1.toNatClampNeg a2) fun m5 =>
  if oob x1 8 then none else
  bnd (st1 m5 17 x1.toNatClampNeg a3) fun m7 =>
  bnd (st1 m7 2 10 ((m7.1 2 10) + (1 : Int32))) fun m8 =>
  some (x1, m8)
def sX8_thing_b89 (t0 : Int32) (t1 : Int32) (t2 : Int32) (m : pMem) : gO :=
  cbE (sX1_addThing t2 t1 t0 m) fun r13 m15 =>
  some (r13, m15)
def sX8_thing_b80 (l1 : Int32) (l3 : Int32) (t0 : Int32) (t1 : Int32) (m : pMem) : gO :=
  if ¬ l1 = 0 then
    sX8_thing_b89  (-1) t0 t1 m
  else
    sX8_thing_b89  l3 t0 t1 m
def sX8_thing_b50 (l1 : Int32) (l2 : Int32) (l3 : Int32) (m : pMem) : gO :=
  if (m.1 2 10) < 8 then
    if ¬ l1 = 1 then
      sX8_thing_b80  l1 l3 1 l1 m
    else
      sX8_thing_b80  l1 l3 l2 l1 m
  else
    some ((-5), m)
def sX8_thing_b32 (l1 : Int32) (l2 : Int32) (l3 : Int32) (m : pMem) : gO :=
  if ¬ l1 = 0 then
    sX8_thing_b50  l1 l2 l3 m
  else
    cbR (sX2_knowsGround l3 m) fun r7 =>
    if ¬ r7 = 0 then
      sX8_thing_b50  l1 l2 l3 m
    else
      some ((-2), m)
def sX8_thing_b9 (m : pMem) : gO :=
  some ((-3), m)
def sX8_thing_b29 (m : pMem) : gO :=
  some ((-3), m)
def sX8_thing (a1 : Int32) (a2 : Int32) (a3 : Int32) (m : pMem) : gO :=
  if a1 < 0 then
    sX8_thing_b9  m
  else
    if a1 ≤ 2 then
      if ¬ a1 = 1 then
        sX8_thing_b32  a1 a2 a3 m
      else
        if a2 < 1 then
          sX8_thing_b29  m
        else
          if a2 ≤ 9999 then
            sX8_thing_b32  a1 a2 a3 m
          else
            sX8_thing_b29  m
    else
      sX8_thing_b9  m
def sX6_addVoice (a1 : Int32) (a2 : Int32) (a3 : Int32) (a4 : Int32) (m : pMem) : gO :=
  if oob (m.1 7 4) 24 then none else
  bnd (st1 m 55 ((m.1 7 4).toNatClampNeg) a1) fun m2 =>
  if oob (m2.1 7 4) 24 then none else
  bnd (st1 m2 56 ((m2.1 7 4).toNatClampNeg) a2) fun m4 =>
  if oob (m4.1 7 4) 24 then none else
  bnd (st1 m4 57 ((m4.1 7 4).toNatClampNeg) (vp_nar .boolean a3)) fun m6 =>
  if oob (m6.1 7 4) 24 then none else
  bnd (st1 m6 58 ((m6.1 7 4).toNatClampNeg) a4) fun m8 =>
  bnd (st1 m8 7 4 ((m8.1 7 4) + (1 : Int32))) fun m9 =>
  some (m9.1 7 4, m9)
def sX8_voice_b18 (m : pMem) : gO :=
  some ((-2), m)
def sX8_voice (a1 : Int32) (a2 : Int32) (a3 : Int32) (a4 : Int32) (m : pMem) : gO :=
  cbR (sX8_isThird a1 m) fun r1 =>
  if r1 = 0 then
    sX8_voice_b18  m
  else
    cbR (sX2_knowsLand a2 m) fun r4 =>
    if ¬ r4 = 0 then
      cbR (sX8_isDay a4 m) fun r7 =>
      if ¬ r7 = 0 then
        if (m.1 7 4) < 24 then
          cbE (sX0_mark a4 m) fun _ m13 =>
          cbE (sX6_addVoice a1 a2 a3 a4 m13) fun r14 m16 =>
          some (r14, m16)
        else
          some ((-5), m)
      else
        some ((-3), m)
    else
      sX8_voice_b18  m
def sX8_whose (a1 : Int32) (a2 : Int32) (m : pMem) : (Option Int32) :=
  cbR (sX2_knowsGround a1 m) fun r1 =>
  if ¬ r1 = 0 then
    cbR (sX8_isDay a2 m) fun r4 =>
    if ¬ r4 = 0 then
      cbR (sX2_changesBy a2 m) fun r7 =>
      cbR (sX2_ownerOf a1 r7 m) fun r9 =>
      some r9
    else
      some (-3 : Int32)
  else
    some (-2 : Int32)
def sX7_firstWordsAbout_b40 (l2 : Int32) (m : pMem) : (Option Int32) :=
  some l2
def sX7_firstWordsAbout_b34 (k4 : Int32 → Int32 → Int32 → pMem → (Option Int32)) (l1 : Int32) (l2 : Int32) (l3 : Int32) (m : pMem) : (Option Int32) :=
  k4 l1 l2 (l3 + 1) m
def sX7_firstWordsAbout_b4 (k4 : Int32 → Int32 → Int32 → pMem → (Option Int32)) (l1 : Int32) (l2 : Int32) (l3 : Int32) (m : pMem) : (Option Int32) :=
  if (m.1 8 5) ≤ l3 then
    sX7_firstWordsAbout_b40  l2 m
  else
    if (10 : Int32) ≤ l3 then
      sX7_firstWordsAbout_b40  l2 m
    else
      if oob l3 24 then none else
      if ¬ (m.1 59 l3.toNatClampNeg) = l1 then
        sX7_firstWordsAbout_b34 k4 l1 l2 l3 m
      else
        bnd (l2 ||| ((1 : Int32) <<< (l3 &&& 31))) fun x5 =>
        sX7_firstWordsAbout_b34 k4 l1 x5 l3 m
def sX7_firstWordsAbout_l4 (n : Nat) : Int32 → Int32 → Int32 → pMem → (Option Int32) := fixN (fun _ _ _ _ => none) (sX7_firstWordsAbout_b4) n
def sX7_firstWordsAbout (a1 : Int32) (m : pMem) : (Option Int32) :=
  sX7_firstWordsAbout_l4  5000 a1 0 0 m
def sX3_fewestLeftOut_b79 (k16 : Int32 → Int32 → Int32 → Int32 → Int32 → Int32 → Int32 → pMem → gO) (l1 : Int32) (l2 : Int32) (l3 : Int32) (l4 : Int32) (l5 : Int32) (l6 : Int32) (l7 : Int32) (m : pMem) : gO :=
  k16 l1 l2 l3 l4 l5 l6 (l7 + 1) m
def sX3_fewestLeftOut_b58 (k16 : Int32 → Int32 → Int32 → Int32 → Int32 → Int32 → Int32 → pMem → gO) (l1 : Int32) (l2 : Int32) (l3 : Int32) (l4 : Int32) (l5 : Int32) (l6 : Int32) (l7 : Int32) (m : pMem) : gO :=
  cbE (sX3_boundOn l1 l3 l7 m) fun r12 m14 =>
  cbR (sX8_isIn r12 l2 m14) fun r15 =>
  if ¬ r15 = l4 then
    sX3_fewestLeftOut_b79 k16 l1 l2 l3 l4 l5 l6 l7 m14
  else
    sX3_fewestLeftOut_b79 k16 l1 l2 l3 l4 l5 l7 l7 m14
def sX3_fewestLeftOut_b16 (k16 : Int32 → Int32 → Int32 → Int32 → Int32 → Int32 → Int32 → pMem → gO) (l1 : Int32) (l2 : Int32) (l3 : Int32) (l4 : Int32) (l5 : Int32) (l6 : Int32) (l7 : Int32) (m : pMem) : gO :=
  if (1024 : Int32) ≤ l7 then
    some (l6, m)
  else
    if (l7 &&& (l5 ^^^ (-1 : Int32))) = 0 then
      if l6 < 0 then
        sX3_fewestLeftOut_b58 k16 l1 l2 l3 l4 l5 l6 l7 m
      else
        cbR (sJ6_bitCount_0f7a4 l7 m) fun r7 =>
        cbR (sJ6_bitCount_0f7a4 l6 m) fun r9 =>
        if r7 < r9 then
          sX3_fewestLeftOut_b58 k16 l1 l2 l3 l4 l5 l6 l7 m
        else
          sX3_fewestLeftOut_b79 k16 l1 l2 l3 l4 l5 l6 l7 m
    else
      sX3_fewestLeftOut_b79 k16 l1 l2 l3 l4 l5 l6 l7 m
def sX3_fewestLeftOut_l16 (n : Nat) : Int32 → Int32 → Int32 → Int32 → Int32 → Int32 → Int32 → pMem → gO := fixN (fun _ _ _ _ _ _ _ _ => none) (sX3_fewestLeftOut_b16) n
def sX3_fewestLeftOut (a1 : Int32) (a2 : Int32) (a3 : Int32) (a4 : Int32) (m : pMem) : gO :=
  cbR (sX7_firstWordsAbout a1 m) fun r1 =>
  bnd ((-1)) fun x3 =>
  sX3_fewestLeftOut_l16  5000 a1 a2 a3 a4 r1 x3 0 m
def sX8_without_b22 (m : pMem) : gO :=
  some ((-2), m)
def sX8_without (a1 : Int32) (a2 : Int32) (a3 : Int32) (a4 : Int32) (m : pMem) : gO :=
  cbR (sX3_knowsPact a1 m) fun r1 =>
  if r1 = 0 then
    sX8_without_b22  m
  else
    cbR (sX2_knowsLand a2 m) fun r4 =>
    if ¬ r4 = 0 then
      cbR (sX8_isDay a3 m) fun r7 =>
      if ¬ r7 = 0 then
        cbE (sX3_fewestLeftOut a1 a2 a3 a4 m) fun r10 m12 =>
        some (r10, m12)
      else
        some ((-3), m)
    else
      sX8_without_b22  m
def sX7_addWord (a1 : Int32) (a2 : Int32) (a3 : Int32) (a4 : Int32) (a5 : Int32) (m : pMem) : gO :=
  if oob (m.1 8 5) 24 then none else
  bnd (st1 m 59 ((m.1 8 5).toNatClampNeg) a1) fun m2 =>
  if oob (m2.1 8 5) 24 then none else
  bnd (st1 m2 60 ((m2.1 8 5).toNatClampNeg) a2) fun m4 =>
  if oob (m4.1 8 5) 24 then none else
  bnd (st1 m4 61 ((m4.1 8 5).toNatClampNeg) (vp_nar .boolean a3)) fun m6 =>
  if oob (m6.1 8 5) 24 then none else
  bnd (st1 m6 62 ((m6.1 8 5).toNatClampNeg) (vp_nar .boolean a4)) fun m8 =>
  if oob (m8.1 8 5) 24 then none else
  bnd (st1 m8 63 ((m8.1 8 5).toNatClampNeg) a5) fun m10 =>
  bnd (st1 m10 8 5 ((m10.1 8 5) + (1 : Int32))) fun m11 =>
  some (m11.1 8 5, m11)
def sX8_word_b22 (m : pMem) : gO :=
  some ((-2), m)
def sX8_word (a1 : Int32) (a2 : Int32) (a3 : Int32) (a4 : Int32) (a5 : Int32) (m : pMem) : gO :=
  cbR (sX3_knowsPact a1 m) fun r1 =>
  if r1 = 0 then
    sX8_word_b22  m
  else
    cbR (sX2_knowsLand a2 m) fun r4 =>
    if ¬ r4 = 0 then
      cbR (sX8_isDay a5 m) fun r7 =>
      if ¬ r7 = 0 then
        if (m.1 8 5) < 24 then
          cbE (sX0_mark a5 m) fun _ m13 =>
          cbE (sX7_addWord a1 a2 a3 a4 a5 m13) fun r14 m16 =>
          some (r14, m16)
        else
          some ((-5), m)
      else
        some ((-3), m)
    else
      sX8_word_b22  m
def sX5_append_b3 (k3 : Int64 → Int32 → Int32 → pMem → gO) (l1 : Int64) (l3 : Int32) (l4 : Int32) (m : pMem) : gO :=
  if l3 ≤ l4 then
    bnd (st1 m 6 1 ((m.1 6 1) + l3)) fun m2 =>
    some (m2.1 6 1, m2)
  else
    if oob ((m.1 6 1) + l4) 160 then none else
    bnd (st1 m 52 (((m.1 6 1) + l4).toNatClampNeg) (((l1 >>> (((8 : Int32) * l4).toInt64 &&& 63)).toInt32) &&& (255 : Int32))) fun m4 =>
    k3 l1 l3 (l4 + 1) m4
def sX5_append_l3 (n : Nat) : Int64 → Int32 → Int32 → pMem → gO := fixN (fun _ _ _ _ => none) (sX5_append_b3) n
def sX5_append (a1 : Int64) (a2 : Int32) (m : pMem) : gO :=
  sX5_append_l3  5000 a1 a2 0 m
def sX8_write_b11 (m : pMem) : gO :=
  some ((-3), m)
def sX8_write (a1 : Int64) (a2 : Int32) (m : pMem) : gO :=
  if a2 < 1 then
    sX8_write_b11  m
  else
    if a2 ≤ 8 then
      if ((m.1 6 1) + a2) ≤ 160 then
        cbE (sX5_append a1 a2 m) fun r4 m6 =>
        some (r4, m6)
      else
        some ((-5), m)
    else
      sX8_write_b11  m
def sX9_groundsOf_b39 (k5 : Int32 → Int32 → Int32 → Int32 → pMem → (Option Int32)) (l1 : Int32) (l2 : Int32) (l4 : Int32) (t0 : Int32) (t1 : Int32) (m : pMem) : (Option Int32) :=
  bnd (t1 ||| t0) fun x4 =>
  k5 l1 l2 x4 (l4 + 1) m
def sX9_groundsOf_b5 (k5 : Int32 → Int32 → Int32 → Int32 → pMem → (Option Int32)) (l1 : Int32) (l2 : Int32) (l3 : Int32) (l4 : Int32) (m : pMem) : (Option Int32) :=
  if (m.1 9 0) ≤ l4 then
    some l3
  else
    if oob (((8 : Int32) * l2) + l4) 104 then none else
    if ¬ (m.1 74 ((((8 : Int32) * l2) + l4).toNatClampNeg)) = l1 then
      sX9_groundsOf_b39 k5 l1 l2 l4 0 l3 m
    else
      sX9_groundsOf_b39 k5 l1 l2 l4 ((1 : Int32) <<< (l4 &&& 31)) l3 m
def sX9_groundsOf_l5 (n : Nat) : Int32 → Int32 → Int32 → Int32 → pMem → (Option Int32) := fixN (fun _ _ _ _ _ => none) (sX9_groundsOf_b5) n
def sX9_groundsOf (a1 : Int32) (a2 : Int32) (m : pMem) : (Option Int32) :=
  sX9_groundsOf_l5  5000 a1 a2 0 0 m
def sX9_worthOf_b32 (k4 : Int32 → Int32 → Int32 → pMem → (Option Int32)) (l1 : Int32) (l3 : Int32) (t0 : Int32) (t1 : Int32) (m : pMem) : (Option Int32) :=
  bnd (t1 + t0) fun x4 =>
  k4 l1 x4 (l3 + 1) m
def sX9_worthOf_b4 (k4 : Int32 → Int32 → Int32 → pMem → (Option Int32)) (l1 : Int32) (l2 : Int32) (l3 : Int32) (m : pMem) : (Option Int32) :=
  if (m.1 9 0) ≤ l3 then
    some l2
  else
    if ¬ ((l1 >>> (l3 &&& 31)) &&& (1 : Int32)) = 1 then
      sX9_worthOf_b32 k4 l1 l3 0 l2 m
    else
      if oob l3 8 then none else
      sX9_worthOf_b32 k4 l1 l3 (m.1 65 l3.toNatClampNeg) l2 m
def sX9_worthOf_l4 (n : Nat) : Int32 → Int32 → Int32 → pMem → (Option Int32) := fixN (fun _ _ _ _ => none) (sX9_worthOf_b4) n
def sX9_worthOf (a1 : Int32) (m : pMem) : (Option Int32) :=
  sX9_worthOf_l4  5000 a1 0 0 m
def sX9_headsOf_b32 (k4 : Int32 → Int32 → Int32 → pMem → (Option Int32)) (l1 : Int32) (l3 : Int32) (t0 : Int32) (t1 : Int32) (m : pMem) : (Option Int32) :=
  bnd (t1 + t0) fun x4 =>
  k4 l1 x4 (l3 + 1) m
def sX9_headsOf_b4 (k4 : Int32 → Int32 → Int32 → pMem → (Option Int32)) (l1 : Int32) (l2 : Int32) (l3 : Int32) (m : pMem) : (Option Int32) :=
  if (m.1 9 0) ≤ l3 then
    some l2
  else
    if ¬ ((l1 >>> (l3 &&& 31)) &&& (1 : Int32)) = 1 then
      sX9_headsOf_b32 k4 l1 l3 0 l2 m
    else
      if oob l3 8 then none else
      sX9_headsOf_b32 k4 l1 l3 (m.1 64 l3.toNatClampNeg) l2 m
def sX9_headsOf_l4 (n : Nat) : Int32 → Int32 → Int32 → pMem → (Option Int32) := fixN (fun _ _ _ _ => none) (sX9_headsOf_b4) n
def sX9_headsOf (a1 : Int32) (m : pMem) : (Option Int32) :=
  sX9_headsOf_l4  5000 a1 0 0 m
def sX9_keyOf_b39 (t0 : Int32) (m : pMem) : (Option Int32) :=
  some t0
def sX9_keyOf_b18 (m : pMem) : (Option Int32) :=
  sX9_keyOf_b39  1 m
def sX9_keyOf_b22 (l1 : Int32) (l3 : Int32) (m : pMem) : (Option Int32) :=
  if ¬ l3 = 0 then
    cbR (sX9_worthOf l1 m) fun r7 =>
    sX9_keyOf_b39  r7 m
  else
    cbR (sX9_headsOf l1 m) fun r9 =>
    sX9_keyOf_b39  r9 m
def sX9_keyOf (a1 : Int32) (a2 : Int32) (a3 : Int32) (m : pMem) : (Option Int32) :=
  if a3 = 2 then
    sX9_keyOf_b18  m
  else
    if ¬ a3 = 1 then
      sX9_keyOf_b22  a1 a3 m
    else
      cbR (sX9_worthOf a2 m) fun r3 =>
      if ¬ r3 = 0 then
        sX9_keyOf_b22  a1 a3 m
      else
        sX9_keyOf_b18  m
def sX9_abroadAt_b186 (m : pMem) : gO :=
  some (0, m)
def sX9_abroadAt_b184 (t0 : Int32) (m : pMem) : gO :=
  if oob t0 10 then none else
  bnd (st1 m 105 t0.toNatClampNeg 1) fun m36 =>
  sX9_abroadAt_b186  m36
def sX9_abroadAt_b79 (l1 : Int32) (l2 : Int32) (l3 : Int32) (l4 : Int32) (m : pMem) : gO :=
  if oob l3 10 then none else
  if ¬ (m.1 105 l3.toNatClampNeg) = 1 then
    sX9_abroadAt_b186  m
  else
    cbR (sX9_groundsOf l3 l1 m) fun r21 =>
    if oob l1 12 then none else
    cbR (sX9_keyOf (m.1 72 l1.toNatClampNeg) r21 l2 m) fun r24 =>
    if oob l1 12 then none else
    cbR (sX9_keyOf (r21 &&& ((m.1 72 l1.toNatClampNeg) ^^^ (-1 : Int32))) r21 l2 m) fun r27 =>
    if oob l3 10 then none else
    bnd (st1 m 105 l3.toNatClampNeg 0) fun m30 =>
    if oob l1 12 then none else
    if ¬ (m30.1 68 l1.toNatClampNeg) = 0 then
      if r24 < r27 then
        sX9_abroadAt_b184  (l4 + (1 : Int32)) m30
      else
        sX9_abroadAt_b184  l4 m30
    else
      if r24 ≤ r27 then
        sX9_abroadAt_b184  l3 m30
      else
        sX9_abroadAt_b184  l4 m30
def sX9_abroadAt (a1 : Int32) (a2 : Int32) (m : pMem) : gO :=
  if oob a1 12 then none else
  bnd (m.1 70 a1.toNatClampNeg) fun x2 =>
  if oob a1 12 then none else
  bnd (m.1 73 a1.toNatClampNeg) fun x4 =>
  if oob a1 12 then none else
  if ¬ (m.1 68 a1.toNatClampNeg) = 2 then
    if oob a1 12 then none else
    if (m.1 68 a1.toNatClampNeg) = 0 then
      sX9_abroadAt_b79  a1 a2 x2 x4 m
    else
      if oob a1 12 then none else
      if ¬ (m.1 68 a1.toNatClampNeg) = 1 then
        sX9_abroadAt_b186  m
      else
        sX9_abroadAt_b79  a1 a2 x2 x4 m
  else
    if oob x2 10 then none else
    if oob a1 12 then none else
    if oob (m.1 71 a1.toNatClampNeg) 10 then none else
    if oob x2 10 then none else
    bnd (st1 m 105 x2.toNatClampNeg ((m.1 105 x2.toNatClampNeg) + (m.1 105 ((m.1 71 a1.toNatClampNeg).toNatClampNeg)))) fun m15 =>
    if oob a1 12 then none else
    if oob (m15.1 71 a1.toNatClampNeg) 10 then none else
    bnd (st1 m15 105 ((m15.1 71 a1.toNatClampNeg).toNatClampNeg) 0) fun m18 =>
    sX9_abroadAt_b186  m18
def sX9_beginPart_b23 (k2 : Int32 → Int32 → Int32 → pMem → gO) (l1 : Int32) (l2 : Int32) (l3 : Int32) (t0 : Int32) (t1 : Int32) (m : pMem) : gO :=
  if oob t1 10 then none else
  bnd (st1 m 105 t1.toNatClampNeg t0) fun m4 =>
  k2 l1 l2 (l3 + 1) m4
def sX9_beginPart_b2 (k2 : Int32 → Int32 → Int32 → pMem → gO) (l1 : Int32) (l2 : Int32) (l3 : Int32) (m : pMem) : gO :=
  if (10 : Int32) ≤ l3 then
    some (0, m)
  else
    if ¬ l3 = l1 then
      sX9_beginPart_b23 k2 l1 l2 l3 0 l3 m
    else
      sX9_beginPart_b23 k2 l1 l2 l3 l2 l3 m
def sX9_beginPart_l2 (n : Nat) : Int32 → Int32 → Int32 → pMem → gO := fixN (fun _ _ _ _ => none) (sX9_beginPart_b2) n
def sX9_beginPart (a1 : Int32) (a2 : Int32) (m : pMem) : gO :=
  sX9_beginPart_l2  5000 a1 a2 0 m
def sX9_in_b15 (t0 : Int32) (m : pMem) : (Option Int32) :=
  some (vp_nar .boolean t0)
def sX9_in_b14 (m : pMem) : (Option Int32) :=
  sX9_in_b15  0 m
def sX9_in (a1 : Int32) (a2 : Int32) (a3 : Int32) (m : pMem) : (Option Int32) :=
  if a1 < a2 then
    sX9_in_b14  m
  else
    if a3 < a1 then
      sX9_in_b14  m
    else
      sX9_in_b15  1 m
def sX9_isLand (a1 : Int32) (m : pMem) : (Option Int32) :=
  cbR (sX9_in a1 0 ((m.1 9 3) - (1 : Int32)) m) fun r1 =>
  some (vp_nar .boolean r1)
def sX9_isDay (a1 : Int32) (m : pMem) : (Option Int32) :=
  cbR (sX9_in a1 0 999 m) fun r1 =>
  some (vp_nar .boolean r1)
def sX9_doneBy_b28 (k4 : Int32 → Int32 → Int32 → pMem → (Option Int32)) (l1 : Int32) (l3 : Int32) (t0 : Int32) (t1 : Int32) (m : pMem) : (Option Int32) :=
  bnd (t1 + t0) fun x4 =>
  k4 l1 x4 (l3 + 1) m
def sX9_doneBy_b4 (k4 : Int32 → Int32 → Int32 → pMem → (Option Int32)) (l1 : Int32) (l2 : Int32) (l3 : Int32) (m : pMem) : (Option Int32) :=
  if (m.1 9 6) ≤ l3 then
    some l2
  else
    if oob l3 12 then none else
    if l1 < (m.1 69 l3.toNatClampNeg) then
      sX9_doneBy_b28 k4 l1 l3 0 l2 m
    else
      sX9_doneBy_b28 k4 l1 l3 1 l2 m
def sX9_doneBy_l4 (n : Nat) : Int32 → Int32 → Int32 → pMem → (Option Int32) := fixN (fun _ _ _ _ => none) (sX9_doneBy_b4) n
def sX9_doneBy (a1 : Int32) (m : pMem) : (Option Int32) :=
  sX9_doneBy_l4  5000 a1 0 0 m
def sX9_shareAt_b204 (m : pMem) : gO :=
  some (0, m)
def sX9_shareAt_b203 (t0 : Int32) (t1 : Int32) (m : pMem) : gO :=
  if oob t1 10 then none else
  bnd (st1 m 105 t1.toNatClampNeg t0) fun m41 =>
  sX9_shareAt_b204  m41
def sX9_shareAt_b169 (l1 : Int32) (l3 : Int32) (l8 : Int32) (t0 : Int32) (m : pMem) : gO :=
  if oob l3 10 then none else
  if oob t0 10 then none else
  bnd (st1 m 105 t0.toNatClampNeg ((m.1 105 l3.toNatClampNeg) - l8)) fun m36 =>
  if oob l1 12 then none else
  if ¬ (m36.1 68 l1.toNatClampNeg) = 0 then
    sX9_shareAt_b203  0 l3 m36
  else
    if oob l3 10 then none else
    sX9_shareAt_b203  (m36.1 105 l3.toNatClampNeg) l3 m36
def sX9_shareAt_b79 (l1 : Int32) (l2 : Int32) (l3 : Int32) (l4 : Int32) (m : pMem) : gO :=
  cbR (sX9_groundsOf l3 l1 m) fun r19 =>
  if oob l1 12 then none else
  cbR (sX9_keyOf (m.1 72 l1.toNatClampNeg) r19 l2 m) fun r22 =>
  if oob l1 12 then none else
  cbR (sX9_keyOf (r19 &&& ((m.1 72 l1.toNatClampNeg) ^^^ (-1 : Int32))) r19 l2 m) fun r25 =>
  if oob l3 10 then none else
  if (r22 + r25) = 0 then none else
  bnd (((m.1 105 l3.toNatClampNeg) * r22) / (r22 + r25)) fun x29 =>
  if oob l4 10 then none else
  bnd (st1 m 105 l4.toNatClampNeg x29) fun m31 =>
  if oob l1 12 then none else
  if ¬ (m31.1 68 l1.toNatClampNeg) = 0 then
    sX9_shareAt_b169  l1 l3 x29 (l4 + (1 : Int32)) m31
  else
    sX9_shareAt_b169  l1 l3 x29 l3 m31
def sX9_shareAt (a1 : Int32) (a2 : Int32) (m : pMem) : gO :=
  if oob a1 12 then none else
  bnd (m.1 70 a1.toNatClampNeg) fun x2 =>
  if oob a1 12 then none else
  bnd (m.1 73 a1.toNatClampNeg) fun x4 =>
  if oob a1 12 then none else
  if ¬ (m.1 68 a1.toNatClampNeg) = 2 then
    if oob a1 12 then none else
    if (m.1 68 a1.toNatClampNeg) = 0 then
      sX9_shareAt_b79  a1 a2 x2 x4 m
    else
      if oob a1 12 then none else
      if ¬ (m.1 68 a1.toNatClampNeg) = 1 then
        sX9_shareAt_b204  m
      else
        sX9_shareAt_b79  a1 a2 x2 x4 m
  else
    if oob x2 10 then none else
    if oob a1 12 then none else
    if oob (m.1 71 a1.toNatClampNeg) 10 then none else
    if oob x2 10 then none else
    bnd (st1 m 105 x2.toNatClampNeg ((m.1 105 x2.toNatClampNeg) + (m.1 105 ((m.1 71 a1.toNatClampNeg).toNatClampNeg)))) fun m15 =>
    if oob a1 12 then none else
    if oob (m15.1 71 a1.toNatClampNeg) 10 then none else
    bnd (st1 m15 105 ((m15.1 71 a1.toNatClampNeg).toNatClampNeg) 0) fun m18 =>
    sX9_shareAt_b204  m18
def sX9_owesOf_b111 (k80 : Int32 → Int32 → Int32 → Int32 → Int32 → pMem → gO) (l1 : Int32) (l2 : Int32) (l4 : Int32) (l5 : Int32) (l6 : Int32) (m : pMem) : gO :=
  k80 l1 l2 l4 l5 (l6 + 1) m
def sX9_owesOf_b80 (k80 : Int32 → Int32 → Int32 → Int32 → Int32 → pMem → gO) (l1 : Int32) (l2 : Int32) (l4 : Int32) (l5 : Int32) (l6 : Int32) (m : pMem) : gO :=
  if l5 ≤ l6 then
    if oob l2 10 then none else
    some (m.1 105 l2.toNatClampNeg, m)
  else
    if oob l6 12 then none else
    if oob l1 8 then none else
    if (m.1 69 l6.toNatClampNeg) ≤ (m.1 98 l1.toNatClampNeg) then
      sX9_owesOf_b111 k80 l1 l2 l4 l5 l6 m
    else
      cbE (sX9_shareAt l6 l4 m) fun _ m23 =>
      sX9_owesOf_b111 k80 l1 l2 l4 l5 l6 m23
def sX9_owesOf_l80 (n : Nat) : Int32 → Int32 → Int32 → Int32 → Int32 → pMem → gO := fixN (fun _ _ _ _ _ _ => none) (sX9_owesOf_b80) n
def sX9_owesOf_b60 (t0 : Int32) (m : pMem) : gO :=
  some (t0, m)
def sX9_owesOf (a1 : Int32) (a2 : Int32) (a3 : Int32) (a4 : Int32) (m : pMem) : gO :=
  if oob a1 8 then none else
  if (m.1 98 a1.toNatClampNeg) ≤ a3 then
    cbR (sX9_doneBy a3 m) fun r3 =>
    if oob a1 8 then none else
    if (m.1 97 a1.toNatClampNeg) = (-1) then
      if oob a1 8 then none else
      if oob a1 8 then none else
      cbE (sX9_beginPart (m.1 95 a1.toNatClampNeg) (m.1 96 a1.toNatClampNeg) m) fun _ m11 =>
      sX9_owesOf_l80  5000 a1 a2 a4 r3 0 m11
    else
      if oob a1 8 then none else
      if oob (((8 : Int32) * r3) + (m.1 97 a1.toNatClampNeg)) 104 then none else
      if ¬ (m.1 74 ((((8 : Int32) * r3) + (m.1 97 a1.toNatClampNeg)).toNatClampNeg)) = a2 then
        sX9_owesOf_b60  0 m
      else
        if oob a1 8 then none else
        sX9_owesOf_b60  (m.1 96 a1.toNatClampNeg) m
  else
    some (0, m)
def sX9_ownsOf_b93 (k57 : Int32 → Int32 → Int32 → Int32 → Int32 → pMem → gO) (l1 : Int32) (l2 : Int32) (l4 : Int32) (l5 : Int32) (l6 : Int32) (m : pMem) : gO :=
  k57 l1 l2 l4 l5 (l6 + 1) m
def sX9_ownsOf_b57 (k57 : Int32 → Int32 → Int32 → Int32 → Int32 → pMem → gO) (l1 : Int32) (l2 : Int32) (l4 : Int32) (l5 : Int32) (l6 : Int32) (m : pMem) : gO :=
  if l5 ≤ l6 then
    if oob l2 10 then none else
    some (m.1 105 l2.toNatClampNeg, m)
  else
    if oob l1 8 then none else
    if ¬ (m.1 99 l1.toNatClampNeg) = 1 then
      cbE (sX9_abroadAt l6 l4 m) fun _ m18 =>
      sX9_ownsOf_b93 k57 l1 l2 l4 l5 l6 m18
    else
      cbE (sX9_shareAt l6 l4 m) fun _ m21 =>
      sX9_ownsOf_b93 k57 l1 l2 l4 l5 l6 m21
def sX9_ownsOf_l57 (n : Nat) : Int32 → Int32 → Int32 → Int32 → Int32 → pMem → gO := fixN (fun _ _ _ _ _ _ => none) (sX9_ownsOf_b57) n
def sX9_ownsOf_b42 (t0 : Int32) (m : pMem) : gO :=
  some (t0, m)
def sX9_ownsOf (a1 : Int32) (a2 : Int32) (a3 : Int32) (a4 : Int32) (m : pMem) : gO :=
  cbR (sX9_doneBy a3 m) fun r1 =>
  if oob a1 8 then none else
  if ¬ (m.1 99 a1.toNatClampNeg) = 0 then
    if oob a1 8 then none else
    cbE (sX9_beginPart 0 (m.1 100 a1.toNatClampNeg) m) fun _ m8 =>
    sX9_ownsOf_l57  5000 a1 a2 a4 r1 0 m8
  else
    if oob a1 8 then none else
    if oob (((8 : Int32) * r1) + (m.1 101 a1.toNatClampNeg)) 104 then none else
    if ¬ (m.1 74 ((((8 : Int32) * r1) + (m.1 101 a1.toNatClampNeg)).toNatClampNeg)) = a2 then
      sX9_ownsOf_b42  0 m
    else
      sX9_ownsOf_b42  1 m
def sX9_burdenOf_b72 (k38 : Int32 → Int32 → Int32 → Int32 → Int32 → pMem → gO) (l1 : Int32) (l2 : Int32) (l3 : Int32) (l5 : Int32) (t0 : Int32) (t1 : Int32) (m : pMem) : gO :=
  bnd (t1 - t0) fun x12 =>
  k38 l1 l2 l3 x12 (l5 + 1) m
def sX9_burdenOf_b38 (k38 : Int32 → Int32 → Int32 → Int32 → Int32 → pMem → gO) (l1 : Int32) (l2 : Int32) (l3 : Int32) (l4 : Int32) (l5 : Int32) (m : pMem) : gO :=
  if (m.1 9 51) ≤ l5 then
    some (l4, m)
  else
    if oob l5 8 then none else
    if ¬ (m.1 99 l5.toNatClampNeg) = 0 then
      cbE (sX9_ownsOf l5 l1 l2 l3 m) fun r9 m11 =>
      sX9_burdenOf_b72 k38 l1 l2 l3 l5 r9 l4 m11
    else
      sX9_burdenOf_b72 k38 l1 l2 l3 l5 0 l4 m
def sX9_burdenOf_l38 (n : Nat) : Int32 → Int32 → Int32 → Int32 → Int32 → pMem → gO := fixN (fun _ _ _ _ _ _ => none) (sX9_burdenOf_b38) n
def sX9_burdenOf_b6 (k6 : Int32 → Int32 → Int32 → Int32 → Int32 → pMem → gO) (l1 : Int32) (l2 : Int32) (l3 : Int32) (l4 : Int32) (l5 : Int32) (m : pMem) : gO :=
  if (m.1 9 46) ≤ l5 then
    sX9_burdenOf_l38  5000 l1 l2 l3 l4 0 m
  else
    cbE (sX9_owesOf l5 l1 l2 l3 m) fun r2 m4 =>
    bnd (l4 + r2) fun x5 =>
    k6 l1 l2 l3 x5 (l5 + 1) m4
def sX9_burdenOf_l6 (n : Nat) : Int32 → Int32 → Int32 → Int32 → Int32 → pMem → gO := fixN (fun _ _ _ _ _ _ => none) (sX9_burdenOf_b6) n
def sX9_burdenOf (a1 : Int32) (a2 : Int32) (a3 : Int32) (m : pMem) : gO :=
  sX9_burdenOf_l6  5000 a1 a2 a3 0 0 m
def sX9_best_b56 (k26 : Int32 → Int32 → Int32 → Int32 → pMem → gO) (l1 : Int32) (l2 : Int32) (l4 : Int32) (t0 : Int32) (m : pMem) : gO :=
  k26 l1 l2 t0 (l4 + 1) m
def sX9_best_b26 (k26 : Int32 → Int32 → Int32 → Int32 → pMem → gO) (l1 : Int32) (l2 : Int32) (l3 : Int32) (l4 : Int32) (m : pMem) : gO :=
  if (3 : Int32) ≤ l4 then
    some (l3, m)
  else
    cbE (sX9_burdenOf l1 l2 l4 m) fun r8 m10 =>
    cbE (sX9_burdenOf l1 l2 l3 m10) fun r11 m13 =>
    if r11 ≤ r8 then
      sX9_best_b56 k26 l1 l2 l4 l3 m13
    else
      sX9_best_b56 k26 l1 l2 l4 l4 m13
def sX9_best_l26 (n : Nat) : Int32 → Int32 → Int32 → Int32 → pMem → gO := fixN (fun _ _ _ _ _ => none) (sX9_best_b26) n
def sX9_best (a1 : Int32) (a2 : Int32) (m : pMem) : gO :=
  cbR (sX9_isLand a1 m) fun r1 =>
  if ¬ r1 = 0 then
    cbR (sX9_isDay a2 m) fun r4 =>
    if ¬ r4 = 0 then
      sX9_best_l26  5000 a1 a2 0 1 m
    else
      some ((-3), m)
  else
    some ((-2), m)
def sX9_bits_b4 (k4 : Int32 → Int32 → Int32 → pMem → (Option Int32)) (l0 : Int32) (l1 : Int32) (l2 : Int32) (m : pMem) : (Option Int32) :=
  if (10 : Int32) ≤ l2 then
    some l1
  else
    bnd (l1 + ((l0 >>> (l2 &&& 31)) &&& (1 : Int32))) fun x2 =>
    k4 l0 x2 (l2 + 1) m
def sX9_bits_l4 (n : Nat) : Int32 → Int32 → Int32 → pMem → (Option Int32) := fixN (fun _ _ _ _ => none) (sX9_bits_b4) n
def sX9_bits (a1 : Int32) (m : pMem) : (Option Int32) :=
  sX9_bits_l4  5000 a1 0 0 m
def sX9_isPact (a1 : Int32) (m : pMem) : (Option Int32) :=
  cbR (sX9_in a1 0 ((m.1 9 26) - (1 : Int32)) m) fun r1 =>
  some (vp_nar .boolean r1)
def sX9_isThere_b29 (t0 : Int32) (m : pMem) : (Option Int32) :=
  some (vp_nar .boolean t0)
def sX9_isThere_b28 (m : pMem) : (Option Int32) :=
  sX9_isThere_b29  0 m
def sX9_isThere (a1 : Int32) (a2 : Int32) (m : pMem) : (Option Int32) :=
  cbR (sX9_in a1 0 9 m) fun r1 =>
  if r1 = 0 then
    sX9_isThere_b28  m
  else
    if oob a2 13 then none else
    if ¬ (((m.1 75 a2.toNatClampNeg) >>> (a1 &&& 31)) &&& (1 : Int32)) = 1 then
      sX9_isThere_b28  m
    else
      sX9_isThere_b29  1 m
def sX9_isRecognized_b154 (t0 : Int32) (m : pMem) : (Option Int32) :=
  some (vp_nar .boolean t0)
def sX9_isRecognized_b103 (k5 : Int32 → Int32 → Int32 → Int32 → pMem → (Option Int32)) (k18 : Int32 → Int32 → Int32 → Int32 → Int32 → Int32 → pMem → (Option Int32)) (l1 : Int32) (l2 : Int32) (l3 : Int32) (l4 : Int32) (l6 : Int32) (t0 : Int32) (m : pMem) : (Option Int32) :=
  k18 l1 l2 l3 l4 t0 (l6 + 1) m
def sX9_isRecognized_b96 (k5 : Int32 → Int32 → Int32 → Int32 → pMem → (Option Int32)) (k18 : Int32 → Int32 → Int32 → Int32 → Int32 → Int32 → pMem → (Option Int32)) (l1 : Int32) (l2 : Int32) (l3 : Int32) (l4 : Int32) (l6 : Int32) (m : pMem) : (Option Int32) :=
  sX9_isRecognized_b103 k5 k18 l1 l2 l3 l4 l6 l6 m
def sX9_isRecognized_b101 (k5 : Int32 → Int32 → Int32 → Int32 → pMem → (Option Int32)) (k18 : Int32 → Int32 → Int32 → Int32 → Int32 → Int32 → pMem → (Option Int32)) (l1 : Int32) (l2 : Int32) (l3 : Int32) (l4 : Int32) (l5 : Int32) (l6 : Int32) (m : pMem) : (Option Int32) :=
  sX9_isRecognized_b103 k5 k18 l1 l2 l3 l4 l6 l5 m
def sX9_isRecognized_b66 (k5 : Int32 → Int32 → Int32 → Int32 → pMem → (Option Int32)) (k18 : Int32 → Int32 → Int32 → Int32 → Int32 → Int32 → pMem → (Option Int32)) (l1 : Int32) (l2 : Int32) (l3 : Int32) (l4 : Int32) (l5 : Int32) (l6 : Int32) (t0 : Int32) (m : pMem) : (Option Int32) :=
  if t0 = 0 then
    sX9_isRecognized_b101 k5 k18 l1 l2 l3 l4 l5 l6 m
  else
    if l5 = (-1) then
      sX9_isRecognized_b96 k5 k18 l1 l2 l3 l4 l6 m
    else
      if oob l6 24 then none else
      if oob l5 24 then none else
      if (m.1 91 l6.toNatClampNeg) < (m.1 91 l5.toNatClampNeg) then
        sX9_isRecognized_b101 k5 k18 l1 l2 l3 l4 l5 l6 m
      else
        sX9_isRecognized_b96 k5 k18 l1 l2 l3 l4 l6 m
def sX9_isRecognized_b65 (k5 : Int32 → Int32 → Int32 → Int32 → pMem → (Option Int32)) (k18 : Int32 → Int32 → Int32 → Int32 → Int32 → Int32 → pMem → (Option Int32)) (l1 : Int32) (l2 : Int32) (l3 : Int32) (l4 : Int32) (l5 : Int32) (l6 : Int32) (m : pMem) : (Option Int32) :=
  sX9_isRecognized_b66 k5 k18 l1 l2 l3 l4 l5 l6 0 m
def sX9_isRecognized_b137 (k5 : Int32 → Int32 → Int32 → Int32 → pMem → (Option Int32)) (l1 : Int32) (l2 : Int32) (l4 : Int32) (t0 : Int32) (t1 : Int32) (m : pMem) : (Option Int32) :=
  bnd (t1 + t0) fun x14 =>
  k5 l1 l2 x14 (l4 + 1) m
def sX9_isRecognized_b18 (k5 : Int32 → Int32 → Int32 → Int32 → pMem → (Option Int32)) (k18 : Int32 → Int32 → Int32 → Int32 → Int32 → Int32 → pMem → (Option Int32)) (l1 : Int32) (l2 : Int32) (l3 : Int32) (l4 : Int32) (l5 : Int32) (l6 : Int32) (m : pMem) : (Option Int32) :=
  if (m.1 9 39) ≤ l6 then
    if ¬ l5 = (-1) then
      if oob l5 24 then none else
      if (m.1 92 l5.toNatClampNeg) = 0 then
        sX9_isRecognized_b137 k5 l1 l2 l4 (-1) l3 m
      else
        sX9_isRecognized_b137 k5 l1 l2 l4 1 l3 m
    else
      sX9_isRecognized_b137 k5 l1 l2 l4 0 l3 m
  else
    if oob l6 24 then none else
    if ¬ (m.1 89 l6.toNatClampNeg) = l4 then
      sX9_isRecognized_b65 k5 k18 l1 l2 l3 l4 l5 l6 m
    else
      if oob l6 24 then none else
      if ¬ (m.1 90 l6.toNatClampNeg) = l1 then
        sX9_isRecognized_b65 k5 k18 l1 l2 l3 l4 l5 l6 m
      else
        if oob l6 24 then none else
        if l2 < (m.1 91 l6.toNatClampNeg) then
          sX9_isRecognized_b65 k5 k18 l1 l2 l3 l4 l5 l6 m
        else
          sX9_isRecognized_b66 k5 k18 l1 l2 l3 l4 l5 l6 1 m
def sX9_isRecognized_l18 (k5 : Int32 → Int32 → Int32 → Int32 → pMem → (Option Int32)) (n : Nat) : Int32 → Int32 → Int32 → Int32 → Int32 → Int32 → pMem → (Option Int32) := fixN (fun _ _ _ _ _ _ _ => none) (sX9_isRecognized_b18 k5) n
def sX9_isRecognized_b5 (k5 : Int32 → Int32 → Int32 → Int32 → pMem → (Option Int32)) (l1 : Int32) (l2 : Int32) (l3 : Int32) (l4 : Int32) (m : pMem) : (Option Int32) :=
  if (6 : Int32) ≤ l4 then
    if l3 ≤ 0 then
      sX9_isRecognized_b154  0 m
    else
      sX9_isRecognized_b154  1 m
  else
    bnd ((-1)) fun x3 =>
    sX9_isRecognized_l18 k5 5000 l1 l2 l3 l4 x3 0 m
def sX9_isRecognized_l5 (n : Nat) : Int32 → Int32 → Int32 → Int32 → pMem → (Option Int32) := fixN (fun _ _ _ _ _ => none) (sX9_isRecognized_b5) n
def sX9_isRecognized (a1 : Int32) (a2 : Int32) (m : pMem) : (Option Int32) :=
  sX9_isRecognized_l5  5000 a1 a2 0 0 m
def sX9_byRank_b83 (k3 : Int32 → Int32 → Int32 → Int32 → pMem → (Option Int32)) (k44 : Int32 → Int32 → Int32 → Int32 → Int32 → Int32 → pMem → (Option Int32)) (l1 : Int32) (l2 : Int32) (l3 : Int32) (l4 : Int32) (l6 : Int32) (t0 : Int32) (m : pMem) : (Option Int32) :=
  k44 l1 l2 l3 l4 t0 (l6 + 1) m
def sX9_byRank_b82 (k3 : Int32 → Int32 → Int32 → Int32 → pMem → (Option Int32)) (k44 : Int32 → Int32 → Int32 → Int32 → Int32 → Int32 → pMem → (Option Int32)) (l1 : Int32) (l2 : Int32) (l3 : Int32) (l4 : Int32) (l6 : Int32) (m : pMem) : (Option Int32) :=
  sX9_byRank_b83 k3 k44 l1 l2 l3 l4 l6 0 m
def sX9_byRank_b78 (k3 : Int32 → Int32 → Int32 → Int32 → pMem → (Option Int32)) (k44 : Int32 → Int32 → Int32 → Int32 → Int32 → Int32 → pMem → (Option Int32)) (l1 : Int32) (l2 : Int32) (l3 : Int32) (l4 : Int32) (l6 : Int32) (m : pMem) : (Option Int32) :=
  sX9_byRank_b83 k3 k44 l1 l2 l3 l4 l6 1 m
def sX9_byRank_b111 (k3 : Int32 → Int32 → Int32 → Int32 → pMem → (Option Int32)) (l1 : Int32) (l2 : Int32) (l3 : Int32) (l4 : Int32) (m : pMem) : (Option Int32) :=
  k3 l1 l2 l3 (l4 + 1) m
def sX9_byRank_b44 (k3 : Int32 → Int32 → Int32 → Int32 → pMem → (Option Int32)) (k44 : Int32 → Int32 → Int32 → Int32 → Int32 → Int32 → pMem → (Option Int32)) (l1 : Int32) (l2 : Int32) (l3 : Int32) (l4 : Int32) (l5 : Int32) (l6 : Int32) (m : pMem) : (Option Int32) :=
  if l2 ≤ l6 then
    if l5 = 0 then
      sX9_byRank_b111 k3 l1 l2 l3 l4 m
    else
      cbR (sX9_isRecognized l4 l3 m) fun r12 =>
      if r12 = 0 then
        sX9_byRank_b111 k3 l1 l2 l3 l4 m
      else
        some ((1 : Int32) <<< (l4 &&& 31))
  else
    if ¬ l5 = 0 then
      sX9_byRank_b78 k3 k44 l1 l2 l3 l4 l6 m
    else
      if oob l6 12 then none else
      if ¬ (m.1 68 l6.toNatClampNeg) = 4 then
        sX9_byRank_b82 k3 k44 l1 l2 l3 l4 l6 m
      else
        if oob l6 12 then none else
        if ¬ (m.1 70 l6.toNatClampNeg) = l4 then
          sX9_byRank_b82 k3 k44 l1 l2 l3 l4 l6 m
        else
          sX9_byRank_b78 k3 k44 l1 l2 l3 l4 l6 m
def sX9_byRank_l44 (k3 : Int32 → Int32 → Int32 → Int32 → pMem → (Option Int32)) (n : Nat) : Int32 → Int32 → Int32 → Int32 → Int32 → Int32 → pMem → (Option Int32) := fixN (fun _ _ _ _ _ _ _ => none) (sX9_byRank_b44 k3) n
def sX9_byRank_b3 (k3 : Int32 → Int32 → Int32 → Int32 → pMem → (Option Int32)) (l1 : Int32) (l2 : Int32) (l3 : Int32) (l4 : Int32) (m : pMem) : (Option Int32) :=
  if (m.1 9 3) ≤ l4 then
    if oob l2 13 then none else
    if oob l1 12 then none else
    some ((m.1 75 l2.toNatClampNeg) &&& ((1 : Int32) <<< ((m.1 80 l1.toNatClampNeg) &&& 31)))
  else
    cbR (sX9_isThere l4 l2 m) fun r4 =>
    if r4 = 0 then
      sX9_byRank_b111 k3 l1 l2 l3 l4 m
    else
      if oob l4 10 then none else
      if oob l1 12 then none else
      if ¬ (m.1 66 l4.toNatClampNeg) = (m.1 80 l1.toNatClampNeg) then
        sX9_byRank_b111 k3 l1 l2 l3 l4 m
      else
        sX9_byRank_l44 k3 5000 l1 l2 l3 l4 0 0 m
def sX9_byRank_l3 (n : Nat) : Int32 → Int32 → Int32 → Int32 → pMem → (Option Int32) := fixN (fun _ _ _ _ _ => none) (sX9_byRank_b3) n
def sX9_byRank (a1 : Int32) (a2 : Int32) (a3 : Int32) (m : pMem) : (Option Int32) :=
  sX9_byRank_l3  5000 a1 a2 a3 0 m
def sX9_comesBy_b56 (t0 : Int32) (m : pMem) : (Option Int32) :=
  some (vp_nar .boolean t0)
def sX9_comesBy_b51 (m : pMem) : (Option Int32) :=
  sX9_comesBy_b56  1 m
def sX9_comesBy_b55 (m : pMem) : (Option Int32) :=
  sX9_comesBy_b56  0 m
def sX9_comesBy_b19 (l1 : Int32) (l2 : Int32) (m : pMem) : (Option Int32) :=
  if oob l2 12 then none else
  if ¬ (m.1 68 l2.toNatClampNeg) = 1 then
    sX9_comesBy_b55  m
  else
    if oob l2 12 then none else
    if (m.1 73 l2.toNatClampNeg) = l1 then
      sX9_comesBy_b51  m
    else
      if oob l2 12 then none else
      if ¬ ((m.1 73 l2.toNatClampNeg) + (1 : Int32)) = l1 then
        sX9_comesBy_b55  m
      else
        sX9_comesBy_b51  m
def sX9_comesBy (a1 : Int32) (a2 : Int32) (m : pMem) : (Option Int32) :=
  if oob a2 12 then none else
  if ¬ (m.1 68 a2.toNatClampNeg) = 0 then
    sX9_comesBy_b19  a1 a2 m
  else
    if oob a2 12 then none else
    if (m.1 73 a2.toNatClampNeg) = a1 then
      sX9_comesBy_b51  m
    else
      sX9_comesBy_b19  a1 a2 m
def sX9_latest_b147 (t0 : Int32) (m : pMem) : (Option Int32) :=
  some t0
def sX9_latest_b114 (k6 : Int32 → Int32 → Int32 → Int32 → Int32 → Int32 → pMem → (Option Int32)) (l1 : Int32) (l2 : Int32) (l3 : Int32) (l4 : Int32) (l6 : Int32) (t0 : Int32) (m : pMem) : (Option Int32) :=
  k6 l1 l2 l3 l4 t0 (l6 + 1) m
def sX9_latest_b112 (k6 : Int32 → Int32 → Int32 → Int32 → Int32 → Int32 → pMem → (Option Int32)) (l1 : Int32) (l2 : Int32) (l3 : Int32) (l4 : Int32) (l5 : Int32) (l6 : Int32) (m : pMem) : (Option Int32) :=
  sX9_latest_b114 k6 l1 l2 l3 l4 l6 l5 m
def sX9_latest_b107 (k6 : Int32 → Int32 → Int32 → Int32 → Int32 → Int32 → pMem → (Option Int32)) (l1 : Int32) (l2 : Int32) (l3 : Int32) (l4 : Int32) (l6 : Int32) (m : pMem) : (Option Int32) :=
  sX9_latest_b114 k6 l1 l2 l3 l4 l6 l6 m
def sX9_latest_b77 (k6 : Int32 → Int32 → Int32 → Int32 → Int32 → Int32 → pMem → (Option Int32)) (l1 : Int32) (l2 : Int32) (l3 : Int32) (l4 : Int32) (l5 : Int32) (l6 : Int32) (t0 : Int32) (m : pMem) : (Option Int32) :=
  if t0 = 0 then
    sX9_latest_b112 k6 l1 l2 l3 l4 l5 l6 m
  else
    if l5 = (-1) then
      sX9_latest_b107 k6 l1 l2 l3 l4 l6 m
    else
      if oob l6 24 then none else
      if oob l5 24 then none else
      if (m.1 86 l6.toNatClampNeg) < (m.1 86 l5.toNatClampNeg) then
        sX9_latest_b112 k6 l1 l2 l3 l4 l5 l6 m
      else
        sX9_latest_b107 k6 l1 l2 l3 l4 l6 m
def sX9_latest_b76 (k6 : Int32 → Int32 → Int32 → Int32 → Int32 → Int32 → pMem → (Option Int32)) (l1 : Int32) (l2 : Int32) (l3 : Int32) (l4 : Int32) (l5 : Int32) (l6 : Int32) (m : pMem) : (Option Int32) :=
  sX9_latest_b77 k6 l1 l2 l3 l4 l5 l6 0 m
def sX9_latest_b6 (k6 : Int32 → Int32 → Int32 → Int32 → Int32 → Int32 → pMem → (Option Int32)) (l1 : Int32) (l2 : Int32) (l3 : Int32) (l4 : Int32) (l5 : Int32) (l6 : Int32) (m : pMem) : (Option Int32) :=
  if (m.1 9 32) ≤ l6 then
    if ¬ l5 = (-1) then
      if oob l5 24 then none else
      if (m.1 88 l5.toNatClampNeg) = 0 then
        sX9_latest_b147  0 m
      else
        sX9_latest_b147  1 m
    else
      sX9_latest_b147  (-1) m
  else
    if ¬ (((m.1 9 38) >>> (l6 &&& 31)) &&& (1 : Int32)) = 0 then
      sX9_latest_b76 k6 l1 l2 l3 l4 l5 l6 m
    else
      if oob l6 24 then none else
      if ¬ (m.1 84 l6.toNatClampNeg) = l1 then
        sX9_latest_b76 k6 l1 l2 l3 l4 l5 l6 m
      else
        if oob l6 24 then none else
        if ¬ (m.1 85 l6.toNatClampNeg) = l2 then
          sX9_latest_b76 k6 l1 l2 l3 l4 l5 l6 m
        else
          if oob l6 24 then none else
          if ¬ (m.1 87 l6.toNatClampNeg) = l3 then
            sX9_latest_b76 k6 l1 l2 l3 l4 l5 l6 m
          else
            if oob l6 24 then none else
            if l4 < (m.1 86 l6.toNatClampNeg) then
              sX9_latest_b76 k6 l1 l2 l3 l4 l5 l6 m
            else
              sX9_latest_b77 k6 l1 l2 l3 l4 l5 l6 1 m
def sX9_latest_l6 (n : Nat) : Int32 → Int32 → Int32 → Int32 → Int32 → Int32 → pMem → (Option Int32) := fixN (fun _ _ _ _ _ _ _ => none) (sX9_latest_b6) n
def sX9_latest (a1 : Int32) (a2 : Int32) (a3 : Int32) (a4 : Int32) (m : pMem) : (Option Int32) :=
  bnd ((-1)) fun x1 =>
  sX9_latest_l6  5000 a1 a2 a3 a4 x1 0 m
def sX9_firstYes_b122 (k6 : Int32 → Int32 → Int32 → Int32 → Int32 → pMem → (Option Int32)) (l1 : Int32) (l2 : Int32) (l3 : Int32) (l5 : Int32) (t0 : Int32) (m : pMem) : (Option Int32) :=
  k6 l1 l2 l3 t0 (l5 + 1) m
def sX9_firstYes_b120 (k6 : Int32 → Int32 → Int32 → Int32 → Int32 → pMem → (Option Int32)) (l1 : Int32) (l2 : Int32) (l3 : Int32) (l4 : Int32) (l5 : Int32) (m : pMem) : (Option Int32) :=
  sX9_firstYes_b122 k6 l1 l2 l3 l5 l4 m
def sX9_firstYes_b110 (k6 : Int32 → Int32 → Int32 → Int32 → Int32 → pMem → (Option Int32)) (l1 : Int32) (l2 : Int32) (l3 : Int32) (l5 : Int32) (m : pMem) : (Option Int32) :=
  if oob l5 24 then none else
  sX9_firstYes_b122 k6 l1 l2 l3 l5 (m.1 86 l5.toNatClampNeg) m
def sX9_firstYes_b85 (k6 : Int32 → Int32 → Int32 → Int32 → Int32 → pMem → (Option Int32)) (l1 : Int32) (l2 : Int32) (l3 : Int32) (l4 : Int32) (l5 : Int32) (t0 : Int32) (m : pMem) : (Option Int32) :=
  if t0 = 0 then
    sX9_firstYes_b120 k6 l1 l2 l3 l4 l5 m
  else
    if l4 = (-1) then
      sX9_firstYes_b110 k6 l1 l2 l3 l5 m
    else
      if oob l5 24 then none else
      if l4 ≤ (m.1 86 l5.toNatClampNeg) then
        sX9_firstYes_b120 k6 l1 l2 l3 l4 l5 m
      else
        sX9_firstYes_b110 k6 l1 l2 l3 l5 m
def sX9_firstYes_b84 (k6 : Int32 → Int32 → Int32 → Int32 → Int32 → pMem → (Option Int32)) (l1 : Int32) (l2 : Int32) (l3 : Int32) (l4 : Int32) (l5 : Int32) (m : pMem) : (Option Int32) :=
  sX9_firstYes_b85 k6 l1 l2 l3 l4 l5 0 m
def sX9_firstYes_b6 (k6 : Int32 → Int32 → Int32 → Int32 → Int32 → pMem → (Option Int32)) (l1 : Int32) (l2 : Int32) (l3 : Int32) (l4 : Int32) (l5 : Int32) (m : pMem) : (Option Int32) :=
  if (m.1 9 32) ≤ l5 then
    some l4
  else
    if ¬ (((m.1 9 38) >>> (l5 &&& 31)) &&& (1 : Int32)) = 0 then
      sX9_firstYes_b84 k6 l1 l2 l3 l4 l5 m
    else
      if oob l5 24 then none else
      if ¬ (m.1 84 l5.toNatClampNeg) = l1 then
        sX9_firstYes_b84 k6 l1 l2 l3 l4 l5 m
      else
        if oob l5 24 then none else
        if ¬ (m.1 85 l5.toNatClampNeg) = l2 then
          sX9_firstYes_b84 k6 l1 l2 l3 l4 l5 m
        else
          if oob l5 24 then none else
          if ¬ (m.1 87 l5.toNatClampNeg) = 0 then
            sX9_firstYes_b84 k6 l1 l2 l3 l4 l5 m
          else
            if oob l5 24 then none else
            if (m.1 88 l5.toNatClampNeg) = 0 then
              sX9_firstYes_b84 k6 l1 l2 l3 l4 l5 m
            else
              if oob l5 24 then none else
              if l3 < (m.1 86 l5.toNatClampNeg) then
                sX9_firstYes_b84 k6 l1 l2 l3 l4 l5 m
              else
                sX9_firstYes_b85 k6 l1 l2 l3 l4 l5 1 m
def sX9_firstYes_l6 (n : Nat) : Int32 → Int32 → Int32 → Int32 → Int32 → pMem → (Option Int32) := fixN (fun _ _ _ _ _ _ => none) (sX9_firstYes_b6) n
def sX9_firstYes (a1 : Int32) (a2 : Int32) (a3 : Int32) (m : pMem) : (Option Int32) :=
  bnd ((-1)) fun x1 =>
  sX9_firstYes_l6  5000 a1 a2 a3 x1 0 m
def sX9_doWordsLet_b96 (t0 : Int32) (m : pMem) : (Option Int32) :=
  some (vp_nar .boolean t0)
def sX9_doWordsLet_b91 (m : pMem) : (Option Int32) :=
  sX9_doWordsLet_b96  1 m
def sX9_doWordsLet_b29 (t0 : Int32) (m : pMem) : (Option Int32) :=
  some (vp_nar .boolean t0)
def sX9_doWordsLet_b95 (m : pMem) : (Option Int32) :=
  sX9_doWordsLet_b96  0 m
def sX9_doWordsLet (a1 : Int32) (a2 : Int32) (a3 : Int32) (m : pMem) : (Option Int32) :=
  cbR (sX9_latest a1 a2 0 a3 m) fun r1 =>
  if ¬ (m.1 78 ((0 : Int32).toNatClampNeg)) = 0 then
    cbR (sX9_latest a1 a2 1 a3 m) fun r4 =>
    if ¬ r1 = 1 then
      sX9_doWordsLet_b95  m
    else
      cbR (sX9_firstYes a1 a2 a3 m) fun r7 =>
      if oob a2 10 then none else
      if (m.1 78 ((2 : Int32).toNatClampNeg)) < (r7 - (m.1 67 a2.toNatClampNeg)) then
        sX9_doWordsLet_b95  m
      else
        if r4 = 1 then
          sX9_doWordsLet_b91  m
        else
          if ¬ r4 = (-1) then
            sX9_doWordsLet_b95  m
          else
            if ¬ (m.1 78 ((1 : Int32).toNatClampNeg)) = 1 then
              sX9_doWordsLet_b95  m
            else
              sX9_doWordsLet_b91  m
  else
    if r1 = 0 then
      sX9_doWordsLet_b29  0 m
    else
      sX9_doWordsLet_b29  1 m
def sX9_isBound_b96 (k26 : Int32 → Int32 → Int32 → Int32 → Int32 → pMem → (Option Int32)) (l1 : Int32) (l2 : Int32) (l3 : Int32) (l4 : Int32) (l6 : Int32) (m : pMem) : (Option Int32) :=
  k26 l1 l2 l3 l4 (l6 + 1) m
def sX9_isBound_b94 (m : pMem) : (Option Int32) :=
  some (1 : Int32)
def sX9_isBound_b73 (k26 : Int32 → Int32 → Int32 → Int32 → Int32 → pMem → (Option Int32)) (l1 : Int32) (l2 : Int32) (l3 : Int32) (l4 : Int32) (l6 : Int32) (m : pMem) : (Option Int32) :=
  cbR (sX9_comesBy l2 l6 m) fun r13 =>
  if r13 = 0 then
    sX9_isBound_b96 k26 l1 l2 l3 l4 l6 m
  else
    cbR (sX9_doWordsLet l1 l2 l4 m) fun r16 =>
    if r16 = 0 then
      sX9_isBound_b96 k26 l1 l2 l3 l4 l6 m
    else
      sX9_isBound_b94  m
def sX9_isBound_b26 (k26 : Int32 → Int32 → Int32 → Int32 → Int32 → pMem → (Option Int32)) (l1 : Int32) (l2 : Int32) (l3 : Int32) (l4 : Int32) (l6 : Int32) (m : pMem) : (Option Int32) :=
  if l3 ≤ l6 then
    some (0 : Int32)
  else
    if oob l6 12 then none else
    if (m.1 93 l6.toNatClampNeg) = 0 then
      sX9_isBound_b96 k26 l1 l2 l3 l4 l6 m
    else
      if oob l6 12 then none else
      if ¬ (m.1 68 l6.toNatClampNeg) = 2 then
        sX9_isBound_b73 k26 l1 l2 l3 l4 l6 m
      else
        if oob l6 12 then none else
        if ¬ (m.1 70 l6.toNatClampNeg) = l2 then
          sX9_isBound_b73 k26 l1 l2 l3 l4 l6 m
        else
          if (m.1 78 ((0 : Int32).toNatClampNeg)) = 0 then
            sX9_isBound_b94  m
          else
            sX9_isBound_b73 k26 l1 l2 l3 l4 l6 m
def sX9_isBound_l26 (n : Nat) : Int32 → Int32 → Int32 → Int32 → Int32 → pMem → (Option Int32) := fixN (fun _ _ _ _ _ _ => none) (sX9_isBound_b26) n
def sX9_isBound_b23 (l1 : Int32) (l2 : Int32) (l3 : Int32) (l4 : Int32) (m : pMem) : (Option Int32) :=
  sX9_isBound_l26  5000 l1 l2 l3 l4 0 m
def sX9_isBound (a1 : Int32) (a2 : Int32) (a3 : Int32) (a4 : Int32) (a5 : Int32) (m : pMem) : (Option Int32) :=
  if oob a1 12 then none else
  if ¬ (m.1 80 a1.toNatClampNeg) = a2 then
    sX9_isBound_b23  a1 a2 a3 a4 m
  else
    if oob a1 12 then none else
    if a5 ≤ (m.1 83 a1.toNatClampNeg) then
      sX9_isBound_b23  a1 a2 a3 a4 m
    else
      some (1 : Int32)
def sX9_byTrade_b144 (k100 : Int32 → Int32 → Int32 → Int32 → Int32 → pMem → gO) (l1 : Int32) (l2 : Int32) (l3 : Int32) (l5 : Int32) (t0 : Int32) (t1 : Int32) (m : pMem) : gO :=
  bnd (t1 ||| t0) fun x20 =>
  k100 l1 l2 l3 x20 (l5 + 1) m
def sX9_byTrade_b143 (k100 : Int32 → Int32 → Int32 → Int32 → Int32 → pMem → gO) (l1 : Int32) (l2 : Int32) (l3 : Int32) (l5 : Int32) (t0 : Int32) (m : pMem) : gO :=
  sX9_byTrade_b144 k100 l1 l2 l3 l5 0 t0 m
def sX9_byTrade_b100 (k100 : Int32 → Int32 → Int32 → Int32 → Int32 → pMem → gO) (l1 : Int32) (l2 : Int32) (l3 : Int32) (l4 : Int32) (l5 : Int32) (m : pMem) : gO :=
  if (m.1 9 3) ≤ l5 then
    some (l4, m)
  else
    cbR (sX9_isThere l5 l2 m) fun r7 =>
    if r7 = 0 then
      sX9_byTrade_b143 k100 l1 l2 l3 l5 l4 m
    else
      cbR (sX9_isBound l1 l5 l2 l3 (l3 + (1 : Int32)) m) fun r10 =>
      if r10 = 0 then
        sX9_byTrade_b143 k100 l1 l2 l3 l5 l4 m
      else
        sX9_byTrade_b144 k100 l1 l2 l3 l5 ((1 : Int32) <<< (l5 &&& 31)) l4 m
def sX9_byTrade_l100 (n : Nat) : Int32 → Int32 → Int32 → Int32 → Int32 → pMem → gO := fixN (fun _ _ _ _ _ _ => none) (sX9_byTrade_b100) n
def sX9_byTrade_b87 (k3 : Int32 → Int32 → Int32 → Int32 → pMem → gO) (l1 : Int32) (l2 : Int32) (l3 : Int32) (l4 : Int32) (t0 : Int32) (t1 : Int32) (m : pMem) : gO :=
  if oob t1 12 then none else
  bnd (st1 m 93 t1.toNatClampNeg (vp_nar .boolean t0)) fun m22 =>
  k3 l1 l2 l3 (l4 + 1) m22
def sX9_byTrade_b86 (k3 : Int32 → Int32 → Int32 → Int32 → pMem → gO) (l1 : Int32) (l2 : Int32) (l3 : Int32) (l4 : Int32) (t0 : Int32) (m : pMem) : gO :=
  sX9_byTrade_b87 k3 l1 l2 l3 l4 0 t0 m
def sX9_byTrade_b37 (k3 : Int32 → Int32 → Int32 → Int32 → pMem → gO) (l1 : Int32) (l2 : Int32) (l3 : Int32) (l4 : Int32) (t0 : Int32) (m : pMem) : gO :=
  if oob l4 12 then none else
  if (3 : Int32) ≤ (m.1 68 l4.toNatClampNeg) then
    sX9_byTrade_b86 k3 l1 l2 l3 l4 l4 m
  else
    if oob l4 12 then none else
    if oob l4 12 then none else
    cbR (sX9_isBound l1 t0 l4 (m.1 69 l4.toNatClampNeg) (m.1 69 l4.toNatClampNeg) m) fun r17 =>
    if r17 = 0 then
      sX9_byTrade_b86 k3 l1 l2 l3 l4 l4 m
    else
      sX9_byTrade_b87 k3 l1 l2 l3 l4 1 l4 m
def sX9_byTrade_b3 (k3 : Int32 → Int32 → Int32 → Int32 → pMem → gO) (l1 : Int32) (l2 : Int32) (l3 : Int32) (l4 : Int32) (m : pMem) : gO :=
  if l2 ≤ l4 then
    sX9_byTrade_l100  5000 l1 l2 l3 0 0 m
  else
    if oob l4 12 then none else
    if ¬ (m.1 68 l4.toNatClampNeg) = 2 then
      if oob l4 12 then none else
      sX9_byTrade_b37 k3 l1 l2 l3 l4 (m.1 70 l4.toNatClampNeg) m
    else
      if oob l4 12 then none else
      sX9_byTrade_b37 k3 l1 l2 l3 l4 (m.1 71 l4.toNatClampNeg) m
def sX9_byTrade_l3 (n : Nat) : Int32 → Int32 → Int32 → Int32 → pMem → gO := fixN (fun _ _ _ _ _ => none) (sX9_byTrade_b3) n
def sX9_byTrade (a1 : Int32) (a2 : Int32) (a3 : Int32) (m : pMem) : gO :=
  sX9_byTrade_l3  5000 a1 a2 a3 0 m
def sX9_boundOf_b75 (t0 : Int32) (m : pMem) : gO :=
  some (t0, m)
def sX9_boundOf (a1 : Int32) (a2 : Int32) (m : pMem) : gO :=
  if oob a1 12 then none else
  if (m.1 83 a1.toNatClampNeg) ≤ a2 then
    cbR (sX9_doneBy a2 m) fun r3 =>
    if oob a1 12 then none else
    if ¬ (m.1 79 a1.toNatClampNeg) = 0 then
      if oob a1 12 then none else
      if ¬ (m.1 79 a1.toNatClampNeg) = 1 then
        cbE (sX9_byTrade a1 r3 a2 m) fun r9 m11 =>
        sX9_boundOf_b75  r9 m11
      else
        cbR (sX9_byRank a1 r3 a2 m) fun r12 =>
        sX9_boundOf_b75  r12 m
    else
      if oob a1 12 then none else
      if oob (((8 : Int32) * r3) + (m.1 82 a1.toNatClampNeg)) 104 then none else
      sX9_boundOf_b75  ((1 : Int32) <<< ((m.1 74 ((((8 : Int32) * r3) + (m.1 82 a1.toNatClampNeg)).toNatClampNeg)) &&& 31)) m
  else
    some (0, m)
def sX9_bound_b29 (t0 : Int32) (m : pMem) : gO :=
  some (t0, m)
def sX9_bound (a1 : Int32) (a2 : Int32) (m : pMem) : gO :=
  cbR (sX9_isPact a1 m) fun r1 =>
  if ¬ r1 = 0 then
    cbR (sX9_isDay a2 m) fun r4 =>
    if r4 = 0 then
      sX9_bound_b29  (-3) m
    else
      cbE (sX9_boundOf a1 a2 m) fun r7 m9 =>
      sX9_bound_b29  r7 m9
  else
    some ((-2), m)
def sX9_burden_b43 (t0 : Int32) (m : pMem) : gO :=
  some (t0, m)
def sX9_burden_b41 (m : pMem) : gO :=
  sX9_burden_b43  (-3) m
def sX9_burden (a1 : Int32) (a2 : Int32) (a3 : Int32) (m : pMem) : gO :=
  cbR (sX9_isLand a1 m) fun r1 =>
  if ¬ r1 = 0 then
    cbR (sX9_isDay a2 m) fun r4 =>
    if r4 = 0 then
      sX9_burden_b41  m
    else
      cbR (sX9_in a3 0 2 m) fun r7 =>
      if r7 = 0 then
        sX9_burden_b41  m
      else
        cbE (sX9_burdenOf a1 a2 a3 m) fun r10 m12 =>
        sX9_burden_b43  (r10 + (100000 : Int32)) m12
  else
    some ((-2), m)
def sX9_isLate_b67 (k40 : Int32 → Int32 → Int32 → pMem → (Option Int32)) (l1 : Int32) (l3 : Int32) (t0 : Int32) (m : pMem) : (Option Int32) :=
  k40 l1 t0 (l3 + 1) m
def sX9_isLate_b66 (k40 : Int32 → Int32 → Int32 → pMem → (Option Int32)) (l1 : Int32) (l3 : Int32) (m : pMem) : (Option Int32) :=
  sX9_isLate_b67 k40 l1 l3 0 m
def sX9_isLate_b40 (k40 : Int32 → Int32 → Int32 → pMem → (Option Int32)) (l1 : Int32) (l2 : Int32) (l3 : Int32) (m : pMem) : (Option Int32) :=
  if (m.1 9 46) ≤ l3 then
    some (vp_nar .boolean l2)
  else
    if l2 = 0 then
      sX9_isLate_b66 k40 l1 l3 m
    else
      if oob l3 8 then none else
      if l1 ≤ (m.1 98 l3.toNatClampNeg) then
        sX9_isLate_b66 k40 l1 l3 m
      else
        sX9_isLate_b67 k40 l1 l3 1 m
def sX9_isLate_l40 (n : Nat) : Int32 → Int32 → Int32 → pMem → (Option Int32) := fixN (fun _ _ _ _ => none) (sX9_isLate_b40) n
def sX9_isLate_b31 (k4 : Int32 → Int32 → Int32 → pMem → (Option Int32)) (l1 : Int32) (l3 : Int32) (t0 : Int32) (m : pMem) : (Option Int32) :=
  k4 l1 t0 (l3 + 1) m
def sX9_isLate_b30 (k4 : Int32 → Int32 → Int32 → pMem → (Option Int32)) (l1 : Int32) (l3 : Int32) (m : pMem) : (Option Int32) :=
  sX9_isLate_b31 k4 l1 l3 0 m
def sX9_isLate_b4 (k4 : Int32 → Int32 → Int32 → pMem → (Option Int32)) (l1 : Int32) (l2 : Int32) (l3 : Int32) (m : pMem) : (Option Int32) :=
  if (m.1 9 26) ≤ l3 then
    sX9_isLate_l40  5000 l1 l2 0 m
  else
    if l2 = 0 then
      sX9_isLate_b30 k4 l1 l3 m
    else
      if oob l3 12 then none else
      if l1 ≤ (m.1 83 l3.toNatClampNeg) then
        sX9_isLate_b30 k4 l1 l3 m
      else
        sX9_isLate_b31 k4 l1 l3 1 m
def sX9_isLate_l4 (n : Nat) : Int32 → Int32 → Int32 → pMem → (Option Int32) := fixN (fun _ _ _ _ => none) (sX9_isLate_b4) n
def sX9_isLate (a1 : Int32) (m : pMem) : (Option Int32) :=
  sX9_isLate_l4  5000 a1 1 0 m
def sX9_isSome_b32 (t0 : Int32) (m : pMem) : (Option Int32) :=
  some (vp_nar .boolean t0)
def sX9_isSome_b31 (m : pMem) : (Option Int32) :=
  sX9_isSome_b32  0 m
def sX9_isSome (a1 : Int32) (a2 : Int32) (m : pMem) : (Option Int32) :=
  cbR (sX9_groundsOf a2 (m.1 9 6) m) fun r1 =>
  if a1 ≤ 0 then
    sX9_isSome_b31  m
  else
    if ¬ (a1 &&& (r1 ^^^ (-1 : Int32))) = 0 then
      sX9_isSome_b31  m
    else
      if a1 = r1 then
        sX9_isSome_b31  m
      else
        sX9_isSome_b32  1 m
def sX9_doLast_b280 (m : pMem) : gO :=
  some (0, m)
def sX9_doLast_b159 (k20 : Int32 → Int32 → Int32 → Int32 → Int32 → Int32 → Int32 → pMem → gO) (l1 : Int32) (l2 : Int32) (l3 : Int32) (l4 : Int32) (l5 : Int32) (l6 : Int32) (l7 : Int32) (l10 : Int32) (m : pMem) : gO :=
  if oob (((8 : Int32) * l5) + l7) 104 then none else
  bnd (st1 m 74 ((((8 : Int32) * l5) + l7).toNatClampNeg) l10) fun m34 =>
  k20 l1 l2 l3 l4 l5 l6 (l7 + 1) m34
def sX9_doLast_b130 (k20 : Int32 → Int32 → Int32 → Int32 → Int32 → Int32 → Int32 → pMem → gO) (l1 : Int32) (l2 : Int32) (l3 : Int32) (l4 : Int32) (l5 : Int32) (l6 : Int32) (l7 : Int32) (t0 : Int32) (m : pMem) : gO :=
  sX9_doLast_b159 k20 l1 l2 l3 l4 l5 l6 l7 t0 m
def sX9_doLast_b108 (k20 : Int32 → Int32 → Int32 → Int32 → Int32 → Int32 → Int32 → pMem → gO) (l1 : Int32) (l2 : Int32) (l3 : Int32) (l4 : Int32) (l5 : Int32) (l6 : Int32) (l7 : Int32) (t0 : Int32) (m : pMem) : gO :=
  sX9_doLast_b159 k20 l1 l2 l3 l4 l5 l6 l7 t0 m
def sX9_doLast_b75 (k20 : Int32 → Int32 → Int32 → Int32 → Int32 → Int32 → Int32 → pMem → gO) (l1 : Int32) (l2 : Int32) (l3 : Int32) (l4 : Int32) (l5 : Int32) (l6 : Int32) (l7 : Int32) (l8 : Int32) (l9 : Int32) (m : pMem) : gO :=
  if l8 = l2 then
    if l9 = 0 then
      if ¬ l1 = 0 then
        sX9_doLast_b108 k20 l1 l2 l3 l4 l5 l6 l7 (l6 + (1 : Int32)) m
      else
        sX9_doLast_b108 k20 l1 l2 l3 l4 l5 l6 l7 l2 m
    else
      sX9_doLast_b108 k20 l1 l2 l3 l4 l5 l6 l7 l6 m
  else
    sX9_doLast_b108 k20 l1 l2 l3 l4 l5 l6 l7 l8 m
def sX9_doLast_b157 (k20 : Int32 → Int32 → Int32 → Int32 → Int32 → Int32 → Int32 → pMem → gO) (l1 : Int32) (l2 : Int32) (l3 : Int32) (l4 : Int32) (l5 : Int32) (l6 : Int32) (l7 : Int32) (t0 : Int32) (m : pMem) : gO :=
  sX9_doLast_b159 k20 l1 l2 l3 l4 l5 l6 l7 t0 m
def sX9_doLast_b155 (k20 : Int32 → Int32 → Int32 → Int32 → Int32 → Int32 → Int32 → pMem → gO) (l1 : Int32) (l2 : Int32) (l3 : Int32) (l4 : Int32) (l5 : Int32) (l6 : Int32) (l7 : Int32) (l8 : Int32) (m : pMem) : gO :=
  sX9_doLast_b157 k20 l1 l2 l3 l4 l5 l6 l7 l8 m
def sX9_doLast_b60 (k20 : Int32 → Int32 → Int32 → Int32 → Int32 → Int32 → Int32 → pMem → gO) (l1 : Int32) (l2 : Int32) (l3 : Int32) (l4 : Int32) (l5 : Int32) (l6 : Int32) (l7 : Int32) (l8 : Int32) (t0 : Int32) (m : pMem) : gO :=
  if l1 = 0 then
    sX9_doLast_b75 k20 l1 l2 l3 l4 l5 l6 l7 l8 t0 m
  else
    if ¬ l1 = 1 then
      if ¬ l1 = 2 then
        if ¬ l1 = 3 then
          sX9_doLast_b159 k20 l1 l2 l3 l4 l5 l6 l7 l8 m
        else
          if ¬ l8 = l2 then
            sX9_doLast_b155 k20 l1 l2 l3 l4 l5 l6 l7 l8 m
          else
            if t0 = 0 then
              sX9_doLast_b155 k20 l1 l2 l3 l4 l5 l6 l7 l8 m
            else
              sX9_doLast_b157 k20 l1 l2 l3 l4 l5 l6 l7 l3 m
      else
        if ¬ l8 = l3 then
          sX9_doLast_b130 k20 l1 l2 l3 l4 l5 l6 l7 l8 m
        else
          sX9_doLast_b130 k20 l1 l2 l3 l4 l5 l6 l7 l2 m
    else
      sX9_doLast_b75 k20 l1 l2 l3 l4 l5 l6 l7 l8 t0 m
def sX9_doLast_b20 (k20 : Int32 → Int32 → Int32 → Int32 → Int32 → Int32 → Int32 → pMem → gO) (l1 : Int32) (l2 : Int32) (l3 : Int32) (l4 : Int32) (l5 : Int32) (l6 : Int32) (l7 : Int32) (m : pMem) : gO :=
  if (8 : Int32) ≤ l7 then
    if oob (l5 - (1 : Int32)) 13 then none else
    if oob l5 13 then none else
    bnd (st1 m 75 l5.toNatClampNeg (m.1 75 ((l5 - (1 : Int32)).toNatClampNeg))) fun m7 =>
    if ¬ l1 = 0 then
      if ¬ l1 = 1 then
        if ¬ l1 = 2 then
          sX9_doLast_b280  m7
        else
          if oob l5 13 then none else
          if oob l5 13 then none else
          bnd (st1 m7 75 l5.toNatClampNeg ((m7.1 75 l5.toNatClampNeg) &&& (((1 : Int32) <<< (l3 &&& 31)) ^^^ (-1 : Int32)))) fun m13 =>
          sX9_doLast_b280  m13
      else
        if oob l5 13 then none else
        if oob l5 13 then none else
        bnd (st1 m7 75 l5.toNatClampNeg (((m7.1 75 l5.toNatClampNeg) &&& (((1 : Int32) <<< (l2 &&& 31)) ^^^ (-1 : Int32))) ||| ((3 : Int32) <<< (l6 &&& 31)))) fun m16 =>
        sX9_doLast_b280  m16
    else
      if oob l5 13 then none else
      if oob l5 13 then none else
      bnd (st1 m7 75 l5.toNatClampNeg ((m7.1 75 l5.toNatClampNeg) ||| ((1 : Int32) <<< (l6 &&& 31)))) fun m19 =>
      sX9_doLast_b280  m19
  else
    if oob (((8 : Int32) * (l5 - (1 : Int32))) + l7) 104 then none else
    bnd (m.1 74 ((((8 : Int32) * (l5 - (1 : Int32))) + l7).toNatClampNeg)) fun x21 =>
    if ¬ ((l4 >>> (l7 &&& 31)) &&& (1 : Int32)) = 1 then
      sX9_doLast_b60 k20 l1 l2 l3 l4 l5 l6 l7 x21 0 m
    else
      sX9_doLast_b60 k20 l1 l2 l3 l4 l5 l6 l7 x21 1 m
def sX9_doLast_l20 (n : Nat) : Int32 → Int32 → Int32 → Int32 → Int32 → Int32 → Int32 → pMem → gO := fixN (fun _ _ _ _ _ _ _ _ => none) (sX9_doLast_b20) n
def sX9_doLast (a1 : Int32) (a2 : Int32) (a3 : Int32) (a4 : Int32) (m : pMem) : gO :=
  bnd (m.1 9 6) fun x1 =>
  if oob (x1 - (1 : Int32)) 12 then none else
  bnd (m.1 73 ((x1 - (1 : Int32)).toNatClampNeg)) fun x3 =>
  sX9_doLast_l20  5000 a1 a2 a3 a4 x1 x3 0 m
def sX9_change_b96 (m : pMem) : gO :=
  some ((-2), m)
def sX9_change_b145 (m : pMem) : gO :=
  some ((-4), m)
def sX9_change_b189 (m : pMem) : gO :=
  some ((-5), m)
def sX9_change_b348 (t0 : Int32) (m : pMem) : gO :=
  some (t0, m)
def sX9_change_b263 (k263 : Int32 → Int32 → Int32 → Int32 → Int32 → Int32 → Int32 → pMem → gO) (l1 : Int32) (l2 : Int32) (l3 : Int32) (l4 : Int32) (l5 : Int32) (l7 : Int32) (l8 : Int32) (m : pMem) : gO :=
  if ((m.1 9 3) + l7) ≤ l8 then
    bnd (st1 m 9 3 ((m.1 9 3) + l7)) fun m50 =>
    bnd (st1 m50 9 6 ((m50.1 9 6) + (1 : Int32))) fun m51 =>
    cbE (sX9_doLast l1 l3 l4 l5 m51) fun _ m54 =>
    if l7 ≤ 0 then
      sX9_change_b348  l3 m54
    else
      if oob ((m54.1 9 6) - (1 : Int32)) 12 then none else
      sX9_change_b348  (m54.1 73 (((m54.1 9 6) - (1 : Int32)).toNatClampNeg)) m54
  else
    if oob l8 10 then none else
    bnd (st1 m 66 l8.toNatClampNeg l3) fun m58 =>
    if oob l8 10 then none else
    bnd (st1 m58 67 l8.toNatClampNeg l2) fun m60 =>
    k263 l1 l2 l3 l4 l5 l7 (l8 + 1) m60
def sX9_change_l263 (n : Nat) : Int32 → Int32 → Int32 → Int32 → Int32 → Int32 → Int32 → pMem → gO := fixN (fun _ _ _ _ _ _ _ _ => none) (sX9_change_b263) n
def sX9_change_b166 (l1 : Int32) (l2 : Int32) (l3 : Int32) (l4 : Int32) (l5 : Int32) (t0 : Int32) (m : pMem) : gO :=
  if (m.1 9 6) = 12 then
    sX9_change_b189  m
  else
    if ((m.1 9 3) + t0) ≤ 10 then
      if oob (m.1 9 6) 12 then none else
      bnd (st1 m 68 ((m.1 9 6).toNatClampNeg) l1) fun m37 =>
      if oob (m37.1 9 6) 12 then none else
      bnd (st1 m37 69 ((m37.1 9 6).toNatClampNeg) l2) fun m39 =>
      if oob (m39.1 9 6) 12 then none else
      bnd (st1 m39 70 ((m39.1 9 6).toNatClampNeg) l3) fun m41 =>
      if oob (m41.1 9 6) 12 then none else
      bnd (st1 m41 71 ((m41.1 9 6).toNatClampNeg) l4) fun m43 =>
      if oob (m43.1 9 6) 12 then none else
      bnd (st1 m43 72 ((m43.1 9 6).toNatClampNeg) l5) fun m45 =>
      if oob (m45.1 9 6) 12 then none else
      bnd (st1 m45 73 ((m45.1 9 6).toNatClampNeg) (m45.1 9 3)) fun m47 =>
      bnd (m47.1 9 3) fun x48 =>
      sX9_change_l263  5000 l1 l2 l3 l4 l5 t0 x48 m47
    else
      sX9_change_b189  m
def sX9_change_b148 (l1 : Int32) (l2 : Int32) (l3 : Int32) (l4 : Int32) (l5 : Int32) (m : pMem) : gO :=
  if ¬ l1 = 0 then
    if ¬ l1 = 1 then
      sX9_change_b166  l1 l2 l3 l4 l5 0 m
    else
      sX9_change_b166  l1 l2 l3 l4 l5 2 m
  else
    sX9_change_b166  l1 l2 l3 l4 l5 1 m
def sX9_change_b130 (l1 : Int32) (l2 : Int32) (l3 : Int32) (l4 : Int32) (l5 : Int32) (m : pMem) : gO :=
  if ¬ l1 = 4 then
    sX9_change_b148  l1 l2 l3 l4 l5 m
  else
    if oob l3 10 then none else
    if ¬ (m.1 66 l3.toNatClampNeg) = (-1) then
      sX9_change_b148  l1 l2 l3 l4 l5 m
    else
      sX9_change_b145  m
def sX9_change_b110 (l1 : Int32) (l2 : Int32) (l3 : Int32) (l4 : Int32) (l5 : Int32) (m : pMem) : gO :=
  if l1 = 2 then
    sX9_change_b130  l1 l2 l3 l4 l5 m
  else
    if l1 = 4 then
      sX9_change_b130  l1 l2 l3 l4 l5 m
    else
      cbR (sX9_isSome l5 l3 m) fun r26 =>
      if r26 = 0 then
        sX9_change_b145  m
      else
        sX9_change_b130  l1 l2 l3 l4 l5 m
def sX9_change_b99 (l1 : Int32) (l2 : Int32) (l3 : Int32) (l4 : Int32) (l5 : Int32) (l6 : Int32) (m : pMem) : gO :=
  if l6 = 0 then
    sX9_change_b110  l1 l2 l3 l4 l5 m
  else
    if l3 = l4 then
      sX9_change_b145  m
    else
      sX9_change_b110  l1 l2 l3 l4 l5 m
def sX9_change_b64 (l1 : Int32) (l2 : Int32) (l3 : Int32) (l4 : Int32) (l5 : Int32) (t0 : Int32) (m : pMem) : gO :=
  cbR (sX9_isThere l3 (m.1 9 6) m) fun r15 =>
  if r15 = 0 then
    sX9_change_b96  m
  else
    if t0 = 0 then
      sX9_change_b99  l1 l2 l3 l4 l5 t0 m
    else
      cbR (sX9_isThere l4 (m.1 9 6) m) fun r19 =>
      if ¬ r19 = 0 then
        sX9_change_b99  l1 l2 l3 l4 l5 t0 m
      else
        sX9_change_b96  m
def sX9_change_b59 (l1 : Int32) (l2 : Int32) (l3 : Int32) (l4 : Int32) (l5 : Int32) (m : pMem) : gO :=
  sX9_change_b64  l1 l2 l3 l4 l5 1 m
def sX9_change_b46 (m : pMem) : gO :=
  some ((-3), m)
def sX9_change_b38 (l1 : Int32) (l2 : Int32) (l3 : Int32) (l4 : Int32) (l5 : Int32) (m : pMem) : gO :=
  cbR (sX9_isLate l2 m) fun r10 =>
  if ¬ r10 = 0 then
    if l1 = 2 then
      sX9_change_b59  l1 l2 l3 l4 l5 m
    else
      if ¬ l1 = 3 then
        sX9_change_b64  l1 l2 l3 l4 l5 0 m
      else
        sX9_change_b59  l1 l2 l3 l4 l5 m
  else
    sX9_change_b46  m
def sX9_change (a1 : Int32) (a2 : Int32) (a3 : Int32) (a4 : Int32) (a5 : Int32) (m : pMem) : gO :=
  cbR (sX9_in a1 0 4 m) fun r1 =>
  if r1 = 0 then
    sX9_change_b46  m
  else
    cbR (sX9_isDay a2 m) fun r4 =>
    if r4 = 0 then
      sX9_change_b46  m
    else
      if (m.1 9 6) ≤ 0 then
        sX9_change_b38  a1 a2 a3 a4 a5 m
      else
        if oob ((m.1 9 6) - (1 : Int32)) 12 then none else
        if a2 < (m.1 69 (((m.1 9 6) - (1 : Int32)).toNatClampNeg)) then
          sX9_change_b46  m
        else
          sX9_change_b38  a1 a2 a3 a4 a5 m
def sX9_count (a1 : Int32) (m : pMem) : (Option Int32) :=
  if a1 = 0 then
    some (m.1 9 0)
  else if a1 = 1 then
    some (m.1 9 3)
  else if a1 = 2 then
    some (m.1 9 6)
  else if a1 = 3 then
    some (m.1 9 15)
  else if a1 = 4 then
    some (m.1 9 26)
  else if a1 = 5 then
    some (m.1 9 32)
  else if a1 = 6 then
    some (m.1 9 39)
  else if a1 = 7 then
    some (m.1 9 46)
  else if a1 = 8 then
    some (m.1 9 51)
  else if a1 = 9 then
    some (m.1 9 55)
  else 
    some (-3 : Int32)
def sX9_isGround (a1 : Int32) (m : pMem) : (Option Int32) :=
  cbR (sX9_in a1 0 ((m.1 9 0) - (1 : Int32)) m) fun r1 =>
  some (vp_nar .boolean r1)
def sX9_debt_b88 (l1 : Int32) (l2 : Int32) (l3 : Int32) (l4 : Int32) (m : pMem) : gO :=
  if ¬ (m.1 9 46) = 8 then
    if oob (m.1 9 46) 8 then none else
    bnd (st1 m 95 ((m.1 9 46).toNatClampNeg) l1) fun m24 =>
    if oob (m24.1 9 46) 8 then none else
    bnd (st1 m24 96 ((m24.1 9 46).toNatClampNeg) l2) fun m26 =>
    if oob (m26.1 9 46) 8 then none else
    bnd (st1 m26 97 ((m26.1 9 46).toNatClampNeg) l3) fun m28 =>
    if oob (m28.1 9 46) 8 then none else
    bnd (st1 m28 98 ((m28.1 9 46).toNatClampNeg) l4) fun m30 =>
    bnd (st1 m30 9 46 ((m30.1 9 46) + (1 : Int32))) fun m31 =>
    some ((m31.1 9 46) - (1 : Int32), m31)
  else
    some ((-5), m)
def sX9_debt_b43 (m : pMem) : gO :=
  some ((-3), m)
def sX9_debt_b85 (m : pMem) : gO :=
  some ((-4), m)
def sX9_debt_b24 (l1 : Int32) (l2 : Int32) (l3 : Int32) (l4 : Int32) (m : pMem) : gO :=
  cbR (sX9_in l2 1 9999 m) fun r8 =>
  if r8 = 0 then
    sX9_debt_b43  m
  else
    cbR (sX9_isDay l4 m) fun r11 =>
    if ¬ r11 = 0 then
      cbR (sX9_doneBy l4 m) fun r14 =>
      cbR (sX9_isThere l1 r14 m) fun r16 =>
      if r16 = 0 then
        sX9_debt_b85  m
      else
        if l3 = (-1) then
          sX9_debt_b88  l1 l2 l3 l4 m
        else
          if oob (((8 : Int32) * r14) + l3) 104 then none else
          if (m.1 74 ((((8 : Int32) * r14) + l3).toNatClampNeg)) = l1 then
            sX9_debt_b88  l1 l2 l3 l4 m
          else
            sX9_debt_b85  m
    else
      sX9_debt_b43  m
def sX9_debt_b21 (m : pMem) : gO :=
  some ((-2), m)
def sX9_debt (a1 : Int32) (a2 : Int32) (a3 : Int32) (a4 : Int32) (m : pMem) : gO :=
  cbR (sX9_isLand a1 m) fun r1 =>
  if r1 = 0 then
    sX9_debt_b21  m
  else
    if a3 = (-1) then
      sX9_debt_b24  a1 a2 a3 a4 m
    else
      cbR (sX9_isGround a3 m) fun r5 =>
      if ¬ r5 = 0 then
        sX9_debt_b24  a1 a2 a3 a4 m
      else
        sX9_debt_b21  m
def sX9_erase (m : pMem) : gO :=
  bnd (m.1 9 15) fun x1 =>
  bnd (st1 m 9 15 0) fun m2 =>
  some (x1, m2)
def sX9_fails (m : pMem) : gO :=
  bnd (st1 m 9 22 (m.1 9 18)) fun m1 =>
  some (0, m1)
def sX9_firstRules_b20 (k2 : Nat → Int32 → pMem → gO) (l0 : Nat) (l1 : Int32) (t0 : Int32) (t1 : Int32) (t2 : Nat) (m : pMem) : gO :=
  if oob t1 5 then none else
  bnd (st1 m t2 t1.toNatClampNeg t0) fun m4 =>
  k2 l0 (l1 + 1) m4
def sX9_firstRules_b2 (k2 : Nat → Int32 → pMem → gO) (l0 : Nat) (l1 : Int32) (m : pMem) : gO :=
  if (5 : Int32) ≤ l1 then
    some (0, m)
  else
    if ¬ l1 = 2 then
      sX9_firstRules_b20 k2 l0 l1 0 l1 l0 m
    else
      sX9_firstRules_b20 k2 l0 l1 100 l1 l0 m
def sX9_firstRules_l2 (n : Nat) : Nat → Int32 → pMem → gO := fixN (fun _ _ _ => none) (sX9_firstRules_b2) n
def sX9_firstRules (a1 : Nat) (m : pMem) : gO :=
  sX9_firstRules_l2  5000 a1 0 m
def sX9_nextToken_b307 (k241 : pMem → gO) (t0 : Int32) (m : pMem) : gO :=
  bnd (st1 m 9 21 t0) fun m38 =>
  bnd (st1 m38 9 20 ((m38.1 9 20) + (1 : Int32))) fun m39 =>
  bnd (st1 m39 9 17 ((m39.1 9 17) + (1 : Int32))) fun m40 =>
  k241 m40
def sX9_nextToken_b394 (m : pMem) : gO :=
  some (0, m)
def sX9_nextToken_b351 (t0 : Int64) (m : pMem) : gO :=
  bnd (st2 m 9 19 t0) fun m44 =>
  sX9_nextToken_b394  m44
def sX9_nextToken_b333 (m : pMem) : gO :=
  if (m.1 9 20) ≤ 3 then
    sX9_nextToken_b351  (-1) m
  else
    sX9_nextToken_b351  (-4) m
def sX9_nextToken_b241 (k241 : pMem → gO) (m : pMem) : gO :=
  if (m.1 9 15) ≤ (m.1 9 17) then
    sX9_nextToken_b333  m
  else
    if oob (m.1 9 17) 160 then none else
    cbR (sX9_in (m.1 76 ((m.1 9 17).toNatClampNeg)) 48 57 m) fun r25 =>
    if r25 = 0 then
      sX9_nextToken_b333  m
    else
      if (3 : Int32) ≤ (m.1 9 20) then
        sX9_nextToken_b307 k241 (m.1 9 21) m
      else
        if oob (m.1 9 17) 160 then none else
        sX9_nextToken_b307 k241 ((((10 : Int32) * (m.1 9 21)) + (m.1 76 ((m.1 9 17).toNatClampNeg))) - (48 : Int32)) m
def sX9_nextToken_l241 (n : Nat) : pMem → gO := fixN (fun _ => none) (sX9_nextToken_b241) n
def sX9_nextToken_b175 (k101 : pMem → gO) (t0 : Int64) (m : pMem) : gO :=
  bnd (st2 m 9 19 t0) fun m42 =>
  bnd (st1 m42 9 17 ((m42.1 9 17) + (1 : Int32))) fun m43 =>
  k101 m43
def sX9_nextToken_b216 (t0 : Int64) (m : pMem) : gO :=
  bnd (st2 m 9 19 t0) fun m45 =>
  sX9_nextToken_b394  m45
def sX9_nextToken_b191 (m : pMem) : gO :=
  if ((m.1 9 17) - (m.1 9 18)) ≤ 9 then
    sX9_nextToken_b216  (m.2 9 19) m
  else
    sX9_nextToken_b216  (-4) m
def sX9_nextToken_b101 (k101 : pMem → gO) (m : pMem) : gO :=
  if (m.1 9 15) ≤ (m.1 9 17) then
    sX9_nextToken_b191  m
  else
    if oob (m.1 9 17) 160 then none else
    cbR (sX9_in (m.1 76 ((m.1 9 17).toNatClampNeg)) 97 122 m) fun r32 =>
    if r32 = 0 then
      sX9_nextToken_b191  m
    else
      if (9 : Int32) ≤ ((m.1 9 17) - (m.1 9 18)) then
        sX9_nextToken_b175 k101 (-4) m
      else
        if oob (m.1 9 17) 160 then none else
        sX9_nextToken_b175 k101 ((((27 : Int64) * (m.2 9 19)) + ((m.1 76 ((m.1 9 17).toNatClampNeg)).toInt64)) - (96 : Int64)) m
def sX9_nextToken_l101 (n : Nat) : pMem → gO := fixN (fun _ => none) (sX9_nextToken_b101) n
def sX9_nextToken_b381 (t0 : Int64) (m : pMem) : gO :=
  bnd (st2 m 9 19 t0) fun m21 =>
  bnd (st1 m21 9 17 ((m21.1 9 17) + (1 : Int32))) fun m22 =>
  sX9_nextToken_b394  m22
def sX9_nextToken_b38 (m : pMem) : gO :=
  bnd (st1 m 9 18 (m.1 9 17)) fun m5 =>
  bnd (st1 m5 9 20 0) fun m6 =>
  bnd (st1 m6 9 21 0) fun m7 =>
  if ¬ (m7.1 9 17) = (m7.1 9 15) then
    if oob (m7.1 9 17) 160 then none else
    cbR (sX9_in (m7.1 76 ((m7.1 9 17).toNatClampNeg)) 97 122 m7) fun r10 =>
    if r10 = 0 then
      if oob (m7.1 9 17) 160 then none else
      cbR (sX9_in (m7.1 76 ((m7.1 9 17).toNatClampNeg)) 48 57 m7) fun r14 =>
      if r14 = 0 then
        if oob (m7.1 9 17) 160 then none else
        if ¬ (m7.1 76 ((m7.1 9 17).toNatClampNeg)) = 59 then
          sX9_nextToken_b381  (-4) m7
        else
          sX9_nextToken_b381  (-3) m7
      else
        sX9_nextToken_l241  5000 m7
    else
      bnd (st2 m7 9 19 0) fun m19 =>
      sX9_nextToken_l101  5000 m19
  else
    bnd (st2 m7 9 19 (-2)) fun m20 =>
    sX9_nextToken_b394  m20
def sX9_nextToken_b0 (k0 : pMem → gO) (m : pMem) : gO :=
  if (m.1 9 15) ≤ (m.1 9 17) then
    sX9_nextToken_b38  m
  else
    if oob (m.1 9 17) 160 then none else
    if ¬ (m.1 76 ((m.1 9 17).toNatClampNeg)) = 32 then
      sX9_nextToken_b38  m
    else
      bnd (st1 m 9 17 ((m.1 9 17) + (1 : Int32))) fun m4 =>
      k0 m4
def sX9_nextToken_l0 (n : Nat) : pMem → gO := fixN (fun _ => none) (sX9_nextToken_b0) n
def sX9_nextToken (m : pMem) : gO := sX9_nextToken_l0 5000 m
def sX9_isOf_b74 (t0 : Int32) (m : pMem) : gO :=
  some (vp_nar .boolean t0, m)
def sX9_isOf_b69 (m : pMem) : gO :=
  sX9_isOf_b74  1 m
def sX9_isOf_b51 (l1 : Int32) (t0 : Int32) (t1 : Int32) (m : pMem) : gO :=
  if oob t1 5 then none else
  bnd (st1 m 77 t1.toNatClampNeg t0) fun m8 =>
  if oob l1 5 then none else
  if ¬ (m8.1 77 l1.toNatClampNeg) = (-1) then
    sX9_isOf_b69  m8
  else
    cbE (sX9_fails m8) fun r11 m13 =>
    if r11 = 0 then
      sX9_isOf_b74  0 m13
    else
      sX9_isOf_b69  m13
def sX9_isOf (a1 : Int32) (a2 : Int64) (a3 : Int64) (a4 : Int64) (m : pMem) : gO :=
  cbE (sX9_nextToken m) fun _ m3 =>
  if ¬ (lg_cmp (m3.2 9 19) a2) = 0 then
    if ¬ (lg_cmp (m3.2 9 19) a3) = 0 then
      if ¬ (lg_cmp (m3.2 9 19) a4) = 0 then
        sX9_isOf_b51  a1 (-1) a1 m3
      else
        sX9_isOf_b51  a1 2 a1 m3
    else
      sX9_isOf_b51  a1 1 a1 m3
  else
    sX9_isOf_b51  a1 0 a1 m3
def sX9_isLine_b124 (t0 : Int32) (m : pMem) : gO :=
  some (vp_nar .boolean t0, m)
def sX9_isLine_b47 (t0 : Int32) (t1 : Int32) (m : pMem) : gO :=
  if oob t1 5 then none else
  bnd (st1 m 77 t1.toNatClampNeg t0) fun m33 =>
  some (1, m33)
def sX9_isLine_b26 (m : pMem) : gO :=
  if ¬ (lg_cmp (m.2 9 19) 94310429) = 0 then
    sX9_isLine_b47  1 0 m
  else
    sX9_isLine_b47  0 0 m
def sX9_isLine_b119 (m : pMem) : gO :=
  sX9_isLine_b124  1 m
def sX9_isLine_b183 (t0 : Int32) (m : pMem) : gO :=
  some (vp_nar .boolean t0, m)
def sX9_isLine (m : pMem) : gO :=
  cbE (sX9_nextToken m) fun _ m3 =>
  if (lg_cmp (m3.2 9 19) 94310429) = 0 then
    sX9_isLine_b26  m3
  else
    if ¬ (lg_cmp (m3.2 9 19) 1834205) = 0 then
      if ¬ (lg_cmp (m3.2 9 19) 7496615453) = 0 then
        if ¬ (lg_cmp (m3.2 9 19) 335207579) = 0 then
          if ¬ (lg_cmp (m3.2 9 19) 10256063) = 0 then
            if ¬ (lg_cmp (m3.2 9 19) 11716) = 0 then
              cbE (sX9_fails m3) fun r10 m12 =>
              sX9_isLine_b183  r10 m12
            else
              cbE (sX9_isOf 4 275656909 6570631 50801 m3) fun r13 m15 =>
              sX9_isLine_b183  r13 m15
          else
            cbE (sX9_isOf 3 4350799 12532058 3007164 m3) fun r16 m18 =>
            some (vp_nar .boolean r16, m18)
        else
          cbE (sX9_nextToken m3) fun _ m21 =>
          bnd (st1 m21 77 ((2 : Int32).toNatClampNeg) (m21.1 9 21)) fun m22 =>
          if (lg_cmp (m22.2 9 19) (-1)) = 0 then
            sX9_isLine_b119  m22
          else
            cbE (sX9_fails m22) fun r24 m26 =>
            if r24 = 0 then
              sX9_isLine_b124  0 m26
            else
              sX9_isLine_b119  m26
      else
        cbE (sX9_isOf 1 393 18379 18379 m3) fun r28 m30 =>
        some (vp_nar .boolean r28, m30)
    else
      sX9_isLine_b26  m3
def sX9_isRead_b98 (t0 : Int32) (m : pMem) : gO :=
  some (vp_nar .boolean t0, m)
def sX9_isRead_b93 (m : pMem) : gO :=
  sX9_isRead_b98  1 m
def sX9_isRead_b71 (k19 : Int32 → pMem → gO) (t0 : Int32) (m : pMem) : gO :=
  k19 t0 m
def sX9_isRead_b70 (k19 : Int32 → pMem → gO) (m : pMem) : gO :=
  sX9_isRead_b71 k19 0 m
def sX9_isRead_b19 (k19 : Int32 → pMem → gO) (l1 : Int32) (m : pMem) : gO :=
  if l1 = 0 then
    if (lg_cmp (m.2 9 19) (-2)) = 0 then
      sX9_isRead_b93  m
    else
      cbE (sX9_fails m) fun r8 m10 =>
      if r8 = 0 then
        sX9_isRead_b98  0 m10
      else
        sX9_isRead_b93  m10
  else
    cbE (sX9_isLine m) fun r12 m14 =>
    if ¬ r12 = 0 then
      bnd (st1 m14 9 23 ((m14.1 9 23) + (1 : Int32))) fun m16 =>
      cbE (sX9_nextToken m16) fun _ m19 =>
      if ¬ (lg_cmp (m19.2 9 19) (-3)) = 0 then
        sX9_isRead_b70 k19 m19
      else
        if (8 : Int32) ≤ (m19.1 9 23) then
          sX9_isRead_b70 k19 m19
        else
          sX9_isRead_b71 k19 1 m19
    else
      some (0, m14)
def sX9_isRead_l19 (n : Nat) : Int32 → pMem → gO := fixN (fun _ _ => none) (sX9_isRead_b19) n
def sX9_isRead (m : pMem) : gO :=
  bnd (st1 m 9 17 0) fun m1 =>
  bnd (st1 m1 9 23 0) fun m2 =>
  cbE (sX9_firstRules 77 m2) fun _ m5 =>
  sX9_isRead_l19  5000 1 m5
def sX9_fault_b15 (t0 : Int32) (m : pMem) : gO :=
  some (t0, m)
def sX9_fault (m : pMem) : gO :=
  cbE (sX9_isRead m) fun r1 m3 =>
  if r1 = 0 then
    sX9_fault_b15  (m3.1 9 22) m3
  else
    sX9_fault_b15  (-1) m3
def sX9_findBound_b2 (k2 : Int32 → Int32 → pMem → gO) (l1 : Int32) (l2 : Int32) (m : pMem) : gO :=
  if (m.1 9 26) ≤ l2 then
    some (0, m)
  else
    cbE (sX9_boundOf l2 l1 m) fun r2 m4 =>
    if oob l2 12 then none else
    bnd (st1 m4 94 l2.toNatClampNeg r2) fun m6 =>
    k2 l1 (l2 + 1) m6
def sX9_findBound_l2 (n : Nat) : Int32 → Int32 → pMem → gO := fixN (fun _ _ _ => none) (sX9_findBound_b2) n
def sX9_findBound (a1 : Int32) (m : pMem) : gO :=
  sX9_findBound_l2  5000 a1 0 m
def sX9_from_b44 (t0 : Int32) (m : pMem) : (Option Int32) :=
  some t0
def sX9_from (a1 : Int32) (a2 : Int32) (m : pMem) : (Option Int32) :=
  cbR (sX9_isLand a1 m) fun r1 =>
  if ¬ r1 = 0 then
    cbR (sX9_in a2 0 1 m) fun r4 =>
    if ¬ r4 = 0 then
      if ¬ a2 = 0 then
        if oob a1 10 then none else
        sX9_from_b44  (m.1 67 a1.toNatClampNeg) m
      else
        if oob a1 10 then none else
        sX9_from_b44  (m.1 66 a1.toNatClampNeg) m
    else
      sX9_from_b44  (-3) m
  else
    some (-2 : Int32)
def sX9_ground_b22 (m : pMem) : gO :=
  some ((-3), m)
def sX9_ground (a1 : Int32) (a2 : Int32) (m : pMem) : gO :=
  cbR (sX9_in a1 1 999 m) fun r1 =>
  if r1 = 0 then
    sX9_ground_b22  m
  else
    cbR (sX9_in a2 0 999 m) fun r4 =>
    if ¬ r4 = 0 then
      if (m.1 9 6) ≤ 0 then
        if ¬ (m.1 9 0) = 8 then
          if oob (m.1 9 0) 8 then none else
          bnd (st1 m 64 ((m.1 9 0).toNatClampNeg) a1) fun m10 =>
          if oob (m10.1 9 0) 8 then none else
          bnd (st1 m10 65 ((m10.1 9 0).toNatClampNeg) a2) fun m12 =>
          if oob (m12.1 9 0) 104 then none else
          bnd (st1 m12 74 ((m12.1 9 0).toNatClampNeg) 0) fun m14 =>
          bnd (st1 m14 9 0 ((m14.1 9 0) + (1 : Int32))) fun m15 =>
          some ((m15.1 9 0) - (1 : Int32), m15)
        else
          some ((-5), m)
      else
        some ((-4), m)
    else
      sX9_ground_b22  m
def sX9_hangs_b146 (k54 : Int32 → Int32 → Int32 → Int32 → Int32 → Int32 → pMem → gO) (l1 : Int32) (l2 : Int32) (l3 : Int32) (l5 : Int32) (l7 : Int32) (t0 : Int32) (m : pMem) : gO :=
  k54 l1 l2 l3 t0 l5 (l7 + 1) m
def sX9_hangs_b131 (k54 : Int32 → Int32 → Int32 → Int32 → Int32 → Int32 → pMem → gO) (l1 : Int32) (l2 : Int32) (l4 : Int32) (l5 : Int32) (l7 : Int32) (t0 : Int32) (m : pMem) : gO :=
  if l5 ≤ l4 then
    sX9_hangs_b146 k54 l1 l2 t0 l5 l7 l4 m
  else
    sX9_hangs_b146 k54 l1 l2 t0 l5 l7 l5 m
def sX9_hangs_b66 (k54 : Int32 → Int32 → Int32 → Int32 → Int32 → Int32 → pMem → gO) (k66 : Int32 → Int32 → Int32 → Int32 → Int32 → Int32 → Int32 → pMem → gO) (l1 : Int32) (l2 : Int32) (l3 : Int32) (l4 : Int32) (l5 : Int32) (l7 : Int32) (l8 : Int32) (m : pMem) : gO :=
  if (m.1 9 26) ≤ l8 then
    if l5 ≤ l4 then
      sX9_hangs_b131 k54 l1 l2 l4 l5 l7 l3 m
    else
      sX9_hangs_b131 k54 l1 l2 l4 l5 l7 l7 m
  else
    cbE (sX9_boundOf l8 l7 m) fun r16 m18 =>
    if oob l8 12 then none else
    cbR (sX9_bits (r16 ^^^ (m18.1 94 l8.toNatClampNeg)) m18) fun r20 =>
    bnd (l5 + r20) fun x22 =>
    if oob l8 12 then none else
    bnd (st1 m18 94 l8.toNatClampNeg r16) fun m24 =>
    k66 l1 l2 l3 l4 x22 l7 (l8 + 1) m24
def sX9_hangs_l66 (k54 : Int32 → Int32 → Int32 → Int32 → Int32 → Int32 → pMem → gO) (n : Nat) : Int32 → Int32 → Int32 → Int32 → Int32 → Int32 → Int32 → pMem → gO := fixN (fun _ _ _ _ _ _ _ _ => none) (sX9_hangs_b66 k54) n
def sX9_hangs_b164 (t0 : Int32) (m : pMem) : gO :=
  some (t0, m)
def sX9_hangs_b54 (k54 : Int32 → Int32 → Int32 → Int32 → Int32 → Int32 → pMem → gO) (l1 : Int32) (l2 : Int32) (l3 : Int32) (l4 : Int32) (l5 : Int32) (l7 : Int32) (m : pMem) : gO :=
  if l1 < l7 then
    if ¬ l2 = 0 then
      sX9_hangs_b164  l3 m
    else
      sX9_hangs_b164  l5 m
  else
    sX9_hangs_l66 k54 5000 l1 l2 l3 l4 0 l7 0 m
def sX9_hangs_l54 (n : Nat) : Int32 → Int32 → Int32 → Int32 → Int32 → Int32 → pMem → gO := fixN (fun _ _ _ _ _ _ _ => none) (sX9_hangs_b54) n
def sX9_hangs_b40 (l1 : Int32) (l2 : Int32) (l3 : Int32) (l4 : Int32) (l5 : Int32) (t0 : Int32) (m : pMem) : gO :=
  cbE (sX9_findBound (t0 - (1 : Int32)) m) fun _ m11 =>
  sX9_hangs_l54  5000 l1 l2 l3 l4 l5 t0 m11
def sX9_hangs_b20 (m : pMem) : gO :=
  some ((-3), m)
def sX9_hangs (a1 : Int32) (a2 : Int32) (m : pMem) : gO :=
  cbR (sX9_in a1 1 999 m) fun r1 =>
  if r1 = 0 then
    sX9_hangs_b20  m
  else
    cbR (sX9_in a2 0 1 m) fun r4 =>
    if ¬ r4 = 0 then
      bnd ((-1)) fun x7 =>
      if ¬ a2 = 0 then
        sX9_hangs_b40  a1 a2 0 x7 0 1 m
      else
        sX9_hangs_b40  a1 a2 0 x7 0 a1 m
    else
      sX9_hangs_b20  m
def sX9_has_b33 (t0 : Int32) (m : pMem) : (Option Int32) :=
  some t0
def sX9_has (a1 : Int32) (a2 : Int32) (m : pMem) : (Option Int32) :=
  cbR (sX9_isLand a1 m) fun r1 =>
  if ¬ r1 = 0 then
    cbR (sX9_isDay a2 m) fun r4 =>
    if r4 = 0 then
      sX9_has_b33  (-3) m
    else
      cbR (sX9_doneBy a2 m) fun r7 =>
      cbR (sX9_groundsOf a1 r7 m) fun r9 =>
      sX9_has_b33  r9 m
  else
    some (-2 : Int32)
def sX9_heirOf_b46 (k20 : Int32 → Int32 → Int32 → Int32 → pMem → (Option Int32)) (l1 : Int32) (l3 : Int32) (l5 : Int32) (t0 : Int32) (m : pMem) : (Option Int32) :=
  k20 l1 l3 t0 (l5 + 1) m
def sX9_heirOf_b41 (k20 : Int32 → Int32 → Int32 → Int32 → pMem → (Option Int32)) (l1 : Int32) (l3 : Int32) (l5 : Int32) (m : pMem) : (Option Int32) :=
  sX9_heirOf_b46 k20 l1 l3 l5 1 m
def sX9_heirOf_b192 (k67 : Int32 → Int32 → Int32 → pMem → (Option Int32)) (l3 : Int32) (l5 : Int32) (l6 : Int32) (m : pMem) : (Option Int32) :=
  k67 l3 l5 (l6 + 1) m
def sX9_heirOf_b160 (k67 : Int32 → Int32 → Int32 → pMem → (Option Int32)) (l3 : Int32) (l5 : Int32) (l6 : Int32) (m : pMem) : (Option Int32) :=
  if oob l6 12 then none else
  if ¬ (m.1 68 l6.toNatClampNeg) = 2 then
    sX9_heirOf_b192 k67 l3 l5 l6 m
  else
    if oob l6 12 then none else
    if ¬ (m.1 71 l6.toNatClampNeg) = l5 then
      sX9_heirOf_b192 k67 l3 l5 l6 m
    else
      if oob l6 12 then none else
      bnd (m.1 70 l6.toNatClampNeg) fun x31 =>
      sX9_heirOf_b192 k67 l3 x31 l6 m
def sX9_heirOf_b155 (k67 : Int32 → Int32 → Int32 → pMem → (Option Int32)) (l3 : Int32) (l6 : Int32) (t0 : Int32) (m : pMem) : (Option Int32) :=
  sX9_heirOf_b192 k67 l3 t0 l6 m
def sX9_heirOf_b67 (k67 : Int32 → Int32 → Int32 → pMem → (Option Int32)) (l3 : Int32) (l5 : Int32) (l6 : Int32) (m : pMem) : (Option Int32) :=
  if l3 ≤ l6 then
    some l5
  else
    if oob l6 12 then none else
    if ¬ (m.1 68 l6.toNatClampNeg) = 1 then
      sX9_heirOf_b160 k67 l3 l5 l6 m
    else
      if oob l6 12 then none else
      if ¬ (m.1 70 l6.toNatClampNeg) = l5 then
        sX9_heirOf_b160 k67 l3 l5 l6 m
      else
        cbR (sX9_groundsOf l5 l6 m) fun r15 =>
        if oob l6 12 then none else
        cbR (sX9_headsOf (m.1 72 l6.toNatClampNeg) m) fun r18 =>
        if oob l6 12 then none else
        cbR (sX9_headsOf (r15 &&& ((m.1 72 l6.toNatClampNeg) ^^^ (-1 : Int32))) m) fun r21 =>
        if r18 < r21 then
          if oob l6 12 then none else
          sX9_heirOf_b155 k67 l3 l6 ((m.1 73 l6.toNatClampNeg) + (1 : Int32)) m
        else
          if oob l6 12 then none else
          sX9_heirOf_b155 k67 l3 l6 (m.1 73 l6.toNatClampNeg) m
def sX9_heirOf_l67 (n : Nat) : Int32 → Int32 → Int32 → pMem → (Option Int32) := fixN (fun _ _ _ _ => none) (sX9_heirOf_b67) n
def sX9_heirOf_b20 (k20 : Int32 → Int32 → Int32 → Int32 → pMem → (Option Int32)) (l1 : Int32) (l3 : Int32) (l4 : Int32) (l5 : Int32) (m : pMem) : (Option Int32) :=
  if l3 ≤ l5 then
    if ¬ l4 = 0 then
      sX9_heirOf_l67  5000 l3 l1 0 m
    else
      some (-1 : Int32)
  else
    if ¬ l4 = 0 then
      sX9_heirOf_b41 k20 l1 l3 l5 m
    else
      cbR (sX9_comesBy l1 l5 m) fun r7 =>
      if r7 = 0 then
        sX9_heirOf_b46 k20 l1 l3 l5 0 m
      else
        sX9_heirOf_b41 k20 l1 l3 l5 m
def sX9_heirOf_l20 (n : Nat) : Int32 → Int32 → Int32 → Int32 → pMem → (Option Int32) := fixN (fun _ _ _ _ _ => none) (sX9_heirOf_b20) n
def sX9_heirOf_b15 (l1 : Int32) (l3 : Int32) (t0 : Int32) (m : pMem) : (Option Int32) :=
  sX9_heirOf_l20  5000 l1 l3 t0 0 m
def sX9_heirOf (a1 : Int32) (a2 : Int32) (m : pMem) : (Option Int32) :=
  cbR (sX9_doneBy a2 m) fun r1 =>
  if ¬ a1 = 0 then
    sX9_heirOf_b15  a1 r1 0 m
  else
    sX9_heirOf_b15  a1 r1 1 m
def sX9_heir_b29 (t0 : Int32) (m : pMem) : (Option Int32) :=
  some t0
def sX9_heir (a1 : Int32) (a2 : Int32) (m : pMem) : (Option Int32) :=
  cbR (sX9_isLand a1 m) fun r1 =>
  if ¬ r1 = 0 then
    cbR (sX9_isDay a2 m) fun r4 =>
    if r4 = 0 then
      sX9_heir_b29  (-3) m
    else
      cbR (sX9_heirOf a1 a2 m) fun r7 =>
      sX9_heir_b29  r7 m
  else
    some (-2 : Int32)
def sX9_isThird (a1 : Int32) (m : pMem) : (Option Int32) :=
  cbR (sX9_in a1 0 5 m) fun r1 =>
  some (vp_nar .boolean r1)
def sX9_lands_b22 (t0 : Int32) (m : pMem) : (Option Int32) :=
  some t0
def sX9_lands (a1 : Int32) (m : pMem) : (Option Int32) :=
  cbR (sX9_isDay a1 m) fun r1 =>
  if r1 = 0 then
    sX9_lands_b22  (-3) m
  else
    cbR (sX9_doneBy a1 m) fun r4 =>
    if oob r4 13 then none else
    sX9_lands_b22  (m.1 75 r4.toNatClampNeg) m
def sX9_owes_b50 (t0 : Int32) (m : pMem) : gO :=
  some (t0, m)
def sX9_owes_b22 (m : pMem) : gO :=
  some ((-2), m)
def sX9_owes (a1 : Int32) (a2 : Int32) (a3 : Int32) (m : pMem) : gO :=
  cbR (sX9_in a1 0 ((m.1 9 46) - (1 : Int32)) m) fun r1 =>
  if r1 = 0 then
    sX9_owes_b22  m
  else
    cbR (sX9_isLand a2 m) fun r4 =>
    if ¬ r4 = 0 then
      cbR (sX9_isDay a3 m) fun r7 =>
      if r7 = 0 then
        sX9_owes_b50  (-3) m
      else
        cbE (sX9_owesOf a1 a2 a3 (m.1 78 ((3 : Int32).toNatClampNeg)) m) fun r10 m12 =>
        sX9_owes_b50  r10 m12
    else
      sX9_owes_b22  m
def sX9_owns_b50 (t0 : Int32) (m : pMem) : gO :=
  some (t0, m)
def sX9_owns_b22 (m : pMem) : gO :=
  some ((-2), m)
def sX9_owns (a1 : Int32) (a2 : Int32) (a3 : Int32) (m : pMem) : gO :=
  cbR (sX9_in a1 0 ((m.1 9 51) - (1 : Int32)) m) fun r1 =>
  if r1 = 0 then
    sX9_owns_b22  m
  else
    cbR (sX9_isLand a2 m) fun r4 =>
    if ¬ r4 = 0 then
      cbR (sX9_isDay a3 m) fun r7 =>
      if r7 = 0 then
        sX9_owns_b50  (-3) m
      else
        cbE (sX9_ownsOf a1 a2 a3 (m.1 78 ((3 : Int32).toNatClampNeg)) m) fun r10 m12 =>
        sX9_owns_b50  r10 m12
    else
      sX9_owns_b22  m
def sX9_pact_b28 (m : pMem) : gO :=
  some ((-2), m)
def sX9_pact_b48 (m : pMem) : gO :=
  some ((-3), m)
def sX9_pact_b90 (m : pMem) : gO :=
  some ((-4), m)
def sX9_pact_b93 (l1 : Int32) (l2 : Int32) (l3 : Int32) (l4 : Int32) (l5 : Int32) (m : pMem) : gO :=
  if ¬ (m.1 9 26) = 12 then
    if oob (m.1 9 26) 12 then none else
    bnd (st1 m 79 ((m.1 9 26).toNatClampNeg) l1) fun m27 =>
    if oob (m27.1 9 26) 12 then none else
    bnd (st1 m27 80 ((m27.1 9 26).toNatClampNeg) l2) fun m29 =>
    if oob (m29.1 9 26) 12 then none else
    bnd (st1 m29 81 ((m29.1 9 26).toNatClampNeg) l3) fun m31 =>
    if oob (m31.1 9 26) 12 then none else
    bnd (st1 m31 82 ((m31.1 9 26).toNatClampNeg) l4) fun m33 =>
    if oob (m33.1 9 26) 12 then none else
    bnd (st1 m33 83 ((m33.1 9 26).toNatClampNeg) l5) fun m35 =>
    bnd (st1 m35 9 26 ((m35.1 9 26) + (1 : Int32))) fun m36 =>
    some ((m36.1 9 26) - (1 : Int32), m36)
  else
    some ((-5), m)
def sX9_pact_b31 (l1 : Int32) (l2 : Int32) (l3 : Int32) (l4 : Int32) (l5 : Int32) (m : pMem) : gO :=
  cbR (sX9_in l1 0 2 m) fun r11 =>
  if r11 = 0 then
    sX9_pact_b48  m
  else
    cbR (sX9_isDay l5 m) fun r14 =>
    if ¬ r14 = 0 then
      cbR (sX9_doneBy l5 m) fun r17 =>
      cbR (sX9_isThere l2 r17 m) fun r19 =>
      if r19 = 0 then
        sX9_pact_b90  m
      else
        if ¬ l1 = 0 then
          sX9_pact_b93  l1 l2 l3 l4 l5 m
        else
          if oob (((8 : Int32) * r17) + l4) 104 then none else
          if (m.1 74 ((((8 : Int32) * r17) + l4).toNatClampNeg)) = l2 then
            sX9_pact_b93  l1 l2 l3 l4 l5 m
          else
            sX9_pact_b90  m
    else
      sX9_pact_b48  m
def sX9_pact (a1 : Int32) (a2 : Int32) (a3 : Int32) (a4 : Int32) (a5 : Int32) (m : pMem) : gO :=
  cbR (sX9_isLand a2 m) fun r1 =>
  if r1 = 0 then
    sX9_pact_b28  m
  else
    cbR (sX9_isThird a3 m) fun r4 =>
    if r4 = 0 then
      sX9_pact_b28  m
    else
      if ¬ a1 = 0 then
        sX9_pact_b31  a1 a2 a3 a4 a5 m
      else
        cbR (sX9_isGround a4 m) fun r8 =>
        if ¬ r8 = 0 then
          sX9_pact_b31  a1 a2 a3 a4 a5 m
        else
          sX9_pact_b28  m
def sX9_paid_b91 (t0 : Int32) (m : pMem) : (Option Int32) :=
  some t0
def sX9_paid_b89 (t0 : Int32) (t1 : Int32) (m : pMem) : (Option Int32) :=
  if oob (t1 + t0) 104 then none else
  sX9_paid_b91  (m.1 74 ((t1 + t0).toNatClampNeg)) m
def sX9_paid (a1 : Int32) (a2 : Int32) (m : pMem) : (Option Int32) :=
  cbR (sX9_in a1 0 ((m.1 9 55) - (1 : Int32)) m) fun r1 =>
  if ¬ r1 = 0 then
    cbR (sX9_isDay a2 m) fun r4 =>
    if ¬ r4 = 0 then
      cbR (sX9_doneBy a2 m) fun r7 =>
      if ¬ (m.1 78 ((4 : Int32).toNatClampNeg)) = 0 then
        if ¬ (m.1 78 ((4 : Int32).toNatClampNeg)) = 1 then
          if oob a1 12 then none else
          sX9_paid_b89  (m.1 103 a1.toNatClampNeg) ((8 : Int32) * r7) m
        else
          if oob a1 12 then none else
          sX9_paid_b89  (m.1 104 a1.toNatClampNeg) ((8 : Int32) * r7) m
      else
        if oob a1 12 then none else
        cbR (sX9_heirOf (m.1 102 a1.toNatClampNeg) a2 m) fun r14 =>
        sX9_paid_b91  r14 m
    else
      some (-3 : Int32)
  else
    some (-2 : Int32)
def sX9_rule_b20 (t0 : Int32) (m : pMem) : (Option Int32) :=
  some t0
def sX9_rule (a1 : Int32) (m : pMem) : (Option Int32) :=
  cbR (sX9_in a1 0 4 m) fun r1 =>
  if r1 = 0 then
    sX9_rule_b20  (-3) m
  else
    if oob a1 5 then none else
    sX9_rule_b20  (m.1 78 a1.toNatClampNeg) m
def sX9_rules_b12 (k12 : Int32 → pMem → gO) (l1 : Int32) (m : pMem) : gO :=
  if (5 : Int32) ≤ l1 then
    bnd (st1 m 9 15 0) fun m6 =>
    some (m6.1 9 23, m6)
  else
    if oob l1 5 then none else
    if oob l1 5 then none else
    bnd (st1 m 78 l1.toNatClampNeg (m.1 77 l1.toNatClampNeg)) fun m9 =>
    k12 (l1 + 1) m9
def sX9_rules_l12 (n : Nat) : Int32 → pMem → gO := fixN (fun _ _ => none) (sX9_rules_b12) n
def sX9_rules (m : pMem) : gO :=
  cbE (sX9_isRead m) fun r1 m3 =>
  if ¬ r1 = 0 then
    sX9_rules_l12  5000 0 m3
  else
    some ((-4), m3)
def sX9_served_b24 (m : pMem) : gO :=
  some ((-2), m)
def sX9_served (a1 : Int32) (a2 : Int32) (a3 : Int32) (m : pMem) : gO :=
  cbR (sX9_isLand a1 m) fun r1 =>
  if r1 = 0 then
    sX9_served_b24  m
  else
    cbR (sX9_isGround a2 m) fun r4 =>
    if r4 = 0 then
      sX9_served_b24  m
    else
      cbR (sX9_isGround a3 m) fun r7 =>
      if ¬ r7 = 0 then
        if ¬ (m.1 9 55) = 12 then
          if oob (m.1 9 55) 12 then none else
          bnd (st1 m 102 ((m.1 9 55).toNatClampNeg) a1) fun m12 =>
          if oob (m12.1 9 55) 12 then none else
          bnd (st1 m12 103 ((m12.1 9 55).toNatClampNeg) a2) fun m14 =>
          if oob (m14.1 9 55) 12 then none else
          bnd (st1 m14 104 ((m14.1 9 55).toNatClampNeg) a3) fun m16 =>
          bnd (st1 m16 9 55 ((m16.1 9 55) + (1 : Int32))) fun m17 =>
          some ((m17.1 9 55) - (1 : Int32), m17)
        else
          some ((-5), m)
      else
        sX9_served_b24  m
def sX9_since_b16 (m : pMem) : gO :=
  some ((-2), m)
def sX9_since_b26 (k26 : Int32 → Int32 → Int32 → pMem → gO) (l1 : Int32) (l2 : Int32) (l3 : Int32) (m : pMem) : gO :=
  if (1000 : Int32) ≤ l3 then
    some ((-1), m)
  else
    cbE (sX9_boundOf l1 l3 m) fun r10 m12 =>
    if ¬ ((r10 >>> (l2 &&& 31)) &&& (1 : Int32)) = 1 then
      k26 l1 l2 (l3 + 1) m12
    else
      some (l3, m12)
def sX9_since_l26 (n : Nat) : Int32 → Int32 → Int32 → pMem → gO := fixN (fun _ _ _ _ => none) (sX9_since_b26) n
def sX9_since (a1 : Int32) (a2 : Int32) (m : pMem) : gO :=
  cbR (sX9_isPact a1 m) fun r1 =>
  if r1 = 0 then
    sX9_since_b16  m
  else
    cbR (sX9_isLand a2 m) fun r4 =>
    if ¬ r4 = 0 then
      if oob a1 12 then none else
      bnd (m.1 83 a1.toNatClampNeg) fun x8 =>
      sX9_since_l26  5000 a1 a2 x8 m
    else
      sX9_since_b16  m
def sX9_thing_b25 (m : pMem) : gO :=
  some ((-3), m)
def sX9_thing_b83 (l3 : Int32) (t0 : Int32) (t1 : Int32) (m : pMem) : gO :=
  if oob t1 8 then none else
  bnd (st1 m 100 t1.toNatClampNeg t0) fun m17 =>
  if oob (m17.1 9 51) 8 then none else
  bnd (st1 m17 101 ((m17.1 9 51).toNatClampNeg) l3) fun m19 =>
  bnd (st1 m19 9 51 ((m19.1 9 51) + (1 : Int32))) fun m20 =>
  some ((m20.1 9 51) - (1 : Int32), m20)
def sX9_thing_b43 (l1 : Int32) (l2 : Int32) (l3 : Int32) (m : pMem) : gO :=
  if ¬ (m.1 9 51) = 8 then
    if oob (m.1 9 51) 8 then none else
    bnd (st1 m 99 ((m.1 9 51).toNatClampNeg) l1) fun m14 =>
    if ¬ l1 = 1 then
      sX9_thing_b83  l3 1 (m14.1 9 51) m14
    else
      sX9_thing_b83  l3 l2 (m14.1 9 51) m14
  else
    some ((-5), m)
def sX9_thing_b28 (l1 : Int32) (l2 : Int32) (l3 : Int32) (m : pMem) : gO :=
  if ¬ l1 = 0 then
    sX9_thing_b43  l1 l2 l3 m
  else
    cbR (sX9_isGround l3 m) fun r9 =>
    if ¬ r9 = 0 then
      sX9_thing_b43  l1 l2 l3 m
    else
      some ((-2), m)
def sX9_thing (a1 : Int32) (a2 : Int32) (a3 : Int32) (m : pMem) : gO :=
  cbR (sX9_in a1 0 2 m) fun r1 =>
  if r1 = 0 then
    sX9_thing_b25  m
  else
    if ¬ a1 = 1 then
      sX9_thing_b28  a1 a2 a3 m
    else
      cbR (sX9_in a2 1 9999 m) fun r5 =>
      if ¬ r5 = 0 then
        sX9_thing_b28  a1 a2 a3 m
      else
        sX9_thing_b25  m
def sX9_voice_b15 (m : pMem) : gO :=
  some ((-2), m)
def sX9_voice (a1 : Int32) (a2 : Int32) (a3 : Int32) (a4 : Int32) (m : pMem) : gO :=
  cbR (sX9_isThird a1 m) fun r1 =>
  if r1 = 0 then
    sX9_voice_b15  m
  else
    cbR (sX9_isLand a2 m) fun r4 =>
    if ¬ r4 = 0 then
      cbR (sX9_isDay a4 m) fun r7 =>
      if ¬ r7 = 0 then
        if ¬ (m.1 9 39) = 24 then
          if oob (m.1 9 39) 24 then none else
          bnd (st1 m 89 ((m.1 9 39).toNatClampNeg) a1) fun m12 =>
          if oob (m12.1 9 39) 24 then none else
          bnd (st1 m12 90 ((m12.1 9 39).toNatClampNeg) a2) fun m14 =>
          if oob (m14.1 9 39) 24 then none else
          bnd (st1 m14 91 ((m14.1 9 39).toNatClampNeg) a4) fun m16 =>
          if oob (m16.1 9 39) 24 then none else
          bnd (st1 m16 92 ((m16.1 9 39).toNatClampNeg) (vp_nar .boolean a3)) fun m18 =>
          bnd (st1 m18 9 39 ((m18.1 9 39) + (1 : Int32))) fun m19 =>
          some (m19.1 9 39, m19)
        else
          some ((-5), m)
      else
        some ((-3), m)
    else
      sX9_voice_b15  m
def sX9_whose_b38 (t0 : Int32) (m : pMem) : (Option Int32) :=
  some t0
def sX9_whose (a1 : Int32) (a2 : Int32) (m : pMem) : (Option Int32) :=
  cbR (sX9_isGround a1 m) fun r1 =>
  if ¬ r1 = 0 then
    cbR (sX9_isDay a2 m) fun r4 =>
    if r4 = 0 then
      sX9_whose_b38  (-3) m
    else
      cbR (sX9_doneBy a2 m) fun r7 =>
      if oob (((8 : Int32) * r7) + a1) 104 then none else
      sX9_whose_b38  (m.1 74 ((((8 : Int32) * r7) + a1).toNatClampNeg)) m
  else
    some (-2 : Int32)
def sX9_without_b16 (m : pMem) : gO :=
  some ((-2), m)
def sX9_without_b126 (k55 : Int32 → Int32 → Int32 → Int32 → Int32 → Int32 → Int32 → pMem → gO) (l1 : Int32) (l2 : Int32) (l3 : Int32) (l4 : Int32) (l5 : Int32) (l6 : Int32) (l7 : Int32) (m : pMem) : gO :=
  k55 l1 l2 l3 l4 l5 l6 (l7 + 1) m
def sX9_without_b124 (k55 : Int32 → Int32 → Int32 → Int32 → Int32 → Int32 → Int32 → pMem → gO) (l1 : Int32) (l2 : Int32) (l3 : Int32) (l4 : Int32) (l6 : Int32) (l7 : Int32) (t0 : Int32) (m : pMem) : gO :=
  sX9_without_b126 k55 l1 l2 l3 l4 t0 l6 l7 m
def sX9_without_b108 (k55 : Int32 → Int32 → Int32 → Int32 → Int32 → Int32 → Int32 → pMem → gO) (l1 : Int32) (l2 : Int32) (l3 : Int32) (l4 : Int32) (l5 : Int32) (l6 : Int32) (l7 : Int32) (t0 : Int32) (m : pMem) : gO :=
  if ¬ t0 = l4 then
    sX9_without_b124 k55 l1 l2 l3 l4 l6 l7 l5 m
  else
    sX9_without_b124 k55 l1 l2 l3 l4 l6 l7 l7 m
def sX9_without_b83 (k55 : Int32 → Int32 → Int32 → Int32 → Int32 → Int32 → Int32 → pMem → gO) (l1 : Int32) (l2 : Int32) (l3 : Int32) (l4 : Int32) (l5 : Int32) (l6 : Int32) (l7 : Int32) (m : pMem) : gO :=
  bnd (st1 m 9 38 l7) fun m20 =>
  cbE (sX9_boundOf l1 l3 m20) fun r21 m23 =>
  if ¬ ((r21 >>> (l2 &&& 31)) &&& (1 : Int32)) = 1 then
    sX9_without_b108 k55 l1 l2 l3 l4 l5 l6 l7 0 m23
  else
    sX9_without_b108 k55 l1 l2 l3 l4 l5 l6 l7 1 m23
def sX9_without_b55 (k55 : Int32 → Int32 → Int32 → Int32 → Int32 → Int32 → Int32 → pMem → gO) (l1 : Int32) (l2 : Int32) (l3 : Int32) (l4 : Int32) (l5 : Int32) (l6 : Int32) (l7 : Int32) (m : pMem) : gO :=
  if ((1 : Int32) <<< (l6 &&& 31)) ≤ l7 then
    bnd (st1 m 9 38 0) fun m13 =>
    some (l5, m13)
  else
    if l5 = (-1) then
      sX9_without_b83 k55 l1 l2 l3 l4 l5 l6 l7 m
    else
      cbR (sX9_bits l7 m) fun r15 =>
      cbR (sX9_bits l5 m) fun r17 =>
      if r17 ≤ r15 then
        sX9_without_b126 k55 l1 l2 l3 l4 l5 l6 l7 m
      else
        sX9_without_b83 k55 l1 l2 l3 l4 l5 l6 l7 m
def sX9_without_l55 (n : Nat) : Int32 → Int32 → Int32 → Int32 → Int32 → Int32 → Int32 → pMem → gO := fixN (fun _ _ _ _ _ _ _ _ => none) (sX9_without_b55) n
def sX9_without_b50 (l1 : Int32) (l2 : Int32) (l3 : Int32) (l4 : Int32) (l5 : Int32) (t0 : Int32) (m : pMem) : gO :=
  sX9_without_l55  5000 l1 l2 l3 l4 l5 t0 0 m
def sX9_without (a1 : Int32) (a2 : Int32) (a3 : Int32) (a4 : Int32) (m : pMem) : gO :=
  cbR (sX9_isPact a1 m) fun r1 =>
  if r1 = 0 then
    sX9_without_b16  m
  else
    cbR (sX9_isLand a2 m) fun r4 =>
    if ¬ r4 = 0 then
      cbR (sX9_isDay a3 m) fun r7 =>
      if ¬ r7 = 0 then
        bnd ((-1)) fun x10 =>
        if (10 : Int32) ≤ (m.1 9 32) then
          sX9_without_b50  a1 a2 a3 a4 x10 10 m
        else
          sX9_without_b50  a1 a2 a3 a4 x10 (m.1 9 32) m
      else
        some ((-3), m)
    else
      sX9_without_b16  m
def sX9_word_b16 (m : pMem) : gO :=
  some ((-2), m)
def sX9_word (a1 : Int32) (a2 : Int32) (a3 : Int32) (a4 : Int32) (a5 : Int32) (m : pMem) : gO :=
  cbR (sX9_isPact a1 m) fun r1 =>
  if r1 = 0 then
    sX9_word_b16  m
  else
    cbR (sX9_isLand a2 m) fun r4 =>
    if ¬ r4 = 0 then
      cbR (sX9_isDay a5 m) fun r7 =>
      if ¬ r7 = 0 then
        if ¬ (m.1 9 32) = 24 then
          if oob (m.1 9 32) 24 then none else
          bnd (st1 m 84 ((m.1 9 32).toNatClampNeg) a1) fun m12 =>
          if oob (m12.1 9 32) 24 then none else
          bnd (st1 m12 85 ((m12.1 9 32).toNatClampNeg) a2) fun m14 =>
          if oob (m14.1 9 32) 24 then none else
          bnd (st1 m14 86 ((m14.1 9 32).toNatClampNeg) a5) fun m16 =>
          if oob (m16.1 9 32) 24 then none else
          bnd (st1 m16 87 ((m16.1 9 32).toNatClampNeg) (vp_nar .boolean a3)) fun m18 =>
          if oob (m18.1 9 32) 24 then none else
          bnd (st1 m18 88 ((m18.1 9 32).toNatClampNeg) (vp_nar .boolean a4)) fun m20 =>
          bnd (st1 m20 9 32 ((m20.1 9 32) + (1 : Int32))) fun m21 =>
          some (m21.1 9 32, m21)
        else
          some ((-5), m)
      else
        some ((-3), m)
    else
      sX9_word_b16  m
def sX9_write_b31 (k31 : Int64 → Int32 → Int32 → pMem → gO) (l1 : Int64) (l3 : Int32) (l4 : Int32) (m : pMem) : gO :=
  if l3 ≤ l4 then
    bnd (st1 m 9 15 ((m.1 9 15) + l3)) fun m6 =>
    some (m6.1 9 15, m6)
  else
    if oob ((m.1 9 15) + l4) 160 then none else
    bnd (st1 m 76 (((m.1 9 15) + l4).toNatClampNeg) (((l1 >>> (((8 : Int32) * l4).toInt64 &&& 63)) &&& (255 : Int64)).toInt32)) fun m8 =>
    k31 l1 l3 (l4 + 1) m8
def sX9_write_l31 (n : Nat) : Int64 → Int32 → Int32 → pMem → gO := fixN (fun _ _ _ _ => none) (sX9_write_b31) n
def sX9_write (a1 : Int64) (a2 : Int32) (m : pMem) : gO :=
  cbR (sX9_in a2 1 8 m) fun r1 =>
  if ¬ r1 = 0 then
    if ((m.1 9 15) + a2) ≤ 160 then
      sX9_write_l31  5000 a1 a2 0 m
    else
      some ((-5), m)
  else
    some ((-3), m)
